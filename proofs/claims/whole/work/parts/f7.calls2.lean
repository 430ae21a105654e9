/-! THE REFERENCE: distanceToMate, matingMove, the methods -/
theorem mkM_ok {n : Nat} {P : Ps} (hG : Gd P) (hC : psC n P) (hn : n < 2 ^ 20) {m : Nat} (hm : m ∈ mvs P) : Gd (mkM P m) := Gd_mk hG hC hn (mvs_mvK hm)
theorem r_distanceToMate {mc ms : Nat} {M : zM} {A : Ah} (hR : rRef M A) (hO : aOk A) {kn : Nat → Bool} (hK : eKn M kn) (hmc : uC kn ≤ mc + uC (knA kn A)) (hms : vC kn ≤ ms + vC (knA kn A)) {Q : zQt} (hq : ∀ N, rKx M N → eKn N (knA kn A) → N.1 55 0 = nI (dmA A).1 → Q (some (.int (dmA A).2)) N) : wX13_distanceToMate mc ms [.ref 55] M Q := by
  have hW := hR.1
  refine ⟨⟨Nat.le_of_ble_eq_true rfl, rfl⟩, fun X l0 l13 => ?_⟩
  have h7 := hR.2.2.2.1
  have h13 : ∀ (t : Nat), t ≤ 1 → (t = 0 ↔ aTh A = true) → X 13 0 0 [.ref 55] [.int (nI t), .ref 55] M := by
    intro t t1 ht
    refine l13 _ _ _ _ _ ⟨rfl, vX13_distanceToMate_13 hW (fun N e => ?_)⟩
    have n0 : N.1 55 0 = nI t := by rw [e, zsI_s]
    have kx : rKx M N := by rw [e]; exact rKx.slot hW (by omega)
    have RN := kx.ref hR
    have KN : eKn N kn := hK.fr (C := [55]) hW (by rw [e]; exact xFr.of (L := [55]) (zSm.I (by decide)) (fun b hb => hb) hW) (by decide)
    rw [n0]
    by_cases th : aTh A = true
    · have t0 : t = 0 := ht.mpr th
      subst t0
      have ed : dmA A = (0, dsV (lst (aG A))) := by unfold dmA; rw [if_pos th]
      have ek : knA kn A = knE kn (lst (aG A)) := by unfold knA; rw [if_pos th]
      rw [ed, ek] at hq
      rw [ek] at hmc hms
      refine ⟨fun _ => ?_, fun c => absurd (by decide) c⟩
      refine r_show RN hO th (fun N2 s2 h2 => ?_)
      have W2 := s2.fix RN.1
      have K2 : eKn N2 kn := KN.fr (C := [65, 66, 67]) RN.1 (xFr.of s2 (fun b hb => hb) RN.1) (by decide)
      have gok := (hO.2.2.1 th).last
      refine ⟨Nat.le_of_ble_eq_true rfl, rfl, fxs_55 W2, mc, ms, by omega, by omega, ?_⟩
      refine e_distance (y := 0) W2 K2 h2.1 (by omega) (kPl_Gd gok.1) hmc hms (fun K v hF hE hd => ?_)
      rw [dsV_of hd]
      refine uvkX13_distanceToMate_34 (by omega) (by omega) hF.1 ?_
      have k2 : rKx N N2 := rKx.of s2 (fun b hb => hb) RN.1
      have k3 : rKx N2 K := rKx.e hF W2
      refine hq K (kx.tr (k2.tr k3)) hE ?_
      rw [hF.i W2 (by decide) (by omega), s2.i (by decide)]
      exact n0
    · have t0 : t = 1 := by
        have : ¬ t = 0 := fun e => th (ht.mp e)
        omega
      subst t0
      have ed : dmA A = (1, 0) := by unfold dmA; rw [if_neg th]
      have ek : knA kn A = kn := by unfold knA; rw [if_neg th]
      rw [ed, ek] at hq
      exact ⟨fun c => absurd c (by decide), fun _ => hq N kx KN n0⟩
  refine l0 _ _ _ _ _ ⟨rfl, vX13_distanceToMate_0 hW ⟨fun z => ?_, fun z => ?_⟩⟩
  · rw [h7] at z
    exact h13 1 (by omega) ⟨fun e => absurd e (by decide), fun e => by rw [bI_0.mp z] at e; exact absurd e (by decide)⟩
  · rw [h7] at z
    exact h13 0 (by omega) ⟨fun _ => bI_n.mp z, fun _ => rfl⟩
theorem findIdx_no {α : Type} {f : α → Bool} {L : List α} (h : ∀ (i : Nat) (x : α), L[i]? = some x → f x = false) : L.findIdx? f = none := by
  rw [List.findIdx?_eq_none_iff]
  intro x hx
  obtain ⟨i, e⟩ := List.mem_iff_getElem?.mp hx
  simpa using h i x e
theorem findIdx_at {α : Type} {f : α → Bool} : ∀ {L : List α} {k : Nat} {x : α}, L[k]? = some x → f x = true → (∀ (i : Nat) (y : α), i < k → L[i]? = some y → f y = false) → L.findIdx? f = some k
  | [], k, x, h, _, _ => by simp at h
  | y :: L, 0, x, h, hf, _ => by
    simp at h
    subst h
    rw [List.findIdx?_cons, hf]
    rfl
  | y :: L, k + 1, x, h, hf, hn => by
    have h0 := hn 0 y (by omega) rfl
    have ih := findIdx_at (L := L) (k := k) (x := x) (by simpa using h) hf (fun i z hi hz => hn (i + 1) z (by omega) (by simpa using hz))
    rw [List.findIdx?_cons, h0, ih]
    rfl
set_option maxHeartbeats 4000000 in
theorem r_matingMove {mc ms : Nat} {M : zM} {A : Ah} (hR : rRef M A) (hO : aOk A) {kn : Nat → Bool} (hK : eKn M kn) (hmc : uC kn ≤ mc + uC (knA kn A)) (hms : vC kn ≤ ms + vC (knA kn A)) {Q : zQt} (hq : ∀ N, rKx M N → eKn N (knA kn A) → N.1 55 0 = nI (mmA A).1 → Q (some (.int (mmA A).2)) N) : wX13_matingMove mc ms [.ref 55] M Q := by
  have hW := hR.1
  refine ⟨⟨Nat.le_of_ble_eq_true rfl, rfl⟩, fun X l0 l13 l37 l81 => ?_⟩
  have h7 := hR.2.2.2.1
  have h13 : ∀ (t : Nat), t ≤ 1 → (t = 0 ↔ aTh A = true) → X 13 0 0 [.ref 55] [.int (nI t), .ref 55] M := by
    intro t t1 ht
    refine l13 _ _ _ _ _ ⟨rfl, vX13_matingMove_13 hW (fun N e => ?_)⟩
    have n0 : N.1 55 0 = nI t := by rw [e, zsI_s]
    have kx : rKx M N := by rw [e]; exact rKx.slot hW (by omega)
    have RN := kx.ref hR
    have KN : eKn N kn := hK.fr (C := [55]) hW (by rw [e]; exact xFr.of (L := [55]) (zSm.I (by decide)) (fun b hb => hb) hW) (by decide)
    rw [n0]
    by_cases th : aTh A = true
    · have t0 : t = 0 := ht.mpr th
      subst t0
      obtain ⟨P, eP⟩ : ∃ P, P = lst (aG A) := ⟨_, rfl⟩
      have ed : mmA A = (0, mmV P) := by unfold mmA; rw [if_pos th, eP]
      have ek : knA kn A = knE kn P := by unfold knA; rw [if_pos th, eP]
      rw [ed, ek] at hq
      rw [ek] at hmc hms
      refine ⟨fun _ => ?_, fun c => absurd (by decide) c⟩
      refine r_show RN hO th (fun N2 s2 h2 => ?_)
      rw [← eP] at h2
      have W2 := s2.fix RN.1
      have K2 : eKn N2 kn := KN.fr (C := [65, 66, 67]) RN.1 (xFr.of s2 (fun b hb => hb) RN.1) (by decide)
      have gok := (hO.2.2.1 th).last
      have gfit := (hO.2.2.1 th).fit
      have p601 := (hO.2.2.1 th).2.1
      rw [← eP] at gok gfit
      refine ⟨Nat.le_of_ble_eq_true rfl, rfl, fxs_55 W2, mc, ms, by omega, by omega, ?_⟩
      refine e_distance (y := 0) W2 K2 h2.1 (by omega) (kPl_Gd gok.1) hmc hms (fun K v hF hE hd => ?_)
      rw [dsV_of hd]
      refine uvkX13_matingMove_34 (by omega) (by omega) hF.1 ?_
      have k2 : rKx N N2 := rKx.of s2 (fun b hb => hb) RN.1
      have k3 : rKx N2 K := rKx.e hF W2
      have k0 : K.1 55 0 = nI 0 := by
        rw [hF.i W2 (by decide) (by omega), s2.i (by decide)]
        exact n0
      have kM : rKx M K := kx.tr (k2.tr k3)
      have hB : rPs K 0 P ∧ (∀ i v, (mvs P)[i]? = some v → K.1 66 i = nI v) ∧ K.1 67 0 = nI (mvs P).length := by
        refine ⟨?_, ?_, ?_⟩
        · unfold rPs rBd
          rw [hF.i W2 (by decide) (by omega)]
          exact h2.1
        · rw [hF.i W2 (by decide) (by omega)]
          exact h2.2.1
        · rw [hF.i W2 (by decide) (by omega)]
          exact h2.2.2
      have len := gfit.2.2
      -- the loop
      have out : ∀ (K2 : zM), rKx M K2 → eKn K2 (knE kn P) → K2.1 55 0 = nI 0 → mmV P = -1 → X 81 (0 + mc) (0 + ms) [] [] K2 := fun K2 a b c d => l81 _ _ _ _ _ ⟨rfl, uvX13_matingMove_81 (by omega) (by omega) a.1.1 (by rw [d] at hq; exact hq K2 a b c)⟩
      by_cases dp : dsV P ≤ 0
      · have mm : mmV P = -1 := by unfold mmV; rw [if_pos dp]
        refine l37 _ _ _ _ _ ⟨rfl, uvX13_matingMove_37 (by omega) (by omega) hF.1 ⟨fun _ => out K kM hE k0 mm, fun _ => ⟨fun _ => out K kM hE k0 mm, fun c => absurd dp c⟩⟩⟩
      · have nz : eKd P ≠ 0 := fun e => dp (by rw [dsV_n e gok.1]; decide)
        have loop : ∀ (n i : Nat) (K2 : zM), i + n = (mvs P).length → rKx M K2 → eKn K2 (knE kn P) → K2.1 55 0 = nI 0 → (rPs K2 0 P ∧ (∀ i v, (mvs P)[i]? = some v → K2.1 66 i = nI v) ∧ K2.1 67 0 = nI (mvs P).length) → (∀ j m, j < i → (mvs P)[j]? = some m → decide (dsV (mkM P m) = dsV P - 1) = false) → X 37 (0 + mc) (0 + ms) [.ref 55, .int (dsV P), .int (nI i)] [] K2 := by
          intro n
          induction n with
          | zero =>
            intro i K2 hi a b c hB hn
            have mm : mmV P = -1 := by
              unfold mmV
              rw [if_neg dp, findIdx_no (fun j x hx => hn j x (by
                have := (List.getElem?_eq_some_iff.mp hx).1
                omega) hx)]
            refine l37 _ _ _ _ _ ⟨rfl, uvX13_matingMove_37 (by omega) (by omega) a.1.1 ⟨fun _ => out K2 a b c mm, fun z => absurd ?_ z⟩⟩
            show K2.1 67 0 ≤ nI i
            rw [hB.2.2]
            exact (nI_leI (by omega) (by omega)).mpr (by omega)
          | succ n ih =>
            intro i K2 hi a b c hB hn
            have WK := a.1.1
            obtain ⟨m, em⟩ : ∃ m, (mvs P)[i]? = some m := ⟨(mvs P)[i]'(by omega), List.getElem?_eq_getElem (by omega)⟩
            have mem : m ∈ mvs P := List.mem_iff_getElem?.mpr ⟨i, em⟩
            have mk := mvs_mvK mem
            have gm := mkM_ok gok.1 gok.2 (by omega) mem
            refine l37 _ _ _ _ _ ⟨rfl, uvX13_matingMove_37 (by omega) (by omega) WK ⟨fun z => ?_, fun _ => ⟨fun z => absurd z dp, fun _ => ?_⟩⟩⟩
            · have z : K2.1 67 0 ≤ nI i := z
              rw [hB.2.2] at z
              exact absurd ((nI_leI (by omega) (by omega)).mp z) (by omega)
            · rw [nI_clamp (by omega), hB.2.1 i m em]
              refine ⟨vp_in_nI (by omega) (by omega), ?_⟩
              have em2 : m = m % 64 + 64 * (m / 64 % 64) + 4096 * (m / 4096) := by omega
              have call := c_make (mc := 0) (ms := 0) WK (p := 0) hB.1 (by omega) mk.1 mk.2.1 (pr := m / 4096) (by rcases mk.2.2.2 with w | w <;> omega) (fun h => cas_home hB.1.2.1.2 mk.2.2.1.1 h) gfit.1 gfit.2.1 (Q := fun r M1 => kX13_matingMove_62 mc ms X Q (0 + mc) (0 + ms) [some (.ref 55), some (.int (dsV P)), some (.int (nI i))] (r.toList ++ []) M1) (fun K3 f s3 h3 => ?_)
              · rw [← em2] at call
                exact call
              · have W3 := s3.1.fix WK
                have E3 : eKn K3 (knE kn P) := b.fr (C := [65]) WK (xFr.of s3.1 (fun b hb => hb) WK) (by decide)
                have a3 : rKx M K3 := a.tr (rKx.of s3.1 (by decide) WK)
                have kk : knE (knE kn P) (mkM P m) = knE kn P := knE_mk gok.1 mem gm.1 nz kn
                refine uvkX13_matingMove_62 (by omega) (by omega) W3 ?_
                refine e_distance (y := 1) W3 E3 (P := mkM P m) h3 (by omega) (kPl_Gd gm) (by rw [kk]; omega) (by rw [kk]; omega) (fun K4 v hF4 hE4 hd4 => ?_)
                rw [dsV_of hd4]
                rw [kk] at hE4
                have a4 : rKx M K4 := a3.tr (rKx.e hF4 W3)
                have c4 : K4.1 55 0 = nI 0 := by
                  rw [hF4.i W3 (by decide) (by omega), s3.1.i (by decide)]
                  exact c
                refine uvkX13_matingMove_67 (by omega) (by omega) hF4.1 ⟨fun z => ?_, fun z => ?_⟩
                · have mm : mmV P = nI i := by
                    unfold mmV
                    rw [if_neg dp, findIdx_at em (decide_eq_true z) hn]
                  rw [mm] at hq
                  exact hq K4 a4 hE4 c4
                · rw [show nI i + (1 : Int32) = nI (i + 1) from nI_add _ 1]
                  refine ih (i + 1) K4 (by omega) a4 hE4 c4 ⟨?_, ?_, ?_⟩ (fun j x hj hx => ?_)
                  · have h65 : ∀ i, i < 69 → K4.1 65 i = K2.1 65 i := fun i hi => by
                      rw [hF4.i W3 (by decide) (by omega), s3.2 i, if_neg (by omega)]
                    obtain ⟨q0, q1, q2, q3, q4, q5⟩ := hB.1
                    unfold rPs rBd at *
                    refine ⟨fun s hs => by rw [h65 _ (by omega)]; exact q0 s hs, ?_, ?_, ?_, ?_, ?_⟩
                    · rw [h65 _ (by omega)]; exact q1
                    · rw [h65 _ (by omega)]; exact q2
                    · rw [h65 _ (by omega)]; exact q3
                    · rw [h65 _ (by omega)]; exact q4
                    · rw [h65 _ (by omega)]; exact q5
                  · rw [hF4.i W3 (by decide) (by omega), s3.1.i (by decide)]
                    exact hB.2.1
                  · rw [hF4.i W3 (by decide) (by omega), s3.1.i (by decide)]
                    exact hB.2.2
                  · by_cases ej : j = i
                    · rw [ej, em] at hx
                      rw [← Option.some.inj hx]
                      exact decide_eq_false z
                    · exact hn j x (by omega) hx
        exact loop (mvs P).length 0 K (by omega) kM hE k0 hB (fun j m hj => absurd hj (by omega))
    · have t0 : t = 1 := by
        have : ¬ t = 0 := fun e => th (ht.mp e)
        omega
      subst t0
      have ed : mmA A = (1, 0) := by unfold mmA; rw [if_neg th]
      have ek : knA kn A = kn := by unfold knA; rw [if_neg th]
      rw [ed, ek] at hq
      exact ⟨fun c => absurd c (by decide), fun _ => hq N kx KN n0⟩
  refine l0 _ _ _ _ _ ⟨rfl, vX13_matingMove_0 hW ⟨fun z => ?_, fun z => ?_⟩⟩
  · rw [h7] at z
    exact h13 1 (by omega) ⟨fun e => absurd e (by decide), fun e => by rw [bI_0.mp z] at e; exact absurd e (by decide)⟩
  · rw [h7] at z
    exact h13 0 (by omega) ⟨fun _ => bI_n.mp z, fun _ => rfl⟩
