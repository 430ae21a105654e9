/-! THE REFERENCE'S smaller calls -/
def rKp (M N : zM) : Prop := zSm [55, 65, 66, 67, 68, 69, 70] M N ∧ ∀ j, 2 ≤ j → j ≤ 7 → N.1 55 j = M.1 55 j
theorem rKp.rf {M : zM} : rKp M M := ⟨zSm.rf, fun _ _ _ => rfl⟩
theorem rKp.tr {M N K : zM} (h : rKp M N) (h2 : rKp N K) : rKp M K := ⟨h.1.tr h2.1, fun j a b => (h2.2 j a b).trans (h.2 j a b)⟩
theorem rKp.of {L : List Nat} {M N : zM} (h : zSm L M N) (hL : ∀ b ∈ L, b ∈ [65, 66, 67, 68, 69, 70]) : rKp M N := ⟨h.mono (fun b hb => List.mem_cons_of_mem _ (hL b hb)), fun j _ _ => by rw [h.i (fun q => absurd (hL 55 q) (by decide))]⟩
theorem rKp.slot {M : zM} {j : Nat} {v : Int32} (hj : j < 2 ∨ 7 < j) : rKp M (zsI M 55 j v) := ⟨zSm.I (by decide), fun i a b => zsI_n (by omega)⟩
theorem sgF.kp {M N : zM} (h : sgF M N) : rKp M N := ⟨h.1.mono (by decide), fun j a b => h.2.1 j (by omega)⟩
theorem rKp.cs {M N : zM} (h : rKp M N) : zSm rCs M N := h.1.mono (by decide)
theorem rKp.ref {M N : zM} (h : rKp M N) {A : Ah} (hR : rRef M A) : rRef N A := by
  obtain ⟨hW, hn, hT, h7, h3, h4, h5, g, hg1, hg, hG⟩ := hR
  refine ⟨h.1.fix hW, by rw [h.2 2 (by decide) (by decide)]; exact hn, fun i hi => by rw [h.1.i (by decide)]; exact hT i hi, by rw [h.2 7 (by decide) (by decide)]; exact h7, by rw [h.2 3 (by decide) (by decide)]; exact h3, by rw [h.2 4 (by decide) (by decide)]; exact h4, by rw [h.2 5 (by decide) (by decide)]; exact h5, g, hg1, by rw [h.2 6 (by decide) (by decide)]; exact hg, fun t => rGm_sm h.1 (fun b b1 b2 w => by
    simp only [List.mem_cons, List.mem_nil_iff, or_false] at w
    omega) (hG t)⟩
abbrev i32 (z : Int) : Prop := -2147483648 ≤ z ∧ z < 2147483648
theorem iz_lt {z : Int} (hz : i32 z) {n : Nat} (hn : n < 2 ^ 31) : iI z < nI n ↔ z < n := by
  rw [iI_nat]; exact iI_lt hz.1 hz.2 (by omega) (by omega)
theorem iz_le {z : Int} (hz : i32 z) {n : Nat} (hn : n < 2 ^ 31) : iI z ≤ nI n ↔ z ≤ n := by
  rw [iI_nat]; exact iI_le hz.1 hz.2 (by omega) (by omega)
theorem iz_ge {z : Int} (hz : i32 z) {n : Nat} (hn : n < 2 ^ 31) : nI n ≤ iI z ↔ (n : Int) ≤ z := by
  rw [iI_nat]; exact iI_le (by omega) (by omega) hz.1 hz.2
theorem iz_eq {z : Int} (hz : i32 z) {n : Nat} (hn : n < 2 ^ 31) : iI z = nI n ↔ z = n := by
  rw [iI_nat]; exact iI_eq hz.1 hz.2 (by omega) (by omega)
theorem iz_nat {z : Int} (h : 0 ≤ z) : iI z = nI z.toNat := by
  rw [iI_nat, show ((z.toNat : Nat) : Int) = z by omega]
/-- the game that stands, in the reference's rows -/
theorem rRef.game {M : zM} {A : Ah} (hR : rRef M A) (hO : aOk A) (ht : aTh A = true) : ∃ g, g ≤ 1 ∧ M.1 55 6 = nI g ∧ rGm M g (aG A).1 (aG A).2.1 (aG A).2.2 ∧ gmOk (aG A) := by
  obtain ⟨hW, hn, hT, h7, h3, h4, h5, g, hg1, hg, hG⟩ := hR
  exact ⟨g, hg1, hg, hG ht, hO.2.2.1 ht⟩
theorem r_show {mc ms : Nat} {M : zM} {A : Ah} (hR : rRef M A) (hO : aOk A) (ht : aTh A = true) {Q : zQt} (hq : ∀ N, zSm [65, 66, 67] M N → rSh N (lst (aG A)) → Q none N) : wX13_show mc ms [.ref 55] M Q := by
  obtain ⟨g, hg1, hg, hG, hok⟩ := hR.game hO ht
  have p1 := hok.1
  have p2 := hok.2.1
  obtain ⟨⟨w1, -⟩, w2, w3⟩ := hG.2 ((aG A).1 - 1) (by omega)
  exact c_show hR.1 hg hg1 (n := (aG A).1 - 1) (by rw [show (aG A).1 - 1 + 1 = (aG A).1 by omega]; exact hG.1) (by omega) w1 w2 w3 hq
noncomputable def mvAt (G : Gm) (z : Int) : Nat := (mvs (lst G)).getD z.toNat 0
theorem mvAt_mem {G : Gm} {z : Int} (h0 : 0 ≤ z) (h1 : z < (mvs (lst G)).length) : mvAt G z ∈ mvs (lst G) ∧ (mvs (lst G))[z.toNat]? = some (mvAt G z) := by
  have hl : z.toNat < (mvs (lst G)).length := by omega
  unfold mvAt
  rw [List.getD_eq_getElem?_getD, List.getElem?_eq_getElem hl]
  exact ⟨List.getElem_mem hl, rfl⟩
abbrev aSet (A : Ah) (G : Gm) : Ah := (A.1, A.2.1, A.2.2.1, G, A.2.2.2.2)
noncomputable def proA (A : Ah) (z : Int) : Nat × Nat × Ah := if aTh A = false ∨ ended (vdG (aG A)) ∨ (aG A).1 = 601 then (1, 0, A) else if z < 0 ∨ (mvs (lst (aG A))).length ≤ z then (2, 0, A) else (0, vdG (gmN (aG A) (mvAt (aG A) z)), aSet A (gmN (aG A) (mvAt (aG A) z)))
set_option maxHeartbeats 4000000 in
theorem r_proceed {mc ms : Nat} {M : zM} {A : Ah} (hR : rRef M A) (hO : aOk A) {z : Int} (hz : i32 z) {Q : zQt} (hq : ∀ N, zSm rCs M N → N.1 55 0 = nI (proA A z).1 → rRef N (proA A z).2.2 → Q (some (.int (nI (proA A z).2.1))) N) : wX13_proceed mc ms [.ref 55, .int (iI z)] M Q := by
  have hW := hR.1
  have h7 := hR.2.2.2.1
  refine ⟨⟨Nat.le_of_ble_eq_true rfl, rfl⟩, fun X l0 l30 l35 l66 l71 => ?_⟩
  have f30 : (aTh A = false ∨ ended (vdG (aG A)) ∨ (aG A).1 = 601) → X 30 0 0 [.ref 55, .int (iI z)] [.ref 55] M := by
    intro h
    have hv : proA A z = (1, 0, A) := by unfold proA; rw [if_pos h]
    rw [hv] at hq
    refine l30 _ _ _ _ _ ⟨rfl, vX13_proceed_30 hW (l35 _ _ _ _ _ ⟨rfl, vX13_proceed_35 hW (fun N e => ?_)⟩)⟩
    have n0 : N.1 55 0 = 1 := by rw [e, zsI_s]
    have k : rKp M N := by rw [e]; exact rKp.slot (by omega)
    rw [n0]
    exact ⟨fun d => absurd d (by decide), fun _ => hq N k.cs n0 (k.ref hR)⟩
  refine l0 _ _ _ _ _ ⟨rfl, vX13_proceed_0 hW ?_⟩
  rw [h7]
  refine ⟨fun d => f30 (Or.inl (bI_0.mp d)), fun d => ?_⟩
  have ht := bI_n.mp d
  obtain ⟨g, hg1, hg, hG, hok⟩ := hR.game hO ht
  have p1 := hok.1
  have p2 := hok.2.1
  have hl := (hG.2 ((aG A).1 - 1) (by omega)).1
  have hm' : M.1 58 g = nI ((aG A).1 - 1 + 1) := by rw [show (aG A).1 - 1 + 1 = (aG A).1 by omega]; exact hG.1
  have e6 := nI_eq (a := (aG A).1) (b := 601) (by omega) (by decide)
  refine c_hasEnded hW hg hg1 hm' (by omega) hl.2.2.2.2.2.2 (vdt_lt _ _) (fun h => ?_) (fun h => ?_)
  · exact vkX13_proceed_12 hW ⟨fun q => absurd q (by decide), fun _ => f30 (Or.inr (Or.inl h))⟩
  · refine vkX13_proceed_12 hW ⟨fun _ => ?_, fun q => absurd rfl q⟩
    rw [hg, nI_clamp (by omega), hG.1]
    refine ⟨vp_in_nI (by omega) (by omega), fun q => f30 (Or.inr (Or.inr (e6.mp q))), fun q => ?_⟩
    have hn : ¬ (aTh A = false ∨ ended (vdG (aG A)) ∨ (aG A).1 = 601) := by
      rintro (w | w | w)
      · rw [ht] at w; exact absurd w (by decide)
      · exact h w
      · exact q (e6.mpr w)
    have hlt : (aG A).1 < 601 := by omega
    refine l35 _ _ _ _ _ ⟨rfl, vX13_proceed_35 hW (fun N e => ?_)⟩
    have n0 : N.1 55 0 = 0 := by rw [e, zsI_s]
    have k : rKp M N := by rw [e]; exact rKp.slot (by omega)
    have hRN := k.ref hR
    rw [n0]
    refine ⟨fun _ => r_show hRN hO ht (fun K hK hS => ?_), fun w => absurd (by decide) w⟩
    have kK : rKp M K := k.tr (rKp.of hK (by decide))
    have hRK := kK.ref hR
    have hWK := hRK.1
    have hL := hok.fit.2.2
    refine vkX13_proceed_51 hWK ?_
    rw [show K.1 67 (0 : Int32).toNatClampNeg = nI (mvs (lst (aG A))).length from hS.2.2]
    have f66 : (z < 0 ∨ (mvs (lst (aG A))).length ≤ z) → X 66 0 0 [.ref 55, .int (iI z)] [.ref 55] K := by
      intro hx
      have hv : proA A z = (2, 0, A) := by unfold proA; rw [if_neg hn, if_pos hx]
      rw [hv] at hq
      refine l66 _ _ _ _ _ ⟨rfl, vX13_proceed_66 hWK (l71 _ _ _ _ _ ⟨rfl, vX13_proceed_71 hWK (fun N2 e2 => ?_)⟩)⟩
      have n2 : N2.1 55 0 = 2 := by rw [e2, zsI_s]
      have k2 : rKp M N2 := by rw [e2]; exact kK.tr (rKp.slot (by omega))
      rw [n2]
      exact ⟨fun d => absurd d (by decide), fun _ => hq N2 k2.cs n2 (k2.ref hR)⟩
    have ez := iz_lt hz (n := 0) (by omega)
    have el := iz_lt hz (n := (mvs (lst (aG A))).length) (by omega)
    refine ⟨fun w => f66 (Or.inl (ez.mp w)), fun w => ⟨fun y => ?_, fun y => f66 (Or.inr ?_)⟩⟩
    · have z0 : 0 ≤ z := by
        have : ¬ z < 0 := fun q => w (ez.mpr q)
        omega
      have z1 := el.mp y
      have hv : proA A z = (0, vdG (gmN (aG A) (mvAt (aG A) z)), aSet A (gmN (aG A) (mvAt (aG A) z))) := by unfold proA; rw [if_neg hn, if_neg (by omega)]
      rw [hv] at hq
      obtain ⟨hmem, hget⟩ := mvAt_mem z0 z1
      have hval := hS.2.1 _ _ hget
      generalize mvAt (aG A) z = m at hmem hget hval hq
      refine l71 _ _ _ _ _ ⟨rfl, vX13_proceed_71 hWK (fun N2 e2 => ?_)⟩
      have n2 : N2.1 55 0 = 0 := by rw [e2, zsI_s]
      have k2 : rKp M N2 := by rw [e2]; exact kK.tr (rKp.slot (by omega))
      have s2 : zSm [55] K N2 := by rw [e2]; exact zSm.I (by decide)
      have hW2 := s2.fix hWK
      rw [n2]
      refine ⟨fun _ => ?_, fun w => absurd (by decide) w⟩
      rw [iz_nat z0, nI_clamp (by omega), show N2.1 66 z.toNat = nI m by rw [s2.i (by decide)]; exact hval]
      refine ⟨vp_in_nI (by omega) (by omega), ?_⟩
      have hS2 : rSh N2 (lst (aG A)) := rSh_sm s2 (fun b b1 b2 q => by have := List.mem_singleton.mp q; omega) hS
      have hG2 : rGm N2 g (aG A).1 (aG A).2.1 (aG A).2.2 := rGm_sm k2.1 (fun b b1 b2 w => by
        simp only [List.mem_cons, List.mem_nil_iff, or_false] at w
        omega) hG
      have hg2 : N2.1 55 6 = nI g := by rw [k2.2 6 (by decide) (by decide)]; exact hg
      obtain ⟨ha, hb, hk, hlg, em⟩ := mvs_parts hmem
      have hnx := hok.next hlt hmem
      have hl2 : lst (gmN (aG A) m) = mkM (lst (aG A)) m := by
        show updP (aG A).2.1 (aG A).1 (mkM (lst (aG A)) m) ((aG A).1 + 1 - 1) = _
        rw [show (aG A).1 + 1 - 1 = (aG A).1 by omega, updP_s]
      have hpl := c_play (mc := 0) (ms := 0) hW2 hg2 hg1 hlt hG2 hS2.1 hok.fit ha hb hk (fun h => cas_home hS2.1.2.1.2 hlg.1 h) (by
        have := hnx.fit
        rw [hl2] at this
        exact this) (Q := fun r M1 => kX13_proceed_93 mc ms X Q 0 0 [some (.ref 55), some (.int (nI z.toNat))] (r.toList ++ []) M1)
      rw [← em] at hpl
      refine hpl (fun L hF hGL hSL => ?_)
      have hWL := hF.1.fix hW2
      have hgL : L.1 55 6 = nI g := by rw [hF.1.i (by decide)]; exact hg2
      have hGL : rGm L g (gmN (aG A) m).1 (gmN (aG A) m).2.1 (gmN (aG A) m).2.2 := hGL
      refine vkX13_proceed_93 hWL ?_
      have hel := (hGL.2 (aG A).1 (by show (aG A).1 < (aG A).1 + 1; omega)).1.2.2.2.2.2.2
      refine c_verdict hWL hgL hg1 hGL.1 hlt hel (vkX13_proceed_97 hWL ?_)
      refine hq L (k2.cs.tr (hF.1.mono (by decide))) (by rw [hF.1.i (by decide)]; exact n2) ?_
      obtain ⟨_, r2, rT, r7, r3, r4, r5, _⟩ := k2.ref hR
      exact ⟨hWL, by rw [hF.1.i (by decide)]; exact r2, fun i hi => by rw [hF.1.i (by decide)]; exact rT i hi, by rw [hF.1.i (by decide)]; exact r7, by rw [hF.1.i (by decide)]; exact r3, by rw [hF.1.i (by decide)]; exact r4, by rw [hF.1.i (by decide)]; exact r5, g, hg1, hgL, fun _ => hGL⟩
    · have : ¬ z < (mvs (lst (aG A))).length := fun q => y (el.mpr q)
      omega
