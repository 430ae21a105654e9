/-! THE CLASS'S READER: men, side, rights, passing, numbers -/
theorem bSB_27 {M : zM} {g : Nat} {B : Nat → Nat} {v : Int32} {j : Nat} (hg : g = 35 ∨ g = 45) (h : bSB M g B) : bSB (zsI M 27 j v) g B :=
  ⟨bSt.sm (L := [27]) (zSm.I (by simp)) (fun b b1 b2 q => by simp at q; omega) h.1, by rw [zsI_o (by omega)]; exact h.2⟩
theorem bNm.tr {M N K : zM} {g : Nat} (h : bNm M N g) (h2 : bNm N K g) : bNm M K g := fun j hj => (h2 j hj).trans (h j hj)
theorem bNm_27 {M : zM} {g : Nat} {v : Int32} {j : Nat} (hg : g = 35 ∨ g = 45) : bNm M (zsI M 27 j v) g := fun i _ => by rw [zsI_o (by omega)]
/-- the ranks read so far, and those to come -/
def rmI (T : Nat → Nat) (e n p : Nat) (D : Nat → Nat) (R : Option (Nat × (Nat → Nat))) : Prop := (∀ x, rksS T e (n + 1) p = some x → ∃ B, R = some (x.1, B) ∧ ∀ s, s < 64 → B s = if n < s / 8 then D s else x.2 s) ∧ (rksS T e (n + 1) p = none → R = none)
theorem rks_0 {T : Nat → Nat} {e p p2 : Nat} {row : List Nat} (hk : rkS T e 8 0 false p = some (p2, row)) : rksS T e 1 p = some (p2, fun s => row.getD s 0) := by
  rw [rksS, hk]
  rfl
theorem rks_n {T : Nat → Nat} {e n p : Nat} (hk : rkS T e 8 0 false p = none) : rksS T e (n + 1) p = none := by
  rw [rksS, hk]
  rfl
theorem rks_s {T : Nat → Nat} {e n p p2 : Nat} {row : List Nat} (hk : rkS T e 8 0 false p = some (p2, row)) (h : pk T e p2 = 47) : rksS T e (n + 1 + 1) p = (rksS T e (n + 1) (p2 + 1)).map (fun r => (r.1, fun s => if s / 8 = n + 1 then row.getD (s % 8) 0 else r.2 s)) := by
  conv => lhs; rw [rksS, hk]
  show (if n + 1 = 0 then some (p2, fun s => row.getD s 0) else if pk T e p2 = 47 then (rksS T e (n + 1) (p2 + 1)).map (fun r => (r.1, fun s => if s / 8 = n + 1 then row.getD (s % 8) 0 else r.2 s)) else none) = _
  rw [if_neg (by omega), if_pos h]
theorem rks_x {T : Nat → Nat} {e n p p2 : Nat} {row : List Nat} (hk : rkS T e 8 0 false p = some (p2, row)) (h : ¬ pk T e p2 = 47) : rksS T e (n + 1 + 1) p = none := by
  conv => lhs; rw [rksS, hk]
  show (if n + 1 = 0 then some (p2, fun s => row.getD s 0) else if pk T e p2 = 47 then (rksS T e (n + 1) (p2 + 1)).map (fun r => (r.1, fun s => if s / 8 = n + 1 then row.getD (s % 8) 0 else r.2 s)) else none) = _
  rw [if_neg (by omega), if_neg h]
set_option maxHeartbeats 8000000 in
theorem c_readMen {mc ms : Nat} {M : zM} {g : Nat} (hW : zWd M g) {T : Nat → Nat} (hT : ∀ i, T i < 256) {e p0 : Nat} (h0 : cAt M T e p0) (hp0 : p0 < 2 ^ 18) (hB : bSB M g (fun _ => 0)) {Q : zQt}
    (q1 : ∀ p B N, rksS T e 8 p0 = some (p, B) → cRd M N g → bNm M N g → cAt N T e p → p ≤ p0 + 72 → bSB N g B → Q (some (.int 1)) N)
    (q0 : ∀ N, rksS T e 8 p0 = none → cRd M N g → bNm M N g → Q (some (.int 0)) N) : wX6_readMen mc ms [.ref 27, .ref (g + 1)] M Q := by
  refine ⟨⟨Nat.le_of_ble_eq_true rfl, rfl⟩, fun X l0 l3 l46 => ?_⟩
  have hg := hW.2
  obtain ⟨R, eR⟩ : ∃ R, R = rksS T e 8 p0 := ⟨_, rfl⟩
  rw [← eR] at q1 q0
  have loop : ∀ (n p : Nat) (D : Nat → Nat) (N : zM), n < 8 → p + 9 * (n + 1) ≤ p0 + 72 → cRd M N g → bNm M N g → cAt N T e p → bSB N g D → (∀ s, s < 64 → s / 8 ≤ n → D s = 0) → rmI T e n p D R → X 3 0 0 [.ref 27, .ref (g + 1), .int (nI n)] [] N := by
    intro n
    induction n with
    | zero =>
      intro p D N hn hp fr bn aN bD hz hR
      have WN := fr.1.wd hW
      refine l3 _ _ _ _ _ ⟨rfl, vX6_readMen_3 WN ⟨fun w => absurd w (by decide), fun _ => ?_⟩⟩
      rw [show nI 0 * (8 : Int32) = nI (8 * 0) from by decide]
      refine c_readRankC WN hT aN (by omega) bD (r := 0) (by omega) (fun f hf => hz _ (by omega) (by omega)) (fun p2 row K hk frK bnK aK hp2 bK => vkX6_readMen_16 (frK.1.wd WN) ⟨fun w => absurd w (by decide), fun _ => ⟨fun _ => ?_, fun w => absurd (by decide) w⟩⟩) (fun K hk frK bnK => vkX6_readMen_16 (frK.1.wd WN) ⟨fun _ => q0 K (hR.2 (rks_n hk)) (fr.tr frK) (bn.tr bnK), fun w => absurd rfl w⟩)
      have WK := frK.1.wd WN
      obtain ⟨B, hB1, hB2⟩ := hR.1 _ (rks_0 hk)
      refine l46 _ _ _ _ _ ⟨rfl, vX6_readMen_46 WK (l3 _ _ _ _ _ ⟨rfl, vX6_readMen_3 WK ⟨fun _ => ?_, fun w => absurd (by decide) w⟩⟩)⟩
      refine q1 p2 B K hB1 (fr.tr frK) (bn.tr bnK) aK (by omega) (bK.congr (fun s hs => ?_))
      rw [hB2 s hs]
      show (if s / 8 = 0 then row.getD (s % 8) 0 else D s) = if 0 < s / 8 then D s else row.getD s 0
      by_cases q : s / 8 = 0
      · rw [if_pos q, if_neg (by omega), show s % 8 = s by omega]
      · rw [if_neg q, if_pos (by omega)]
    | succ n ih =>
      intro p D N hn hp fr bn aN bD hz hR
      have WN := fr.1.wd hW
      refine l3 _ _ _ _ _ ⟨rfl, vX6_readMen_3 WN ⟨fun w => absurd w (nI_pos (by omega)), fun _ => ?_⟩⟩
      rw [show nI (n + 1) * (8 : Int32) = nI (8 * (n + 1)) from by rw [Nat.mul_comm 8 _]; exact pk_mul _ 8]
      refine c_readRankC WN hT aN (by omega) bD (r := n + 1) (by omega) (fun f hf => hz _ (by omega) (by omega)) (fun p2 row K hk frK bnK aK hp2 bK => vkX6_readMen_16 (frK.1.wd WN) ⟨fun w => absurd w (by decide), fun _ => ⟨fun w => absurd w (nI_nle (by omega) (by omega)), fun _ => ?_⟩⟩) (fun K hk frK bnK => vkX6_readMen_16 (frK.1.wd WN) ⟨fun _ => q0 K (hR.2 (rks_n hk)) (fr.tr frK) (bn.tr bnK), fun w => absurd rfl w⟩)
      have WK := frK.1.wd WN
      have hc := pk_256 hT e p2
      have e47 := nI_eq (a := pk T e p2) (b := 47) (by omega) (by decide)
      refine c_signR WK hT aK (vkX6_readMen_29 WK ⟨fun w => fun M43 e43 => ?_, fun w => q0 K (hR.2 (rks_x hk (fun z => w (e47.mpr z)))) (fr.tr frK) (bn.tr bnK)⟩)
      rw [aK.2.2.1, nI_1] at e43
      have frA : cRd M M43 g := by rw [e43]; exact (fr.tr frK).tr cRd.go
      have WA := frA.1.wd hW
      refine l46 _ _ _ _ _ ⟨rfl, vX6_readMen_46 WA ?_⟩
      rw [pk_m1]
      have hs := rks_s (n := n) hk (e47.mp w)
      refine ih (p2 + 1) (fun s => if s / 8 = n + 1 then row.getD (s % 8) 0 else D s) M43 (by omega) (by omega) frA ?_ ?_ ?_ (fun s hs hn2 => ?_) ⟨fun x hx => ?_, fun hx => hR.2 (by rw [hs, hx]; rfl)⟩
      · rw [e43]; exact (bn.tr bnK).tr (bNm_27 hg)
      · rw [e43]; exact aK.go (by omega)
      · rw [e43]; exact bSB_27 hg bK
      · show (if s / 8 = n + 1 then row.getD (s % 8) 0 else D s) = 0
        rw [if_neg (by omega)]
        exact hz s hs (by omega)
      · obtain ⟨B, hB1, hB2⟩ := hR.1 (x.1, fun s => if s / 8 = n + 1 then row.getD (s % 8) 0 else x.2 s) (by rw [hs, hx]; rfl)
        refine ⟨B, hB1, fun s hs2 => ?_⟩
        rw [hB2 s hs2]
        show (if n + 1 < s / 8 then D s else if s / 8 = n + 1 then row.getD (s % 8) 0 else x.2 s) = if n < s / 8 then (if s / 8 = n + 1 then row.getD (s % 8) 0 else D s) else x.2 s
        by_cases a1 : n + 1 < s / 8
        · rw [if_pos a1, if_pos (by omega), if_neg (by omega)]
        · rw [if_neg a1]
          by_cases a2 : s / 8 = n + 1
          · rw [if_pos a2, if_pos (by omega), if_pos a2]
          · rw [if_neg a2, if_neg (by omega)]
  refine l0 _ _ _ _ _ ⟨rfl, vX6_readMen_0 hW ?_⟩
  refine loop 7 p0 (fun _ => 0) M (by omega) (by omega) cRd.rf (fun _ _ => rfl) h0 hB (fun _ _ _ => rfl) ⟨fun x hx => ⟨x.2, by rw [eR, hx], fun s hs => ?_⟩, fun hx => by rw [eR, hx]⟩
  rw [if_neg (by omega)]
/-- only the reader's place and some numbers of the board have changed -/
def cRn (M N : zM) (g : Nat) (S : List Nat) : Prop := zSm [27, g + 1] M N ∧ (∀ j, j ≠ 3 → N.1 27 j = M.1 27 j) ∧ ∀ j, j ∉ S → N.1 (g + 1) j = M.1 (g + 1) j
theorem cRn.rf {M : zM} {g : Nat} {S : List Nat} : cRn M M g S := ⟨zSm.rf, fun _ _ => rfl, fun _ _ => rfl⟩
theorem cRn.tr {M N K : zM} {g : Nat} {S : List Nat} (h : cRn M N g S) (h2 : cRn N K g S) : cRn M K g S := ⟨h.1.tr h2.1, fun j hj => (h2.2.1 j hj).trans (h.2.1 j hj), fun j hj => (h2.2.2 j hj).trans (h.2.2 j hj)⟩
theorem cRn.go {M : zM} {g : Nat} {S : List Nat} {v : Int32} (hg : g = 35 ∨ g = 45) : cRn M (zsI M 27 3 v) g S := ⟨zSm.I (by simp), fun j hj => zsI_n hj, fun j _ => by rw [zsI_o (by omega)]⟩
theorem cRn.put {M : zM} {g j : Nat} {S : List Nat} {v : Int32} (hg : g = 35 ∨ g = 45) (hj : j ∈ S) : cRn M (zsI M (g + 1) j v) g S := ⟨zSm.I (by simp), fun i _ => by rw [zsI_o (by omega)], fun i hi => zsI_n (fun z => hi (by rw [z]; exact hj))⟩
theorem cAt.nb {M : zM} {T : Nat → Nat} {e p g j : Nat} {v : Int32} (hg : g = 35 ∨ g = 45) (h : cAt M T e p) : cAt (zsI M (g + 1) j v) T e p := h.sm (L := [g + 1]) (zSm.I (by simp)) ⟨by simp; omega, by simp; omega⟩
set_option maxHeartbeats 4000000 in
theorem c_readSide {mc ms : Nat} {M : zM} {g : Nat} (hW : zWd M g) {T : Nat → Nat} (hT : ∀ i, T i < 256) {e p : Nat} (h0 : cAt M T e p) (hp : p < 2 ^ 19) {Q : zQt}
    (q1 : ∀ N, (pk T e p = 119 ∨ pk T e p = 98) → cRn M N g [4] → cAt N T e (p + 1) → N.1 (g + 1) 4 = nI (if pk T e p = 98 then 1 else 0) → Q (some (.int 1)) N)
    (q0 : ∀ N, ¬ (pk T e p = 119 ∨ pk T e p = 98) → cRn M N g [4] → Q (some (.int 0)) N) : wX6_readSide mc ms [.ref 27, .ref (g + 1)] M Q := by
  refine ⟨⟨Nat.le_of_ble_eq_true rfl, rfl⟩, fun X l0 l17 l42 l47 => ?_⟩
  have hg := hW.2
  have hc := pk_256 hT e p
  have e98 := nI_eq (a := pk T e p) (b := 98) (by omega) (by decide)
  have e119 := nI_eq (a := pk T e p) (b := 119) (by omega) (by decide)
  have f17 : ∀ c, c = (if pk T e p = 98 then 1 else 0) → X 17 0 0 [.ref 27, .int (nI (pk T e p))] [.int (nI c), .ref (g + 1)] M := by
    intro c hcc
    refine l17 _ _ _ _ _ ⟨rfl, vX6_readSide_17 hW (fun M17 e17 M27 e27 => ?_)⟩
    have a17 : M17.1 27 3 = nI p := by rw [e17, zsI_o (by omega)]; exact h0.2.2.1
    rw [a17, nI_1] at e27
    have fr : cRn M M27 g [4] := by rw [e27, e17]; exact (cRn.put hg (by simp)).tr (cRn.go hg)
    have aN : cAt M27 T e (p + 1) := by rw [e27, e17]; exact (h0.nb hg).go (by omega)
    have h4 : M27.1 (g + 1) 4 = nI (if pk T e p = 98 then 1 else 0) := by rw [e27, zsI_o (by omega), e17, zsI_s, hcc]
    have WN := fr.1.wd hW
    have f42 : (pk T e p = 119 ∨ pk T e p = 98) → X 42 0 0 [] [] M27 := fun h => l42 _ _ _ _ _ ⟨rfl, vX6_readSide_42 WN (l47 _ _ _ _ _ ⟨rfl, vX6_readSide_47 WN ⟨rfl, q1 M27 h fr aN h4⟩⟩)⟩
    exact ⟨fun w => f42 (Or.inl (e119.mp w)), fun w => ⟨fun w2 => f42 (Or.inr (e98.mp w2)), fun w2 => l47 _ _ _ _ _ ⟨rfl, vX6_readSide_47 WN ⟨rfl, q0 M27 (fun z => z.elim (fun y => w (e119.mpr y)) (fun y => w2 (e98.mpr y))) fr⟩⟩⟩⟩
  refine l0 _ _ _ _ _ ⟨rfl, vX6_readSide_0 hW (c_signR hW hT h0 (vkX6_readSide_4 hW ⟨fun w => f17 1 (by rw [if_pos (e98.mp w)]), fun w => f17 0 (by rw [if_neg (fun z => w (e98.mpr z))])⟩))⟩
theorem rt4_bd (T : Nat → Nat) (e : Nat) : ∀ n p r, n ≤ 4 → p ≤ (rt4 T e n p r).1 ∧ (rt4 T e n p r).1 ≤ p + n
  | 0, p, r, _ => by unfold rt4; exact ⟨Nat.le_refl _, Nat.le_refl _⟩
  | n + 1, p, r, h => by
    unfold rt4
    split
    · have := rt4_bd T e n (p + 1) (r + 2 ^ (3 - n)) (by omega); omega
    · have := rt4_bd T e n p r (by omega); omega
set_option maxHeartbeats 4000000 in
theorem c_readRightsC {mc ms : Nat} {M : zM} {g : Nat} (hW : zWd M g) {T : Nat → Nat} (hT : ∀ i, T i < 256) {e p0 : Nat} (h0 : cAt M T e p0) (hp0 : p0 < 2 ^ 19) (h5 : M.1 (g + 1) 5 = nI 0) {Q : zQt}
    (q1 : ∀ p r N, rgS T e p0 = some (p, r) → cRn M N g [5] → cAt N T e p → p ≤ p0 + 4 → r < 16 → N.1 (g + 1) 5 = nI r → Q (some (.int 1)) N)
    (q0 : ∀ N, rgS T e p0 = none → cRn M N g [5] → Q (some (.int 0)) N) : wX6_readRights mc ms [.ref 27, .ref (g + 1)] M Q := by
  refine ⟨⟨Nat.le_of_ble_eq_true rfl, rfl⟩, fun X l0 l23 l63 l81 => ?_⟩
  have hg := hW.2
  have hc := pk_256 hT e p0
  have e45 := nI_eq (a := pk T e p0) (b := 45) (by omega) (by decide)
  refine l0 _ _ _ _ _ ⟨rfl, vX6_readRights_0 hW (c_signR hW hT h0 (vkX6_readRights_4 hW ⟨fun w => fun M16 e16 => ?_, fun w => ?_⟩))⟩
  · rw [h0.2.2.1, nI_1] at e16
    refine q1 (p0 + 1) 0 M16 ?_ (by rw [e16]; exact cRn.go hg) (by rw [e16]; exact h0.go (by omega)) (by omega) (by omega) (by rw [e16, zsI_o (by omega)]; exact h5)
    unfold rgS
    rw [if_pos (e45.mp w)]
  have hrg : rgS T e p0 = if 0 < (rt4 T e 4 p0 0).2 then some (rt4 T e 4 p0 0) else none := by
    unfold rgS
    rw [if_neg (fun z => w (e45.mpr z))]
  have loop : ∀ (n k p r : Nat) (N : zM), k + n = 4 → r < 2 ^ k → p ≤ p0 + k → cRn M N g [5] → cAt N T e p → N.1 (g + 1) 5 = nI r → rt4 T e 4 p0 0 = rt4 T e n p r → X 23 0 0 [.ref 27, .ref (g + 1), .int (nI k)] [] N := by
    intro n
    induction n with
    | zero =>
      intro k p r N hk hr hp fr aN n5 hR
      obtain rfl : k = 4 := by omega
      have WN := fr.1.wd hW
      have hR2 : rt4 T e 4 p0 0 = (p, r) := hR
      have er := nI_eq (a := r) (b := 0) (by omega) (by decide)
      refine l23 _ _ _ _ _ ⟨rfl, vX6_readRights_23 WN ⟨fun _ => ?_, fun w => absurd (by decide) w⟩⟩
      rw [n5]
      refine ⟨fun w2 => l81 _ _ _ _ _ ⟨rfl, vX6_readRights_81 WN ⟨rfl, q0 N ?_ fr⟩⟩, fun w2 => l81 _ _ _ _ _ ⟨rfl, vX6_readRights_81 WN ⟨rfl, q1 p r N ?_ fr aN hp (by omega) n5⟩⟩⟩
      · rw [hrg, hR2, if_neg]
        have := er.mp w2
        show ¬ 0 < r
        omega
      · rw [hrg, hR2, if_pos]
        have : ¬ r = 0 := fun z => w2 (er.mpr z)
        show 0 < r
        omega
    | succ n ih =>
      intro k p r N hk hr hp fr aN n5 hR
      have WN := fr.1.wd hW
      have hcp := pk_256 hT e p
      refine l23 _ _ _ _ _ ⟨rfl, vX6_readRights_23 WN ⟨fun w => absurd ((nI_leI (a := 4) (b := k) (by decide) (by omega)).mp w) (by omega), fun _ => ?_⟩⟩
      refine c_signR WN hT aN (vkX6_readRights_32 WN (c_rtC (by omega) (vkX6_readRights_38 WN ?_)))
      have hrl : rtL k < 256 := by unfold rtL; split <;> (try split) <;> (try split) <;> omega
      have ec := nI_eq (a := pk T e p) (b := rtL k) (by omega) (by omega)
      have hk3 : 3 - n = k := by omega
      have f63 : ∀ (p2 r2 : Nat) (K : zM), r2 < 2 ^ (k + 1) → p2 ≤ p0 + (k + 1) → cRn M K g [5] → cAt K T e p2 → K.1 (g + 1) 5 = nI r2 → rt4 T e 4 p0 0 = rt4 T e n p2 r2 → X 63 0 0 [.ref 27, .ref (g + 1), .int (nI k)] [] K := by
        intro p2 r2 K hr2 hp2 frK aK k5 hRK
        refine l63 _ _ _ _ _ ⟨rfl, vX6_readRights_63 (frK.1.wd hW) ?_⟩
        rw [nI_1]
        exact ih (k + 1) p2 r2 K (by omega) hr2 hp2 frK aK k5 hRK
      have hpow : 2 ^ (k + 1) = 2 ^ k + 2 ^ k := by rw [Nat.pow_succ]; omega
      have hk16 : 2 ^ k ≤ 2 ^ 3 := Nat.pow_le_pow_right (by decide) (by omega)
      refine ⟨fun w2 => fun M50 e50 M60 e60 => ?_, fun w2 => f63 p r N (by omega) (by omega) fr aN n5 ?_⟩
      · rw [n5, shl4 k (by omega)] at e50
        have eor : nI r ||| nI (2 ^ k) = nI (r + 2 ^ k) := by
          have := nI_or (k := k) (x := r) (y := 1) hr (by omega)
          rw [Nat.mul_one] at this
          exact this
        rw [eor] at e50
        have a50 : M50.1 27 3 = nI p := by rw [e50, zsI_o (by omega)]; exact aN.2.2.1
        rw [a50, nI_1] at e60
        refine f63 (p + 1) (r + 2 ^ k) M60 (by omega) (by omega) ?_ ?_ ?_ ?_
        · rw [e60, e50]; exact fr.tr ((cRn.put hg (by simp)).tr (cRn.go hg))
        · rw [e60, e50]; exact (aN.nb hg).go (by omega)
        · rw [e60, zsI_o (by omega), e50, zsI_s]
        · rw [hR]
          show (if pk T e p = rtL (3 - n) then _ else _) = _
          rw [hk3, if_pos (ec.mp w2)]
      · rw [hR]
        show (if pk T e p = rtL (3 - n) then _ else _) = _
        rw [hk3, if_neg (fun z => w2 (ec.mpr z))]
  exact loop 4 0 p0 0 M (by omega) (by decide) (by omega) cRn.rf h0 h5 rfl
set_option maxHeartbeats 4000000 in
theorem c_readPassantC {mc ms : Nat} {M : zM} {g : Nat} (hW : zWd M g) {T : Nat → Nat} (hT : ∀ i, T i < 256) {e p0 : Nat} (h0 : cAt M T e p0) (hp0 : p0 < 2 ^ 19) {c : Nat} (hc1 : c ≤ 1) (h4 : M.1 (g + 1) 4 = nI c) (h6 : M.1 (g + 1) 6 = pI 8) {Q : zQt}
    (q1 : ∀ p f N, psS T e c p0 = some (p, f) → cRn M N g [6] → cAt N T e p → p ≤ p0 + 2 → f ≤ 8 → N.1 (g + 1) 6 = pI f → Q (some (.int 1)) N)
    (q0 : ∀ N, psS T e c p0 = none → cRn M N g [6] → Q (some (.int 0)) N) : wX6_readPassant mc ms [.ref 27, .ref (g + 1)] M Q := by
  refine ⟨⟨Nat.le_of_ble_eq_true rfl, rfl⟩, fun X l0 l53 l56 => ?_⟩
  have hg := hW.2
  have hc := pk_256 hT e p0
  have hcb := pk_256 hT e (p0 + 1)
  have e45 := nI_eq (a := pk T e p0) (b := 45) (by omega) (by decide)
  have e97 := nI_ltI (a := pk T e p0) (b := 97) (by omega) (by decide)
  have e104 := nI_ltI (a := 104) (b := pk T e p0) (by decide) (by omega)
  refine l0 _ _ _ _ _ ⟨rfl, vX6_readPassant_0 hW (c_signR hW hT h0 (vkX6_readPassant_4 hW (fun M12 e12 => ?_)))⟩
  rw [h0.2.2.1, nI_1] at e12
  have fr : cRn M M12 g [6] := by rw [e12]; exact cRn.go hg
  have aN : cAt M12 T e (p0 + 1) := by rw [e12]; exact h0.go (by omega)
  have WN := fr.1.wd hW
  have f56 : psS T e c p0 = none → X 56 0 0 [] [] M12 := fun h => l56 _ _ _ _ _ ⟨rfl, vX6_readPassant_56 WN (q0 M12 h fr)⟩
  refine ⟨fun w => q1 (p0 + 1) 8 M12 ?_ fr aN (by omega) (by omega) (by rw [fr.1.i (b := g + 1) |> fun _ => (show M12.1 (g + 1) 6 = M.1 (g + 1) 6 from by rw [e12, zsI_o (by omega)])]; exact h6), fun w => ?_⟩
  · unfold psS
    rw [if_pos (e45.mp w)]
  have hps : psS T e c p0 = if 97 ≤ pk T e p0 ∧ pk T e p0 ≤ 104 ∧ pk T e (p0 + 1) = (if c = 0 then 54 else 51) then some (p0 + 2, pk T e p0 - 97) else none := by
    unfold psS
    rw [if_neg (fun z => w (e45.mpr z))]
  refine ⟨fun w2 => f56 ?_, fun w2 => ⟨fun w3 => f56 ?_, fun w3 => ?_⟩⟩
  · rw [hps, if_neg (fun z => by have := e97.mp w2; omega)]
  · rw [hps, if_neg (fun z => by have := e104.mp w3; omega)]
  have h97 : 97 ≤ pk T e p0 := by have : ¬ pk T e p0 < 97 := fun z => w2 (e97.mpr z); omega
  have h104 : pk T e p0 ≤ 104 := by have : ¬ 104 < pk T e p0 := fun z => w3 (e104.mpr z); omega
  refine c_signR WN hT aN (vkX6_readPassant_39 WN ?_)
  rw [show M12.1 (g + 1) 4 = nI c from by rw [e12, zsI_o (by omega)]; exact h4]
  have ecc := nI_eq (a := c) (b := 0) (by omega) (by decide)
  have f53 : ∀ v, v = (if c = 0 then 54 else 51) → X 53 0 0 [.ref 27, .ref (g + 1), .int (nI (pk T e p0))] [.int (nI v), .int (nI (pk T e (p0 + 1)))] M12 := by
    intro v hv
    have hv2 : v < 256 := by rw [hv]; split <;> omega
    have ev := nI_eq (a := pk T e (p0 + 1)) (b := v) (by omega) (by omega)
    refine l53 _ _ _ _ _ ⟨rfl, vX6_readPassant_53 WN ⟨fun w4 => fun M65 e65 M73 e73 => ?_, fun w4 => f56 ?_⟩⟩
    · rw [aN.2.2.1, nI_1] at e65
      rw [show nI (pk T e p0) - (97 : Int32) = nI (pk T e p0 - 97) from pk_sub (b := 97) h97] at e73
      refine q1 (p0 + 2) (pk T e p0 - 97) M73 ?_ ?_ ?_ (by omega) (by omega) ?_
      · rw [hps, if_pos ⟨h97, h104, by rw [ev.mp w4, hv]⟩]
      · rw [e73, e65]; exact fr.tr ((cRn.go hg).tr (cRn.put hg (by simp)))
      · rw [e73, e65]; exact (aN.go (by omega)).nb hg
      · rw [e73, zsI_s]
        unfold pI
        rw [if_pos (by omega)]
    · rw [hps, if_neg (fun z => w4 (ev.mpr (by rw [hv]; exact z.2.2)))]
  exact ⟨fun w4 => f53 54 (by rw [if_pos (ecc.mp w4)]), fun w4 => f53 51 (by rw [if_neg (fun z => w4 (ecc.mpr z))])⟩
