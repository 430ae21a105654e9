/-! THE CLASS'S LISTER: goals, castling -/
/-- what pawnGoals finds, own men and the king apart, is what a pawn can do -/
theorem pgS_pgo {P : Ps} (hO : psOk P) {a b : Nat} (ha : 8 ≤ a ∧ a < 56) (hb : b < 64) (hp : P.1 a = 1 + 6 * P.2.1) (hn : sdI (P.1 b) ≠ P.2.1) : pgS P a b ↔ pgo P a b := by
  have hc := hO.2.1
  have k1 : kd (P.1 a) = 1 := (kd_1 (hO.1 a (by omega))).mpr (by omega)
  have hu : upI P.2.1 = 8 ∨ upI P.2.1 = -8 := by
    unfold upI
    split
    · exact Or.inl rfl
    · exact Or.inr rfl
  have hup : upI P.2.1 = if P.2.1 = 0 then 8 else -8 := rfl
  have hpa : paG P.2.1 a b ↔ att P.1 a b := by
    unfold paG att
    rw [k1]
    have hse : P.1 a = 1 ↔ P.2.1 = 0 := by omega
    constructor
    · rintro ⟨h1, h2⟩
      refine ⟨by decide, ?_, fun _ => ⟨h1, ?_⟩, fun q => absurd q (by decide), fun q => absurd q (by decide), fun q => absurd rfl q⟩
      · rintro rfl
        unfold dF aI at h1
        simp at h1
      · rw [h2]
        by_cases q : P.2.1 = 0
        · rw [if_pos q, if_pos (hse.mpr q)]
        · rw [if_neg q, if_neg (fun z => q (hse.mp z))]
    · rintro ⟨-, -, h, -⟩
      obtain ⟨h1, h2⟩ := h rfl
      refine ⟨h1, ?_⟩
      rw [h2]
      by_cases q : P.2.1 = 0
      · rw [if_pos q, if_pos (hse.mpr q)]
      · rw [if_neg q, if_neg (fun z => q (hse.mp z))]
  have npa : att P.1 a b → ¬ ((b : Int) = a + upI P.2.1) ∧ ¬ ((b : Int) = a + 2 * upI P.2.1) := by
    intro q
    have := (q.2.2.1 k1).1
    unfold aI dF at this
    split at this <;> omega
  have hsd : sdI (P.1 b) = (1 - P.2.1 : Nat) ↔ 0 < P.1 b := by
    have h12 := hO.1 b hb
    constructor
    · intro q
      by_cases z : P.1 b = 0
      · rw [z, show sdI 0 = -1 from rfl] at q; omega
      · omega
    · intro q
      have := sdI_bd (P.1 b)
      have h1 : sdI (P.1 b) ≠ -1 := by
        unfold sdI
        rw [if_neg (by omega)]
        split <;> omega
      omega
  unfold pgS pgo
  by_cases q1 : (b : Int) = a + upI P.2.1
  · rw [if_pos q1]
    constructor
    · rintro (h | h | h)
      · exact h.2
      · omega
      · exact absurd q1 (npa (hpa.mp h.1)).1
    · intro h
      exact Or.inl ⟨q1, h⟩
  · rw [if_neg q1]
    by_cases q2 : (b : Int) = a + 2 * upI P.2.1
    · rw [if_pos q2]
      constructor
      · rintro (h | h | h)
        · exact absurd h.1 q1
        · exact h.2
        · exact absurd q2 (npa (hpa.mp h.1)).2
      · intro h
        exact Or.inr (Or.inl ⟨q2, h⟩)
    · rw [if_neg q2]
      constructor
      · rintro (h | h | ⟨h1, h2⟩)
        · exact absurd h.1 q1
        · exact absurd h.1 q2
        · rcases h2 with h2 | h2
          · exact Or.inl ⟨hpa.mp h1, hsd.mp h2⟩
          · exact Or.inr ⟨hp, hpa.mp h1, h2.1, h2.2.1, h2.2.2⟩
      · rintro (⟨h1, h2⟩ | ⟨-, h1, h2⟩)
        · exact Or.inr (Or.inr ⟨hpa.mpr h1, Or.inl (hsd.mpr h2)⟩)
        · exact Or.inr (Or.inr ⟨hpa.mpr h1, Or.inr h2⟩)
set_option maxHeartbeats 4000000 in
theorem c_goals {mc ms : Nat} {M : zM} {g : Nat} (hW : zWd M g) (hC : cOk M) {P : Ps} (hG : Gd P) (hP : bPs M g P) {a : Nat} (ha : a < 64) (hown : sdI (P.1 a) = P.2.1) {Q : zQt} (hq : ∀ r, (∀ b, b < 64 → (bt r b = true ↔ gl P a b)) → Q (some (.long r)) M) : wX5_goals mc ms [.ref (g + 6), .int (nI a)] M Q := by
  refine ⟨⟨Nat.le_of_ble_eq_true rfl, rfl⟩, fun X l0 l32 l159 => ?_⟩
  have hP0 := hP
  have hO := hG.1
  obtain ⟨hB, h4, -, h6, -⟩ := hP
  have hc := hO.2.1
  obtain ⟨k0, k7, ke⟩ := kd_sd (hO.1 a ha) hc hown
  obtain ⟨kk, ekk⟩ : ∃ kk, kk = kd (P.1 a) := ⟨_, rfl⟩
  rw [← ekk] at k0 k7 ke
  have f159 : ∀ x, (∀ b, b < 64 → sdI (P.1 b) ≠ P.2.1 → (bt x b = true ↔ (kd (P.1 a) = 1 → pgo P a b) ∧ (kd (P.1 a) ≠ 1 → att P.1 a b))) → X 159 0 0 [.ref (g + 6), .long x] [] M := by
    intro x hx
    refine l159 _ _ _ _ _ ⟨rfl, vX5_goals_159 hW ?_⟩
    rw [h4, nI_clamp (by omega), show (1 : Int32) - nI P.2.1 = nI (1 - P.2.1) from pk_sub (a := 1) (b := P.2.1) hc, show (6 : Int32) * nI (1 - P.2.1) = nI (6 * (1 - P.2.1)) from pk_mul 6 _, show (6 : Int32) + nI (6 * (1 - P.2.1)) = nI (6 + 6 * (1 - P.2.1)) from nI_add 6 _, nI_clamp (by omega)]
    refine ⟨vp_in_nI (by omega) (by omega), vp_in_nI (by omega) (by omega), hq _ (fun b hb => ?_)⟩
    have h12 := hO.1 b hb
    rw [bt_and, bt_not _ hb, bt_or, Bool.and_eq_true, Bool.not_eq_true', Bool.or_eq_false_iff]
    have c1 := hB.2.2 P.2.1 b hc hb
    have c2 := hB.2.1 (6 + 6 * (1 - P.2.1)) b (by omega) (by omega) hb
    have n1 : bt (M.2.1 (g + 4) P.2.1) b = false ↔ sdI (P.1 b) ≠ P.2.1 := by
      rw [← Bool.not_eq_true, c1]
    have n2 : bt (M.2.1 (g + 3) (6 + 6 * (1 - P.2.1))) b = false ↔ P.1 b ≠ 6 + 6 * (1 - P.2.1) := by
      rw [← Bool.not_eq_true, c2]
    rw [n1, n2]
    unfold gl
    constructor
    · rintro ⟨z1, z2, z3⟩
      obtain ⟨z4, z5⟩ := (hx b hb z2).mp z1
      refine ⟨z2, fun q => ?_, z4, z5⟩
      have := (kd_6 h12).mp q
      have : ¬ (6 * P.2.1 + 1 ≤ P.1 b ∧ P.1 b ≤ 6 * P.2.1 + 6) := fun w => z2 ((own_man h12 hc).mpr w)
      omega
    · rintro ⟨z1, z2, z3, z4⟩
      refine ⟨(hx b hb z1).mpr ⟨z3, z4⟩, z1, fun q => z2 ((kd_6 h12).mpr (by omega))⟩
  have nl : ∀ (x : Int64), kk ≠ 1 → (∀ b, b < 64 → (bt x b = true ↔ att P.1 a b)) → X 159 0 0 [.ref (g + 6), .long x] [] M := by
    intro x h1 hx
    refine f159 x (fun b hb _ => (hx b hb).trans ⟨fun q => ⟨fun w => absurd w (by omega), fun _ => q⟩, fun q => q.2 (by omega)⟩)
  refine l0 _ _ _ _ _ ⟨rfl, vX5_goals_0 hW ?_⟩
  rw [nI_clamp (by omega)]
  refine ⟨vp_in_nI (by omega) (by omega), fun y ey => c_occupied hW hB (fun o ho => ?_)⟩
  rw [(hB.1 a ha).1] at ey
  subst ey
  have ao : ∀ b, b < 64 → (att P.1 a b ↔ attO P.1 o a b) := fun b hb => (attO_att ho ha hb).symm
  have sl : ∀ b, b < 64 → (kk = 3 ∨ kk = 4 ∨ kk = 5) → (att P.1 a b ↔ a ≠ b ∧ ((dF a b = 0 ∨ dR a b = 0) ∧ kk ≠ 3 ∨ aI (dF a b) = aI (dR a b) ∧ kk ≠ 4) ∧ clr o a b) := by
    intro b hb hk
    rw [ao b hb]
    unfold attO slides
    rw [← ekk]
    constructor
    · rintro ⟨-, hne, -, -, -, h⟩
      obtain ⟨z1, z2⟩ := h (by omega) (by omega) (by omega)
      exact ⟨hne, z1, z2⟩
    · rintro ⟨hne, z1, z2⟩
      exact ⟨by omega, hne, fun q => by omega, fun q => by omega, fun q => by omega, fun _ _ _ => ⟨z1, z2⟩⟩
  have f32 : X 32 0 0 [.ref (g + 6), .int (nI a), .long o] [.int (nI kk)] M := by
    refine l32 _ _ _ _ _ ⟨rfl, vX5_goals_32 hW ?_⟩
    have ek : (nI kk).toInt = kk := iI_toInt (z := kk) (by omega) (by omega)
    rw [ek, nI_clamp (by omega)]
    refine ⟨fun q => ⟨vp_in_nI (by omega) (by omega), fun y ey => nl y (by omega) (fun b hb => ?_)⟩, fun q => ?_, fun q => ⟨vp_in_nI (by omega) (by omega), fun y ey => nl y (by omega) (fun b hb => ?_)⟩, fun q => ?_, fun q => ?_, fun q => ?_⟩
    · have hk6 : kk = 6 := by omega
      rw [ey, hC.2.2.1 a b ha hb]
      unfold kiG att
      rw [← ekk, hk6]
      constructor
      · rintro ⟨z1, z2⟩
        exact ⟨by decide, z1, fun q => absurd q (by decide), fun q => absurd q (by decide), fun _ => z2, fun _ _ q => absurd rfl q⟩
      · rintro ⟨-, z1, -, -, z2, -⟩
        exact ⟨z1, z2 rfl⟩
    · have hk1 : kk = 1 := by omega
      have hp : P.1 a = 1 + 6 * P.2.1 := by omega
      have hra : 8 ≤ a ∧ a < 56 := by
        have hm := hG.2.2.1.1
        constructor
        · rcases Nat.lt_or_ge a 8 with w | w
          · exact absurd (by rw [← ekk]; exact hk1) (hm a w).1
          · exact w
        · rcases Nat.lt_or_ge a 56 with w | w
          · exact w
          · have := (hm (a - 56) (by omega)).2
            rw [show 56 + (a - 56) = a by omega] at this
            exact absurd (by rw [← ekk]; exact hk1) this
      refine c_pawnGoals hW hC hO hP0 hra (fun r hr => vkX5_goals_73 hW (f159 r (fun b hb hn => ?_)))
      rw [hr b hb, pgS_pgo hO hra hb hp hn]
      exact ⟨fun z => ⟨fun _ => z, fun w => absurd (by rw [← ekk]; exact hk1) w⟩, fun z => z.1 (by rw [← ekk]; exact hk1)⟩
    · have hk2 : kk = 2 := by omega
      rw [ey, hC.2.1 a b ha hb]
      unfold knG att
      rw [← ekk, hk2]
      constructor
      · intro z
        refine ⟨by decide, ?_, fun q => absurd q (by decide), fun _ => z, fun q => absurd q (by decide), fun _ q => absurd rfl q⟩
        rintro rfl
        unfold dF dR aI at z
        simp at z
      · rintro ⟨-, -, -, z, -⟩
        exact z rfl
    · refine c_lines hW hC.1 ha o (f := 2) (by omega) (fun r hr => vkX5_goals_102 hW (nl r (by omega) (fun b hb => ?_)))
      rw [hr b hb, seen_ak ha hb, sl b hb (by omega)]
      constructor
      · rintro ⟨z1, z2, z3⟩
        exact ⟨z1, Or.inr ⟨z2, by omega⟩, z3⟩
      · rintro ⟨z1, z2, z3⟩
        rcases z2 with z2 | z2
        · omega
        · exact ⟨z1, z2.1, z3⟩
    · refine c_lines hW hC.1 ha o (f := 0) (by omega) (fun r hr => vkX5_goals_117 hW (nl r (by omega) (fun b hb => ?_)))
      rw [hr b hb, seen_st ha hb, sl b hb (by omega)]
      constructor
      · rintro ⟨z1, z2, z3⟩
        exact ⟨z1, Or.inl ⟨z2, by omega⟩, z3⟩
      · rintro ⟨z1, z2, z3⟩
        rcases z2 with z2 | z2
        · exact ⟨z1, z2.1, z3⟩
        · omega
    · refine c_lines hW hC.1 ha o (f := 2) (by omega) (fun r hr => vkX5_goals_132 hW (c_lines hW hC.1 ha o (f := 0) (by omega) (fun r2 hr2 => vkX5_goals_142 hW (nl _ (by omega) (fun b hb => ?_)))))
      rw [bt_or, Bool.or_eq_true, hr b hb, hr2 b hb, seen_st ha hb, seen_ak ha hb, sl b hb (by omega)]
      constructor
      · rintro (⟨z1, z2, z3⟩ | ⟨z1, z2, z3⟩)
        · exact ⟨z1, Or.inr ⟨z2, by omega⟩, z3⟩
        · exact ⟨z1, Or.inl ⟨z2, by omega⟩, z3⟩
      · rintro ⟨z1, z2, z3⟩
        rcases z2 with z2 | z2
        · exact Or.inr ⟨z1, z2.1, z3⟩
        · exact Or.inl ⟨z1, z2.1, z3⟩
  have e6 := nI_leI (a := P.1 a) (b := 6) (by have := hO.1 a ha; omega) (by decide)
  refine vkX5_goals_17 hW ⟨fun q => ?_, fun q => ?_⟩
  · have := e6.mp q
    rw [show P.1 a = kk by omega]
    exact f32
  · have : ¬ P.1 a ≤ 6 := fun z => q (e6.mpr z)
    rw [show nI (P.1 a) - (6 : Int32) = nI (P.1 a - 6) from pk_sub (a := P.1 a) (b := 6) (by omega), show P.1 a - 6 = kk by omega]
    exact f32
