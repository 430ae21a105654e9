/-! THE CLASS'S LISTER: where a man can go -/
/-- a going without castling -/
def gl (P : Ps) (a b : Nat) : Prop := sdI (P.1 b) ≠ P.2.1 ∧ kd (P.1 b) ≠ 6 ∧ (kd (P.1 a) = 1 → pgo P a b) ∧ (kd (P.1 a) ≠ 1 → att P.1 a b)
theorem gos_gl {P : Ps} (hO : psOk P) {a b : Nat} (ha : a < 64) (h : sdI (P.1 a) = P.2.1) : gos P a b ↔ gl P a b ∨ (kd (P.1 a) = 6 ∧ cst P a b) := by
  unfold gos gl
  constructor
  · rintro ⟨-, h1, h2, h3, h4⟩
    by_cases k1 : kd (P.1 a) = 1
    · exact Or.inl ⟨h1, h2, h3, fun q => absurd k1 q⟩
    · rcases h4 k1 with q | q
      · exact Or.inl ⟨h1, h2, h3, fun _ => q⟩
      · exact Or.inr q
  · rintro (⟨h1, h2, h3, h4⟩ | ⟨k6, hc⟩)
    · exact ⟨h, h1, h2, h3, fun q => Or.inl (h4 q)⟩
    · have hb : P.1 b = 0 := by
        obtain ⟨e, q, -, -⟩ := hc
        rcases q with ⟨q1, q2, q3, q4⟩ | ⟨q1, q2, q3, q4⟩
        · exact q4 b (by omega) (by omega)
        · exact q4 b (by omega) (by omega)
      refine ⟨h, ?_, ?_, fun q => by omega, fun _ => Or.inr ⟨k6, hc⟩⟩
      · rw [hb]; exact sd_0
      · rw [hb]; decide
/-- the square where a pawn can be taken in passing -/
def psd (P : Ps) (b : Nat) : Prop := (b : Int) = psq P ∧ P.1 b = 0 ∧ P.1 (if P.2.1 = 0 then b - 8 else b + 8) = 7 - 6 * P.2.1
theorem c_passedSquare {mc ms : Nat} {M : zM} {g : Nat} (hW : zWd M g) {P : Ps} (hO : psOk P) (hP : bPs M g P) {Q : zQt} (hq : ∀ r, (∀ b, b < 64 → (bt r b = true ↔ psd P b)) → Q (some (.long r)) M) : wX5_passedSquare mc ms [.ref (g + 6)] M Q := by
  refine ⟨⟨Nat.le_of_ble_eq_true rfl, rfl⟩, fun X l0 l30 l84 l85 l97 => ?_⟩
  obtain ⟨hB, h4, -, h6, -⟩ := hP
  have hc := hO.2.1
  have p8 := hO.2.2.2.1
  have f97 : ∀ r, (∀ b, b < 64 → (bt r b = true ↔ psd P b)) → X 97 0 0 [] [.long r] M := fun r h => l97 _ _ _ _ _ ⟨rfl, vX5_passedSquare_97 hW (hq r h)⟩
  refine l0 _ _ _ _ _ ⟨rfl, vX5_passedSquare_0 hW ?_⟩
  rw [h6, h4]
  by_cases hp : P.2.2.2.1 < 8
  rotate_left
  · have e : pI P.2.2.2.1 = -1 := by unfold pI; rw [if_neg hp]
    refine ⟨fun _ => hq 0 (fun b hb => ?_), fun q => absurd e q⟩
    rw [bt_0]
    constructor
    · intro q; exact absurd q (by decide)
    · rintro ⟨q, -⟩
      unfold psq at q
      rw [if_neg hp] at q
      omega
  have e : pI P.2.2.2.1 = nI P.2.2.2.1 := by unfold pI; rw [if_pos hp]
  rw [e]
  have en : ¬ nI P.2.2.2.1 = (-1 : Int32) := by
    have : ∀ f, f < 8 → ¬ nI f = (-1 : Int32) := by decide
    exact this _ hp
  refine ⟨fun q => absurd q en, fun _ => ?_⟩
  obtain ⟨t, et⟩ : ∃ t, t = (if P.2.1 = 0 then 40 else 16) := ⟨_, rfl⟩
  obtain ⟨s, es⟩ : ∃ s, s = t + P.2.2.2.1 := ⟨_, rfl⟩
  have ht : t = 40 ∧ P.2.1 = 0 ∨ t = 16 ∧ P.2.1 = 1 := by
    rw [et]
    split
    · exact Or.inl ⟨rfl, by assumption⟩
    · exact Or.inr ⟨rfl, by omega⟩
  have hpq : psq P = s := by
    unfold psq
    rw [if_pos hp, es, et]
  have s64 : s < 64 := by omega
  obtain ⟨w, ew⟩ : ∃ w, w = (if P.2.1 = 0 then s - 8 else s + 8) := ⟨_, rfl⟩
  have w64 : w < 64 := by rw [ew]; split <;> omega
  have hx : nI s ^^^ (8 : Int32) = nI w := by
    rw [xor8 s s64, ew]
    rcases ht with q | q
    · rw [if_pos (by omega), if_pos q.2]
    · rw [if_neg (by omega), if_neg (by omega)]
  have f85 : ∀ b : Bool, (b = true ↔ P.1 s = 0 ∧ P.1 w = 7 - 6 * P.2.1) → X 85 0 0 [.int (nI s)] [.int (bI b)] M := by
    intro b hb
    refine l85 _ _ _ _ _ ⟨rfl, vX5_passedSquare_85 hW ⟨fun q => f97 0 (fun u hu => ?_), fun q => f97 _ (fun u hu => ?_)⟩⟩
    · rw [bt_0]
      constructor
      · intro z; exact absurd z (by decide)
      · rintro ⟨z1, z2, z3⟩
        rw [hpq] at z1
        have : u = s := by omega
        rw [this] at z2 z3
        rw [← ew] at z3
        rw [bI_0.mp q] at hb
        exact absurd (hb.mpr ⟨z2, z3⟩) (by decide)
    · rw [bt_one s64, decide_eq_true_eq]
      have hb' := hb.mp (bI_n.mp q)
      constructor
      · intro z
        rw [← z]
        exact ⟨hpq.symm, hb'.1, by rw [← ew]; exact hb'.2⟩
      · rintro ⟨z1, -⟩
        rw [hpq] at z1
        omega
  have f84 : ¬ (P.1 s = 0 ∧ P.1 w = 7 - 6 * P.2.1) → X 84 0 0 [.int (nI s)] [] M := fun h => l84 _ _ _ _ _ ⟨rfl, vX5_passedSquare_84 hW (f85 false ⟨fun q => absurd q (by decide), fun q => absurd q h⟩)⟩
  have f30 : X 30 0 0 [.ref (g + 6)] [.int (nI t)] M := by
    refine l30 _ _ _ _ _ ⟨rfl, vX5_passedSquare_30 hW ?_⟩
    rw [h6, e, nI_add, ← es, hx, nI_clamp (by omega), nI_clamp (by omega), (hB.1 s s64).1, (hB.1 w w64).1, h4, show (1 : Int32) - nI P.2.1 = nI (1 - P.2.1) from pk_sub (a := 1) (b := P.2.1) hc, show (6 : Int32) * nI (1 - P.2.1) = nI (6 * (1 - P.2.1)) from pk_mul 6 _, show (1 : Int32) + nI (6 * (1 - P.2.1)) = nI (1 + 6 * (1 - P.2.1)) from nI_add 1 _, show 1 + 6 * (1 - P.2.1) = 7 - 6 * P.2.1 by omega]
    have e1 := nI_eq (a := P.1 s) (b := 0) (by have := (hB.1 s s64).2; omega) (by decide)
    have e2 := nI_eq (a := P.1 w) (b := 7 - 6 * P.2.1) (by have := (hB.1 w w64).2; omega) (by omega)
    exact ⟨vp_in_nI (by omega) (by omega), fun q => ⟨vp_in_nI (by omega) (by omega), fun z => f85 true ⟨fun _ => ⟨e1.mp q, e2.mp z⟩, fun _ => rfl⟩, fun z => f84 (fun u => z (e2.mpr u.2))⟩, fun q => f84 (fun u => q (e1.mpr u.1))⟩
  have e4 := nI_eq (a := P.2.1) (b := 0) (by omega) (by decide)
  refine ⟨fun q => ?_, fun q => ?_⟩
  · have := e4.mp q
    rw [et, if_pos this] at f30
    exact f30
  · have : ¬ P.2.1 = 0 := fun z => q (e4.mpr z)
    rw [et, if_neg this] at f30
    exact f30
/-- what pawnGoals finds -/
def pgS (P : Ps) (a b : Nat) : Prop := ((b : Int) = a + upI P.2.1 ∧ P.1 b = 0) ∨ ((b : Int) = a + 2 * upI P.2.1 ∧ a / 8 = (if P.2.1 = 0 then 1 else 6) ∧ P.1 ((a : Int) + upI P.2.1).toNat = 0 ∧ P.1 b = 0) ∨ (paG P.2.1 a b ∧ (sdI (P.1 b) = (1 - P.2.1 : Nat) ∨ psd P b))
set_option maxHeartbeats 4000000 in
theorem c_pawnGoals {mc ms : Nat} {M : zM} {g : Nat} (hW : zWd M g) (hC : cOk M) {P : Ps} (hO : psOk P) (hP : bPs M g P) {a : Nat} (ha : 8 ≤ a ∧ a < 56) {Q : zQt} (hq : ∀ r, (∀ b, b < 64 → (bt r b = true ↔ pgS P a b)) → Q (some (.long r)) M) : wX5_pawnGoals mc ms [.ref (g + 6), .int (nI a)] M Q := by
  refine ⟨⟨Nat.le_of_ble_eq_true rfl, rfl⟩, fun X l0 l19 l64 l82 => ?_⟩
  have hP0 := hP
  obtain ⟨hB, h4, -, h6, -⟩ := hP
  have hc := hO.2.1
  have hup : upI P.2.1 = if P.2.1 = 0 then 8 else -8 := rfl
  obtain ⟨f1, e1⟩ : ∃ f1, f1 = ((a : Int) + upI P.2.1).toNat := ⟨_, rfl⟩
  have hf1 : (f1 : Int) = a + upI P.2.1 ∧ f1 < 64 := by
    rw [e1]
    split at hup <;> rw [hup] <;> omega
  have f82 : ∀ x, (∀ b, b < 64 → (bt x b = true ↔ ((b : Int) = a + upI P.2.1 ∧ P.1 b = 0) ∨ ((b : Int) = a + 2 * upI P.2.1 ∧ a / 8 = (if P.2.1 = 0 then 1 else 6) ∧ P.1 ((a : Int) + upI P.2.1).toNat = 0 ∧ P.1 b = 0))) → X 82 0 0 [.ref (g + 6), .int (nI a), .int (nI P.2.1), .long x] [] M := by
    intro x hx
    refine l82 _ _ _ _ _ ⟨rfl, vX5_pawnGoals_82 hW ?_⟩
    rw [show nI P.2.1 * (64 : Int32) = nI (P.2.1 * 64) from pk_mul _ 64, nI_add, nI_clamp (by omega), show (1 : Int32) - nI P.2.1 = nI (1 - P.2.1) from pk_sub (a := 1) (b := P.2.1) hc, nI_clamp (by omega)]
    refine ⟨vp_in_nI (by omega) (by omega), vp_in_nI (by omega) (by omega), c_passedSquare hW hO hP0 (fun r hr => vkX5_pawnGoals_113 hW (hq _ (fun b hb => ?_)))⟩
    rw [bt_or, bt_and, bt_or, Bool.or_eq_true, Bool.and_eq_true, Bool.or_eq_true, hx b hb, hr b hb, hB.2.2 (1 - P.2.1) b (by omega) hb, show P.2.1 * 64 + a = 64 * P.2.1 + a by omega, hC.2.2.2.1 P.2.1 a b hc (by omega) hb]
    exact or_assoc
  have f19 : X 19 0 0 [.ref (g + 6), .int (nI a), .int (nI P.2.1)] [.int (iI (upI P.2.1))] M := by
    refine l19 _ _ _ _ _ ⟨rfl, vX5_pawnGoals_19 hW (c_occupied hW hB (fun o ho => vkX5_pawnGoals_27 hW (fun y ey => ?_)))⟩
    have hs : nI a + iI (upI P.2.1) = nI f1 := by rw [iI_nat, iI_add, iI_nat, hf1.1]
    rw [hs] at ey
    have hy : ∀ b, b < 64 → (bt y b = true ↔ b = f1 ∧ P.1 b = 0) := by
      intro b hb
      rw [ey, bt_and, bt_one hf1.2, bt_not _ hb, Bool.and_eq_true, decide_eq_true_eq, Bool.not_eq_true']
      have := ho b hb
      rcases z : bt o b with _ | _
      · rw [z] at this
        have h0 : P.1 b = 0 := by
          by_cases w : P.1 b = 0
          · exact w
          · exact absurd (this.mpr w) (by decide)
        exact ⟨fun q => ⟨q.1.symm, h0⟩, fun q => ⟨q.1.symm, rfl⟩⟩
      · exact ⟨fun q => absurd q.2 (by decide), fun q => absurd q.2 (this.mp z)⟩
    rw [lg0]
    refine ⟨fun q => f82 y (fun b hb => ?_), fun q => ?_⟩
    · have hn : ∀ b, b < 64 → ¬ bt y b = true := fun b hb w => by rw [q, bt_0] at w; exact absurd w (by decide)
      constructor
      · intro w; exact absurd w (hn b hb)
      · rintro (w | w)
        · exact absurd ((hy b hb).mpr ⟨by omega, w.2⟩) (hn b hb)
        · exact absurd ((hy f1 hf1.2).mpr ⟨rfl, by rw [e1]; exact w.2.2.1⟩) (hn f1 hf1.2)
    · obtain ⟨u, hu, hub⟩ := bt_ne.mp q
      obtain ⟨hu1, hu2⟩ := (hy u hu).mp hub
      rw [hu1] at hu2
      have f64 : ∀ t, t = (if P.2.1 = 0 then 1 else 6) → X 64 0 0 [.ref (g + 6), .int (nI a), .int (nI P.2.1), .int (iI (upI P.2.1)), .long (o ^^^ (-1)), .long y] [.int (nI t), .int (nI a / (8 : Int32))] M := by
        intro t ht
        refine l64 _ _ _ _ _ ⟨rfl, vX5_pawnGoals_64 hW ?_⟩
        rw [show nI a / (8 : Int32) = nI (a / 8) from pk_div (by omega) (by decide) (by decide)]
        have et := nI_eq (a := a / 8) (b := t) (by omega) (by rw [ht]; split <;> omega)
        refine ⟨fun w z ez => f82 z (fun b hb => ?_), fun w => f82 y (fun b hb => ?_)⟩
        · have hr := et.mp w
          obtain ⟨f2, e2⟩ : ∃ f2, f2 = ((a : Int) + 2 * upI P.2.1).toNat := ⟨_, rfl⟩
          have hf2 : (f2 : Int) = a + 2 * upI P.2.1 ∧ f2 < 64 := by
            rw [e2]
            rw [ht] at hr
            split at hup <;> rename_i zz
            · rw [if_pos zz] at hr; rw [hup]; omega
            · rw [if_neg zz] at hr; rw [hup]; omega
          have hs2 : nI a + (2 : Int32) * iI (upI P.2.1) = nI f2 := by rw [show (2 : Int32) = iI 2 from rfl, iI_mul, iI_nat, iI_add, iI_nat, hf2.1]
          rw [hs2] at ez
          rw [ez, bt_or, bt_and, bt_one hf2.2, bt_not _ hb, Bool.or_eq_true, Bool.and_eq_true, decide_eq_true_eq, Bool.not_eq_true', hy b hb]
          have hob := ho b hb
          constructor
          · rintro (⟨z1, z2⟩ | ⟨z1, z2⟩)
            · exact Or.inl ⟨by rw [z1]; exact hf1.1, z2⟩
            · refine Or.inr ⟨by rw [← z1]; exact hf2.1, by rw [hr]; exact ht, by rw [← e1]; exact hu2, ?_⟩
              by_cases v : P.1 b = 0
              · exact v
              · rw [hob.mpr v] at z2; exact absurd z2 (by decide)
          · rintro (⟨z1, z2⟩ | ⟨z1, z2, z3, z4⟩)
            · exact Or.inl ⟨by omega, z2⟩
            · refine Or.inr ⟨by omega, ?_⟩
              rcases v : bt o b with _ | _
              · rfl
              · exact absurd z4 (hob.mp v)
        · rw [hy b hb]
          constructor
          · rintro ⟨z1, z2⟩
            exact Or.inl ⟨by rw [z1]; exact hf1.1, z2⟩
          · rintro (⟨z1, z2⟩ | ⟨z1, z2, z3, z4⟩)
            · exact ⟨by omega, z2⟩
            · rw [← ht] at z2
              exact absurd (et.mpr z2) w
      have e4 := nI_eq (a := P.2.1) (b := 0) (by omega) (by decide)
      exact ⟨fun w => f64 1 (by rw [if_pos (e4.mp w)]), fun w => f64 6 (by rw [if_neg (fun z => w (e4.mpr z))])⟩
  refine l0 _ _ _ _ _ ⟨rfl, vX5_pawnGoals_0 hW ?_⟩
  rw [h4]
  have e4 := nI_eq (a := P.2.1) (b := 0) (by omega) (by decide)
  refine ⟨fun q => ?_, fun q => ?_⟩
  · rw [hup, if_pos (e4.mp q)] at f19
    exact f19
  · rw [hup, if_neg (fun z => q (e4.mpr z))] at f19
    exact f19
