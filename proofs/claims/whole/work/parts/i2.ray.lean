/-! CONSTRUCTORS: a whole ray -/
theorem c_wholeRay {mc ms : Nat} {M : zM} {s d : Nat} (hs : s < 64) (hd : d < 8) {Q : zQt} (hq : ∀ r, (∀ t, t < 64 → bt r t = ryG d s t) → Q (some (.long r)) M) : wX1_wholeRay mc ms [.int (nI s), .int (nI d)] M Q := by
  refine ⟨⟨Nat.le_of_ble_eq_true rfl, rfl⟩, fun X l0 l5 => ?_⟩
  obtain ⟨⟨s0, s1, -, -⟩, b0, b1, -, -⟩ := st_of hd
  have loop : ∀ (r k : Nat) (x : Int64), k + r = 8 → 1 ≤ k → (∀ t, t < 64 → (bt x t = true ↔ ∃ j, 1 ≤ j ∧ j < k ∧ dF s t = fsI d * (j : Int) ∧ dR s t = rsI d * (j : Int))) → X 5 0 0 [.int (nI s), .int (nI d), .long x, .int (nI k)] [] M := by
    intro r
    induction r with
    | zero =>
      intro k x hk k1 hx
      have hk : k = 8 := by omega
      subst hk
      refine l5 _ _ _ _ _ ⟨rfl, nvX1_wholeRay_5 ⟨fun _ => hq x (fun t ht => ?_), fun c => absurd (by decide) c⟩⟩
      exact Bool.eq_iff_iff.mpr ((hx t ht).trans (ray_st hd hs ht).symm)
    | succ r ih =>
      intro k x hk k1 hx
      refine l5 _ _ _ _ _ ⟨rfl, nvX1_wholeRay_5 ⟨fun z => absurd ((nI_leI (a := 8) (by decide) (by omega)).mp z) (by omega), fun _ => ?_⟩⟩
      rw [nI_clamp (by omega), s0, s1, show iI (fsI d) * nI k = iI (fsI d * (k : Int)) by rw [iI_nat k]; exact iI_mul _ _, show iI (rsI d) * nI k = iI (rsI d * (k : Int)) by rw [iI_nat k]; exact iI_mul _ _]
      have m1 : fsI d * (k : Int) ≤ 20 ∧ -20 ≤ fsI d * (k : Int) := by
        have k7 : k ≤ 7 := by omega
        have : fsI d = -2 ∨ fsI d = -1 ∨ fsI d = 0 ∨ fsI d = 1 ∨ fsI d = 2 := by omega
        rcases this with e | e | e | e | e <;> rw [e] <;> omega
      have m2 : rsI d * (k : Int) ≤ 20 ∧ -20 ≤ rsI d * (k : Int) := by
        have k7 : k ≤ 7 := by omega
        have : rsI d = -2 ∨ rsI d = -1 ∨ rsI d = 0 ∨ rsI d = 1 ∨ rsI d = 2 := by omega
        rcases this with e | e | e | e | e <;> rw [e] <;> omega
      refine ⟨vp_in_nI hd (by omega), vp_in_nI hd (by omega), ?_⟩
      refine c_beside hs ⟨m1.2, m1.1⟩ ⟨m2.2, m2.1⟩ (fun y hy => nvkX1_wholeRay_33 ?_)
      rw [show nI k + (1 : Int32) = nI (k + 1) from nI_add _ 1]
      refine ih (k + 1) (x ||| y) (by omega) (by omega) (fun t ht => ?_)
      rw [bt_or, Bool.or_eq_true, hx t ht, hy t ht]
      constructor
      · rintro (⟨j, j1, j2, j3⟩ | ⟨q1, q2⟩)
        · exact ⟨j, j1, by omega, j3⟩
        · exact ⟨k, k1, by omega, q1, q2⟩
      · rintro ⟨j, j1, j2, j3⟩
        by_cases z : j = k
        · subst z; exact Or.inr j3
        · exact Or.inl ⟨j, j1, by omega, j3⟩
  exact l0 _ _ _ _ _ ⟨rfl, nvX1_wholeRay_0 (loop 7 1 0 (by omega) (by omega) (fun t ht => ⟨fun q => by rw [bt_0] at q; exact absurd q (by decide), fun ⟨j, j1, j2, _⟩ => absurd j2 (by omega)⟩))⟩
