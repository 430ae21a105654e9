/-! THE HALL'S STATE STAYS RIGHT -/
theorem pk_256m {T : Nat → Nat} (hT : ∀ i, T i < 256) (e p : Nat) : pk T e p < 256 := by
  unfold pk
  split
  · exact hT p
  · decide
theorem rt4_lt {T : Nat → Nat} {e : Nat} : ∀ (n p r : Nat), n ≤ 4 → r < 2 ^ (4 - n) → (rt4 T e n p r).2 < 16
  | 0, p, r, h, hr => hr
  | n + 1, p, r, h, hr => by
    unfold rt4
    have e1 : 2 ^ (4 - n) = 2 * 2 ^ (4 - (n + 1)) := by
      rw [show 4 - n = (4 - (n + 1)) + 1 by omega, Nat.pow_succ]; omega
    have e2 : 2 ^ (3 - n) = 2 ^ (4 - (n + 1)) := by rw [show 4 - (n + 1) = 3 - n by omega]
    split
    · exact rt4_lt n _ _ (by omega) (by omega)
    · exact rt4_lt n _ _ (by omega) (by omega)
theorem fdS_bd {T : Nat → Nat} (hT : ∀ i, T i < 256) (e p : Nat) : (∃ k, 0 < k ∧ k ≤ 6 ∧ fdS T e p = bad k) ∨ ∃ p' P, fdS T e p = (0, p', P) ∧ psOk P := by
  unfold fdS
  split
  · exact Or.inl ⟨1, by decide, by decide, rfl⟩
  rename_i x1 h1
  split
  rotate_left
  · exact Or.inl ⟨1, by decide, by decide, rfl⟩
  unfold fd2
  split
  rotate_left
  · exact Or.inl ⟨2, by decide, by decide, rfl⟩
  unfold fd3
  split
  · exact Or.inl ⟨3, by decide, by decide, rfl⟩
  rename_i x3 h3
  split
  rotate_left
  · exact Or.inl ⟨3, by decide, by decide, rfl⟩
  unfold fd4
  split
  · exact Or.inl ⟨4, by decide, by decide, rfl⟩
  rename_i x4 h4
  split
  rotate_left
  · exact Or.inl ⟨4, by decide, by decide, rfl⟩
  unfold fd5
  split
  · exact Or.inl ⟨5, by decide, by decide, rfl⟩
  rename_i x5 h5
  split
  rotate_left
  · exact Or.inl ⟨5, by decide, by decide, rfl⟩
  unfold fd6
  split
  · exact Or.inl ⟨6, by decide, by decide, rfl⟩
  rename_i x6 h6
  split
  · exact Or.inl ⟨6, by decide, by decide, rfl⟩
  refine Or.inr ⟨_, _, rfl, ?_⟩
  have b5 := (nmS_bd h5).1
  have b6 := (nmS_bd h6).1
  refine ⟨fun s _ => rksS_le (fun p => pk_256m hT e p) _ _ x1 h1 s, ?_, ?_, ?_, ?_, ?_⟩
  · show (if pk T e (x1.1 + 1) = 98 then 1 else 0) ≤ 1
    split <;> omega
  · show x3.2 < 16
    unfold rgS at h3
    split at h3
    · cases h3; show (0 : Nat) < 16; decide
    · split at h3
      · cases h3; exact rt4_lt 4 _ 0 (Nat.le_refl _) (by decide)
      · cases h3
  · show x4.2 ≤ 8
    unfold psS at h4
    split at h4
    · cases h4; exact Nat.le_refl _
    · by_cases hh : 97 ≤ pk T e (x3.1 + 1) ∧ pk T e (x3.1 + 1) ≤ 104 ∧ pk T e (x3.1 + 1 + 1) = (if (if pk T e (x1.1 + 1) = 98 then 1 else 0) = 0 then 54 else 51)
      · rw [if_pos hh] at h4
        cases h4
        show pk T e _ - 97 ≤ 8
        omega
      · rw [if_neg hh] at h4
        cases h4
  · show x5.2 < 2 ^ 30
    exact Nat.lt_of_lt_of_le b5 (by decide)
  · show x6.2 < 2 ^ 30
    exact Nat.lt_of_lt_of_le b6 (by decide)
theorem rcF_le (P : Ps) : rcF P ≤ 11 := by
  unfold rcF
  split
  · omega
  split
  · split
    · split
      · split <;> omega
      · omega
    · omega
  · omega
/-- right, and after at most j calls -/
def aJ (A : Ah) (j : Nat) : Prop := aOk A ∧ aN A ≤ 20 * j ∧ aTk A ≤ j
theorem aJ.mono {A : Ah} {j k : Nat} (h : aJ A j) (hk : j ≤ k) : aJ A k := ⟨h.1, by have := h.2.1; omega, by have := h.2.2; omega⟩
theorem aJ.tape {A : Ah} {j : Nat} (h : aJ A j) (hj : j ≤ 300) (a b c d e : Int32) : aJ (tapeA A a b c d e) (j + 1) := by
  obtain ⟨⟨o1, ⟨o2, o2'⟩, o3, o4, o5, o6⟩, n1, n2⟩ := h
  refine ⟨⟨fun i => ?_, ⟨?_, ?_⟩, o3, o4, o5, o6⟩, ?_, ?_⟩
  · show tpS (aT A) (aN A) a b c d e i < 256
    unfold tpS tb5
    split
    · exact tb_lt _ _
    · exact o1 i
  · show aN A + 20 ≤ 8160
    omega
  · show (aN A + 20) % 20 = 0
    omega
  · show aN A + 20 ≤ 20 * (j + 1)
    omega
  · show aTk A ≤ j + 1
    omega
theorem aJ.rfA {A : Ah} {j : Nat} (h : aJ A j) {k : Nat} (hk : k ≤ 24) {m : Int} (hm : -1 ≤ m ∧ m < 601) : aJ (refA A k m).2 j := by
  obtain ⟨⟨o1, ⟨o2, o2'⟩, o3, o4, o5, o6⟩, n1, n2⟩ := h
  exact ⟨⟨o1, ⟨by show (0 : Nat) ≤ 8160; decide, by show (0 : Nat) % 20 = 0; decide⟩, o3, hk, hm, o6⟩, by show (0 : Nat) ≤ _; exact Nat.zero_le _, n2⟩
theorem aJ.sub {A : Ah} {j : Nat} (h : aJ A j) (hj : j ≤ 300) (k : Nat) : aJ (subA A k).2 (j + 1) := by
  unfold subA
  generalize subE A k = e
  have hT := h.1.1
  unfold subG
  rcases fdS_bd hT e 0 with ⟨b, b1, b2, hb⟩ | ⟨p, P, hp, hO⟩
  · rw [hb, if_pos (by show b ≠ 0; omega)]
    exact (h.rfA (k := b) (by omega) ⟨by decide, by decide⟩).mono (by omega)
  · rw [hp, if_neg (by show ¬ ((0 : Nat) ≠ 0); omega)]
    show aJ (if rcF P ≠ 0 then refA A (rcF P) (-1) else _).2 (j + 1)
    have hl := rcF_le P
    split
    · exact (h.rfA (by omega) ⟨by decide, by decide⟩).mono (by omega)
    · rename_i hr
      have hrc : rcF P = 0 := by omega
      have ok := rmS_bd (aT A) e e p _ (gm1_ok ((rcF_0 hO).mp hrc) (fdS_C hp))
      have o1 := ok.2.1
      have o2 := ok.2.2.1
      obtain ⟨R, eR⟩ : ∃ R, R = rmS (aT A) e e p (1, fun _ => P, fun _ => -1) := ⟨_, rfl⟩
      rw [← eR] at ok o1 o2
      have o3 := o2
      show aJ (if 0 < (rmS (aT A) e e p (1, fun _ => P, fun _ => -1)).1 then refA A (rmS (aT A) e e p (1, fun _ => P, fun _ => -1)).1 ((rmS (aT A) e e p (1, fun _ => P, fun _ => -1)).2.1 - 1 : Nat) else ((((rmS (aT A) e e p (1, fun _ => P, fun _ => -1)).2.1 - 1 : Nat) : Int), ((aT A, 0, true, (rmS (aT A) e e p (1, fun _ => P, fun _ => -1)).2, 0, -1, aTk A + 1) : Ah))).2 (j + 1)
      rw [← eR]
      split
      · exact (h.rfA ok.1 (by omega)).mono (by omega)
      · obtain ⟨⟨o1, ⟨o2, o2'⟩, o3, o4, o5, o6⟩, n1, n2⟩ := h
        exact ⟨⟨o1, ⟨by show (0 : Nat) ≤ 8160; decide, by show (0 : Nat) % 20 = 0; decide⟩, fun _ => ok.2, by show (0 : Nat) ≤ 24; decide, ⟨by show (-1 : Int) ≤ -1; decide, by show (-1 : Int) < 601; decide⟩, by show aTk A + 1 < 2 ^ 20; omega⟩, by show (0 : Nat) ≤ _; exact Nat.zero_le _, by show aTk A + 1 ≤ j + 1; omega⟩
theorem aJ.set {A : Ah} {j : Nat} (h : aJ A j) {G : Gm} (hG : gmOk G) : aJ (aSet A G) j := by
  obtain ⟨⟨o1, o2, o3, o4, o5, o6⟩, n1, n2⟩ := h
  exact ⟨⟨o1, o2, fun _ => hG, o4, o5, o6⟩, n1, n2⟩
theorem aJ.pro {A : Ah} {j : Nat} (h : aJ A j) (z : Int) : aJ (proA A z).2.2 j := by
  unfold proA
  split
  · exact h
  · rename_i c1
    split
    · exact h
    · rename_i c2
      have ht : aTh A = true := th_tf.elim id (fun q => absurd (Or.inl q) c1)
      have oG := h.1.2.2.1 ht
      have := oG.2.1
      have hz : 0 ≤ z := by
        by_cases q : z < 0
        · exact absurd (Or.inl q) c2
        · omega
      have hl : z < (mvs (lst (aG A))).length := by
        by_cases q : (mvs (lst (aG A))).length ≤ z
        · exact absurd (Or.inr q) c2
        · omega
      exact h.set (oG.next (by have : ¬ (aG A).1 = 601 := fun q => c1 (Or.inr (Or.inr q)); omega) (mvAt_mem hz hl).1)
theorem aJ.ret {A : Ah} {j : Nat} (h : aJ A j) : aJ (retA A).2 j := by
  unfold retA
  split
  · exact h
  · rename_i c1
    have ht : aTh A = true := th_tf.elim id (fun q => absurd (Or.inl q) c1)
    exact h.set (gmOk_B (h.1.2.2.1 ht) (by have : ¬ (aG A).1 < 2 := fun q => c1 (Or.inr q); omega))
