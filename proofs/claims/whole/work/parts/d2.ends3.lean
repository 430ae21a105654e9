/-! THE REFERENCE'S ENDINGS: moves of the kings and of the pawn -/
set_option maxHeartbeats 4000000 in
theorem e_strongKing {mc ms : Nat} {M : zM} (hW : zFix M) {L : List (Nat × Nat × Nat × Nat × Nat)} (h : eMl M L) (hl : L.length ≤ 50) {k s p w : Nat} (k1 : 1 ≤ k) (k5 : k ≤ 5) (hs : s < 64) (hp : p < 64) (hw : w < 64) {Q : zQt} (hq : ∀ K L2, zSm eC M K → eMl K (L ++ L2) → L2.length ≤ 9 → (∀ m, m ∈ L2 ↔ ∃ t, t < 64 ∧ kiG s t ∧ (pos5 k t p w false ∧ m = (s + 64 * t, k, t, p, w))) → Q none K) : wX12_strongKing mc ms [.ref 71, .int (nI k), .int (nI s), .int (nI p), .int (nI w)] M Q := by
  refine ⟨⟨Nat.le_of_ble_eq_true rfl, rfl⟩, fun X l0 l3 l52 => ?_⟩
  have loop : ∀ (r i : Nat) (K : zM) (L2 : List (Nat × Nat × Nat × Nat × Nat)), i + r = 9 → zSm eC M K → eMl K (L ++ L2) → L2.length ≤ i → (∀ m, m ∈ L2 ↔ ∃ j, j < i ∧ 0 ≤ sT s j ∧ (pos5 k (sT s j).toNat p w false ∧ m = (s + 64 * (sT s j).toNat, k, (sT s j).toNat, p, w))) → X 3 0 0 [.ref 71, .int (nI k), .int (nI s), .int (nI p), .int (nI w), .int (nI i)] [] K := by
    intro r
    induction r with
    | zero =>
      intro i K L2 hi sm hK hn hm
      have hi : i = 9 := by omega
      subst hi
      refine l3 _ _ _ _ _ ⟨rfl, vX12_strongKing_3 (sm.fix hW) ⟨fun _ => hq K L2 sm hK hn (fun m => (hm m).trans (sT_ki (P := fun t => pos5 k t p w false ∧ m = (s + 64 * t, k, t, p, w)) hs)), fun c => absurd (by decide) c⟩⟩
    | succ r ih =>
      intro i K L2 hi sm hK hn hm
      have hWK := sm.fix hW
      have nxt : ∀ (K2 : zM) (L3 : List (Nat × Nat × Nat × Nat × Nat)), zSm eC M K2 → eMl K2 (L ++ L3) → L3.length ≤ i + 1 → (∀ m, m ∈ L3 ↔ ∃ j, j < i + 1 ∧ 0 ≤ sT s j ∧ (pos5 k (sT s j).toNat p w false ∧ m = (s + 64 * (sT s j).toNat, k, (sT s j).toNat, p, w))) → X 52 0 0 [.ref 71, .int (nI k), .int (nI s), .int (nI p), .int (nI w), .int (nI i)] [] K2 := by
        intro K2 L3 a b c d
        refine l52 _ _ _ _ _ ⟨rfl, vX12_strongKing_52 (a.fix hW) ?_⟩
        rw [show nI i + (1 : Int32) = nI (i + 1) from nI_add _ 1]
        exact ih (i + 1) K2 L3 (by omega) a b c d
      have same : ¬ (0 ≤ sT s i ∧ pos5 k (sT s i).toNat p w false) → ∀ m, m ∈ L2 ↔ ∃ j, j < i + 1 ∧ 0 ≤ sT s j ∧ (pos5 k (sT s j).toNat p w false ∧ m = (s + 64 * (sT s j).toNat, k, (sT s j).toNat, p, w)) := by
        intro hno m
        rw [hm m]
        constructor
        · rintro ⟨j, a, b⟩; exact ⟨j, by omega, b⟩
        · rintro ⟨j, a, b, c, d⟩
          by_cases e : j = i
          · subst e; exact absurd ⟨b, c⟩ hno
          · exact ⟨j, by omega, b, c, d⟩
      refine l3 _ _ _ _ _ ⟨rfl, vX12_strongKing_3 hWK ⟨fun c => absurd ((nI_leI (a := 9) (b := i) (by decide) (by omega)).mp c) (by omega), fun _ => ?_⟩⟩
      refine e_stepped hWK hs (by omega) ?_
      refine vkX12_strongKing_17 hWK ⟨fun c => ?_, fun c => ?_⟩
      · have c : sT s i < 0 := by
          rcases sT_of hs (show i < 9 by omega) with q | q
          · omega
          · exact (iI_lt (a := sT s i) (b := 0) (by omega) (by omega) (by decide) (by decide)).mp c
        exact nxt K L2 sm hK (by omega) (same (fun q => by omega))
      · rcases sT_of hs (show i < 9 by omega) with q | ⟨q1, q2, q3⟩
        · rw [q] at c; exact absurd (by decide) c
        · obtain ⟨t, ht⟩ : ∃ t : Nat, sT s i = t := ⟨(sT s i).toNat, by omega⟩
          have ht2 : (sT s i).toNat = t := by omega
          rw [ht, ← iI_nat]
          refine e_isPosition (sm := false) hWK k1 k5 (by omega) hp hw (fun g => ?_) (fun g => ?_)
          · refine vkX12_strongKing_35 hWK ⟨fun z => absurd z (by decide), fun _ => ?_⟩
            refine e_add hWK hK (by simp; omega) s t 0 k t p w (fun K2 s2 h2 => ?_)
            refine vkX12_strongKing_52 (s2.fix hWK) ?_
            rw [List.append_assoc] at h2
            refine nxt K2 _ (sm.tr s2) h2 (by simp; omega) (fun m => ?_)
            rw [List.mem_append, hm m, List.mem_singleton]
            constructor
            · rintro (⟨j, a, b⟩ | e)
              · exact ⟨j, by omega, b⟩
              · exact ⟨i, by omega, by omega, by rw [ht2]; exact g, by rw [ht2]; exact e⟩
            · rintro ⟨j, a, b, c2, d⟩
              by_cases e : j = i
              · subst e; rw [ht2] at d; exact Or.inr d
              · exact Or.inl ⟨j, by omega, b, c2, d⟩
          · refine vkX12_strongKing_35 hWK ⟨fun _ => nxt K L2 sm hK (by omega) (same (fun z => g (by rw [ht2] at z; exact z.2))), fun z => absurd rfl z⟩
  refine l0 _ _ _ _ _ ⟨rfl, vX12_strongKing_0 hW ?_⟩
  exact loop 9 0 M [] (by omega) zSm.rf (by simpa using h) (by simp) (fun m => by simp)
