/-! THE REFERENCE'S ENDINGS: moves of the king alone, of the pawn -/
/-- the king alone moves by m to t -/
def wkM (k s p w : Nat) (m : Nat × Nat × Nat × Nat × Nat) (t : Nat) : Prop := (t = p ∧ ¬ kiG s t ∧ m = (w + 64 * t, 0, s, p, t)) ∨ (pos5 k s p t true ∧ m = (w + 64 * t, k, s, p, t))
set_option maxHeartbeats 4000000 in
theorem e_weakKing {mc ms : Nat} {M : zM} (hW : zFix M) {L : List (Nat × Nat × Nat × Nat × Nat)} (h : eMl M L) (hl : L.length ≤ 50) {k s p w : Nat} (k1 : 1 ≤ k) (k5 : k ≤ 5) (hs : s < 64) (hp : p < 64) (hw : w < 64) {Q : zQt} (hq : ∀ K L2, zSm eC M K → eMl K (L ++ L2) → L2.length ≤ 9 → (∀ m, m ∈ L2 ↔ ∃ t, t < 64 ∧ kiG w t ∧ wkM k s p w m t) → Q none K) : wX12_weakKing mc ms [.ref 71, .int (nI k), .int (nI s), .int (nI p), .int (nI w)] M Q := by
  refine ⟨⟨Nat.le_of_ble_eq_true rfl, rfl⟩, fun X l0 l3 l58 l85 => ?_⟩
  have loop : ∀ (r i : Nat) (K : zM) (L2 : List (Nat × Nat × Nat × Nat × Nat)), i + r = 9 → zSm eC M K → eMl K (L ++ L2) → L2.length ≤ i → (∀ m, m ∈ L2 ↔ ∃ j, j < i ∧ 0 ≤ sT w j ∧ wkM k s p w m (sT w j).toNat) → X 3 0 0 [.ref 71, .int (nI k), .int (nI s), .int (nI p), .int (nI w), .int (nI i)] [] K := by
    intro r
    induction r with
    | zero =>
      intro i K L2 hi sm hK hn hm
      have hi : i = 9 := by omega
      subst hi
      refine l3 _ _ _ _ _ ⟨rfl, vX12_weakKing_3 (sm.fix hW) ⟨fun _ => hq K L2 sm hK hn (fun m => (hm m).trans (sT_ki (P := fun t => wkM k s p w m t) hw)), fun c => absurd (by decide) c⟩⟩
    | succ r ih =>
      intro i K L2 hi sm hK hn hm
      have hWK := sm.fix hW
      have nxt : ∀ (K2 : zM) (L3 : List (Nat × Nat × Nat × Nat × Nat)), zSm eC M K2 → eMl K2 (L ++ L3) → L3.length ≤ i + 1 → (∀ m, m ∈ L3 ↔ ∃ j, j < i + 1 ∧ 0 ≤ sT w j ∧ wkM k s p w m (sT w j).toNat) → X 85 0 0 [.ref 71, .int (nI k), .int (nI s), .int (nI p), .int (nI w), .int (nI i)] [] K2 := by
        intro K2 L3 a b c d
        refine l85 _ _ _ _ _ ⟨rfl, vX12_weakKing_85 (a.fix hW) ?_⟩
        rw [show nI i + (1 : Int32) = nI (i + 1) from nI_add _ 1]
        exact ih (i + 1) K2 L3 (by omega) a b c d
      have same : (0 ≤ sT w i → ∀ m, ¬ wkM k s p w m (sT w i).toNat) → ∀ m, m ∈ L2 ↔ ∃ j, j < i + 1 ∧ 0 ≤ sT w j ∧ wkM k s p w m (sT w j).toNat := by
        intro hno m
        rw [hm m]
        constructor
        · rintro ⟨j, a, b⟩; exact ⟨j, by omega, b⟩
        · rintro ⟨j, a, b, c⟩
          by_cases e : j = i
          · subst e; exact absurd c (hno b m)
          · exact ⟨j, by omega, b, c⟩
      refine l3 _ _ _ _ _ ⟨rfl, vX12_weakKing_3 hWK ⟨fun c => absurd ((nI_leI (a := 9) (b := i) (by decide) (by omega)).mp c) (by omega), fun _ => ?_⟩⟩
      refine e_stepped hWK hw (by omega) ?_
      refine vkX12_weakKing_18 hWK ⟨fun c => ?_, fun c => ?_⟩
      · have c : sT w i < 0 := by
          rcases sT_of hw (show i < 9 by omega) with q | q
          · omega
          · exact (iI_lt (a := sT w i) (b := 0) (by omega) (by omega) (by decide) (by decide)).mp c
        exact nxt K L2 sm hK (by omega) (same (fun q => by omega))
      · rcases sT_of hw (show i < 9 by omega) with q | ⟨q1, q2, q3⟩
        · rw [q] at c; exact absurd (by decide) c
        · obtain ⟨t, ht⟩ : ∃ t : Nat, sT w i = t := ⟨(sT w i).toNat, by omega⟩
          have ht2 : (sT w i).toNat = t := by omega
          have t64 : t < 64 := by omega
          have one : ∀ (K2 : zM) (m0 : Nat × Nat × Nat × Nat × Nat), zSm eC K K2 → eMl K2 (L ++ (L2 ++ [m0])) → (∀ m, wkM k s p w m t ↔ m = m0) → X 85 0 0 [.ref 71, .int (nI k), .int (nI s), .int (nI p), .int (nI w), .int (nI i)] [] K2 := by
            intro K2 m0 s2 h2 hu
            refine nxt K2 _ (sm.tr s2) h2 (by simp; omega) (fun m => ?_)
            rw [List.mem_append, hm m, List.mem_singleton]
            constructor
            · rintro (⟨j, a, b⟩ | e)
              · exact ⟨j, by omega, b⟩
              · exact ⟨i, by omega, by omega, by rw [ht2]; exact (hu m).mpr e⟩
            · rintro ⟨j, a, b, d⟩
              by_cases e : j = i
              · subst e; rw [ht2] at d; exact Or.inr ((hu m).mp d)
              · exact Or.inl ⟨j, by omega, b, d⟩
          rw [ht, ← iI_nat]
          have f58 : ¬ (t = p ∧ ¬ kiG s t) → X 58 0 0 [.ref 71, .int (nI k), .int (nI s), .int (nI p), .int (nI w), .int (nI i), .int (nI t)] [] K := by
            intro hno
            refine l58 _ _ _ _ _ ⟨rfl, vX12_weakKing_58 hWK ?_⟩
            refine e_isPosition (sm := true) hWK k1 k5 hs hp t64 (fun g => ?_) (fun g => ?_)
            · refine vkX12_weakKing_68 hWK ⟨fun z => absurd z (by decide), fun _ => ?_⟩
              refine e_add hWK hK (by simp; omega) w t 0 k s p t (fun K2 s2 h2 => ?_)
              refine vkX12_weakKing_85 (s2.fix hWK) ?_
              rw [List.append_assoc] at h2
              refine one K2 _ s2 h2 (fun m => ⟨fun z => z.elim (fun y => absurd ⟨y.1, y.2.1⟩ hno) (fun y => y.2), fun z => Or.inr ⟨g, z⟩⟩)
            · refine vkX12_weakKing_68 hWK ⟨fun _ => nxt K L2 sm hK (by omega) (same (fun _ m z => ?_)), fun z => absurd rfl z⟩
              rw [ht2] at z
              exact z.elim (fun y => hno ⟨y.1, y.2.1⟩) (fun y => g y.1)
          refine ⟨fun e => ?_, fun e => f58 (fun z => e (by rw [z.1]))⟩
          have e : t = p := (nI_eq (by omega) (by omega)).mp e
          refine e_beside hWK hs t64 (fun g => ?_) (fun g => ?_)
          · exact vkX12_weakKing_38 hWK ⟨fun z => absurd z (by decide), fun _ => f58 (fun z => z.2 g)⟩
          · refine vkX12_weakKing_38 hWK ⟨fun _ => ?_, fun z => absurd rfl z⟩
            refine e_add hWK hK (by simp; omega) w t 0 0 s p t (fun K2 s2 h2 => ?_)
            refine vkX12_weakKing_55 (s2.fix hWK) ?_
            rw [List.append_assoc] at h2
            refine one K2 _ s2 h2 (fun m => ⟨fun z => z.elim (fun y => y.2.2) (fun y => absurd e.symm y.1.2.2.1), fun z => Or.inl ⟨e, g, z⟩⟩)
  refine l0 _ _ _ _ _ ⟨rfl, vX12_weakKing_0 hW ?_⟩
  exact loop 9 0 M [] (by omega) zSm.rf (by simpa using h) (by simp) (fun m => by simp)
/-- the pawn moves by m -/
def pnM (s p w : Nat) (m : Nat × Nat × Nat × Nat × Nat) : Prop := (p / 8 ≠ 6 ∧ p + 8 ≠ s ∧ p + 8 ≠ w ∧ m = (p + 64 * (p + 8), 1, s, p + 8, w)) ∨ (p / 8 = 1 ∧ p + 8 ≠ s ∧ p + 8 ≠ w ∧ p + 16 ≠ s ∧ p + 16 ≠ w ∧ m = (p + 64 * (p + 16), 1, s, p + 16, w)) ∨ (p / 8 = 6 ∧ p + 8 ≠ s ∧ p + 8 ≠ w ∧ ∃ k, 2 ≤ k ∧ k ≤ 5 ∧ m = (p + 64 * (p + 8) + 4096 * k, k, s, p + 8, w))
set_option maxHeartbeats 4000000 in
theorem e_pawn {mc ms : Nat} {M : zM} (hW : zFix M) {L : List (Nat × Nat × Nat × Nat × Nat)} (h : eMl M L) (hl : L.length ≤ 50) {s p w : Nat} (hs : s < 64) (hp : p < 64) (hw : w < 64) (hp1 : p / 8 ≠ 0 ∧ p / 8 ≠ 7) {Q : zQt} (hq : ∀ K L2, zSm eC M K → eMl K (L ++ L2) → L2.length ≤ 9 → (∀ m, m ∈ L2 ↔ pnM s p w m) → Q none K) : wX12_pawn mc ms [.ref 71, .int (nI s), .int (nI p), .int (nI w)] M Q := by
  refine ⟨⟨Nat.le_of_ble_eq_true rfl, rfl⟩, fun X l0 l18 l32 l118 => ?_⟩
  have eq : ∀ {a b : Nat}, a < 128 → b < 128 → (nI a = nI b ↔ a = b) := fun ha hb => nI_eq (by omega) (by omega)
  have p8 : nI p + (8 : Int32) = nI (p + 8) := nI_add _ 8
  have f118 : ∀ K L2, zSm eC M K → eMl K (L ++ L2) → L2.length ≤ 9 → (∀ m, m ∈ L2 ↔ pnM s p w m) → X 118 0 0 [] [] K := fun K L2 a b c d => l118 _ _ _ _ _ ⟨rfl, vX12_pawn_118 (a.fix hW) (hq K L2 a b c d)⟩
  have f18 : (p + 8 = s ∨ p + 8 = w) → X 18 0 0 [] [] M := fun z => l18 _ _ _ _ _ ⟨rfl, vX12_pawn_18 hW (hq M [] zSm.rf (by simpa using h) (by simp) (fun m => by
    simp only [List.not_mem_nil, false_iff]
    rintro (⟨_, a, b, _⟩ | ⟨_, a, b, _⟩ | ⟨_, a, b, _⟩)
    all_goals exact z.elim a b))⟩
  refine l0 _ _ _ _ _ ⟨rfl, vX12_pawn_0 hW ?_⟩
  rw [p8]
  refine ⟨fun c => f18 (Or.inl ((eq (by omega) (by omega)).mp c)), fun c => ⟨fun d => f18 (Or.inr ((eq (by omega) (by omega)).mp d)), fun d => ?_⟩⟩
  have n1 : p + 8 ≠ s := fun q => c (by rw [q])
  have n2 : p + 8 ≠ w := fun q => d (by rw [q])
  rw [q8 (by omega)]
  refine ⟨fun e => ?_, fun e => ?_⟩
  · have e : (p + 8) / 8 = 7 := (nI_eq (b := 7) (by omega) (by decide)).mp e
    have h6 : p / 8 = 6 := by omega
    have loop : ∀ (r k : Nat) (K : zM) (L2 : List (Nat × Nat × Nat × Nat × Nat)), k + r = 6 → 2 ≤ k → zSm eC M K → eMl K (L ++ L2) → L2.length + 2 ≤ k → (∀ m, m ∈ L2 ↔ ∃ j, 2 ≤ j ∧ j < k ∧ m = (p + 64 * (p + 8) + 4096 * j, j, s, p + 8, w)) → X 32 0 0 [.ref 71, .int (nI s), .int (nI p), .int (nI w), .int (nI (p + 8)), .int (nI k)] [] K := by
      intro r
      induction r with
      | zero =>
        intro k K L2 hk k2 sm hK hn hm
        have hk : k = 6 := by omega
        subst hk
        refine l32 _ _ _ _ _ ⟨rfl, vX12_pawn_32 (sm.fix hW) ⟨fun _ => hq K L2 sm hK (by omega) (fun m => ?_), fun z => absurd (by decide) z⟩⟩
        rw [hm m]
        constructor
        · rintro ⟨j, a, b, c⟩; exact Or.inr (Or.inr ⟨h6, n1, n2, j, a, by omega, c⟩)
        · rintro (⟨a, _⟩ | ⟨a, _⟩ | ⟨_, _, _, j, a, b, c⟩)
          · omega
          · omega
          · exact ⟨j, a, by omega, c⟩
      | succ r ih =>
        intro k K L2 hk k2 sm hK hn hm
        have hWK := sm.fix hW
        refine l32 _ _ _ _ _ ⟨rfl, vX12_pawn_32 hWK ⟨fun z => absurd ((nI_ltI (a := 5) (b := k) (by decide) (by omega)).mp z) (by omega), fun _ => ?_⟩⟩
        refine e_add hWK hK (by simp; omega) p (p + 8) k k s (p + 8) w (fun K2 s2 h2 => ?_)
        refine vkX12_pawn_53 (s2.fix hWK) ?_
        rw [show nI k + (1 : Int32) = nI (k + 1) from nI_add _ 1]
        rw [List.append_assoc] at h2
        refine ih (k + 1) K2 _ (by omega) (by omega) (sm.tr s2) h2 (by simp; omega) (fun m => ?_)
        rw [List.mem_append, hm m, List.mem_singleton]
        constructor
        · rintro (⟨j, a, b, c⟩ | c)
          · exact ⟨j, a, by omega, c⟩
          · exact ⟨k, k2, by omega, c⟩
        · rintro ⟨j, a, b, c⟩
          by_cases z : j = k
          · subst z; exact Or.inr c
          · exact Or.inl ⟨j, a, by omega, c⟩
    exact loop 4 2 M [] (by omega) (by omega) zSm.rf (by simpa using h) (by simp) (fun m => by simp; omega)
  · have e : p / 8 ≠ 6 := fun q => e (by rw [show (p + 8) / 8 = 7 by omega]; rfl)
    refine e_add hW h (by omega) p (p + 8) 0 1 s (p + 8) w (fun K s1 h1 => ?_)
    refine vkX12_pawn_73 (s1.fix hW) ?_
    rw [q8 (by omega), show nI (p + 8) + (8 : Int32) = nI (p + 8 + 8) from nI_add _ 8]
    have lone : ¬ (p / 8 = 1 ∧ p + 16 ≠ s ∧ p + 16 ≠ w) → X 118 0 0 [] [] K := fun hno => f118 K _ s1 h1 (by simp) (fun m => by
      rw [List.mem_singleton]
      constructor
      · intro z; exact Or.inl ⟨e, n1, n2, z⟩
      · rintro (⟨_, _, _, z⟩ | ⟨a, _, _, b, c, _⟩ | ⟨a, _⟩)
        · exact z
        · exact absurd ⟨a, b, c⟩ hno
        · exact absurd a e)
    refine ⟨fun g => ⟨fun i => lone (fun z => z.2.1 ((eq (by omega) (by omega)).mp i)), fun i => ⟨fun j => lone (fun z => z.2.2 ((eq (by omega) (by omega)).mp j)), fun j => ?_⟩⟩, fun g => lone (fun z => g (by rw [z.1]; rfl))⟩
    have g : p / 8 = 1 := (nI_eq (b := 1) (by omega) (by decide)).mp g
    have i : p + 16 ≠ s := fun q => i (by rw [← q])
    have j : p + 16 ≠ w := fun q => j (by rw [← q])
    refine e_add (s1.fix hW) h1 (by simp; omega) p (p + 8 + 8) 0 1 s (p + 8 + 8) w (fun K2 s2 h2 => ?_)
    refine vkX12_pawn_118 ((s1.tr s2).fix hW) ?_
    rw [List.append_assoc] at h2
    refine f118 K2 _ (s1.tr s2) h2 (by simp) (fun m => ?_)
    simp only [List.mem_append, List.mem_singleton]
    constructor
    · rintro (z | z)
      · exact Or.inl ⟨e, n1, n2, z⟩
      · exact Or.inr (Or.inl ⟨g, n1, n2, i, j, z⟩)
    · rintro (⟨_, _, _, z⟩ | ⟨_, _, _, _, _, z⟩ | ⟨a, _⟩)
      · exact Or.inl z
      · exact Or.inr z
      · exact absurd a e
