/-! THE REFERENCE'S ENDINGS: moves of the man, the method -/
def gF (c : Nat) : Int := (c / 5 : Nat) - 2
def gR (c : Nat) : Int := (c % 5 : Nat) - 2
def gM (k s p w c : Nat) (m : Nat × Nat × Nat × Nat × Nat) : Prop := (lpB k (gF c) (gR c) = true ∨ slB k (gF c) (gR c) = true) ∧ dM (slB k (gF c) (gR c)) k s p w (gF c) (gR c) m
set_option maxHeartbeats 4000000 in
theorem e_manMoves {mc ms : Nat} {M : zM} (hW : zFix M) {L : List (Nat × Nat × Nat × Nat × Nat)} (h : eMl M L) (hl : L.length ≤ 20) {k s p w : Nat} (k2 : 2 ≤ k) (k5 : k ≤ 5) (hs : s < 64) (hp : p < 64) (hw : w < 64) {Q : zQt} (hq : ∀ K L2, zSm eC M K → eMl K (L ++ L2) → L2.length ≤ 27 → (∀ m, m ∈ L2 ↔ ∃ c, c < 25 ∧ gM k s p w c m) → Q none K) : wX12_manMoves mc ms [.ref 71, .int (nI k), .int (nI s), .int (nI p), .int (nI w)] M Q := by
  refine ⟨⟨Nat.le_of_ble_eq_true rfl, rfl⟩, fun X l0 l4 l14 l48 l49 l94 l105 l108 l112 l113 l143 l148 l150 l211 l212 l241 l258 => ?_⟩
  have kI : ∀ n : Nat, n < 2 ^ 31 → (nI k = nI n ↔ k = n) := fun n hn => nI_eq (by omega) hn
  -- one direction
  have line : ∀ (df dr : Int) (L2 : List (Nat × Nat × Nat × Nat × Nat)), -3 < df → df < 3 → -3 < dr → dr < 3 → L2.length ≤ 27 → (lpB k df dr = true → slB k df dr = false) →
      (∀ K L3, zSm eC M K → eMl K (L ++ (L2 ++ L3)) → L3.length ≤ capD k p df dr → (∀ m, m ∈ L3 ↔ (lpB k df dr = true ∨ slB k df dr = true) ∧ dM (slB k df dr) k s p w df dr m) → X 258 0 0 [.ref 71, .int (nI k), .int (nI s), .int (nI p), .int (nI w), .int (iI df), .int (iI dr)] [] K) →
      ∀ (r i : Nat) (K : zM) (L3 : List (Nat × Nat × Nat × Nat × Nat)) (on : Bool) (f q : Int), r + i = 9 → 1 ≤ i → f = ((p % 8 : Nat) : Int) + df * (i : Int) → q = ((p / 8 : Nat) : Int) + dr * (i : Int) → zSm eC M K → eMl K (L ++ (L2 ++ L3)) → (i = 1 → L3 = [] ∧ on = (lpB k df dr || slB k df dr)) → L3.length ≤ i - 1 → L3.length ≤ capD k p df dr →
      (on = true → (slB k df dr = true ∨ i = 1) ∧ ∀ j u, 1 ≤ j → j < i → dirT p df dr j u → u ≠ s ∧ u ≠ w) → (on = false → ∀ n t, i ≤ n → (lpB k df dr = true ∨ slB k df dr = true) → (slB k df dr = false → n = 1) → ¬ inD s p w df dr n t) →
      (∀ m, m ∈ L3 ↔ (lpB k df dr = true ∨ slB k df dr = true) ∧ ∃ n t, 1 ≤ n ∧ n < i ∧ (slB k df dr = false → n = 1) ∧ inD s p w df dr n t ∧ m = (p + 64 * t, k, s, t, w)) →
      X 150 0 0 [.ref 71, .int (nI k), .int (nI s), .int (nI p), .int (nI w), .int (iI df), .int (iI dr), .int (bI (slB k df dr)), .int (iI f), .int (iI q), .int (bI on)] [] K := by
    sorry
  sorry
