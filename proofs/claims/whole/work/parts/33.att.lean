/-! ATTACKS: a board is square -> man (0 none, 1..6 white P N B R Q K, 7..12 black) -/
def kd (m : Nat) : Nat := if m ≤ 6 then m else m - 6
def sdI (m : Nat) : Int := if m = 0 then -1 else if 7 ≤ m then 1 else 0
def dF (a b : Nat) : Int := (b % 8 : Nat) - (a % 8 : Nat)
def dR (a b : Nat) : Int := (b / 8 : Nat) - (a / 8 : Nat)
def aI (z : Int) : Int := if 0 ≤ z then z else -z
def sgn (z : Int) : Int := if z ≤ 0 then (if 0 ≤ z then 0 else -1) else 1
/-- one step from a towards b -/
def stp (a b : Nat) : Int := 8 * sgn (dR a b) + sgn (dF a b)
/-- how many steps -/
def stn (a b : Nat) : Nat := max (dF a b).natAbs (dR a b).natAbs
/-- the square i steps from a towards b -/
def sqA (a b i : Nat) : Nat := ((a : Int) + stp a b * i).toNat
def slides (k : Nat) (a b : Nat) : Prop := (dF a b = 0 ∨ dR a b = 0) ∧ k ≠ 3 ∨ aI (dF a b) = aI (dR a b) ∧ k ≠ 4
/-- the man on a attacks b -/
def att (B : Nat → Nat) (a b : Nat) : Prop := kd (B a) ≠ 0 ∧ a ≠ b ∧ (kd (B a) = 1 → aI (dF a b) = 1 ∧ dR a b = (if B a = 1 then 1 else -1)) ∧ (kd (B a) = 2 → aI (dF a b) * aI (dR a b) = 2) ∧ (kd (B a) = 6 → aI (dF a b) < 2 ∧ aI (dR a b) < 2) ∧
  (kd (B a) ≠ 1 → kd (B a) ≠ 2 → kd (B a) ≠ 6 → slides (kd (B a)) a b ∧ ∀ i : Nat, 1 ≤ i → i < stn a b → B (sqA a b i) = 0)
/-- squares in a line: where the steps lead -/
theorem geo_line : (List.range 64).all (fun a => (List.range 64).all (fun b => decide (a = b) || !(decide (dF a b = 0) || decide (dR a b = 0) || decide (aI (dF a b) = aI (dR a b))) || (decide (1 ≤ stn a b) && decide (stn a b ≤ 7) && decide (stp a b ≠ 0) && decide ((a : Int) + stp a b * (stn a b : Nat) = b) && (List.range 8).all (fun i => decide (i < 1) || decide (stn a b ≤ i) || (decide (0 ≤ (a : Int) + stp a b * (i : Nat)) && decide ((a : Int) + stp a b * (i : Nat) < 64)))))) = true := by decide +kernel
theorem line_of {a b : Nat} (ha : a < 64) (hb : b < 64) (hne : a ≠ b) (h : dF a b = 0 ∨ dR a b = 0 ∨ aI (dF a b) = aI (dR a b)) : 1 ≤ stn a b ∧ stn a b ≤ 7 ∧ stp a b ≠ 0 ∧ (a : Int) + stp a b * (stn a b : Nat) = b ∧ ∀ i : Nat, 1 ≤ i → i < stn a b → 0 ≤ (a : Int) + stp a b * (i : Nat) ∧ (a : Int) + stp a b * (i : Nat) < 64 := by
  have h1 := List.all_eq_true.mp geo_line a (List.mem_range.mpr ha)
  have h2 := List.all_eq_true.mp h1 b (List.mem_range.mpr hb)
  simp only [Bool.or_eq_true, Bool.and_eq_true, decide_eq_true_eq, Bool.not_eq_true', List.all_eq_true, List.mem_range] at h2
  rcases h2 with (h2 | h2) | h2
  · exact absurd h2 hne
  · exfalso
    simp only [Bool.or_eq_false_iff, decide_eq_false_iff_not] at h2
    rcases h with h | h | h
    · exact h2.1.1 h
    · exact h2.1.2 h
    · exact h2.2 h
  · obtain ⟨⟨⟨⟨g1, g2⟩, g3⟩, g4⟩, g5⟩ := h2
    refine ⟨g1, g2, g3, g4, fun i hi1 hi2 => ?_⟩
    rcases g5 i (by omega) with (q | q) | q
    · omega
    · omega
    · exact q
theorem dF_bd {a b : Nat} : -8 < dF a b ∧ dF a b < 8 := by
  unfold dF
  omega
theorem dR_bd {a b : Nat} (ha : a < 64) (hb : b < 64) : -8 < dR a b ∧ dR a b < 8 := by
  unfold dR
  omega
theorem aI_bd {z : Int} (h : -8 < z ∧ z < 8) : 0 ≤ aI z ∧ aI z < 8 := by
  unfold aI
  split <;> omega
/-- a reference's board: at place p of the row of those looked ahead to -/
def rBd (M : zM) (p : Nat) (B : Nat → Nat) : Prop := ∀ s, s < 64 → M.1 65 (p + s) = nI (B s) ∧ B s ≤ 12
theorem c_sideOf {mc ms : Nat} {M : zM} (hW : zFix M) (n : Nat) (hn : n < 2 ^ 31) {Q : zQt} (hq : Q (some (.int (iI (sdI n)))) M) : wX13_sideOf mc ms [.int (nI n)] M Q := by
  refine ⟨⟨Nat.le_of_ble_eq_true rfl, rfl⟩, fun X h0 h19 => ?_⟩
  have fin : ∀ z, z = iI (sdI n) → X 19 0 0 [] [.int z] M := fun z hz => h19 _ _ _ _ _ ⟨rfl, vX13_sideOf_19 hW (by rw [hz]; exact hq)⟩
  refine h0 _ _ _ _ _ ⟨rfl, vX13_sideOf_0 hW ?_⟩
  refine ⟨fun c => fin _ ?_, fun c => ⟨fun d => fin _ ?_, fun d => fin _ ?_⟩⟩
  · have : n = 0 := (nI_eq (a := n) (b := 0) hn (by decide)).mp c
    rw [this]; rfl
  · have h7 : 7 ≤ n := (nI_leI (a := 7) (b := n) (by decide) hn).mp d
    unfold sdI
    rw [if_neg (by omega), if_pos h7]; rfl
  · have h7 : ¬ 7 ≤ n := fun q => d ((nI_leI (a := 7) (b := n) (by decide) hn).mpr q)
    have h0 : n ≠ 0 := fun q => c ((nI_eq (a := n) (b := 0) hn (by decide)).mpr q)
    unfold sdI
    rw [if_neg h0, if_neg h7]; rfl
theorem c_kindOf {mc ms : Nat} {M : zM} (hW : zFix M) (n : Nat) (hn : n < 2 ^ 31) {Q : zQt} (hq : Q (some (.int (nI (kd n)))) M) : wX13_kindOf mc ms [.int (nI n)] M Q := by
  refine ⟨⟨Nat.le_of_ble_eq_true rfl, rfl⟩, fun X h0 h14 => ?_⟩
  have fin : ∀ z, z = nI (kd n) → X 14 0 0 [] [.int z] M := fun z hz => h14 _ _ _ _ _ ⟨rfl, vX13_kindOf_14 hW (by rw [hz]; exact hq)⟩
  refine h0 _ _ _ _ _ ⟨rfl, vX13_kindOf_0 hW ?_⟩
  refine ⟨fun c => fin _ ?_, fun c => fin _ ?_⟩
  · have : n ≤ 6 := (nI_leI (a := n) (b := 6) hn (by decide)).mp c
    unfold kd
    rw [if_pos this]
  · have : ¬ n ≤ 6 := fun q => c ((nI_leI (a := n) (b := 6) hn (by decide)).mpr q)
    unfold kd
    rw [if_neg this]
    exact pk_sub (a := n) (b := 6) (by omega)
theorem c_amount {mc ms : Nat} {M : zM} (hW : zFix M) (z : Int) (h1 : -2147483648 < z) (h2 : z < 2147483648) {Q : zQt} (hq : Q (some (.int (iI (aI z)))) M) : wX13_amount mc ms [.int (iI z)] M Q := by
  refine ⟨⟨Nat.le_of_ble_eq_true rfl, rfl⟩, fun X h0 h10 => ?_⟩
  have fin : ∀ y, y = iI (aI z) → X 10 0 0 [] [.int y] M := fun y hy => h10 _ _ _ _ _ ⟨rfl, vX13_amount_10 hW (by rw [hy]; exact hq)⟩
  refine h0 _ _ _ _ _ ⟨rfl, vX13_amount_0 hW ?_⟩
  have e0 : (0 : Int32) ≤ iI z ↔ 0 ≤ z := iI_le (a := 0) (b := z) (by decide) (by decide) (by omega) h2
  refine ⟨fun c => fin _ ?_, fun c => fin _ ?_⟩
  · unfold aI
    rw [if_pos (e0.mp c)]
  · unfold aI
    rw [if_neg (fun q => c (e0.mpr q)), iI_neg]
