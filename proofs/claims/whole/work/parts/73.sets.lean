/-! SETS OF SQUARES: their squares one after the other -/
def sqs (x : Int64) : List Nat := (List.range 64).filter (bt x)
theorem pc_filter : ∀ k n, pcN k n = ((List.range k).filter (fun i => n.testBit i)).length
  | 0, _ => rfl
  | k + 1, n => by
    rw [List.range_succ_eq_map]
    show n % 2 + pcN k (n / 2) = _
    rw [pc_filter k (n / 2), List.filter_cons]
    have e : (List.map Nat.succ (List.range k)).filter (fun i => n.testBit i) = ((List.range k).filter (fun i => (n / 2).testBit i)).map Nat.succ := by
      rw [List.filter_map]
      congr 1
      apply List.filter_congr
      intro i _
      show n.testBit (i + 1) = _
      rw [Nat.testBit_succ]
    rw [e]
    by_cases q : n % 2 = 1
    · have : n.testBit 0 = true := by rw [Nat.testBit_zero]; simpa using q
      rw [this]
      simp
      omega
    · have : n.testBit 0 = false := by rw [Nat.testBit_zero]; simp; omega
      rw [this]
      simp
      omega
theorem pc_sqs (x : Int64) : pcN 64 (nn x) = (sqs x).length := pc_filter 64 (nn x)
theorem sqs_mem {x : Int64} {s : Nat} : s ∈ sqs x ↔ s < 64 ∧ bt x s = true := by
  unfold sqs
  rw [List.mem_filter, List.mem_range]
theorem sqs_len (x : Int64) : (sqs x).length ≤ 64 := by
  unfold sqs
  exact Nat.le_trans (List.length_filter_le _ _) (by simp)
theorem sqs_cons {x : Int64} {j : Nat} {t : List Nat} (h : sqs x = j :: t) : j < 64 ∧ bt x j = true ∧ (∀ i, i < j → bt x i = false) ∧ t = (List.range 64).filter (fun i => bt x i && decide (i ≠ j)) := by
  have hj : j ∈ sqs x := by rw [h]; exact List.mem_cons_self
  have hp : (sqs x).Pairwise (· < ·) := List.Pairwise.filter _ (List.pairwise_lt_range)
  rw [h] at hp
  have hlt := (List.pairwise_cons.mp hp).1
  refine ⟨(sqs_mem.mp hj).1, (sqs_mem.mp hj).2, fun i hi => ?_, ?_⟩
  · rcases hb : bt x i with _ | _
    · rfl
    · have hm : i ∈ sqs x := sqs_mem.mpr ⟨by have := (sqs_mem.mp hj).1; omega, hb⟩
      rw [h] at hm
      rcases List.mem_cons.mp hm with q | q
      · omega
      · have := hlt i q
        omega
  · have e : (List.range 64).filter (fun i => bt x i && decide (i ≠ j)) = (sqs x).filter (fun i => decide (i ≠ j)) := by
      unfold sqs
      rw [List.filter_filter]
      apply List.filter_congr
      intro i _
      exact Bool.and_comm _ _
    rw [e, h, List.filter_cons]
    have hs : ¬ decide (j ≠ j) = true := by simp
    rw [if_neg hs, List.filter_eq_self.mpr]
    intro a ha
    have := hlt a ha
    simp
    omega
theorem sqs_nil {x : Int64} : sqs x = [] ↔ x = 0 := by
  constructor
  · intro h
    apply bt_ext
    intro s hs
    rw [bt_0]
    rcases hb : bt x s with _ | _
    · rfl
    · have : s ∈ sqs x := sqs_mem.mpr ⟨hs, hb⟩
      rw [h] at this
      exact absurd this List.not_mem_nil
  · intro h
    rw [h]
    decide
theorem bt_neg (x : Int64) {s : Nat} (hs : s < 64) : bt (-x) s = (bt x s != decide (∃ j, j < s ∧ bt x j = true)) := by
  have h := BitVec.getLsbD_neg (x := x.toBitVec) (i := s)
  have e1 : bt (-x) s = (-x.toBitVec).getLsbD s := by
    unfold bt nn
    rw [Int64.toBitVec_neg]
    rfl
  rw [e1, h]
  have e2 : ∀ j, x.toBitVec.getLsbD j = bt x j := fun j => rfl
  simp only [e2]
  simp [hs]
theorem bt_low {x : Int64} {j : Nat} (hj : j < 64) (h1 : bt x j = true) (h2 : ∀ i, i < j → bt x i = false) : x &&& (-x) = jN (2 ^ j) := by
  apply bt_ext
  intro s hs
  rw [bt_and, bt_neg x hs]
  have e : bt (jN (2 ^ j)) s = decide (j = s) := by
    unfold bt
    rw [nn_jN (Nat.pow_lt_pow_right (by decide) hj), Nat.testBit_two_pow]
  rw [e]
  rcases Nat.lt_trichotomy s j with q | q | q
  · rw [h2 s q]
    simp
    omega
  · have hn : ¬ ∃ i, i < s ∧ bt x i = true := by
      rintro ⟨i, i1, i2⟩
      rw [h2 i (by omega)] at i2
      exact absurd i2 (by decide)
    rw [q] at hn ⊢
    rw [h1]
    simp [hn]
  · have hn : ∃ i, i < s ∧ bt x i = true := ⟨j, q, h1⟩
    have hd : decide (∃ i, i < s ∧ bt x i = true) = true := decide_eq_true hn
    rw [hd]
    have : decide (j = s) = false := decide_eq_false (by omega)
    rw [this]
    cases bt x s <;> rfl
theorem pc_ones : ∀ j k, j ≤ k → pcN k (2 ^ j - 1) = j
  | 0, k, _ => by
    have : ∀ k, pcN k 0 = 0 := by
      intro k
      induction k with
      | zero => rfl
      | succ k ih => show 0 % 2 + pcN k (0 / 2) = 0; rw [Nat.zero_div, ih]
    exact this k
  | j + 1, 0, h => by omega
  | j + 1, k + 1, h => by
    have := pc_ones j k (by omega)
    have hp : 0 < 2 ^ j := Nat.pow_pos (by decide)
    show (2 ^ (j + 1) - 1) % 2 + pcN k ((2 ^ (j + 1) - 1) / 2) = j + 1
    rw [Nat.pow_succ, show (2 ^ j * 2 - 1) / 2 = 2 ^ j - 1 by omega, this]
    omega
theorem c_lowest {mc ms : Nat} {M : zM} {g : Nat} (hW : zWd M g) {x : Int64} {j : Nat} {t : List Nat} (h : sqs x = j :: t) {Q : zQt} (hq : Q (some (.int (nI j))) M) : wX0_lowest mc ms [.long x] M Q := by
  obtain ⟨hj, h1, h2, -⟩ := sqs_cons h
  refine ⟨⟨Nat.le_of_ble_eq_true rfl, rfl⟩, fun X l0 => l0 _ _ _ _ _ ⟨rfl, vX0_lowest_0 hW ?_⟩⟩
  rw [bt_low hj h1 h2]
  have hp : 2 ^ j < 2 ^ 64 := Nat.pow_lt_pow_right (by decide) hj
  have hp0 : 0 < 2 ^ j := Nat.pow_pos (by decide)
  have e : nn (jN (2 ^ j) - (1 : Int64)) = 2 ^ j - 1 := by
    rw [nn_sub (by rw [nn_jN hp]; exact hp0), nn_jN hp]
    rfl
  refine c_bitCount _ (vkX0_lowest_9 hW ?_)
  rw [e, pc_ones j 64 (by omega)]
  exact hq
theorem bt_sub1 {x : Int64} (h : x ≠ 0) {s : Nat} (hs : s < 64) : bt (x - 1) s = (bt x s == decide (∃ j, j < s ∧ bt x j = true)) := by
  have e : x - 1 = (-x) ^^^ (-1) := by
    apply nn_inj
    have hn : 0 < nn x := by
      rcases Nat.eq_zero_or_pos (nn x) with q | q
      · exact absurd (nn_inj (y := 0) q) h
      · exact q
    have hl := nn_lt x
    rw [nn_sub (show nn (1 : Int64) ≤ nn x from hn)]
    have e1 : (-x ^^^ (-1)).toBitVec = ~~~(-x).toBitVec := by
      apply BitVec.eq_of_getLsbD_eq
      intro i hi
      have a := bt_not (-x) hi
      rw [BitVec.getLsbD_not]
      have b : (-x ^^^ (-1)).toBitVec.getLsbD i = bt (-x ^^^ (-1)) i := rfl
      rw [b, a]
      simp [hi]
      rfl
    unfold nn at hn hl ⊢
    rw [e1, BitVec.toNat_not, Int64.toBitVec_neg, BitVec.toNat_neg]
    show x.toBitVec.toNat - 1 = _
    omega
  rw [e, bt_not _ hs, bt_neg x hs]
  cases bt x s <;> cases decide (∃ j, j < s ∧ bt x j = true) <;> rfl
theorem sqs_next {x : Int64} {j : Nat} {t : List Nat} (h : sqs x = j :: t) : sqs (x &&& (x - 1)) = t := by
  obtain ⟨hj, h1, h2, ht⟩ := sqs_cons h
  have hx : x ≠ 0 := by
    intro q
    rw [sqs_nil.mpr q] at h
    exact absurd h (by simp)
  rw [ht]
  unfold sqs
  apply List.filter_congr
  intro s hs
  have hs := List.mem_range.mp hs
  rw [bt_and, bt_sub1 hx hs]
  rcases Nat.lt_trichotomy s j with q | q | q
  · rw [h2 s q]; rfl
  · have hn : ¬ ∃ i, i < s ∧ bt x i = true := by
      rintro ⟨i, i1, i2⟩
      rw [h2 i (by omega)] at i2
      exact absurd i2 (by decide)
    rw [decide_eq_false hn, q, h1]
    simp
  · have hn : ∃ i, i < s ∧ bt x i = true := ⟨j, q, h1⟩
    rw [decide_eq_true hn]
    have : decide (s ≠ j) = true := decide_eq_true (by omega)
    rw [this]
    cases bt x s <;> rfl
