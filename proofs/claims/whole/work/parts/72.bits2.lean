/-! SETS OF SQUARES: bits -/
theorem nn_inj {x y : Int64} (h : nn x = nn y) : x = y := Int64.toBitVec_inj.mp (BitVec.eq_of_toNat_eq h)
theorem nn_and (x y : Int64) : nn (x &&& y) = nn x &&& nn y := by
  unfold nn
  rw [Int64.toBitVec_and, BitVec.toNat_and]
theorem nn_or (x y : Int64) : nn (x ||| y) = nn x ||| nn y := by
  unfold nn
  rw [Int64.toBitVec_or, BitVec.toNat_or]
theorem nn_xor (x y : Int64) : nn (x ^^^ y) = nn x ^^^ nn y := by
  unfold nn
  rw [Int64.toBitVec_xor, BitVec.toNat_xor]
theorem nn_add (x y : Int64) : nn (x + y) = (nn x + nn y) % 2 ^ 64 := by
  unfold nn
  rw [Int64.toBitVec_add, BitVec.toNat_add]
theorem nn_sub {x y : Int64} (h : nn y ≤ nn x) : nn (x - y) = nn x - nn y := by
  unfold nn at h ⊢
  rw [Int64.toBitVec_sub, BitVec.toNat_sub_of_le h]
theorem shA : ∀ t, t < 64 → ((nI t).toInt64.toUInt64 &&& Int64.toUInt64 63) = UInt64.ofNat t := by decide +kernel
theorem shB : ∀ t, t < 64 → ((nI t).toInt64 &&& 63) = Int64.ofNat t := by decide +kernel
theorem nn_shr (x : Int64) {t : Nat} (ht : t < 64) : nn ((x.toUInt64 >>> ((nI t).toInt64.toUInt64 &&& Int64.toUInt64 63)).toInt64) = nn x / 2 ^ t := by
  rw [shA t ht]
  show (x.toUInt64 >>> UInt64.ofNat t).toBitVec.toNat = _
  rw [UInt64.toBitVec_shiftRight]
  have : (UInt64.ofNat t).toBitVec % 64 = BitVec.ofNat 64 t := by
    apply BitVec.eq_of_toNat_eq
    show (BitVec.ofNat 64 t % 64#64).toNat = _
    rw [BitVec.toNat_umod, BitVec.toNat_ofNat, Nat.mod_eq_of_lt (show t < 2 ^ 64 by omega)]
    show t % 64 = t
    omega
  rw [this, BitVec.ushiftRight_eq', BitVec.toNat_ushiftRight, BitVec.toNat_ofNat, Nat.mod_eq_of_lt (show t < 2 ^ 64 by omega), Nat.shiftRight_eq_div_pow]
  rfl
theorem nn_jN {n : Nat} (h : n < 2 ^ 64) : nn (jN n) = n := by
  show (BitVec.ofNat 64 n).toNat = n
  rw [BitVec.toNat_ofNat, Nat.mod_eq_of_lt h]
theorem lit_nn : nn (6148914691236517205 : Int64) = m55 32 ∧ nn (3689348814741910323 : Int64) = m33 16 ∧ nn (1085102592571150095 : Int64) = m0f 8 := by decide
theorem c_bitCount {mc ms : Nat} {M : zM} (x : Int64) {Q : zQt} (hq : Q (some (.int (nI (pcN 64 (nn x))))) M) : wJ13_bitCount_95d88 mc ms [.long x] M Q := by
  refine ⟨⟨Nat.le_of_ble_eq_true rfl, rfl⟩, fun X l0 => ?_⟩
  refine l0 _ _ _ _ _ ⟨rfl, vJ13_bitCount_95d88_0 (fun y1 h1 y2 h2 y3 h3 y4 h4 y5 h5 y6 h6 => ?_)⟩
  obtain ⟨k1, k2, k3⟩ := lit_nn
  have hx := nn_lt x
  have e1 : nn y1 = p2 32 (nn x) := by
    have s1 := nn_shr x (t := 1) (by decide)
    have s2 := st1 32 (nn x) (by rw [show (4 : Nat) ^ 32 = 2 ^ 64 from by decide]; exact hx)
    have s3 : nn (((x.toUInt64 >>> ((1 : Int32).toInt64.toUInt64 &&& Int64.toUInt64 63)).toInt64) &&& (6148914691236517205 : Int64)) = (nn x / 2 &&& m55 32) := by
      rw [nn_and, k1, show nn ((x.toUInt64 >>> ((1 : Int32).toInt64.toUInt64 &&& Int64.toUInt64 63)).toInt64) = nn x / 2 ^ 1 from s1]
    rw [h1, nn_sub (by rw [s3]; exact s2.1), s3]
    exact s2.2
  have e2 : nn y2 = g4 16 (nn x) := by
    have s1 := nn_shr y1 (t := 2) (by decide)
    have s2 := st2 16 (nn y1)
    have hb : ∀ k n, p4 k n < 16 ^ k := by
      intro k
      induction k with
      | zero => intro n; show 0 < 1; decide
      | succ k ih =>
        intro n
        have := ih (n / 16)
        unfold p4
        rw [Nat.pow_succ]
        omega
    have hb := hb 16 (nn y1)
    rw [h2, nn_add, nn_and, nn_and, k2, show nn ((y1.toUInt64 >>> ((2 : Int32).toInt64.toUInt64 &&& Int64.toUInt64 63)).toInt64) = nn y1 / 2 ^ 2 from s1, show (2 : Nat) ^ 2 = 4 from rfl, s2, Nat.mod_eq_of_lt (by rw [show (2 : Nat) ^ 64 = 16 ^ 16 from by decide]; exact hb), e1]
    exact p4p2 16 (nn x)
  have e3 : nn y3 = g8 8 (nn x) := by
    have s1 := nn_shr y2 (t := 4) (by decide)
    have s3 := st3 8 (nn x)
    have hb : ∀ k n, 3 * g4 k n < 16 ^ k := by
      intro k
      induction k with
      | zero => intro n; show 0 < 1; decide
      | succ k ih =>
        intro n
        have := ih (n / 16)
        have := pcN_le 4 n
        unfold g4
        rw [Nat.pow_succ]
        omega
    have hb := hb 16 (nn x)
    rw [show (16 : Nat) ^ 16 = 2 ^ 64 from by decide] at hb
    rw [h3, nn_and, k3, nn_add, show nn ((y2.toUInt64 >>> ((4 : Int32).toInt64.toUInt64 &&& Int64.toUInt64 63)).toInt64) = nn y2 / 2 ^ 4 from s1, e2, Nat.mod_eq_of_lt (by omega)]
    exact s3
  have hs := st4 (nn x)
  have e4 : nn y4 = g8 8 (nn x) + g8 8 (nn x) / 2 ^ 8 := by
    have s1 := nn_shr y3 (t := 8) (by decide)
    rw [h4, nn_add, show nn ((y3.toUInt64 >>> ((8 : Int32).toInt64.toUInt64 &&& Int64.toUInt64 63)).toInt64) = nn y3 / 2 ^ 8 from s1, e3, Nat.mod_eq_of_lt (by have := hs.2; omega)]
  have e5 : nn y5 = nn y4 + nn y4 / 2 ^ 16 := by
    have s1 := nn_shr y4 (t := 16) (by decide)
    rw [h5, nn_add, show nn ((y4.toUInt64 >>> ((16 : Int32).toInt64.toUInt64 &&& Int64.toUInt64 63)).toInt64) = nn y4 / 2 ^ 16 from s1, Nat.mod_eq_of_lt (by have := hs.2; omega)]
  have e6 : nn y6 = nn y5 + nn y5 / 2 ^ 32 := by
    have s1 := nn_shr y5 (t := 32) (by decide)
    rw [h6, nn_add, show nn ((y5.toUInt64 >>> ((32 : Int32).toInt64.toUInt64 &&& Int64.toUInt64 63)).toInt64) = nn y5 / 2 ^ 32 from s1, Nat.mod_eq_of_lt (by have := hs.2; omega)]
  have e7 : y6.toInt32 &&& (127 : Int32) = nI (pcN 64 (nn x)) := by
    rw [pk_and _ (m := 127) 7 (by decide)]
    have : y6.toInt32.toBitVec.toNat = nn y6 % 2 ^ 32 := by
      show (y6.toInt32).toBitVec.toNat = y6.toBitVec.toNat % 2 ^ 32
      rw [Int64.toBitVec_toInt32, BitVec.signExtend_eq_setWidth_of_le _ (by decide), BitVec.toNat_setWidth]
    rw [this, ← hs.1, ← e4, ← e5, ← e6]
    congr 1
    omega
  rw [e7]
  exact hq
/-- whether a square is in a set -/
def bt (x : Int64) (s : Nat) : Bool := (nn x).testBit s
theorem bt_ext {x y : Int64} (h : ∀ s, s < 64 → bt x s = bt y s) : x = y := by
  apply nn_inj
  apply Nat.eq_of_testBit_eq
  intro i
  by_cases hi : i < 64
  · exact h i hi
  · have e : (2 : Nat) ^ 64 ≤ 2 ^ i := Nat.pow_le_pow_right (by decide) (by omega)
    rw [Nat.testBit_lt_two_pow (Nat.lt_of_lt_of_le (nn_lt x) e), Nat.testBit_lt_two_pow (Nat.lt_of_lt_of_le (nn_lt y) e)]
theorem bt_ge {x : Int64} {s : Nat} (h : 64 ≤ s) : bt x s = false := by
  have e : (2 : Nat) ^ 64 ≤ 2 ^ s := Nat.pow_le_pow_right (by decide) h
  exact Nat.testBit_lt_two_pow (Nat.lt_of_lt_of_le (nn_lt x) e)
theorem bt_and (x y : Int64) (s : Nat) : bt (x &&& y) s = (bt x s && bt y s) := by
  unfold bt
  rw [nn_and, Nat.testBit_and]
theorem bt_or (x y : Int64) (s : Nat) : bt (x ||| y) s = (bt x s || bt y s) := by
  unfold bt
  rw [nn_or, Nat.testBit_or]
theorem nn_m1 : nn (-1 : Int64) = 2 ^ 64 - 1 := by decide
theorem bt_not (x : Int64) {s : Nat} (hs : s < 64) : bt (x ^^^ (-1)) s = !bt x s := by
  unfold bt
  rw [nn_xor, Nat.testBit_xor, nn_m1, Nat.testBit_two_pow_sub_one]
  simp [hs]
theorem bt_0 (s : Nat) : bt 0 s = false := by
  unfold bt
  rw [show nn (0 : Int64) = 0 from rfl, Nat.zero_testBit]
theorem nn_one {t : Nat} (ht : t < 64) : nn ((1 : Int64) <<< ((nI t).toInt64 &&& 63)) = 2 ^ t := by
  rw [shB t ht]
  have h : ∀ t, t < 64 → nn ((1 : Int64) <<< Int64.ofNat t) = 2 ^ t := by decide +kernel
  exact h t ht
theorem bt_one {t : Nat} (ht : t < 64) (s : Nat) : bt ((1 : Int64) <<< ((nI t).toInt64 &&& 63)) s = decide (t = s) := by
  unfold bt
  rw [nn_one ht, Nat.testBit_two_pow]
theorem bt_shr (x : Int64) {t : Nat} (ht : t < 64) (s : Nat) : bt ((x.toUInt64 >>> ((nI t).toInt64.toUInt64 &&& Int64.toUInt64 63)).toInt64) s = bt x (t + s) := by
  unfold bt
  rw [nn_shr x ht, Nat.testBit_div_two_pow, Nat.add_comm]
/-- the lowest bit of a long that is not 0: what stands below it, and how to be rid of it -/
theorem low_ex : ∀ (n k : Nat), n < 2 ^ k → 0 < n → ∃ j, j < k ∧ n.testBit j = true ∧ ∀ i, i < j → n.testBit i = false
  | n, 0, h, h0 => by omega
  | n, k + 1, h, h0 => by
    by_cases q : n % 2 = 1
    · exact ⟨0, by omega, by rw [Nat.testBit_zero]; simpa using q, fun i hi => absurd hi (by omega)⟩
    · obtain ⟨j, j1, j2, j3⟩ := low_ex (n / 2) k (by rw [Nat.pow_succ] at h; omega) (by omega)
      refine ⟨j + 1, by omega, by rw [Nat.testBit_succ]; exact j2, fun i hi => ?_⟩
      cases i with
      | zero => rw [Nat.testBit_zero]; simp; omega
      | succ i => rw [Nat.testBit_succ]; exact j3 i (by omega)
theorem low_form {n j : Nat} (h1 : n.testBit j = true) (h2 : ∀ i, i < j → n.testBit i = false) : ∃ q, n = 2 ^ j * (2 * q + 1) := by
  have hz : n % 2 ^ j = 0 := by
    apply Nat.eq_of_testBit_eq
    intro i
    rw [Nat.testBit_mod_two_pow, Nat.zero_testBit]
    by_cases q : i < j
    · rw [h2 i q]; simp
    · simp [q]
  have hd : n / 2 ^ j % 2 = 1 := by
    have := Nat.testBit_eq_decide_div_mod_eq (x := n) (i := j)
    rw [h1] at this
    simpa using this.symm
  refine ⟨n / 2 ^ j / 2, ?_⟩
  have := Nat.div_add_mod n (2 ^ j)
  rw [hz, Nat.add_zero] at this
  rw [show 2 * (n / 2 ^ j / 2) + 1 = n / 2 ^ j by omega]
  exact this.symm
