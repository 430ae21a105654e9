/-! SETS OF SQUARES: how many bits a long has -/
def nn (x : Int64) : Nat := x.toBitVec.toNat
theorem nn_lt (x : Int64) : nn x < 2 ^ 64 := x.toBitVec.isLt
def pcN : Nat → Nat → Nat
  | 0, _ => 0
  | k + 1, n => n % 2 + pcN k (n / 2)
theorem pcN_le : ∀ k n, pcN k n ≤ k
  | 0, _ => Nat.le_refl _
  | k + 1, n => by
    have := pcN_le k (n / 2)
    unfold pcN
    omega
theorem and_cut (x y k : Nat) : x &&& y = 2 ^ k * (x / 2 ^ k &&& y / 2 ^ k) + (x % 2 ^ k &&& y % 2 ^ k) := by
  rw [← Nat.and_div_two_pow, ← Nat.and_mod_two_pow]
  exact (Nat.div_add_mod _ _).symm
def m55 : Nat → Nat
  | 0 => 0
  | k + 1 => 4 * m55 k + 1
def m33 : Nat → Nat
  | 0 => 0
  | k + 1 => 16 * m33 k + 3
def m0f : Nat → Nat
  | 0 => 0
  | k + 1 => 256 * m0f k + 15
def p2 : Nat → Nat → Nat
  | 0, _ => 0
  | k + 1, n => 4 * p2 k (n / 4) + (n % 2 + n / 2 % 2)
theorem st1 : ∀ k n, n < 4 ^ k → (n / 2 &&& m55 k) ≤ n ∧ n - (n / 2 &&& m55 k) = p2 k n
  | 0, n, h => by
    have : n = 0 := by simpa using h
    subst this
    exact ⟨by decide, by decide⟩
  | k + 1, n, h => by
    have h4 : n / 4 < 4 ^ k := by
      rw [Nat.pow_succ] at h
      omega
    obtain ⟨i1, i2⟩ := st1 k (n / 4) h4
    have e : (n / 2 &&& m55 (k + 1)) = 4 * (n / 4 / 2 &&& m55 k) + n / 2 % 2 := by
      rw [and_cut _ _ 2]
      have a1 : n / 2 / 2 ^ 2 = n / 4 / 2 := by omega
      have a2 : m55 (k + 1) / 2 ^ 2 = m55 k := by show (4 * m55 k + 1) / 2 ^ 2 = _; omega
      have a3 : m55 (k + 1) % 2 ^ 2 = 1 := by show (4 * m55 k + 1) % 2 ^ 2 = _; omega
      rw [a1, a2, a3, Nat.and_one_is_mod]
      omega
    rw [e]
    unfold p2
    omega
def p4 : Nat → Nat → Nat
  | 0, _ => 0
  | k + 1, n => 16 * p4 k (n / 16) + (n % 4 + n / 4 % 4)
theorem and3 (n : Nat) : n % 2 ^ 4 &&& 3 = n % 4 := by
  have := Nat.and_two_pow_sub_one_eq_mod (n % 2 ^ 4) 2
  rw [show (2 ^ 2 - 1 : Nat) = 3 from rfl] at this
  rw [this]
  omega
theorem and15 (n : Nat) : n % 2 ^ 8 &&& 15 = n % 16 := by
  have := Nat.and_two_pow_sub_one_eq_mod (n % 2 ^ 8) 4
  rw [show (2 ^ 4 - 1 : Nat) = 15 from rfl] at this
  rw [this]
  omega
theorem st2 : ∀ k n, (n &&& m33 k) + (n / 4 &&& m33 k) = p4 k n
  | 0, n => by
    show (n &&& 0) + (n / 4 &&& 0) = 0
    rw [Nat.and_zero, Nat.and_zero]
  | k + 1, n => by
    have ih := st2 k (n / 16)
    have a2 : m33 (k + 1) / 2 ^ 4 = m33 k := by show (16 * m33 k + 3) / 2 ^ 4 = _; omega
    have a3 : m33 (k + 1) % 2 ^ 4 = 3 := by show (16 * m33 k + 3) % 2 ^ 4 = _; omega
    rw [and_cut n _ 4, and_cut (n / 4) _ 4, a2, a3, and3, and3, show n / 2 ^ 4 = n / 16 from rfl, show n / 4 / 2 ^ 4 = n / 16 / 4 by omega]
    unfold p4
    omega
def g4 : Nat → Nat → Nat
  | 0, _ => 0
  | k + 1, n => 16 * g4 k (n / 16) + pcN 4 n
theorem pc4 (n : Nat) : pcN 4 n = (n % 2 + n / 2 % 2) + (n / 4 % 2 + n / 4 / 2 % 2) := by
  simp only [pcN]
  omega
theorem p4p2 : ∀ k n, p4 k (p2 (2 * k) n) = g4 k n
  | 0, _ => rfl
  | k + 1, n => by
    have ih := p4p2 k (n / 16)
    have e : p2 (2 * (k + 1)) n = 4 * (4 * p2 (2 * k) (n / 4 / 4) + (n / 4 % 2 + n / 4 / 2 % 2)) + (n % 2 + n / 2 % 2) := rfl
    rw [show n / 4 / 4 = n / 16 by omega] at e
    unfold p4 g4
    rw [e, pc4]
    have e16 : (4 * (4 * p2 (2 * k) (n / 16) + (n / 4 % 2 + n / 4 / 2 % 2)) + (n % 2 + n / 2 % 2)) / 16 = p2 (2 * k) (n / 16) := by omega
    rw [e16, ih]
    omega
def g8 : Nat → Nat → Nat
  | 0, _ => 0
  | k + 1, n => 256 * g8 k (n / 256) + pcN 8 n
theorem pc8 (n : Nat) : pcN 8 n = pcN 4 n + pcN 4 (n / 16) := by
  simp only [pcN]
  omega
theorem g4_d (k n : Nat) : g4 k n % 16 ≤ 4 := by
  cases k with
  | zero => exact Nat.zero_le _
  | succ k =>
    have := pcN_le 4 n
    unfold g4
    omega
theorem st3 : ∀ k n, (g4 (2 * k) n + g4 (2 * k) n / 16 &&& m0f k) = g8 k n
  | 0, n => by
    show (_ &&& 0) = 0
    rw [Nat.and_zero]
  | k + 1, n => by
    have ih := st3 k (n / 256)
    have e : g4 (2 * (k + 1)) n = 16 * (16 * g4 (2 * k) (n / 16 / 16) + pcN 4 (n / 16)) + pcN 4 n := rfl
    rw [show n / 16 / 16 = n / 256 by omega] at e
    have b1 := pcN_le 4 n
    have b2 := pcN_le 4 (n / 16)
    have b3 := g4_d (2 * k) (n / 256)
    rw [e]
    generalize g4 (2 * k) (n / 256) = y at ih b3
    have a2 : m0f (k + 1) / 2 ^ 8 = m0f k := by show (256 * m0f k + 15) / 2 ^ 8 = _; omega
    have a3 : m0f (k + 1) % 2 ^ 8 = 15 := by show (256 * m0f k + 15) % 2 ^ 8 = _; omega
    rw [and_cut _ _ 8, a2, a3, and15]
    have c1 : (16 * (16 * y + pcN 4 (n / 16)) + pcN 4 n + (16 * (16 * y + pcN 4 (n / 16)) + pcN 4 n) / 16) / 2 ^ 8 = y + y / 16 := by omega
    have c2 : (16 * (16 * y + pcN 4 (n / 16)) + pcN 4 n + (16 * (16 * y + pcN 4 (n / 16)) + pcN 4 n) / 16) % 16 = pcN 4 n + pcN 4 (n / 16) := by omega
    rw [c1, c2, ih]
    show _ = 256 * g8 k (n / 256) + pcN 8 n
    rw [pc8]
theorem pcN_add : ∀ j k n, pcN (j + k) n = pcN j n + pcN k (n / 2 ^ j)
  | 0, k, n => by
    rw [Nat.zero_add, Nat.pow_zero, Nat.div_one]
    show _ = 0 + _
    omega
  | j + 1, k, n => by
    have := pcN_add j k (n / 2)
    rw [show j + 1 + k = (j + k) + 1 by omega]
    show n % 2 + pcN (j + k) (n / 2) = (n % 2 + pcN j (n / 2)) + pcN k (n / 2 ^ (j + 1))
    rw [this, Nat.pow_succ', ← Nat.div_div_eq_div_mul]
    omega
theorem cutD {p q m : Nat} (h : p < m) : (p + m * q) / m = q := by
  rw [Nat.add_mul_div_left _ _ (by omega), Nat.div_eq_of_lt h, Nat.zero_add]
theorem fin8 {x0 x1 x2 x3 x4 x5 x6 x7 X1 X2 X3 X4 X5 X6 a : Nat} (b0 : x0 ≤ 8) (b1 : x1 ≤ 8) (b2 : x2 ≤ 8) (b3 : x3 ≤ 8) (b4 : x4 ≤ 8) (b5 : x5 ≤ 8) (b6 : x6 ≤ 8) (b7 : x7 ≤ 8) (e : a = x0 + 256 * X1) (e1 : X1 = x1 + 256 * X2) (e2 : X2 = x2 + 256 * X3) (e3 : X3 = x3 + 256 * X4) (e4 : X4 = x4 + 256 * X5) (e5 : X5 = x5 + 256 * X6) (e6 : X6 = x6 + 256 * x7) : (a + a / 2 ^ 8 + (a + a / 2 ^ 8) / 2 ^ 16 + (a + a / 2 ^ 8 + (a + a / 2 ^ 8) / 2 ^ 16) / 2 ^ 32) % 128 = x0 + (x1 + (x2 + (x3 + (x4 + (x5 + (x6 + x7)))))) ∧ a < 2 ^ 60 := by
  have h8 : a / 2 ^ 8 = X1 := by
    rw [e]
    exact cutD (m := 256) (by omega)
  have hb : a + X1 = (x0 + x1 + 256 * (x1 + x2)) + 65536 * (X2 + X3) := by
    clear e3 e4 e5 e6 b0 b1 b2 b3 b4 b5 b6 b7 h8
    omega
  have h16 : (a + X1) / 2 ^ 16 = X2 + X3 := by
    rw [hb]
    exact cutD (m := 65536) (by omega)
  have hc : a + X1 + (X2 + X3) = (x0 + x1 + x2 + x3) + 256 * (x1 + x2 + x3 + x4) + 65536 * (x2 + x3 + x4 + x5) + 16777216 * (x3 + x4 + x5 + x6) + 4294967296 * (X4 + X5 + X6 + x7) := by
    rw [hb]
    clear e1 e b0 b1 b2 b3 b4 b5 b6 b7 h8 hb h16
    subst e2
    subst e3
    subst e4
    subst e5
    subst e6
    omega
  have h32 : (a + X1 + (X2 + X3)) / 2 ^ 32 = X4 + X5 + X6 + x7 := by
    rw [hc]
    exact cutD (m := 4294967296) (by clear hc h16 hb h8 e e1 e2 e3 e4 e5 e6; omega)
  rw [h8, h16, h32, hc]
  have hd : (x0 + x1 + x2 + x3) + 256 * (x1 + x2 + x3 + x4) + 65536 * (x2 + x3 + x4 + x5) + 16777216 * (x3 + x4 + x5 + x6) + 4294967296 * (X4 + X5 + X6 + x7) + (X4 + X5 + X6 + x7) = (x0 + (x1 + (x2 + (x3 + (x4 + (x5 + (x6 + x7))))))) + 128 * (2 * ((x1 + x2 + x3 + x4) + 256 * (x2 + x3 + x4 + x5) + 65536 * (x3 + x4 + x5 + x6) + 16777216 * (X4 + X5 + X6 + x7) + X5 + X6 + x7)) := by
    clear hc h16 hb h8 h32 e e1 e2 e3 b0 b1 b2 b3 b4 b5 b6 b7
    omega
  refine ⟨?_, ?_⟩
  · rw [hd, Nat.add_mul_mod_self_left, Nat.mod_eq_of_lt (by clear hd hc h16 hb h8 h32 e e1 e2 e3 e4 e5 e6; omega)]
  · clear hd hc h16 hb h8 h32
    have c6 : X6 ≤ 3000 := by omega
    have c5 : X5 ≤ 1000000 := by omega
    have c4 : X4 ≤ 300000000 := by omega
    have c3 : X3 ≤ 80000000000 := by omega
    have c2 : X2 ≤ 21000000000000 := by omega
    have c1 : X1 ≤ 3000000000000000 := by
      have : x1 ≤ 8 := b1
      omega
    omega
theorem st4 (n : Nat) : (g8 8 n + g8 8 n / 2 ^ 8 + (g8 8 n + g8 8 n / 2 ^ 8) / 2 ^ 16 + (g8 8 n + g8 8 n / 2 ^ 8 + (g8 8 n + g8 8 n / 2 ^ 8) / 2 ^ 16) / 2 ^ 32) % 128 = pcN 64 n ∧ g8 8 n < 2 ^ 60 := by
  have s : pcN 64 n = pcN 8 n + (pcN 8 (n / 2 ^ 8) + (pcN 8 (n / 2 ^ 16) + (pcN 8 (n / 2 ^ 24) + (pcN 8 (n / 2 ^ 32) + (pcN 8 (n / 2 ^ 40) + (pcN 8 (n / 2 ^ 48) + pcN 8 (n / 2 ^ 56))))))) := by
    have h1 := pcN_add 8 56 n
    have h2 := pcN_add 8 48 (n / 2 ^ 8)
    have h3 := pcN_add 8 40 (n / 2 ^ 16)
    have h4 := pcN_add 8 32 (n / 2 ^ 24)
    have h5 := pcN_add 8 24 (n / 2 ^ 32)
    have h6 := pcN_add 8 16 (n / 2 ^ 40)
    have h7 := pcN_add 8 8 (n / 2 ^ 48)
    rw [show n / 2 ^ 8 / 2 ^ 8 = n / 2 ^ 16 by omega] at h2
    rw [show n / 2 ^ 16 / 2 ^ 8 = n / 2 ^ 24 by omega] at h3
    rw [show n / 2 ^ 24 / 2 ^ 8 = n / 2 ^ 32 by omega] at h4
    rw [show n / 2 ^ 32 / 2 ^ 8 = n / 2 ^ 40 by omega] at h5
    rw [show n / 2 ^ 40 / 2 ^ 8 = n / 2 ^ 48 by omega] at h6
    rw [show n / 2 ^ 48 / 2 ^ 8 = n / 2 ^ 56 by omega] at h7
    rw [← h7, ← h6, ← h5, ← h4, ← h3, ← h2, ← h1]
  rw [s]
  have q1 : n / 256 / 256 = n / 2 ^ 16 := by omega
  have q2 : n / 2 ^ 16 / 256 = n / 2 ^ 24 := by omega
  have q3 : n / 2 ^ 24 / 256 = n / 2 ^ 32 := by omega
  have q4 : n / 2 ^ 32 / 256 = n / 2 ^ 40 := by omega
  have q5 : n / 2 ^ 40 / 256 = n / 2 ^ 48 := by omega
  have q6 : n / 2 ^ 48 / 256 = n / 2 ^ 56 := by omega
  refine fin8 (X1 := g8 7 (n / 256)) (X2 := g8 6 (n / 2 ^ 16)) (X3 := g8 5 (n / 2 ^ 24)) (X4 := g8 4 (n / 2 ^ 32)) (X5 := g8 3 (n / 2 ^ 40)) (X6 := g8 2 (n / 2 ^ 48)) (pcN_le 8 _) (pcN_le 8 _) (pcN_le 8 _) (pcN_le 8 _) (pcN_le 8 _) (pcN_le 8 _) (pcN_le 8 _) (pcN_le 8 _) ?_ ?_ ?_ ?_ ?_ ?_ ?_
  · show 256 * g8 7 (n / 256) + pcN 8 n = _
    exact Nat.add_comm _ _
  · show 256 * g8 6 (n / 256 / 256) + pcN 8 (n / 256) = _
    rw [q1]
    exact Nat.add_comm _ _
  · show 256 * g8 5 (n / 2 ^ 16 / 256) + pcN 8 (n / 2 ^ 16) = _
    rw [q2]
    exact Nat.add_comm _ _
  · show 256 * g8 4 (n / 2 ^ 24 / 256) + pcN 8 (n / 2 ^ 24) = _
    rw [q3]
    exact Nat.add_comm _ _
  · show 256 * g8 3 (n / 2 ^ 32 / 256) + pcN 8 (n / 2 ^ 32) = _
    rw [q4]
    exact Nat.add_comm _ _
  · show 256 * g8 2 (n / 2 ^ 40 / 256) + pcN 8 (n / 2 ^ 40) = _
    rw [q5]
    exact Nat.add_comm _ _
  · show 256 * (256 * 0 + pcN 8 (n / 2 ^ 48 / 256)) + pcN 8 (n / 2 ^ 48) = _
    rw [q6, Nat.mul_zero, Nat.zero_add]
    exact Nat.add_comm _ _
