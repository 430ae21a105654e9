/-! SETS OF POSITIONS AS ONE NUMBER: bit 4096 p + 64 s + w -/
def bx (X s p w : Nat) : Bool := X.testBit (4096 * p + 64 * s + w)
def rpr (X : Nat) (f : Nat → Nat → Nat → Prop) : Prop := ∀ s p w, s < 64 → p < 64 → w < 64 → (bx X s p w = true ↔ f s p w)
theorem rpr.eq {X : Nat} {f h : Nat → Nat → Nat → Prop} (hX : rpr X f) (e : ∀ s p w, s < 64 → p < 64 → w < 64 → (f s p w ↔ h s p w)) : rpr X h := fun s p w hs hp hw => (hX s p w hs hp hw).trans (e s p w hs hp hw)
theorem rpr.and {X Y : Nat} {f h : Nat → Nat → Nat → Prop} (hX : rpr X f) (hY : rpr Y h) : rpr (X &&& Y) (fun s p w => f s p w ∧ h s p w) := fun s p w hs hp hw => by
  unfold bx
  rw [Nat.testBit_and, Bool.and_eq_true]
  exact and_congr (hX s p w hs hp hw) (hY s p w hs hp hw)
theorem rpr.or {X Y : Nat} {f h : Nat → Nat → Nat → Prop} (hX : rpr X f) (hY : rpr Y h) : rpr (X ||| Y) (fun s p w => f s p w ∨ h s p w) := fun s p w hs hp hw => by
  unfold bx
  rw [Nat.testBit_or, Bool.or_eq_true]
  exact or_congr (hX s p w hs hp hw) (hY s p w hs hp hw)
def bno (X : Nat) : Nat := X ^^^ (2 ^ 262144 - 1)
theorem rpr.no {X : Nat} {f : Nat → Nat → Nat → Prop} (hX : rpr X f) : rpr (bno X) (fun s p w => ¬ f s p w) := fun s p w hs hp hw => by
  have h := hX s p w hs hp hw
  unfold bx at h ⊢
  unfold bno
  rw [Nat.testBit_xor, Nat.testBit_two_pow_sub_one, decide_eq_true (by omega)]
  show _ ↔ ¬ f s p w
  rw [← h]
  cases X.testBit (4096 * p + 64 * s + w) <;> simp
/-! masks by a coordinate -/
def pat (u : Nat) (c : Nat → Bool) : Nat → Nat
  | 0 => 0
  | n + 1 => 2 ^ (u * n) * (if c n = true then 2 ^ u - 1 else 0) + pat u c n
theorem pat_bit {u : Nat} (hu : 0 < u) (c : Nat → Bool) : ∀ n, pat u c n < 2 ^ (u * n) ∧ ∀ j, j < u * n → (pat u c n).testBit j = c (j / u)
  | 0 => ⟨by unfold pat; exact Nat.pow_pos (by decide), fun j hj => absurd hj (by omega)⟩
  | n + 1 => by
    obtain ⟨h1, h2⟩ := pat_bit hu c n
    unfold pat
    have hb : (if c n = true then 2 ^ u - 1 else 0) < 2 ^ u := by
      have : 0 < 2 ^ u := Nat.pow_pos (by decide)
      split <;> omega
    constructor
    · rw [show u * (n + 1) = u * n + u by rw [Nat.mul_succ], Nat.pow_add]
      have : 2 ^ (u * n) * ((if c n = true then 2 ^ u - 1 else 0) + 1) ≤ 2 ^ (u * n) * 2 ^ u := Nat.mul_le_mul_left _ hb
      rw [Nat.mul_add, Nat.mul_one] at this
      omega
    · intro j hj
      rw [Nat.testBit_two_pow_mul_add _ h1]
      by_cases q : j < u * n
      · rw [if_pos q]; exact h2 j q
      · rw [if_neg q]
        have hj2 : j < u * n + u := by rw [Nat.mul_succ] at hj; exact hj
        have e : j / u = n := by
          have a : u * n ≤ j := by omega
          have b : j < u * (n + 1) := hj
          exact Nat.div_eq_of_lt_le (by rw [Nat.mul_comm]; exact a) (by rw [Nat.mul_comm]; exact b)
        rw [e]
        by_cases z : c n = true
        · rw [if_pos z, z, Nat.testBit_two_pow_sub_one, decide_eq_true (by omega)]
        · rw [if_neg z, Nat.zero_testBit]
          cases h : c n
          · rfl
          · exact absurd h z
def dbl (L X : Nat) : Nat → Nat
  | 0 => X
  | k + 1 => 2 ^ (L * 2 ^ k) * dbl L X k + dbl L X k
theorem dbl_bit {L X : Nat} (hX : X < 2 ^ L) : ∀ k, dbl L X k < 2 ^ (L * 2 ^ k) ∧ ∀ j, j < L * 2 ^ k → (dbl L X k).testBit j = X.testBit (j % L)
  | 0 => ⟨by rw [Nat.pow_zero, Nat.mul_one]; exact hX, fun j hj => by rw [Nat.pow_zero, Nat.mul_one] at hj; rw [Nat.mod_eq_of_lt hj]; rfl⟩
  | k + 1 => by
    obtain ⟨h1, h2⟩ := dbl_bit hX k
    have e : L * 2 ^ (k + 1) = L * 2 ^ k + L * 2 ^ k := by rw [Nat.pow_succ, ← Nat.mul_assoc]; omega
    unfold dbl
    constructor
    · rw [e, Nat.pow_add]
      have : 2 ^ (L * 2 ^ k) * (dbl L X k + 1) ≤ 2 ^ (L * 2 ^ k) * 2 ^ (L * 2 ^ k) := Nat.mul_le_mul_left _ h1
      rw [Nat.mul_add, Nat.mul_one] at this
      omega
    · intro j hj
      rw [Nat.testBit_two_pow_mul_add _ h1]
      by_cases q : j < L * 2 ^ k
      · rw [if_pos q]; exact h2 j q
      · rw [if_neg q, h2 _ (by omega)]
        congr 1
        have : j = (j - L * 2 ^ k) + L * 2 ^ k := by omega
        conv => rhs; rw [this, Nat.add_mul_mod_self_left]
/-- the positions whose coordinate with unit u has the property -/
def cm (u k : Nat) (c : Nat → Bool) : Nat := dbl (u * 64) (pat u c 64) k
theorem cm_bit {u k : Nat} (hu : 0 < u) (h : u * 64 * 2 ^ k = 262144) (c : Nat → Bool) (j : Nat) : (cm u k c).testBit j = (decide (j < 262144) && c (j / u % 64)) := by
  obtain ⟨h1, h2⟩ := pat_bit hu c 64
  obtain ⟨g1, g2⟩ := dbl_bit h1 k
  unfold cm
  by_cases q : j < 262144
  · rw [g2 j (by rw [h]; exact q), h2 _ (Nat.mod_lt _ (by omega)), Nat.mod_mul_right_div_self, decide_eq_true q]
    rfl
  · rw [decide_eq_false q, Bool.false_and]
    refine Nat.testBit_lt_two_pow (Nat.lt_of_lt_of_le g1 (Nat.pow_le_pow_right (by decide) ?_))
    rw [h]; omega
/-! steps in a coordinate -/
def mE (u k X : Nat) : Nat := (X &&& cm u k (fun q => decide (q % 8 ≠ 7))) <<< u
def mW (u k X : Nat) : Nat := (X &&& cm u k (fun q => decide (q % 8 ≠ 0))) >>> u
def mN (u k X : Nat) : Nat := (X &&& cm u k (fun q => decide (q < 56))) <<< (8 * u)
def mS (u k X : Nat) : Nat := (X &&& cm u k (fun q => decide (8 ≤ q))) >>> (8 * u)
theorem div_sub1 {i u : Nat} (hu : 0 < u) (h : u ≤ i) : (i - u) / u = i / u - 1 := by
  have : i / u = (i - u) / u + 1 := by
    have := Nat.add_div_right (i - u) hu
    rw [show i - u + u = i by omega] at this
    exact this
  rw [this, Nat.add_sub_cancel]
theorem div_add1 {i u : Nat} (hu : 0 < u) : (u + i) / u = i / u + 1 := by
  rw [Nat.add_comm]; exact Nat.add_div_right i hu
theorem div_sub8 {i u : Nat} (hu : 0 < u) (h : 8 * u ≤ i) : (i - 8 * u) / u = i / u - 8 := by
  rw [Nat.mul_comm 8 u] at h ⊢
  exact Nat.sub_mul_div _ _ _
theorem div_add8 {i u : Nat} (hu : 0 < u) : (8 * u + i) / u = i / u + 8 := by
  rw [Nat.add_comm]; exact Nat.add_mul_div_right i 8 hu
theorem lt_iff_q {i u k : Nat} (hu : 0 < u) (h : u * 64 * 2 ^ k = 262144) : i < 262144 ↔ i / u < 64 * 2 ^ k := by
  have e : 64 * 2 ^ k * u = 262144 := by rw [Nat.mul_comm, ← Nat.mul_assoc]; exact h
  rw [Nat.div_lt_iff_lt_mul hu, e]
theorem mE_bit {u k : Nat} (hu : 0 < u) (h : u * 64 * 2 ^ k = 262144) (X : Nat) {i : Nat} (hi : i < 262144) : (mE u k X).testBit i = true ↔ (i / u % 64) % 8 ≠ 0 ∧ X.testBit (i - u) = true := by
  unfold mE
  rw [Nat.testBit_shiftLeft, Bool.and_eq_true, decide_eq_true_eq, Nat.testBit_and, Bool.and_eq_true, cm_bit hu h, Bool.and_eq_true, decide_eq_true_eq, decide_eq_true_eq]
  by_cases q : u ≤ i
  · rw [div_sub1 hu q]
    have h1 : 1 ≤ i / u := (Nat.le_div_iff_mul_le hu).mpr (by omega)
    generalize i / u = x at h1
    constructor
    · rintro ⟨-, a, -, b⟩; exact ⟨by omega, a⟩
    · rintro ⟨a, b⟩; exact ⟨q, b, by omega, by omega⟩
  · have h0 : i / u = 0 := Nat.div_eq_of_lt (by omega)
    rw [h0]
    exact ⟨fun z => absurd z.1 q, fun z => absurd rfl z.1⟩
theorem mW_bit {u k : Nat} (hu : 0 < u) (h : u * 64 * 2 ^ k = 262144) (X : Nat) {i : Nat} (hi : i < 262144) : (mW u k X).testBit i = true ↔ (i / u % 64) % 8 ≠ 7 ∧ X.testBit (u + i) = true := by
  unfold mW
  rw [Nat.testBit_shiftRight, Nat.testBit_and, Bool.and_eq_true, cm_bit hu h, Bool.and_eq_true, decide_eq_true_eq, decide_eq_true_eq, lt_iff_q hu h, div_add1 hu]
  have hi2 := (lt_iff_q hu h).mp hi
  generalize i / u = x at hi2
  generalize 2 ^ k = y at hi2
  constructor
  · rintro ⟨a, -, b⟩; exact ⟨by omega, a⟩
  · rintro ⟨a, b⟩; exact ⟨b, by omega, by omega⟩
theorem mN_bit {u k : Nat} (hu : 0 < u) (h : u * 64 * 2 ^ k = 262144) (X : Nat) {i : Nat} (hi : i < 262144) : (mN u k X).testBit i = true ↔ 8 ≤ i / u % 64 ∧ X.testBit (i - 8 * u) = true := by
  unfold mN
  rw [Nat.testBit_shiftLeft, Bool.and_eq_true, decide_eq_true_eq, Nat.testBit_and, Bool.and_eq_true, cm_bit hu h, Bool.and_eq_true, decide_eq_true_eq, decide_eq_true_eq]
  by_cases q : 8 * u ≤ i
  · rw [div_sub8 hu q]
    have h1 : 8 ≤ i / u := (Nat.le_div_iff_mul_le hu).mpr q
    generalize i / u = x at h1
    constructor
    · rintro ⟨-, a, -, b⟩; exact ⟨by omega, a⟩
    · rintro ⟨a, b⟩; exact ⟨q, b, by omega, by omega⟩
  · have h0 : i / u < 8 := (Nat.div_lt_iff_lt_mul hu).mpr (by omega)
    generalize i / u = x at h0
    exact ⟨fun z => absurd z.1 q, fun z => by have := z.1; omega⟩
theorem mS_bit {u k : Nat} (hu : 0 < u) (h : u * 64 * 2 ^ k = 262144) (X : Nat) {i : Nat} (hi : i < 262144) : (mS u k X).testBit i = true ↔ i / u % 64 < 56 ∧ X.testBit (8 * u + i) = true := by
  unfold mS
  rw [Nat.testBit_shiftRight, Nat.testBit_and, Bool.and_eq_true, cm_bit hu h, Bool.and_eq_true, decide_eq_true_eq, decide_eq_true_eq, lt_iff_q hu h, div_add8 hu]
  have hi2 := (lt_iff_q hu h).mp hi
  generalize i / u = x at hi2
  generalize 2 ^ k = y at hi2
  constructor
  · rintro ⟨a, -, b⟩; exact ⟨by omega, a⟩
  · rintro ⟨a, b⟩; exact ⟨b, by omega, by omega⟩
/-- the same, by squares: of the king alone, of the strong king, of the man -/
theorem rw_E {X : Nat} {f : Nat → Nat → Nat → Prop} (hX : rpr X f) : rpr (mE 1 12 X) (fun s p w => w % 8 ≠ 0 ∧ f s p (w - 1)) := fun s p w hs hp hw => by
  unfold bx
  rw [mE_bit (by decide) (by decide) X (by omega), show (4096 * p + 64 * s + w) / 1 % 64 = w by omega]
  refine and_congr_right (fun z => ?_)
  rw [show 4096 * p + 64 * s + w - 1 = 4096 * p + 64 * s + (w - 1) by omega]
  exact hX s p (w - 1) hs hp (by omega)
theorem rw_W {X : Nat} {f : Nat → Nat → Nat → Prop} (hX : rpr X f) : rpr (mW 1 12 X) (fun s p w => w % 8 ≠ 7 ∧ f s p (w + 1)) := fun s p w hs hp hw => by
  unfold bx
  rw [mW_bit (by decide) (by decide) X (by omega), show (4096 * p + 64 * s + w) / 1 % 64 = w by omega]
  refine and_congr_right (fun z => ?_)
  rw [show 1 + (4096 * p + 64 * s + w) = 4096 * p + 64 * s + (w + 1) by omega]
  exact hX s p (w + 1) hs hp (by omega)
theorem rw_N {X : Nat} {f : Nat → Nat → Nat → Prop} (hX : rpr X f) : rpr (mN 1 12 X) (fun s p w => 8 ≤ w ∧ f s p (w - 8)) := fun s p w hs hp hw => by
  unfold bx
  rw [mN_bit (by decide) (by decide) X (by omega), show (4096 * p + 64 * s + w) / 1 % 64 = w by omega]
  refine and_congr_right (fun z => ?_)
  rw [show 4096 * p + 64 * s + w - 8 * 1 = 4096 * p + 64 * s + (w - 8) by omega]
  exact hX s p (w - 8) hs hp (by omega)
theorem rw_S {X : Nat} {f : Nat → Nat → Nat → Prop} (hX : rpr X f) : rpr (mS 1 12 X) (fun s p w => w < 56 ∧ f s p (w + 8)) := fun s p w hs hp hw => by
  unfold bx
  rw [mS_bit (by decide) (by decide) X (by omega), show (4096 * p + 64 * s + w) / 1 % 64 = w by omega]
  refine and_congr_right (fun z => ?_)
  rw [show 8 * 1 + (4096 * p + 64 * s + w) = 4096 * p + 64 * s + (w + 8) by omega]
  exact hX s p (w + 8) hs hp (by omega)
theorem rs_E {X : Nat} {f : Nat → Nat → Nat → Prop} (hX : rpr X f) : rpr (mE 64 6 X) (fun s p w => s % 8 ≠ 0 ∧ f (s - 1) p w) := fun s p w hs hp hw => by
  unfold bx
  rw [mE_bit (by decide) (by decide) X (by omega), show (4096 * p + 64 * s + w) / 64 % 64 = s by omega]
  refine and_congr_right (fun z => ?_)
  rw [show 4096 * p + 64 * s + w - 64 = 4096 * p + 64 * (s - 1) + w by omega]
  exact hX (s - 1) p w (by omega) hp hw
theorem rs_W {X : Nat} {f : Nat → Nat → Nat → Prop} (hX : rpr X f) : rpr (mW 64 6 X) (fun s p w => s % 8 ≠ 7 ∧ f (s + 1) p w) := fun s p w hs hp hw => by
  unfold bx
  rw [mW_bit (by decide) (by decide) X (by omega), show (4096 * p + 64 * s + w) / 64 % 64 = s by omega]
  refine and_congr_right (fun z => ?_)
  rw [show 64 + (4096 * p + 64 * s + w) = 4096 * p + 64 * (s + 1) + w by omega]
  exact hX (s + 1) p w (by omega) hp hw
theorem rs_N {X : Nat} {f : Nat → Nat → Nat → Prop} (hX : rpr X f) : rpr (mN 64 6 X) (fun s p w => 8 ≤ s ∧ f (s - 8) p w) := fun s p w hs hp hw => by
  unfold bx
  rw [mN_bit (by decide) (by decide) X (by omega), show (4096 * p + 64 * s + w) / 64 % 64 = s by omega]
  refine and_congr_right (fun z => ?_)
  rw [show 4096 * p + 64 * s + w - 8 * 64 = 4096 * p + 64 * (s - 8) + w by omega]
  exact hX (s - 8) p w (by omega) hp hw
theorem rs_S {X : Nat} {f : Nat → Nat → Nat → Prop} (hX : rpr X f) : rpr (mS 64 6 X) (fun s p w => s < 56 ∧ f (s + 8) p w) := fun s p w hs hp hw => by
  unfold bx
  rw [mS_bit (by decide) (by decide) X (by omega), show (4096 * p + 64 * s + w) / 64 % 64 = s by omega]
  refine and_congr_right (fun z => ?_)
  rw [show 8 * 64 + (4096 * p + 64 * s + w) = 4096 * p + 64 * (s + 8) + w by omega]
  exact hX (s + 8) p w (by omega) hp hw
theorem rp_E {X : Nat} {f : Nat → Nat → Nat → Prop} (hX : rpr X f) : rpr (mE 4096 0 X) (fun s p w => p % 8 ≠ 0 ∧ f s (p - 1) w) := fun s p w hs hp hw => by
  unfold bx
  rw [mE_bit (by decide) (by decide) X (by omega), show (4096 * p + 64 * s + w) / 4096 % 64 = p by omega]
  refine and_congr_right (fun z => ?_)
  rw [show 4096 * p + 64 * s + w - 4096 = 4096 * (p - 1) + 64 * s + w by omega]
  exact hX s (p - 1) w hs (by omega) hw
theorem rp_W {X : Nat} {f : Nat → Nat → Nat → Prop} (hX : rpr X f) : rpr (mW 4096 0 X) (fun s p w => p % 8 ≠ 7 ∧ f s (p + 1) w) := fun s p w hs hp hw => by
  unfold bx
  rw [mW_bit (by decide) (by decide) X (by omega), show (4096 * p + 64 * s + w) / 4096 % 64 = p by omega]
  refine and_congr_right (fun z => ?_)
  rw [show 4096 + (4096 * p + 64 * s + w) = 4096 * (p + 1) + 64 * s + w by omega]
  exact hX s (p + 1) w hs (by omega) hw
theorem rp_N {X : Nat} {f : Nat → Nat → Nat → Prop} (hX : rpr X f) : rpr (mN 4096 0 X) (fun s p w => 8 ≤ p ∧ f s (p - 8) w) := fun s p w hs hp hw => by
  unfold bx
  rw [mN_bit (by decide) (by decide) X (by omega), show (4096 * p + 64 * s + w) / 4096 % 64 = p by omega]
  refine and_congr_right (fun z => ?_)
  rw [show 4096 * p + 64 * s + w - 8 * 4096 = 4096 * (p - 8) + 64 * s + w by omega]
  exact hX s (p - 8) w hs (by omega) hw
theorem rp_S {X : Nat} {f : Nat → Nat → Nat → Prop} (hX : rpr X f) : rpr (mS 4096 0 X) (fun s p w => p < 56 ∧ f s (p + 8) w) := fun s p w hs hp hw => by
  unfold bx
  rw [mS_bit (by decide) (by decide) X (by omega), show (4096 * p + 64 * s + w) / 4096 % 64 = p by omega]
  refine and_congr_right (fun z => ?_)
  rw [show 8 * 4096 + (4096 * p + 64 * s + w) = 4096 * (p + 8) + 64 * s + w by omega]
  exact hX s (p + 8) w hs (by omega) hw
/-- masks by a square -/
theorem rc_w (c : Nat → Bool) : rpr (cm 1 12 c) (fun _ _ w => c w = true) := fun s p w hs hp hw => by
  unfold bx
  rw [cm_bit (by decide) (by decide), decide_eq_true (by omega), show (4096 * p + 64 * s + w) / 1 % 64 = w by omega]
  rfl
theorem rc_s (c : Nat → Bool) : rpr (cm 64 6 c) (fun s _ _ => c s = true) := fun s p w hs hp hw => by
  unfold bx
  rw [cm_bit (by decide) (by decide), decide_eq_true (by omega), show (4096 * p + 64 * s + w) / 64 % 64 = s by omega]
  rfl
theorem rc_p (c : Nat → Bool) : rpr (cm 4096 0 c) (fun _ p _ => c p = true) := fun s p w hs hp hw => by
  unfold bx
  rw [cm_bit (by decide) (by decide), decide_eq_true (by omega), show (4096 * p + 64 * s + w) / 4096 % 64 = p by omega]
  rfl
