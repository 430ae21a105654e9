/-! THE REFERENCE'S make: the position behind a move comes to the next place -/
noncomputable def tipB (P : Ps) (a b : Nat) : Bool := @decide (tip P a b) (Classical.propDecidable _)
theorem tipB_t {P : Ps} {a b : Nat} : tipB P a b = true ↔ tip P a b := by
  unfold tipB
  exact @decide_eq_true_iff _ (Classical.propDecidable _)
def bI (b : Bool) : Int32 := if b = true then 1 else 0
theorem bI_0 {b : Bool} : bI b = 0 ↔ b = false := by cases b <;> decide
theorem bI_n {b : Bool} : ¬ bI b = 0 ↔ b = true := by cases b <;> decide
def pwn (P : Ps) (a : Nat) : Bool := decide (kd (P.1 a) = 1)
noncomputable def psg (P : Ps) (a b : Nat) : Bool := pwn P a && tipB P a b
def cas (P : Ps) (a b : Nat) : Bool := decide (kd (P.1 a) = 6) && (decide (a + 2 = b) || decide (b + 2 = a))
noncomputable def tks (P : Ps) (a b : Nat) : Bool := psg P a b || decide (0 < P.1 b)
noncomputable def mkB (P : Ps) (a b pr : Nat) : Nat → Nat := fun s =>
  if cas P a b = true ∧ s = (a + b) / 2 then 4 + 6 * P.2.1
  else if cas P a b = true ∧ s = (if a < b then a + 3 else a - 4) then 0
  else if psg P a b = true ∧ s = (if P.2.1 = 0 then b - 8 else b + 8) then 0
  else if s = b then (if pr = 0 then P.1 a else pr + 6 * P.2.1) else if s = a then 0 else P.1 s
def crn (s : Nat) : Nat := if s = 7 then 1 else if s = 0 then 2 else if s = 63 then 4 else if s = 56 then 8 else 0
/-- rights r without those of w (bits) -/
def wo (r w : Nat) : Nat := (r - r % 2 * (w % 2)) - r / 2 % 2 * (w / 2 % 2) * 2 - r / 4 % 2 * (w / 4 % 2) * 4 - r / 8 % 2 * (w / 8 % 2) * 8
theorem wo_and : ∀ r, r < 16 → ∀ w, w < 16 → nI r &&& (nI w ^^^ (-1)) = nI (wo r w) ∧ wo r w < 16 := by decide +kernel
def mkR (P : Ps) (a b : Nat) : Nat := wo (wo (if kd (P.1 a) = 6 then wo P.2.2.1 (3 * 4 ^ P.2.1) else P.2.2.1) (crn a)) (crn b)
def two (P : Ps) (a b : Nat) : Bool := pwn P a && (decide (a + 16 = b) || decide (b + 16 = a))
noncomputable def lft (P : Ps) (a b pr : Nat) : Bool := two P a b && decide (0 < b % 8) && decide (mkB P a b pr (b - 1) = 7 - 6 * P.2.1)
noncomputable def rgt (P : Ps) (a b pr : Nat) : Bool := two P a b && decide (b % 8 < 7) && decide (mkB P a b pr (b + 1) = 7 - 6 * P.2.1)
noncomputable def mkP (P : Ps) (a b pr : Nat) : Ps := (mkB P a b pr, 1 - P.2.1, mkR P a b, if (lft P a b pr || rgt P a b pr) = true then b % 8 else 8, if (pwn P a || tks P a b) = true then 0 else P.2.2.2.2.1 + 1, P.2.2.2.2.2 + P.2.1)
/-- the row of those looked ahead to, with a new board at place q -/
def sl (M : zM) (q : Nat) (N : zM) (f : Nat → Int32) : Prop := zSm [65] M N ∧ ∀ i, N.1 65 i = if q ≤ i ∧ i < q + 69 then f (i - q) else M.1 65 i
theorem sl.put {M N : zM} {q : Nat} {f : Nat → Int32} (h : sl M q N f) {k : Nat} (hk : k < 69) (v : Int32) : sl M q (zsI N 65 (q + k) v) (upd f k v) := by
  refine ⟨h.1.tr (zSm.I (by decide)), fun i => ?_⟩
  rw [zsI_at]
  by_cases h1 : i = q + k
  · rw [if_pos ⟨rfl, h1⟩, if_pos (by omega), show i - q = k by omega, pk_us]
  · rw [if_neg (fun e => h1 e.2), h.2 i]
    by_cases h2 : q ≤ i ∧ i < q + 69
    · rw [if_pos h2, if_pos h2, pk_un (by omega)]
    · rw [if_neg h2, if_neg h2]
theorem sl.at {M N : zM} {q : Nat} {f : Nat → Int32} (h : sl M q N f) {k : Nat} (hk : k < 69) : N.1 65 (q + k) = f k := by
  rw [h.2, if_pos (by omega), show q + k - q = k by omega]
theorem sl.off {M N : zM} {q : Nat} {f : Nat → Int32} (h : sl M q N f) {i : Nat} (hi : i < q) : N.1 65 i = M.1 65 i := by
  rw [h.2, if_neg (by omega)]
theorem crn_lt (s : Nat) : crn s < 16 := by
  unfold crn
  split
  · omega
  · split
    · omega
    · split
      · omega
      · split <;> omega
theorem abs_2 {a b : Nat} {k : Nat} (hk : 0 < k) : aI ((a : Int) - b) = k ↔ (a + k = b ∨ b + k = a) := by
  unfold aI
  split <;> omega
