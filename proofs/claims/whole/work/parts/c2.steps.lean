/-! SETS OF POSITIONS: what the kings and the man can do -/
/-- same squares -/
def eqU (u k v j : Nat) : Nat → Nat
  | 0 => 2 ^ 262144 - 1
  | n + 1 => eqU u k v j n &&& bno (cm u k (fun q => q.testBit n) ^^^ cm v j (fun q => q.testBit n))
def eWP : Nat := eqU 1 12 4096 0 6
def eWS : Nat := eqU 1 12 64 6 6
def eSP : Nat := eqU 64 6 4096 0 6
theorem bits6 {a b : Nat} (ha : a < 64) (hb : b < 64) : (∀ n, n < 6 → a.testBit n = b.testBit n) ↔ a = b := by
  constructor
  · intro h
    apply Nat.eq_of_testBit_eq
    intro i
    by_cases q : i < 6
    · exact h i q
    · have : 2 ^ 6 ≤ 2 ^ i := Nat.pow_le_pow_right (by decide) (by omega)
      rw [Nat.testBit_lt_two_pow (show a < 2 ^ i by omega), Nat.testBit_lt_two_pow (show b < 2 ^ i by omega)]
  · intro h n _; rw [h]
theorem rpr.xorno {X Y : Nat} {f h : Nat → Nat → Nat → Bool} (hX : rpr X (fun s p w => f s p w = true)) (hY : rpr Y (fun s p w => h s p w = true)) : rpr (bno (X ^^^ Y)) (fun s p w => f s p w = h s p w) := by
  have hx : rpr (X ^^^ Y) (fun s p w => f s p w ≠ h s p w) := fun s p w hs hp hw => by
    have a : X.testBit (4096 * p + 64 * s + w) = f s p w := Bool.eq_iff_iff.mpr (hX s p w hs hp hw)
    have b : Y.testBit (4096 * p + 64 * s + w) = h s p w := Bool.eq_iff_iff.mpr (hY s p w hs hp hw)
    unfold bx
    rw [Nat.testBit_xor, a, b]
    show _ ↔ f s p w ≠ h s p w
    cases f s p w <;> cases h s p w <;> simp
  exact hx.no.eq (fun s p w _ _ _ => by
    constructor
    · intro z; exact Classical.not_not.mp z
    · intro z y; exact y z)
theorem eqU_rpr {u k v j : Nat} {fu fv : Nat → Nat → Nat → Nat} (hu : ∀ c : Nat → Bool, rpr (cm u k c) (fun s p w => c (fu s p w) = true)) (hv : ∀ c : Nat → Bool, rpr (cm v j c) (fun s p w => c (fv s p w) = true)) : ∀ n, rpr (eqU u k v j n) (fun s p w => ∀ i, i < n → (fu s p w).testBit i = (fv s p w).testBit i)
  | 0 => fun s p w hs hp hw => by
    unfold bx eqU
    rw [Nat.testBit_two_pow_sub_one, decide_eq_true (by omega)]
    exact ⟨fun _ i hi => absurd hi (Nat.not_lt_zero _), fun _ => rfl⟩
  | n + 1 => by
    unfold eqU
    refine ((eqU_rpr hu hv n).and ((hu _).xorno (hv _))).eq (fun s p w _ _ _ => ?_)
    constructor
    · rintro ⟨a, b⟩ i hi
      by_cases q : i = n
      · rw [q]; exact b
      · exact a i (by omega)
    · intro a
      exact ⟨fun i hi => a i (by omega), a n (by omega)⟩
theorem eWP_rpr : rpr eWP (fun _ p w => w = p) := (eqU_rpr (fu := fun _ _ w => w) (fv := fun _ p _ => p) (fun c => rc_w c) (fun c => rc_p c) 6).eq (fun s p w hs hp hw => bits6 hw hp)
theorem eWS_rpr : rpr eWS (fun s _ w => w = s) := (eqU_rpr (fu := fun _ _ w => w) (fv := fun s _ _ => s) (fun c => rc_w c) (fun c => rc_s c) 6).eq (fun s p w hs hp hw => bits6 hw hs)
theorem eSP_rpr : rpr eSP (fun s p _ => s = p) := (eqU_rpr (fu := fun s _ _ => s) (fv := fun _ p _ => p) (fun c => rc_s c) (fun c => rc_p c) 6).eq (fun s p w hs hp hw => bits6 hs hp)
/-- beside some of these: for the king alone, for the strong king -/
def knW (X : Nat) : Nat := (mE 1 12 X ||| mW 1 12 X) ||| (mN 1 12 (X ||| (mE 1 12 X ||| mW 1 12 X)) ||| mS 1 12 (X ||| (mE 1 12 X ||| mW 1 12 X)))
def knS (X : Nat) : Nat := (mE 64 6 X ||| mW 64 6 X) ||| (mN 64 6 (X ||| (mE 64 6 X ||| mW 64 6 X)) ||| mS 64 6 (X ||| (mE 64 6 X ||| mW 64 6 X)))
def kn8 (w t : Nat) : Bool := ((decide (w % 8 ≠ 0) && decide (t = w - 1) || decide (w % 8 ≠ 7) && decide (t = w + 1)) || ((decide (8 ≤ w) && (decide (t = w - 8) || (decide ((w - 8) % 8 ≠ 0) && decide (t = w - 8 - 1) || decide ((w - 8) % 8 ≠ 7) && decide (t = w - 8 + 1)))) || (decide (w < 56) && (decide (t = w + 8) || (decide ((w + 8) % 8 ≠ 0) && decide (t = w + 8 - 1) || decide ((w + 8) % 8 ≠ 7) && decide (t = w + 8 + 1))))))
theorem kn8_tab : ∀ w, w < 64 → ∀ t, t < 64 → (kiG w t ↔ kn8 w t = true) := by
  unfold kiG
  decide +kernel
theorem kiG_dec : ∀ w, w < 64 → ∀ t, t < 64 → (kiG w t ↔ ((w % 8 ≠ 0 ∧ t = w - 1 ∨ w % 8 ≠ 7 ∧ t = w + 1) ∨ ((8 ≤ w ∧ (t = w - 8 ∨ ((w - 8) % 8 ≠ 0 ∧ t = w - 8 - 1 ∨ (w - 8) % 8 ≠ 7 ∧ t = w - 8 + 1))) ∨ (w < 56 ∧ (t = w + 8 ∨ ((w + 8) % 8 ≠ 0 ∧ t = w + 8 - 1 ∨ (w + 8) % 8 ≠ 7 ∧ t = w + 8 + 1)))))) := by
  intro w hw t ht
  have h := kn8_tab w hw t ht
  rw [h]
  simp only [kn8, Bool.or_eq_true, Bool.and_eq_true, decide_eq_true_eq]
theorem kn_pred {f : Nat → Prop} {w : Nat} (hw : w < 64) : ((w % 8 ≠ 0 ∧ f (w - 1) ∨ w % 8 ≠ 7 ∧ f (w + 1)) ∨ ((8 ≤ w ∧ (f (w - 8) ∨ ((w - 8) % 8 ≠ 0 ∧ f (w - 8 - 1) ∨ (w - 8) % 8 ≠ 7 ∧ f (w - 8 + 1)))) ∨ (w < 56 ∧ (f (w + 8) ∨ ((w + 8) % 8 ≠ 0 ∧ f (w + 8 - 1) ∨ (w + 8) % 8 ≠ 7 ∧ f (w + 8 + 1)))))) ↔ ∃ t, t < 64 ∧ kiG w t ∧ f t := by
  constructor
  · rintro ((⟨a, b⟩ | ⟨a, b⟩) | (⟨a, b | ⟨c, b⟩ | ⟨c, b⟩⟩ | ⟨a, b | ⟨c, b⟩ | ⟨c, b⟩⟩))
    · exact ⟨w - 1, by omega, (kiG_dec w hw _ (by omega)).mpr (Or.inl (Or.inl ⟨a, rfl⟩)), b⟩
    · exact ⟨w + 1, by omega, (kiG_dec w hw _ (by omega)).mpr (Or.inl (Or.inr ⟨a, rfl⟩)), b⟩
    · exact ⟨w - 8, by omega, (kiG_dec w hw _ (by omega)).mpr (Or.inr (Or.inl ⟨a, Or.inl rfl⟩)), b⟩
    · exact ⟨w - 8 - 1, by omega, (kiG_dec w hw _ (by omega)).mpr (Or.inr (Or.inl ⟨a, Or.inr (Or.inl ⟨c, rfl⟩)⟩)), b⟩
    · exact ⟨w - 8 + 1, by omega, (kiG_dec w hw _ (by omega)).mpr (Or.inr (Or.inl ⟨a, Or.inr (Or.inr ⟨c, rfl⟩)⟩)), b⟩
    · exact ⟨w + 8, by omega, (kiG_dec w hw _ (by omega)).mpr (Or.inr (Or.inr ⟨a, Or.inl rfl⟩)), b⟩
    · exact ⟨w + 8 - 1, by omega, (kiG_dec w hw _ (by omega)).mpr (Or.inr (Or.inr ⟨a, Or.inr (Or.inl ⟨c, rfl⟩)⟩)), b⟩
    · exact ⟨w + 8 + 1, by omega, (kiG_dec w hw _ (by omega)).mpr (Or.inr (Or.inr ⟨a, Or.inr (Or.inr ⟨c, rfl⟩)⟩)), b⟩
  · rintro ⟨t, ht, hk, hf⟩
    rcases (kiG_dec w hw t ht).mp hk with (⟨a, b⟩ | ⟨a, b⟩) | (⟨a, b | ⟨c, b⟩ | ⟨c, b⟩⟩ | ⟨a, b | ⟨c, b⟩ | ⟨c, b⟩⟩)
    · rw [b] at hf; exact Or.inl (Or.inl ⟨a, hf⟩)
    · rw [b] at hf; exact Or.inl (Or.inr ⟨a, hf⟩)
    · rw [b] at hf; exact Or.inr (Or.inl ⟨a, Or.inl hf⟩)
    · rw [b] at hf; exact Or.inr (Or.inl ⟨a, Or.inr (Or.inl ⟨c, hf⟩)⟩)
    · rw [b] at hf; exact Or.inr (Or.inl ⟨a, Or.inr (Or.inr ⟨c, hf⟩)⟩)
    · rw [b] at hf; exact Or.inr (Or.inr ⟨a, Or.inl hf⟩)
    · rw [b] at hf; exact Or.inr (Or.inr ⟨a, Or.inr (Or.inl ⟨c, hf⟩)⟩)
    · rw [b] at hf; exact Or.inr (Or.inr ⟨a, Or.inr (Or.inr ⟨c, hf⟩)⟩)
theorem knW_rpr {X : Nat} {f : Nat → Nat → Nat → Prop} (hX : rpr X f) : rpr (knW X) (fun s p w => ∃ t, t < 64 ∧ kiG w t ∧ f s p t) := by
  have ha := (rw_E hX).or (rw_W hX)
  have hr := hX.or ha
  exact (ha.or ((rw_N hr).or (rw_S hr))).eq (fun s p w _ _ hw => kn_pred (f := fun t => f s p t) hw)
theorem knS_rpr {X : Nat} {f : Nat → Nat → Nat → Prop} (hX : rpr X f) : rpr (knS X) (fun s p w => ∃ t, t < 64 ∧ kiG s t ∧ f t p w) := by
  have ha := (rs_E hX).or (rs_W hX)
  have hr := hX.or ha
  exact (ha.or ((rs_N hr).or (rs_S hr))).eq (fun s p w hs _ _ => kn_pred (f := fun t => f t p w) hs)
/-! one step in a direction -/
/-- w lies one step from v in direction d -/
def nx (d v w : Nat) : Prop := 1 ≤ lenR d v ∧ w = rq d v 1
def mvD (u k d X : Nat) : Nat := if d = 0 then mE u k X else if d = 1 then mN u k X else if d = 2 then mN u k (mE u k X) else if d = 3 then mN u k (mW u k X) else if d = 4 then mW u k X else if d = 5 then mS u k X else if d = 6 then mS u k (mW u k X) else mS u k (mE u k X)
/-- where a step in direction d comes from, in numbers -/
def bkS (d w : Nat) : Option Nat := if d = 0 then (if w % 8 ≠ 0 then some (w - 1) else none) else if d = 1 then (if 8 ≤ w then some (w - 8) else none) else if d = 2 then (if 8 ≤ w ∧ (w - 8) % 8 ≠ 0 then some (w - 8 - 1) else none) else if d = 3 then (if 8 ≤ w ∧ (w - 8) % 8 ≠ 7 then some (w - 8 + 1) else none) else if d = 4 then (if w % 8 ≠ 7 then some (w + 1) else none) else if d = 5 then (if w < 56 then some (w + 8) else none) else if d = 6 then (if w < 56 ∧ (w + 8) % 8 ≠ 7 then some (w + 8 + 1) else none) else (if w < 56 ∧ (w + 8) % 8 ≠ 0 then some (w + 8 - 1) else none)
theorem bkS_nx : ∀ d, d < 8 → ∀ w, w < 64 → (∀ v, v < 64 → (nx d v w ↔ bkS d w = some v)) ∧ (∀ v, bkS d w = some v → v < 64) := by
  have h1 : ∀ d, d < 8 → ∀ w, w < 64 → (∀ v, v < 64 → (nx d v w ↔ bkS d w = some v)) := by
    unfold nx
    decide +kernel
  have h2 : ∀ d, d < 8 → ∀ w, w < 64 → (bkS d w).all (fun v => decide (v < 64)) = true := by decide +kernel
  intro d hd w hw
  refine ⟨h1 d hd w hw, fun v hv => ?_⟩
  have := h2 d hd w hw
  rw [hv] at this
  simpa using this
