/-! THE COMPASS: attacks -/
def clr (o : Int64) (a b : Nat) : Prop := ∀ i : Nat, 1 ≤ i → i < stn a b → bt o (sqA a b i) = false
theorem ray_ex : (List.range 64).all (fun s => (List.range 64).all (fun t => decide (s = t) || ((!(decide (dF s t = 0) || decide (dR s t = 0)) || ryG 0 s t || ryG 1 s t || ryG 4 s t || ryG 5 s t) && (!decide (aI (dF s t) = aI (dR s t)) || ryG 2 s t || ryG 3 s t || ryG 6 s t || ryG 7 s t)))) = true := by decide +kernel
theorem ray_of {s t : Nat} (hs : s < 64) (ht : t < 64) (hne : s ≠ t) : ((dF s t = 0 ∨ dR s t = 0) → ∃ d, (d = 0 ∨ d = 1 ∨ d = 4 ∨ d = 5) ∧ ryG d s t = true) ∧ (aI (dF s t) = aI (dR s t) → ∃ d, (d = 2 ∨ d = 3 ∨ d = 6 ∨ d = 7) ∧ ryG d s t = true) := by
  have h := List.all_eq_true.mp (List.all_eq_true.mp ray_ex s (List.mem_range.mpr hs)) t (List.mem_range.mpr ht)
  simp only [Bool.or_eq_true, Bool.and_eq_true, Bool.not_eq_true', Bool.or_eq_false_iff, decide_eq_true_eq, decide_eq_false_iff_not] at h
  rcases h with h | ⟨h1, h2⟩
  · exact absurd h hne
  · constructor
    · intro q
      rcases h1 with (((w | w) | w) | w) | w
      · rcases q with q | q
        · exact absurd q w.1
        · exact absurd q w.2
      · exact ⟨0, by omega, w⟩
      · exact ⟨1, by omega, w⟩
      · exact ⟨4, by omega, w⟩
      · exact ⟨5, by omega, w⟩
    · intro q
      rcases h2 with (((w | w) | w) | w) | w
      · exact absurd q w
      · exact ⟨2, by omega, w⟩
      · exact ⟨3, by omega, w⟩
      · exact ⟨6, by omega, w⟩
      · exact ⟨7, by omega, w⟩
theorem lnD_clr {o : Int64} {d s t : Nat} (hd : d < 8) (hs : s < 64) : lnD o d s t ↔ ryG d s t = true ∧ clr o s t := by
  constructor
  · rintro ⟨k, k1, k2, e, h⟩
    refine ⟨ryG_iff.mpr ⟨k, k1, k2, e⟩, fun i i1 i2 => ?_⟩
    rw [e, (ray_at hd hs k1 k2).2.2.1] at i2
    rw [e, ray_sqA hd hs k1 k2]
    exact h i i1 i2
  · rintro ⟨hr, h⟩
    obtain ⟨k, k1, k2, e⟩ := ryG_iff.mp hr
    refine ⟨k, k1, k2, e, fun i i1 i2 => ?_⟩
    have := h i i1 (by rw [e, (ray_at hd hs k1 k2).2.2.1]; exact i2)
    rw [e, ray_sqA hd hs k1 k2] at this
    exact this
theorem ry_geo {d s t : Nat} (hd : d < 8) (hs : s < 64) (h : ryG d s t = true) : t < 64 ∧ s ≠ t ∧ (d % 4 < 2 → dF s t = 0 ∨ dR s t = 0) ∧ (¬ d % 4 < 2 → aI (dF s t) = aI (dR s t)) := by
  obtain ⟨k, k1, k2, e⟩ := ryG_iff.mp h
  obtain ⟨a, _, _, _, b, c, f⟩ := ray_at hd hs k1 k2
  rw [e]
  exact ⟨a, b, c, f⟩
theorem seen_st {o : Int64} {s t : Nat} (hs : s < 64) (ht : t < 64) : (∃ d, (d = 0 ∨ d = 0 + 1 ∨ d = 0 + 4 ∨ d = 0 + 5) ∧ lnD o d s t) ↔ s ≠ t ∧ (dF s t = 0 ∨ dR s t = 0) ∧ clr o s t := by
  constructor
  · rintro ⟨d, hd, h⟩
    obtain ⟨h1, h2⟩ := (lnD_clr (by omega) hs).mp h
    obtain ⟨_, a, b, _⟩ := ry_geo (by omega) hs h1
    exact ⟨a, b (by omega), h2⟩
  · rintro ⟨hne, hl, hc⟩
    obtain ⟨d, hd, hr⟩ := (ray_of hs ht hne).1 hl
    exact ⟨d, by omega, (lnD_clr (by omega) hs).mpr ⟨hr, hc⟩⟩
theorem seen_ak {o : Int64} {s t : Nat} (hs : s < 64) (ht : t < 64) : (∃ d, (d = 2 ∨ d = 2 + 1 ∨ d = 2 + 4 ∨ d = 2 + 5) ∧ lnD o d s t) ↔ s ≠ t ∧ aI (dF s t) = aI (dR s t) ∧ clr o s t := by
  constructor
  · rintro ⟨d, hd, h⟩
    obtain ⟨h1, h2⟩ := (lnD_clr (by omega) hs).mp h
    obtain ⟨_, a, _, b⟩ := ry_geo (by omega) hs h1
    exact ⟨a, b (by omega), h2⟩
  · rintro ⟨hne, hl, hc⟩
    obtain ⟨d, hd, hr⟩ := (ray_of hs ht hne).2 hl
    exact ⟨d, by omega, (lnD_clr (by omega) hs).mpr ⟨hr, hc⟩⟩
theorem dF_sym (a b : Nat) : dF b a = - dF a b := by unfold dF; omega
theorem dR_sym (a b : Nat) : dR b a = - dR a b := by unfold dR; omega
theorem aI_neg (z : Int) : aI (-z) = aI z := by unfold aI; split <;> split <;> omega
theorem sgn_neg (z : Int) : sgn (-z) = - sgn z := by
  unfold sgn
  split <;> split <;> (try split) <;> (try split) <;> omega
theorem stn_sym (a b : Nat) : stn b a = stn a b := by
  unfold stn
  rw [dF_sym, dR_sym, Int.natAbs_neg, Int.natAbs_neg]
theorem stp_sym (a b : Nat) : stp b a = - stp a b := by
  unfold stp
  rw [dF_sym, dR_sym, sgn_neg, sgn_neg]
  omega
/-- a way is clear from both its ends -/
theorem clr_sym {o : Int64} {a b : Nat} (ha : a < 64) (hb : b < 64) (hne : a ≠ b) (hl : dF a b = 0 ∨ dR a b = 0 ∨ aI (dF a b) = aI (dR a b)) (h : clr o a b) : clr o b a := by
  intro i i1 i2
  rw [stn_sym] at i2
  obtain ⟨-, -, -, e, -⟩ := line_of ha hb hne hl
  have hz := h (stn a b - i) (by omega) (by omega)
  have : sqA b a i = sqA a b (stn a b - i) := by
    unfold sqA
    rw [stp_sym, ← e]
    congr 1
    have e2 : ((stn a b - i : Nat) : Int) = (stn a b : Int) - i := by omega
    rw [e2, Int.mul_sub, Int.neg_mul]
    omega
  rw [this]
  exact hz
/-- the man on a attacks b, where the set stands in the way -/
def attO (B : Nat → Nat) (o : Int64) (a b : Nat) : Prop := kd (B a) ≠ 0 ∧ a ≠ b ∧ (kd (B a) = 1 → aI (dF a b) = 1 ∧ dR a b = (if B a = 1 then 1 else -1)) ∧ (kd (B a) = 2 → aI (dF a b) * aI (dR a b) = 2) ∧ (kd (B a) = 6 → aI (dF a b) < 2 ∧ aI (dR a b) < 2) ∧
  (kd (B a) ≠ 1 → kd (B a) ≠ 2 → kd (B a) ≠ 6 → slides (kd (B a)) a b ∧ clr o a b)
theorem attO_att {B : Nat → Nat} {o : Int64} (ho : ∀ s, s < 64 → (bt o s = true ↔ B s ≠ 0)) {a b : Nat} (ha : a < 64) (hb : b < 64) : attO B o a b ↔ att B a b := by
  unfold attO att
  refine and_congr_right (fun _ => and_congr_right (fun hne => and_congr_right (fun _ => and_congr_right (fun _ => and_congr_right (fun _ => ?_)))))
  constructor
  · intro h k1 k2 k6
    obtain ⟨h1, h2⟩ := h k1 k2 k6
    refine ⟨h1, fun i i1 i2 => ?_⟩
    have hl : dF a b = 0 ∨ dR a b = 0 ∨ aI (dF a b) = aI (dR a b) := by
      rcases h1 with q | q
      · rcases q.1 with w | w
        · exact Or.inl w
        · exact Or.inr (Or.inl w)
      · exact Or.inr (Or.inr q.1)
    obtain ⟨-, -, -, -, hb2⟩ := line_of ha hb hne hl
    have hr := hb2 i i1 i2
    have hz := h2 i i1 i2
    have h64 : sqA a b i < 64 := by unfold sqA; omega
    by_cases q : B (sqA a b i) = 0
    · exact q
    · rw [(ho _ h64).mpr q] at hz
      exact absurd hz (by decide)
  · intro h k1 k2 k6
    obtain ⟨h1, h2⟩ := h k1 k2 k6
    refine ⟨h1, fun i i1 i2 => ?_⟩
    have hl : dF a b = 0 ∨ dR a b = 0 ∨ aI (dF a b) = aI (dR a b) := by
      rcases h1 with q | q
      · rcases q.1 with w | w
        · exact Or.inl w
        · exact Or.inr (Or.inl w)
      · exact Or.inr (Or.inr q.1)
    obtain ⟨-, -, -, -, hb2⟩ := line_of ha hb hne hl
    have hr := hb2 i i1 i2
    have h64 : sqA a b i < 64 := by unfold sqA; omega
    rcases hz : bt o (sqA a b i) with _ | _
    · rfl
    · exact absurd (h2 i i1 i2) ((ho _ h64).mp hz)
