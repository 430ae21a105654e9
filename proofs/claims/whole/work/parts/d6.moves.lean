/-! THE REFERENCE'S ENDINGS: all moves, mates -/
theorem al_all : (List.range 64).all (fun p => (List.range 64).all (fun t => decide (p = t) || !(decide (dF p t = 0) || decide (dR p t = 0) || decide (aI (dF p t) = aI (dR p t))) || (decide (dF p t = sgn (dF p t) * (stn p t : Int)) && decide (dR p t = sgn (dR p t) * (stn p t : Int))))) = true := by decide +kernel
theorem al_of {p t : Nat} (hp : p < 64) (ht : t < 64) (hne : p ≠ t) (hl : dF p t = 0 ∨ dR p t = 0 ∨ aI (dF p t) = aI (dR p t)) : dirT p (sgn (dF p t)) (sgn (dR p t)) (stn p t) t := by
  have h := List.all_eq_true.mp (List.all_eq_true.mp al_all p (List.mem_range.mpr hp)) t (List.mem_range.mpr ht)
  simp only [Bool.or_eq_true, Bool.and_eq_true, Bool.not_eq_true', Bool.or_eq_false_iff, decide_eq_true_eq, decide_eq_false_iff_not] at h
  rcases h with (h | h) | ⟨a, b⟩
  · exact absurd h hne
  · rcases hl with q | q | q
    · exact absurd q h.1.1
    · exact absurd q h.1.2
    · exact absurd q h.2
  · refine ⟨ht, ?_, ?_⟩
    · rw [← a]; unfold dF; omega
    · rw [← b]; unfold dR; omega
theorem sgn3 (z : Int) : sgn z = -1 ∨ sgn z = 0 ∨ sgn z = 1 := by
  have := sgn_bd z
  omega
theorem dir_sq {p t j : Nat} (hp : p < 64) (ht : t < 64) (hne : p ≠ t) (hl : dF p t = 0 ∨ dR p t = 0 ∨ aI (dF p t) = aI (dR p t)) (h : j ≤ stn p t) : dirT p (sgn (dF p t)) (sgn (dR p t)) j (sqA p t j) := by
  obtain ⟨a, b, c, d⟩ := dir_conv hp (sgn3 _) (sgn3 _) (al_of hp ht hne hl) h
  have q := (dirT_of (p := p) (i := j) (df := sgn (dF p t)) (dr := sgn (dR p t)) rfl rfl a b c d).1
  have e : 8 * (((p / 8 : Nat) : Int) + sgn (dR p t) * (j : Int)) + (((p % 8 : Nat) : Int) + sgn (dF p t) * (j : Int)) = (p : Int) + stp p t * (j : Int) := by
    have : stp p t * (j : Int) = 8 * (sgn (dR p t) * (j : Int)) + sgn (dF p t) * (j : Int) := by
      unfold stp
      rw [Int.add_mul, Int.mul_assoc]
    omega
  rw [e] at q
  exact q
theorem dir_geo {p t n : Nat} {df dr : Int} (h1 : df = -1 ∨ df = 0 ∨ df = 1) (h2 : dr = -1 ∨ dr = 0 ∨ dr = 1) (h3 : ¬ (df = 0 ∧ dr = 0)) (n1 : 1 ≤ n) (h : dirT p df dr n t) : p ≠ t ∧ sgn (dF p t) = df ∧ sgn (dR p t) = dr ∧ stn p t = n ∧ (df = 0 ↔ dF p t = 0) ∧ (dr = 0 ↔ dR p t = 0) ∧ (df ≠ 0 → dr ≠ 0 → aI (dF p t) = aI (dR p t)) := by
  obtain ⟨a, b, c⟩ := h
  have eF : dF p t = df * (n : Int) := by unfold dF; omega
  have eR : dR p t = dr * (n : Int) := by unfold dR; omega
  have hne : p ≠ t := by
    intro e
    rw [e] at b c
    rcases h1 with x | x | x <;> rcases h2 with y | y | y <;> rw [x] at b <;> rw [y] at c <;> omega
  refine ⟨hne, ?_⟩
  unfold stn
  rw [eF, eR]
  rcases h1 with x | x | x <;> rcases h2 with y | y | y <;> rw [x, y] <;> (try (exfalso; omega)) <;> unfold sgn aI <;> refine ⟨?_, ?_, ?_, ?_, ?_, ?_⟩ <;> first | omega | (split <;> (try split) <;> omega) | (intro _ _; split <;> split <;> omega)
