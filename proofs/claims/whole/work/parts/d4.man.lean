/-! THE REFERENCE'S ENDINGS: moves of the man -/
def lpB (k : Nat) (df dr : Int) : Bool := decide (k = 2 ∧ aI df + aI dr = 3)
def slB (k : Nat) (df dr : Int) : Bool := decide (3 ≤ k ∧ aI df < 2 ∧ aI dr < 2 ∧ 0 < aI df + aI dr ∧ (k = 5 ∨ (k = 3 ↔ aI df + aI dr = 2)))
/-- t lies n steps from p -/
def dirT (p : Nat) (df dr : Int) (n t : Nat) : Prop := t < 64 ∧ ((t % 8 : Nat) : Int) = (p % 8 : Nat) + df * (n : Int) ∧ ((t / 8 : Nat) : Int) = (p / 8 : Nat) + dr * (n : Int)
/-- and may be gone to -/
def inD (s p w : Nat) (df dr : Int) (n t : Nat) : Prop := dirT p df dr n t ∧ t ≠ s ∧ t ≠ w ∧ ∀ j u, 1 ≤ j → j < n → dirT p df dr j u → u ≠ s ∧ u ≠ w
def dM (sl : Bool) (k s p w : Nat) (df dr : Int) (m : Nat × Nat × Nat × Nat × Nat) : Prop := ∃ n t, 1 ≤ n ∧ (sl = false → n = 1) ∧ inD s p w df dr n t ∧ m = (p + 64 * t, k, s, t, w)
def edg (d : Int) (x : Nat) : Nat := if d = 1 then 7 - x else if d = -1 then x else 7
def capD (k p : Nat) (df dr : Int) : Nat := if lpB k df dr = true then 1 else if slB k df dr = true then min (edg df (p % 8)) (edg dr (p / 8)) else 0
def capS (k p : Nat) : Nat → Nat
  | 0 => 0
  | c + 1 => capS k p c + capD k p ((c / 5 : Nat) - 2) ((c % 5 : Nat) - 2)
theorem capS_all : (List.range 4).all (fun k => (List.range 64).all (fun p => (List.range 26).all (fun c => decide (capS (k + 2) p c ≤ 27)))) = true := by decide +kernel
theorem capS_le {k p c : Nat} (k2 : 2 ≤ k) (k5 : k ≤ 5) (hp : p < 64) (hc : c ≤ 25) : capS k p c ≤ 27 := by
  have h := List.all_eq_true.mp (List.all_eq_true.mp (List.all_eq_true.mp capS_all (k - 2) (List.mem_range.mpr (by omega))) p (List.mem_range.mpr hp)) c (List.mem_range.mpr (by omega))
  rw [show k - 2 + 2 = k by omega] at h
  exact of_decide_eq_true h
theorem aI_lt2 {z : Int} (h : aI z < 2) : z = -1 ∨ z = 0 ∨ z = 1 := by
  unfold aI at h
  split at h <;> omega
theorem slB_of {k : Nat} {df dr : Int} (h : slB k df dr = true) : (df = -1 ∨ df = 0 ∨ df = 1) ∧ (dr = -1 ∨ dr = 0 ∨ dr = 1) ∧ ¬ (df = 0 ∧ dr = 0) := by
  have h := of_decide_eq_true h
  refine ⟨aI_lt2 h.2.1, aI_lt2 h.2.2.1, fun q => ?_⟩
  have := h.2.2.2.1
  rw [q.1, q.2] at this
  exact absurd this (by decide)
/-- a step lies on the board if a later one does -/
theorem dir_conv {p n t i : Nat} {df dr : Int} (hp : p < 64) (h1 : df = -1 ∨ df = 0 ∨ df = 1) (h2 : dr = -1 ∨ dr = 0 ∨ dr = 1) (h : dirT p df dr n t) (hi : i ≤ n) : 0 ≤ ((p % 8 : Nat) : Int) + df * (i : Int) ∧ ((p % 8 : Nat) : Int) + df * (i : Int) < 8 ∧ 0 ≤ ((p / 8 : Nat) : Int) + dr * (i : Int) ∧ ((p / 8 : Nat) : Int) + dr * (i : Int) < 8 := by
  obtain ⟨a, b, c⟩ := h
  rcases h1 with e | e | e <;> rcases h2 with g | g | g <;> subst e <;> subst g <;> omega
theorem dir_cap {k p i : Nat} {df dr : Int} (hp : p < 64) (hs : slB k df dr = true) (b1 : 0 ≤ ((p % 8 : Nat) : Int) + df * (i : Int)) (b2 : ((p % 8 : Nat) : Int) + df * (i : Int) < 8) (b3 : 0 ≤ ((p / 8 : Nat) : Int) + dr * (i : Int)) (b4 : ((p / 8 : Nat) : Int) + dr * (i : Int) < 8) : i ≤ min (edg df (p % 8)) (edg dr (p / 8)) := by
  obtain ⟨h1, h2, h3⟩ := slB_of hs
  unfold edg
  rcases h1 with e | e | e <;> rcases h2 with g | g | g <;> subst e <;> subst g <;> simp at h3 ⊢ <;> omega
theorem dirT_inj {p n t u : Nat} {df dr : Int} (h : dirT p df dr n t) (g : dirT p df dr n u) : t = u := by
  obtain ⟨a, b, c⟩ := h
  obtain ⟨d, e, f⟩ := g
  omega
theorem dirT_of {p i : Nat} {df dr : Int} {f r : Int} (ef : f = ((p % 8 : Nat) : Int) + df * (i : Int)) (er : r = ((p / 8 : Nat) : Int) + dr * (i : Int)) (a : 0 ≤ f) (b : f < 8) (c : 0 ≤ r) (d : r < 8) : dirT p df dr i (8 * r + f).toNat ∧ ((8 * r + f).toNat : Int) = 8 * r + f ∧ (8 * r + f).toNat < 64 := by
  refine ⟨⟨by omega, ?_, ?_⟩, by omega, by omega⟩
  · rw [← ef]; omega
  · rw [← er]; omega
