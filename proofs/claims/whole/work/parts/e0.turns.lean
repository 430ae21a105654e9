/-! TURNS OF THE BOARD -/
def tA (q : Nat) : Nat := 8 * (q / 8) + (7 - q % 8)
def tB (q : Nat) : Nat := 8 * (7 - q / 8) + q % 8
def tC (q : Nat) : Nat := 8 * (q % 8) + q / 8
/-- what a turn of the board keeps -/
def Trn (g : Nat → Nat) : Prop := (∀ q, q < 64 → g q < 64) ∧ (∀ q, q < 64 → g (g q) = q) ∧ (∀ a b, a < 64 → b < 64 → (kiG (g a) (g b) ↔ kiG a b)) ∧ (∀ a b, a < 64 → b < 64 → (knG (g a) (g b) ↔ knG a b)) ∧ (∀ k a b, a < 64 → b < 64 → (slides k (g a) (g b) ↔ slides k a b)) ∧ ∀ k s a b, s < 64 → a < 64 → b < 64 → a ≠ b → slides k a b → (opn (g s) (g a) (g b) ↔ opn s a b)
theorem sl_al {k a b : Nat} (h : slides k a b) : dF a b = 0 ∨ dR a b = 0 ∨ aI (dF a b) = aI (dR a b) := by
  rcases h with q | q
  · rcases q.1 with z | z
    · exact Or.inl z
    · exact Or.inr (Or.inl z)
  · exact Or.inr (Or.inr q.1)
theorem Trn.inj {g : Nat → Nat} (lt : ∀ q, q < 64 → g q < 64) (inv : ∀ q, q < 64 → g (g q) = q) {a b : Nat} (ha : a < 64) (hb : b < 64) : g a = g b ↔ a = b := ⟨fun h => by rw [← inv a ha, h, inv b hb], fun h => by rw [h]⟩
/-- from coordinates -/
theorem Trn.mk2 {g : Nat → Nat} (lt : ∀ q, q < 64 → g q < 64) (inv : ∀ q, q < 64 → g (g q) = q) (hd : ∀ a b, a < 64 → b < 64 → (aI (dF (g a) (g b)) = aI (dF a b) ∧ aI (dR (g a) (g b)) = aI (dR a b)) ∨ (aI (dF (g a) (g b)) = aI (dR a b) ∧ aI (dR (g a) (g b)) = aI (dF a b))) (hq : ∀ a b j, a < 64 → b < 64 → a ≠ b → (dF a b = 0 ∨ dR a b = 0 ∨ aI (dF a b) = aI (dR a b)) → j ≤ stn a b → stn (g a) (g b) = stn a b ∧ sqA (g a) (g b) j = g (sqA a b j) ∧ sqA a b j < 64) : Trn g := by
  refine ⟨lt, inv, fun a b ha hb => ?_, fun a b ha hb => ?_, fun k a b ha hb => ?_, fun k s a b hs ha hb hne hsl => ?_⟩
  · unfold kiG
    rw [ne_eq, ne_eq, Trn.inj lt inv ha hb]
    rcases hd a b ha hb with ⟨e1, e2⟩ | ⟨e1, e2⟩ <;> rw [e1, e2]
    exact and_congr_right (fun _ => and_comm)
  · unfold knG
    rcases hd a b ha hb with ⟨e1, e2⟩ | ⟨e1, e2⟩ <;> rw [e1, e2]
    rw [Int.mul_comm]
  · have zero : ∀ z : Int, z = 0 ↔ aI z = 0 := fun z => by unfold aI; split <;> omega
    unfold slides
    rw [zero (dF (g a) (g b)), zero (dR (g a) (g b)), zero (dF a b), zero (dR a b)]
    rcases hd a b ha hb with ⟨e1, e2⟩ | ⟨e1, e2⟩ <;> rw [e1, e2]
    rw [Or.comm (a := aI (dR a b) = 0), eq_comm (a := aI (dR a b)) (b := aI (dF a b))]
  · have hal := sl_al hsl
    constructor
    · intro h j j1 j2 e
      obtain ⟨e1, e2, _⟩ := hq a b j ha hb hne hal (by omega)
      exact h j j1 (by omega) (by rw [e2, e])
    · intro h j j1 j2 e
      rw [(hq a b 0 ha hb hne hal (by omega)).1] at j2
      obtain ⟨e1, e2, e3⟩ := hq a b j ha hb hne hal (by omega)
      rw [e2] at e
      exact h j j1 j2 ((Trn.inj lt inv e3 hs).mp e)
theorem sqA_dir {p t u j : Nat} (hp : p < 64) (ht : t < 64) (hne : p ≠ t) (hl : dF p t = 0 ∨ dR p t = 0 ∨ aI (dF p t) = aI (dR p t)) (h : j ≤ stn p t) (hd : dirT p (sgn (dF p t)) (sgn (dR p t)) j u) : u = sqA p t j := dirT_inj hd (dir_sq hp ht hne hl h)
theorem tA_Trn : Trn tA := by
  have c8 : ∀ q, q < 64 → tA q % 8 = 7 - q % 8 ∧ tA q / 8 = q / 8 ∧ tA q < 64 := fun q h => by unfold tA; omega
  have eF : ∀ a b, a < 64 → b < 64 → dF (tA a) (tA b) = - dF a b := fun a b ha hb => by unfold dF; rw [(c8 a ha).1, (c8 b hb).1]; omega
  have eR : ∀ a b, a < 64 → b < 64 → dR (tA a) (tA b) = dR a b := fun a b ha hb => by unfold dR; rw [(c8 a ha).2.1, (c8 b hb).2.1]
  refine Trn.mk2 (fun q h => (c8 q h).2.2) (fun q h => by unfold tA; omega) (fun a b ha hb => Or.inl ⟨by rw [eF a b ha hb, aI_neg], by rw [eR a b ha hb]⟩) (fun a b j ha hb hne hl hj => ?_)
  have es : stn (tA a) (tA b) = stn a b := by unfold stn; rw [eF a b ha hb, eR a b ha hb, Int.natAbs_neg]
  have d := dir_sq ha hb hne hl hj
  refine ⟨es, ?_, d.1⟩
  have hne2 : tA a ≠ tA b := fun q => hne (by have := c8 a ha; have := c8 b hb; unfold tA at q; omega)
  refine (sqA_dir (c8 a ha).2.2 (c8 b hb).2.2 hne2 (by rw [eF a b ha hb, eR a b ha hb, aI_neg]; omega) (by rw [es]; exact hj) ?_).symm
  obtain ⟨d1, d2, d3⟩ := d
  have cu := c8 _ d1
  have ca := c8 a ha
  rw [eF a b ha hb, eR a b ha hb, sgn_neg]
  refine ⟨cu.2.2, ?_, ?_⟩
  · rw [cu.1, ca.1, Int.neg_mul]; omega
  · rw [cu.2.1, ca.2.1]; exact d3
theorem tB_Trn : Trn tB := by
  have c8 : ∀ q, q < 64 → tB q % 8 = q % 8 ∧ tB q / 8 = 7 - q / 8 ∧ tB q < 64 := fun q h => by unfold tB; omega
  have eF : ∀ a b, a < 64 → b < 64 → dF (tB a) (tB b) = dF a b := fun a b ha hb => by unfold dF; rw [(c8 a ha).1, (c8 b hb).1]
  have eR : ∀ a b, a < 64 → b < 64 → dR (tB a) (tB b) = - dR a b := fun a b ha hb => by unfold dR; rw [(c8 a ha).2.1, (c8 b hb).2.1]; omega
  refine Trn.mk2 (fun q h => (c8 q h).2.2) (fun q h => by unfold tB; omega) (fun a b ha hb => Or.inl ⟨by rw [eF a b ha hb], by rw [eR a b ha hb, aI_neg]⟩) (fun a b j ha hb hne hl hj => ?_)
  have es : stn (tB a) (tB b) = stn a b := by unfold stn; rw [eF a b ha hb, eR a b ha hb, Int.natAbs_neg]
  have d := dir_sq ha hb hne hl hj
  refine ⟨es, ?_, d.1⟩
  have hne2 : tB a ≠ tB b := fun q => hne (by have := c8 a ha; have := c8 b hb; unfold tB at q; omega)
  refine (sqA_dir (c8 a ha).2.2 (c8 b hb).2.2 hne2 (by rw [eF a b ha hb, eR a b ha hb, aI_neg]; omega) (by rw [es]; exact hj) ?_).symm
  obtain ⟨d1, d2, d3⟩ := d
  have cu := c8 _ d1
  have ca := c8 a ha
  rw [eF a b ha hb, eR a b ha hb, sgn_neg]
  refine ⟨cu.2.2, ?_, ?_⟩
  · rw [cu.1, ca.1]; exact d2
  · rw [cu.2.1, ca.2.1, Int.neg_mul]; omega
theorem tC_Trn : Trn tC := by
  have c8 : ∀ q, q < 64 → tC q % 8 = q / 8 ∧ tC q / 8 = q % 8 ∧ tC q < 64 := fun q h => by unfold tC; omega
  have eF : ∀ a b, a < 64 → b < 64 → dF (tC a) (tC b) = dR a b := fun a b ha hb => by unfold dF dR; rw [(c8 a ha).1, (c8 b hb).1]
  have eR : ∀ a b, a < 64 → b < 64 → dR (tC a) (tC b) = dF a b := fun a b ha hb => by unfold dF dR; rw [(c8 a ha).2.1, (c8 b hb).2.1]
  refine Trn.mk2 (fun q h => (c8 q h).2.2) (fun q h => by unfold tC; omega) (fun a b ha hb => Or.inr ⟨by rw [eF a b ha hb], by rw [eR a b ha hb]⟩) (fun a b j ha hb hne hl hj => ?_)
  have es : stn (tC a) (tC b) = stn a b := by unfold stn; rw [eF a b ha hb, eR a b ha hb, Nat.max_comm]
  have d := dir_sq ha hb hne hl hj
  refine ⟨es, ?_, d.1⟩
  have hne2 : tC a ≠ tC b := fun q => hne (by have := c8 a ha; have := c8 b hb; unfold tC at q; omega)
  refine (sqA_dir (c8 a ha).2.2 (c8 b hb).2.2 hne2 (by rw [eF a b ha hb, eR a b ha hb]; omega) (by rw [es]; exact hj) ?_).symm
  obtain ⟨d1, d2, d3⟩ := d
  have cu := c8 _ d1
  have ca := c8 a ha
  rw [eF a b ha hb, eR a b ha hb]
  refine ⟨cu.2.2, ?_, ?_⟩
  · rw [cu.1, ca.1]; exact d3
  · rw [cu.2.1, ca.2.1]; exact d2
