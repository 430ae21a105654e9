/-! THE REFERENCE'S ENDINGS: what a round leaves alone -/
theorem row_74 {M : zM} (hW : zFix M) {r n : Nat} (h : zsh M r = some (3, n)) : r ≠ 74 ∧ r ≠ 75 := by
  refine ⟨fun e => ?_, fun e => ?_⟩
  · subst e; rw [fxs_74 hW] at h; exact absurd h (by simp)
  · subst e; rw [fxs_75 hW] at h; exact absurd h (by simp)
theorem eTb.rw {M K : zM} (h : eTb M) (hW : zFix M) {r n : Nat} (hr : zsh M r = some (3, n)) (s : zSm (r :: eC) M K) : eTb K := by
  obtain ⟨n1, n2⟩ := row_74 hW hr
  unfold eTb
  rw [s.i (b := 74) (by simp [eC]; exact fun q => n1 q.symm), s.i (b := 75) (by simp [eC]; exact fun q => n2 q.symm)]
  exact h
theorem eRd.rw {M K : zM} (hW : zFix M) {r : Nat} (s : zSm (r :: eC) M K) {j : Nat} {sm : Bool} {N : Nat} (h : eRd M j sm N) (hne : M.2.2.1 71 (slt j) ≠ some r) : eRd K j sm N := by
  rcases h with ⟨a, b⟩ | ⟨r2, a, b, c⟩
  · exact Or.inl ⟨by rw [s.1]; exact a, b⟩
  · refine Or.inr ⟨r2, by rw [s.1]; exact a, by unfold zsh; rw [s.1]; exact b, fun x y z hx hy hz => ?_⟩
    rw [s.i (b := r2) (fun q => by
      rcases List.mem_cons.mp q with e | e
      · exact hne (by rw [a, e])
      · exact eC_row hW b e)]
    exact c x y z hx hy hz
theorem isD_0 {k s p w : Nat} : isD k s p w false 0 ↔ mate5 k s p w := by
  rw [isD_f]
  exact ⟨fun ⟨n, a, b, _⟩ => by rw [show n = 0 by omega] at b; exact b, fun h => ⟨0, rfl, h, fun j hj => absurd hj (by omega)⟩⟩
