/-! THE REFERENCE'S ENDINGS: whether a position comes to mate in d half moves -/
theorem eC_row {M : zM} (hW : zFix M) {r n : Nat} (h : zsh M r = some (3, n)) : r ∉ eC := by
  intro q
  unfold eC at q
  simp only [List.mem_cons, List.not_mem_nil, or_false] at q
  rcases q with e | e | e | e | e | e <;> subst e
  · rw [fxs_71 hW] at h; exact absurd h (by simp)
  · rw [fxs_76 hW] at h; exact absurd h (by simp)
  · rw [fxs_77 hW] at h; exact absurd h (by simp)
  · rw [fxs_78 hW] at h; exact absurd h (by simp)
  · rw [fxs_79 hW] at h; exact absurd h (by simp)
  · rw [fxs_80 hW] at h; exact absurd h (by simp)
theorem eTb.sm {M K : zM} (h : eTb M) (s : zSm eC M K) : eTb K := by
  unfold eTb
  rw [s.i (b := 74) (by decide), s.i (b := 75) (by decide)]
  exact h
theorem eRd.sm {M K : zM} (hW : zFix M) (s : zSm eC M K) {k : Nat} {sm : Bool} {N : Nat} (h : eRd M k sm N) : eRd K k sm N := by
  rcases h with ⟨a, b⟩ | ⟨r, a, b, c⟩
  · exact Or.inl ⟨by rw [s.1]; exact a, b⟩
  · refine Or.inr ⟨r, by rw [s.1]; exact a, by unfold zsh; rw [s.1]; exact b, fun x y z hx hy hz => ?_⟩
    rw [s.i (eC_row hW b)]
    exact c x y z hx hy hz
/-- a move leads to a place that is known -/
def mOk (sm : Bool) (N : Nat) (m : Nat × Nat × Nat × Nat × Nat) : Prop := m.2.1 ≠ 0 ∧ ∃ d, d < N ∧ isD m.2.1 m.2.2.1 m.2.2.2.1 m.2.2.2.2 sm d
def mAt (sm : Bool) (d : Nat) (m : Nat × Nat × Nat × Nat × Nat) : Prop := m.2.1 ≠ 0 ∧ isD m.2.1 m.2.2.1 m.2.2.2.1 m.2.2.2.2 sm d
set_option maxHeartbeats 4000000 in
theorem e_comesL {M : zM} {mc ms : Nat} {Q : zQt} {X : Nat → zV} (l46 : zin 11 [0, 5, 6, 7, 8, 9] (aX12_comes_46 mc ms X Q) X 46) (l68 : zin 11 [0, 5, 6, 7, 8, 9] (aX12_comes_68 mc ms X Q) X 68) (l87 : zin 11 [0, 5, 6, 8, 9, 10] (aX12_comes_87 mc ms X Q) X 87) (l92 : zin 11 [0, 5, 6, 8, 9, 10] (aX12_comes_92 mc ms X Q) X 92) (l108 : zin 11 [0, 5, 6, 7, 9] (aX12_comes_108 mc ms X Q) X 108) (l109 : zin 11 [0, 5, 6, 7, 9] (aX12_comes_109 mc ms X Q) X 109) (l129 : zin 11 [] (aX12_comes_129 mc ms X Q) X 129)
    (hW : zFix M) (hT : eTb M) {L : List (Nat × Nat × Nat × Nat × Nat)} (hL : eMl M L) {d : Nat} (d1 : 1 ≤ d) (d9 : d < 100) {sm : Bool} {N : Nat → Nat} (hN : ∀ j, d ≤ N j ∧ N j ≤ 100) (hm : ∀ m, m ∈ L → m.2.1 ≤ 5 ∧ m.2.2.1 < 64 ∧ m.2.2.2.1 < 64 ∧ m.2.2.2.2 < 64 ∧ (m.2.1 ≠ 0 → eRd M m.2.1 (!sm) (N m.2.1))) (hq : ∀ b : Bool, (sm = true → (b = true ↔ ∃ m, m ∈ L ∧ mAt (!sm) (d - 1) m)) → (sm = false → (b = true ↔ L ≠ [] ∧ ∀ m, m ∈ L → mOk (!sm) (N m.2.1) m)) → Q (some (.int (bI b))) M) :
    ∀ (r i : Nat) (f a : Bool), i + r = L.length → (f = true ↔ ∃ j m, j < i ∧ L[j]? = some m ∧ mAt (!sm) (d - 1) m) → (a = true ↔ L ≠ [] ∧ ∀ j m, j < i → L[j]? = some m → mOk (!sm) (N m.2.1) m) → X 46 0 0 [.ref 71, .int (nI d), .int (bI sm), .int (bI f), .int (bI a), .int (nI i)] [] M := by
  intro r
  induction r with
  | zero =>
    intro i f a hi hf ha
    have hi : i = L.length := by omega
    have hl := hL.2.1
    have mem : ∀ m, m ∈ L ↔ ∃ j, j < i ∧ L[j]? = some m := fun m => by
      rw [List.mem_iff_getElem?]
      exact ⟨fun ⟨j, e⟩ => ⟨j, by rw [hi]; exact (List.getElem?_eq_some_iff.mp e).1, e⟩, fun ⟨j, _, e⟩ => ⟨j, e⟩⟩
    have f129 : ∀ b : Bool, (sm = true → b = f) → (sm = false → b = a) → X 129 0 0 [] [.int (bI b)] M := fun b h1 h2 => l129 _ _ _ _ _ ⟨rfl, vX12_comes_129 hW ⟨by cases b <;> rfl, hq b (fun z => by
      rw [h1 z, hf]
      exact ⟨fun ⟨j, m, a1, a2, a3⟩ => ⟨m, (mem m).mpr ⟨j, a1, a2⟩, a3⟩, fun ⟨m, a1, a2⟩ => let ⟨j, b1, b2⟩ := (mem m).mp a1; ⟨j, m, b1, b2, a2⟩⟩) (fun z => by
      rw [h2 z, ha]
      exact and_congr_right (fun _ => ⟨fun h m hm2 => let ⟨j, b1, b2⟩ := (mem m).mp hm2; h j m b1 b2, fun h j m b1 b2 => h m ((mem m).mpr ⟨j, b1, b2⟩)⟩))⟩⟩
    refine l46 _ _ _ _ _ ⟨rfl, vX12_comes_46 hW ?_⟩
    rw [hL.1]
    refine ⟨fun _ => ⟨fun z => f129 a (fun y => ?_) (fun _ => rfl), fun z => f129 f (fun _ => rfl) (fun y => ?_)⟩, fun z => absurd ((nI_leI (by omega) (by omega)).mpr (by omega)) z⟩
    · rw [y] at z; exact absurd z (by decide)
    · rw [y] at z; exact absurd rfl z
  | succ r ih =>
    intro i f a hi hf ha
    have hl := hL.2.1
    obtain ⟨m, em⟩ : ∃ m, L[i]? = some m := ⟨L[i]'(by omega), List.getElem?_eq_getElem (by omega)⟩
    have mL : m ∈ L := List.mem_iff_getElem?.mpr ⟨i, em⟩
    obtain ⟨m1, m2, m3, m4, m5⟩ := hm m mL
    obtain ⟨n1, n2⟩ := hN m.2.1
    have nxt : ∀ f2 a2 : Bool, (f2 = true ↔ f = true ∨ mAt (!sm) (d - 1) m) → (a2 = true ↔ a = true ∧ mOk (!sm) (N m.2.1) m) → X 109 0 0 [.ref 71, .int (nI d), .int (bI sm), .int (bI f2), .int (nI i)] [.int (bI a2)] M := by
      intro f2 a2 h1 h2
      refine l109 _ _ _ _ _ ⟨rfl, vX12_comes_109 hW ?_⟩
      rw [show nI i + (1 : Int32) = nI (i + 1) from nI_add _ 1]
      refine ih (i + 1) f2 a2 (by omega) ?_ ?_
      · rw [h1, hf]
        constructor
        · rintro (⟨j, m', x, y, z⟩ | z)
          · exact ⟨j, m', by omega, y, z⟩
          · exact ⟨i, m, by omega, em, z⟩
        · rintro ⟨j, m', x, y, z⟩
          by_cases e : j = i
          · subst e; rw [em] at y; rw [Option.some.inj y]; exact Or.inr z
          · exact Or.inl ⟨j, m', by omega, y, z⟩
      · rw [h2, ha]
        constructor
        · rintro ⟨⟨x, y⟩, z⟩
          refine ⟨x, fun j m' b1 b2 => ?_⟩
          by_cases e : j = i
          · subst e; rw [em] at b2; rw [← Option.some.inj b2]; exact z
          · exact y j m' (by omega) b2
        · rintro ⟨x, y⟩
          exact ⟨⟨x, fun j m' b1 b2 => y j m' (by omega) b2⟩, y i m (by omega) em⟩
    have f68 : X 68 0 0 [.ref 71, .int (nI d), .int (bI sm), .int (bI f), .int (bI a), .int (nI i)] [.int (bI (!sm)), .int (nI i), .ref 71] M := by
      refine l68 _ _ _ _ _ ⟨rfl, vX12_comes_68 hW ?_⟩
      refine e_reached hW hT hL em ⟨m1, m2, m3, m4⟩ (sm := !sm) (N := N m.2.1) m5 (fun v hv0 hv1 => ?_)
      have at1 : v = nI (d - 1) ↔ mAt (!sm) (d - 1) m := by
        by_cases z : m.2.1 = 0
        · rw [hv0 z]
          exact ⟨fun h => absurd h.symm (by
            intro e
            have := (nI_leI (a := 0) (b := d - 1) (by decide) (by omega)).mpr (by omega)
            rw [e] at this
            exact absurd this (by decide)), fun h => absurd z h.1⟩
        · rcases hv1 z with ⟨e, e1, e2, e3⟩ | ⟨e1, e2⟩
          · rw [e3, nI_eq (by omega) (by omega)]
            exact ⟨fun q => ⟨z, by rw [← q]; exact e2⟩, fun q => isD_uniq e2 q.2⟩
          · rw [e2]
            exact ⟨fun h => absurd h.symm (by
              intro e
              have := (nI_leI (a := 0) (b := d - 1) (by decide) (by omega)).mpr (by omega)
              rw [e] at this
              exact absurd this (by decide)), fun h => absurd h.2 (e1 _ (by omega))⟩
      have ok1 : ¬ v < 0 ↔ mOk (!sm) (N m.2.1) m := by
        by_cases z : m.2.1 = 0
        · rw [hv0 z]
          exact ⟨fun h => absurd (by decide) h, fun h => absurd z h.1⟩
        · rcases hv1 z with ⟨e, e1, e2, e3⟩ | ⟨e1, e2⟩
          · rw [e3]
            exact ⟨fun _ => ⟨z, e, e1, e2⟩, fun _ q => absurd ((nI_ltI (a := e) (b := 0) (by omega) (by decide)).mp q) (by omega)⟩
          · rw [e2]
            exact ⟨fun h => absurd (by decide) h, fun ⟨_, e, a1, a2⟩ => absurd a2 (e1 e a1)⟩
      have f92 : ∀ f2 : Bool, (f2 = true ↔ f = true ∨ mAt (!sm) (d - 1) m) → X 92 0 0 [.ref 71, .int (nI d), .int (bI sm), .int (bI a), .int (nI i), .int v] [.int (bI f2)] M := by
        intro f2 h1
        have f108 : ¬ (a = true ∧ mOk (!sm) (N m.2.1) m) → X 108 0 0 [.ref 71, .int (nI d), .int (bI sm), .int (bI f2), .int (nI i)] [] M := fun h => l108 _ _ _ _ _ ⟨rfl, vX12_comes_108 hW (nxt f2 false h1 ⟨fun q => absurd q (by decide), fun q => absurd q h⟩)⟩
        refine l92 _ _ _ _ _ ⟨rfl, vX12_comes_92 hW ⟨fun z => f108 (fun q => ?_), fun z => ⟨fun y => f108 (fun q => ok1.mpr q.2 y), fun y => nxt f2 true h1 ⟨fun _ => ⟨bI_n.mp z, ok1.mp y⟩, fun _ => rfl⟩⟩⟩⟩
        rw [bI_0.mp z] at q; exact absurd q.1 (by decide)
      have f87 : (f = true ∨ mAt (!sm) (d - 1) m) → X 87 0 0 [.ref 71, .int (nI d), .int (bI sm), .int (bI a), .int (nI i), .int v] [] M := fun h => l87 _ _ _ _ _ ⟨rfl, vX12_comes_87 hW (f92 true ⟨fun _ => h, fun _ => rfl⟩)⟩
      refine vkX12_comes_71 hW ?_
      rw [show nI d - (1 : Int32) = nI (d - 1) from pk_sub (a := d) (b := 1) d1]
      refine ⟨fun z => ⟨fun y => f87 (Or.inr (at1.mp y)), fun y => f92 false ⟨fun q => absurd q (by decide), fun q => ?_⟩⟩, fun z => f87 (Or.inl (bI_n.mp z))⟩
      rcases q with q | q
      · rw [bI_0.mp z] at q; exact q
      · exact absurd (at1.mpr q) y
    refine l46 _ _ _ _ _ ⟨rfl, vX12_comes_46 hW ?_⟩
    rw [hL.1]
    refine ⟨fun z => absurd ((nI_leI (by omega) (by omega)).mp z) (by omega), fun _ => ⟨fun z => ?_, fun z => ?_⟩⟩
    · have z := bI_0.mp z
      subst z
      exact f68
    · have z := bI_n.mp z
      subst z
      exact f68
