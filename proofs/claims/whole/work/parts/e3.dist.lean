/-! DISTANCES -/
def isD (k s p w : Nat) (sm : Bool) (d : Nat) : Prop := if sm = true then ∃ n, d = 2 * n + 1 ∧ Sc k (Ok k) n s p w ∧ ∀ j, j < n → ¬ Sc k (Ok k) j s p w else ∃ n, d = 2 * n ∧ Wc k (Ok k) n s p w ∧ ∀ j, j < n → ¬ Wc k (Ok k) j s p w
theorem isD_t {k s p w d : Nat} : isD k s p w true d ↔ ∃ n, d = 2 * n + 1 ∧ Sc k (Ok k) n s p w ∧ ∀ j, j < n → ¬ Sc k (Ok k) j s p w := by unfold isD; rw [if_pos rfl]
theorem isD_f {k s p w d : Nat} : isD k s p w false d ↔ ∃ n, d = 2 * n ∧ Wc k (Ok k) n s p w ∧ ∀ j, j < n → ¬ Wc k (Ok k) j s p w := by unfold isD; rw [if_neg (by decide)]
theorem least {P : Nat → Prop} {n : Nat} (h : P n) : ∃ j, j ≤ n ∧ P j ∧ ∀ i, i < j → ¬ P i := by
  induction n using Nat.strongRecOn with
  | ind n ih =>
    by_cases z : ∃ i, i < n ∧ P i
    · obtain ⟨i, a, b⟩ := z
      obtain ⟨j, c, d, e⟩ := ih i a b
      exact ⟨j, by omega, d, e⟩
    · exact ⟨n, Nat.le_refl n, h, fun i hi q => z ⟨i, hi, q⟩⟩
theorem isD_uniq {k s p w : Nat} {sm : Bool} {d e : Nat} (h : isD k s p w sm d) (g : isD k s p w sm e) : d = e := by
  cases sm
  · obtain ⟨n, a, b, c⟩ := isD_f.mp h
    obtain ⟨m, a2, b2, c2⟩ := isD_f.mp g
    have : n = m := by
      rcases Nat.lt_trichotomy n m with z | z | z
      · exact absurd b (c2 n z)
      · exact z
      · exact absurd b2 (c m z)
    omega
  · obtain ⟨n, a, b, c⟩ := isD_t.mp h
    obtain ⟨m, a2, b2, c2⟩ := isD_t.mp g
    have : n = m := by
      rcases Nat.lt_trichotomy n m with z | z | z
      · exact absurd b (c2 n z)
      · exact z
      · exact absurd b2 (c m z)
    omega
theorem Wc_isD {k s p w n : Nat} : Wc k (Ok k) n s p w ↔ ∃ d, d ≤ 2 * n ∧ isD k s p w false d := by
  constructor
  · intro h
    obtain ⟨j, a, b, c⟩ := least (P := fun j => Wc k (Ok k) j s p w) h
    exact ⟨2 * j, by omega, isD_f.mpr ⟨j, rfl, b, c⟩⟩
  · rintro ⟨d, a, h⟩
    obtain ⟨j, e, b, _⟩ := isD_f.mp h
    exact Wc_mono (by omega) b
theorem Sc_isD {k s p w n : Nat} : Sc k (Ok k) n s p w ↔ ∃ d, d ≤ 2 * n + 1 ∧ isD k s p w true d := by
  constructor
  · intro h
    obtain ⟨j, a, b, c⟩ := least (P := fun j => Sc k (Ok k) j s p w) h
    exact ⟨2 * j + 1, by omega, isD_t.mpr ⟨j, rfl, b, c⟩⟩
  · rintro ⟨d, a, h⟩
    obtain ⟨j, e, b, _⟩ := isD_t.mp h
    exact Sc_mono (Ok_mon k) (by omega) b
/-- no distance reaches 58 -/
theorem isD_lt {k s p w : Nat} {sm : Bool} {d : Nat} (k1 : 1 ≤ k) (k5 : k ≤ 5) (hs : s < 64) (hp : p < 64) (hw : w < 64) (h : isD k s p w sm d) : d < 58 := by
  cases sm
  · obtain ⟨n, e, b, c⟩ := isD_f.mp h
    have := Wc_bnd k1 k5 n hs hp hw b
    have : ¬ 28 < n := fun z => c 28 z this
    omega
  · obtain ⟨n, e, b, c⟩ := isD_t.mp h
    have := Sc_bnd k1 k5 n hs hp hw b
    have : ¬ 28 < n := fun z => c 28 z this
    omega
theorem isD_pos {k s p w : Nat} {sm : Bool} {d : Nat} (h : isD k s p w sm d) : pos5 k s p w sm := by
  cases sm
  · obtain ⟨n, e, b, c⟩ := isD_f.mp h
    exact Wc_pos b
  · obtain ⟨n, e, b, c⟩ := isD_t.mp h
    exact b.1
theorem isD_g {g : Nat → Nat} {k : Nat} (h : Tk g k) (sm : Bool) (d : Nat) : Inv3 g (fun s p w => isD k s p w sm d) := fun s p w hs hp hw => by
  cases sm
  · show isD k (g s) (g p) (g w) false d ↔ isD k s p w false d
    rw [isD_f, isD_f]
    refine exists_congr (fun n => and_congr_right (fun _ => and_congr (Wk_g h n s p w hs hp hw) ?_))
    exact ⟨fun a j hj q => a j hj ((Wk_g h j s p w hs hp hw).mpr q), fun a j hj q => a j hj ((Wk_g h j s p w hs hp hw).mp q)⟩
  · show isD k (g s) (g p) (g w) true d ↔ isD k s p w true d
    rw [isD_t, isD_t]
    refine exists_congr (fun n => and_congr_right (fun _ => and_congr (Sk_g h n s p w hs hp hw) ?_))
    exact ⟨fun a j hj q => a j hj ((Sk_g h j s p w hs hp hw).mpr q), fun a j hj q => a j hj ((Sk_g h j s p w hs hp hw).mp q)⟩
/-- a position and the one that is kept for it -/
theorem isD_trn {k s : Nat} (hs : s < 64) {p w : Nat} (hp : p < 64) (hw : w < 64) (sm : Bool) (d : Nat) : isD k (trn (tIx k s) s) (trn (tIx k s) p) (trn (tIx k s) w) sm d ↔ isD k s p w sm d := by
  obtain ⟨t8, t2, _⟩ := tIx_of (k := k) hs
  by_cases k1 : k = 1
  · have hA := isD_g (g := tA) (k := k) ⟨tA_Trn, fun _ => tA_pn⟩ sm d
    have t2 := t2 k1
    rw [(trn_of t8 hs).1, (trn_of t8 hp).1, (trn_of t8 hw).1]
    have hz : tIx k s / 4 % 2 = 0 ∧ tIx k s / 2 % 2 = 0 := by omega
    unfold trC
    simp only [if_pos hz.1, if_pos hz.2]
    exact Inv3_if hA (tIx k s % 2 = 0) s p w hs hp hw
  · have tk : ∀ {g : Nat → Nat}, Trn g → Tk g k := fun h => ⟨h, fun q => absurd q k1⟩
    exact trn_inv (X := fun s p w => isD k s p w sm d) (isD_g (tk tA_Trn) sm d) (isD_g (tk tB_Trn) sm d) (isD_g (tk tC_Trn) sm d) t8 s p w hs hp hw
/-- a round of the side with the man -/
theorem rd_S {k s p w n : Nat} (k1 : 1 ≤ k) (k5 : k ≤ 5) (hs : s < 64) (hp : p < 64) (hw : w < 64) (hP : pos5 k s p w true) (hno : ∀ j, j < n → ¬ Sc k (Ok k) j s p w) : Sc k (Ok k) n s p w ↔ ∃ m, stM k s p w m ∧ isD m.2.1 m.2.2.1 m.2.2.2.1 m.2.2.2.2 false (2 * n) := by
  constructor
  · rintro ⟨_, h⟩
    have nj : ∀ j, j < n → ¬ smv k (Wc k (Ok k) j) (Ok k j) s p w := fun j hj q => hno j hj ⟨hP, q⟩
    rcases h with ⟨t, a, b, c⟩ | ⟨t, a, b, c⟩ | ⟨a, b, c⟩
    · exact ⟨(s + 64 * t, k, t, p, w), Or.inl ⟨t, a, b, Wc_pos c, rfl⟩, isD_f.mpr ⟨n, rfl, c, fun j hj q => nj j hj (Or.inl ⟨t, a, b, q⟩)⟩⟩
    · have hD : isD k s t w false (2 * n) := isD_f.mpr ⟨n, rfl, c, fun j hj q => nj j hj (Or.inr (Or.inl ⟨t, a, b, q⟩))⟩
      by_cases z : k = 1
      · subst z
        have hpos := Wc_pos c
        have t7 := hpos.2.2.2.2.1 rfl
        obtain ⟨ns, nw, hm⟩ := b
        rcases hm with e | ⟨r1, e, n1, n2⟩
        · subst e
          exact ⟨(p + 64 * (p + 8), 1, s, p + 8, w), Or.inr (Or.inl ⟨rfl, Or.inl ⟨by omega, ns, nw, rfl⟩⟩), hD⟩
        · subst e
          exact ⟨(p + 64 * (p + 16), 1, s, p + 16, w), Or.inr (Or.inl ⟨rfl, Or.inr (Or.inl ⟨r1, n1, n2, ns, nw, rfl⟩)⟩), hD⟩
      · exact ⟨(p + 64 * t, k, s, t, w), Or.inr (Or.inr ⟨z, t, a, b, rfl⟩), hD⟩
    · subst a
      have c : O1 n s (p + 8) w := c
      rcases c with c | c
      · have hpos := Wc_pos c
        refine ⟨(p + 64 * (p + 8) + 4096 * 5, 5, s, p + 8, w), Or.inr (Or.inl ⟨rfl, Or.inr (Or.inr ⟨b, fun q => hpos.1 q.symm, hpos.2.2.1, 5, by omega, by omega, rfl⟩)⟩), isD_f.mpr ⟨n, rfl, c, fun j hj q => nj j hj (Or.inr (Or.inr ⟨rfl, b, Or.inl q⟩))⟩⟩
      · have hpos := Wc_pos c
        refine ⟨(p + 64 * (p + 8) + 4096 * 4, 4, s, p + 8, w), Or.inr (Or.inl ⟨rfl, Or.inr (Or.inr ⟨b, fun q => hpos.1 q.symm, hpos.2.2.1, 4, by omega, by omega, rfl⟩)⟩), isD_f.mpr ⟨n, rfl, c, fun j hj q => nj j hj (Or.inr (Or.inr ⟨rfl, b, Or.inr q⟩))⟩⟩
  · rintro ⟨m, hm, hD⟩
    obtain ⟨n2, e, hWc, _⟩ := isD_f.mp hD
    have e : n2 = n := by omega
    subst e
    refine ⟨hP, ?_⟩
    rcases hm with ⟨t, a, b, _, e⟩ | ⟨z, hm⟩ | ⟨z, t, a, b, e⟩
    · subst e; exact Or.inl ⟨t, a, b, hWc⟩
    · subst z
      rcases hm with ⟨r6, ns, nw, e⟩ | ⟨r1, n1, n2, ns, nw, e⟩ | ⟨r6, ns, nw, k', a, b, e⟩
      · subst e
        have hpos := Wc_pos hWc
        have h8 : p / 8 ≠ 0 ∧ p / 8 ≠ 7 := hP.2.2.2.2.1 rfl
        exact Or.inr (Or.inl ⟨p + 8, by omega, ⟨ns, nw, Or.inl rfl⟩, hWc⟩)
      · subst e
        exact Or.inr (Or.inl ⟨p + 16, by omega, ⟨ns, nw, Or.inr ⟨r1, rfl, n1, n2⟩⟩, hWc⟩)
      · subst e
        refine Or.inr (Or.inr ⟨rfl, r6, ?_⟩)
        have hk : k' = 2 ∨ k' = 3 ∨ k' = 4 ∨ k' = 5 := by omega
        rcases hk with e | e | e | e <;> subst e
        · exact absurd hWc (Wc_23 (p := p + 8) (Or.inl rfl) _ hs (by omega) hw)
        · exact absurd hWc (Wc_23 (p := p + 8) (Or.inr rfl) _ hs (by omega) hw)
        · exact Or.inr hWc
        · exact Or.inl hWc
    · subst e; exact Or.inr (Or.inl ⟨t, a, b, hWc⟩)
/-- a round of the king alone -/
theorem rd_W {k s p w n : Nat} (k1 : 1 ≤ k) (hs : s < 64) (hp : p < 64) (hw : w < 64) (hP : pos5 k s p w false) (hno : ¬ Wc k (Ok k) n s p w) : Wc k (Ok k) (n + 1) s p w ↔ (∃ m t, t < 64 ∧ kiG w t ∧ wkM k s p w m t) ∧ ∀ m t, t < 64 → kiG w t → wkM k s p w m t → m.2.1 ≠ 0 ∧ ∃ d, d < 2 * (n + 1) ∧ isD m.2.1 m.2.2.1 m.2.2.2.1 m.2.2.2.2 true d := by
  have wk : ∀ t, (∃ m, wkM k s p w m t) ↔ wmv k s p t := fun t => by
    constructor
    · rintro ⟨m, ⟨a, b, _⟩ | ⟨a, _⟩⟩
      · exact Or.inl ⟨a, b⟩
      · exact Or.inr a
    · rintro (⟨a, b⟩ | a)
      · exact ⟨_, Or.inl ⟨a, b, rfl⟩⟩
      · exact ⟨_, Or.inr ⟨a, rfl⟩⟩
  rw [Wc_s]
  constructor
  · rintro (h | ⟨_, ⟨t, ht, hk, hm⟩, hall⟩)
    · exact absurd h hno
    · obtain ⟨m, hm2⟩ := (wk t).mpr hm
      refine ⟨⟨m, t, ht, hk, hm2⟩, fun m t ht hk hm => ?_⟩
      have hS := hall t ht hk ((wk t).mp ⟨m, hm⟩)
      rcases hm with ⟨a, b, e⟩ | ⟨a, e⟩
      · exact absurd a.symm hS.1.2.2.1
      · subst e
        obtain ⟨d, hd, h⟩ := Sc_isD.mp hS
        refine ⟨?_, d, by omega, h⟩
        show k ≠ 0; omega
  · rintro ⟨⟨m, t, ht, hk, hm⟩, hall⟩
    refine Or.inr ⟨hP, ⟨t, ht, hk, (wk t).mp ⟨m, hm⟩⟩, fun t ht hk hm => ?_⟩
    rcases hm with ⟨a, b⟩ | a
    · exact absurd rfl (hall (w + 64 * t, 0, s, p, t) t ht hk (Or.inl ⟨a, b, rfl⟩)).1
    · obtain ⟨_, d, hd, h⟩ := hall (w + 64 * t, k, s, p, t) t ht hk (Or.inr ⟨a, rfl⟩)
      exact Sc_isD.mpr ⟨d, by omega, h⟩
