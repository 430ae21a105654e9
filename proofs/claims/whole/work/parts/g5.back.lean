/-! THE CLASS'S ENDINGS: moves of the side with the man, backwards -/
theorem slides_sym {k a b : Nat} (h : slides k a b) : slides k b a := by
  unfold slides at h ⊢
  rw [dF_sym a b, dR_sym a b, aI_neg, aI_neg]
  rcases h with ⟨h, k3⟩ | h
  · exact Or.inl ⟨by omega, k3⟩
  · exact Or.inr h
theorem sl_line {k a b : Nat} (h : slides k a b) : dF a b = 0 ∨ dR a b = 0 ∨ aI (dF a b) = aI (dR a b) := by
  rcases h with ⟨h | h, _⟩ | h
  · exact Or.inl h
  · exact Or.inr (Or.inl h)
  · exact Or.inr (Or.inr h.1)
theorem opn_sym {s a b : Nat} (hs : s < 64) (ha : a < 64) (hb : b < 64) (hne : a ≠ b) (hl : dF a b = 0 ∨ dR a b = 0 ∨ aI (dF a b) = aI (dR a b)) (h : opn s a b) : opn s b a := (opn_clr hs).mp (clr_sym ha hb hne hl ((opn_clr hs).mpr h))
theorem sgn_z {z : Int} : sgn z = 0 ↔ z = 0 := by
  unfold sgn
  split
  · split <;> omega
  · omega
/-- what stands on the way would be attacked -/
theorem opn_hid {k s p t w : Nat} (k1 : k ≠ 1) (k2 : k ≠ 2) (hp : p < 64) (ht : t < 64) (hw : w < 64) (hne : p ≠ t) (hsl : slides k p t) (ho : opn s p t) (hn : ¬ at5 k s p w) : opn w p t := by
  intro i i1 i2 e
  have hl := sl_line hsl
  have hd := dir_sq hp ht hne hl (j := i) (by omega)
  rw [e] at hd
  have h0 : ¬ (sgn (dF p t) = 0 ∧ sgn (dR p t) = 0) := fun q => hne (by
    have a := sgn_z.mp q.1
    have b := sgn_z.mp q.2
    unfold dF at a
    unfold dR at b
    omega)
  obtain ⟨g1, g2, g3, g4, g5, g6, g7⟩ := dir_geo (sgn3 _) (sgn3 _) h0 i1 hd
  apply hn
  unfold at5
  rw [if_neg k1, if_neg k2]
  have sw : slides k p w := by
    rcases hsl with ⟨h | h, k3⟩ | ⟨h, k4⟩
    · exact Or.inl ⟨Or.inl (g5.mp (sgn_z.mpr h)), k3⟩
    · exact Or.inl ⟨Or.inr (g6.mp (sgn_z.mpr h)), k3⟩
    · refine Or.inr ⟨g7 (fun q => ?_) (fun q => ?_), k4⟩
      · have a := sgn_z.mp q
        rw [a] at h
        have : dR p t = 0 := by unfold aI at h; split at h <;> omega
        exact h0 ⟨q, sgn_z.mpr this⟩
      · have a := sgn_z.mp q
        rw [a] at h
        have : dF p t = 0 := by unfold aI at h; split at h <;> omega
        exact h0 ⟨sgn_z.mpr this, q⟩
  refine ⟨g1, sw, fun j j1 j2 e2 => ?_⟩
  rw [g4] at j2
  have hd2 := dir_sq hp ht hne hl (j := j) (by omega)
  rw [← g2, ← g3] at hd2
  have := sqA_dir hp hw g1 (sl_line sw) (by rw [g4]; omega) hd2
  exact ho j j1 (by omega) (by rw [this]; exact e2)
def cmF (k s p q : Nat) : Prop := if k = 1 then ((q + 8 = p ∧ q ≠ s ∧ q / 8 ≠ 0 ∧ q / 8 ≠ 7) ∨ (p / 8 = 3 ∧ q + 16 = p ∧ p - 8 ≠ s ∧ (p - 8) / 8 ≠ 0 ∧ (p - 8) / 8 ≠ 7)) else at5 k s p q ∧ q ≠ s
/-- from (s2, p2, w) the side with the man can go to (s, p, w) -/
def mvR (k s2 p2 w s p : Nat) : Prop := (p = p2 ∧ kiG s s2 ∧ s2 ≠ p) ∨ (s = s2 ∧ cmF k s p p2 ∧ (k = 1 → w ≠ p - 8))
theorem st_step {k s p w n : Nat} (kk : k = 1 ∨ k = 4 ∨ k = 5) (hs : s < 64) (hp : p < 64) (hw : w < 64) (hP : pos5 k s p w true) : (∃ s2 p2, s2 < 64 ∧ p2 < 64 ∧ isD k s2 p2 w false n ∧ mvR k s p w s2 p2) ↔ ∃ m, stM k s p w m ∧ m.2.1 = k ∧ isD m.2.1 m.2.2.1 m.2.2.2.1 m.2.2.2.2 false n := by
  have k2 : k ≠ 2 := by omega
  constructor
  · rintro ⟨s2, p2, hs2, hp2, hD, h⟩
    have hQ := isD_pos hD
    rcases h with ⟨e, hk, hne⟩ | ⟨e, hc, hw8⟩
    · subst e
      exact ⟨(s + 64 * s2, k, s2, p2, w), Or.inl ⟨s2, hs2, kiG_sym.mp hk, hQ, rfl⟩, rfl, hD⟩
    · subst e
      unfold cmF at hc
      by_cases k1 : k = 1
      · rw [if_pos k1] at hc
        have q8 := hQ.2.2.2.2.1 k1
        rcases hc with ⟨a, b, c⟩ | ⟨a, b, c, d⟩
        · subst a
          exact ⟨(p + 64 * (p + 8), 1, s2, p + 8, w), Or.inr (Or.inl ⟨k1, Or.inl ⟨by omega, fun q => hQ.1 q.symm, hQ.2.2.1, rfl⟩⟩), k1.symm, by rw [k1] at hD; exact hD⟩
        · subst b
          have := hw8 k1
          exact ⟨(p + 64 * (p + 16), 1, s2, p + 16, w), Or.inr (Or.inl ⟨k1, Or.inr (Or.inl ⟨by omega, fun q => c (by omega), by omega, fun q => hQ.1 q.symm, hQ.2.2.1, rfl⟩)⟩), k1.symm, by rw [k1] at hD; exact hD⟩
      · rw [if_neg k1] at hc
        obtain ⟨ha, hne⟩ := hc
        unfold at5 at ha
        rw [if_neg k1, if_neg k2] at ha
        have sl := slides_sym ha.2.1
        have op := opn_sym hs hp2 hp ha.1 (sl_line ha.2.1) ha.2.2
        have ow := opn_hid k1 k2 hp hp2 hw (fun q => ha.1 q.symm) sl op (hP.2.2.2.2.2 rfl)
        refine ⟨(p + 64 * p2, k, s2, p2, w), Or.inr (Or.inr ⟨k1, p2, hp2, ⟨fun q => hQ.1 q.symm, hQ.2.2.1, ?_⟩, rfl⟩), rfl, hD⟩
        rw [if_neg k1, if_neg k2]
        exact ⟨fun q => ha.1 q.symm, sl, op, ow⟩
  · rintro ⟨m, hm, hmk, hD⟩
    rcases hm with ⟨t, ht, hk, hQ, e⟩ | ⟨k1, hm⟩ | ⟨k1, t, ht, hm, e⟩
    · subst e
      exact ⟨t, p, ht, hp, hD, Or.inl ⟨rfl, kiG_sym.mp hk, hP.1⟩⟩
    · have p8 := hP.2.2.2.2.1 k1
      rcases hm with ⟨r6, ns, nw, e⟩ | ⟨r1, n1, n2, ns, nw, e⟩ | ⟨r6, ns, nw, k', a, b, e⟩
      · subst e
        refine ⟨s, p + 8, hs, by omega, by rw [k1]; exact hD, Or.inr ⟨rfl, ?_, fun _ => ?_⟩⟩
        · unfold cmF
          rw [if_pos k1]
          exact Or.inl ⟨rfl, fun q => hP.1 q.symm, p8⟩
        · have := hP.2.2.1
          omega
      · subst e
        refine ⟨s, p + 16, hs, by omega, by rw [k1]; exact hD, Or.inr ⟨rfl, ?_, fun _ => ?_⟩⟩
        · unfold cmF
          rw [if_pos k1]
          exact Or.inr ⟨by omega, rfl, by omega, by omega, by omega⟩
        · omega
      · subst e
        have : k' = k := hmk
        omega
    · subst e
      refine ⟨s, t, hs, ht, hD, Or.inr ⟨rfl, ?_, fun q => absurd q k1⟩⟩
      obtain ⟨a, b, c⟩ := hm
      rw [if_neg k1, if_neg k2] at c
      unfold cmF
      rw [if_neg k1]
      refine ⟨?_, fun q => hP.1 q.symm⟩
      unfold at5
      rw [if_neg k1, if_neg k2]
      exact ⟨fun q => c.1 q.symm, slides_sym c.2.1, opn_sym hs hp ht c.1 (sl_line c.2.1) c.2.2.1⟩
theorem isD_Sc {k s p w n : Nat} (hno : ¬ ∃ d, d < 2 * n + 1 ∧ isD k s p w true d) : (isD k s p w true (2 * n + 1) ↔ Sc k (Ok k) n s p w) ∧ ∀ j, j < n → ¬ Sc k (Ok k) j s p w := by
  have hnS : ∀ j, j < n → ¬ Sc k (Ok k) j s p w := fun j hj q => by
    obtain ⟨d, a, b⟩ := Sc_isD.mp q
    exact hno ⟨d, by omega, b⟩
  refine ⟨?_, hnS⟩
  rw [isD_t]
  exact ⟨fun ⟨n2, a, b, _⟩ => by rw [show n = n2 by omega]; exact b, fun h => ⟨n, rfl, h, hnS⟩⟩
/-- what a pawn becomes: the next distance -/
def bcm (k s p w n : Nat) : Prop := k = 1 ∧ p / 8 = 6 ∧ (isD 5 s (p + 8) w false n ∨ isD 4 s (p + 8) w false n)
theorem no_23 {k s p w n : Nat} (hk : k = 2 ∨ k = 3) (hs : s < 64) (hp : p < 64) (hw : w < 64) : ¬ isD k s p w false n := fun h => by
  obtain ⟨m, a, b, _⟩ := isD_f.mp h
  rcases hk with e | e <;> subst e
  · exact Wc_23 (Or.inl rfl) m hs hp hw b
  · exact Wc_23 (Or.inr rfl) m hs hp hw b
theorem st_iff {k s p w n : Nat} (kk : k = 1 ∨ k = 4 ∨ k = 5) (hs : s < 64) (hp : p < 64) (hw : w < 64) (hP : pos5 k s p w true) (hno : ¬ ∃ d, d < 2 * n + 1 ∧ isD k s p w true d) : isD k s p w true (2 * n + 1) ↔ (∃ s2 p2, s2 < 64 ∧ p2 < 64 ∧ isD k s2 p2 w false (2 * n) ∧ mvR k s p w s2 p2) ∨ bcm k s p w (2 * n) := by
  obtain ⟨h1, h2⟩ := isD_Sc hno
  rw [h1, rd_S (by omega) (by omega) hs hp hw hP h2, st_step kk hs hp hw hP]
  constructor
  · rintro ⟨m, hm, hD⟩
    by_cases e : m.2.1 = k
    · exact Or.inl ⟨m, hm, e, hD⟩
    · right
      rcases hm with ⟨t, ht, hk, hQ, em⟩ | ⟨k1, hm⟩ | ⟨k1, t, ht, hm, em⟩
      · subst em; exact absurd rfl e
      · rcases hm with ⟨r6, ns, nw, em⟩ | ⟨r1, n1, n2, ns, nw, em⟩ | ⟨r6, ns, nw, k', a, b, em⟩
        · subst em; exact absurd k1.symm e
        · subst em; exact absurd k1.symm e
        · subst em
          have hk : k' = 2 ∨ k' = 3 ∨ k' = 4 ∨ k' = 5 := by omega
          refine ⟨k1, r6, ?_⟩
          rcases hk with q | q | q | q <;> subst q
          · exact absurd hD (no_23 (Or.inl rfl) hs (by show p + 8 < 64; omega) hw)
          · exact absurd hD (no_23 (Or.inr rfl) hs (by show p + 8 < 64; omega) hw)
          · exact Or.inr hD
          · exact Or.inl hD
      · subst em; exact absurd rfl e
  · rintro (⟨m, hm, _, hD⟩ | ⟨k1, r6, h⟩)
    · exact ⟨m, hm, hD⟩
    · rcases h with h | h
      · have hQ := isD_pos h
        exact ⟨(p + 64 * (p + 8) + 4096 * 5, 5, s, p + 8, w), Or.inr (Or.inl ⟨k1, Or.inr (Or.inr ⟨r6, fun q => hQ.1 q.symm, hQ.2.2.1, 5, by omega, by omega, rfl⟩)⟩), h⟩
      · have hQ := isD_pos h
        exact ⟨(p + 64 * (p + 8) + 4096 * 4, 4, s, p + 8, w), Or.inr (Or.inl ⟨k1, Or.inr (Or.inr ⟨r6, fun q => hQ.1 q.symm, hQ.2.2.1, 4, by omega, by omega, rfl⟩)⟩), h⟩
