/-! THE REFERENCE'S ENDINGS: places of a row -/
theorem trn_0 {q : Nat} : trn 0 q = q := by
  unfold trn
  rw [if_pos (by decide), if_pos (by decide), if_pos (by decide)]
  omega
theorem plc_c {k s p w : Nat} {sm : Bool} (hs : s < 64) (h : kNb k s = true) : plc k s p w sm = 2 * ((kCt k s * 64 + p) * 64 + w) + (if sm = true then 1 else 0) := by
  unfold plc
  rw [((tIx_of hs).2.2.2.2 h).1, trn_0, trn_0, trn_0]
theorem kCt_le {k s : Nat} : ∀ {t : Nat}, s ≤ t → kCt k s ≤ kCt k t
  | 0, h => by rw [show s = 0 by omega]; exact Nat.le_refl _
  | t + 1, h => by
    by_cases e : s = t + 1
    · rw [e]; exact Nat.le_refl _
    · have := kCt_le (k := k) (s := s) (t := t) (by omega)
      show kCt k s ≤ kCt k t + _
      omega
theorem kCt_inj {k s t : Nat} (hs : kNb k s = true) (ht : kNb k t = true) (h : kCt k s = kCt k t) : s = t := by
  have lt : ∀ a b, a < b → kNb k a = true → kCt k a < kCt k b := fun a b hab ha => by
    have h1 : kCt k (a + 1) = kCt k a + 1 := by
      show kCt k a + (if kNb k a = true then 1 else 0) = _
      rw [if_pos ha]
    have := kCt_le (k := k) (s := a + 1) (t := b) (by omega)
    omega
  rcases Nat.lt_trichotomy s t with z | z | z
  · have := lt s t z hs; omega
  · exact z
  · have := lt t s z ht; omega
theorem plc_inj {k s p w s2 p2 w2 : Nat} {sm sm2 : Bool} (hs : s < 64) (hp : p < 64) (hw : w < 64) (hs2 : s2 < 64) (hp2 : p2 < 64) (hw2 : w2 < 64) (h : kNb k s = true) (h2 : kNb k s2 = true) (e : plc k s p w sm = plc k s2 p2 w2 sm2) : s = s2 ∧ p = p2 ∧ w = w2 ∧ sm = sm2 := by
  rw [plc_c hs h, plc_c hs2 h2] at e
  have hb : ∀ b : Bool, (if b = true then 1 else 0) < 2 := fun b => by split <;> omega
  have b1 := hb sm
  have b2 := hb sm2
  have e0 : (if sm = true then 1 else 0) = (if sm2 = true then 1 else 0) := by omega
  have eb : sm = sm2 := by cases sm <;> cases sm2 <;> simp at e0 ⊢
  exact ⟨kCt_inj h h2 (by omega), by omega, by omega, eb⟩
/-- every place is a kept position's -/
theorem plc_t {k s p w : Nat} {sm : Bool} (hs : s < 64) (hp : p < 64) (hw : w < 64) : plc k s p w sm = plc k (trn (tIx k s) s) (trn (tIx k s) p) (trn (tIx k s) w) sm := by
  obtain ⟨t8, _, tk, _, _⟩ := tIx_of (k := k) hs
  rw [plc_c (trn_of t8 hs).2 tk]
  rfl
/-- a row is right if it is at the kept positions -/
theorem eV_all {k : Nat} {sm : Bool} {N : Nat} {f : Nat → Int32} (h : ∀ s p w, s < 64 → p < 64 → w < 64 → kNb k s = true → eV k s p w sm N (f (plc k s p w sm))) : ∀ s p w, s < 64 → p < 64 → w < 64 → eV k s p w sm N (f (plc k s p w sm)) := fun s p w hs hp hw => by
  obtain ⟨t8, _, tk, _, _⟩ := tIx_of (k := k) hs
  have q := h _ _ _ (trn_of t8 hs).2 (trn_of t8 hp).2 (trn_of t8 hw).2 tk
  rw [← plc_t hs hp hw] at q
  rcases q with ⟨d, a, b, c⟩ | ⟨a, c⟩
  · exact Or.inl ⟨d, a, (isD_trn hs hp hw sm d).mp b, c⟩
  · exact Or.inr ⟨fun d hd z => a d hd ((isD_trn hs hp hw sm d).mpr z), c⟩
