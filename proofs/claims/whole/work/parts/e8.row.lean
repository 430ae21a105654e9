/-! THE REFERENCE'S ENDINGS: a row in the middle of a round -/
def rI (K : zM) (r k d : Nat) (sm : Bool) (c : Nat) : Prop := zsh K r = some (3, 8192 * kSz k) ∧ K.2.2.1 71 (slt k) = some r ∧ (∀ s p w, s < 64 → p < 64 → w < 64 → kNb k s = true → eV k s p w (!sm) d (K.1 r (plc k s p w (!sm)))) ∧ ∀ s p w, s < 64 → p < 64 → w < 64 → kNb k s = true → eV k s p w sm (if 4096 * s + 64 * p + w < c then d + 1 else d) (K.1 r (plc k s p w sm))
theorem rI.sm {K K2 : zM} (hW : zFix K) {r k d c : Nat} {sm : Bool} (h : rI K r k d sm c) (s : zSm eC K K2) : rI K2 r k d sm c := by
  unfold rI
  have e : K2.1 r = K.1 r := s.i (eC_row hW h.1)
  unfold zsh
  rw [s.1, e]
  exact h
theorem rI.rd {K : zM} {r k d c : Nat} {sm : Bool} (h : rI K r k d sm c) : eRd K k (!sm) d := Or.inr ⟨r, h.2.1, h.1, eV_all (f := K.1 r) h.2.2.1⟩
theorem eV_up {k s p w d : Nat} {sm : Bool} {v : Int32} (h : eV k s p w sm d v) (hn : ¬ isD k s p w sm d) : eV k s p w sm (d + 1) v := by
  rcases h with ⟨e, a, b, c⟩ | ⟨a, c⟩
  · exact Or.inl ⟨e, by omega, b, c⟩
  · refine Or.inr ⟨fun e he q => ?_, c⟩
    by_cases z : e = d
    · subst z; exact hn q
    · exact a e (by omega) q
theorem idx_inj {s p w s2 p2 w2 : Nat} (hp : p < 64) (hw : w < 64) (hp2 : p2 < 64) (hw2 : w2 < 64) (e : 4096 * s + 64 * p + w = 4096 * s2 + 64 * p2 + w2) : s = s2 ∧ p = p2 ∧ w = w2 := by omega
/-- nothing new at this position -/
theorem rI.skip {K : zM} {r k d : Nat} {sm : Bool} {s p w : Nat} (hp : p < 64) (hw : w < 64) (h : rI K r k d sm (4096 * s + 64 * p + w)) (hn : kNb k s = true → ¬ isD k s p w sm d) : rI K r k d sm (4096 * s + 64 * p + w + 1) := by
  refine ⟨h.1, h.2.1, h.2.2.1, fun s2 p2 w2 hs2 hp2 hw2 hk => ?_⟩
  have q := h.2.2.2 s2 p2 w2 hs2 hp2 hw2 hk
  by_cases z : 4096 * s2 + 64 * p2 + w2 = 4096 * s + 64 * p + w
  · obtain ⟨e1, e2, e3⟩ := idx_inj hp2 hw2 hp hw z
    subst e1; subst e2; subst e3
    rw [if_neg (by omega)] at q
    rw [if_pos (by omega)]
    exact eV_up q (hn hk)
  · by_cases y : 4096 * s2 + 64 * p2 + w2 < 4096 * s + 64 * p + w
    · rw [if_pos y] at q
      rw [if_pos (by omega)]
      exact q
    · rw [if_neg y] at q
      rw [if_neg (by omega)]
      exact q
/-- what this position's place is set to -/
theorem rI.set {K : zM} {r k d : Nat} {sm : Bool} {s p w : Nat} (hs : s < 64) (hp : p < 64) (hw : w < 64) (hk : kNb k s = true) (h : rI K r k d sm (4096 * s + 64 * p + w)) {v : Int32} (hv : eV k s p w sm (d + 1) v) : rI (zsI K r (plc k s p w sm) v) r k d sm (4096 * s + 64 * p + w + 1) := by
  refine ⟨h.1, h.2.1, fun s2 p2 w2 hs2 hp2 hw2 hk2 => ?_, fun s2 p2 w2 hs2 hp2 hw2 hk2 => ?_⟩
  · rw [zsI_at, if_neg (fun q => by
      have := (plc_inj hs2 hp2 hw2 hs hp hw hk2 hk q.2).2.2.2
      cases sm <;> exact absurd this (by decide))]
    exact h.2.2.1 s2 p2 w2 hs2 hp2 hw2 hk2
  · rw [zsI_at]
    by_cases z : plc k s2 p2 w2 sm = plc k s p w sm
    · obtain ⟨e1, e2, e3, _⟩ := plc_inj hs2 hp2 hw2 hs hp hw hk2 hk z
      subst e1; subst e2; subst e3
      rw [if_pos (by omega), if_pos ⟨rfl, rfl⟩]
      exact hv
    · have q := h.2.2.2 s2 p2 w2 hs2 hp2 hw2 hk2
      have ne : 4096 * s2 + 64 * p2 + w2 ≠ 4096 * s + 64 * p + w := fun e => by
        obtain ⟨e1, e2, e3⟩ := idx_inj hp2 hw2 hp hw e
        exact z (by rw [e1, e2, e3])
      by_cases y : 4096 * s2 + 64 * p2 + w2 < 4096 * s + 64 * p + w
      · rw [if_pos y] at q
        rw [if_pos (by omega), if_neg (fun q => z q.2)]
        exact q
      · rw [if_neg y] at q
        rw [if_neg (by omega), if_neg (fun q => z q.2)]
        exact q
