/-- the man's moves into X -/
def row1 (q : Nat) : Bool := decide (q / 8 = 1)
def row6 (q : Nat) : Bool := decide (q / 8 = 6)
def bokN : Nat := bno (eSP ||| eWP)
def manN (k X : Nat) : Nat := if k = 1 then mS 4096 0 X ||| (cm 4096 0 row1 &&& mS 4096 0 (mS 4096 0 X &&& bokN)) else if k = 4 then nlS 4096 0 bokN X else nlS 4096 0 bokN X ||| nlA 4096 0 bokN X
theorem bokN_rpr : rpr bokN (fun s p w => ¬ (s = p ∨ w = p)) := (eSP_rpr.or eWP_rpr).no
theorem man_st {X : Nat → Prop} {s p w : Nat} (hs : s < 64) (hp : p < 64) (hw : w < 64) {L : Nat → Nat → Prop} (hL : ∀ a b, L a b → L b a) (hl : ∀ a b, L a b → dF a b = 0 ∨ dR a b = 0 ∨ aI (dF a b) = aI (dR a b)) : (∃ v, v < 64 ∧ X v ∧ v ≠ p ∧ L v p ∧ clr (oS s ||| oS w) v p) ↔ ∃ t, t < 64 ∧ (p ≠ t ∧ L p t ∧ opn s p t ∧ opn w p t) ∧ X t := by
  constructor
  · rintro ⟨v, hv, hx, hn, hlv, hc⟩
    exact ⟨v, hv, ⟨fun q => hn q.symm, hL _ _ hlv, (clr_opn2 hs hw).mp (clr_sym hv hp hn (hl _ _ hlv) hc)⟩, hx⟩
  · rintro ⟨t, ht, ⟨hn, hlv, h1, h2⟩, hx⟩
    exact ⟨t, ht, hx, fun q => hn q.symm, hL _ _ hlv, clr_sym hp ht hn (hl _ _ hlv) ((clr_opn2 hs hw).mpr ⟨h1, h2⟩)⟩
theorem L_st (a b : Nat) (h : dF a b = 0 ∨ dR a b = 0) : dF b a = 0 ∨ dR b a = 0 := by
  rw [dF_sym a b, dR_sym a b]; omega
theorem L_ak (a b : Nat) (h : aI (dF a b) = aI (dR a b)) : aI (dF b a) = aI (dR b a) := by
  rw [dF_sym a b, dR_sym a b, aI_neg, aI_neg]; exact h
theorem manN_rpr {k X : Nat} {f : Nat → Nat → Nat → Prop} (hk : k = 1 ∨ k = 4 ∨ k = 5) (hX : rpr X f) (hf : ∀ s p w, f s p w → pos5 k s p w false) : rpr (manN k X) (fun s p w => ∃ t, t < 64 ∧ mmv k s p w t ∧ f s t w) := by
  have hne : ∀ s w t, f s t w → t ≠ s ∧ t ≠ w := fun s w t h => ⟨fun q => (hf s t w h).1 q.symm, (hf s t w h).2.2.1⟩
  have ho : ∀ s p w, s < 64 → p < 64 → w < 64 → ∀ y, y < 64 → (¬ (s = y ∨ w = y) ↔ bt (oS s ||| oS w) y = false) := fun s p w hs _ hw y _ => (oS2_bt hs hw y).symm
  unfold manN
  rcases hk with e | e | e <;> subst e
  · rw [if_pos rfl]
    refine ((rp_S hX).or ((rc_p row1).and (rp_S ((rp_S hX).and bokN_rpr)))).eq (fun s p w hs hp hw => ?_)
    constructor
    · rintro (⟨a, b⟩ | ⟨a, b, ⟨c, d⟩, e⟩)
      · exact ⟨p + 8, by omega, ⟨(hne s w _ b).1, (hne s w _ b).2, Or.inl rfl⟩, b⟩
      · have a := of_decide_eq_true a
        refine ⟨p + 8 + 8, by omega, ⟨(hne s w _ d).1, (hne s w _ d).2, Or.inr ⟨a, rfl, fun q => e (Or.inl q.symm), fun q => e (Or.inr q.symm)⟩⟩, d⟩
    · rintro ⟨t, ht, ⟨-, -, hm⟩, hx⟩
      rcases hm with e | ⟨a, e, b, c⟩
      · rw [e] at hx ht; exact Or.inl ⟨by omega, hx⟩
      · rw [e] at hx ht
        exact Or.inr ⟨decide_eq_true a, by omega, ⟨by omega, hx⟩, fun q => q.elim (fun z => b z.symm) (fun z => c z.symm)⟩
  · rw [if_neg (by decide), if_pos rfl]
    refine (nlSP (o := fun s _ w => oS s ||| oS w) bokN_rpr hX ho).eq (fun s p w hs hp hw => ?_)
    rw [man_st (s := s) (p := p) (w := w) (X := fun t => f s t w) hs hp hw (L := fun a b => dF a b = 0 ∨ dR a b = 0) L_st (fun a b h => by omega)]
    refine exists_congr (fun t => and_congr_right (fun ht => and_congr_left (fun hx => ?_)))
    show _ ↔ t ≠ s ∧ t ≠ w ∧ (p ≠ t ∧ slides 4 p t ∧ opn s p t ∧ opn w p t)
    unfold slides
    have := hne s w t hx
    simp [this.1, this.2]
  · rw [if_neg (by decide), if_neg (by decide)]
    refine ((nlSP (o := fun s _ w => oS s ||| oS w) bokN_rpr hX ho).or (nlAP (o := fun s _ w => oS s ||| oS w) bokN_rpr hX ho)).eq (fun s p w hs hp hw => ?_)
    rw [man_st (s := s) (p := p) (w := w) (X := fun t => f s t w) hs hp hw (L := fun a b => dF a b = 0 ∨ dR a b = 0) L_st (fun a b h => by omega), man_st (s := s) (p := p) (w := w) (X := fun t => f s t w) hs hp hw (L := fun a b => aI (dF a b) = aI (dR a b)) L_ak (fun a b h => Or.inr (Or.inr h))]
    constructor
    · rintro (⟨t, ht, ⟨a, b, c⟩, hx⟩ | ⟨t, ht, ⟨a, b, c⟩, hx⟩)
      · exact ⟨t, ht, ⟨(hne s w t hx).1, (hne s w t hx).2, a, Or.inl ⟨b, by decide⟩, c⟩, hx⟩
      · exact ⟨t, ht, ⟨(hne s w t hx).1, (hne s w t hx).2, a, Or.inr ⟨b, by decide⟩, c⟩, hx⟩
    · rintro ⟨t, ht, ⟨-, -, a, ⟨b, -⟩ | ⟨b, -⟩, c⟩, hx⟩
      · exact Or.inl ⟨t, ht, ⟨a, b, c⟩, hx⟩
      · exact Or.inr ⟨t, ht, ⟨a, b, c⟩, hx⟩
/-- some move into X, or what the pawn becomes into Y -/
def smN (k X Y : Nat) : Nat := knS X ||| (manN k X ||| (if k = 1 then cm 4096 0 row6 &&& mS 4096 0 Y else 0))
theorem smN_rpr {k X Y : Nat} {f h : Nat → Nat → Nat → Prop} (hk : k = 1 ∨ k = 4 ∨ k = 5) (hX : rpr X f) (hY : rpr Y h) (hf : ∀ s p w, f s p w → pos5 k s p w false) : rpr (smN k X Y) (smv k f h) := by
  unfold smN
  by_cases q : k = 1
  · rw [if_pos q]
    refine ((knS_rpr hX).or ((manN_rpr hk hX hf).or ((rc_p row6).and (rp_S hY)))).eq (fun s p w _ hp _ => or_congr Iff.rfl (or_congr Iff.rfl ?_))
    exact ⟨fun ⟨a, b, c⟩ => ⟨q, of_decide_eq_true a, c⟩, fun ⟨_, a, c⟩ => ⟨decide_eq_true a, by omega, c⟩⟩
  · rw [if_neg q]
    exact ((knS_rpr hX).or ((manN_rpr hk hX hf).or rpr0)).eq (fun s p w _ hp _ => or_congr Iff.rfl (or_congr Iff.rfl ⟨fun z => z.elim, fun z => q z.1⟩))
/-- one more round -/
def nxN (k X Y : Nat) : Nat := X ||| (pFN k &&& (canN k &&& bno (knW (mvN k &&& bno (pTN k &&& smN k X Y)))))
theorem nxN_rpr {k X Y : Nat} {f h : Nat → Nat → Nat → Prop} (hk : k = 1 ∨ k = 4 ∨ k = 5) (hX : rpr X f) (hY : rpr Y h) (hf : ∀ s p w, f s p w → pos5 k s p w false) : rpr (nxN k X Y) (fun s p w => f s p w ∨ wst k (fun s p t => pos5 k s p t true ∧ smv k f h s p t) s p w) := by
  have h1 : 1 ≤ k := by omega
  have h5 : k ≤ 5 := by omega
  refine (hX.or ((pFN_rpr k).and ((canN_rpr h1 h5).and (knW_rpr ((mvN_rpr h1 h5).and ((pTN_rpr h1 h5).and (smN_rpr hk hX hY hf)).no)).no))).eq (fun s p w _ _ _ => or_congr Iff.rfl ?_)
  constructor
  · rintro ⟨a, b, c⟩
    exact ⟨a, b, fun t ht hkk hm => Classical.byContradiction (fun z => c ⟨t, ht, hkk, hm, z⟩)⟩
  · rintro ⟨a, b, c⟩
    exact ⟨a, b, fun ⟨t, ht, hkk, hm, z⟩ => z (c t ht hkk hm)⟩
