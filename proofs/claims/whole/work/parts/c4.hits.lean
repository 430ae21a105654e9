/-! SETS OF POSITIONS: hits, moves of the man, mates, rounds -/
def oS (s : Nat) : Int64 := (1 : Int64) <<< ((nI s).toInt64 &&& 63)
theorem oS_bt {s : Nat} (hs : s < 64) (y : Nat) : bt (oS s) y = false ↔ ¬ y = s := by
  unfold oS
  rw [bt_one hs, decide_eq_false_iff_not]
  exact ⟨fun h q => h q.symm, fun h q => h q.symm⟩
theorem oS2_bt {s w : Nat} (hs : s < 64) (hw : w < 64) (y : Nat) : bt (oS s ||| oS w) y = false ↔ ¬ (s = y ∨ w = y) := by
  rw [bt_or, Bool.or_eq_false_iff, oS_bt hs, oS_bt hw]
  exact ⟨fun h q => q.elim (fun a => h.1 a.symm) (fun a => h.2 a.symm), fun h => ⟨fun q => h (Or.inl q.symm), fun q => h (Or.inr q.symm)⟩⟩
theorem clr_opn {s a b : Nat} (hs : s < 64) : clr (oS s) a b ↔ opn s a b := by
  unfold clr opn
  exact ⟨fun h i i1 i2 => (oS_bt hs _).mp (h i i1 i2), fun h i i1 i2 => (oS_bt hs _).mpr (h i i1 i2)⟩
theorem clr_opn2 {s w a b : Nat} (hs : s < 64) (hw : w < 64) : clr (oS s ||| oS w) a b ↔ opn s a b ∧ opn w a b := by
  unfold clr opn
  constructor
  · intro h
    exact ⟨fun i i1 i2 q => (oS2_bt hs hw _).mp (h i i1 i2) (Or.inl q.symm), fun i i1 i2 q => (oS2_bt hs hw _).mp (h i i1 i2) (Or.inr q.symm)⟩
  · rintro ⟨h1, h2⟩ i i1 i2
    exact (oS2_bt hs hw _).mpr (fun q => q.elim (fun z => h1 i i1 i2 z.symm) (fun z => h2 i i1 i2 z.symm))
theorem nlSW {B X : Nat} {fB fX : Nat → Nat → Nat → Prop} {o : Nat → Nat → Nat → Int64} (hB : rpr B fB) (hX : rpr X fX) (ho : ∀ s p w, s < 64 → p < 64 → w < 64 → ∀ y, y < 64 → (fB s p y ↔ bt (o s p w) y = false)) : rpr (nlS 1 12 B X) (fun s p w => ∃ v, v < 64 ∧ fX s p v ∧ v ≠ w ∧ (dF v w = 0 ∨ dR v w = 0) ∧ clr (o s p w) v w) :=
  (((rayOW (by decide) hB hX ho).or (rayOW (by decide) hB hX ho)).or ((rayOW (by decide) hB hX ho).or (rayOW (by decide) hB hX ho))).eq (fun s p w _ _ hw => ex4.trans (exists_congr (fun v => and_congr_right (fun hv => and_st hv hw))))
theorem nlAW {B X : Nat} {fB fX : Nat → Nat → Nat → Prop} {o : Nat → Nat → Nat → Int64} (hB : rpr B fB) (hX : rpr X fX) (ho : ∀ s p w, s < 64 → p < 64 → w < 64 → ∀ y, y < 64 → (fB s p y ↔ bt (o s p w) y = false)) : rpr (nlA 1 12 B X) (fun s p w => ∃ v, v < 64 ∧ fX s p v ∧ v ≠ w ∧ aI (dF v w) = aI (dR v w) ∧ clr (o s p w) v w) :=
  (((rayOW (by decide) hB hX ho).or (rayOW (by decide) hB hX ho)).or ((rayOW (by decide) hB hX ho).or (rayOW (by decide) hB hX ho))).eq (fun s p w _ _ hw => ex4.trans (exists_congr (fun v => and_congr_right (fun hv => and_ak hv hw))))
theorem nlSP {B X : Nat} {fB fX : Nat → Nat → Nat → Prop} {o : Nat → Nat → Nat → Int64} (hB : rpr B fB) (hX : rpr X fX) (ho : ∀ s p w, s < 64 → p < 64 → w < 64 → ∀ y, y < 64 → (fB s y w ↔ bt (o s p w) y = false)) : rpr (nlS 4096 0 B X) (fun s p w => ∃ v, v < 64 ∧ fX s v w ∧ v ≠ p ∧ (dF v p = 0 ∨ dR v p = 0) ∧ clr (o s p w) v p) :=
  (((rayOP (by decide) hB hX ho).or (rayOP (by decide) hB hX ho)).or ((rayOP (by decide) hB hX ho).or (rayOP (by decide) hB hX ho))).eq (fun s p w _ hp _ => ex4.trans (exists_congr (fun v => and_congr_right (fun hv => and_st hv hp))))
theorem nlAP {B X : Nat} {fB fX : Nat → Nat → Nat → Prop} {o : Nat → Nat → Nat → Int64} (hB : rpr B fB) (hX : rpr X fX) (ho : ∀ s p w, s < 64 → p < 64 → w < 64 → ∀ y, y < 64 → (fB s y w ↔ bt (o s p w) y = false)) : rpr (nlA 4096 0 B X) (fun s p w => ∃ v, v < 64 ∧ fX s v w ∧ v ≠ p ∧ aI (dF v p) = aI (dR v p) ∧ clr (o s p w) v p) :=
  (((rayOP (by decide) hB hX ho).or (rayOP (by decide) hB hX ho)).or ((rayOP (by decide) hB hX ho).or (rayOP (by decide) hB hX ho))).eq (fun s p w _ hp _ => ex4.trans (exists_congr (fun v => and_congr_right (fun hv => and_ak hv hp))))
def hSt : Nat := nlS 1 12 (bno eWS) eWP
def hAk : Nat := nlA 1 12 (bno eWS) eWP
theorem hSt_rpr : rpr hSt (fun s p w => p ≠ w ∧ (dF p w = 0 ∨ dR p w = 0) ∧ opn s p w) :=
  (nlSW (o := fun s _ _ => oS s) eWS_rpr.no eWP_rpr (fun s p w hs _ _ y _ => (oS_bt hs y).symm)).eq (fun s p w hs hp hw => by
    constructor
    · rintro ⟨v, hv, e, a, b, c⟩; rw [e] at a b c; exact ⟨a, b, (clr_opn hs).mp c⟩
    · rintro ⟨a, b, c⟩; exact ⟨p, hp, rfl, a, b, (clr_opn hs).mpr c⟩)
theorem hAk_rpr : rpr hAk (fun s p w => p ≠ w ∧ aI (dF p w) = aI (dR p w) ∧ opn s p w) :=
  (nlAW (o := fun s _ _ => oS s) eWS_rpr.no eWP_rpr (fun s p w hs _ _ y _ => (oS_bt hs y).symm)).eq (fun s p w hs hp hw => by
    constructor
    · rintro ⟨v, hv, e, a, b, c⟩; rw [e] at a b c; exact ⟨a, b, (clr_opn hs).mp c⟩
    · rintro ⟨a, b, c⟩; exact ⟨p, hp, rfl, a, b, (clr_opn hs).mpr c⟩)
/-- a knight's jumps, a pawn's hits -/
def hKn : Nat := ((mN 1 12 (mN 1 12 (mE 1 12 eWP)) ||| mN 1 12 (mN 1 12 (mW 1 12 eWP))) ||| (mS 1 12 (mS 1 12 (mE 1 12 eWP)) ||| mS 1 12 (mS 1 12 (mW 1 12 eWP)))) ||| ((mN 1 12 (mE 1 12 (mE 1 12 eWP)) ||| mN 1 12 (mW 1 12 (mW 1 12 eWP))) ||| (mS 1 12 (mE 1 12 (mE 1 12 eWP)) ||| mS 1 12 (mW 1 12 (mW 1 12 eWP))))
def hPn : Nat := mN 1 12 (mE 1 12 eWP) ||| mN 1 12 (mW 1 12 eWP)
theorem hPn_dec : ∀ p, p < 64 → ∀ w, w < 64 → (((8 ≤ w ∧ (w - 8) % 8 ≠ 0 ∧ w - 8 - 1 = p) ∨ (8 ≤ w ∧ (w - 8) % 8 ≠ 7 ∧ w - 8 + 1 = p)) ↔ (aI (dF p w) = 1 ∧ dR p w = 1)) := by decide +kernel
theorem hPn_rpr : rpr hPn (fun s p w => at5 1 s p w) :=
  ((rw_N (rw_E eWP_rpr)).or (rw_N (rw_W eWP_rpr))).eq (fun s p w _ hp hw => hPn_dec p hp w hw)
def knB (p w : Nat) : Bool := (((decide (8 ≤ w) && (decide (8 ≤ w - 8) && (decide ((w - 8 - 8) % 8 ≠ 0) && decide (w - 8 - 8 - 1 = p)))) || (decide (8 ≤ w) && (decide (8 ≤ w - 8) && (decide ((w - 8 - 8) % 8 ≠ 7) && decide (w - 8 - 8 + 1 = p))))) || ((decide (w < 56) && (decide (w + 8 < 56) && (decide ((w + 8 + 8) % 8 ≠ 0) && decide (w + 8 + 8 - 1 = p)))) || (decide (w < 56) && (decide (w + 8 < 56) && (decide ((w + 8 + 8) % 8 ≠ 7) && decide (w + 8 + 8 + 1 = p)))))) || (((decide (8 ≤ w) && (decide ((w - 8) % 8 ≠ 0) && (decide ((w - 8 - 1) % 8 ≠ 0) && decide (w - 8 - 1 - 1 = p)))) || (decide (8 ≤ w) && (decide ((w - 8) % 8 ≠ 7) && (decide ((w - 8 + 1) % 8 ≠ 7) && decide (w - 8 + 1 + 1 = p))))) || ((decide (w < 56) && (decide ((w + 8) % 8 ≠ 0) && (decide ((w + 8 - 1) % 8 ≠ 0) && decide (w + 8 - 1 - 1 = p)))) || (decide (w < 56) && (decide ((w + 8) % 8 ≠ 7) && (decide ((w + 8 + 1) % 8 ≠ 7) && decide (w + 8 + 1 + 1 = p))))))
theorem knB_tab : ∀ p, p < 64 → ∀ w, w < 64 → (knB p w = true ↔ knG p w) := by
  unfold knG
  decide +kernel
theorem hKn_rpr : rpr hKn (fun s p w => at5 2 s p w) :=
  ((((rw_N (rw_N (rw_E eWP_rpr))).or (rw_N (rw_N (rw_W eWP_rpr)))).or ((rw_S (rw_S (rw_E eWP_rpr))).or (rw_S (rw_S (rw_W eWP_rpr))))).or (((rw_N (rw_E (rw_E eWP_rpr))).or (rw_N (rw_W (rw_W eWP_rpr)))).or ((rw_S (rw_E (rw_E eWP_rpr))).or (rw_S (rw_W (rw_W eWP_rpr)))))).eq (fun s p w _ hp hw => by
    have h := knB_tab p hp w hw
    simp only [knB, Bool.or_eq_true, Bool.and_eq_true, decide_eq_true_eq] at h
    exact h)
def hitN (k : Nat) : Nat := if k = 1 then hPn else if k = 2 then hKn else if k = 3 then hAk else if k = 4 then hSt else hSt ||| hAk
theorem hitN_rpr {k : Nat} (h1 : 1 ≤ k) (h5 : k ≤ 5) : rpr (hitN k) (at5 k) := by
  have hk : k = 1 ∨ k = 2 ∨ k = 3 ∨ k = 4 ∨ k = 5 := by omega
  rcases hk with e | e | e | e | e <;> subst e
  · exact hPn_rpr
  · exact hKn_rpr
  · exact hAk_rpr.eq (fun s p w _ _ _ => by
      show _ ↔ p ≠ w ∧ slides 3 p w ∧ opn s p w
      unfold slides
      simp)
  · exact hSt_rpr.eq (fun s p w _ _ _ => by
      show _ ↔ p ≠ w ∧ slides 4 p w ∧ opn s p w
      unfold slides
      simp)
  · refine (hSt_rpr.or hAk_rpr).eq (fun s p w _ _ _ => ?_)
    show _ ↔ p ≠ w ∧ slides 5 p w ∧ opn s p w
    unfold slides
    constructor
    · rintro (⟨a, b, c⟩ | ⟨a, b, c⟩)
      · exact ⟨a, Or.inl ⟨b, by decide⟩, c⟩
      · exact ⟨a, Or.inr ⟨b, by decide⟩, c⟩
    · rintro ⟨a, ⟨b, -⟩ | ⟨b, -⟩, c⟩
      · exact Or.inl ⟨a, b, c⟩
      · exact Or.inr ⟨a, b, c⟩
