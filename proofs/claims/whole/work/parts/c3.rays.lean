/-! rays -/
theorem ite_ex {c : Prop} [Decidable c] {a : Nat} {F : Nat → Prop} : (∃ v, (if c then some a else none) = some v ∧ F v) ↔ c ∧ F a := by
  by_cases h : c
  · rw [if_pos h]
    exact ⟨fun ⟨v, e, f⟩ => ⟨h, by rw [Option.some.inj e]; exact f⟩, fun q => ⟨a, rfl, q.2⟩⟩
  · rw [if_neg h]
    exact ⟨fun ⟨v, e, f⟩ => absurd e (by simp), fun q => absurd q.1 h⟩
theorem bk_ex {d w : Nat} (hd : d < 8) (hw : w < 64) {F : Nat → Prop} : (∃ v, v < 64 ∧ nx d v w ∧ F v) ↔ ∃ v, bkS d w = some v ∧ F v := by
  obtain ⟨h1, h2⟩ := bkS_nx d hd w hw
  constructor
  · rintro ⟨v, a, b, c⟩; exact ⟨v, (h1 v a).mp b, c⟩
  · rintro ⟨v, a, c⟩; exact ⟨v, h2 v a, (h1 v (h2 v a)).mpr a, c⟩
theorem d8 {d : Nat} (hd : d < 8) : d = 0 ∨ d = 1 ∨ d = 2 ∨ d = 3 ∨ d = 4 ∨ d = 5 ∨ d = 6 ∨ d = 7 := by omega
theorem mvW_rpr {X d : Nat} {f : Nat → Nat → Nat → Prop} (hd : d < 8) (hX : rpr X f) : rpr (mvD 1 12 d X) (fun s p w => ∃ v, v < 64 ∧ nx d v w ∧ f s p v) := by
  rcases d8 hd with e | e | e | e | e | e | e | e <;> subst e
  · exact (rw_E hX).eq (fun s p w _ _ hw => by rw [bk_ex hd hw]; exact ite_ex.symm)
  · exact (rw_N hX).eq (fun s p w _ _ hw => by rw [bk_ex hd hw]; exact ite_ex.symm)
  · exact (rw_N (rw_E hX)).eq (fun s p w _ _ hw => by rw [bk_ex hd hw]; exact and_assoc.symm.trans ite_ex.symm)
  · exact (rw_N (rw_W hX)).eq (fun s p w _ _ hw => by rw [bk_ex hd hw]; exact and_assoc.symm.trans ite_ex.symm)
  · exact (rw_W hX).eq (fun s p w _ _ hw => by rw [bk_ex hd hw]; exact ite_ex.symm)
  · exact (rw_S hX).eq (fun s p w _ _ hw => by rw [bk_ex hd hw]; exact ite_ex.symm)
  · exact (rw_S (rw_W hX)).eq (fun s p w _ _ hw => by rw [bk_ex hd hw]; exact and_assoc.symm.trans ite_ex.symm)
  · exact (rw_S (rw_E hX)).eq (fun s p w _ _ hw => by rw [bk_ex hd hw]; exact and_assoc.symm.trans ite_ex.symm)
theorem mvP_rpr {X d : Nat} {f : Nat → Nat → Nat → Prop} (hd : d < 8) (hX : rpr X f) : rpr (mvD 4096 0 d X) (fun s p w => ∃ v, v < 64 ∧ nx d v p ∧ f s v w) := by
  rcases d8 hd with e | e | e | e | e | e | e | e <;> subst e
  · exact (rp_E hX).eq (fun s p w _ hp _ => by rw [bk_ex (F := fun v => f s v w) hd hp]; exact (ite_ex (F := fun v => f s v w)).symm)
  · exact (rp_N hX).eq (fun s p w _ hp _ => by rw [bk_ex (F := fun v => f s v w) hd hp]; exact (ite_ex (F := fun v => f s v w)).symm)
  · exact (rp_N (rp_E hX)).eq (fun s p w _ hp _ => by rw [bk_ex (F := fun v => f s v w) hd hp]; exact and_assoc.symm.trans (ite_ex (F := fun v => f s v w)).symm)
  · exact (rp_N (rp_W hX)).eq (fun s p w _ hp _ => by rw [bk_ex (F := fun v => f s v w) hd hp]; exact and_assoc.symm.trans (ite_ex (F := fun v => f s v w)).symm)
  · exact (rp_W hX).eq (fun s p w _ hp _ => by rw [bk_ex (F := fun v => f s v w) hd hp]; exact (ite_ex (F := fun v => f s v w)).symm)
  · exact (rp_S hX).eq (fun s p w _ hp _ => by rw [bk_ex (F := fun v => f s v w) hd hp]; exact (ite_ex (F := fun v => f s v w)).symm)
  · exact (rp_S (rp_W hX)).eq (fun s p w _ hp _ => by rw [bk_ex (F := fun v => f s v w) hd hp]; exact and_assoc.symm.trans (ite_ex (F := fun v => f s v w)).symm)
  · exact (rp_S (rp_E hX)).eq (fun s p w _ hp _ => by rw [bk_ex (F := fun v => f s v w) hd hp]; exact and_assoc.symm.trans (ite_ex (F := fun v => f s v w)).symm)
/-- reached from X by i + 1 steps, through B -/
def rayP (d : Nat) (X B : Nat → Prop) : Nat → Nat → Prop
  | 0, x => ∃ v, v < 64 ∧ nx d v x ∧ X v
  | i + 1, x => ∃ y, y < 64 ∧ nx d y x ∧ (rayP d X B i y ∧ B y)
def stpB (d v i : Nat) : Bool := !decide (i ≤ lenR d v) || (decide (rq d v i < 64) && decide (lenR d (rq d v i) = lenR d v - i) && (!decide (i < lenR d v) || decide (rq d (rq d v i) 1 = rq d v (i + 1))))
theorem stpB_all : (List.range 8).all (fun d => (List.range 64).all (fun v => decide (lenR d v < 8) && (List.range 8).all (fun i => stpB d v i))) = true := by decide +kernel
theorem lenR7 {d v : Nat} (hd : d < 8) (hv : v < 64) : lenR d v < 8 := by
  have h := List.all_eq_true.mp (List.all_eq_true.mp stpB_all d (List.mem_range.mpr hd)) v (List.mem_range.mpr hv)
  rw [Bool.and_eq_true, decide_eq_true_eq] at h
  exact h.1
theorem stp_of {d v i : Nat} (hd : d < 8) (hv : v < 64) (h : i ≤ lenR d v) : rq d v i < 64 ∧ lenR d (rq d v i) = lenR d v - i ∧ (i < lenR d v → rq d (rq d v i) 1 = rq d v (i + 1)) := by
  have h7 := lenR7 hd hv
  have q := List.all_eq_true.mp (List.all_eq_true.mp stpB_all d (List.mem_range.mpr hd)) v (List.mem_range.mpr hv)
  rw [Bool.and_eq_true] at q
  have q2 := List.all_eq_true.mp q.2 i (List.mem_range.mpr (by omega))
  unfold stpB at q2
  simp only [Bool.or_eq_true, Bool.and_eq_true, Bool.not_eq_true', decide_eq_true_eq, decide_eq_false_iff_not] at q2
  rcases q2 with q2 | ⟨⟨a, b⟩, c⟩
  · exact absurd h q2
  · refine ⟨a, b, fun z => ?_⟩
    rcases c with c | c
    · exact absurd z c
    · exact c
theorem rayP_iff {d : Nat} (hd : d < 8) {X B : Nat → Prop} : ∀ {i x : Nat}, rayP d X B i x ↔ ∃ v, v < 64 ∧ X v ∧ i + 1 ≤ lenR d v ∧ x = rq d v (i + 1) ∧ ∀ j, 1 ≤ j → j < i + 1 → B (rq d v j)
  | 0, x => by
    constructor
    · rintro ⟨v, a, b, c⟩; exact ⟨v, a, c, b.1, b.2, fun j j1 j2 => absurd j2 (by omega)⟩
    · rintro ⟨v, a, c, b1, b2, -⟩; exact ⟨v, a, ⟨b1, b2⟩, c⟩
  | i + 1, x => by
    constructor
    · rintro ⟨y, hy, ⟨n1, n2⟩, hr, hb⟩
      obtain ⟨v, a, c, l, e, g⟩ := (rayP_iff hd (i := i)).mp hr
      obtain ⟨s1, s2, s3⟩ := stp_of hd a l
      rw [e] at n1 n2 hb
      rw [s2] at n1
      refine ⟨v, a, c, by omega, by rw [n2]; exact s3 (by omega), fun j j1 j2 => ?_⟩
      by_cases z : j = i + 1
      · rw [z]; exact hb
      · exact g j j1 (by omega)
    · rintro ⟨v, a, c, l, e, g⟩
      obtain ⟨s1, s2, s3⟩ := stp_of (i := i + 1) hd a (by omega)
      refine ⟨rq d v (i + 1), s1, ⟨by omega, by rw [e]; exact (s3 (by omega)).symm⟩, ?_, g (i + 1) (by omega) (by omega)⟩
      exact (rayP_iff hd (i := i)).mpr ⟨v, a, c, by omega, rfl, fun j j1 j2 => g j j1 (by omega)⟩
/-- all that is reached in n steps or fewer -/
def rayN (u k d B : Nat) : Nat → Nat → Nat
  | 0, R => R
  | n + 1, R => R ||| rayN u k d B n (mvD u k d (R &&& B))
theorem rayW_go {d B : Nat} {fB : Nat → Nat → Nat → Prop} (hd : d < 8) (hB : rpr B fB) {fX : Nat → Nat → Nat → Prop} : ∀ (n i R : Nat), rpr R (fun s p w => rayP d (fX s p) (fB s p) i w) → rpr (rayN 1 12 d B n R) (fun s p w => ∃ j, i ≤ j ∧ j ≤ i + n ∧ rayP d (fX s p) (fB s p) j w)
  | 0, i, R, hR => hR.eq (fun s p w _ _ _ => ⟨fun h => ⟨i, by omega, by omega, h⟩, fun ⟨j, a, b, h⟩ => by rw [show i = j by omega]; exact h⟩)
  | n + 1, i, R, hR => by
    have h2 : rpr (mvD 1 12 d (R &&& B)) (fun s p w => rayP d (fX s p) (fB s p) (i + 1) w) := mvW_rpr hd (hR.and hB)
    refine (hR.or (rayW_go hd hB n (i + 1) _ h2)).eq (fun s p w _ _ _ => ?_)
    constructor
    · rintro (h | ⟨j, a, b, h⟩)
      · exact ⟨i, by omega, by omega, h⟩
      · exact ⟨j, by omega, by omega, h⟩
    · rintro ⟨j, a, b, h⟩
      by_cases z : j = i
      · rw [z] at h; exact Or.inl h
      · exact Or.inr ⟨j, by omega, by omega, h⟩
theorem rayQ_go {d B : Nat} {fB : Nat → Nat → Nat → Prop} (hd : d < 8) (hB : rpr B fB) {fX : Nat → Nat → Nat → Prop} : ∀ (n i R : Nat), rpr R (fun s p w => rayP d (fun t => fX s t w) (fun t => fB s t w) i p) → rpr (rayN 4096 0 d B n R) (fun s p w => ∃ j, i ≤ j ∧ j ≤ i + n ∧ rayP d (fun t => fX s t w) (fun t => fB s t w) j p)
  | 0, i, R, hR => hR.eq (fun s p w _ _ _ => ⟨fun h => ⟨i, by omega, by omega, h⟩, fun ⟨j, a, b, h⟩ => by rw [show i = j by omega]; exact h⟩)
  | n + 1, i, R, hR => by
    have h2 : rpr (mvD 4096 0 d (R &&& B)) (fun s p w => rayP d (fun t => fX s t w) (fun t => fB s t w) (i + 1) p) := mvP_rpr hd (hR.and hB)
    refine (hR.or (rayQ_go hd hB n (i + 1) _ h2)).eq (fun s p w _ _ _ => ?_)
    constructor
    · rintro (h | ⟨j, a, b, h⟩)
      · exact ⟨i, by omega, by omega, h⟩
      · exact ⟨j, by omega, by omega, h⟩
    · rintro ⟨j, a, b, h⟩
      by_cases z : j = i
      · rw [z] at h; exact Or.inl h
      · exact Or.inr ⟨j, by omega, by omega, h⟩
theorem rayP_ln {d : Nat} (hd : d < 8) {X B : Nat → Prop} {o : Int64} (hB : ∀ y, y < 64 → (B y ↔ bt o y = false)) {x : Nat} : (∃ j, 0 ≤ j ∧ j ≤ 0 + 6 ∧ rayP d X B j x) ↔ ∃ v, v < 64 ∧ X v ∧ lnD o d v x := by
  constructor
  · rintro ⟨j, -, b, h⟩
    obtain ⟨v, a, c, l, e, g⟩ := (rayP_iff hd).mp h
    exact ⟨v, a, c, j + 1, by omega, l, e, fun i i1 i2 => (hB _ (stp_of hd a (by omega)).1).mp (g i i1 i2)⟩
  · rintro ⟨v, a, c, k, k1, k2, e, g⟩
    have := lenR7 hd a
    refine ⟨k - 1, by omega, by omega, (rayP_iff hd).mpr ⟨v, a, c, by omega, by rw [show k - 1 + 1 = k by omega]; exact e, fun j j1 j2 => (hB _ (stp_of hd a (by omega)).1).mpr (g j j1 (by omega))⟩⟩
/-- lines from X: straight, askew -/
def rayO (u k B X d : Nat) : Nat := rayN u k d B 6 (mvD u k d X)
def nlS (u k B X : Nat) : Nat := (rayO u k B X 0 ||| rayO u k B X 1) ||| (rayO u k B X 4 ||| rayO u k B X 5)
def nlA (u k B X : Nat) : Nat := (rayO u k B X 2 ||| rayO u k B X 3) ||| (rayO u k B X 6 ||| rayO u k B X 7)
theorem rayOW {B X d : Nat} {fB fX : Nat → Nat → Nat → Prop} {o : Nat → Nat → Nat → Int64} (hd : d < 8) (hB : rpr B fB) (hX : rpr X fX) (ho : ∀ s p w, s < 64 → p < 64 → w < 64 → ∀ y, y < 64 → (fB s p y ↔ bt (o s p w) y = false)) : rpr (rayO 1 12 B X d) (fun s p w => ∃ v, v < 64 ∧ fX s p v ∧ lnD (o s p w) d v w) :=
  (rayW_go hd hB (fX := fX) 6 0 _ (mvW_rpr hd hX)).eq (fun s p w hs hp hw => rayP_ln hd (ho s p w hs hp hw))
theorem rayOP {B X d : Nat} {fB fX : Nat → Nat → Nat → Prop} {o : Nat → Nat → Nat → Int64} (hd : d < 8) (hB : rpr B fB) (hX : rpr X fX) (ho : ∀ s p w, s < 64 → p < 64 → w < 64 → ∀ y, y < 64 → (fB s y w ↔ bt (o s p w) y = false)) : rpr (rayO 4096 0 B X d) (fun s p w => ∃ v, v < 64 ∧ fX s v w ∧ lnD (o s p w) d v p) :=
  (rayQ_go hd hB (fX := fX) 6 0 _ (mvP_rpr hd hX)).eq (fun s p w hs hp hw => rayP_ln (X := fun t => fX s t w) (B := fun t => fB s t w) hd (ho s p w hs hp hw))
theorem ex4 {F : Nat → Nat → Prop} {a b c e : Nat} : (((∃ v, v < 64 ∧ F v a) ∨ (∃ v, v < 64 ∧ F v b)) ∨ ((∃ v, v < 64 ∧ F v c) ∨ (∃ v, v < 64 ∧ F v e))) ↔ ∃ v, v < 64 ∧ ∃ d, (d = a ∨ d = b ∨ d = c ∨ d = e) ∧ F v d := by
  constructor
  · rintro ((⟨v, h, q⟩ | ⟨v, h, q⟩) | (⟨v, h, q⟩ | ⟨v, h, q⟩))
    · exact ⟨v, h, a, Or.inl rfl, q⟩
    · exact ⟨v, h, b, Or.inr (Or.inl rfl), q⟩
    · exact ⟨v, h, c, Or.inr (Or.inr (Or.inl rfl)), q⟩
    · exact ⟨v, h, e, Or.inr (Or.inr (Or.inr rfl)), q⟩
  · rintro ⟨v, h, d, (z | z | z | z), q⟩
    · exact Or.inl (Or.inl ⟨v, h, by rw [← z]; exact q⟩)
    · exact Or.inl (Or.inr ⟨v, h, by rw [← z]; exact q⟩)
    · exact Or.inr (Or.inl ⟨v, h, by rw [← z]; exact q⟩)
    · exact Or.inr (Or.inr ⟨v, h, by rw [← z]; exact q⟩)
theorem and_st {X : Prop} {o : Int64} {v t : Nat} (hv : v < 64) (ht : t < 64) : (∃ d, (d = 0 ∨ d = 1 ∨ d = 4 ∨ d = 5) ∧ (X ∧ lnD o d v t)) ↔ X ∧ v ≠ t ∧ (dF v t = 0 ∨ dR v t = 0) ∧ clr o v t := by
  rw [← seen_st hv ht]
  exact ⟨fun ⟨d, a, b, c⟩ => ⟨b, d, by omega, c⟩, fun ⟨b, d, a, c⟩ => ⟨d, by omega, b, c⟩⟩
theorem and_ak {X : Prop} {o : Int64} {v t : Nat} (hv : v < 64) (ht : t < 64) : (∃ d, (d = 2 ∨ d = 3 ∨ d = 6 ∨ d = 7) ∧ (X ∧ lnD o d v t)) ↔ X ∧ v ≠ t ∧ aI (dF v t) = aI (dR v t) ∧ clr o v t := by
  rw [← seen_ak hv ht]
  exact ⟨fun ⟨d, a, b, c⟩ => ⟨b, d, by omega, c⟩, fun ⟨b, d, a, c⟩ => ⟨d, by omega, b, c⟩⟩
