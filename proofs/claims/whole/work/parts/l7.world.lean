/-! THE WORLD AT THE LAW'S START -/
theorem twin0 {w : Cond} (h : w ∈ tables_1_1) : w ∈ lw_tbl := List.mem_append_right _ (List.mem_append_left _ h)
theorem twin1 {w : Cond} (h : w ∈ tables_1_2) : w ∈ lw_tbl := List.mem_append_right _ (List.mem_append_right _ (List.mem_append_left _ h))
theorem twin2 {w : Cond} (h : w ∈ tables_1_3) : w ∈ lw_tbl := List.mem_append_right _ (List.mem_append_right _ (List.mem_append_right _ (List.mem_append_left _ h)))
theorem twin3 {w : Cond} (h : w ∈ tables_1_4) : w ∈ lw_tbl := List.mem_append_right _ (List.mem_append_right _ (List.mem_append_right _ (List.mem_append_right _ (List.mem_append_left _ h))))
theorem twin4 {w : Cond} (h : w ∈ tables_1_5) : w ∈ lw_tbl := List.mem_append_right _ (List.mem_append_right _ (List.mem_append_right _ (List.mem_append_right _ (List.mem_append_right _ (List.mem_append_left _ h)))))
theorem twin5 {w : Cond} (h : w ∈ tables_1_6) : w ∈ lw_tbl := List.mem_append_right _ (List.mem_append_right _ (List.mem_append_right _ (List.mem_append_right _ (List.mem_append_right _ (List.mem_append_right _ (List.mem_append_left _ h))))))
theorem twin6 {w : Cond} (h : w ∈ tables_1_7) : w ∈ lw_tbl := List.mem_append_right _ (List.mem_append_right _ (List.mem_append_right _ (List.mem_append_right _ (List.mem_append_right _ (List.mem_append_right _ (List.mem_append_right _ (List.mem_append_left _ h)))))))
theorem twin7 {w : Cond} (h : w ∈ tables_1_8) : w ∈ lw_tbl := List.mem_append_right _ (List.mem_append_right _ (List.mem_append_right _ (List.mem_append_right _ (List.mem_append_right _ (List.mem_append_right _ (List.mem_append_right _ (List.mem_append_right _ h)))))))
theorem lt_109 : (Jvm.Cond.methodLinkNest "GameHall$Reader" (21 : Nat) ({ cls := "GameHall$Word", name := "<init>", desc := "()V" } : Jvm.MethodName) "GameHall") ∈ lw_tbl := twin0 (List.mem_of_getElem? (i := 109) rfl)
theorem lt_192 : (Jvm.Cond.arrayOver (Jvm.ClassFile.FieldType.object "GameHall$Ending")) ∈ lw_tbl := twin0 (List.mem_of_getElem? (i := 192) rfl)
theorem lt_515 : (Jvm.Cond.stringRef "GameHall$RecordWriter" (67 : Nat) " PNBRQKpnbrqk") ∈ lw_tbl := twin2 (List.mem_of_getElem? (i := 35) rfl)
theorem lt_525 : (Jvm.Cond.laysStatic "java/lang/String" "COMPACT_STRINGS" "Z") ∈ lw_tbl := twin2 (List.mem_of_getElem? (i := 45) rfl)
theorem lt_533 : (Jvm.Cond.laysStatic "jdk/internal/util/Preconditions" "SIOOBE_FORMATTER" "Ljava/util/function/BiFunction;") ∈ lw_tbl := twin2 (List.mem_of_getElem? (i := 53) rfl)
theorem lt_556 : (Jvm.Cond.stringRef "GameHall$RecordWriter" (39 : Nat) "KQkq") ∈ lw_tbl := twin2 (List.mem_of_getElem? (i := 76) rfl)
theorem lt_606 : (Jvm.Cond.castable "java/lang/IllegalArgumentException" "java/lang/IllegalArgumentException") ∈ lw_tbl := twin2 (List.mem_of_getElem? (i := 126) rfl)
theorem lt_607 : (Jvm.Cond.declares ({ cls := "java/lang/RuntimeException", name := "<init>", desc := "()V" } : Jvm.MethodName)) ∈ lw_tbl := twin2 (List.mem_of_getElem? (i := 127) rfl)
theorem lt_609 : (Jvm.Cond.declares ({ cls := "java/lang/Exception", name := "<init>", desc := "()V" } : Jvm.MethodName)) ∈ lw_tbl := twin2 (List.mem_of_getElem? (i := 129) rfl)
theorem lt_611 : (Jvm.Cond.declares ({ cls := "java/lang/Throwable", name := "<init>", desc := "()V" } : Jvm.MethodName)) ∈ lw_tbl := twin2 (List.mem_of_getElem? (i := 131) rfl)
theorem lt_631 : (Jvm.Cond.laysStatic "java/lang/Throwable" "UNASSIGNED_STACK" "[Ljava/lang/StackTraceElement;") ∈ lw_tbl := twin2 (List.mem_of_getElem? (i := 151) rfl)
theorem lt_633 : (Jvm.Cond.laysStatic "java/lang/Throwable" "SUPPRESSED_SENTINEL" "Ljava/util/List;") ∈ lw_tbl := twin2 (List.mem_of_getElem? (i := 153) rfl)
theorem lt_693 : (Jvm.Cond.stringRef "GameHall$Reader" (77 : Nat) " PNBRQKpnbrqk") ∈ lw_tbl := twin2 (List.mem_of_getElem? (i := 213) rfl)
theorem lt_771 : (Jvm.Cond.stringRef "GameHall$Reader" (91 : Nat) "KQkq") ∈ lw_tbl := twin3 (List.mem_of_getElem? (i := 51) rfl)
theorem lt_889 : (Jvm.Cond.stringRef "GameHall$Word" (36 : Nat) " PNBRQKpnbrqk") ∈ lw_tbl := twin3 (List.mem_of_getElem? (i := 169) rfl)
theorem lt_920 : (Jvm.Cond.stringRef "GameHall$Speller" (49 : Nat) " PNBRQKpnbrqk") ∈ lw_tbl := twin3 (List.mem_of_getElem? (i := 200) rfl)
theorem lt_949 : (Jvm.Cond.castable "java/lang/IllegalStateException" "java/lang/IllegalStateException") ∈ lw_tbl := twin3 (List.mem_of_getElem? (i := 229) rfl)
theorem lt_964 : (Jvm.Cond.castable "java/lang/IndexOutOfBoundsException" "java/lang/IndexOutOfBoundsException") ∈ lw_tbl := twin4 (List.mem_of_getElem? (i := 4) rfl)
theorem lt_1771 : (Jvm.Cond.methodLinkNest "GameHallModel" (338 : Nat) ({ cls := "GameHallModel$Ends", name := "distanceOf", desc := "(IIIIZ)I" } : Jvm.MethodName) "GameHallModel") ∈ lw_tbl := twin7 (List.mem_of_getElem? (i := 91) rfl)
def lw_fl : List Cond := flatC (Jvm.Cond.and given_1 narrow_1)
theorem chk_stat : ((List.range 5).all (fun e => decide (Cond.arrayOf (.static (zstn e).1 (zstn e).2.1 "[I") .int ∈ lw_fl) && decide (Cond.eq (.length (.static (zstn e).1 (zstn e).2.1 "[I")) (.int (Int32.ofNat (zstn e).2.2.length)) ∈ lw_fl) && (List.range (zstn e).2.2.length).all (fun j => decide (Cond.eq (.elem (.static (zstn e).1 (zstn e).2.1 "[I") (.int (Int32.ofNat j))) (.int ((zstn e).2.2.getD j 0)) ∈ lw_fl)) && decide (Cond.laysStatic (zstn e).1 (zstn e).2.1 "[I" ∈ lw_tbl) && decide (Cond.initialized (zstn e).1 ∈ lw_tbl))) = true := by decide +kernel
def ztm (i : Nat) : Term := if i = 0 then .string "GameHall$RecordWriter" 67 else .string "GameHall$RecordWriter" 39
theorem chk_str : ((List.range 2).all (fun i => decide (Cond.exactly (ztm i) "java/lang/String" ∈ lw_fl) && decide (Cond.eq (.field (ztm i) "java/lang/String" "coder" "B") (.int 0) ∈ lw_fl) && decide (Cond.arrayOf (.field (ztm i) "java/lang/String" "value" "[B") .byte ∈ lw_fl) && decide (Cond.eq (.length (.field (ztm i) "java/lang/String" "value" "[B")) (.int (Int32.ofNat (zslen.getD i 0))) ∈ lw_fl) && (List.range (zslen.getD i 0)).all (fun j => decide (Cond.eq (.elem (.field (ztm i) "java/lang/String" "value" "[B") (.int (Int32.ofNat j))) (.int ((zsbyt.getD i []).getD j 0)) ∈ lw_fl)))) = true := by decide +kernel
section ZW
variable {b : Nat} {s : State}
theorem w_stat (hs : ∀ w ∈ lw_fl, w.before #[Value.ref b] s = true) (hts : ∀ w ∈ lw_tbl, w.before #[Value.ref b] s = true) {e : Nat} (he : e < 5) : ∃ t : Nat, va_Z (zstn e).1 (zstn e).2.1 "[I" (.ref t) (fun q => s.heap.size ≤ q) s s.heap ∧ va_T .int t (zstn e).2.2.length (fun j => .int ((zstn e).2.2.getD j 0)) (fun q => s.heap.size ≤ q) s s.heap := by
  have h := List.all_eq_true.mp chk_stat e (List.mem_range.mpr he)
  simp only [Bool.and_eq_true, decide_eq_true_eq] at h
  obtain ⟨⟨⟨⟨h1, h2⟩, h3⟩, h4⟩, h5⟩ := h
  have hA : ∀ a : Nat, a < s.heap.size → ¬ (s.heap.size ≤ a) := fun a h1 h2 => by omega
  have hl : (zstn e).2.2.length < 2 ^ 31 := by
    rcases (show e = 0 ∨ e = 1 ∨ e = 2 ∨ e = 3 ∨ e = 4 by omega) with q | q | q | q | q <;> subst q <;> decide
  obtain ⟨t, t1, t2⟩ := va_Tof (args := #[Value.ref b]) (f := fun j => .int ((zstn e).2.2.getD j 0)) (A := fun q => s.heap.size ≤ q) hl (hs _ h1) (va_eqt (hs _ h2)) (fun j hj => va_eqt (hs _ (of_decide_eq_true (List.all_eq_true.mp h3 j (List.mem_range.mpr hj))))) hA
  exact ⟨t, va_Zref (args := #[Value.ref b]) (hts _ h4) (hts _ h5) t1 hA, t2⟩
theorem w_str (hs : ∀ w ∈ lw_fl, w.before #[Value.ref b] s = true) : ∃ adK adV : Nat → Nat, vk_S 2 zslen zsbyt adK adV (fun q => s.heap.size ≤ q) s s.heap ∧ ∀ i : Nat, i < 2 → (ztm i).eval #[Value.ref b] s none [] s = some (.ref (adK i)) := by
  have h := fun i (hi : i < 2) => List.all_eq_true.mp chk_str i (List.mem_range.mpr hi)
  simp only [Bool.and_eq_true, decide_eq_true_eq] at h
  refine vk_Sof (args := #[Value.ref b]) (fun i hi => ?_) (fun i hi => hs _ (h i hi).1.1.1.1) (fun i hi => hs _ (h i hi).1.1.1.2) (fun i hi => hs _ (h i hi).1.1.2) (fun i hi => hs _ (h i hi).1.2) (fun i hi j hj => hs _ (of_decide_eq_true (List.all_eq_true.mp (h i hi).2 j (List.mem_range.mpr hj)))) (fun i j hi hj hne => ?_) (fun a h1 h2 => by omega)
  · rcases (show i = 0 ∨ i = 1 by omega) with q | q <;> subst q <;> decide
  · have hn : (Cond.not (Cond.eq (ztm 0) (ztm 1))).before #[Value.ref b] s = true := hs _ (by decide +kernel)
    rcases (show (i = 0 ∧ j = 1) ∨ (i = 1 ∧ j = 0) by omega) with ⟨q1, q2⟩ | ⟨q1, q2⟩ <;> subst q1 <;> subst q2
    · exact Or.inl hn
    · exact Or.inr hn
theorem w_arr {ty : FieldType} (h : (Cond.arrayClass ty).before #[Value.ref b] s = true) (hp : ∀ C, ty ≠ .object C) : ∃ cA : ClassId, ArrOfT s cA ty ∧ va_RA s cA ty := by
  obtain ⟨c, k, comp, h1, h2, h3⟩ := Cond.arrayClass_spec h
  refine ⟨c, fun n z => ⟨(fun k h => by cases h), k, h2, comp, h3⟩, ?_⟩
  cases ty with
  | object C => exact absurd rfl (hp C)
  | _ => exact h1
theorem w_arrO {C : String} (h : (Cond.arrayOver (.object C)).before #[Value.ref b] s = true) : ∃ cA : ClassId, ArrOfT s cA (.object C) ∧ va_RA s cA (.object C) := by
  obtain ⟨comp, c, k, h1, h2, h3, h4, h5⟩ := Cond.arrayOver_spec h
  exact ⟨c, fun n z => ⟨(fun k h => by cases h), k, h3, comp, h4⟩, k, comp, h3, h4, h1, h5⟩
theorem w_cls (hz : ∀ w ∈ zgw, w.before #[Value.ref b] s = true) : ∀ c : Nat, ∃ q : ClassId × (Nat → Nat), ∀ r, vwCl[c]? = some r → u_Kn s r.1 r.2.1 r.2.2 q.1 q.2
  | 0 => by
    obtain ⟨cC, iS, h⟩ := u_known hz cfX0.2.1 (hz _ wd_207)
    exact ⟨(cC, iS), fun r hr => by cases hr; exact h⟩
  | 1 => by
    obtain ⟨cC, iS, h⟩ := u_known hz cfX1.2.1 (hz _ wd_38)
    exact ⟨(cC, iS), fun r hr => by cases hr; exact h⟩
  | 2 => by
    obtain ⟨cC, iS, h⟩ := u_known hz cfX2.2.1 (hz _ wd_1068)
    exact ⟨(cC, iS), fun r hr => by cases hr; exact h⟩
  | 3 => by
    obtain ⟨cC, iS, h⟩ := u_known hz cfX3.2.1 (hz _ wd_186)
    exact ⟨(cC, iS), fun r hr => by cases hr; exact h⟩
  | 4 => by
    obtain ⟨cC, iS, h⟩ := u_known hz cfX4.2.1 (hz _ wd_201)
    exact ⟨(cC, iS), fun r hr => by cases hr; exact h⟩
  | 5 => by
    obtain ⟨cC, iS, h⟩ := u_known hz cfX5.2.1 (hz _ wd_289)
    exact ⟨(cC, iS), fun r hr => by cases hr; exact h⟩
  | 6 => by
    obtain ⟨cC, iS, h⟩ := u_known hz cfX6.2.1 (hz _ wd_102)
    exact ⟨(cC, iS), fun r hr => by cases hr; exact h⟩
  | 7 => by
    obtain ⟨cC, iS, h⟩ := u_known hz cfX7.2.1 (hz _ wd_155)
    exact ⟨(cC, iS), fun r hr => by cases hr; exact h⟩
  | 8 => by
    obtain ⟨cC, iS, h⟩ := u_known hz cfX8.2.1 (hz _ wd_168)
    exact ⟨(cC, iS), fun r hr => by cases hr; exact h⟩
  | 9 => by
    obtain ⟨cC, iS, h⟩ := u_known hz cfX9.2.1 (hz _ wd_90)
    exact ⟨(cC, iS), fun r hr => by cases hr; exact h⟩
  | 10 => by
    obtain ⟨cC, iS, h⟩ := u_known hz cfX10.2.1 (hz _ wd_108)
    exact ⟨(cC, iS), fun r hr => by cases hr; exact h⟩
  | 11 => by
    obtain ⟨cC, iS, h⟩ := u_known hz cfX11.2.1 (hz _ wd_30)
    exact ⟨(cC, iS), fun r hr => by cases hr; exact h⟩
  | 12 => by
    obtain ⟨cC, iS, h⟩ := u_known hz cfX12.2.1 (hz _ wd_1193)
    exact ⟨(cC, iS), fun r hr => by cases hr; exact h⟩
  | 13 => by
    obtain ⟨cC, iS, h⟩ := u_known hz cfX13.2.1 (hz _ wd_1186)
    exact ⟨(cC, iS), fun r hr => by cases hr; exact h⟩
  | n + 14 => ⟨(0, fun _ => 0), fun r hr => by exact absurd (List.getElem?_eq_some_iff.mp hr).1 (by show ¬ (n + 14 < 14); omega)⟩
theorem world {L : Nat} {xs : Nat → Int32} (hs : ∀ w ∈ lw_fl, w.before #[Value.ref b] s = true) (hts : ∀ w ∈ lw_tbl, w.before #[Value.ref b] s = true) (hX : va_X b L xs s s.heap) (hb : b < s.heap.size) : ∃ G : zG, G.1 = s.heap.size ∧ G.2.1 10 = b ∧ zEnv G s ∧ zXt G ∧ zThr G ∧ zScr G L xs := by
  have hz : ∀ w ∈ zgw, w.before #[Value.ref b] s = true := fun w h => hts w (List.mem_filter.mp h).1
  have hA : ∀ a : Nat, a < s.heap.size → ¬ (s.heap.size ≤ a) := fun a h1 h2 => by omega
  obtain ⟨aS, hS⟩ : ∃ aS : Nat → Nat, ∀ e, e < 5 → va_Z (zstn e).1 (zstn e).2.1 "[I" (.ref (aS e)) (fun q => s.heap.size ≤ q) s s.heap ∧ va_T .int (aS e) (zstn e).2.2.length (fun j => .int ((zstn e).2.2.getD j 0)) (fun q => s.heap.size ≤ q) s s.heap := by
    have h0 : ∀ e : Nat, ∃ t : Nat, e < 5 → va_Z (zstn e).1 (zstn e).2.1 "[I" (.ref t) (fun q => s.heap.size ≤ q) s s.heap ∧ va_T .int t (zstn e).2.2.length (fun j => .int ((zstn e).2.2.getD j 0)) (fun q => s.heap.size ≤ q) s s.heap := fun e => by
      by_cases he : e < 5
      · obtain ⟨t, h⟩ := w_stat hs hts he
        exact ⟨t, fun _ => h⟩
      · exact ⟨0, fun h => absurd h he⟩
    exact Classical.axiomOfChoice h0
  obtain ⟨aK, aV, hK, hKe⟩ := w_str hs
  obtain ⟨fm, hfm⟩ : ∃ fm : Nat, va_Z "jdk/internal/util/Preconditions" "SIOOBE_FORMATTER" "Ljava/util/function/BiFunction;" .null (fun q => s.heap.size ≤ q) s s.heap ∨ va_Z "jdk/internal/util/Preconditions" "SIOOBE_FORMATTER" "Ljava/util/function/BiFunction;" (.ref fm) (fun q => s.heap.size ≤ q) s s.heap := by
    rcases va_Zqof (args := #[Value.ref b]) (hts _ lt_533) (hz _ wd_23) (hs _ (by decide +kernel)) hA with h | ⟨t, h⟩
    · exact ⟨0, Or.inl h⟩
    · exact ⟨t, Or.inr h⟩
  obtain ⟨D, hD⟩ := Classical.axiomOfChoice (w_cls hz)
  obtain ⟨c1, k1⟩ := w_arr (hz _ wd_100) (fun C h => by cases h)
  obtain ⟨c2, k2⟩ := w_arr (hz _ wd_88) (fun C h => by cases h)
  obtain ⟨c3, k3⟩ := w_arr (hz _ wd_561) (fun C h => by cases h)
  obtain ⟨c4, k4⟩ := w_arr (hz _ wd_99) (fun C h => by cases h)
  obtain ⟨c5, k5⟩ := w_arr (hz _ wd_1254) (fun C h => by cases h)
  obtain ⟨c6, k6⟩ := w_arrO (hts _ lt_192)
  have kp : ∀ (U : State) (H : Heap), (s.WarmedH U.vm ∧ ∀ q : Nat, q < s.heap.size → H[q]? = s.heap[q]?) → ∀ a : Nat, a < s.heap.size → ¬ (s.heap.size ≤ a) → H[a]? = s.heap[a]? := fun U H h a ha _ => h.2 a ha
  refine ⟨(s.heap.size, (fun k => if k < 5 then aS k else if k < 7 then aK (k - 5) else if k < 9 then aV (k - 7) else if k = 9 then fm else b), (fun c => (D c).1, fun c => (D c).2), (fun k => match k with | 1 => c1 | 2 => c2 | 3 => c3 | 4 => c4 | 5 => c5 | _ => c6), fun U H => s.WarmedH U.vm ∧ ∀ q : Nat, q < s.heap.size → H[q]? = s.heap[q]?), rfl, rfl, ?_, ⟨?_, ?_, ?_, ?_⟩, ?_, ?_⟩
  · refine ⟨⟨fun c q hq => hD c q hq, fun k q hq => ?_⟩, Nat.le_refl _, fun U H h1 h2 => ⟨h1, h2⟩⟩
    match k, hq with
    | 0, hq => cases hq; exact k1
    | 1, hq => cases hq; exact k2
    | 2, hq => cases hq; exact k3
    | 3, hq => cases hq; exact k4
    | 4, hq => cases hq; exact k5
    | 5, hq => cases hq; exact k6
    | n + 6, hq => exact absurd (List.getElem?_eq_some_iff.mp hq).1 (by show ¬ (n + 6 < 6); omega)
  · intro U H hF e he
    have eq : (if e < 5 then aS e else if e < 7 then aK (e - 5) else if e < 9 then aV (e - 7) else if e = 9 then fm else b) = aS e := if_pos he
    show va_Z _ _ _ (.ref (if e < 5 then aS e else if e < 7 then aK (e - 5) else if e < 9 then aV (e - 7) else if e = 9 then fm else b)) _ U H ∧ va_T .int (if e < 5 then aS e else if e < 7 then aK (e - 5) else if e < 9 then aV (e - 7) else if e = 9 then fm else b) _ _ _ U H
    rw [eq]
    exact ⟨((hS e he).1.moved hF.1.alike).kept (kp U H hF), ((hS e he).2.moved hF.1.alike).kept (kp U H hF)⟩
  · intro U H hF
    refine ⟨?_, fun t ht => ?_, ?_⟩
    · have h := (hK.moved hF.1.alike).kept (kp U H hF)
      refine ⟨fun i hi => ?_, fun i j hi hj e => ?_⟩
      · have := h.1 i hi
        rcases (show i = 0 ∨ i = 1 by omega) with q | q <;> subst q <;> exact this
      · refine h.2 i j hi hj ?_
        rcases (show i = 0 ∨ i = 1 by omega) with q | q <;> rcases (show j = 0 ∨ j = 1 by omega) with q2 | q2 <;> subst q <;> subst q2 <;> exact e
    · have e0 : (Term.string "GameHall$RecordWriter" 67).eval #[Value.ref b] s none [] s = some (.ref (aK 0)) := hKe 0 (by decide)
      have e1 : (Term.string "GameHall$RecordWriter" 39).eval #[Value.ref b] s none [] s = some (.ref (aK 1)) := hKe 1 (by decide)
      simp only [zstab, List.mem_cons, List.not_mem_nil, or_false] at ht
      rcases ht with rfl | rfl | rfl | rfl | rfl | rfl
      · exact (vk_R.of (hts _ lt_515) e0).warm hF.1
      · exact (vk_R.of (hts _ lt_556) e1).warm hF.1
      · exact (vk_R.of (hts _ lt_693) (va_eqR (hs _ (by decide +kernel)) e0)).warm hF.1
      · exact (vk_R.of (hts _ lt_771) (va_eqR (hs _ (by decide +kernel)) e1)).warm hF.1
      · exact (vk_R.of (hts _ lt_889) (va_eqR (hs _ (by decide +kernel)) e0)).warm hF.1
      · exact (vk_R.of (hts _ lt_920) (va_eqR (hs _ (by decide +kernel)) e0)).warm hF.1
    · exact ((va_Zof (args := #[Value.ref b]) (hts _ lt_525) (hz _ wd_19) (va_eqt (hs _ (by decide +kernel))) hA).moved hF.1.alike).kept (kp U H hF)
  · intro U H hF
    exact ⟨va_Nw.warmM hF.1 (va_Nw.of rfl (hts _ lt_109)), va_Nw.warmM hF.1 (va_Nw.of rfl (hts _ lt_1771)), (va_AO.of (hts _ lt_192)).moved hF.1.alike⟩
  · intro U H hF
    rcases hfm with h | h
    · exact Or.inl ((h.moved hF.1.alike).kept (kp U H hF))
    · exact Or.inr ((h.moved hF.1.alike).kept (kp U H hF))
  · intro U H hF
    refine ⟨⟨?_, ?_⟩, fun E hE w hw => ?_, fun E hE F hF2 hne => ?_⟩
    · exact ((vx_Zqof (args := #[Value.ref b]) (hts _ lt_631) (hz _ wd_14) (hs _ (by decide +kernel)) hA).moved hF.1.alike).kept (kp U H hF)
    · exact ((vx_Zqof (args := #[Value.ref b]) (hts _ lt_633) (hz _ wd_14) (hs _ (by decide +kernel)) hA).moved hF.1.alike).kept (kp U H hF)
    · simp only [thB, List.mem_cons, List.not_mem_nil, or_false] at hw
      rcases hw with rfl | rfl | rfl | rfl
      · exact va_Nw.warmD hF.1 (va_Nw.of rfl (hts _ lt_607))
      · exact va_Nw.warmD hF.1 (va_Nw.of rfl (hts _ lt_609))
      · exact va_Nw.warmD hF.1 (va_Nw.of rfl (hts _ lt_611))
      · simp only [thE, List.mem_cons, List.not_mem_nil, or_false] at hE
        rcases hE with rfl | rfl | rfl
        · exact va_Nw.warmC hF.1 (va_Nw.of rfl (hts _ lt_606))
        · exact va_Nw.warmC hF.1 (va_Nw.of rfl (hts _ lt_949))
        · exact va_Nw.warmC hF.1 (va_Nw.of rfl (hts _ lt_964))
    · simp only [thE, List.mem_cons, List.not_mem_nil, or_false] at hE hF2
      rcases hE with rfl | rfl | rfl <;> rcases hF2 with rfl | rfl | rfl <;> first | exact absurd rfl hne | exact (va_Nc.of (hs _ (by decide +kernel))).moved hF.1.alike
  · intro U H hF
    exact ⟨(hX.moved hF.1.alike).kept (hF.2 b hb), hb⟩
end ZW
