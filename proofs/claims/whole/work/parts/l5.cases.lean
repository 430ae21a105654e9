/-! ONE CALL OF THE SCRIPT -/
/-- the class stands at A', the reference at A -/
def J4 (M : zM) (A' : Ah) (kn' : Nat → Bool) (A : Ah) (kn : Nat → Bool) : Prop := (cHal M A' ∧ cKn M kn') ∧ rRef M A ∧ eKn M kn
theorem J4.w {M : zM} {A A' : Ah} {kn kn' : Nat → Bool} (h : J4 M A' kn' A kn) : zFix M := h.1.1.1
theorem J4.cls {M N : zM} {A A' : Ah} {kn : Nat → Bool} (h : J4 M A kn A kn) (f : cFr M N) (hN : cHal N A') : J4 N A' kn A kn :=
  ⟨⟨hN, t_K h.w (f.x hN.1) (by decide) h.1.2⟩, t_R h.w (f.x hN.1) (by decide) h.2⟩
theorem J4.clx {M N : zM} {A : Ah} {kn kn' : Nat → Bool} (h : J4 M A kn A kn) (f : xFr cEC M N) (hN : cHal N A) (hK : cKn N kn') : J4 N A kn' A kn :=
  ⟨⟨hN, hK⟩, t_R h.w f (by decide) h.2⟩
theorem J4.ot {M : zM} {A A' : Ah} {kn kn' : Nat → Bool} (h : J4 M A' kn' A kn) (y : Int64) : J4 (ot M y) A' kn' A kn :=
  ⟨t_C (ot_x h.w y) (by decide) h.1, t_R h.w (ot_x h.w y) (by decide) h.2⟩
theorem J4.ex {M : zM} {A A' : Ah} {kn kn' : Nat → Bool} (h : J4 M A' kn' A kn) (n : Nat) : J4 (zEx M n) A' kn' A kn :=
  ⟨t_C (ex_x h.w n) (by decide) h.1, t_R h.w (ex_x h.w n) (by decide) h.2⟩
theorem J4.s {N N2 : zM} {A A' : Ah} {kn : Nat → Bool} (h : J4 N A' kn A kn) (s : zSm rCs N N2) (hR : rRef N2 A') : J4 N2 A' kn A' kn := by
  have gx : xFr rCs N N2 := xFr.of s (fun b h => h) h.w
  exact ⟨t_C gx (by decide) h.1, hR, h.2.2.fr h.w gx ⟨by decide, by decide, by decide, by decide, by decide, by decide⟩⟩
theorem J4.k {N N2 : zM} {A : Ah} {kn : Nat → Bool} (h : J4 N A kn A kn) (s : rKp N N2) : J4 N2 A kn A kn := h.s s.cs (s.ref h.2.1)
theorem J4.x {N N2 : zM} {A : Ah} {kn kn' : Nat → Bool} (h : J4 N A kn' A kn) (s : rKx N N2) (he : eKn N2 kn') : J4 N2 A kn' A kn' :=
  ⟨t_C s.1 (by decide) h.1, s.ref h.2.1, he⟩
theorem o_s {N N2 : zM} {y : Int64} (s : zSm rCs (ot N y) N2) : N2.2.1 81 (0 : Int32).toNatClampNeg = y := by
  rw [(s.2 81 (by decide)).2]; exact ot_s
theorem o_x {N N2 : zM} {y : Int64} (hW : zFix (ot N y)) (s : rKx (ot N y) N2) : N2.2.1 81 (0 : Int32).toNatClampNeg = y := by
  rw [t_o hW s.1 (by decide)]; exact ot_s
def lwX (X : Nat → zV) (x4 : Int32) (u0 v0 j : Nat) : Prop := ∀ (u v : Nat) (M : zM) (A : Ah) (kn : Nat → Bool), J4 M A kn A kn → aJ A j → u + (uC kn + cC kn) ≤ u0 → v + (vC kn + cD kn) ≤ v0 → X 849 u v [.ref 10, .ref 16, .ref 55, .ref 81, .int x4] [] M
def lwH (L : Nat) (X : Nat → zV) (x4 : Int32) (u v u0 v0 j : Nat) (M : zM) (A : Ah) (kn : Nat → Bool) : Prop :=
  J4 M A kn A kn ∧ aJ A j ∧ j ≤ 300 ∧ u + (uC kn + cC kn) + 1 ≤ u0 ∧ v + (vC kn + cD kn) + 6 ≤ v0 ∧ (u0 ≤ 600128 ∧ v0 ≤ 7301064) ∧ (vp_in (x4 + (1 : Int32)) L ∧ vp_in (x4 + (2 : Int32)) L ∧ vp_in (x4 + (3 : Int32)) L ∧ vp_in (x4 + (4 : Int32)) L ∧ vp_in (x4 + (5 : Int32)) L) ∧ lwX X x4 u0 v0 (j + 1)
theorem kc_le {a b : Bool} (h : a = true → b = true) (c : Nat) : (if b = true then 0 else c) ≤ (if a = true then 0 else c) := by
  cases a <;> cases b <;> simp_all
theorem knA_mono (kn : Nat → Bool) (A : Ah) (j : Nat) : kn j = true → knA kn A j = true := by
  intro h
  unfold knA
  split
  · unfold knE
    rw [h]; rfl
  · exact h
theorem kn_le (kn : Nat → Bool) (A : Ah) : uC (knA kn A) ≤ uC kn ∧ vC (knA kn A) ≤ vC kn ∧ cC (knA kn A) ≤ cC kn ∧ cD (knA kn A) ≤ cD kn := by
  have m := knA_mono kn A
  generalize knA kn A = k2 at m ⊢
  have h1 := fun c => kc_le (m 1) c
  have h2 := fun c => kc_le (m 2) c
  have h3 := fun c => kc_le (m 3) c
  have h4 := fun c => kc_le (m 4) c
  have h5 := fun c => kc_le (m 5) c
  unfold uC vC cC cD
  exact ⟨Nat.add_le_add (Nat.add_le_add (Nat.add_le_add (Nat.add_le_add (h1 _) (h2 _)) (h3 _)) (h4 _)) (h5 _), Nat.add_le_add (Nat.add_le_add (Nat.add_le_add (Nat.add_le_add (h1 _) (h2 _)) (h3 _)) (h4 _)) (h5 _), Nat.add_le_add (Nat.add_le_add (h1 _) (h4 _)) (h5 _), Nat.add_le_add (Nat.add_le_add (h1 _) (h4 _)) (h5 _)⟩
theorem cs_tape {L : Nat} {xs : Nat → Int32} {X : Nat → zV} {x4 : Int32} {u v u0 v0 j : Nat} {M : zM} {A : Ah} {kn : Nat → Bool} (h : lwH L X x4 u v u0 v0 j M A kn) : kL_law_128 L xs 600128 7301064 X u v [some (.ref 10), some (.ref 16), some (.ref 55), some (.ref 81), some (.int x4), none, none, none] [] M := by
  obtain ⟨hI, hJ, hj, hu, hv, ⟨hu0, hv0⟩, ⟨p1, p2, p3, p4, p5⟩, hX⟩ := h
  have hO := hJ.1
  have hA : aN A ≤ 8160 := by have := hJ.2.1; omega
  refine vkL_law_128 hI.w ⟨p1, p2, p3, p4, p5, 0, 0, by omega, by omega, k_tape hI.1.1 hA _ _ _ _ _ (fun N f hN => vkL_law_162 hN.1 ⟨p1, p2, p3, p4, p5, 0, 0, by omega, by omega, ?_⟩)⟩
  have h4 := hI.cls f hN
  exact r_tape h4.2.1 hA _ _ _ _ _ (fun N2 s _ hR => vkL_law_196 hR.1 ⟨fun _ => hX _ _ N2 _ kn (h4.s s hR) (hJ.tape hj _ _ _ _ _) (by omega) (by omega), fun q => absurd rfl q⟩)
theorem cs_retreat {L : Nat} {xs : Nat → Int32} {X : Nat → zV} {x4 : Int32} {u v u0 v0 j : Nat} {M : zM} {A : Ah} {kn : Nat → Bool} (h : lwH L X x4 u v u0 v0 j M A kn) : kL_law_313 L xs 600128 7301064 X u v [some (.ref 10), some (.ref 16), some (.ref 55), some (.ref 81), some (.int x4), none, none, none] [] M := by
  obtain ⟨hI, hJ, hj, hu, hv, ⟨hu0, hv0⟩, ⟨p1, p2, p3, p4, p5⟩, hX⟩ := h
  have hO := hJ.1
  refine vkL_law_313 hI.w ⟨0, 0, by omega, by omega, k_retreat hI.1.1 hO (fun N f hN => vkL_law_317 hN.1 ⟨0, 0, by omega, by omega, ?_⟩)⟩
  have h4 := hI.cls f hN
  exact r_retreat h4.2.1 hO (fun N2 s _ hR => vkL_law_321 hR.1 ⟨fun _ => hX _ _ N2 _ kn (h4.s s hR) (hJ.ret.mono (by omega)) (by omega) (by omega), fun q => absurd rfl q⟩)
theorem cs_legalMany {L : Nat} {xs : Nat → Int32} {X : Nat → zV} {x4 : Int32} {u v u0 v0 j : Nat} {M : zM} {A : Ah} {kn : Nat → Bool} (h : lwH L X x4 u v u0 v0 j M A kn) : kL_law_326 L xs 600128 7301064 X u v [some (.ref 10), some (.ref 16), some (.ref 55), some (.ref 81), some (.int x4), none, none, none] [] M := by
  obtain ⟨hI, hJ, hj, hu, hv, ⟨hu0, hv0⟩, ⟨p1, p2, p3, p4, p5⟩, hX⟩ := h
  have hO := hJ.1
  refine vkL_law_326 hI.w ⟨0, 0, by omega, by omega, k_legalMany hI.1.1 hO (vkL_law_330 hI.w ⟨0, 0, by omega, by omega, ?_⟩)⟩
  exact r_legalMany hI.2.1 hO (fun N2 s _ => vkL_law_334 (hI.k s).w ⟨fun _ => hX _ _ N2 _ kn (hI.k s) (hJ.mono (by omega)) (by omega) (by omega), fun q => absurd rfl q⟩)
theorem cs_recordAt {L : Nat} {xs : Nat → Int32} {X : Nat → zV} {x4 : Int32} {u v u0 v0 j : Nat} {M : zM} {A : Ah} {kn : Nat → Bool} (h : lwH L X x4 u v u0 v0 j M A kn) : kL_law_450 L xs 600128 7301064 X u v [some (.ref 10), some (.ref 16), some (.ref 55), some (.ref 81), some (.int x4), none, none, none] [] M := by
  obtain ⟨hI, hJ, hj, hu, hv, ⟨hu0, hv0⟩, ⟨p1, p2, p3, p4, p5⟩, hX⟩ := h
  have hO := hJ.1
  obtain ⟨z, hz, ez⟩ := i32_ex (xs ((x4 + (1 : Int32)) : Int32).toNatClampNeg)
  refine vkL_law_450 hI.w ⟨p1, 0, 0, by omega, by omega, ?_⟩
  rw [ez]
  refine k_recordAt hI.1.1 hO hz (fun N f hN => vkL_law_460 hN.1 ⟨p1, 0, 0, by omega, by omega, ?_⟩)
  rw [ez]
  have h4 := hI.cls f hN
  exact r_recordAt h4.2.1 hO hz (fun N2 s _ => vkL_law_470 (h4.k s).w ⟨fun _ => hX _ _ N2 _ kn (h4.k s) (hJ.mono (by omega)) (by omega) (by omega), fun q => absurd (lg_self _) q⟩)
theorem cs_manOn {L : Nat} {xs : Nat → Int32} {X : Nat → zV} {x4 : Int32} {u v u0 v0 j : Nat} {M : zM} {A : Ah} {kn : Nat → Bool} (h : lwH L X x4 u v u0 v0 j M A kn) : kL_law_476 L xs 600128 7301064 X u v [some (.ref 10), some (.ref 16), some (.ref 55), some (.ref 81), some (.int x4), none, none, none] [] M := by
  obtain ⟨hI, hJ, hj, hu, hv, ⟨hu0, hv0⟩, ⟨p1, p2, p3, p4, p5⟩, hX⟩ := h
  have hO := hJ.1
  obtain ⟨z, hz, ez⟩ := i32_ex (xs ((x4 + (1 : Int32)) : Int32).toNatClampNeg)
  refine vkL_law_476 hI.w ⟨p1, 0, 0, by omega, by omega, ?_⟩
  rw [ez]
  refine k_manOn hI.1.1 hO hz (vkL_law_486 hI.w ⟨p1, 0, 0, by omega, by omega, ?_⟩)
  rw [ez]
  exact r_manOn hI.2.1 hO hz (fun N2 s _ => vkL_law_496 (hI.k s).w ⟨fun _ => hX _ _ N2 _ kn (hI.k s) (hJ.mono (by omega)) (by omega) (by omega), fun q => absurd rfl q⟩)
theorem cs_status {L : Nat} {xs : Nat → Int32} {X : Nat → zV} {x4 : Int32} {u v u0 v0 j : Nat} {M : zM} {A : Ah} {kn : Nat → Bool} (h : lwH L X x4 u v u0 v0 j M A kn) : kL_law_824 L xs 600128 7301064 X u v [some (.ref 10), some (.ref 16), some (.ref 55), some (.ref 81), some (.int x4), none, none, none] [] M := by
  obtain ⟨hI, hJ, hj, hu, hv, ⟨hu0, hv0⟩, ⟨p1, p2, p3, p4, p5⟩, hX⟩ := h
  have hO := hJ.1
  obtain ⟨z, hz, ez⟩ := i32_ex (xs ((x4 + (1 : Int32)) : Int32).toNatClampNeg)
  refine vkL_law_824 hI.w ⟨p1, 0, 0, by omega, by omega, ?_⟩
  rw [ez]
  refine k_status hI.1.1 hO hz (vkL_law_834 hI.w ⟨p1, 0, 0, by omega, by omega, ?_⟩)
  rw [ez]
  exact r_status hI.2.1 hO hz (fun N2 s _ => vkL_law_844 (hI.k s).w ⟨fun _ => hX _ _ N2 _ kn (hI.k s) (hJ.mono (by omega)) (by omega) (by omega), fun q => absurd rfl q⟩)
theorem tl_submit {L : Nat} {xs : Nat → Int32} {X : Nat → zV} {x4 x5 : Int32} {y : Int32} {u v : Nat} {N : zM} (l : zin 8 [0, 1, 2, 3, 4] (aL_law_254 L xs 600128 7301064 X) X 254) (hW : zFix N) (hu : u ≤ 600128) (hv : v ≤ 7301064) (h0 : N.1 55 0 = x5) (h81 : x5 = 0 → N.2.1 81 (0 : Int32).toNatClampNeg = (Int32.toInt64 y)) (hX : X 849 u v [.ref 10, .ref 16, .ref 55, .ref 81, .int x4] [] N) : kL_law_224 L xs 600128 7301064 X u v [some (.ref 10), some (.ref 16), some (.ref 55), some (.ref 81), some (.int x4), some (.int x5), none, none] [.int y] N := by
  have f : X 254 u v [.ref 10, .ref 16, .ref 55, .ref 81, .int x4] [] N := l _ _ _ _ _ ⟨rfl, vL_law_254 hW hX⟩
  refine vkL_law_224 hW ⟨0, 0, hu, hv, c_thrown hW (vkL_law_230 hW ⟨fun _ => ⟨fun z => ⟨fun _ => f, fun q => absurd ?_ q⟩, fun _ => f⟩, fun q => absurd h0 q⟩)⟩
  rw [h81 z]
  exact lg_self _
theorem tl_proceed {L : Nat} {xs : Nat → Int32} {X : Nat → zV} {x4 x5 : Int32} {y : Int32} {u v : Nat} {N : zM} (l : zin 8 [0, 1, 2, 3, 4] (aL_law_310 L xs 600128 7301064 X) X 310) (hW : zFix N) (hu : u ≤ 600128) (hv : v ≤ 7301064) (h0 : N.1 55 0 = x5) (h81 : x5 = 0 → N.2.1 81 (0 : Int32).toNatClampNeg = (Int32.toInt64 y)) (hX : X 849 u v [.ref 10, .ref 16, .ref 55, .ref 81, .int x4] [] N) : kL_law_280 L xs 600128 7301064 X u v [some (.ref 10), some (.ref 16), some (.ref 55), some (.ref 81), some (.int x4), some (.int x5), none, none] [.int y] N := by
  have f : X 310 u v [.ref 10, .ref 16, .ref 55, .ref 81, .int x4] [] N := l _ _ _ _ _ ⟨rfl, vL_law_310 hW hX⟩
  refine vkL_law_280 hW ⟨0, 0, hu, hv, c_thrown hW (vkL_law_286 hW ⟨fun _ => ⟨fun z => ⟨fun _ => f, fun q => absurd ?_ q⟩, fun _ => f⟩, fun q => absurd h0 q⟩)⟩
  rw [h81 z]
  exact lg_self _
theorem tl_legalMove {L : Nat} {xs : Nat → Int32} {X : Nat → zV} {x4 x5 : Int32} {y : Int32} {u v : Nat} {N : zM} (l : zin 8 [0, 1, 2, 3, 4] (aL_law_392 L xs 600128 7301064 X) X 392) (hW : zFix N) (hu : u ≤ 600128) (hv : v ≤ 7301064) (h0 : N.1 55 0 = x5) (h81 : x5 = 0 → N.2.1 81 (0 : Int32).toNatClampNeg = (Int32.toInt64 y)) (hX : X 849 u v [.ref 10, .ref 16, .ref 55, .ref 81, .int x4] [] N) : kL_law_362 L xs 600128 7301064 X u v [some (.ref 10), some (.ref 16), some (.ref 55), some (.ref 81), some (.int x4), some (.int x5), none, none] [.int y] N := by
  have f : X 392 u v [.ref 10, .ref 16, .ref 55, .ref 81, .int x4] [] N := l _ _ _ _ _ ⟨rfl, vL_law_392 hW hX⟩
  refine vkL_law_362 hW ⟨0, 0, hu, hv, c_thrown hW (vkL_law_368 hW ⟨fun _ => ⟨fun z => ⟨fun _ => f, fun q => absurd ?_ q⟩, fun _ => f⟩, fun q => absurd h0 q⟩)⟩
  rw [h81 z]
  exact lg_self _
theorem tl_spelling {L : Nat} {xs : Nat → Int32} {X : Nat → zV} {x4 x5 : Int32} {y : Int64} {u v : Nat} {N : zM} (l : zin 8 [0, 1, 2, 3, 4] (aL_law_447 L xs 600128 7301064 X) X 447) (hW : zFix N) (hu : u ≤ 600128) (hv : v ≤ 7301064) (h0 : N.1 55 0 = x5) (h81 : x5 = 0 → N.2.1 81 (0 : Int32).toNatClampNeg = y) (hX : X 849 u v [.ref 10, .ref 16, .ref 55, .ref 81, .int x4] [] N) : kL_law_418 L xs 600128 7301064 X u v [some (.ref 10), some (.ref 16), some (.ref 55), some (.ref 81), some (.int x4), some (.int x5), none, none] [.long y] N := by
  have f : X 447 u v [.ref 10, .ref 16, .ref 55, .ref 81, .int x4] [] N := l _ _ _ _ _ ⟨rfl, vL_law_447 hW hX⟩
  refine vkL_law_418 hW ⟨0, 0, hu, hv, c_thrown hW (vkL_law_424 hW ⟨fun _ => ⟨fun z => ⟨fun _ => f, fun q => absurd ?_ q⟩, fun _ => f⟩, fun q => absurd h0 q⟩)⟩
  rw [h81 z]
  exact lg_self _
theorem tl_linesTo {L : Nat} {xs : Nat → Int32} {X : Nat → zV} {x4 x5 : Int32} {y : Int64} {u v : Nat} {N : zM} (l : zin 8 [0, 1, 2, 3, 4] (aL_law_553 L xs 600128 7301064 X) X 553) (hW : zFix N) (hu : u ≤ 600128) (hv : v ≤ 7301064) (h0 : N.1 55 0 = x5) (h81 : x5 = 0 → N.2.1 81 (0 : Int32).toNatClampNeg = y) (hX : X 849 u v [.ref 10, .ref 16, .ref 55, .ref 81, .int x4] [] N) : kL_law_524 L xs 600128 7301064 X u v [some (.ref 10), some (.ref 16), some (.ref 55), some (.ref 81), some (.int x4), some (.int x5), none, none] [.long y] N := by
  have f : X 553 u v [.ref 10, .ref 16, .ref 55, .ref 81, .int x4] [] N := l _ _ _ _ _ ⟨rfl, vL_law_553 hW hX⟩
  refine vkL_law_524 hW ⟨0, 0, hu, hv, c_thrown hW (vkL_law_530 hW ⟨fun _ => ⟨fun z => ⟨fun _ => f, fun q => absurd ?_ q⟩, fun _ => f⟩, fun q => absurd h0 q⟩)⟩
  rw [h81 z]
  exact lg_self _
theorem tl_valueAt {L : Nat} {xs : Nat → Int32} {X : Nat → zV} {x4 x5 : Int32} {y : Int32} {u v : Nat} {N : zM} (l : zin 8 [0, 1, 2, 3, 4] (aL_law_609 L xs 600128 7301064 X) X 609) (hW : zFix N) (hu : u ≤ 600128) (hv : v ≤ 7301064) (h0 : N.1 55 0 = x5) (h81 : x5 = 0 → N.2.1 81 (0 : Int32).toNatClampNeg = (Int32.toInt64 y)) (hX : X 849 u v [.ref 10, .ref 16, .ref 55, .ref 81, .int x4] [] N) : kL_law_579 L xs 600128 7301064 X u v [some (.ref 10), some (.ref 16), some (.ref 55), some (.ref 81), some (.int x4), some (.int x5), none, none] [.int y] N := by
  have f : X 609 u v [.ref 10, .ref 16, .ref 55, .ref 81, .int x4] [] N := l _ _ _ _ _ ⟨rfl, vL_law_609 hW hX⟩
  refine vkL_law_579 hW ⟨0, 0, hu, hv, c_thrown hW (vkL_law_585 hW ⟨fun _ => ⟨fun z => ⟨fun _ => f, fun q => absurd ?_ q⟩, fun _ => f⟩, fun q => absurd h0 q⟩)⟩
  rw [h81 z]
  exact lg_self _
theorem tl_bestAt {L : Nat} {xs : Nat → Int32} {X : Nat → zV} {x4 x5 : Int32} {y : Int32} {u v : Nat} {N : zM} (l : zin 8 [0, 1, 2, 3, 4] (aL_law_665 L xs 600128 7301064 X) X 665) (hW : zFix N) (hu : u ≤ 600128) (hv : v ≤ 7301064) (h0 : N.1 55 0 = x5) (h81 : x5 = 0 → N.2.1 81 (0 : Int32).toNatClampNeg = (Int32.toInt64 y)) (hX : X 849 u v [.ref 10, .ref 16, .ref 55, .ref 81, .int x4] [] N) : kL_law_635 L xs 600128 7301064 X u v [some (.ref 10), some (.ref 16), some (.ref 55), some (.ref 81), some (.int x4), some (.int x5), none, none] [.int y] N := by
  have f : X 665 u v [.ref 10, .ref 16, .ref 55, .ref 81, .int x4] [] N := l _ _ _ _ _ ⟨rfl, vL_law_665 hW hX⟩
  refine vkL_law_635 hW ⟨0, 0, hu, hv, c_thrown hW (vkL_law_641 hW ⟨fun _ => ⟨fun z => ⟨fun _ => f, fun q => absurd ?_ q⟩, fun _ => f⟩, fun q => absurd h0 q⟩)⟩
  rw [h81 z]
  exact lg_self _
theorem tl_distanceToMate {L : Nat} {xs : Nat → Int32} {X : Nat → zV} {x4 x5 : Int32} {y : Int32} {u v : Nat} {N : zM} (l : zin 8 [0, 1, 2, 3, 4] (aL_law_709 L xs 600128 7301064 X) X 709) (hW : zFix N) (hu : u ≤ 600128) (hv : v ≤ 7301064) (h0 : N.1 55 0 = x5) (h81 : x5 = 0 → N.2.1 81 (0 : Int32).toNatClampNeg = (Int32.toInt64 y)) (hX : X 849 u v [.ref 10, .ref 16, .ref 55, .ref 81, .int x4] [] N) : kL_law_679 L xs 600128 7301064 X u v [some (.ref 10), some (.ref 16), some (.ref 55), some (.ref 81), some (.int x4), some (.int x5), none, none] [.int y] N := by
  have f : X 709 u v [.ref 10, .ref 16, .ref 55, .ref 81, .int x4] [] N := l _ _ _ _ _ ⟨rfl, vL_law_709 hW hX⟩
  refine vkL_law_679 hW ⟨0, 0, hu, hv, c_thrown hW (vkL_law_685 hW ⟨fun _ => ⟨fun z => ⟨fun _ => f, fun q => absurd ?_ q⟩, fun _ => f⟩, fun q => absurd h0 q⟩)⟩
  rw [h81 z]
  exact lg_self _
theorem tl_matingMove {L : Nat} {xs : Nat → Int32} {X : Nat → zV} {x4 x5 : Int32} {y : Int32} {u v : Nat} {N : zM} (l : zin 8 [0, 1, 2, 3, 4] (aL_law_753 L xs 600128 7301064 X) X 753) (hW : zFix N) (hu : u ≤ 600128) (hv : v ≤ 7301064) (h0 : N.1 55 0 = x5) (h81 : x5 = 0 → N.2.1 81 (0 : Int32).toNatClampNeg = (Int32.toInt64 y)) (hX : X 849 u v [.ref 10, .ref 16, .ref 55, .ref 81, .int x4] [] N) : kL_law_723 L xs 600128 7301064 X u v [some (.ref 10), some (.ref 16), some (.ref 55), some (.ref 81), some (.int x4), some (.int x5), none, none] [.int y] N := by
  have f : X 753 u v [.ref 10, .ref 16, .ref 55, .ref 81, .int x4] [] N := l _ _ _ _ _ ⟨rfl, vL_law_753 hW hX⟩
  refine vkL_law_723 hW ⟨0, 0, hu, hv, c_thrown hW (vkL_law_729 hW ⟨fun _ => ⟨fun z => ⟨fun _ => f, fun q => absurd ?_ q⟩, fun _ => f⟩, fun q => absurd h0 q⟩)⟩
  rw [h81 z]
  exact lg_self _
theorem tl_historyOf {L : Nat} {xs : Nat → Int32} {X : Nat → zV} {x4 x5 : Int32} {y : Int32} {u v : Nat} {N : zM} (l : zin 8 [0, 1, 2, 3, 4] (aL_law_821 L xs 600128 7301064 X) X 821) (hW : zFix N) (hu : u ≤ 600128) (hv : v ≤ 7301064) (h0 : N.1 55 0 = x5) (h81 : x5 = 0 → N.2.1 81 (0 : Int32).toNatClampNeg = (Int32.toInt64 y)) (hX : X 849 u v [.ref 10, .ref 16, .ref 55, .ref 81, .int x4] [] N) : kL_law_791 L xs 600128 7301064 X u v [some (.ref 10), some (.ref 16), some (.ref 55), some (.ref 81), some (.int x4), some (.int x5), none, none] [.int y] N := by
  have f : X 821 u v [.ref 10, .ref 16, .ref 55, .ref 81, .int x4] [] N := l _ _ _ _ _ ⟨rfl, vL_law_821 hW hX⟩
  refine vkL_law_791 hW ⟨0, 0, hu, hv, c_thrown hW (vkL_law_797 hW ⟨fun _ => ⟨fun z => ⟨fun _ => f, fun q => absurd ?_ q⟩, fun _ => f⟩, fun q => absurd h0 q⟩)⟩
  rw [h81 z]
  exact lg_self _
theorem cs_submit {L : Nat} {xs : Nat → Int32} {X : Nat → zV} {x4 : Int32} {u v u0 v0 j : Nat} {M : zM} {A : Ah} {kn : Nat → Bool} (l : zin 8 [0, 1, 2, 3, 4] (aL_law_254 L xs 600128 7301064 X) X 254) (h : lwH L X x4 u v u0 v0 j M A kn) : kL_law_201 L xs 600128 7301064 X u v [some (.ref 10), some (.ref 16), some (.ref 55), some (.ref 81), some (.int x4), none, none, none] [] M := by
  obtain ⟨hI, hJ, hj, hu, hv, ⟨hu0, hv0⟩, ⟨p1, p2, p3, p4, p5⟩, hX⟩ := h
  have hO := hJ.1
  obtain ⟨z, hz, ez⟩ := i32_ex (xs ((x4 + (1 : Int32)) : Int32).toNatClampNeg)
  refine vkL_law_201 hI.w ⟨p1, 1, 6, by omega, by omega, ?_⟩
  rw [ez]
  refine q_submit (Nat.le_refl _) (Nat.le_refl _) hI.1.1 hO hz (fun k N ek k1 k2 f hN => ?_) (fun q n => ?_)
  · have h4 := (hI.cls f hN).ot (iI (subA A k).1).toInt64
    refine vkL_law_212 h4.w ⟨p1, 0, 0, by omega, by omega, ?_⟩
    rw [ez]
    refine r_submit h4.2.1 hO (iI z) (fun q => ?_) (fun k' N2 ek' k1' k2' s h0 hR => ?_)
    · exfalso
      have n1 := iz_lt hz (n := 1) (by decide)
      have n2 := iz_le hz (n := 20) (by decide)
      rcases q with q | q
      · have := n1.mp q; omega
      · exact q (n2.mpr (by omega))
    · have hkk : k' = k := by
        have e1 : nI k = nI k' := by rw [← ek', iz_nat (z := z) (by omega)]; congr 1; omega
        exact ((nI_eq (a := k) (b := k') (by omega) (by omega)).mp e1).symm
      subst hkk
      exact tl_submit l hR.1 (by omega) (by omega) h0 (fun _ => o_s s) (hX _ _ N2 _ kn (h4.s s hR) (hJ.sub hj k') (by omega) (by omega))
  · have h4 := hI.ex n
    refine vkL_law_212 h4.w ⟨p1, 0, 0, by omega, by omega, ?_⟩
    rw [ez]
    refine r_submit h4.2.1 hO (iI z) (fun _ => ?_) (fun k' N2 ek' k1' k2' s h0 hR => ?_)
    · have s : rKp (zEx M n) (zsI (zEx M n) 55 0 1) := rKp.slot (Or.inl (by decide))
      exact tl_submit l (h4.k s).w (by omega) (by omega) zsI_s (fun q => absurd q (by decide)) (hX _ _ _ _ kn (h4.k s) (hJ.mono (by omega)) (by omega) (by omega))
    · exfalso
      have e1 : iI z = iI (k' : Nat) := by rw [ek', iI_nat]
      have := (iI_eq hz.1 hz.2 (by omega) (by omega)).mp e1
      omega
theorem cs_proceed {L : Nat} {xs : Nat → Int32} {X : Nat → zV} {x4 : Int32} {u v u0 v0 j : Nat} {M : zM} {A : Ah} {kn : Nat → Bool} (l : zin 8 [0, 1, 2, 3, 4] (aL_law_310 L xs 600128 7301064 X) X 310) (h : lwH L X x4 u v u0 v0 j M A kn) : kL_law_257 L xs 600128 7301064 X u v [some (.ref 10), some (.ref 16), some (.ref 55), some (.ref 81), some (.int x4), none, none, none] [] M := by
  obtain ⟨hI, hJ, hj, hu, hv, ⟨hu0, hv0⟩, ⟨p1, p2, p3, p4, p5⟩, hX⟩ := h
  have hO := hJ.1
  obtain ⟨z, hz, ez⟩ := i32_ex (xs ((x4 + (1 : Int32)) : Int32).toNatClampNeg)
  refine vkL_law_257 hI.w ⟨p1, 1, 6, by omega, by omega, ?_⟩
  rw [ez]
  refine q_proceed (Nat.le_refl _) (Nat.le_refl _) hI.1.1 hO hz (fun N q f hN => ?_) (fun k n q q0 q2 qA => ?_)
  · have h4 := (hI.cls f hN).ot (nI (proA A z).2.1).toInt64
    refine vkL_law_268 h4.w ⟨p1, 0, 0, by omega, by omega, ?_⟩
    rw [ez]
    refine r_proceed h4.2.1 hO hz (fun N2 s h0 hR => ?_)
    rw [q] at h0
    exact tl_proceed l hR.1 (by omega) (by omega) h0 (fun _ => o_s s) (hX _ _ N2 _ kn (h4.s s hR) ((hJ.pro z).mono (by omega)) (by omega) (by omega))
  · have h4 := hI.ex n
    refine vkL_law_268 h4.w ⟨p1, 0, 0, by omega, by omega, ?_⟩
    rw [ez]
    refine r_proceed h4.2.1 hO hz (fun N2 s h0 hR => ?_)
    rw [q] at h0
    rw [qA] at hR
    exact tl_proceed l hR.1 (by omega) (by omega) h0 (fun q => absurd ((nI_eq (a := k) (b := 0) (by omega) (by decide)).mp q) q0) (hX _ _ N2 _ kn (h4.s s hR) (hJ.mono (by omega)) (by omega) (by omega))
theorem cs_legalMove {L : Nat} {xs : Nat → Int32} {X : Nat → zV} {x4 : Int32} {u v u0 v0 j : Nat} {M : zM} {A : Ah} {kn : Nat → Bool} (l : zin 8 [0, 1, 2, 3, 4] (aL_law_392 L xs 600128 7301064 X) X 392) (h : lwH L X x4 u v u0 v0 j M A kn) : kL_law_339 L xs 600128 7301064 X u v [some (.ref 10), some (.ref 16), some (.ref 55), some (.ref 81), some (.int x4), none, none, none] [] M := by
  obtain ⟨hI, hJ, hj, hu, hv, ⟨hu0, hv0⟩, ⟨p1, p2, p3, p4, p5⟩, hX⟩ := h
  have hO := hJ.1
  obtain ⟨z, hz, ez⟩ := i32_ex (xs ((x4 + (1 : Int32)) : Int32).toNatClampNeg)
  refine vkL_law_339 hI.w ⟨p1, 1, 6, by omega, by omega, ?_⟩
  rw [ez]
  refine q_legalMove (Nat.le_refl _) (Nat.le_refl _) hI.1.1 hO hz (fun q => ?_) (fun q n => ?_)
  · have h4 := hI.ot (nI (mvAt (aG A) z)).toInt64
    refine vkL_law_350 h4.w ⟨p1, 0, 0, by omega, by omega, ?_⟩
    rw [ez]
    refine r_legalMove h4.2.1 hO hz (fun N2 s h0 => ?_)
    unfold lvA at h0 ⊢
    rw [if_pos q] at h0 ⊢
    exact tl_legalMove l (h4.k s).w (by omega) (by omega) h0 (fun _ => o_s s.cs) (hX _ _ N2 _ kn (h4.k s) (hJ.mono (by omega)) (by omega) (by omega))
  · have h4 := hI.ex n
    refine vkL_law_350 h4.w ⟨p1, 0, 0, by omega, by omega, ?_⟩
    rw [ez]
    refine r_legalMove h4.2.1 hO hz (fun N2 s h0 => ?_)
    unfold lvA at h0 ⊢
    rw [if_neg q] at h0 ⊢
    exact tl_legalMove l (h4.k s).w (by omega) (by omega) h0 (fun q => absurd q (by decide)) (hX _ _ N2 _ kn (h4.k s) (hJ.mono (by omega)) (by omega) (by omega))
theorem cs_spelling {L : Nat} {xs : Nat → Int32} {X : Nat → zV} {x4 : Int32} {u v u0 v0 j : Nat} {M : zM} {A : Ah} {kn : Nat → Bool} (l : zin 8 [0, 1, 2, 3, 4] (aL_law_447 L xs 600128 7301064 X) X 447) (h : lwH L X x4 u v u0 v0 j M A kn) : kL_law_395 L xs 600128 7301064 X u v [some (.ref 10), some (.ref 16), some (.ref 55), some (.ref 81), some (.int x4), none, none, none] [] M := by
  obtain ⟨hI, hJ, hj, hu, hv, ⟨hu0, hv0⟩, ⟨p1, p2, p3, p4, p5⟩, hX⟩ := h
  have hO := hJ.1
  obtain ⟨z, hz, ez⟩ := i32_ex (xs ((x4 + (1 : Int32)) : Int32).toNatClampNeg)
  refine vkL_law_395 hI.w ⟨p1, 1, 6, by omega, by omega, ?_⟩
  rw [ez]
  refine q_spelling (Nat.le_refl _) (Nat.le_refl _) hI.1.1 hO hz (fun N q f hN => ?_) (fun q n => ?_)
  · have h4 := (hI.cls f hN).ot (jN (pk8 (spl (lst (aG A)) (mvAt (aG A) z) ++ sgl (lst (aG A)) (mvAt (aG A) z)) 0 8))
    refine vkL_law_406 h4.w ⟨p1, 0, 0, by omega, by omega, ?_⟩
    rw [ez]
    refine r_spelling h4.2.1 hO hz (fun N2 s h0 => ?_)
    unfold spA at h0 ⊢
    rw [if_pos q] at h0 ⊢
    exact tl_spelling l (h4.k s).w (by omega) (by omega) h0 (fun _ => o_s s.cs) (hX _ _ N2 _ kn (h4.k s) (hJ.mono (by omega)) (by omega) (by omega))
  · have h4 := hI.ex n
    refine vkL_law_406 h4.w ⟨p1, 0, 0, by omega, by omega, ?_⟩
    rw [ez]
    refine r_spelling h4.2.1 hO hz (fun N2 s h0 => ?_)
    unfold spA at h0 ⊢
    rw [if_neg q] at h0 ⊢
    exact tl_spelling l (h4.k s).w (by omega) (by omega) h0 (fun q => absurd q (by decide)) (hX _ _ N2 _ kn (h4.k s) (hJ.mono (by omega)) (by omega) (by omega))
theorem cs_linesTo {L : Nat} {xs : Nat → Int32} {X : Nat → zV} {x4 : Int32} {u v u0 v0 j : Nat} {M : zM} {A : Ah} {kn : Nat → Bool} (l : zin 8 [0, 1, 2, 3, 4] (aL_law_553 L xs 600128 7301064 X) X 553) (h : lwH L X x4 u v u0 v0 j M A kn) : kL_law_501 L xs 600128 7301064 X u v [some (.ref 10), some (.ref 16), some (.ref 55), some (.ref 81), some (.int x4), none, none, none] [] M := by
  obtain ⟨hI, hJ, hj, hu, hv, ⟨hu0, hv0⟩, ⟨p1, p2, p3, p4, p5⟩, hX⟩ := h
  have hO := hJ.1
  obtain ⟨z, hz, ez⟩ := i32_ex (xs ((x4 + (1 : Int32)) : Int32).toNatClampNeg)
  refine vkL_law_501 hI.w ⟨p1, 1, 6, by omega, by omega, ?_⟩
  rw [ez]
  refine q_linesTo (Nat.le_refl _) (Nat.le_refl _) hI.1.1 hO hz (fun N q f hN => ?_) (fun k n q q0 q2 => ?_)
  · have h4 := (hI.cls f hN).ot (jN (lnA A z).2)
    refine vkL_law_512 h4.w ⟨p1, 0, 0, by omega, by omega, ?_⟩
    rw [ez]
    refine r_linesTo h4.2.1 hO hz (fun N2 s h0 => ?_)
    rw [q] at h0
    exact tl_linesTo l (h4.k s).w (by omega) (by omega) h0 (fun _ => o_s s.cs) (hX _ _ N2 _ kn (h4.k s) (hJ.mono (by omega)) (by omega) (by omega))
  · have h4 := hI.ex n
    refine vkL_law_512 h4.w ⟨p1, 0, 0, by omega, by omega, ?_⟩
    rw [ez]
    refine r_linesTo h4.2.1 hO hz (fun N2 s h0 => ?_)
    rw [q] at h0
    exact tl_linesTo l (h4.k s).w (by omega) (by omega) h0 (fun q => absurd ((nI_eq (a := k) (b := 0) (by omega) (by decide)).mp q) q0) (hX _ _ N2 _ kn (h4.k s) (hJ.mono (by omega)) (by omega) (by omega))
theorem cs_valueAt {L : Nat} {xs : Nat → Int32} {X : Nat → zV} {x4 : Int32} {u v u0 v0 j : Nat} {M : zM} {A : Ah} {kn : Nat → Bool} (l : zin 8 [0, 1, 2, 3, 4] (aL_law_609 L xs 600128 7301064 X) X 609) (h : lwH L X x4 u v u0 v0 j M A kn) : kL_law_556 L xs 600128 7301064 X u v [some (.ref 10), some (.ref 16), some (.ref 55), some (.ref 81), some (.int x4), none, none, none] [] M := by
  obtain ⟨hI, hJ, hj, hu, hv, ⟨hu0, hv0⟩, ⟨p1, p2, p3, p4, p5⟩, hX⟩ := h
  have hO := hJ.1
  obtain ⟨z, hz, ez⟩ := i32_ex (xs ((x4 + (1 : Int32)) : Int32).toNatClampNeg)
  refine vkL_law_556 hI.w ⟨p1, 1, 6, by omega, by omega, ?_⟩
  rw [ez]
  refine q_valueAt (Nat.le_refl _) (Nat.le_refl _) hI.1.1 hO hz (fun N q f hN => ?_) (fun k n q q0 q2 => ?_)
  · have h4 := (hI.cls f hN).ot (iI (val z.toNat (lst (aG A)))).toInt64
    refine vkL_law_567 h4.w ⟨p1, 0, 0, by omega, by omega, ?_⟩
    rw [ez]
    refine r_valueAt h4.2.1 hO hz (fun N2 s h0 => ?_)
    unfold vaA at h0 ⊢
    rw [if_pos q] at h0 ⊢
    exact tl_valueAt l (h4.k s).w (by omega) (by omega) h0 (fun _ => o_s s.cs) (hX _ _ N2 _ kn (h4.k s) (hJ.mono (by omega)) (by omega) (by omega))
  · have h4 := hI.ex n
    refine vkL_law_567 h4.w ⟨p1, 0, 0, by omega, by omega, ?_⟩
    rw [ez]
    refine r_valueAt h4.2.1 hO hz (fun N2 s h0 => ?_)
    unfold vaA at h0 ⊢
    rw [if_neg (by omega)] at h0 ⊢
    have h0 : N2.1 55 0 = nI (wdA A z) := h0
    rw [q] at h0
    exact tl_valueAt l (h4.k s).w (by omega) (by omega) h0 (fun q => absurd ((nI_eq (a := k) (b := 0) (by omega) (by decide)).mp q) q0) (hX _ _ N2 _ kn (h4.k s) (hJ.mono (by omega)) (by omega) (by omega))
theorem cs_bestAt {L : Nat} {xs : Nat → Int32} {X : Nat → zV} {x4 : Int32} {u v u0 v0 j : Nat} {M : zM} {A : Ah} {kn : Nat → Bool} (l : zin 8 [0, 1, 2, 3, 4] (aL_law_665 L xs 600128 7301064 X) X 665) (h : lwH L X x4 u v u0 v0 j M A kn) : kL_law_612 L xs 600128 7301064 X u v [some (.ref 10), some (.ref 16), some (.ref 55), some (.ref 81), some (.int x4), none, none, none] [] M := by
  obtain ⟨hI, hJ, hj, hu, hv, ⟨hu0, hv0⟩, ⟨p1, p2, p3, p4, p5⟩, hX⟩ := h
  have hO := hJ.1
  obtain ⟨z, hz, ez⟩ := i32_ex (xs ((x4 + (1 : Int32)) : Int32).toNatClampNeg)
  refine vkL_law_612 hI.w ⟨p1, 1, 6, by omega, by omega, ?_⟩
  rw [ez]
  refine q_bestAt (Nat.le_refl _) (Nat.le_refl _) hI.1.1 hO hz (fun N q f hN => ?_) (fun k n q q0 q2 => ?_)
  · have h4 := (hI.cls f hN).ot (iI (bstS z.toNat (lst (aG A)))).toInt64
    refine vkL_law_623 h4.w ⟨p1, 0, 0, by omega, by omega, ?_⟩
    rw [ez]
    refine r_bestAt h4.2.1 hO hz (fun N2 s h0 => ?_)
    unfold baA at h0 ⊢
    rw [if_pos q] at h0 ⊢
    exact tl_bestAt l (h4.k s).w (by omega) (by omega) h0 (fun _ => o_s s.cs) (hX _ _ N2 _ kn (h4.k s) (hJ.mono (by omega)) (by omega) (by omega))
  · have h4 := hI.ex n
    refine vkL_law_623 h4.w ⟨p1, 0, 0, by omega, by omega, ?_⟩
    rw [ez]
    refine r_bestAt h4.2.1 hO hz (fun N2 s h0 => ?_)
    unfold baA at h0 ⊢
    rw [if_neg (by omega)] at h0 ⊢
    have h0 : N2.1 55 0 = nI (wdA A z) := h0
    rw [q] at h0
    exact tl_bestAt l (h4.k s).w (by omega) (by omega) h0 (fun q => absurd ((nI_eq (a := k) (b := 0) (by omega) (by decide)).mp q) q0) (hX _ _ N2 _ kn (h4.k s) (hJ.mono (by omega)) (by omega) (by omega))
theorem cs_distanceToMate {L : Nat} {xs : Nat → Int32} {X : Nat → zV} {x4 : Int32} {u v u0 v0 j : Nat} {M : zM} {A : Ah} {kn : Nat → Bool} (l : zin 8 [0, 1, 2, 3, 4] (aL_law_709 L xs 600128 7301064 X) X 709) (h : lwH L X x4 u v u0 v0 j M A kn) : kL_law_668 L xs 600128 7301064 X u v [some (.ref 10), some (.ref 16), some (.ref 55), some (.ref 81), some (.int x4), none, none, none] [] M := by
  obtain ⟨hI, hJ, hj, hu, hv, ⟨hu0, hv0⟩, ⟨p1, p2, p3, p4, p5⟩, hX⟩ := h
  have hO := hJ.1
  obtain ⟨k1, k2, k3, k4⟩ := kn_le kn A
  refine vkL_law_668 hI.w ⟨1 + (cC kn - cC (knA kn A)), 6 + (cD kn - cD (knA kn A)), by omega, by omega, ?_⟩
  refine q_distanceToMate (by omega) (by omega) hI.1.1 hO hI.1.2 (by omega) (by omega) (fun N q f hN hC => ?_) (fun q n => ?_)
  · have h4 := (hI.clx f hN hC).ot (dmA A).2.toInt64
    refine vkL_law_673 h4.w ⟨uC kn - uC (knA kn A), vC kn - vC (knA kn A), by omega, by omega, ?_⟩
    refine r_distanceToMate h4.2.1 hO h4.2.2 (by omega) (by omega) (fun N2 s he h0 => ?_)
    have e0 : (dmA A).1 = 0 := by unfold dmA; rw [if_pos q]
    rw [e0] at h0
    exact tl_distanceToMate l (h4.x s he).w (by omega) (by omega) h0 (fun _ => o_x h4.w s) (hX _ _ N2 _ (knA kn A) (h4.x s he) (hJ.mono (by omega)) (by omega) (by omega))
  · have h4 := hI.ex n
    have qf : ¬ aTh A = true := by rw [q]; decide
    have ek : knA kn A = kn := by unfold knA; rw [if_neg qf]
    have ec : cC (knA kn A) = cC kn := by rw [ek]
    have ed : cD (knA kn A) = cD kn := by rw [ek]
    refine vkL_law_673 h4.w ⟨0, 0, by omega, by omega, ?_⟩
    refine r_distanceToMate h4.2.1 hO h4.2.2 (by rw [ek]; omega) (by rw [ek]; omega) (fun N2 s he h0 => ?_)
    rw [ek] at he
    have e0 : (dmA A).1 = 1 := by unfold dmA; rw [if_neg qf]
    rw [e0] at h0
    exact tl_distanceToMate l (h4.x s he).w (by omega) (by omega) h0 (fun q => absurd q (by decide)) (hX _ _ N2 _ kn (h4.x s he) (hJ.mono (by omega)) (by omega) (by omega))
theorem cs_matingMove {L : Nat} {xs : Nat → Int32} {X : Nat → zV} {x4 : Int32} {u v u0 v0 j : Nat} {M : zM} {A : Ah} {kn : Nat → Bool} (l : zin 8 [0, 1, 2, 3, 4] (aL_law_753 L xs 600128 7301064 X) X 753) (h : lwH L X x4 u v u0 v0 j M A kn) : kL_law_712 L xs 600128 7301064 X u v [some (.ref 10), some (.ref 16), some (.ref 55), some (.ref 81), some (.int x4), none, none, none] [] M := by
  obtain ⟨hI, hJ, hj, hu, hv, ⟨hu0, hv0⟩, ⟨p1, p2, p3, p4, p5⟩, hX⟩ := h
  have hO := hJ.1
  obtain ⟨k1, k2, k3, k4⟩ := kn_le kn A
  refine vkL_law_712 hI.w ⟨1 + (cC kn - cC (knA kn A)), 6 + (cD kn - cD (knA kn A)), by omega, by omega, ?_⟩
  refine q_matingMove (by omega) (by omega) hI.1.1 hO hI.1.2 (by omega) (by omega) (fun N q f hN hC => ?_) (fun q n => ?_)
  · have h4 := (hI.clx f hN hC).ot (mmA A).2.toInt64
    refine vkL_law_717 h4.w ⟨uC kn - uC (knA kn A), vC kn - vC (knA kn A), by omega, by omega, ?_⟩
    refine r_matingMove h4.2.1 hO h4.2.2 (by omega) (by omega) (fun N2 s he h0 => ?_)
    have e0 : (mmA A).1 = 0 := by unfold mmA; rw [if_pos q]
    rw [e0] at h0
    exact tl_matingMove l (h4.x s he).w (by omega) (by omega) h0 (fun _ => o_x h4.w s) (hX _ _ N2 _ (knA kn A) (h4.x s he) (hJ.mono (by omega)) (by omega) (by omega))
  · have h4 := hI.ex n
    have qf : ¬ aTh A = true := by rw [q]; decide
    have ek : knA kn A = kn := by unfold knA; rw [if_neg qf]
    have ec : cC (knA kn A) = cC kn := by rw [ek]
    have ed : cD (knA kn A) = cD kn := by rw [ek]
    refine vkL_law_717 h4.w ⟨0, 0, by omega, by omega, ?_⟩
    refine r_matingMove h4.2.1 hO h4.2.2 (by rw [ek]; omega) (by rw [ek]; omega) (fun N2 s he h0 => ?_)
    rw [ek] at he
    have e0 : (mmA A).1 = 1 := by unfold mmA; rw [if_neg qf]
    rw [e0] at h0
    exact tl_matingMove l (h4.x s he).w (by omega) (by omega) h0 (fun q => absurd q (by decide)) (hX _ _ N2 _ kn (h4.x s he) (hJ.mono (by omega)) (by omega) (by omega))
theorem cs_historyOf {L : Nat} {xs : Nat → Int32} {X : Nat → zV} {x4 : Int32} {u v u0 v0 j : Nat} {M : zM} {A : Ah} {kn : Nat → Bool} (l : zin 8 [0, 1, 2, 3, 4] (aL_law_821 L xs 600128 7301064 X) X 821) (h : lwH L X x4 u v u0 v0 j M A kn) : kL_law_756 L xs 600128 7301064 X u v [some (.ref 10), some (.ref 16), some (.ref 55), some (.ref 81), some (.int x4), none, none, none] [] M := by
  obtain ⟨hI, hJ, hj, hu, hv, ⟨hu0, hv0⟩, ⟨p1, p2, p3, p4, p5⟩, hX⟩ := h
  have hO := hJ.1
  obtain ⟨z, hz, ez⟩ := i32_ex (xs ((x4 + (1 : Int32)) : Int32).toNatClampNeg)
  obtain ⟨z2, hz2, ez2⟩ := i32_ex (xs ((x4 + (2 : Int32)) : Int32).toNatClampNeg)
  refine vkL_law_756 hI.w ⟨p1, p2, 1, 6, by omega, by omega, ?_⟩
  rw [ez, ez2]
  refine q_historyOf (Nat.le_refl _) (Nat.le_refl _) hI.1.1 hO hz hz2 (fun q => ?_) (fun q n => ?_)
  · have h4 := hI.ot (hsV (aG A) z.toNat z2.toNat).toInt64
    refine vkL_law_773 h4.w ⟨p1, p2, 0, 0, by omega, by omega, ?_⟩
    rw [ez, ez2]
    refine r_historyOf h4.2.1 hO hz hz2 (fun N2 s h0 => ?_)
    unfold hsA at h0 ⊢
    rw [if_pos q] at h0 ⊢
    exact tl_historyOf l (h4.k s).w (by omega) (by omega) h0 (fun _ => o_s s.cs) (hX _ _ N2 _ kn (h4.k s) (hJ.mono (by omega)) (by omega) (by omega))
  · have h4 := hI.ex n
    refine vkL_law_773 h4.w ⟨p1, p2, 0, 0, by omega, by omega, ?_⟩
    rw [ez, ez2]
    refine r_historyOf h4.2.1 hO hz hz2 (fun N2 s h0 => ?_)
    unfold hsA at h0 ⊢
    rw [if_neg q] at h0 ⊢
    exact tl_historyOf l (h4.k s).w (by omega) (by omega) h0 (fun q => absurd q (by decide)) (hX _ _ N2 _ kn (h4.k s) (hJ.mono (by omega)) (by omega) (by omega))
