/-! THE REFERENCE'S search -/
noncomputable def vlL (f : Nat → Int) : List Nat → Int → Int
  | [], b => b
  | m :: t, b => vlL f t (if f m ≤ b then b else f m)
noncomputable def val : Nat → Ps → Int
  | 0, P => stl P
  | d + 1, P => if (mvs P).length = 0 then stl P else vlL (fun m => bk (val d (mkM P m))) (mvs P) (-2000)
/-- the place of the best move, as level y sees it -/
noncomputable def csL (y : Nat) (f : Nat → Int) : List Nat → Nat → Int → Int → Int
  | [], _, _, c => c
  | m :: t, i, b, c => csL y f t (i + 1) (if f m ≤ b then b else f m) (if y = 0 ∧ ¬ f m ≤ b then (i : Int) else c)
theorem csL_pos {y : Nat} (hy : y ≠ 0) (f : Nat → Int) : ∀ L i b c, csL y f L i b c = c
  | [], _, _, _ => rfl
  | m :: t, i, b, c => by
    unfold csL
    rw [csL_pos hy f t]
    exact if_neg (fun q => hy q.1)
theorem csL_bd {y : Nat} {f : Nat → Int} : ∀ (L : List Nat) (i : Nat) (b c : Int), -1 ≤ c → c < 2 ^ 20 → i + L.length < 2 ^ 20 → -1 ≤ csL y f L i b c ∧ csL y f L i b c < 2 ^ 20
  | [], _, _, _, h1, h2, _ => ⟨h1, h2⟩
  | m :: t, i, b, c, h1, h2, h3 => by
    unfold csL
    rw [List.length_cons] at h3
    exact csL_bd t (i + 1) _ _ (by split <;> omega) (by split <;> omega) (by omega)
theorem vlL_bd {f : Nat → Int} (hf : ∀ m, -1000 ≤ f m ∧ f m ≤ 1000) : ∀ (L : List Nat) (b : Int), -2000 ≤ b → b ≤ 1000 → (-1000 ≤ b ∨ 0 < L.length) → -1000 ≤ vlL f L b ∧ vlL f L b ≤ 1000
  | [], b, h1, h2, h3 => by
    rcases h3 with q | q
    · exact ⟨q, h2⟩
    · exact absurd q (Nat.lt_irrefl _)
  | m :: t, b, h1, h2, h3 => by
    unfold vlL
    have := hf m
    exact vlL_bd hf t _ (by split <;> omega) (by split <;> omega) (by left; split <;> omega)
theorem val_bd : ∀ (d : Nat) (P : Ps), -1000 ≤ val d P ∧ val d P ≤ 1000
  | 0, P => stl_bd P
  | d + 1, P => by
    unfold val
    split
    · exact stl_bd P
    · exact vlL_bd (fun m => bk_bd (val_bd d _)) _ _ (by omega) (by omega) (Or.inr (by omega))
/-- the value of a level whose list is worked off up to k, with b as the best so far -/
noncomputable def rsV (r : Nat) (P : Ps) (k : Nat) (b : Int) : Int := match r with
  | 0 => stl P
  | r + 1 => if (mvs P).length = 0 then stl P else vlL (fun m => bk (val r (mkM P m))) ((mvs P).drop k) b
noncomputable def rsC (y r : Nat) (P : Ps) (k : Nat) (b c : Int) : Int := match r with
  | 0 => c
  | r + 1 => if (mvs P).length = 0 then c else csL y (fun m => bk (val r (mkM P m))) ((mvs P).drop k) k b c
theorem rsV_val (r : Nat) (P : Ps) : rsV r P 0 (-2000) = val r P := by
  cases r with
  | zero => rfl
  | succ r =>
    show (if (mvs P).length = 0 then stl P else vlL (fun m => bk (val r (mkM P m))) ((mvs P).drop 0) (-2000)) = _
    rw [List.drop_zero]
    rfl
theorem scr.lv {M N : zM} {y : Nat} (h : scr M N (69 * y + 69)) : lvF y M N := ⟨h.1.mono (by decide), fun i hi => h.2 i (by omega), fun i _ => by rw [h.1.i (by decide)], fun i _ => by rw [h.1.i (by decide)], fun i _ => by rw [h.1.i (by decide)], fun i _ => by rw [h.1.i (by decide)]⟩
set_option maxHeartbeats 16000000 in
theorem search_walk {mc ms : Nat} {X : Nat → zV} {Q : zQt} (l53 : zin 7 [0, 1, 2, 3, 4] (aX13_search_53 mc ms X Q) X 53) (l177 : zin 7 [0, 1, 2, 3, 4, 5] (aX13_search_177 mc ms X Q) X 177) (l220 : zin 7 [0, 1, 2, 3, 4, 6] (aX13_search_220 mc ms X Q) X 220) (l221 : zin 7 [0, 1, 3, 4, 6] (aX13_search_221 mc ms X Q) X 221) (l249 : zin 7 [0, 1, 2, 3, 4] (aX13_search_249 mc ms X Q) X 249) (l260 : zin 7 [0, 1, 2, 3, 4] (aX13_search_260 mc ms X Q) X 260) {d : Nat} (hd : d ≤ 4) {n : Nat} (hn : n < 2 ^ 18) : ∀ (r y : Nat) (P : Ps) (N : zM) (c b : Int) (w : Int32) (k : Nat), y + r = d → zFix N → Gd P → psC (n + y) P → rPs N (69 * y) P → (0 < r → lvS N y P ∧ N.1 68 y = nI k ∧ N.1 69 y = iI b ∧ k ≤ (mvs P).length ∧ -2000 ≤ b ∧ b ≤ 1000) → (∀ N', lvF y N N' → X 177 0 0 [.ref 55, .int (nI d), .int (iI (rsC y r P k b c)), .int (nI y), .int (iI (rsV r P k b)), .int 1] [] N') → X 53 0 0 [.ref 55, .int (nI d), .int (iI c), .int (nI y), .int w] [] N := by
  intro r
  induction r with
  | zero =>
    intro y P N c b w k hy hW hG hC hP hS cont
    have ey := nI_ltI (a := y) (b := 0) (by omega) (by decide)
    have e1 := nI_eq (a := y) (b := d) (by omega) (by omega)
    have hFit := Gd_fit hG hC (by omega)
    refine l53 _ _ _ _ _ ⟨rfl, vX13_search_53 hW ⟨fun q => absurd (ey.mp q) (by omega), fun _ => ⟨fun _ => c_still hW (by omega) hP hFit.1 hFit.2.1 (fun N1 h1 => vkX13_search_70 (h1.1.fix hW) (cont N1 h1.lv)), fun q => absurd (e1.mpr (by omega)) q⟩⟩⟩
  | succ r ihr =>
    intro y P N c b w k hy hW hG hC hP hS cont
    obtain ⟨hSv, h68, h69, hk, hb1, hb2⟩ := hS (by omega)
    have hL := Gd_len hG
    have ey := nI_ltI (a := y) (b := 0) (by omega) (by decide)
    have e1 := nI_eq (a := y) (b := d) (by omega) (by omega)
    have hFit := Gd_fit hG hC (by omega)
    by_cases hz : (mvs P).length = 0
    · refine l53 _ _ _ _ _ ⟨rfl, vX13_search_53 hW ⟨fun q => absurd (ey.mp q) (by omega), fun _ => ⟨fun q => absurd (e1.mp q) (by omega), fun _ => ?_⟩⟩⟩
      rw [nI_clamp (by omega), hSv.2.2, hz]
      refine ⟨vp_in_nI (by omega) (by omega), fun _ => c_still hW (by omega) hP hFit.1 hFit.2.1 (fun N1 h1 => vkX13_search_89 (h1.1.fix hW) ?_), fun q => absurd rfl q⟩
      have z := cont N1 h1.lv
      have a1 : rsC y (r + 1) P k b c = c := by
        show (if (mvs P).length = 0 then c else _) = c
        rw [if_pos hz]
      have a2 : rsV (r + 1) P k b = stl P := by
        show (if (mvs P).length = 0 then stl P else _) = stl P
        rw [if_pos hz]
      rw [a1, a2] at z
      exact z
    have a1 : rsC y (r + 1) P k b c = csL y (fun m => bk (val r (mkM P m))) ((mvs P).drop k) k b c := by
      show (if (mvs P).length = 0 then c else _) = _
      rw [if_neg hz]
    have a2 : rsV (r + 1) P k b = vlL (fun m => bk (val r (mkM P m))) ((mvs P).drop k) b := by
      show (if (mvs P).length = 0 then stl P else _) = _
      rw [if_neg hz]
    rw [a1, a2] at cont
    have e0 : ¬ nI (mvs P).length = 0 := fun q => hz ((nI_eq (a := (mvs P).length) (b := 0) (by omega) (by decide)).mp q)
    have inner : ∀ (t k : Nat) (b c : Int) (w : Int32) (N : zM), k + t = (mvs P).length → zFix N → lvS N y P → N.1 68 y = nI k → N.1 69 y = iI b → -2000 ≤ b → b ≤ 1000 → (∀ N', lvF y N N' → X 177 0 0 [.ref 55, .int (nI d), .int (iI (csL y (fun m => bk (val r (mkM P m))) ((mvs P).drop k) k b c)), .int (nI y), .int (iI (vlL (fun m => bk (val r (mkM P m))) ((mvs P).drop k) b)), .int 1] [] N') → X 53 0 0 [.ref 55, .int (nI d), .int (iI c), .int (nI y), .int w] [] N := by
      intro t
      induction t with
      | zero =>
        intro k b c w N hk hW hS h68 h69 hb1 hb2 cont
        refine l53 _ _ _ _ _ ⟨rfl, vX13_search_53 hW ⟨fun q => absurd (ey.mp q) (by omega), fun _ => ⟨fun q => absurd (e1.mp q) (by omega), fun _ => ?_⟩⟩⟩
        rw [nI_clamp (by omega), hS.2.2, h68, h69]
        refine ⟨vp_in_nI (by omega) (by omega), fun q => absurd q e0, fun _ => ⟨vp_in_nI (by omega) (by omega), vp_in_nI (by omega) (by omega), fun _ => ⟨vp_in_nI (by omega) (by omega), fun v hv => ?_⟩, fun q => absurd (congrArg nI (show k = (mvs P).length by omega)) q⟩⟩
        have z := cont N lvF.rf
        rw [List.drop_eq_nil_of_le (by omega)] at z
        rw [hv]
        exact z
      | succ t iht =>
        intro k b c w N hk hW hS h68 h69 hb1 hb2 cont
        have hkl : k < (mvs P).length := by omega
        have hgk : (mvs P)[k]? = some (mvs P)[k] := List.getElem?_eq_getElem hkl
        have hmem := List.getElem_mem hkl
        have hml := mvs_lt hmem
        have hdr := List.drop_eq_getElem_cons hkl
        obtain ⟨m, em⟩ : ∃ m, m = (mvs P)[k] := ⟨_, rfl⟩
        rw [← em] at hgk hmem hml hdr
        rw [hdr] at cont
        refine l53 _ _ _ _ _ ⟨rfl, vX13_search_53 hW ⟨fun q => absurd (ey.mp q) (by omega), fun _ => ⟨fun q => absurd (e1.mp q) (by omega), fun _ => ?_⟩⟩⟩
        rw [nI_clamp (by omega), hS.2.2, h68, h69, show (330 : Int32) * nI y = nI (330 * y) from pk_mul 330 _, show (69 : Int32) * nI y = nI (69 * y) from pk_mul 69 _, nI_add, nI_clamp (by omega), hS.2.1 k m hgk]
        have ek := nI_eq (a := k) (b := (mvs P).length) (by omega) (by omega)
        refine ⟨vp_in_nI (by omega) (by omega), fun q => absurd q e0, fun _ => ⟨vp_in_nI (by omega) (by omega), vp_in_nI (by omega) (by omega), fun q => absurd (ek.mp q) (by omega), fun _ => ⟨vp_in_nI (by omega) (by omega), vp_in_nI (by omega) (by omega), ?_⟩⟩⟩
        obtain ⟨ha, hb, hpr, hlg, epm⟩ := mvs_parts hmem
        have hmk := c_make (mc := 0) (ms := 0) hW (p := 69 * y) hS.1 (by omega) ha hb hpr (fun h => cas_home hS.1.2.1.2 hlg.1 h) hFit.1 hFit.2.1 (Q := fun r M1 => kX13_search_148 mc ms X Q 0 0 [some (.ref 55), some (.int (nI d)), some (.int (iI c)), some (.int (nI y)), some (.int w), some (.int 0), none] (r.toList ++ []) M1)
        rw [← epm] at hmk
        refine hmk (fun N1 f1 s1 hP1 => ?_)
        have hP1 : rPs N1 (69 * y + 69) (mkM P m) := hP1
        have hW1 := s1.1.fix hW
        have hG1 : Gd (mkM P m) := Gd_mk hG hC (by omega) (mvs_mvK hmem)
        have hC1 : psC (n + (y + 1)) (mkM P m) := psC_mk hS.1.2.1.2 hC _ _ _
        have hL1 := Gd_len hG1
        have hFit1 := Gd_fit hG1 hC1 (by omega)
        have hvb := val_bd r (mkM P m)
        have hbb := bk_bd hvb
        refine vkX13_search_148 hW1 ?_
        rw [show nI y + (1 : Int32) = nI (y + 1) from nI_1 y, nI_clamp (by omega)]
        refine ⟨vp_in_nI (by omega) (by omega), fun N2 e2 => ⟨vp_in_nI (by omega) (by omega), fun N3 e3 => ?_⟩⟩
        have s3 : zSm [68, 69] N1 N3 := by rw [e3, e2]; exact (zSm.I (by decide)).tr (zSm.I (by decide))
        have hW3 := s3.fix hW1
        have hP3 : rPs N3 (69 * (y + 1)) (mkM P m) := by
          rw [show 69 * (y + 1) = 69 * y + 69 by omega]
          exact rPs_same (fun i _ _ => by rw [s3.i (by decide)]) hP1
        have v68 : ∀ i, i ≤ y → N3.1 68 i = N.1 68 i := fun i hi => by rw [e3, zsI_o (by decide), e2, zsI_n (by omega), s1.1.i (by decide)]
        have v69 : ∀ i, i ≤ y → N3.1 69 i = N.1 69 i := fun i hi => by rw [e3, zsI_n (by omega), e2, zsI_o (by decide), s1.1.i (by decide)]
        have w68 : N3.1 68 (y + 1) = nI 0 := by rw [e3, zsI_o (by decide), e2, zsI_s]; rfl
        have w69 : N3.1 69 (y + 1) = iI (-2000) := by rw [e3, zsI_s]; rfl
        have F3 : lvF y N N3 := ⟨(s1.1.mono (by decide)).tr (s3.mono (by decide)), fun i hi => by rw [s3.i (by decide), s1.off (by omega)], fun i hi => by rw [s3.i (by decide), s1.1.i (by decide)], fun i hi => by rw [s3.i (by decide), s1.1.i (by decide)], fun i hi => v68 i (by omega), fun i hi => v69 i (by omega)⟩
        -- behind the child
        have after : ∀ N5, zFix N5 → lvF y N N5 → N5.1 68 y = nI k → N5.1 69 y = iI b → X 177 0 0 [.ref 55, .int (nI d), .int (iI c), .int (nI (y + 1)), .int (iI (val r (mkM P m))), .int 1] [] N5 := by
          intro N5 hW5 F5 u68 u69
          refine l177 _ _ _ _ _ ⟨rfl, vX13_search_177 hW5 ⟨fun q => absurd q (by decide), fun _ => ?_⟩⟩
          rw [pk_m1]
          refine ⟨fun q => absurd (ey.mp q) (by omega), fun _ => c_back hW5 hvb (vkX13_search_194 hW5 ?_)⟩
          have f53 : ∀ (b' c' : Int) (N6 : zM), b' = (if bk (val r (mkM P m)) ≤ b then b else bk (val r (mkM P m))) → c' = (if y = 0 ∧ ¬ bk (val r (mkM P m)) ≤ b then (k : Int) else c) → zSm [68, 69] N5 N6 → (∀ i, i ≠ y → N6.1 68 i = N5.1 68 i) → (∀ i, i ≠ y → N6.1 69 i = N5.1 69 i) → N6.1 68 y = nI (k + 1) → N6.1 69 y = iI b' → X 260 0 0 [.ref 55, .int (nI d), .int (iI c'), .int (nI y), .int (iI (val r (mkM P m)))] [] N6 := by
            intro b' c' N6 hb' hc' s6 o68 o69 p68 p69
            have hW6 := s6.fix hW5
            have F6 : lvF y N N6 := F5.tr ⟨s6.mono (by decide), fun i _ => by rw [s6.i (by decide)], fun i _ => by rw [s6.i (by decide)], fun i _ => by rw [s6.i (by decide)], fun i hi => o68 i (by omega), fun i hi => o69 i (by omega)⟩
            refine l260 _ _ _ _ _ ⟨rfl, vX13_search_260 hW6 (iht (k + 1) b' c' _ N6 (by omega) hW6 (F6.sh (by omega) hS) p68 p69 (by rw [hb']; split <;> omega) (by rw [hb']; split <;> omega) (fun N7 h7 => ?_))⟩
            have z := cont N7 (F6.tr h7)
            rw [hb', hc']
            exact z
          have f221 : ∀ (c' : Int), c' = (if y = 0 ∧ ¬ bk (val r (mkM P m)) ≤ b then (k : Int) else c) → X 221 0 0 [.ref 55, .int (nI d), .int (nI y), .int (iI (val r (mkM P m))), .int (iI (bk (val r (mkM P m))))] [.int (iI c')] N5 := by
            intro c' hc'
            refine l221 _ _ _ _ _ ⟨rfl, vX13_search_221 hW5 ?_⟩
            rw [nI_clamp (by omega), u69]
            have ele : iI (bk (val r (mkM P m))) ≤ iI b ↔ bk (val r (mkM P m)) ≤ b := iI_le (by omega) (by omega) (by omega) (by omega)
            have f249 : ∀ (b' : Int), b' = (if bk (val r (mkM P m)) ≤ b then b else bk (val r (mkM P m))) → X 249 0 0 [.ref 55, .int (nI d), .int (iI c'), .int (nI y), .int (iI (val r (mkM P m)))] [.int (iI b'), .int (nI y), .ref 69] N5 := by
              intro b' hb'
              refine l249 _ _ _ _ _ ⟨rfl, vX13_search_249 hW5 ?_⟩
              rw [nI_clamp (by omega)]
              refine ⟨vp_in_nI (by omega) (by omega), fun Na ea => ⟨vp_in_nI (by omega) (by omega), vp_in_nI (by omega) (by omega), fun Nb eb => ?_⟩⟩
              have e68 : Na.1 68 y = nI k := by rw [ea, zsI_o (by decide)]; exact u68
              rw [e68, show nI k + (1 : Int32) = nI (k + 1) from nI_1 k] at eb
              refine f53 b' c' Nb hb' hc' (by rw [eb, ea]; exact (zSm.I (by decide)).tr (zSm.I (by decide))) (fun i hi => by rw [eb, zsI_n hi, ea, zsI_o (by decide)]) (fun i hi => by rw [eb, zsI_o (by decide), ea, zsI_n hi]) (by rw [eb, zsI_s]) (by rw [eb, zsI_o (by decide), ea, zsI_s])
            refine ⟨vp_in_nI (by omega) (by omega), fun q => ⟨vp_in_nI (by omega) (by omega), f249 b (by rw [if_pos (ele.mp q)])⟩, fun q => f249 _ (by rw [if_neg (fun z => q (ele.mpr z))])⟩
          have f220 : (c = (if y = 0 ∧ ¬ bk (val r (mkM P m)) ≤ b then (k : Int) else c)) → X 220 0 0 [.ref 55, .int (nI d), .int (iI c), .int (nI y), .int (iI (val r (mkM P m))), .int (iI (bk (val r (mkM P m))))] [] N5 := fun h => l220 _ _ _ _ _ ⟨rfl, vX13_search_220 hW5 (f221 c h)⟩
          have ey0 := nI_eq (a := y) (b := 0) (by omega) (by decide)
          refine ⟨fun q => ?_, fun q => f220 (by rw [if_neg (fun z => q (ey0.mpr z.1))])⟩
          have y0 := ey0.mp q
          have t69 : N5.1 69 (0 : Int32).toNatClampNeg = iI b := by rw [y0] at u69; exact u69
          have t68 : N5.1 68 (0 : Int32).toNatClampNeg = iI (k : Int) := by rw [y0] at u68; exact u68
          have ele : iI (bk (val r (mkM P m))) ≤ iI b ↔ bk (val r (mkM P m)) ≤ b := iI_le (by omega) (by omega) (by omega) (by omega)
          rw [t69, t68]
          exact ⟨fun z => f220 (by rw [if_neg (fun u => u.2 (ele.mp z))]), fun z => f221 k (by rw [if_pos ⟨y0, fun u => z (ele.mpr u)⟩])⟩
        have go : ∀ N4, zFix N4 → lvF y N N4 → N4.1 68 y = nI k → N4.1 69 y = iI b → rPs N4 (69 * (y + 1)) (mkM P m) → (0 < r → lvS N4 (y + 1) (mkM P m) ∧ N4.1 68 (y + 1) = nI 0 ∧ N4.1 69 (y + 1) = iI (-2000) ∧ 0 ≤ (mvs (mkM P m)).length ∧ (-2000 : Int) ≤ -2000 ∧ (-2000 : Int) ≤ 1000) → X 177 0 0 [.ref 55, .int (nI d), .int (iI c), .int (nI (y + 1)), .int w, .int 0] [] N4 := by
          intro N4 hW4 F4 u68 u69 hP4 hS4
          refine l177 _ _ _ _ _ ⟨rfl, vX13_search_177 hW4 ⟨fun _ => l260 _ _ _ _ _ ⟨rfl, vX13_search_260 hW4 (ihr (y + 1) (mkM P m) N4 c (-2000) w 0 (by omega) hW4 hG1 hC1 hP4 hS4 (fun N5 h5 => ?_))⟩, fun q => absurd rfl q⟩⟩
          have cc : rsC (y + 1) r (mkM P m) 0 (-2000) c = c := by
            cases r with
            | zero => rfl
            | succ r =>
              show (if (mvs (mkM P m)).length = 0 then c else csL (y + 1) _ _ 0 _ c) = c
              rw [csL_pos (by omega)]
              split <;> rfl
          rw [cc, rsV_val]
          exact after N5 (h5.1.fix hW4) (F4.tr (h5.low (by omega))) (by rw [h5.2.2.2.2.1 y (by omega)]; exact u68) (by rw [h5.2.2.2.2.2 y (by omega)]; exact u69)
        have e4 := nI_leI (a := d) (b := y + 1) (by omega) (by omega)
        refine ⟨fun q => go N3 hW3 F3 (by rw [v68 y (Nat.le_refl _)]; exact h68) (by rw [v69 y (Nat.le_refl _)]; exact h69) hP3 (fun hr => by have := e4.mp q; omega), fun q => ?_⟩
        have hr : 0 < r := by
          have : ¬ d ≤ y + 1 := fun z => q (e4.mpr z)
          omega
        refine c_fill hW3 (y := y + 1) (by omega) hP3 hFit1.1 hFit1.2.1 (by omega) (fun N4 h4 => ?_)
        have hW4 := h4.1.fix hW3
        have F4 : lvF y N N4 := F3.tr ⟨h4.1.mono (by decide), fun i hi => h4.2.1 i (by omega), fun i hi => h4.2.2.2.1 i (by omega), fun i hi => by rw [h4.2.2.2.2, if_neg (by omega)], fun i hi => by rw [h4.1.i (by decide)], fun i hi => by rw [h4.1.i (by decide)]⟩
        have S4 : lvS N4 (y + 1) (mkM P m) := ⟨rPs_same (fun i hi1 hi2 => h4.2.1 i (by omega)) hP3, fun k v hk => h4.2.2.1 k v hk, by rw [h4.2.2.2.2, if_pos rfl]⟩
        exact vkX13_search_177 hW4 (go N4 hW4 F4 (by rw [h4.1.i (by decide), v68 y (Nat.le_refl _)]; exact h68) (by rw [h4.1.i (by decide), v69 y (Nat.le_refl _)]; exact h69) S4.1 (fun _ => ⟨S4, by rw [h4.1.i (by decide)]; exact w68, by rw [h4.1.i (by decide)]; exact w69, Nat.zero_le _, by omega, by omega⟩))
    exact inner ((mvs P).length - k) k b c w N (by omega) hW hSv h68 h69 hb1 hb2 cont
noncomputable def bstS (d : Nat) (P : Ps) : Int := if d = 0 ∨ (mvs P).length = 0 then -1 else csL 0 (fun m => bk (val (d - 1) (mkM P m))) (mvs P) 0 (-2000) (-1)
set_option maxHeartbeats 4000000 in
theorem r_search {mc ms : Nat} {M : zM} {A : Ah} (hR : rRef M A) (hO : aOk A) (ht : aTh A = true) {d : Nat} (hd : d ≤ 4) {Q : zQt} (hq : ∀ N, rKp M N → N.1 55 0 = M.1 55 0 → N.1 69 0 = iI (bstS d (lst (aG A))) → Q (some (.int (iI (val d (lst (aG A)))))) N) : wX13_search mc ms [.ref 55, .int (nI d)] M Q := by
  have hW := hR.1
  refine ⟨⟨Nat.le_of_ble_eq_true rfl, rfl⟩, fun X l0 l19 l53 l177 l220 l221 l249 l260 => ?_⟩
  have hok := hO.2.2.1 ht
  have h6 := hok.2.1
  have hFit := hok.fit
  refine l0 _ _ _ _ _ ⟨rfl, vX13_search_0 hW (r_show hR hO ht (fun K hK hS => ?_))⟩
  have kK : rKp M K := rKp.of hK (by decide)
  have hWK := kK.1.fix hW
  have f19 : (d = 0 ∨ (mvs (lst (aG A))).length = 0) → X 19 0 0 [.ref 55] [] K := by
    intro h
    refine l19 _ _ _ _ _ ⟨rfl, vX13_search_19 hWK (fun K2 e2 => ?_)⟩
    have s2 : zSm [69] K K2 := by rw [e2]; exact zSm.I (by decide)
    have hW2 := s2.fix hWK
    have hP2 : rPs K2 (69 * 0) (lst (aG A)) := rPs_same (fun i _ _ => by rw [s2.i (by decide)]) hS.1
    refine c_still hW2 (y := 0) (by omega) hP2 hFit.1 hFit.2.1 (fun K3 h3 => vkX13_search_31 (h3.1.fix hW2) ?_)
    have z := hq K3 ((kK.tr (rKp.of s2 (by decide))).tr (rKp.of h3.1 (by decide))) (by rw [h3.1.i (by decide), s2.i (by decide), hK.i (by decide)]) (by
      rw [h3.1.i (by decide), e2]
      unfold bstS
      rw [if_pos h]
      exact zsI_s)
    have : val d (lst (aG A)) = stl (lst (aG A)) := by
      cases d with
      | zero => rfl
      | succ d =>
        rcases h with q | q
        · omega
        · show (if (mvs (lst (aG A))).length = 0 then _ else _) = _
          rw [if_pos q]
    rw [this] at z
    exact z
  have e0 := nI_eq (a := d) (b := 0) (by omega) (by decide)
  refine vkX13_search_4 hWK ?_
  rw [show K.1 67 (0 : Int32).toNatClampNeg = nI (mvs (lst (aG A))).length from hS.2.2]
  have hL := Gd_len hok.last.1
  have el := nI_eq (a := (mvs (lst (aG A))).length) (b := 0) (by omega) (by decide)
  refine ⟨fun q => f19 (Or.inl (e0.mp q)), fun q => ⟨fun u => f19 (Or.inr (el.mp u)), fun u K2 e2 K3 e3 => ?_⟩⟩
  have hd0 : ¬ d = 0 := fun w => q (e0.mpr w)
  have hl0 : ¬ (mvs (lst (aG A))).length = 0 := fun w => u (el.mpr w)
  have s3 : zSm [68, 69] K K3 := by rw [e3, e2]; exact (zSm.I (by decide)).tr (zSm.I (by decide))
  have hW3 := s3.fix hWK
  have k3 : rKp M K3 := kK.tr (rKp.of s3 (by decide))
  have hP3 : rPs K3 (69 * 0) (lst (aG A)) := rPs_same (fun i _ _ => by rw [s3.i (by decide)]) hS.1
  have S3 : lvS K3 0 (lst (aG A)) := ⟨hP3, fun k v h => by rw [s3.i (by decide), Nat.mul_zero, Nat.zero_add]; exact hS.2.1 k v h, by rw [s3.i (by decide)]; exact hS.2.2⟩
  refine search_walk l53 l177 l220 l221 l249 l260 hd (n := (aG A).1 - 1) (by omega) d 0 (lst (aG A)) K3 (-1) (-2000) 0 0 (by omega) hW3 hok.last.1 hok.last.2 hP3 (fun _ => ⟨S3, by rw [e3, zsI_o (by decide), e2]; exact zsI_s, by rw [e3]; exact zsI_s, Nat.zero_le _, by omega, by omega⟩) (fun K4 h4 => ?_)
  have hW4 := h4.1.fix hW3
  have hb : bstS d (lst (aG A)) = rsC 0 d (lst (aG A)) 0 (-2000) (-1) := by
    unfold bstS
    rw [if_neg (by omega)]
    obtain ⟨d1, e1⟩ : ∃ d1, d = d1 + 1 := ⟨d - 1, by omega⟩
    rw [e1]
    show _ = (if (mvs (lst (aG A))).length = 0 then _ else _)
    rw [if_neg hl0, List.drop_zero]
    rfl
  refine l177 _ _ _ _ _ ⟨rfl, vX13_search_177 hW4 ⟨fun w => absurd w (by decide), fun _ => ⟨fun _ => l260 _ _ _ _ _ ⟨rfl, vX13_search_260 hW4 (l53 _ _ _ _ _ ⟨rfl, vX13_search_53 hW4 ⟨fun _ K5 e5 => ?_, fun w => absurd (by decide) w⟩⟩)⟩, fun w => absurd (by decide) w⟩⟩⟩
  rw [rsV_val]
  have s5 : zSm [69] K4 K5 := by rw [e5]; exact zSm.I (by decide)
  refine hq K5 ((k3.tr h4.kp).tr (rKp.of s5 (by decide))) (by rw [s5.i (by decide), h4.1.i (by decide), s3.i (by decide), hK.i (by decide)]) ?_
  rw [hb, e5]
  exact zsI_s
noncomputable def vaA (A : Ah) (z : Int) : Nat × Int := if wdA A z = 0 then (0, val z.toNat (lst (aG A))) else (wdA A z, 0)
noncomputable def baA (A : Ah) (z : Int) : Nat × Int := if wdA A z = 0 then (0, bstS z.toNat (lst (aG A))) else (wdA A z, 0)
theorem wdA_0 {A : Ah} {z : Int} (h : wdA A z = 0) : aTh A = true ∧ 0 ≤ z ∧ z ≤ 4 := by
  unfold wdA at h
  split at h
  · omega
  · rename_i ht
    split at h
    · omega
    · rename_i hz
      have : dpM (lst (aG A)) ≤ 4 := by
        have := dpS_le (lst (aG A))
        unfold dpM
        split <;> omega
      exact ⟨by simpa using ht, by omega, by omega⟩
theorem wdA_lt (A : Ah) (z : Int) : wdA A z < 3 := by
  unfold wdA
  split
  · omega
  · split <;> omega
theorem r_valueAt {mc ms : Nat} {M : zM} {A : Ah} (hR : rRef M A) (hO : aOk A) {z : Int} (hz : i32 z) {Q : zQt} (hq : ∀ N, rKp M N → N.1 55 0 = nI (vaA A z).1 → Q (some (.int (iI (vaA A z).2))) N) : wX13_valueAt mc ms [.ref 55, .int (iI z)] M Q := by
  have hW := hR.1
  refine ⟨⟨Nat.le_of_ble_eq_true rfl, rfl⟩, fun X l0 l25 => ?_⟩
  refine l0 _ _ _ _ _ ⟨rfl, vX13_valueAt_0 hW (c_wrongDepth hR hO hz (vkX13_valueAt_6 hW (fun N e => ?_)))⟩
  have n0 : N.1 55 0 = nI (wdA A z) := by rw [e, zsI_s]
  have k : rKp M N := by rw [e]; exact rKp.slot (by omega)
  have hw3 := wdA_lt A z
  rw [n0]
  have e0 := nI_leI (a := wdA A z) (b := 0) (by omega) (by decide)
  refine ⟨fun d => ?_, fun d => l25 _ _ _ _ _ ⟨rfl, vX13_valueAt_25 (k.1.fix hW) ?_⟩⟩
  · have h0 : wdA A z = 0 := by have := e0.mp d; omega
    obtain ⟨ht, z0, z4⟩ := wdA_0 h0
    have hv : vaA A z = (0, val z.toNat (lst (aG A))) := by unfold vaA; rw [if_pos h0]
    rw [hv] at hq
    rw [iz_nat z0]
    refine r_search (k.ref hR) hO ht (by omega) (fun N2 k2 e2 _ => vkX13_valueAt_25 ((k.tr k2).1.fix hW) (l25 _ _ _ _ _ ⟨rfl, vX13_valueAt_25 ((k.tr k2).1.fix hW) (hq N2 (k.tr k2) ?_)⟩))
    rw [e2, n0, h0]
  · have h0 : ¬ wdA A z = 0 := fun q => d (e0.mpr (by omega))
    have hv : vaA A z = (wdA A z, 0) := by unfold vaA; rw [if_neg h0]
    rw [hv] at hq
    exact hq N k n0
theorem r_bestAt {mc ms : Nat} {M : zM} {A : Ah} (hR : rRef M A) (hO : aOk A) {z : Int} (hz : i32 z) {Q : zQt} (hq : ∀ N, rKp M N → N.1 55 0 = nI (baA A z).1 → Q (some (.int (iI (baA A z).2))) N) : wX13_bestAt mc ms [.ref 55, .int (iI z)] M Q := by
  have hW := hR.1
  refine ⟨⟨Nat.le_of_ble_eq_true rfl, rfl⟩, fun X l0 => ?_⟩
  refine l0 _ _ _ _ _ ⟨rfl, vX13_bestAt_0 hW (c_wrongDepth hR hO hz (vkX13_bestAt_6 hW (fun N e => ?_)))⟩
  have n0 : N.1 55 0 = nI (wdA A z) := by rw [e, zsI_s]
  have k : rKp M N := by rw [e]; exact rKp.slot (by omega)
  have hw3 := wdA_lt A z
  rw [n0]
  have e0 := nI_leI (a := wdA A z) (b := 0) (by omega) (by decide)
  refine ⟨fun d => ?_, fun d => ?_⟩
  · have h0 : wdA A z = 0 := by have := e0.mp d; omega
    obtain ⟨ht, z0, z4⟩ := wdA_0 h0
    have hv : baA A z = (0, bstS z.toNat (lst (aG A))) := by unfold baA; rw [if_pos h0]
    rw [hv] at hq
    rw [iz_nat z0]
    refine r_search (k.ref hR) hO ht (by omega) (fun N2 k2 e2 e3 => vkX13_bestAt_23 ((k.tr k2).1.fix hW) ?_)
    rw [show N2.1 69 (0 : Int32).toNatClampNeg = iI (bstS z.toNat (lst (aG A))) from e3]
    refine hq N2 (k.tr k2) ?_
    rw [e2, n0, h0]
  · have h0 : ¬ wdA A z = 0 := fun q => d (e0.mpr (by omega))
    have hv : baA A z = (wdA A z, 0) := by unfold baA; rw [if_neg h0]
    rw [hv] at hq
    exact hq N k n0
