/-! THE CLASS'S unmake -/
theorem and24 {n : Nat} (h : n < 2 ^ 31) : nI n &&& (16777216 : Int32) = 0 ↔ n / 2 ^ 24 % 2 = 0 := by
  have e : (nI n &&& (16777216 : Int32)).toBitVec.toNat = n &&& 2 ^ 24 := by
    rw [Int32.toBitVec_and, BitVec.toNat_and, pk_tn (by omega)]
    rfl
  have e2 : n &&& 2 ^ 24 = 2 ^ 24 * (n / 2 ^ 24 % 2) := by
    rw [and_cut n (2 ^ 24) 24, show (2 : Nat) ^ 24 / 2 ^ 24 = 1 from by decide, show (2 : Nat) ^ 24 % 2 ^ 24 = 0 from by decide, Nat.and_zero, Nat.and_one_is_mod, Nat.add_zero]
  constructor
  · intro q
    rw [q, e2] at e
    have : (0 : Nat) = 2 ^ 24 * (n / 2 ^ 24 % 2) := e
    omega
  · intro q
    apply Int32.toBitVec_inj.mp
    apply BitVec.eq_of_toNat_eq
    rw [e, e2, q]
    rfl
set_option maxHeartbeats 16000000 in
theorem c_unmake {mc ms : Nat} {M : zM} {g : Nat} (hW : zWd M g) {P : Ps} {a b pr : Nat} (hP : bPs M g (mkP P a b pr)) (hG : Gd P) {n : Nat} (hC : psC n P) (hn : n < 2000) (h : mvK P a b pr) {k : Nat} (hk : M.1 (g + 1) 11 = nI (k + 1)) (hk6 : k < 608) (hsv : M.1 (g + 5) k = nI (svW P a b)) {Q : zQt} (hq : ∀ N, zSm [g + 1, g + 2, g + 3, g + 4] M N → bPs N g P → N.1 (g + 1) 11 = nI k → Q none N) : wX0_unmake mc ms [.ref (g + 1), .int (nI (a + 64 * b + 4096 * pr))] M Q := by
  refine ⟨⟨Nat.le_of_ble_eq_true rfl, rfl⟩, fun X l0 l131 l183 l195 l217 l222 => ?_⟩
  obtain ⟨hB, h4, h5, h6, h7, h8, h9⟩ := hP
  have hO := hG.1
  have hc := hO.2.1
  have ha := h.1
  have hb := h.2.1
  have hA := hO.1 a ha
  have hBb := hO.1 b hb
  have own := (own_man hA hc).mp h.2.2.1.1.1
  have hne := mv_ne h
  have hpr : pr ≤ 5 := by
    by_cases q : pr = 0
    · omega
    · have := pr_pawn hO h q; omega
  have e1 : nI (a + 64 * b + 4096 * pr) &&& (63 : Int32) = nI a := by
    rw [pk_andN (by omega) 6 (by decide)]
    congr 1
    omega
  have e2 : (nI (a + 64 * b + 4096 * pr) >>> ((6 : Int32) &&& 31)) &&& (63 : Int32) = nI b := by
    rw [pk_shrN (by omega) _ 6 (by decide), pk_andN (by omega) 6 (by decide)]
    congr 1
    omega
  have e3 : nI (a + 64 * b + 4096 * pr) >>> ((12 : Int32) &&& 31) = nI pr := by
    rw [pk_shrN (by omega) _ 12 (by decide)]
    congr 1
    omega
  obtain ⟨tk, etk⟩ : ∃ tk, tk = svT P a b := ⟨_, rfl⟩
  have tk12 : tk ≤ 12 := by
    rw [etk]
    unfold svT
    split
    · rename_i q
      rw [(psg_sq hO q).2.2.2.1]
      omega
    · exact hBb
  have r16 := hO.2.2.1
  have p8 := hO.2.2.2.1
  have cl := hC.1
  have svf : svF P.2.2.2.1 ≤ 8 := by unfold svF; split <;> omega
  have base : svW P a b = tk + 16 * P.2.2.1 + 256 * svF P.2.2.2.1 + 4096 * P.2.2.2.2.1 + 16777216 * (if psg P a b = true then 1 else 0) := by rw [etk]; rfl
  obtain ⟨sv, esv⟩ : ∃ sv, sv = svW P a b := ⟨_, rfl⟩
  have pq : (if psg P a b = true then 1 else 0) ≤ 1 := by split <;> omega
  have sv31 : sv < 2 ^ 31 := by rw [esv, base]; omega
  have w1 : nI sv &&& (15 : Int32) = nI tk := by
    rw [pk_andN (by omega) 4 (by decide), esv, base]
    congr 1
    omega
  have w2 : (nI sv >>> ((4 : Int32) &&& 31)) &&& (15 : Int32) = nI P.2.2.1 := by
    rw [pk_shrN sv31 _ 4 (by decide), pk_andN (by omega) 4 (by decide), esv, base]
    congr 1
    omega
  have w3 : ((nI sv >>> ((8 : Int32) &&& 31)) &&& (15 : Int32)) - (1 : Int32) = pI P.2.2.2.1 := by
    rw [pk_shrN sv31 _ 8 (by decide), pk_andN (by omega) 4 (by decide)]
    have : sv / 2 ^ 8 % 2 ^ 4 = svF P.2.2.2.1 := by rw [esv, base]; omega
    rw [this]
    unfold svF pI
    split
    · exact pk_sub (a := P.2.2.2.1 + 1) (b := 1) (by omega)
    · decide
  have w4 : (nI sv >>> ((12 : Int32) &&& 31)) &&& (4095 : Int32) = nI P.2.2.2.2.1 := by
    rw [pk_shrN sv31 _ 12 (by decide), pk_andN (by omega) 12 (by decide), esv, base]
    congr 1
    omega
  have w5 : nI sv &&& (16777216 : Int32) = 0 ↔ psg P a b = false := by
    rw [and24 sv31, esv, base]
    by_cases q : psg P a b = true
    · rw [if_pos q, q]
      constructor
      · intro z; omega
      · intro z; exact absurd z (by decide)
    · rw [if_neg q]
      constructor
      · intro _; simpa using q
      · intro _; omega
  obtain ⟨vv, evv⟩ : ∃ vv, vv = (if pr = 0 then P.1 a else pr + 6 * P.2.1) := ⟨_, rfl⟩
  have hmb : mkB P a b pr b = vv := by rw [evv]; exact mk_b h
  have vv1 : 1 ≤ vv ∧ vv ≤ 12 := by
    rw [evv]
    split <;> omega
  -- the end
  have good : ∀ N, zSm [g + 1, g + 2, g + 3, g + 4] M N → bSB N g P.1 → N.1 (g + 1) 4 = nI P.2.1 → N.1 (g + 1) 5 = nI P.2.2.1 → N.1 (g + 1) 6 = pI P.2.2.2.1 → N.1 (g + 1) 7 = nI P.2.2.2.2.1 → N.1 (g + 1) 8 = nI P.2.2.2.2.2 → N.1 (g + 1) 11 = nI k → X 222 0 0 [] [] N := by
    intro N sm sb u4 u5 u6 u7 u8 u11
    exact l222 _ _ _ _ _ ⟨rfl, vX0_unmake_222 (sm.wd hW) (hq N sm ⟨sb.1, u4, u5, u6, u7, u8, sb.2⟩ u11)⟩
  have slots : ∀ N : zM, (∀ j, j ≠ 9 → N.1 (g + 1) j = (if j = 4 then nI P.2.1 else if j = 5 then nI P.2.2.1 else if j = 6 then pI P.2.2.2.1 else if j = 7 then nI P.2.2.2.2.1 else if j = 8 then nI P.2.2.2.2.2 else if j = 11 then nI k else N.1 (g + 1) j)) → N.1 (g + 1) 4 = nI P.2.1 ∧ N.1 (g + 1) 5 = nI P.2.2.1 ∧ N.1 (g + 1) 6 = pI P.2.2.2.1 ∧ N.1 (g + 1) 7 = nI P.2.2.2.2.1 ∧ N.1 (g + 1) 8 = nI P.2.2.2.2.2 ∧ N.1 (g + 1) 11 = nI k := fun N u => ⟨u 4 (by decide), u 5 (by decide), u 6 (by decide), u 7 (by decide), u 8 (by decide), u 11 (by decide)⟩
  -- what the slots hold, kept through lifts and puts
  obtain ⟨OK, eOK⟩ : ∃ OK : zM → Prop, OK = fun N => N.1 (g + 1) 4 = nI P.2.1 ∧ N.1 (g + 1) 5 = nI P.2.2.1 ∧ N.1 (g + 1) 6 = pI P.2.2.2.1 ∧ N.1 (g + 1) 7 = nI P.2.2.2.2.1 ∧ N.1 (g + 1) 8 = nI P.2.2.2.2.2 ∧ N.1 (g + 1) 11 = nI k := ⟨_, rfl⟩
  have okF : ∀ N K, OK N → bFr N K g → OK K := by
    intro N K hN f
    rw [eOK] at hN ⊢
    obtain ⟨a1, a2, a3, a4, a5, a6⟩ := hN
    exact ⟨by rw [f.2 4 (by decide)]; exact a1, by rw [f.2 5 (by decide)]; exact a2, by rw [f.2 6 (by decide)]; exact a3, by rw [f.2 7 (by decide)]; exact a4, by rw [f.2 8 (by decide)]; exact a5, by rw [f.2 11 (by decide)]; exact a6⟩
  have ok4 : ∀ N, OK N → N.1 (g + 1) 4 = nI P.2.1 := by
    intro N hN
    rw [eOK] at hN
    exact hN.1
  have fin : ∀ N, zSm [g + 1, g + 2, g + 3, g + 4] M N → bSB N g P.1 → OK N → X 222 0 0 [] [] N := by
    intro N sm sb hN
    rw [eOK] at hN
    obtain ⟨a1, a2, a3, a4, a5, a6⟩ := hN
    exact good N sm sb a1 a2 a3 a4 a5 a6
  -- the man taken comes back
  have f195 : ∀ (N : zM) (B1 : Nat → Nat) (wh : Nat), wh = (if psg P a b = true then whr P a b else b) → wh < 64 → (tk = 0 → B1 = P.1) → (¬ tk = 0 → B1 wh = 0 ∧ ub B1 wh tk = P.1) → zSm [g + 1, g + 2, g + 3, g + 4] M N → bSB N g B1 → OK N → X 195 0 0 [.ref (g + 1), .int (nI b), .int (nI sv), .int (nI tk)] [] N := by
    intro N B1 wh ewh wh64 h0 h1 sm sb hN
    have hWN := sm.wd hW
    have et := nI_eq (a := tk) (b := 0) (by omega) (by decide)
    refine l195 _ _ _ _ _ ⟨rfl, vX0_unmake_195 hWN ⟨fun q => fin N sm (by rw [← h0 (et.mp q)]; exact sb) hN, fun q => ?_⟩⟩
    have tn : ¬ tk = 0 := fun w => q (et.mpr w)
    obtain ⟨g1, g2⟩ := h1 tn
    have f217 : X 217 0 0 [.int (nI tk)] [.int (nI wh), .ref (g + 1)] N := by
      refine l217 _ _ _ _ _ ⟨rfl, vX0_unmake_217 hWN (c_put' hWN sb wh64 g1 (by omega) tk12 (fun K fK sK => ?_))⟩
      have smK : zSm [g + 1, g + 2, g + 3, g + 4] M K := sm.tr fK.1
      exact vkX0_unmake_222 (smK.wd hW) (fin K smK (by rw [← g2]; exact sK) (okF N K hN fK))
    refine ⟨fun w => ?_, fun w => ?_⟩
    · have kp := w5.mp w
      rw [ewh, if_neg (by rw [kp]; decide)] at f217
      exact f217
    · have kp : psg P a b = true := by
        rcases z : psg P a b with _ | _
        · exact absurd (w5.mpr z) w
        · rfl
      rw [ewh, if_pos kp] at f217
      rw [psg_xor hO hb kp]
      exact f217
  have f131 : ∀ N, zSm [g + 1, g + 2, g + 3, g + 4] M N → bSB N g (mkB P a b pr) → OK N → X 131 0 0 [.ref (g + 1), .int (nI a), .int (nI b), .int (nI sv), .int (nI tk)] [.int (nI (P.1 a))] N := by
    intro N sm sb hN
    have hWN := sm.wd hW
    refine l131 _ _ _ _ _ ⟨rfl, vX0_unmake_131 hWN (c_lift' hWN sb hb (by rw [hmb]; omega) (fun K fK sK => ?_))⟩
    have smK : zSm [g + 1, g + 2, g + 3, g + 4] M K := sm.tr fK.1
    have hWK := smK.wd hW
    have hKa : ub (mkB P a b pr) b 0 a = 0 := by rw [ub_n hne]; exact mk_a h hne
    refine vkX0_unmake_138 hWK (c_put' hWK sK ha hKa (by omega) hA (fun L fL sL => ?_))
    have smL : zSm [g + 1, g + 2, g + 3, g + 4] M L := smK.tr fL.1
    have hWL := smL.wd hW
    have okL := okF K L (okF N K hN fK) fL
    obtain ⟨B2, eB2⟩ : ∃ B2, B2 = ub (ub (mkB P a b pr) b 0) a (P.1 a) := ⟨_, rfl⟩
    rw [← eB2] at sL
    have hB2a : B2 a = P.1 a := by rw [eB2, ub_s]
    have ecs : csI (B2, P.2) a b = csI P a b := by
      unfold csI
      simp only [hB2a]
    refine vkX0_unmake_145 hWL (c_castleStep (P := (B2, P.2)) hWL hc sL.1 (ok4 L okL) ha hb (vkX0_unmake_151 hWL ?_))
    rw [ecs]
    by_cases kc : cas P a b = true
    · have kp := cas_no_psg kc
      obtain ⟨cA, cS, c2⟩ := (cs_iff hO h).1 kc
      obtain ⟨-, eh, qq, -, -⟩ := cas_cst h.2.2.1.1 kc
      have hb0 : P.1 b = 0 := by
        rcases qq with ⟨q1, q2, q3, q4⟩ | ⟨q1, q2, q3, q4⟩
        · exact q4 b (by omega) (by omega)
        · exact q4 b (by omega) (by omega)
      have t0 : tk = 0 := by
        rw [etk]
        unfold svT
        rw [if_neg (by rw [kp]; decide)]
        exact hb0
      obtain ⟨r, er⟩ : ∃ r, r = (if a < b then a + 3 else a - 4) := ⟨_, rfl⟩
      have hr : r < 64 ∧ r ≠ a ∧ r ≠ b ∧ r ≠ (a + b) / 2 ∧ P.1 r = 4 + 6 * P.2.1 ∧ P.1 ((a + b) / 2) = 0 ∧ (a + b) / 2 < 64 ∧ (a + b) / 2 ≠ a ∧ (a + b) / 2 ≠ b := by
        rw [er]
        rcases qq with ⟨q1, q2, q3, q4⟩ | ⟨q1, q2, q3, q4⟩
        · rw [if_pos (by omega)]
          exact ⟨by omega, by omega, by omega, by omega, q3, q4 _ (by omega) (by omega), by omega, by omega, by omega⟩
        · rw [if_neg (by omega)]
          exact ⟨by omega, by omega, by omega, by omega, q3, q4 _ (by omega) (by omega), by omega, by omega, by omega⟩
      obtain ⟨r64, ra, rb, rm, r4, m0, m64, ma, mb⟩ := hr
      have emk := mkB_cas (pr := pr) kc kp
      rw [← er, ← evv] at emk
      have hmid : B2 ((a + b) / 2) = 4 + 6 * P.2.1 := by rw [eB2, ub_n ma, ub_n mb, emk, ub_s]
      have hcor : B2 r = 0 := by rw [eB2, ub_n ra, ub_n rb, emk, ub_n rm, ub_s]
      have emid : nI b - iI (csI P a b) / (2 : Int32) = nI ((a + b) / 2) := by
        rw [cS]
        rcases c2 with q | q
        · rw [q, show iI 2 / (2 : Int32) = nI 1 from by decide, show nI b - nI 1 = nI (b - 1) from pk_sub (by omega), show b - 1 = (a + b) / 2 by omega]
        · rw [q, show iI (-2) / (2 : Int32) = iI (-1) from by decide, iI_nat b, iI_sub, iI_nat]
          congr 1
          omega
      have ez : ¬ iI (csI P a b) = 0 := fun q => by
        rw [cS] at q
        have := (iI_eq (a := (b : Int) - a) (b := 0) (by omega) (by omega) (by omega) (by omega)).mp q
        omega
      refine ⟨fun q => absurd q ez, fun _ => ?_⟩
      rw [emid]
      refine c_lift' hWL sL m64 (by rw [hmid]; omega) (fun L2 fL2 sL2 => ?_)
      have smL2 : zSm [g + 1, g + 2, g + 3, g + 4] M L2 := smL.tr fL2.1
      have hWL2 := smL2.wd hW
      have okL2 := okF L L2 okL fL2
      have f183 : X 183 0 0 [.ref (g + 1), .int (nI b), .int (nI sv), .int (nI tk)] [.int (nI r), .ref (g + 1)] L2 := by
        refine l183 _ _ _ _ _ ⟨rfl, vX0_unmake_183 hWL2 ?_⟩
        rw [ok4 L2 okL2, show (6 : Int32) * nI P.2.1 = nI (6 * P.2.1) from pk_mul 6 _, show (4 : Int32) + nI (6 * P.2.1) = nI (4 + 6 * P.2.1) from nI_add 4 _]
        refine c_put' hWL2 sL2 r64 (by rw [ub_n rm]; exact hcor) (by omega) (by omega) (fun L3 fL3 sL3 => ?_)
        have smL3 : zSm [g + 1, g + 2, g + 3, g + 4] M L3 := smL2.tr fL3.1
        refine vkX0_unmake_195 (smL3.wd hW) (f195 L3 _ b (by rw [if_neg (by rw [kp]; decide)]) hb (fun _ => ?_) (fun q => absurd t0 q) smL3 sL3 (okF L2 L3 okL2 fL3))
        funext s
        by_cases x1 : s = r
        · rw [x1, ub_s, r4]
        · rw [ub_n x1]
          by_cases x2 : s = (a + b) / 2
          · rw [x2, ub_s, m0]
          · rw [ub_n x2, eB2]
            by_cases x3 : s = a
            · rw [x3, ub_s]
            · rw [ub_n x3]
              by_cases x4 : s = b
              · rw [x4, ub_s, hb0]
              · rw [ub_n x4, emk, ub_n x2, ub_n x1, ub_n x4, ub_n x3]
      have ep : iI (csI P a b) ≤ (0 : Int32) ↔ (b : Int) - a ≤ 0 := by
        rw [cS]
        exact iI_le (b := 0) (by omega) (by omega) (by omega) (by omega)
      refine vkX0_unmake_168 hWL2 ⟨fun q => ?_, fun q => ?_⟩
      · have := ep.mp q
        rw [show nI b - (2 : Int32) = nI (b - 2) from pk_sub (a := b) (b := 2) (by omega), show b - 2 = r by rw [er, if_neg (by omega)]; omega]
        exact f183
      · have : ¬ (b : Int) - a ≤ 0 := fun w => q (ep.mpr w)
        rw [show nI b + (1 : Int32) = nI (b + 1) from nI_1 b, show b + 1 = r by rw [er, if_pos (by omega)]; omega]
        exact f183
    · have kc : cas P a b = false := by simpa using kc
      rw [(cs_iff hO h).2 kc]
      refine ⟨fun _ => ?_, fun q => absurd rfl q⟩
      by_cases kp : psg P a b = true
      · have hz := psg_sq hO kp
        have tv : tk = P.1 (whr P a b) := by rw [etk]; unfold svT; rw [if_pos kp]
        have emk := mkB_psg (pr := pr) kc kp
        rw [← evv] at emk
        have emk : mkB P a b pr = ub (ub (ub P.1 a 0) b vv) (whr P a b) 0 := emk
        refine f195 L B2 (whr P a b) (by rw [if_pos kp]) hz.2.2.2.2.1 (fun q => ?_) (fun _ => ⟨?_, ?_⟩) smL sL okL
        · rw [tv, hz.2.2.2.1] at q
          omega
        · rw [eB2, ub_n hz.2.2.2.2.2.2, ub_n hz.2.2.2.2.2.1, emk, ub_s]
        · funext s
          by_cases x1 : s = whr P a b
          · rw [x1, ub_s, tv]
          · rw [ub_n x1, eB2]
            by_cases x3 : s = a
            · rw [x3, ub_s]
            · rw [ub_n x3]
              by_cases x4 : s = b
              · rw [x4, ub_s, hz.2.2.1]
              · rw [ub_n x4, emk, ub_n x1, ub_n x4, ub_n x3]
      · have kp' : psg P a b = false := by simpa using kp
        have tv : tk = P.1 b := by rw [etk]; unfold svT; rw [if_neg kp]
        have emk := mkB_ord (pr := pr) kc kp'
        rw [← evv] at emk
        have eq : ∀ s, s ≠ b → B2 s = P.1 s := by
          intro s x4
          rw [eB2]
          by_cases x3 : s = a
          · rw [x3, ub_s]
          · rw [ub_n x3, ub_n x4, emk, ub_n x4, ub_n x3]
        have eqb : B2 b = 0 := by rw [eB2, ub_n (fun z => hne z.symm), ub_s]
        refine f195 L B2 b (by rw [if_neg kp]) hb (fun q => ?_) (fun _ => ⟨eqb, ?_⟩) smL sL okL
        · funext s
          by_cases x4 : s = b
          · rw [x4, eqb, ← tv, q]
          · exact eq s x4
        · funext s
          by_cases x4 : s = b
          · rw [x4, ub_s, tv]
          · rw [ub_n x4]; exact eq s x4
  refine l0 _ _ _ _ _ ⟨rfl, vX0_unmake_0 hW (fun y ey N1 d1 => ?_)⟩
  rw [e2] at ey
  subst ey
  rw [hk, show nI (k + 1) - (1 : Int32) = nI k from pk_sub (a := k + 1) (b := 1) (by omega)] at d1
  have t11 : N1.1 (g + 1) 11 = nI k := by rw [d1, zsI_s]
  rw [t11, nI_clamp (by omega)]
  refine ⟨vp_in_nI (by omega) (by omega), fun y2 ey2 N2 d2 N3 d3 N4 d4 N5 d5 N6 d6 => ?_⟩
  have ey2 : y2 = nI sv := by rw [ey2, d1, zsI_o (by omega), hsv, esv]
  subst ey2
  have t4 : N1.1 (g + 1) 4 = nI (1 - P.2.1) := by rw [d1, zsI_n (by decide)]; exact h4
  rw [t4, show (1 : Int32) - nI (1 - P.2.1) = nI (1 - (1 - P.2.1)) from pk_sub (a := 1) (b := 1 - P.2.1) (by omega), show 1 - (1 - P.2.1) = P.2.1 by omega] at d2
  have t8 : N2.1 (g + 1) 8 = nI (P.2.2.2.2.2 + P.2.1) := by rw [d2, zsI_n (by decide), d1, zsI_n (by decide)]; exact h8
  have t4' : N2.1 (g + 1) 4 = nI P.2.1 := by rw [d2, zsI_s]
  rw [t8, t4', pk_sub (by omega), Nat.add_sub_cancel] at d3
  rw [w2] at d4
  rw [w3] at d5
  rw [w4] at d6
  have s6 : zSm [g + 1] M N6 := by
    rw [d6, d5, d4, d3, d2, d1]
    exact ((((((zSm.I (by simp)).tr (zSm.I (by simp))).tr (zSm.I (by simp))).tr (zSm.I (by simp))).tr (zSm.I (by simp))).tr (zSm.I (by simp)))
  have hOK : OK N6 := by
    rw [eOK]
    refine ⟨?_, ?_, ?_, ?_, ?_, ?_⟩
    · rw [d6, zsI_n (by decide), d5, zsI_n (by decide), d4, zsI_n (by decide), d3, zsI_n (by decide)]; exact t4'
    · rw [d6, zsI_n (by decide), d5, zsI_n (by decide), d4, zsI_s]
    · rw [d6, zsI_n (by decide), d5, zsI_s]
    · rw [d6, zsI_s]
    · rw [d6, zsI_n (by decide), d5, zsI_n (by decide), d4, zsI_n (by decide), d3, zsI_s]
    · rw [d6, zsI_n (by decide), d5, zsI_n (by decide), d4, zsI_n (by decide), d3, zsI_n (by decide), d2, zsI_n (by decide)]; exact t11
  have sb6 : bSB N6 g (mkB P a b pr) := ⟨hB.sm s6 (fun b b1 b2 q => by have := List.mem_singleton.mp q; omega), by
    rw [d6, zsI_n (by decide), d5, zsI_n (by decide), d4, zsI_n (by decide), d3, zsI_n (by decide), d2, zsI_n (by decide), d1, zsI_n (by decide)]; exact h9⟩
  have go := f131 N6 (s6.mono (by simp)) sb6 hOK
  rw [e1, e3, w1, nI_clamp (by omega)]
  have ep := nI_eq (a := pr) (b := 0) (by omega) (by decide)
  refine ⟨fun q => ⟨vp_in_nI (by omega) (by omega), ?_⟩, fun q => ?_⟩
  · rw [(sb6.1.1 b hb).1, hmb, evv, if_pos (ep.mp q)]
    exact go
  · have := pr_pawn hO h (fun w => q (ep.mpr w))
    rw [ok4 N6 hOK, show (6 : Int32) * nI P.2.1 = nI (6 * P.2.1) from pk_mul 6 _, show (1 : Int32) + nI (6 * P.2.1) = nI (1 + 6 * P.2.1) from nI_add 1 _, ← this.1]
    exact go
