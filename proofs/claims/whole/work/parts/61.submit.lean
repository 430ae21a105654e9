/-! THE REFERENCE'S submit -/
theorem i32_nat {x : Int32} (h0 : ¬ x < 0) : ∃ k, k < 2 ^ 31 ∧ x = nI k := by
  have e : iI x.toInt = x := Int32.ofInt_toInt x
  have b1 := x.le_toInt
  have b2 := x.toInt_lt
  have hz : 0 ≤ x.toInt := by
    rcases (show x.toInt < 0 ∨ 0 ≤ x.toInt by omega) with q | q
    · exfalso
      apply h0
      rw [← e]
      exact (iI_lt (a := x.toInt) (b := 0) (by omega) (by omega) (by omega) (by omega)).mpr q
    · exact q
  refine ⟨x.toInt.toNat, by omega, ?_⟩
  rw [iI_nat, show ((x.toInt.toNat : Nat) : Int) = x.toInt by omega]
  exact e.symm
theorem i32_1 {x : Int32} (h : ¬ x < 1) : ∃ k, 1 ≤ k ∧ k < 2 ^ 31 ∧ x = nI k := by
  have e : iI x.toInt = x := Int32.ofInt_toInt x
  have b1 := x.le_toInt
  have b2 := x.toInt_lt
  have hz : 1 ≤ x.toInt := by
    rcases (show x.toInt < 1 ∨ 1 ≤ x.toInt by omega) with q | q
    · exfalso
      apply h
      rw [← e]
      exact (iI_lt (a := x.toInt) (b := 1) (by omega) (by omega) (by omega) (by omega)).mpr q
    · exact q
  refine ⟨x.toInt.toNat, by omega, by omega, ?_⟩
  rw [iI_nat, show ((x.toInt.toNat : Nat) : Int) = x.toInt by omega]
  exact e.symm
theorem rGm_eq {M N : zM} {g n : Nat} {ps : Nat → Ps} {mv : Nat → Int32} (h57 : N.1 57 = M.1 57) (h58 : N.1 58 g = M.1 58 g) (h59 : N.1 59 = M.1 59) (h60 : N.1 60 = M.1 60) (h61 : N.1 61 = M.1 61) (h62 : N.1 62 = M.1 62) (h63 : N.1 63 = M.1 63) (h64 : N.1 64 = M.1 64) (hG : rGm M g n ps mv) : rGm N g n ps mv := by
  unfold rGm rEnt at hG ⊢
  rw [h57, h58, h59, h60, h61, h62, h63, h64]
  exact hG
theorem rmS_bd (T : Nat → Nat) (e : Nat) : ∀ (f p : Nat) (G : Gm), gmOk G → (rmS T e f p G).1 ≤ 24 ∧ gmOk (rmS T e f p G).2
  | 0, p, G, h => ⟨Nat.zero_le _, h⟩
  | f + 1, p, G, h => by
    unfold rmS
    split
    · rcases wdS_bd T e p G with ⟨hne, m, hm, hv⟩ | ⟨k, k1, k2, hv⟩
      · rw [hv, if_neg (by omega)]
        have h6 := h.2.1
        exact rmS_bd T e f _ _ (h.next (by have : ¬ G.1 = 601 := fun q => hne (Or.inr q); omega) hm)
      · rw [hv, if_pos (by omega)]
        exact ⟨by show (-(-(k : Int))).toNat ≤ 24; omega, h⟩
    · exact ⟨Nat.zero_le _, h⟩
theorem gm1_ok {P : Ps} (h : Gd P) (hC : psC 0 P) : gmOk (1, fun _ => P, fun _ => -1) :=
  ⟨Nat.le_refl 1, by show 1 ≤ 601; omega, fun i hi => ⟨h, psC_mono hC (Nat.zero_le i)⟩, fun i hi => by have : i + 1 < 1 := hi; omega⟩
set_option maxHeartbeats 8000000 in
theorem r_submit {mc ms : Nat} {M : zM} {A : Ah} (hR : rRef M A) (hO : aOk A) (x : Int32) {Q : zQt} (qb : (x < 1 ∨ ¬ x ≤ 20) → Q (some (.int 0)) (zsI M 55 0 1)) (qg : ∀ k N, x = nI k → 1 ≤ k → k ≤ 20 → zSm rCs M N → N.1 55 0 = 0 → rRef N (subA A k).2 → Q (some (.int (iI (subA A k).1))) N) : wX13_submit mc ms [.ref 55, .int x] M Q := by
  obtain ⟨hW, hn, hT, h7, h3, h4, h5, g, hg1, hg, hG⟩ := hR
  obtain ⟨oT, oN, oG, oF, oM, oK⟩ := hO
  refine ⟨⟨Nat.le_of_ble_eq_true rfl, rfl⟩, fun X l0 l12 l17 l50 l117 l140 => ?_⟩
  have f12 : (x < 1 ∨ ¬ x ≤ 20) → X 12 0 0 [.ref 55, .int x] [.ref 55] M := by
    intro h
    refine l12 _ _ _ _ _ ⟨rfl, vX13_submit_12 hW (l17 _ _ _ _ _ ⟨rfl, vX13_submit_17 hW (fun M17 e17 => ?_)⟩)⟩
    have : M17.1 55 0 = 1 := by rw [e17, zsI_s]
    rw [this]
    refine ⟨fun d => absurd d (by decide), fun _ => ?_⟩
    rw [e17]
    exact qb h
  refine l0 _ _ _ _ _ ⟨rfl, vX13_submit_0 hW ⟨fun d => f12 (Or.inl d), fun d => ⟨fun d2 => ?_, fun d2 => f12 (Or.inr d2)⟩⟩⟩
  obtain ⟨k, k1, k31, ek⟩ := i32_1 d
  have k20 : k ≤ 20 := (nI_leI (a := k) (b := 20) (by omega) (by decide)).mp (by rw [← ek]; exact d2)
  refine l17 _ _ _ _ _ ⟨rfl, vX13_submit_17 hW (fun M17 e17 => ?_)⟩
  have a0 : M17.1 55 0 = 0 := by rw [e17, zsI_s]
  have a2 : M17.1 55 2 = nI (aN A) := by rw [e17, zsI_n (by decide)]; exact hn
  rw [a0, a2]
  refine ⟨fun _ => ?_, fun q => absurd (by decide) q⟩
  have s17 : zSm [55] M M17 := by rw [e17]; exact zSm.I (by decide)
  have o17 : ∀ j, j ≠ 0 → M17.1 55 j = M.1 55 j := fun j hj => by rw [e17, zsI_n hj]
  have heb : subE A k ≤ 8180 := by
    unfold subE
    have := oN.1
    split <;> omega
  obtain ⟨e, he⟩ : ∃ e, e = subE A k := ⟨_, rfl⟩
  rw [← he] at heb
  have hsub : ∀ y, y = subG A e (fdS (aT A) e 0) → y = subA A k := fun y hy => by rw [hy, he]; rfl
  -- a text refused
  have fbad : ∀ (K : zM) (f : Nat) (m : Int), 0 < f → f ≤ 24 → zSm rCs M K → K.1 56 = M.1 56 → K.1 55 0 = 0 → K.1 55 2 = 0 → K.1 55 3 = nI f → K.1 55 4 = iI m → K.1 55 5 = M.1 55 5 → K.1 55 7 = M.1 55 7 → (aTh A = true → rGm K g (aG A).1 (aG A).2.1 (aG A).2.2) → subG A e (fdS (aT A) e 0) = refA A f m → X 117 0 0 [.ref 55, .int (nI g)] [] K := by
    intro K f m hf0 hf hK k56 c0 c2 c3 c4 c5 c7 cG hv
    have hWK := hK.fix hW
    refine l117 _ _ _ _ _ ⟨rfl, vX13_submit_117 hWK ?_⟩
    rw [c3]
    refine ⟨fun q => absurd ((nI_leI (a := f) (b := 0) (by omega) (by decide)).mp q) (by omega), fun _ N1 e1 => ?_⟩
    have s1 : zSm [55] K N1 := by rw [e1]; exact zSm.I (by decide)
    have hW1 := s1.fix hWK
    have v1 : ∀ j, j ≠ 6 → N1.1 55 j = K.1 55 j := fun j hj => by rw [e1, zsI_n hj]
    have v6 : N1.1 55 6 = nI g := by rw [e1, zsI_s]
    have g1 : aTh A = true → rGm N1 g (aG A).1 (aG A).2.1 (aG A).2.2 := fun h => rGm_sm s1 (fun b b1 b2 q => by have := List.mem_singleton.mp q; omega) (cG h)
    have fin : ∀ N2, zSm [65, 66, 67] N1 N2 → X 140 0 0 [] [] N2 := by
      intro N2 s2
      have sM : zSm rCs M N2 := (hK.tr (s1.mono (by decide))).tr (s2.mono (by decide))
      refine l140 _ _ _ _ _ ⟨rfl, vX13_submit_140 (sM.fix hW) ?_⟩
      have hz := qg k N2 ek k1 k20 sM (by rw [s2.i (by decide), v1 0 (by decide)]; exact c0)
      rw [← hsub _ rfl, hv] at hz
      refine hz ⟨sM.fix hW, ?_, fun i hi => ?_, ?_, ?_, ?_, ?_, g, hg1, ?_, fun h => rGm_sm s2 (fun b b1 b2 w => by
        simp only [List.mem_cons, List.mem_nil_iff, or_false] at w
        omega) (g1 h)⟩
      · rw [s2.i (by decide), v1 2 (by decide)]; exact c2
      · rw [s2.i (by decide), s1.i (by decide), k56]; exact hT i hi
      · rw [s2.i (by decide), v1 7 (by decide), c7]; exact h7
      · rw [s2.i (by decide), v1 3 (by decide)]; exact c3
      · rw [s2.i (by decide), v1 4 (by decide)]; exact c4
      · rw [s2.i (by decide), v1 5 (by decide), c5]; exact h5
      · rw [s2.i (by decide)]; exact v6
    rw [v1 7 (by decide), c7, h7]
    refine ⟨fun q => fin N1 zSm.rf, fun q => ?_⟩
    have ht := bI_n.mp q
    have hgm := g1 ht
    have hok := oG ht
    have p1 := hok.1
    have p2 := hok.2.1
    obtain ⟨⟨w1, -⟩, w2, w3⟩ := hgm.2 ((aG A).1 - 1) (by omega)
    refine c_show hW1 v6 hg1 (n := (aG A).1 - 1) (by rw [show (aG A).1 - 1 + 1 = (aG A).1 by omega]; exact hgm.1) (by omega) w1 w2 w3 (fun N2 s2 _ => vkX13_submit_140 ((s2.fix hW1)) (fin N2 s2))
  have f50 : X 50 0 0 [.ref 55] [.int (nI e), .ref 55] M17 := by
    refine l50 _ _ _ _ _ ⟨rfl, vX13_submit_50 (s17.fix hW) (fun M50 e50 M55 e55 M60 e60 M65 e65 M80 e80 => ?_)⟩
    have b6 : M65.1 55 6 = nI g := by rw [e65, zsI_n (by decide), e60, zsI_n (by decide), e55, zsI_n (by decide), e50, zsI_n (by decide), o17 6 (by decide)]; exact hg
    rw [b6, show (1 : Int32) - nI g = nI (1 - g) from pk_sub (a := 1) (b := g) hg1] at e80
    have c6 : M80.1 55 6 = nI (1 - g) := by rw [e80, zsI_s]
    rw [c6, nI_clamp (by omega), b6]
    refine ⟨vp_in_nI (by omega) (by omega), fun N0 e92 => ?_⟩
    have o80 : ∀ j, j ≠ 22 → j ≠ 2 → j ≠ 21 → j ≠ 4 → j ≠ 6 → M80.1 55 j = M17.1 55 j := fun j a b c d f => by rw [e80, zsI_n f, e65, zsI_n d, e60, zsI_n c, e55, zsI_n b, e50, zsI_n a]
    have s80 : zSm [55] M17 M80 := by
      rw [e80, e65, e60, e55, e50]
      exact ((((zSm.I (by decide)).tr (zSm.I (by decide))).tr (zSm.I (by decide))).tr (zSm.I (by decide))).tr (zSm.I (by decide))
    have s92 : zSm [55, 58] M N0 := by rw [e92]; exact ((s17.tr s80).mono (by decide)).tr (zSm.I (by decide))
    have n55 : N0.1 55 = M80.1 55 := by rw [e92]; exact zsI_o (by decide)
    have d22 : N0.1 55 22 = nI e := by rw [n55, e80, zsI_n (by decide), e65, zsI_n (by decide), e60, zsI_n (by decide), e55, zsI_n (by decide), e50, zsI_s]
    have d2 : N0.1 55 2 = 0 := by rw [n55, e80, zsI_n (by decide), e65, zsI_n (by decide), e60, zsI_n (by decide), e55, zsI_s]
    have d21 : N0.1 55 21 = nI 0 := by rw [n55, e80, zsI_n (by decide), e65, zsI_n (by decide), e60, zsI_s]; rfl
    have d4 : N0.1 55 4 = iI (-1) := by rw [n55, e80, zsI_n (by decide), e65, zsI_s]; rfl
    have d6 : N0.1 55 6 = nI (1 - g) := by rw [n55]; exact c6
    have d0 : N0.1 55 0 = 0 := by rw [n55, o80 0 (by decide) (by decide) (by decide) (by decide) (by decide)]; exact a0
    have d5 : N0.1 55 5 = M.1 55 5 := by rw [n55, o80 5 (by decide) (by decide) (by decide) (by decide) (by decide), o17 5 (by decide)]
    have d7 : N0.1 55 7 = M.1 55 7 := by rw [n55, o80 7 (by decide) (by decide) (by decide) (by decide) (by decide), o17 7 (by decide)]
    have m58 : ∀ i, i ≠ 1 - g → N0.1 58 i = M.1 58 i := fun i hi => by rw [e92, zsI_n hi, s80.i (by decide), s17.i (by decide)]
    have m58z : N0.1 58 (1 - g) = nI 0 := by rw [e92, zsI_s]; rfl
    have gOld : aTh A = true → rGm N0 g (aG A).1 (aG A).2.1 (aG A).2.2 := fun h => rGm_eq (s92.i (by decide)) (m58 g (by omega)) (s92.i (by decide)) (s92.i (by decide)) (s92.i (by decide)) (s92.i (by decide)) (s92.i (by decide)) (s92.i (by decide)) (hG h)
    have hW0 := s92.fix hW
    have hAt : rAt N0 (aT A) e 0 := ⟨⟨d22, by omega, fun i hi => ⟨by rw [s92.i (by decide)]; exact hT i hi, oT i⟩⟩, d21, by decide⟩
    refine c_readRecord hW0 hAt (by decide) (fun f q N hf hN => ?_) (fun p P N hf hrc hN hp hPs => ?_)
    · -- the record is at fault
      have hWN := hN.1.fix hW0
      refine vkX13_submit_98 hWN (fun M98 e98 => ?_)
      have hf24 : 0 < f ∧ f ≤ 24 := by
        rcases hf with w | ⟨_, _, _, _, w⟩ <;> omega
      have z3 : M98.1 55 3 = nI f := by rw [e98, zsI_s]
      have s98 : zSm [55] N M98 := by rw [e98]; exact zSm.I (by decide)
      have v98 : ∀ j, j ≠ 3 → M98.1 55 j = N.1 55 j := fun j hj => by rw [e98, zsI_n hj]
      have sM : zSm rCs M M98 := ((s92.mono (by decide)).tr (hN.1.mono (by decide))).tr (s98.mono (by decide))
      rw [z3]
      refine ⟨fun w => absurd ((nI_eq (a := f) (b := 0) (by omega) (by decide)).mp w) (by omega), fun _ => fbad M98 f (-1) hf24.1 hf24.2 sM ?_ ?_ ?_ z3 ?_ ?_ ?_ (fun h => rGm_sm (hN.1.mono (by decide : ∀ b ∈ [55, 65], b ∈ [55, 65]) |>.tr (s98.mono (by decide))) (fun b b1 b2 w => by
        simp only [List.mem_cons, List.mem_nil_iff, or_false] at w
        omega) (gOld h)) ?_⟩
      · rw [s98.i (by decide), hN.1.i (by decide), s92.i (by decide)]
      · rw [v98 0 (by decide), hN.2.1 0 (by decide)]; exact d0
      · rw [v98 2 (by decide), hN.2.1 2 (by decide)]; exact d2
      · rw [v98 4 (by decide), hN.2.1 4 (by decide)]; exact d4
      · rw [v98 5 (by decide), hN.2.1 5 (by decide)]; exact d5
      · rw [v98 7 (by decide), hN.2.1 7 (by decide)]; exact d7
      · unfold subG
        rcases hf with ⟨w1, w2, w3⟩ | ⟨p, P, w1, w2, w3, w4⟩
        · rw [w1, if_pos (by show f ≠ 0; omega)]
          rfl
        · rw [w1, if_neg (by show ¬ ((0 : Nat) ≠ 0); omega)]
          show (if rcF P ≠ 0 then refA A (rcF P) (-1) else _) = _
          rw [w2, if_pos (by omega)]
    · -- a right record
      have hWN := hN.1.fix hW0
      have hOk : psOk P := (rPs_iff.mp hPs).2
      have hGd := (rcF_0 hOk).mp hrc
      have hC := fdS_C hf
      refine vkX13_submit_98 hWN (fun M98 e98 => ?_)
      have z3 : M98.1 55 3 = 0 := by rw [e98, zsI_s]
      have s98 : zSm [55] N M98 := by rw [e98]; exact zSm.I (by decide)
      have v98 : ∀ j, j ≠ 3 → M98.1 55 j = N.1 55 j := fun j hj => by rw [e98, zsI_n hj]
      have s9 : zSm [55, 65] N0 M98 := (hN.1.mono (by decide : ∀ b ∈ [55, 65], b ∈ [55, 65])).tr (s98.mono (by decide))
      have hW98 := s98.fix hWN
      rw [z3]
      refine ⟨fun _ => ?_, fun w => absurd rfl w⟩
      have w6 : M98.1 55 6 = nI (1 - g) := by rw [v98 6 (by decide), hN.2.1 6 (by decide)]; exact d6
      have hG0 : rGm M98 (1 - g) 0 (fun _ => P) (fun _ => -1) := ⟨by rw [s9.i (by decide)]; exact m58z, fun i hi => absurd hi (by omega)⟩
      have hP98 : rPs M98 0 P := by
        refine rPs_off (q := 69) (fun i _ => ?_) (by omega) hPs
        rw [s98.i (by decide)]
      refine c_add hW98 w6 (by omega) (by omega) hG0 hP98 (Gd_fit hGd hC (by decide)) (m := -1) (fun K hK hGK hSK => ?_)
      have hWK := hK.1.fix hW98
      have eP : updP (fun _ => P) 0 P = fun _ => P := by funext i; unfold updP; split <;> rfl
      have eM : upd (fun _ => (-1 : Int32)) 0 (-1) = fun _ => -1 := by funext i; unfold upd; split <;> rfl
      rw [eP, eM] at hGK
      have hok1 := gm1_ok hGd hC
      have gOld9 : aTh A = true → rGm M98 g (aG A).1 (aG A).2.1 (aG A).2.2 := fun h => rGm_sm s9 (fun b b1 b2 w => by
        simp only [List.mem_cons, List.mem_nil_iff, or_false] at w
        omega) (gOld h)
      have gOldK : aTh A = true → rGm K g (aG A).1 (aG A).2.1 (aG A).2.2 := fun h => hK.other (by omega) (by omega) hg1 (by omega) (oG h).2.1 (gOld9 h)
      have kk : ∀ j, K.1 55 j = M98.1 55 j := fun j => by rw [hK.1.i (by decide)]
      refine vkX13_submit_113 hWK (c_readMoves (g := 1 - g) (p0 := p) (e := e) (T := aT A) (G0 := (1, fun _ => P, fun _ => -1)) (by omega) ⟨hWK, ⟨⟨?_, by omega, fun i hi => ⟨?_, oT i⟩⟩, ?_, by omega⟩, ?_, hGK, hSK, hok1⟩ ?_ (by omega) (fun K2 p2 hF hS2 f3 f4 f4' => ?_))
      · rw [kk, v98 22 (by decide), hN.2.1 22 (by decide)]; exact d22
      · rw [hK.1.i (by decide), s9.i (by decide), s92.i (by decide)]; exact hT i hi
      · rw [kk, v98 21 (by decide)]; exact hN.2.2.1
      · rw [kk]; exact w6
      · rw [kk]; exact z3
      refine vkX13_submit_117 hS2.1 ?_
      obtain ⟨R, eR⟩ : ∃ R, R = rmS (aT A) e e p (1, fun _ => P, fun _ => -1) := ⟨_, rfl⟩
      rw [← eR] at f3 f4 f4' hS2
      have hRb := rmS_bd (aT A) e e p _ hok1
      rw [← eR] at hRb
      have sM : zSm rCs M K2 := (((s92.mono (by decide)).tr (s9.mono (by decide))).tr (hK.1.mono (by decide))).tr (hF.1.mono (by decide))
      have vv : ∀ j, j ≠ 3 → j ≠ 4 → j ≠ 21 → j ≠ 24 → K2.1 55 j = N0.1 55 j := fun j a b c d => by rw [hF.2.1 j a b c d, kk, v98 j a, hN.2.1 j c]
      have h56 : K2.1 56 = M.1 56 := by rw [hF.1.i (by decide), hK.1.i (by decide), s9.i (by decide), s92.i (by decide)]
      have gO2 : aTh A = true → rGm K2 g (aG A).1 (aG A).2.1 (aG A).2.2 := fun h => hF.2.2 g _ _ _ hg1 (by omega) (oG h).2.1 (gOldK h)
      have hsb : subG A e (fdS (aT A) e 0) = if 0 < R.1 then refA A R.1 (R.2.1 - 1 : Nat) else ((R.2.1 - 1 : Nat), (aT A, 0, true, R.2, 0, -1, aTk A + 1)) := by
        unfold subG
        rw [hf, if_neg (by show ¬ ((0 : Nat) ≠ 0); omega)]
        show (if rcF P ≠ 0 then _ else _) = _
        rw [if_neg (by omega), eR]
      by_cases hr : 0 < R.1
      · rw [if_pos hr] at hsb
        refine fbad K2 R.1 _ hr hRb.1 sM h56 ?_ ?_ f3 ?_ ?_ ?_ gO2 hsb
        · rw [vv 0 (by decide) (by decide) (by decide) (by decide)]; exact d0
        · rw [vv 2 (by decide) (by decide) (by decide) (by decide)]; exact d2
        · exact f4 hr
        · rw [vv 5 (by decide) (by decide) (by decide) (by decide)]; exact d5
        · rw [vv 7 (by decide) (by decide) (by decide) (by decide)]; exact d7
      · rw [if_neg hr] at hsb
        have r0 : R.1 = 0 := by omega
        have hz := fun N => qg k N ek k1 k20
        rw [← hsub _ rfl, hsb] at hz
        refine l117 _ _ _ _ _ ⟨rfl, vX13_submit_117 hS2.1 ?_⟩
        rw [f3, r0]
        refine ⟨fun _ M144 e144 M154 e154 => ?_, fun w => absurd (by decide) w⟩
        have u5 : M144.1 55 5 = nI (aTk A) := by rw [e144, zsI_n (by decide), vv 5 (by decide) (by decide) (by decide) (by decide), d5]; exact h5
        rw [u5, nI_1] at e154
        have s154 : zSm [55] K2 M154 := by rw [e154, e144]; exact (zSm.I (by decide)).tr (zSm.I (by decide))
        have u : ∀ j, j ≠ 5 → j ≠ 7 → M154.1 55 j = K2.1 55 j := fun j a b => by rw [e154, zsI_n a, e144, zsI_n b]
        have u6 : M154.1 55 6 = nI (1 - g) := by rw [u 6 (by decide) (by decide)]; exact hS2.2.2.1
        rw [u6, nI_clamp (by omega), show M154.1 58 (1 - g) = nI R.2.1 by rw [s154.i (by decide)]; exact hS2.2.2.2.1.1]
        refine ⟨vp_in_nI (by omega) (by omega), ?_⟩
        have hr1 := hRb.2.1
        rw [show nI R.2.1 - (1 : Int32) = nI (R.2.1 - 1) from pk_sub (a := R.2.1) (b := 1) (by omega)]
        refine hz M154 (sM.tr (s154.mono (by decide))) (by rw [u 0 (by decide) (by decide), vv 0 (by decide) (by decide) (by decide) (by decide)]; exact d0) ⟨s154.fix hS2.1, ?_, fun i hi => ?_, ?_, ?_, ?_, ?_, 1 - g, by omega, u6, fun _ => rGm_sm s154 (fun b b1 b2 q => by have := List.mem_singleton.mp q; omega) hS2.2.2.2.1⟩
        · rw [u 2 (by decide) (by decide), vv 2 (by decide) (by decide) (by decide) (by decide)]; exact d2
        · rw [s154.i (by decide), h56]; exact hT i hi
        · rw [e154, zsI_n (by decide), e144, zsI_s]; rfl
        · rw [u 3 (by decide) (by decide), f3, r0]
        · rw [u 4 (by decide) (by decide), f4' r0, kk, v98 4 (by decide), hN.2.1 4 (by decide)]; exact d4
        · rw [e154, zsI_s]
  have en := nI_eq (a := aN A) (b := 0) (by have := oN.1; omega) (by decide)
  refine ⟨fun w => ?_, fun w => ?_⟩
  · have z : e = 0 := by rw [he]; unfold subE; rw [if_pos (en.mp w)]
    have := f50
    rw [z] at this
    exact this
  · have hne : ¬ aN A = 0 := fun q => w (en.mpr q)
    have h20 : 20 ≤ aN A := by have := oN.2; omega
    have z : e = aN A - 20 + k := by rw [he]; unfold subE; rw [if_neg hne]
    rw [show nI (aN A) - (20 : Int32) = nI (aN A - 20) from pk_sub (a := aN A) (b := 20) h20, ek, nI_add, ← z]
    exact f50
