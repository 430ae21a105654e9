/-! THE CLASS'S HALL -/
/-- the class's memory stands for the state -/
def cHal (M : zM) (A : Ah) : Prop := zFix M ∧ cOk M ∧ cTp M (aT A) ∧ M.1 16 9 = nI (aN A) ∧ M.1 16 8 = bI (aTh A) ∧ M.1 16 10 = nI (aFa A) ∧ M.1 16 11 = iI (aFm A) ∧ M.1 16 12 = nI (aTk A) ∧ ∃ g, (g = 35 ∨ g = 45) ∧ M.2.2.1 16 6 = some g ∧ M.2.2.1 16 7 = some (80 - g) ∧ (aTh A = true → gGm M g (aG A))
/-- all that the class's calls write beside the tables of endings -/
abbrev cCs : List Nat := [16, 24, 26, 27, 28, 29, 30, 31, 32, 35, 36, 37, 38, 39, 40, 41, 42, 43, 44, 45, 46, 47, 48, 49, 50, 51, 52, 53, 54]
/-- what a call of the class leaves as it was -/
def cFr (M N : zM) : Prop := N.2.2.2 = M.2.2.2 ∧ (∀ a j, ¬ (a = 16 ∧ (j = 6 ∨ j = 7)) → N.2.2.1 a j = M.2.2.1 a j) ∧ ∀ b, b ∉ cCs → N.1 b = M.1 b ∧ N.2.1 b = M.2.1 b
theorem cFr.of {L : List Nat} {M N : zM} (h : zSm L M N) (hL : ∀ b ∈ L, b ∈ cCs) : cFr M N := ⟨by rw [h.1], fun a j _ => by rw [h.1], fun b hb => h.2 b (fun z => hb (hL b z))⟩
theorem cFr.tr {M N K : zM} (h : cFr M N) (h2 : cFr N K) : cFr M K := ⟨h2.1.trans h.1, fun a j q => (h2.2.1 a j q).trans (h.2.1 a j q), fun b hb => ⟨(h2.2.2 b hb).1.trans (h.2.2 b hb).1, (h2.2.2 b hb).2.trans (h.2.2 b hb).2⟩⟩
theorem cFr.rf {M : zM} : cFr M M := ⟨rfl, fun _ _ _ => rfl, fun _ _ => ⟨rfl, rfl⟩⟩
theorem cCs_g {g : Nat} (hg : g = 35 ∨ g = 45) : ∀ b, g ≤ b → b ≤ g + 9 → b ∈ cCs := by
  intro b b1 b2
  simp
  omega
/-- cells of a list of the hall's own -/
theorem cCs_l {g : Nat} (hg : g = 35 ∨ g = 45) {L : List Nat} (h : ∀ b ∈ L, b = 16 ∨ b = 24 ∨ b = 26 ∨ b = 27 ∨ b = 28 ∨ b = 29 ∨ b = 30 ∨ b = 31 ∨ b = 32 ∨ (g ≤ b ∧ b ≤ g + 9)) : ∀ b ∈ L, b ∈ cCs := by
  intro b hb
  have := h b hb
  simp
  omega
theorem cHal.wd {M : zM} {A : Ah} (h : cHal M A) : zWd M 35 := ⟨h.1, Or.inl rfl⟩
theorem cHal.game {M : zM} {A : Ah} (h : cHal M A) (hO : aOk A) (ht : aTh A = true) : ∃ g, (g = 35 ∨ g = 45) ∧ M.2.2.1 16 6 = some g ∧ zWd M g ∧ gGm M g (aG A) ∧ gmOk (aG A) := by
  obtain ⟨h1, -, -, -, -, -, -, -, g, hg, h6, -, hG⟩ := h
  exact ⟨g, hg, h6, ⟨h1, hg⟩, hG ht, hO.2.2.1 ht⟩
theorem cTp_t {T : Nat → Nat} {n : Nat} {a b c d e : Int32} {M N : zM} (hM : cTp M T) (h : ∀ i, N.1 24 i = if n ≤ i ∧ i < n + 20 then nI (tb5 (x5 a b c d e) (i - n)) else M.1 24 i) : cTp N (tpS T n a b c d e) := by
  intro i hi
  rw [h i]
  unfold tpS
  by_cases q : n ≤ i ∧ i < n + 20
  · rw [if_pos q, if_pos q]
  · rw [if_neg q, if_neg q]; exact hM i hi
theorem k_tape {mc ms : Nat} {M : zM} {A : Ah} (hK : cHal M A) (hA : aN A ≤ 8160) (a b c d e : Int32) {Q : zQt} (hq : ∀ N, cFr M N → cHal N (tapeA A a b c d e) → Q (some (.int 1)) N) : wX11_tape mc ms [.ref 16, .int a, .int b, .int c, .int d, .int e] M Q := by
  obtain ⟨k1, k2, k3, k4, k5, k6, k7, k8, g, hg, h6, h7, hG⟩ := hK
  have hW : zWd M g := ⟨k1, hg⟩
  refine c_tape hW a b c d e (aN A) k4 (by omega) (fun N sm h16 h24 => hq N (cFr.of sm (cCs_l hg (by simp))) ?_)
  have s16 : ∀ j, j ≠ 9 → N.1 16 j = M.1 16 j := fun j hj => by rw [h16 j, if_neg hj]
  refine ⟨sm.fix k1, k2.sm sm (fun b b1 b2 q => by simp at q; omega), cTp_t k3 h24, ?_, ?_, ?_, ?_, ?_, g, hg, by rw [sm.1]; exact h6, by rw [sm.1]; exact h7, fun ht => (hG ht).sm sm (fun b b1 b2 q => by simp at q; omega)⟩
  · rw [h16 9, if_pos rfl]; rfl
  · rw [s16 8 (by omega)]; exact k5
  · rw [s16 10 (by omega)]; exact k6
  · rw [s16 11 (by omega)]; exact k7
  · rw [s16 12 (by omega)]; exact k8
theorem gm_fields {A : Ah} {n : Nat} {b : Bool} {G : Gm} {k : Nat} {m : Int} {t : Nat} : aT (aT A, n, b, G, k, m, t) = aT A := rfl
set_option maxHeartbeats 16000000 in
theorem k_submit {mc ms : Nat} {M : zM} {A : Ah} (hK : cHal M A) (hO : aOk A) {k : Nat} (hk1 : 1 ≤ k) (hk2 : k ≤ 20) {Q : zQt} (hq : ∀ N, cFr M N → cHal N (subA A k).2 → Q (some (.int (iI (subA A k).1))) N) : wX11_submit mc ms [.ref 16, .int (nI k)] M Q := by
  refine ⟨⟨Nat.le_of_ble_eq_true rfl, rfl⟩, fun X l0 l11 l39 l119 l122 => ?_⟩
  obtain ⟨k1, k2, k3, k4, k5, k6, k7, k8, g, hg, h6, h7, hG⟩ := hK
  have hTb := hO.1
  have hN := hO.2.1
  have hTk := hO.2.2.2.2.2
  obtain ⟨h, eh⟩ : ∃ h, h = 80 - g := ⟨_, rfl⟩
  have hh : h = 35 ∨ h = 45 := by omega
  rw [← eh] at h7
  have hW : zWd M g := ⟨k1, hg⟩
  have hWh : zWd M h := ⟨k1, hh⟩
  obtain ⟨e, ee⟩ : ∃ e, e = subE A k := ⟨_, rfl⟩
  have he : e ≤ 8180 := by rw [ee]; unfold subE; split <;> omega
  have hsub : subA A k = subG A e (fdS (aT A) e 0) := by rw [ee]; rfl
  rw [hsub] at hq
  -- what the cells of the other game do not touch
  have keep : ∀ (N : zM), zFix N → N.2.2.1 16 6 = some g → N.2.2.1 16 7 = some h → cOk N → cTp N (aT A) → N.1 16 8 = bI (aTh A) → N.1 16 12 = nI (aTk A) → (aTh A = true → gGm N g (aG A)) → ∀ (kk : Nat) (mm : Int), N.1 16 9 = nI 0 → N.1 16 10 = nI kk → N.1 16 11 = iI mm → cHal N (aT A, 0, aTh A, aG A, kk, mm, aTk A) := by
    intro N n1 n6 n7 n2 n3 n8 n12 nG kk mm n9 n10 n11
    exact ⟨n1, n2, n3, n9, n8, n10, n11, n12, g, hg, n6, by rw [n7, eh], nG⟩
  have f39 : X 39 0 0 [.ref 16] [.int (nI e)] M := by
    refine l39 _ _ _ _ _ ⟨rfl, vX11_submit_39 hW (fun M42 e42 => ?_)⟩
    have s42 : zSm [16] M M42 := by rw [e42]; exact zSm.I (by simp)
    have W42 := s42.wd hWh
    refine ⟨h, by rw [s42.1]; exact h7, fgs_0 W42, h + 1, fgr_0_0 W42, fgs_1 W42, ?_⟩
    have C42 : cOk M42 := k2.sm s42 (fun b b1 b2 q => by simp at q; omega)
    have T42 : cTp M42 (aT A) := k3.sm s42 (by simp)
    have n16 : 16 ∉ rrC h := by simp; omega
    have n42 : M42.1 16 9 = nI 0 := by rw [e42, zsI_s]; rfl
    have o42 : ∀ j, j ≠ 9 → M42.1 16 j = M.1 16 j := fun j hj => by rw [e42, zsI_n hj]
    -- the end of every road that is refused
    have refuse : ∀ (N : zM) (kk : Nat) (mm : Int), 0 < kk → kk < 100 → zSm (16 :: rmC h) M N → N.1 16 9 = nI 0 → N.1 16 8 = M.1 16 8 → N.1 16 12 = M.1 16 12 → N.1 16 10 = nI kk → N.1 16 11 = iI mm → subG A e (fdS (aT A) e 0) = refA A kk mm → X 122 0 0 [.ref 16] [] N := by
      intro N kk mm hk0 hk100 sN n9 n8 n12 n10 n11 hs
      have WN := sN.wd hWh
      refine l122 _ _ _ _ _ ⟨rfl, vX11_submit_122 WN ?_⟩
      rw [n10]
      refine ⟨fun z => absurd z (nI_ne0 hk0 (by omega)), fun _ => ?_⟩
      rw [hs] at hq
      refine hq N (cFr.of sN (cCs_l hh (by simp))) ?_
      exact keep N (sN.fix k1) (by rw [sN.1]; exact h6) (by rw [sN.1]; exact h7) (k2.sm sN (fun b b1 b2 q => by simp at q; omega)) (k3.sm sN (by simp; omega)) (by rw [n8]; exact k5) (by rw [n12]; exact k8) (fun ht => (hG ht).sm sN (fun b b1 b2 q => by simp at q; omega)) kk mm n9 n10 n11
    refine c_readRecordC W42 C42 hTb T42 he (fun kk N hbad sN => vkX11_submit_61 (sN.wd W42) (fun M61 e61 M66 e66 => ?_)) (fun p P N hfd hrc hPO sN aN bN n11 => vkX11_submit_61 (sN.wd W42) (fun M61 e61 M66 e66 => ?_))
    · have hk0 : 0 < kk ∧ kk ≤ 11 := by
        rcases hbad with ⟨-, a, b⟩ | ⟨p, P, -, -, a, b⟩ <;> omega
      have s66 : zSm (16 :: rmC h) M M66 := by
        rw [e66, e61]
        exact (((s42.mono (by simp)).tr (sN.mono (by simp))).tr (zSm.I (by simp))).tr (zSm.I (by simp))
      have h10 : M66.1 16 10 = nI kk := by rw [e66, zsI_n (by omega), e61, zsI_s]
      have o66 : ∀ j, j ≠ 10 → j ≠ 11 → M66.1 16 j = M42.1 16 j := fun j a b => by rw [e66, zsI_n b, e61, zsI_n a, sN.i n16]
      rw [h10]
      refine ⟨fun z => absurd z (nI_ne0 hk0.1 (by omega)), fun _ => refuse M66 kk (-1) hk0.1 (by omega) s66 (by rw [o66 9 (by omega) (by omega)]; exact n42) (by rw [o66 8 (by omega) (by omega), o42 8 (by omega)]) (by rw [o66 12 (by omega) (by omega), o42 12 (by omega)]) h10 (by rw [e66, zsI_s]; decide) ?_⟩
      unfold subG
      rcases hbad with ⟨hb, a, b⟩ | ⟨p, P, hb, hr, a, b⟩
      · rw [hb, if_pos (show (bad kk).1 ≠ 0 from by show kk ≠ 0; omega)]
        rfl
      · rw [hb, if_neg (show ¬ (0 : Nat) ≠ 0 from fun z => z rfl), if_pos (show rcF P ≠ 0 from by omega)]
        show refA A (rcF P) (-1) = _
        rw [hr]
    · have s66 : zSm (16 :: rmC h) M M66 := by
        rw [e66, e61]
        exact (((s42.mono (by simp)).tr (sN.mono (by simp))).tr (zSm.I (by simp))).tr (zSm.I (by simp))
      have W66 := s66.wd hWh
      have h10 : M66.1 16 10 = nI 0 := by rw [e66, zsI_n (by omega), e61, zsI_s]; rfl
      have h11 : M66.1 16 11 = iI (-1) := by rw [e66, zsI_s]; decide
      have o66 : ∀ j, j ≠ 10 → j ≠ 11 → M66.1 16 j = M42.1 16 j := fun j a b => by rw [e66, zsI_n b, e61, zsI_n a, sN.i n16]
      have sX : zSm [16] N M66 := by rw [e66, e61]; exact (zSm.I (by simp)).tr (zSm.I (by simp))
      have b66 : bPs M66 h P := bPs.sm sX (fun b b1 b2 q => by simp at q; omega) bN
      have a66 : cAt M66 (aT A) e p := aN.sm sX ⟨by simp, by simp⟩
      have C66 : cOk M66 := k2.sm s66 (fun b b1 b2 q => by simp at q; omega)
      have hGd : Gd P := (rcF_0 hPO).mp hrc
      have hPC : psC 0 P := fdS_C hfd
      rw [h10]
      refine ⟨fun _ => ⟨h, by rw [s66.1]; exact h7, fgs_0 W66, ?_⟩, fun z => absurd rfl z⟩
      refine c_begin W66 C66 hGd hPC b66 (by rw [sX.i (by simp; omega)]; exact n11) (fun K sK gK => vkX11_submit_83 (sK.wd W66) ?_)
      have sMK : zSm (16 :: rmC h) M K := s66.tr (sK.mono (by simp))
      have WK := sMK.wd hWh
      refine ⟨h, by rw [sMK.1]; exact h7, fgs_0 WK, ?_⟩
      have aK : cAt K (aT A) e p := a66.sm sK ⟨by simp; omega, by simp; omega⟩
      refine c_readMovesC WK (k2.sm sMK (fun b b1 b2 q => by simp at q; omega)) hTb aK (gm1_ok hGd hPC) gK rfl (fun L sL gL oL => vkX11_submit_95 (sL.wd WK) (fun M95 e95 => ?_))
      obtain ⟨R, eR⟩ : ∃ R, R = rmS (aT A) e e p (gm1 P) := ⟨_, rfl⟩
      rw [← eR] at gL oL e95
      have hR24 : R.1 ≤ 24 := by rw [eR]; exact (rmS_bd (aT A) e e p (gm1 P) (gm1_ok hGd hPC)).1
      have hsg : subG A e (fdS (aT A) e 0) = if 0 < R.1 then refA A R.1 (R.2.1 - 1 : Nat) else (((R.2.1 - 1 : Nat) : Int), (aT A, 0, true, R.2, 0, -1, aTk A + 1)) := by
        unfold subG
        rw [hfd, if_neg (show ¬ (0 : Nat) ≠ 0 from fun z => z rfl), if_neg (show ¬ rcF P ≠ 0 from fun z => z hrc)]
        rw [eR]
      have s95 : zSm (16 :: rmC h) M M95 := by rw [e95]; exact (sMK.tr (sL.mono (by simp))).tr (zSm.I (by simp))
      have W95 := s95.wd hWh
      have h95 : M95.1 16 10 = nI R.1 := by rw [e95, zsI_s]
      have o95 : ∀ j, j ≠ 10 → M95.1 16 j = M66.1 16 j := fun j a => by rw [e95, zsI_n a, sL.i (by simp; omega), sK.i (by simp; omega)]
      have g95 : gGm M95 h R.2 := by rw [e95]; exact gL.sm (L := [16]) (zSm.I (by simp)) (fun b b1 b2 q => by simp at q; omega)
      have hR1 := oL.1
      have hR6 := oL.2.1
      have ez := nI_eq (a := R.1) (b := 0) (by omega) (by decide)
      have r9 : M95.1 16 9 = nI 0 := by rw [o95 9 (by omega), o66 9 (by omega) (by omega)]; exact n42
      have r8 : M95.1 16 8 = M.1 16 8 := by rw [o95 8 (by omega), o66 8 (by omega) (by omega), o42 8 (by omega)]
      have r12 : M95.1 16 12 = M.1 16 12 := by rw [o95 12 (by omega), o66 12 (by omega) (by omega), o42 12 (by omega)]
      rw [h95]
      refine ⟨fun z => ?_, fun z => ?_⟩
      · have hR0 := ez.mp z
        refine l119 _ _ _ _ _ ⟨rfl, vX11_submit_119 W95 (fun M119 e119 => ?_)⟩
        have sY : zSm [16] M95 M119 := by rw [e119]; exact zSm.I (by simp)
        have s119 : zSm (16 :: rmC h) M M119 := s95.tr (sY.mono (by simp))
        have W119 := s119.wd hWh
        have t10 : M119.1 16 10 = nI 0 := by rw [e119, zsI_n (by omega), h95, hR0]
        refine l122 _ _ _ _ _ ⟨rfl, vX11_submit_122 W119 ?_⟩
        rw [t10]
        refine ⟨fun _ => ⟨h, by rw [s119.1]; exact h7, fgs_0 W119, g, by rw [s119.1]; exact h6, fgs_0 (s119.wd hW), fun M141 e141 M146 e146 M151 e151 M161 e161 => ?_⟩, fun y => absurd rfl y⟩
        have F146 : zFix M146 := by rw [e146, e141]; exact ((s119.fix k1).r (Or.inr rfl)).r (Or.inl rfl)
        have sZ : zSm [16] M146 M161 := by rw [e161, e151]; exact (zSm.I (by simp)).tr (zSm.I (by simp))
        have F161 : zFix M161 := sZ.fix F146
        have i146 : M146.1 = M119.1 := by rw [e146, e141]; rfl
        have j146 : M146.2.1 = M119.2.1 := by rw [e146, e141]; rfl
        have r6 : M161.2.2.1 16 6 = some h := by
          rw [sZ.1, e146]
          show z2 M141.2.2.1 16 6 (some h) 16 6 = some h
          simp [z2]
        have r7 : M161.2.2.1 16 7 = some g := by
          rw [sZ.1, e146]
          show z2 M141.2.2.1 16 6 (some h) 16 7 = _
          rw [e141]
          show z2 (z2 M119.2.2.1 16 7 (some g)) 16 6 (some h) 16 7 = _
          simp [z2]
        have cells : ∀ b, b ≠ 16 → M161.1 b = M119.1 b ∧ M161.2.1 b = M119.2.1 b := fun b hb => ⟨by rw [sZ.i (by simp; omega), i146], by rw [sZ.j (by simp; omega), j146]⟩
        have g161 : gGm M161 h R.2 := by
          have g119 : gGm M119 h R.2 := g95.sm sY (fun b b1 b2 q => by simp at q; omega)
          have gg : gGm M146 h R.2 := by
            unfold gGm bPs bSt gLs gRow kyS at g119 ⊢
            rw [i146, j146]
            exact g119
          exact gg.sm sZ (fun b b1 b2 q => by simp at q; omega)
        refine ⟨h, r6, fgs_0 ⟨F161, hh⟩, ?_⟩
        rw [g161.2.2.1, show nI R.2.1 - (1 : Int32) = nI (R.2.1 - 1) from pk_sub (b := 1) (by omega), iI_nat]
        rw [hsg, if_neg (by omega)] at hq
        refine hq M161 ?_ ?_
        · refine (cFr.of s119 (cCs_l hh (by simp))).tr ⟨?_, ?_, ?_⟩
          · rw [sZ.1, e146, e141]; rfl
          · intro a j hn
            rw [sZ.1, e146]
            show z2 M141.2.2.1 16 6 (some h) a j = _
            rw [e141]
            show z2 (z2 M119.2.2.1 16 7 (some g)) 16 6 (some h) a j = _
            unfold z2
            by_cases qa : a = 16
            · rw [if_pos qa, if_neg (by omega), if_pos qa, if_neg (by omega)]
            · rw [if_neg qa, if_neg qa]
          · intro b hb
            exact cells b (fun z => hb (by rw [z]; simp))
        · have t16 : ∀ j, j ≠ 8 → j ≠ 12 → M161.1 16 j = M119.1 16 j := fun j a b => by rw [e161, zsI_n b, e151, zsI_n a, i146]
          have C119 : cOk M119 := k2.sm s119 (fun b b1 b2 q => by simp at q; omega)
          have C161 : cOk M161 := by
            have : cOk M146 := by
              unfold cOk cRay at C119 ⊢
              rw [j146]
              exact C119
            exact this.sm sZ (fun b b1 b2 q => by simp at q; omega)
          refine ⟨F161, C161, fun i hi => by rw [(cells 24 (by omega)).1]; exact k3.sm s119 (by simp; omega) i hi, ?_, ?_, ?_, ?_, ?_, h, hh, r6, by rw [r7, eh]; congr 1; omega, fun _ => g161⟩
          · rw [t16 9 (by omega) (by omega), e119, zsI_n (by omega), r9]
          · rw [e161, zsI_n (by omega), e151, zsI_s]; rfl
          · rw [t16 10 (by omega) (by omega)]; exact t10
          · rw [t16 11 (by omega) (by omega), e119, zsI_s]
            show (-1 : Int32) = iI (-1)
            decide
          · rw [e161, zsI_s, e151, zsI_n (by omega), i146, e119, zsI_n (by omega), r12, k8, nI_1]
      · have hR0 : 0 < R.1 := by have : ¬ R.1 = 0 := fun y => z (ez.mpr y); omega
        refine ⟨h, by rw [s95.1]; exact h7, fgs_0 W95, ?_⟩
        rw [g95.2.2.1, show nI R.2.1 - (1 : Int32) = nI (R.2.1 - 1) from pk_sub (b := 1) (by omega)]
        refine l119 _ _ _ _ _ ⟨rfl, vX11_submit_119 W95 (fun M119 e119 => ?_)⟩
        have sY : zSm [16] M95 M119 := by rw [e119]; exact zSm.I (by simp)
        refine refuse M119 R.1 ((R.2.1 - 1 : Nat) : Int) hR0 (by omega) (s95.tr (sY.mono (by simp))) ?_ ?_ ?_ ?_ ?_ ?_
        · rw [e119, zsI_n (by omega)]; exact r9
        · rw [e119, zsI_n (by omega)]; exact r8
        · rw [e119, zsI_n (by omega)]; exact r12
        · rw [e119, zsI_n (by omega)]; exact h95
        · rw [e119, zsI_s, iI_nat]
        · rw [hsg, if_pos hR0]
  refine l0 _ _ _ _ _ ⟨rfl, vX11_submit_0 hW ?_⟩
  rw [k4]
  have e1 := nI_ltI (a := k) (b := 1) (by omega) (by decide)
  have e20 := nI_leI (a := k) (b := 20) (by omega) (by decide)
  have e0 := nI_eq (a := aN A) (b := 0) (by omega) (by decide)
  refine ⟨fun w => absurd (e1.mp w) (by omega), fun _ => ⟨fun _ => ⟨fun w => ?_, fun w => ?_⟩, fun w => absurd (e20.mpr hk2) w⟩⟩
  · have : e = 0 := by rw [ee]; unfold subE; rw [if_pos (e0.mp w)]
    rw [this] at f39
    exact f39
  · have hne : ¬ aN A = 0 := fun z => w (e0.mpr z)
    rw [show nI (aN A) - (20 : Int32) = nI (aN A - 20) from pk_sub (b := 20) (by omega), nI_add, show aN A - 20 + k = e by rw [ee]; unfold subE; rw [if_neg hne]]
    exact f39
