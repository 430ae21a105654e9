/-! THE CLASS'S SEARCH: look -/
theorem sft_0 (v : Int) : sft 0 v = v := by
  unfold sft
  split
  · omega
  · split <;> omega
def lkF (M N : zM) (g k : Nat) : Prop := zSm [g + 1, g + 2, g + 3, g + 4, g + 5, g + 6, 31, 32] M N ∧ ∀ i, i < k → N.1 (g + 5) i = M.1 (g + 5) i
theorem lkF.tr {M N K : zM} {g k : Nat} (h : lkF M N g k) (h2 : lkF N K g k) : lkF M K g k := ⟨h.1.tr h2.1, fun i hi => (h2.2 i hi).trans (h.2 i hi)⟩
theorem sFr.lk {M N : zM} {g k r : Nat} (h : sFr M N g k r) : lkF M N g k := ⟨h.1.mono (by simp), h.2.1⟩
theorem lkF.I {M : zM} {g k j : Nat} {v : Int32} (hg : g = 35 ∨ g = 45) : lkF M (zsI M 31 j v) g k := ⟨zSm.I (by simp), fun i _ => by rw [zsI_o (by omega)]⟩
theorem lkF.cok {M N : zM} {g k : Nat} (h : lkF M N g k) (hg : g = 35 ∨ g = 45) (hC : cOk M) : cOk N := cOk.sm h.1 (fun b b1 b2 q => by simp at q; omega) hC
theorem sSt.I {M : zM} {g k j : Nat} {P : Ps} {v : Int32} (hg : g = 35 ∨ g = 45) (h : sSt M g P k) : sSt (zsI M 31 j v) g P k :=
  ⟨bPs.sm (L := [31]) (zSm.I (by simp)) (fun b b1 b2 q => by simp at q; omega) h.1, by rw [zsI_o (by omega)]; exact h.2⟩
theorem sFr_31 {M N : zM} {g k r : Nat} (hg : g = 35 ∨ g = 45) (h : sFr M N g k r) : N.1 31 = M.1 31 := h.1.i (by simp; omega)
theorem sm_31 {M N : zM} {g : Nat} {L : List Nat} (hg : g = 35 ∨ g = 45) (h : zSm L M N) (hL : 31 ∉ L) : N.1 31 = M.1 31 := h.i hL
set_option maxHeartbeats 4000000 in
theorem c_look {mc ms : Nat} {M : zM} {g : Nat} (hW : zWd M g) (hC : cOk M) {P : Ps} (hG : Gd P) (hLs : gLs M g P) {n k d : Nat} (hPC : psC n P) (hn : n < 1990) (hk : k ≤ 600) (hd : d ≤ 4) (hS : sSt M g P k) {Q : zQt} (hq : ∀ N, lkF M N g k → sSt N g P k → N.1 31 1 = iI (val d P) → N.1 31 2 = iI (bstS d P) → Q none N) : wX8_look mc ms [.ref 31, .ref g, .int (nI d)] M Q := by
  refine ⟨⟨Nat.le_of_ble_eq_true rfl, rfl⟩, fun X l0 l16 l46 l123 => ?_⟩
  have hg := hW.2
  have hLen := Gd_len hG
  have f16 : d = 0 ∨ (mvs P).length = 0 → X 16 0 0 [.ref 31, .ref g] [] (zsI M 31 2 (-1)) := by
    intro h0
    have fr0 : lkF M (zsI M 31 2 (-1)) g k := lkF.I hg
    have W0 := fr0.1.wd hW
    refine l16 _ _ _ _ _ ⟨rfl, vX8_look_16 W0 ?_⟩
    refine c_valueBelow 6 0 0 (zsI M 31 2 (-1)) P k n (-2000) 2000 _ (by omega) (by omega) W0 (fr0.cok hg hC) hG hPC (by omega) (by omega) (hS.I hg) (by omega) (by omega) (by omega) (fun N w fr sN w1 w2 hw => ?_)
    have WN := fr.1.wd W0
    refine vkX8_look_33 WN (fun M33 e33 => ?_)
    have hv : val d P = val 0 P := by
      rcases h0 with q | q
      · rw [q]
      · rw [val_0 d q, val_0 0 q]
    have hb := val_bd 0 P
    have ew : w = val 0 P := by
      have := hw.1
      rw [sft_0] at this
      exact this (by omega) (by omega)
    refine hq M33 ?_ ?_ ?_ ?_
    · rw [e33]; exact (fr0.tr fr.lk).tr (lkF.I hg)
    · rw [e33]; exact sN.I hg
    · rw [e33, zsI_s, ew, hv]
    · rw [e33, zsI_n (by omega), sFr_31 hg fr, zsI_s]
      unfold bstS
      rw [if_pos h0]
      rfl
  refine l0 _ _ _ _ _ ⟨rfl, vX8_look_0 hW (fun M2 e2 => ?_)⟩
  have ed := nI_eq (a := d) (b := 0) (by omega) (by decide)
  have el := nI_eq (a := (mvs P).length) (b := 0) (by omega) (by decide)
  have h3 : M2.1 g 3 = nI (mvs P).length := by rw [e2, zsI_o (by omega)]; exact hLs.1
  rw [h3]
  refine ⟨fun w => by rw [e2]; exact f16 (Or.inl (ed.mp w)), fun w => ⟨fun w2 => by rw [e2]; exact f16 (Or.inr (el.mp w2)), fun w2 => fun M41 e41 => ?_⟩⟩
  have hd0 : d ≠ 0 := fun z => w (ed.mpr z)
  have hl0 : (mvs P).length ≠ 0 := fun z => w2 (el.mpr z)
  obtain ⟨e, rfl⟩ : ∃ e, d = e + 1 := ⟨d - 1, by omega⟩
  have hx : ∀ m, bk (val e (mkM P m)) = - sft 1 (val e (mkM P m)) := fun m => by
    have := sft_bk (a := 0) (by omega) (by omega) (val_tr e (mkM P m) (by omega))
    rw [sft_0] at this
    exact this
  have hbd : ∀ m, -1000 ≤ bk (val e (mkM P m)) ∧ bk (val e (mkM P m)) ≤ 1000 := fun m => bk_bd (val_bd e _)
  have hvd : val (e + 1) P = vlL (fun m => bk (val e (mkM P m))) (mvs P) (-2000) := by
    show (if (mvs P).length = 0 then stl P else _) = _
    rw [if_neg hl0]
  have hbs : bstS (e + 1) P = csL 0 (fun m => bk (val e (mkM P m))) (mvs P) 0 (-2000) (-1) := by
    unfold bstS
    rw [if_neg (by omega)]
    rfl
  have loop : ∀ (r j : Nat) (b c : Int) (K : zM), j + r = (mvs P).length → lkF M K g k → sSt K g P k → K.1 31 1 = iI b → K.1 31 2 = iI c → -2000 ≤ b → b ≤ 1000 → vlL (fun m => bk (val e (mkM P m))) ((mvs P).drop j) b = val (e + 1) P → csL 0 (fun m => bk (val e (mkM P m))) ((mvs P).drop j) j b c = bstS (e + 1) P → X 46 0 0 [.ref 31, .ref g, .int (nI (e + 1)), .int (nI j)] [] K := by
    intro r
    induction r with
    | zero =>
      intro j b c K hj frK sK k1 k2 b1 b2 hv hc
      have WK := frK.1.wd hW
      refine l46 _ _ _ _ _ ⟨rfl, vX8_look_46 WK ?_⟩
      rw [show K.1 g 3 = nI (mvs P).length from by rw [frK.1.i (by simp; omega)]; exact hLs.1]
      refine ⟨fun _ => ?_, fun w => absurd ((nI_leI (a := (mvs P).length) (b := j) (by omega) (by omega)).mpr (by omega)) w⟩
      rw [List.drop_eq_nil_of_le (by omega)] at hv hc
      refine hq K frK sK ?_ ?_
      · rw [k1, ← hv]; rfl
      · rw [k2, ← hc]; rfl
    | succ r ihr =>
      intro j b c K hj frK sK k1 k2 b1 b2 hv hc
      have WK := frK.1.wd hW
      have CK := frK.cok hg hC
      have hjl : j < (mvs P).length := by omega
      have hgj : (mvs P)[j]? = some (mvs P)[j] := List.getElem?_eq_getElem hjl
      have hmem := List.getElem_mem hjl
      have hdr := List.drop_eq_getElem_cons hjl
      obtain ⟨m, em⟩ : ∃ m, m = (mvs P)[j] := ⟨_, rfl⟩
      rw [← em] at hgj hmem hdr
      rw [hdr] at hv hc
      have rowK : ∀ K' : zM, zSm [g + 1, g + 2, g + 3, g + 4, g + 5, g + 6, 31, 32] K K' → K'.1 (g + 7) j = nI m := fun K' h => by
        rw [h.i (by simp; omega), frK.1.i (by simp; omega)]
        exact hLs.2 j m hgj
      refine l46 _ _ _ _ _ ⟨rfl, vX8_look_46 WK ?_⟩
      rw [show K.1 g 3 = nI (mvs P).length from by rw [frK.1.i (by simp; omega)]; exact hLs.1, nI_clamp (by omega), rowK K zSm.rf]
      refine ⟨fun w => absurd ((nI_leI (a := (mvs P).length) (b := j) (by omega) (by omega)).mp w) (by omega), fun _ => ⟨vp_in_nI (by omega) (by omega), ?_⟩⟩
      refine c_makeM WK sK hG hPC (by omega) (by omega) hmem (fun K1 sm1 sv1 so1 => ?_)
      have fr1 : lkF K K1 g k := ⟨sm1.mono (by simp), so1⟩
      have W1 := sm1.wd WK
      have k11 : K1.1 31 = K.1 31 := sm_31 hg sm1 (by simp; omega)
      refine vkX8_look_67 W1 ?_
      rw [show nI (e + 1) - (1 : Int32) = nI e from nI_pred e, k11, k1, iI_neg]
      have hK := mvs_mvK hmem
      have hG1 : Gd (mkM P m) := Gd_mk hG hPC (by omega) hK
      have hPC1 : psC (n + 1) (mkM P m) := psC_mk hG.1.2.1 hPC _ _ _
      refine c_valueBelow 6 e 1 K1 (mkM P m) (k + 1) (n + 1) (-2000) (-b) _ (by omega) (by omega) W1 (fr1.cok hg CK) hG1 hPC1 (by omega) (by omega) ⟨sv1.1, sv1.2.1⟩ (by omega) (by omega) (by omega) (fun K2 u fr2 sK2 u1 u2 hu => ?_)
      have W2 := fr2.1.wd W1
      have fr12 : lkF K K2 g k := fr1.tr (fr2.low (k2 := k) (r2 := 0) (by omega) (by omega)).lk
      have k22 : K2.1 31 = K.1 31 := by rw [sFr_31 hg fr2, k11]
      refine vkX8_look_87 W2 ?_
      rw [nI_clamp (by omega), rowK K2 fr12.1]
      refine ⟨vp_in_nI (by omega) (by omega), c_unmakeM W2 (P := P) (m := m) (k := k) ⟨sK2.1, sK2.2, by rw [fr2.2.1 k (by omega)]; exact sv1.2.2⟩ hG hPC (by omega) (by omega) hmem (fun K3 sm3 sK3 => ?_)⟩
      have fr3 : lkF K2 K3 g k := ⟨sm3.mono (by simp), fun i _ => by rw [sm3.i (by simp)]⟩
      have W3 := sm3.wd W2
      have frA : lkF M K3 g k := frK.tr (fr12.tr fr3)
      have k33 : K3.1 31 = K.1 31 := by rw [sm_31 hg sm3 (by simp; omega), k22]
      have hxm := hx m
      have hbm := hbd m
      obtain ⟨u3, u4, u5⟩ := hu
      have ew := iI_le (a := -u) (b := b) (by omega) (by omega) (by omega) (by omega)
      refine vkX8_look_103 W3 ?_
      rw [iI_neg, k33, k1]
      unfold vlL at hv
      unfold csL at hc
      refine ⟨fun z => l123 _ _ _ _ _ ⟨rfl, vX8_look_123 W3 ?_⟩, fun z => fun M115 e115 => fun M120 e120 => ?_⟩
      · have hle : bk (val e (mkM P m)) ≤ b := by
          by_cases q : bk (val e (mkM P m)) ≤ b
          · exact q
          · have := u3 (by omega) (by omega)
            have := ew.mp z
            omega
        rw [if_pos hle] at hv hc
        rw [if_neg (fun q => q.2 hle)] at hc
        rw [nI_1]
        exact ihr (j + 1) b c K3 (by omega) frA sK3 (by rw [k33]; exact k1) (by rw [k33]; exact k2) b1 b2 hv hc
      · have hgt : ¬ bk (val e (mkM P m)) ≤ b := fun q => z (ew.mpr (by have := u5 (by omega); omega))
        have eu : -u = bk (val e (mkM P m)) := by have := u3 (by omega) (by omega); omega
        rw [if_neg hgt] at hv hc
        rw [if_pos ⟨rfl, hgt⟩] at hc
        have sM : lkF K3 M120 g k := by rw [e120, e115]; exact (lkF.I hg).tr (lkF.I hg)
        refine l123 _ _ _ _ _ ⟨rfl, vX8_look_123 (sM.1.wd W3) ?_⟩
        rw [nI_1]
        refine ihr (j + 1) (bk (val e (mkM P m))) (j : Int) M120 (by omega) (frA.tr sM) (by rw [e120, e115]; exact (sK3.I hg).I hg) ?_ ?_ (by omega) (by omega) hv hc
        · rw [e120, zsI_n (by omega), e115, zsI_s, eu]
        · rw [e120, zsI_s, iI_nat]
  have fr41 : lkF M M41 g k := by rw [e41, e2]; exact (lkF.I hg).tr (lkF.I hg)
  refine loop (mvs P).length 0 (-2000) (-1) M41 (by omega) fr41 (by rw [e41, e2]; exact (hS.I hg).I hg) ?_ ?_ (by omega) (by omega) ?_ ?_
  · rw [e41, zsI_s]; rfl
  · rw [e41, zsI_n (by omega), e2, zsI_s]; rfl
  · rw [List.drop_zero, hvd]
  · rw [List.drop_zero, hbs]
