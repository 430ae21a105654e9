/-! THE CLASS'S SEARCH: valueBelow, look -/
theorem iI_max {a b : Int} (ha : i32 a) (hb : i32 b) : (if iI a < iI b then iI b else iI a) = iI (if a < b then b else a) := by
  have e := iI_lt ha.1 ha.2 hb.1 hb.2
  by_cases q : a < b
  · rw [if_pos q, if_pos (e.mpr q)]
  · rw [if_neg q, if_neg (fun z => q (e.mp z))]
theorem stl_0 {P : Ps} (h : (mvs P).length = 0) : stl P = if chB P = true then -1000 else 0 := by
  unfold stl
  rw [if_neg (fun q => hasM_mvs.mp q h)]
theorem stl_1 {P : Ps} (h : (mvs P).length ≠ 0) : stl P = mtl P := by
  unfold stl
  rw [if_pos (hasM_mvs.mpr h)]
theorem val_0 (d : Nat) {P : Ps} (h : (mvs P).length = 0) : val d P = if chB P = true then -1000 else 0 := by
  cases d with
  | zero => exact stl_0 h
  | succ d =>
    unfold val
    rw [if_pos h]
    exact stl_0 h
set_option maxHeartbeats 4000000 in
theorem c_valueBelow {g : Nat} : ∀ (f d a : Nat) (M : zM) (P : Ps) (k n : Nat) (α β : Int) (Q : zQt), d < f → a + d ≤ 4 → zWd M g → cOk M → Gd P → psC n P → n + d < 2000 → k + d ≤ 608 → sSt M g P k → -2000 ≤ α → α < β → β ≤ 2000 → (∀ N w, sFr M N g k (384 * a) → sSt N g P k → -2000 ≤ w → w ≤ 2000 → abS α β (sft a (val d P)) w → Q (some (.int (iI w))) N) → wX8_valueBelow f 0 0 [.ref g, .ref 32, .int (nI d), .int (nI a), .int (iI α), .int (iI β)] M Q := by
  intro f
  induction f with
  | zero => intro d a M P k n α β Q hf; omega
  | succ f ih =>
    intro d a M P k n α β Q hf had hW hC hG hPC hn hk hS hα hab hβ hq
    have hg := hW.2
    have hO := hG.1
    have hc := hO.2.1
    have hLen := Gd_len hG
    refine ⟨⟨Nat.le_of_ble_eq_true rfl, rfl⟩, fun X l0 l9 l14 l42 l71 l105 l114 l188 => ?_⟩
    have e384 : nI a * (384 : Int32) = nI (384 * a) := by rw [Nat.mul_comm 384 a]; exact pk_mul a 384
    -- no move
    have f71 : ∀ N, sFr M N g k (384 * a) → sSt N g P k → (mvs P).length = 0 → (chk P.1 P.2.1 → X 71 0 0 [] [.int (nI a - (1000 : Int32))] N) ∧ (¬ chk P.1 P.2.1 → X 71 0 0 [] [.int 0] N) := by
      intro N fr sN h0
      have WN := fr.1.wd hW
      have hv := val_0 d h0
      refine ⟨fun z => l71 _ _ _ _ _ ⟨rfl, vX8_valueBelow_71 WN ?_⟩, fun z => l71 _ _ _ _ _ ⟨rfl, vX8_valueBelow_71 WN ?_⟩⟩
      · rw [iI_nat a, show (1000 : Int32) = iI 1000 from rfl, iI_sub]
        refine hq N _ fr sN (by omega) (by omega) ?_
        rw [hv, if_pos (chB_t.mpr z)]
        have e : sft a (-1000) = (a : Int) - 1000 := by unfold sft; rw [if_pos (by omega)]; omega
        rw [e]
        exact abS.rf
      · refine hq N 0 fr sN (by omega) (by omega) ?_
        rw [hv, if_neg (by rw [chB_f.mpr z]; decide)]
        have e : sft a 0 = 0 := by unfold sft; rw [if_neg (by omega), if_neg (by omega)]
        rw [e]
        exact abS.rf
    refine l0 _ _ _ _ _ ⟨rfl, vX8_valueBelow_0 hW (fxs_32 hW.1) ?_⟩
    have e0 := nI_leI (a := d) (b := 0) (by omega) (by decide)
    have e4 := nI_ltI (a := a) (b := 4) (by omega) (by decide)
    cases d with
    | zero =>
      refine ⟨fun _ => l9 _ _ _ _ _ ⟨rfl, vX8_valueBelow_9 hW (fxs_32 hW.1) (l14 _ _ _ _ _ ⟨rfl, vX8_valueBelow_14 hW (fxs_32 hW.1) ⟨fun w => absurd w (by decide), fun _ => ?_⟩⟩)⟩, fun w => absurd (e0.mpr (Nat.le_refl _)) w⟩
      rw [e384]
      refine l42 _ _ _ _ _ ⟨rfl, vX8_valueBelow_42 hW (fxs_32 hW.1) (fxs_32 hW.1) ?_⟩
      refine c_fill32 hW hC hG hS (a := a) (most := 1) (by omega) (by omega) (by omega) (fun N L fr sN hT hL hrow => ?_)
      have WN := fr.1.wd hW
      have CN := fr.cok hg hC
      have hLl : L.length ≤ (mvs P).length := by obtain ⟨T, hT⟩ := hT; rw [← hT, List.length_append]; omega
      have hz : L.length = 0 ↔ (mvs P).length = 0 := by
        constructor
        · intro z
          rcases hL with q | q
          · rw [← q]; exact z
          · omega
        · intro z; omega
      have ez := nI_eq (a := L.length) (b := 0) (by omega) (by decide)
      refine vkX8_valueBelow_45 WN (fxs_32 WN.1) ⟨fun w => ?_, fun w => ⟨fun w2 => absurd w2 (by decide), fun _ => ?_⟩⟩
      · have h0 := hz.mp (ez.mp w)
        refine c_inCheck WN CN sN.1.1 hc sN.1.2.1 (gd_king hG) (fun z => vkX8_valueBelow_59 WN (fxs_32 WN.1) ⟨fun w => absurd w (by decide), fun _ => (f71 N fr sN h0).1 z⟩) (fun z => vkX8_valueBelow_59 WN (fxs_32 WN.1) ⟨fun _ => (f71 N fr sN h0).2 z, fun w => absurd rfl w⟩)
      · have h0 : (mvs P).length ≠ 0 := fun z => w (ez.mpr (hz.mpr z))
        have hm := mtl_bd P
        have f105 : ∀ y : Int32, y = iI (mtl P) → X 105 0 0 [] [.int y] N := by
          intro y ey
          refine l105 _ _ _ _ _ ⟨rfl, vX8_valueBelow_105 WN ?_⟩
          rw [ey]
          refine hq N _ fr sN (by omega) (by omega) ?_
          have e : sft a (val 0 P) = mtl P := by
            show sft a (stl P) = _
            rw [stl_1 h0]
            unfold sft
            rw [if_neg (by omega), if_neg (by omega)]
          rw [e]
          exact abS.rf
        have hb := mt_bal hO
        have es := nI_eq (a := P.2.1) (b := 0) (by omega) (by decide)
        rw [sN.1.2.1, sN.1.2.2.2.2.2.2]
        refine ⟨fun z => f105 _ ?_, fun z => f105 _ ?_⟩
        · rw [hb, if_pos (es.mp z)]
        · rw [hb, if_neg (fun u => z (es.mpr u)), iI_neg]
    | succ d =>
      refine ⟨fun w => absurd (e0.mp w) (by omega), fun _ => ⟨fun _ => l14 _ _ _ _ _ ⟨rfl, vX8_valueBelow_14 hW (fxs_32 hW.1) ⟨fun _ => ?_, fun w => absurd rfl w⟩⟩, fun w => absurd (e4.mpr (by omega)) w⟩⟩
      rw [e384]
      refine l42 _ _ _ _ _ ⟨rfl, vX8_valueBelow_42 hW (fxs_32 hW.1) (fxs_32 hW.1) ?_⟩
      refine c_fill32 hW hC hG hS (a := a) (most := 384) (by omega) (by omega) (by omega) (fun N L fr sN hT hL hrow => ?_)
      have eL := all_L hG hT hL
      subst eL
      have WN := fr.1.wd hW
      have CN := fr.cok hg hC
      have ez := nI_eq (a := (mvs P).length) (b := 0) (by omega) (by decide)
      refine vkX8_valueBelow_45 WN (fxs_32 WN.1) ⟨fun w => ?_, fun w => ⟨fun _ => ?_, fun w2 => absurd rfl w2⟩⟩
      · have h0 := ez.mp w
        refine c_inCheck WN CN sN.1.1 hc sN.1.2.1 (gd_king hG) (fun z => vkX8_valueBelow_59 WN (fxs_32 WN.1) ⟨fun w => absurd w (by decide), fun _ => (f71 N fr sN h0).1 z⟩) (fun z => vkX8_valueBelow_59 WN (fxs_32 WN.1) ⟨fun _ => (f71 N fr sN h0).2 z, fun w => absurd rfl w⟩)
      have h0 : (mvs P).length ≠ 0 := fun z => w (ez.mpr z)
      have hmx := sft_mx (a := a) (d := d) (by omega) (by omega) h0
      have f188 : ∀ K w, sFr M K g k (384 * a) → sSt K g P k → -2000 ≤ w → w ≤ 2000 → abS α β (sft a (val (d + 1) P)) w → X 188 0 0 [.int (iI w)] [] K := fun K w frK sK w1 w2 hw => l188 _ _ _ _ _ ⟨rfl, vX8_valueBelow_188 (frK.1.wd hW) (hq K w frK sK w1 w2 hw)⟩
      have loop : ∀ (r j : Nat) (w : Int) (K : zM), j + r = (mvs P).length → sFr M K g k (384 * a) → sSt K g P k → (∀ t v, (mvs P)[t]? = some v → K.1 32 (384 * a + t) = nI v) → -2000 ≤ w → w ≤ 2000 → abI α β (fun m => - sft (a + 1) (val d (mkM P m))) (mvs P) j w → X 114 0 0 [.ref g, .ref 32, .int (nI (d + 1)), .int (nI a), .int (iI β), .int (nI (384 * a)), .int (nI (mvs P).length), .int (iI w), .int (nI (384 * a + j))] [] K := by
        intro r
        induction r with
        | zero =>
          intro j w K hj frK sK rowK w1 w2 hI
          have WK := frK.1.wd hW
          refine l114 _ _ _ _ _ ⟨rfl, vX8_valueBelow_114 WK (fxs_32 WK.1) ?_⟩
          rw [nI_add]
          refine ⟨fun _ => f188 K w frK sK w1 w2 (hI.fin hab hmx (Or.inl (by omega))), fun w => absurd ((nI_leI (a := 384 * a + (mvs P).length) (b := 384 * a + j) (by omega) (by omega)).mpr (by omega)) w⟩
        | succ r ihr =>
          intro j w K hj frK sK rowK w1 w2 hI
          have WK := frK.1.wd hW
          have CK := frK.cok hg hC
          have hjl : j < (mvs P).length := by omega
          have hgj : (mvs P)[j]? = some (mvs P)[j] := List.getElem?_eq_getElem hjl
          have hmem := List.getElem_mem hjl
          obtain ⟨m, em⟩ : ∃ m, m = (mvs P)[j] := ⟨_, rfl⟩
          rw [← em] at hgj hmem
          refine l114 _ _ _ _ _ ⟨rfl, vX8_valueBelow_114 WK (fxs_32 WK.1) ?_⟩
          rw [nI_add, nI_clamp (by omega), rowK j m hgj]
          have eb := iI_le (a := β) (b := w) (by omega) (by omega) (by omega) (by omega)
          refine ⟨fun w => absurd ((nI_leI (a := 384 * a + (mvs P).length) (b := 384 * a + j) (by omega) (by omega)).mp w) (by omega), fun _ => ⟨fun z => f188 K w frK sK w1 w2 (hI.fin hab hmx (Or.inr (eb.mp z))), fun z => ⟨vp_in_nI (by omega) (by omega), ?_⟩⟩⟩
          have hwb : w < β := by
            have : ¬ β ≤ w := fun u => z (eb.mpr u)
            omega
          refine c_makeM WK sK hG hPC (by omega) (by omega) hmem (fun K1 sm1 sv1 so1 => ?_)
          have fr1 : sFr K K1 g k (384 * (a + 1)) := sFr.mk hg sm1 so1
          have W1 := sm1.wd WK
          refine vkX8_valueBelow_142 W1 (fxs_32 W1.1) ?_
          rw [nI_1, show nI (d + 1) - (1 : Int32) = nI d from nI_pred d, iI_neg, iI_neg]
          have hK := mvs_mvK hmem
          have hG1 : Gd (mkM P m) := Gd_mk hG hPC (by omega) hK
          have hPC1 : psC (n + 1) (mkM P m) := psC_mk hG.1.2.1 hPC _ _ _
          refine ih d (a + 1) K1 (mkM P m) (k + 1) (n + 1) (-β) (-w) _ (by omega) (by omega) W1 (fr1.cok hg CK) hG1 hPC1 (by omega) (by omega) ⟨sv1.1, sv1.2.1⟩ (by omega) (by omega) (by omega) (fun K2 u fr2 sK2 u1 u2 hu => ?_)
          have W2 := fr2.1.wd W1
          refine vkX8_valueBelow_159 W2 (fxs_32 W2.1) ?_
          rw [nI_clamp (by omega), show K2.1 32 (384 * a + j) = nI m from by rw [fr2.2.2 _ (by omega), fr1.2.2 _ (by omega)]; exact rowK j m hgj]
          refine ⟨vp_in_nI (by omega) (by omega), c_unmakeM W2 (P := P) (m := m) (k := k) ⟨sK2.1, sK2.2, by rw [fr2.2.1 k (by omega)]; exact sv1.2.2⟩ hG hPC (by omega) (by omega) hmem (fun K3 sm3 sK3 => ?_)⟩
          have fr3 : sFr K2 K3 g k (384 * (a + 1)) := sFr.un hg sm3
          have W3 := sm3.wd W2
          refine vkX8_valueBelow_173 W3 (fxs_32 W3.1) ?_
          have frA : sFr K K3 g k (384 * (a + 1)) := (fr1.tr (fr2.low (by omega) (Nat.le_refl _))).tr fr3
          rw [iI_neg, iI_max ⟨by omega, by omega⟩ ⟨by omega, by omega⟩, nI_1]
          have hst : abI α β (fun m => - sft (a + 1) (val d (mkM P m))) (mvs P) (j + 1) (if w < -u then -u else w) := hI.step hgj hwb (by rw [Int.neg_neg]; exact hu)
          refine ihr (j + 1) _ K3 (by omega) (frK.tr (frA.low (Nat.le_refl _) (by omega))) sK3 (fun t v ht => ?_) (by split <;> omega) (by split <;> omega) hst
          have htl : t < (mvs P).length := (List.getElem?_eq_some_iff.mp ht).1
          rw [frA.2.2 _ (by omega)]
          exact rowK t v ht
      exact loop (mvs P).length 0 α N (by omega) fr sN (fun t v ht => hrow t v ht) hα (by omega) ⟨Int.le_refl _, fun _ t m ht => absurd ht (by omega), Or.inl rfl⟩
