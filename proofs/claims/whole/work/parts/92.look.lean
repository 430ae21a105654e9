/-! THE CLASS'S SEARCH: how many lines -/
/-- the board stands at P, with k moves made -/
def sSt (M : zM) (g : Nat) (P : Ps) (k : Nat) : Prop := bPs M g P ∧ M.1 (g + 1) 11 = nI k
/-- the board stands behind move m of P -/
def sSv (M : zM) (g : Nat) (P : Ps) (m k : Nat) : Prop := bPs M g (mkM P m) ∧ M.1 (g + 1) 11 = nI (k + 1) ∧ M.1 (g + 5) k = nI (svW P (m % 64) (m / 64 % 64))
theorem c_makeM {mc ms : Nat} {M : zM} {g : Nat} (hW : zWd M g) {P : Ps} {k : Nat} (hS : sSt M g P k) (hG : Gd P) {n : Nat} (hC : psC n P) (hn : n < 2000) (hk6 : k < 608) {m : Nat} (hm : m ∈ mvs P) {Q : zQt} (hq : ∀ N, zSm [g + 1, g + 2, g + 3, g + 4, g + 5] M N → sSv N g P m k → (∀ i, i < k → N.1 (g + 5) i = M.1 (g + 5) i) → Q none N) : wX0_make mc ms [.ref (g + 1), .int (nI m)] M Q := by
  have em : m = m % 64 + 64 * (m / 64 % 64) + 4096 * (m / 4096) := (mvs_parts hm).2.2.2.2
  have key : wX0_make mc ms [.ref (g + 1), .int (nI (m % 64 + 64 * (m / 64 % 64) + 4096 * (m / 4096)))] M Q :=
    c_makeC hW hS.1 hG hC hn (mvs_mvK hm) hS.2 hk6 (fun N sm hP h11 hsv ho => hq N sm ⟨hP, h11, hsv⟩ (fun i hi => ho i (by omega)))
  rw [← em] at key
  exact key
theorem c_unmakeM {mc ms : Nat} {M : zM} {g : Nat} (hW : zWd M g) {P : Ps} {m k : Nat} (hS : sSv M g P m k) (hG : Gd P) {n : Nat} (hC : psC n P) (hn : n < 2000) (hk6 : k < 608) (hm : m ∈ mvs P) {Q : zQt} (hq : ∀ N, zSm [g + 1, g + 2, g + 3, g + 4] M N → sSt N g P k → Q none N) : wX0_unmake mc ms [.ref (g + 1), .int (nI m)] M Q := by
  have em : m = m % 64 + 64 * (m / 64 % 64) + 4096 * (m / 4096) := (mvs_parts hm).2.2.2.2
  have key : wX0_unmake mc ms [.ref (g + 1), .int (nI (m % 64 + 64 * (m / 64 % 64) + 4096 * (m / 4096)))] M Q :=
    c_unmake hW hS.1 hG hC hn (mvs_mvK hm) hS.2.1 hk6 hS.2.2 (fun N sm hP h11 => hq N sm ⟨hP, h11⟩)
  rw [← em] at key
  exact key
/-- what a search leaves as it was -/
def sFr (M N : zM) (g k r : Nat) : Prop := zSm [g + 1, g + 2, g + 3, g + 4, g + 5, g + 6, 32] M N ∧ (∀ i, i < k → N.1 (g + 5) i = M.1 (g + 5) i) ∧ ∀ i, i < r → N.1 32 i = M.1 32 i
theorem sFr.rf {M : zM} {g k r : Nat} : sFr M M g k r := ⟨zSm.rf, fun _ _ => rfl, fun _ _ => rfl⟩
theorem sFr.tr {M N K : zM} {g k r : Nat} (h : sFr M N g k r) (h2 : sFr N K g k r) : sFr M K g k r := ⟨h.1.tr h2.1, fun i hi => (h2.2.1 i hi).trans (h.2.1 i hi), fun i hi => (h2.2.2 i hi).trans (h.2.2 i hi)⟩
theorem sFr.low {M N : zM} {g k r k2 r2 : Nat} (h : sFr M N g k r) (hk : k2 ≤ k) (hr : r2 ≤ r) : sFr M N g k2 r2 := ⟨h.1, fun i hi => h.2.1 i (by omega), fun i hi => h.2.2 i (by omega)⟩
theorem sFr.cok {M N : zM} {g k r : Nat} (h : sFr M N g k r) (hg : g = 35 ∨ g = 45) (hC : cOk M) : cOk N := cOk.sm h.1 (fun b b1 b2 q => by simp at q; omega) hC
theorem sFr.mk {M N : zM} {g k r : Nat} (hg : g = 35 ∨ g = 45) (h : zSm [g + 1, g + 2, g + 3, g + 4, g + 5] M N) (hs : ∀ i, i < k → N.1 (g + 5) i = M.1 (g + 5) i) : sFr M N g k r := ⟨h.mono (by simp), hs, fun i _ => by rw [h.i (by simp; omega)]⟩
theorem sFr.un {M N : zM} {g k r : Nat} (hg : g = 35 ∨ g = 45) (h : zSm [g + 1, g + 2, g + 3, g + 4] M N) : sFr M N g k r := ⟨h.mono (by simp), fun i _ => by rw [h.i (by simp)], fun i _ => by rw [h.i (by simp; omega)]⟩
theorem jN_plus (a b : Nat) : jN a + jN b = jN (a + b) := (Int64.ofNat_add a b).symm
/-- the list of moves put into the row of searches -/
theorem c_fill32 {mc ms : Nat} {M : zM} {g : Nat} (hW : zWd M g) (hC : cOk M) {P : Ps} (hG : Gd P) {k : Nat} (hS : sSt M g P k) {a most : Nat} (ha : a ≤ 4) (hm1 : 1 ≤ most) (hm2 : most ≤ 384) {Q : zQt} (hq : ∀ N L, sFr M N g k (384 * a) → sSt N g P k → (∃ T, L ++ T = mvs P) → (L = mvs P ∨ most ≤ L.length) → (∀ j v, L[j]? = some v → N.1 32 (384 * a + j) = nI v) → Q (some (.int (nI L.length))) N) : wX5_fill mc ms [.ref (g + 6), .ref 32, .int (nI (384 * a)), .int (nI most)] M Q := by
  have hg := hW.2
  refine c_fillC hW hC hG hS.1 (x := 32) (xn := 1920) (fxs_32 hW.1) (by omega) (fun b b1 b2 => by omega) (fun b b1 b2 => by omega) (by omega) hm1 hm2 (fun N L sm hT hL hk ho => hq N L ⟨sm.mono (by simp), fun i _ => by rw [sm.i (by simp; omega)], fun i hi => ho i (by omega)⟩ ⟨bPs.sm sm (fun b b1 b2 q => by simp at q; omega) hS.1, by rw [sm.i (by simp; omega)]; exact hS.2⟩ hT hL hk)
theorem all_L {P : Ps} (hG : Gd P) {L : List Nat} (hT : ∃ T, L ++ T = mvs P) (hL : L = mvs P ∨ 384 ≤ L.length) : L = mvs P := by
  obtain ⟨T, hT⟩ := hT
  have hLen := Gd_len hG
  have hLl : L.length ≤ (mvs P).length := by rw [← hT, List.length_append]; omega
  rcases hL with q | q
  · exact q
  · omega
set_option maxHeartbeats 4000000 in
theorem c_linesBelow {g : Nat} : ∀ (f d a : Nat) (M : zM) (P : Ps) (k n : Nat) (Q : zQt), d < f → a + d ≤ 4 → zWd M g → cOk M → Gd P → psC n P → n + d < 2000 → k + d ≤ 608 → sSt M g P k → (∀ N, sFr M N g k (384 * a) → sSt N g P k → Q (some (.long (jN (lnS d P)))) N) → wX8_linesBelow f 0 0 [.ref g, .ref 32, .int (nI d), .int (nI a)] M Q := by
  intro f
  induction f with
  | zero => intro d a M P k n Q hf; omega
  | succ f ih =>
    intro d a M P k n Q hf had hW hC hG hPC hn hk hS hq
    have hg := hW.2
    refine ⟨⟨Nat.le_of_ble_eq_true rfl, rfl⟩, fun X l0 l9 l49 => ?_⟩
    have hx := fxs_32 hW.1
    refine l0 _ _ _ _ _ ⟨rfl, vX8_linesBelow_0 hW hx ?_⟩
    have e0 := nI_leI (a := d) (b := 0) (by omega) (by decide)
    have e4 := nI_ltI (a := a) (b := 4) (by omega) (by decide)
    cases d with
    | zero =>
      refine ⟨fun _ => l9 _ _ _ _ _ ⟨rfl, vX8_linesBelow_9 hW (hq M sFr.rf hS)⟩, fun w => absurd (e0.mpr (Nat.le_refl _)) w⟩
    | succ d =>
      refine ⟨fun w => absurd (e0.mp w) (by omega), fun _ => ⟨fun _ => ?_, fun w => absurd (e4.mpr (by omega)) w⟩⟩
      rw [show nI a * (384 : Int32) = nI (384 * a) from by rw [Nat.mul_comm 384 a]; exact pk_mul a 384]
      refine c_fill32 hW hC hG hS (a := a) (most := 384) (by omega) (by omega) (by omega) (fun N L fr sN hT hL hrow => ?_)
      have eL := all_L hG hT hL
      subst eL
      have hLen := Gd_len hG
      have WN := fr.1.wd hW
      refine vkX8_linesBelow_31 WN (fxs_32 WN.1) ?_
      have e1 := nI_eq (a := d + 1) (b := 1) (by omega) (by decide)
      refine ⟨fun w => ?_, fun w => ?_⟩
      · have hd : d = 0 := by have := e1.mp w; omega
        have := hq N fr sN
        rw [hd, lnS_1] at this
        rw [i64_nat (by omega)]
        exact this
      · have hd : d ≠ 0 := fun q => w (e1.mpr (by omega))
        have loop : ∀ (r j sum : Nat) (K : zM), j + r = (mvs P).length → sFr M K g k (384 * a) → sSt K g P k → (∀ t v, (mvs P)[t]? = some v → K.1 32 (384 * a + t) = nI v) → sum + (((mvs P).drop j).map (fun m => lnS d (mkM P m))).sum = lnS (d + 1) P → X 49 0 0 [.ref g, .ref 32, .int (nI (d + 1)), .int (nI a), .int (nI (384 * a)), .int (nI (mvs P).length), .long (jN sum), .int (nI (384 * a + j))] [] K := by
          intro r
          induction r with
          | zero =>
            intro j sum K hj frK sK rowK hsum
            have WK := frK.1.wd hW
            refine l49 _ _ _ _ _ ⟨rfl, vX8_linesBelow_49 WK (fxs_32 WK.1) ?_⟩
            rw [nI_add]
            refine ⟨fun _ => ?_, fun w => absurd ((nI_leI (a := 384 * a + (mvs P).length) (b := 384 * a + j) (by omega) (by omega)).mpr (by omega)) w⟩
            rw [List.drop_eq_nil_of_le (by omega)] at hsum
            have hs : sum = lnS (d + 1) P := by simpa using hsum
            rw [hs]
            exact hq K frK sK
          | succ r ihr =>
            intro j sum K hj frK sK rowK hsum
            have WK := frK.1.wd hW
            have CK := frK.cok hg hC
            have hjl : j < (mvs P).length := by omega
            have hgj : (mvs P)[j]? = some (mvs P)[j] := List.getElem?_eq_getElem hjl
            have hmem := List.getElem_mem hjl
            rw [drop_sum hjl] at hsum
            obtain ⟨m, em⟩ : ∃ m, m = (mvs P)[j] := ⟨_, rfl⟩
            rw [← em] at hgj hmem hsum
            refine l49 _ _ _ _ _ ⟨rfl, vX8_linesBelow_49 WK (fxs_32 WK.1) ?_⟩
            rw [nI_add, nI_clamp (by omega), rowK j m hgj]
            refine ⟨fun w => absurd ((nI_leI (a := 384 * a + (mvs P).length) (b := 384 * a + j) (by omega) (by omega)).mp w) (by omega), fun _ => ⟨vp_in_nI (by omega) (by omega), ?_⟩⟩
            refine c_makeM WK sK hG hPC (by omega) (by omega) hmem (fun K1 sm1 sv1 so1 => ?_)
            have fr1 : sFr K K1 g k (384 * (a + 1)) := sFr.mk hg sm1 so1
            have W1 := sm1.wd WK
            refine vkX8_linesBelow_70 W1 (fxs_32 W1.1) ?_
            rw [nI_1, show nI (d + 1) - (1 : Int32) = nI d from nI_pred d]
            have hK := mvs_mvK hmem
            have hG1 : Gd (mkM P m) := Gd_mk hG hPC (by omega) hK
            have hPC1 : psC (n + 1) (mkM P m) := psC_mk hG.1.2.1 hPC _ _ _
            refine ih d (a + 1) K1 (mkM P m) (k + 1) (n + 1) _ (by omega) (by omega) W1 (fr1.cok hg CK) hG1 hPC1 (by omega) (by omega) ⟨sv1.1, sv1.2.1⟩ (fun K2 fr2 sK2 => ?_)
            have W2 := fr2.1.wd W1
            refine vkX8_linesBelow_83 W2 (fxs_32 W2.1) ?_
            rw [nI_clamp (by omega), show K2.1 32 (384 * a + j) = nI m from by rw [fr2.2.2 _ (by omega), fr1.2.2 _ (by omega)]; exact rowK j m hgj]
            refine ⟨vp_in_nI (by omega) (by omega), c_unmakeM W2 (P := P) (m := m) (k := k) ⟨sK2.1, sK2.2, by rw [fr2.2.1 k (by omega)]; exact sv1.2.2⟩ hG hPC (by omega) (by omega) hmem (fun K3 sm3 sK3 => ?_)⟩
            have fr3 : sFr K2 K3 g k (384 * (a + 1)) := sFr.un hg sm3
            have W3 := sm3.wd W2
            refine vkX8_linesBelow_97 W3 (fxs_32 W3.1) ?_
            have frA : sFr K K3 g k (384 * (a + 1)) := (fr1.tr (fr2.low (by omega) (Nat.le_refl _))).tr fr3
            rw [jN_plus, nI_1]
            refine ihr (j + 1) (sum + lnS d (mkM P m)) K3 (by omega) (frK.tr (frA.low (Nat.le_refl _) (by omega))) sK3 (fun t v ht => ?_) (by omega)
            have htl : t < (mvs P).length := (List.getElem?_eq_some_iff.mp ht).1
            rw [frA.2.2 _ (by omega)]
            exact rowK t v ht
        have := loop (mvs P).length 0 0 N (by omega) fr sN (fun t v ht => hrow t v ht) (by rw [List.drop_zero, Nat.zero_add]; rfl)
        exact this
theorem c_linesC {mc ms : Nat} {M : zM} {g : Nat} (hW : zWd M g) (hC : cOk M) {P : Ps} (hG : Gd P) {n k d : Nat} (hPC : psC n P) (hn : n < 1990) (hk : k ≤ 600) (hd : d ≤ 4) (hS : sSt M g P k) {Q : zQt} (hq : ∀ N, sFr M N g k 0 → sSt N g P k → Q (some (.long (jN (lnS d P)))) N) : wX8_lines mc ms [.ref 31, .ref g, .int (nI d)] M Q := by
  refine ⟨⟨Nat.le_of_ble_eq_true rfl, rfl⟩, fun X l0 => ?_⟩
  refine l0 _ _ _ _ _ ⟨rfl, vX8_lines_0 hW (c_linesBelow 6 d 0 M P k n _ (by omega) (by omega) hW hC hG hPC (by omega) (by omega) hS (fun N fr sN => vkX8_lines_10 (fr.1.wd hW) (hq N fr sN)))⟩
