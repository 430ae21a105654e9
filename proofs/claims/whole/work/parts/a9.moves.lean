/-! THE CLASS'S READER: the moves behind the record -/
/-- a game whose board went ahead and came back -/
theorem gGm.back {L : List Nat} {M N : zM} {g : Nat} {G : Gm} (h : gGm M g G) (hs : zSm L M N) (hL : g ∉ L ∧ g + 7 ∉ L ∧ g + 8 ∉ L ∧ g + 9 ∉ L) (hS : sSt N g (lst G) (G.1 - 1)) (hv : ∀ i, i < G.1 - 1 → N.1 (g + 5) i = M.1 (g + 5) i) : gGm N g G := by
  obtain ⟨h1, h2, h3, h4, h5, h6⟩ := h
  refine ⟨hS.1, ⟨by rw [hs.i hL.1]; exact h2.1, fun k v hk => by rw [hs.i hL.2.1]; exact h2.2 k v hk⟩, by rw [hs.i hL.1]; exact h3, hS.2, fun i hi => gRow_sm hs ⟨hL.2.2.1, hL.2.2.2⟩ (h5 i hi), fun i hi => ?_⟩
  obtain ⟨u, u1, u2, u3, u4⟩ := h6 i hi
  exact ⟨u, u1, u2, u3, by rw [hv i (by omega)]; exact u4⟩
theorem gGm.sm {L : List Nat} {M N : zM} {g : Nat} {G : Gm} (h : gGm M g G) (hs : zSm L M N) (hL : ∀ b, g ≤ b → b ≤ g + 9 → b ∉ L) : gGm N g G :=
  h.back hs ⟨hL g (by omega) (by omega), hL _ (by omega) (by omega), hL _ (by omega) (by omega), hL _ (by omega) (by omega)⟩ ⟨bPs.sm hs (fun b b1 b2 => hL b (by omega) (by omega)) h.1, by rw [hs.i (hL _ (by omega) (by omega))]; exact h.2.2.2.1⟩ (fun i _ => by rw [hs.i (hL _ (by omega) (by omega))])
theorem c_wordEnd {mc ms : Nat} {M : zM} {g : Nat} (hW : zWd M g) {T : Nat → Nat} (hT : ∀ i, T i < 256) {e p : Nat} (hA : cAt M T e p) {s : Nat} (hs : s ≤ e) {Q : zQt} (hq : Q (some (.int (nI (wE T e (e - s) s)))) M) : wX6_wordEnd mc ms [.ref 27, .int (nI s)] M Q := by
  refine ⟨⟨Nat.le_of_ble_eq_true rfl, rfl⟩, fun X l0 l2 => ?_⟩
  obtain ⟨h1, h2, h3, h4, h5⟩ := hA
  obtain ⟨W, eW⟩ : ∃ W, W = wE T e (e - s) s := ⟨_, rfl⟩
  rw [← eW] at hq
  have loop : ∀ (r k : Nat), k + r = e → wE T e r k = W → X 2 0 0 [.ref 27, .int (nI k)] [] M := by
    intro r
    induction r with
    | zero =>
      intro k hk hw
      refine l2 _ _ _ _ _ ⟨rfl, vX6_wordEnd_2 hW ?_⟩
      rw [h2]
      refine ⟨fun _ => ?_, fun w => absurd ((nI_leI (a := e) (b := k) (by omega) (by omega)).mpr (by omega)) w⟩
      rw [← hw] at hq
      unfold wE at hq
      rw [show e = k by omega]
      exact hq
    | succ r ih =>
      intro k hk hw
      have hTk := hT k
      have e32 := nI_eq (a := T k) (b := 32) (by omega) (by decide)
      refine l2 _ _ _ _ _ ⟨rfl, vX6_wordEnd_2 hW ?_⟩
      rw [h2, nI_clamp (by omega), h1 k (by omega)]
      unfold wE at hw
      refine ⟨fun w => absurd ((nI_leI (a := e) (b := k) (by omega) (by omega)).mp w) (by omega), fun _ => ⟨vp_in_nI (by omega) (by omega), fun w => ?_, fun w => ?_⟩⟩
      · rw [if_neg (fun z => z.2 (e32.mp w))] at hw
        rw [hw]
        exact hq
      · rw [if_pos ⟨by omega, fun z => w (e32.mpr z)⟩] at hw
        rw [nI_1]
        exact ih (k + 1) (by omega) hw
  exact l0 _ _ _ _ _ ⟨rfl, vX6_wordEnd_0 hW (loop (e - s) s (by omega) eW.symm)⟩
/-- whether the sign is right, as the reference and as the class see it -/
theorem sg_cmp {P : Ps} {m : Nat} {T : Nat → Nat} {a n : Nat} (h : spl P m = txt T a (fnB T a n)) : spl P m ++ sgl P m = txt T a n ↔ sgN P m = sgW T a n := by
  have hs := sgN_sgl P m
  have hle := fnB_le T a n
  by_cases q : 0 < n ∧ (T (a + n - 1) = 43 ∨ T (a + n - 1) = 35)
  · have hb : fnB T a n = n - 1 := by unfold fnB; rw [if_pos q]
    have hw : sgW T a n = T (a + n - 1) := by unfold sgW; rw [hb, if_pos (by omega)]
    have ht : txt T a n = txt T a (n - 1) ++ [T (a + n - 1)] := by
      have := txt_snoc T a (n - 1)
      rw [show n - 1 + 1 = n by omega, show a + (n - 1) = a + n - 1 by omega] at this
      exact this
    rw [hw, ht, ← hb, ← h]
    constructor
    · intro z
      have z2 := List.append_cancel_left z
      rw [hs] at z2
      by_cases y : sgN P m = 0
      · rw [if_pos y] at z2; exact absurd z2 (by simp)
      · rw [if_neg y] at z2
        simpa using z2
    · intro z
      have y : sgN P m ≠ 0 := by rw [z]; omega
      rw [if_neg y] at hs
      rw [hs, z]
  · have hb : fnB T a n = n := by unfold fnB; rw [if_neg q]
    have hw : sgW T a n = 0 := by unfold sgW; rw [hb, if_neg (by omega)]
    rw [hw, ← hb, ← h]
    constructor
    · intro z
      rw [hs] at z
      by_cases y : sgN P m = 0
      · exact y
      · rw [if_neg y] at z
        have := congrArg List.length z
        simp at this
    · intro z
      rw [if_pos z] at hs
      rw [hs, List.append_nil]
/-- the frame of reading moves -/
abbrev rmC (g : Nat) : List Nat := [26, 27, 28, g, g + 1, g + 2, g + 3, g + 4, g + 5, g + 6, g + 7, g + 8, g + 9]
set_option maxHeartbeats 8000000 in
theorem c_readMovesC {mc ms : Nat} {M : zM} {g : Nat} (hW : zWd M g) (hC : cOk M) {T : Nat → Nat} (hT : ∀ i, T i < 256) {e p0 : Nat} (hA : cAt M T e p0) {G0 : Gm} (hG0 : gmOk G0) (hM : gGm M g G0) (h1 : G0.1 = 1) {Q : zQt} (hq : ∀ N, zSm (rmC g) M N → gGm N g (rmS T e e p0 G0).2 → gmOk (rmS T e e p0 G0).2 → Q (some (.int (nI (rmS T e e p0 G0).1))) N) : wX6_readMoves mc ms [.ref 27, .ref g] M Q := by
  refine ⟨⟨Nat.le_of_ble_eq_true rfl, rfl⟩, fun X l0 l2 l34 l143 => ?_⟩
  have hg := hW.2
  have he := hA.2.2.2.1
  obtain ⟨R, eR⟩ : ∃ R, R = rmS T e e p0 G0 := ⟨_, rfl⟩
  rw [← eR] at hq
  have loop : ∀ (fu p : Nat) (G : Gm) (N : zM), e ≤ p + fu → zSm (rmC g) M N → cAt N T e p → gGm N g G → gmOk G → R = rmS T e fu p G → X 2 0 0 [.ref 27, .ref g, .int (nI (G.1 - 1))] [] N := by
    intro fu
    induction fu with
    | zero =>
      intro p G N hfu sN aN gN hG hR
      have WN := sN.wd hW
      have h6 := hG.2.1
      have hp := aN.2.2.2.2
      refine l2 _ _ _ _ _ ⟨rfl, vX6_readMoves_2 WN ⟨fun w => absurd ((nI_ltI (a := 600) (b := G.1 - 1) (by decide) (by omega)).mp w) (by omega), fun _ => ?_⟩⟩
      rw [aN.2.1, aN.2.2.1]
      refine ⟨fun _ => l143 _ _ _ _ _ ⟨rfl, vX6_readMoves_143 WN ?_⟩, fun w => absurd ((nI_leI (a := e) (b := p) (by omega) (by omega)).mpr (by omega)) w⟩
      have hR2 : R = (0, G) := hR
      have := hq N sN (by rw [hR2]; exact gN) (by rw [hR2]; exact hG)
      rw [hR2] at this
      exact this
    | succ fu ih =>
      intro p G N hfu sN aN gN hG hR
      have WN := sN.wd hW
      have CN : cOk N := hC.sm sN (fun b b1 b2 q => by simp at q; omega)
      have h6 := hG.2.1
      have hpos := hG.1
      have hp := aN.2.2.2.2
      obtain ⟨hGd, hPC⟩ := hG.last
      have hLen := Gd_len hGd
      have ee := nI_leI (a := e) (b := p) (by omega) (by omega)
      refine l2 _ _ _ _ _ ⟨rfl, vX6_readMoves_2 WN ⟨fun w => absurd ((nI_ltI (a := 600) (b := G.1 - 1) (by decide) (by omega)).mp w) (by omega), fun _ => ?_⟩⟩
      rw [aN.2.1, aN.2.2.1]
      refine ⟨fun w => l143 _ _ _ _ _ ⟨rfl, vX6_readMoves_143 WN ?_⟩, fun w => ?_⟩
      · have hR2 : R = (0, G) := by rw [hR, rmS, if_neg (by have := ee.mp w; omega)]
        have := hq N sN (by rw [hR2]; exact gN) (by rw [hR2]; exact hG)
        rw [hR2] at this
        exact this
      have hpe : p < e := by have : ¬ e ≤ p := fun z => w (ee.mpr z); omega
      -- a fault ends it
      have bad_ : ∀ (k : Nat) (K : zM), wdS T e p G = -(k : Int) → 0 < k → zSm (rmC g) M K → gGm K g G → Q (some (.int (nI k))) K := by
        intro k K hk hk0 sK gK
        have hR2 : R = (k, G) := by
          rw [hR, rmS, if_pos hpe, if_pos (by omega), hk]
          congr 1
          omega
        have := hq K sK (by rw [hR2]; exact gK) (by rw [hR2]; exact hG)
        rw [hR2] at this
        exact this
      have f34 : (ended (vdG G) ∨ G.1 = 601) → X 34 0 0 [] [] N := fun h => l34 _ _ _ _ _ ⟨rfl, vX6_readMoves_34 WN (bad_ 20 N (by unfold wdS; rw [if_pos h]; rfl) (by omega) sN gN)⟩
      refine c_isOverC WN hG gN (fun z => vkX6_readMoves_24 WN ⟨fun u => absurd u (by decide), fun _ => f34 (Or.inl z)⟩) (fun z => vkX6_readMoves_24 WN ⟨fun _ => ?_, fun u => absurd rfl u⟩)
      refine c_isFullC WN hG gN (fun z2 => vkX6_readMoves_31 WN ⟨fun u => absurd u (by decide), fun _ => f34 (Or.inr z2)⟩) (fun z2 => vkX6_readMoves_31 WN ⟨fun _ => ?_, fun u => absurd rfl u⟩)
      have hwd : wdS T e p G = fnS (lst G) T (p + 1) (wE T e (e - (p + 1)) (p + 1) - (p + 1)) := by unfold wdS; rw [if_neg (fun u => u.elim z z2)]
      rw [aN.2.2.1, nI_1]
      refine c_wordEnd WN hT aN (by omega) (vkX6_readMoves_50 WN (fun M50 e50 => ?_))
      obtain ⟨hw1, hw2⟩ := wE_bd (T := T) (e := e) (e - (p + 1)) (p + 1) (by omega)
      obtain ⟨q, eq⟩ : ∃ q, q = wE T e (e - (p + 1)) (p + 1) := ⟨_, rfl⟩
      rw [← eq] at hw1 hw2 hwd e50
      obtain ⟨n, en⟩ : ∃ n, n = q - (p + 1) := ⟨_, rfl⟩
      have eqn : q = p + 1 + n := by omega
      rw [← en] at hwd
      have s50 : zSm (rmC g) M M50 := by rw [e50]; exact sN.tr (zSm.I (by simp))
      have W50 := s50.wd hW
      have a50 : cAt M50 T e q := by rw [e50]; exact aN.go (by omega)
      have g50 : gGm M50 g G := by rw [e50]; exact gN.sm (L := [27]) (zSm.I (by simp)) (fun b b1 b2 u => by simp at u; omega)
      rw [a50.2.2.1, eqn]
      refine c_readWord W50 hT a50.1 (by omega) (fun K hf sK hwS h5 hn7 => vkX6_readMoves_69 (sK.wd W50) ⟨fun u => absurd u (by decide), fun _ => ?_⟩) (fun K hf sK => vkX6_readMoves_69 (sK.wd W50) ⟨fun _ => bad_ 21 K ?_ (by omega) (s50.tr (sK.mono (by simp))) (g50.sm sK (fun b b1 b2 u => by simp at u; omega)), fun u => absurd rfl u⟩)
      rotate_left
      · rw [hwd]; unfold fnS; rw [if_pos hf]; rfl
      have sMK : zSm (rmC g) M K := s50.tr (sK.mono (by simp))
      have WK := sMK.wd hW
      have CK : cOk K := hC.sm sMK (fun b b1 b2 u => by simp at u; omega)
      have gK : gGm K g G := g50.sm sK (fun b b1 b2 u => by simp at u; omega)
      have aK : cAt K T e q := a50.sm sK ⟨by simp, by simp⟩
      have hbn := fnB_le T (p + 1) n
      have hfn : fnS (lst G) T (p + 1) n = fdL (lst G) T (fmS T (p + 1) (fnB T (p + 1) n)) (p + 1) (fnB T (p + 1) n) n (mvs (lst G)) 22 := by unfold fnS; rw [if_neg hf]
      refine c_choose WK hGd gK.1 gK.2.1 hT (by omega) rfl hf hwS (fun k m hk hlk hsp => vkX6_readMoves_87 WK ⟨fun _ => ?_, fun u => absurd (nI_pos' (n := k) ?_) u⟩) (fun hno hsome => vkX6_readMoves_87 WK ⟨fun u => absurd u (by decide), fun _ => ?_⟩) (fun hno => vkX6_readMoves_87 WK ⟨fun u => absurd u (by decide), fun _ => ?_⟩)
      rotate_left
      · have : k < (mvs (lst G)).length := (List.getElem?_eq_some_iff.mp hk).1
        omega
      · refine bad_ 23 K ?_ (by omega) sMK gK
        rw [hwd, hfn]
        exact fdL_23 _ _ hno (by omega) (Or.inr hsome)
      · refine bad_ 22 K ?_ (by omega) sMK gK
        rw [hwd, hfn]
        exact fdL_no _ _ hno
      have hkl : k < (mvs (lst G)).length := (List.getElem?_eq_some_iff.mp hk).1
      have hmem := List.mem_of_getElem? hk
      have h24 : fnS (lst G) T (p + 1) n = if spl (lst G) m ++ sgl (lst G) m = txt T (p + 1) n then (m : Int) else -24 := by
        rw [hfn]
        exact fdL_24 hlk hsp _ _ (fun u hu hs => spl_inj hGd hu hmem (by rw [hs, hsp])) (Or.inl hmem)
      have hcmp := sg_cmp (n := n) hsp
      rw [nI_clamp (by omega), gK.2.1.2 k m hk]
      refine ⟨vp_in_nI (by omega) (by omega), c_signC WK CK hGd (k := G.1 - 1) hPC (by omega) (by omega) ⟨gK.1, gK.2.2.2.1⟩ hmem (fun L fr sL => ?_)⟩
      have sML : zSm (rmC g) M L := sMK.tr (fr.1.mono (by simp))
      have WL := sML.wd hW
      have gL : gGm L g G := gK.back fr.1 ⟨by simp; omega, by simp; omega, by simp; omega, by simp; omega⟩ sL fr.2
      have aL : cAt L T e q := aK.sm fr.1 ⟨by simp; omega, by simp; omega⟩
      have hsN : sgN (lst G) m < 256 := by unfold sgN; split <;> (try split) <;> omega
      have hsW : sgW T (p + 1) n < 256 := by unfold sgW; split; exact hT _; omega
      have es := nI_eq (a := sgN (lst G) m) (b := sgW T (p + 1) n) (by omega) (by omega)
      refine vkX6_readMoves_113 WL ?_
      rw [show L.1 28 5 = nI (sgW T (p + 1) n) from by rw [fr.1.i (by simp; omega)]; exact h5, nI_clamp (by omega), gL.2.1.2 k m hk]
      refine ⟨fun y => ⟨vp_in_nI (by omega) (by omega), ?_⟩, fun y => bad_ 24 L ?_ (by omega) sML gL⟩
      · have hv : wdS T e p G = (m : Int) := by rw [hwd, h24, if_pos (hcmp.mpr (es.mp y))]
        have hn6 : G.1 < 601 := by omega
        refine c_addC WL (hC.sm sML (fun b b1 b2 u => by simp at u; omega)) hG gL hn6 hmem (fun J smJ gJ => vkX6_readMoves_137 (smJ.wd WL) ?_)
        have sMJ : zSm (rmC g) M J := sML.tr (smJ.mono (by simp))
        have aJ : cAt J T e q := aL.sm smJ ⟨by simp; omega, by simp; omega⟩
        have hx := ih q (gmN G m) J (by omega) sMJ aJ gJ (hG.next hn6 hmem) ?_
        · rw [gmN_1, show G.1 + 1 - 1 = G.1 by omega] at hx
          rw [show nI (G.1 - 1) + (1 : Int32) = nI (G.1 - 1 + 1) from nI_1 _, show G.1 - 1 + 1 = G.1 by omega]
          exact hx
        · rw [hR, rmS, if_pos hpe, hv, if_neg (by omega), ← eq]
          rfl
      · rw [hwd, h24, if_neg (fun u => y (es.mpr (hcmp.mp u)))]
        rfl
  refine l0 _ _ _ _ _ ⟨rfl, vX6_readMoves_0 hW ?_⟩
  have := loop e p0 G0 M (by omega) zSm.rf hA hM hG0 eR
  rw [h1] at this
  exact this
