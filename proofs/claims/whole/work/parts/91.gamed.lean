/-! THE CLASS'S GAME: add, begin, verdict, takeBack, counts -/
theorem lst_N (G : Gm) (m : Nat) : lst (gmN G m) = mkM (lst G) m := by
  unfold lst gmN
  show updP G.2.1 G.1 _ (G.1 + 1 - 1) = _
  rw [show G.1 + 1 - 1 = G.1 by omega, updP_s]
  rfl
theorem gmN_1 (G : Gm) (m : Nat) : (gmN G m).1 = G.1 + 1 := rfl
theorem gmN_ps {G : Gm} {m i : Nat} (h : i ≠ G.1) : (gmN G m).2.1 i = G.2.1 i := updP_n h
theorem gmN_mv {G : Gm} {m i : Nat} (h : i ≠ G.1) : (gmN G m).2.2 i = G.2.2 i := pk_un h
theorem gmN_mvs {G : Gm} {m : Nat} : (gmN G m).2.2 G.1 = nI m := pk_us
theorem gRow_N {M : zM} {g : Nat} {G : Gm} {m i : Nat} (h : i < G.1) (hr : gRow M g G i) : gRow M g (gmN G m) i := by
  refine ⟨fun w hw => ?_, ?_⟩
  · rw [hr.1 w hw]
    exact hsV_congr (fun t ht => (gmN_ps (by omega)).symm) (gmN_mv (by omega)).symm w
  · rw [gmN_ps (by omega)]; exact hr.2
theorem gRow_sm {L : List Nat} {M N : zM} {g : Nat} (h : zSm L M N) (hL : g + 8 ∉ L ∧ g + 9 ∉ L) {G : Gm} {i : Nat} (hr : gRow M g G i) : gRow N g G i :=
  ⟨fun w hw => by rw [h.i hL.1]; exact hr.1 w hw, kyS.eq (fun t ht => by rw [h.j hL.2]) hr.2⟩
set_option maxHeartbeats 4000000 in
theorem c_addC {mc ms : Nat} {M : zM} {g : Nat} (hW : zWd M g) (hC : cOk M) {G : Gm} (hG : gmOk G) (h : gGm M g G) (hn : G.1 < 601) {m : Nat} (hm : m ∈ mvs (lst G)) {Q : zQt} (hq : ∀ N, zSm (gC g) M N → gGm N g (gmN G m) → Q none N) : wX4_add mc ms [.ref g, .int (nI m)] M Q := by
  refine ⟨⟨Nat.le_of_ble_eq_true rfl, rfl⟩, fun X l0 l13 l110 l167 l199 => ?_⟩
  have hg := hW.2
  obtain ⟨hP, hL, h4, h11, hr, hsv⟩ := h
  obtain ⟨hGd, hPC⟩ := hG.last
  have hml := mvs_lt hm
  have hK := mvs_mvK hm
  have em : m = m % 64 + 64 * (m / 64 % 64) + 4096 * (m / 4096) := (mvs_parts hm).2.2.2.2
  have hpos := hG.1
  have hne : ¬ nI m = (-1 : Int32) := by
    rw [iI_nat m, show (-1 : Int32) = iI (-1) from by decide, iI_eq (by omega) (by omega) (by omega) (by omega)]
    omega
  refine l0 _ _ _ _ _ ⟨rfl, vX4_add_0 hW ⟨fun w => absurd w hne, fun _ => ?_⟩⟩
  have key : wX0_make 0 0 [.ref (g + 1), .int (nI (m % 64 + 64 * (m / 64 % 64) + 4096 * (m / 4096)))] M (fun r M1 => kX4_add_13 mc ms X Q 0 0 [some (.ref g), some (.int (nI m)), none, none, none] (r.toList ++ []) M1) := by
    refine c_makeC hW hP hGd hPC (by omega) hK (k := G.1 - 1) h11 (by omega) (fun N sm hPN h11N hsvN hso => vkX4_add_13 (sm.wd hW) ?_)
    have hPN' : bPs N g (lst (gmN G m)) := by rw [lst_N]; exact hPN
    have tail := add_tail l13 l110 l167 l199 (sm.wd hW) (hC.sm sm (fun b b1 b2 q => by simp at q; omega)) (hG.next hn hm) (n := G.1) (gmN_1 G m) (by rw [sm.i (by simp)]; exact h4) hPN' (fun i hi => gRow_N hi (gRow_sm sm ⟨by simp, by simp⟩ (hr i hi))) (fun K smK hLK h4K hrK => hq K ((sm.mono (by simp)).tr (smK.mono (by simp))) ⟨bPs.sm smK (fun b b1 b2 q => by simp at q; omega) hPN', hLK, h4K, ?_, hrK, fun i hi => ?_⟩)
    · rw [gmN_mvs] at tail
      exact tail
    · rw [smK.i (by simp), h11N, gmN_1]
      congr 1
      omega
    · rw [gmN_1] at hi
      by_cases q : i + 1 = G.1
      · have ei : i = G.1 - 1 := by omega
        refine ⟨m, ?_, ?_, ?_, ?_⟩
        · rw [gmN_ps (by omega), ei]; exact hm
        · rw [q]
          show updP G.2.1 G.1 _ G.1 = _
          rw [updP_s, gmN_ps (by omega), ei]
          rfl
        · rw [q]; exact gmN_mvs
        · rw [smK.i (by simp), gmN_ps (by omega), ei, hsvN]
          rfl
      · obtain ⟨u, u1, u2, u3, u4⟩ := hsv i (by omega)
        refine ⟨u, ?_, ?_, ?_, ?_⟩
        · rw [gmN_ps (by omega)]; exact u1
        · rw [gmN_ps (by omega), gmN_ps (by omega)]; exact u2
        · rw [gmN_mv (by omega)]; exact u3
        · rw [smK.i (by simp), gmN_ps (by omega), hso i (by omega)]; exact u4
  rw [← em] at key
  exact key
/-- the game of one position -/
abbrev gm1 (P : Ps) : Gm := (1, fun _ => P, fun _ => -1)
set_option maxHeartbeats 4000000 in
theorem c_begin {mc ms : Nat} {M : zM} {g : Nat} (hW : zWd M g) (hC : cOk M) {P : Ps} (hG : Gd P) (hPC : psC 0 P) (hP : bPs M g P) (h11 : M.1 (g + 1) 11 = nI 0) {Q : zQt} (hq : ∀ N, zSm (gC g) M N → gGm N g (gm1 P) → Q none N) : wX4_begin mc ms [.ref g] M Q := by
  refine ⟨⟨Nat.le_of_ble_eq_true rfl, rfl⟩, fun X l0 => ?_⟩
  have hg := hW.2
  refine l0 _ _ _ _ _ ⟨rfl, vX4_begin_0 hW (fun M2 e2 => ?_)⟩
  have s2 : zSm [g] M M2 := by rw [e2]; exact zSm.I (by simp)
  have hP2 : bPs M2 g P := bPs.sm s2 (fun b b1 b2 q => by simp at q; omega) hP
  refine ⟨⟨Nat.le_of_ble_eq_true rfl, rfl⟩, fun Y l0 l13 l110 l167 l199 => ?_⟩
  refine l0 _ _ _ _ _ ⟨rfl, vX4_add_0 (s2.wd hW) ⟨fun _ => ?_, fun w => absurd rfl w⟩⟩
  refine add_tail l13 l110 l167 l199 (s2.wd hW) (hC.sm s2 (fun b b1 b2 q => by simp at q; omega)) (gm1_ok hG hPC) (n := 0) rfl (by rw [e2, zsI_s]; rfl) hP2 (fun i hi => absurd hi (by omega)) (fun K smK hLK h4K hrK => vkX4_begin_10 (smK.wd (s2.wd hW)) (hq K ((s2.mono (by simp)).tr (smK.mono (by simp))) ⟨bPs.sm smK (fun b b1 b2 q => by simp at q; omega) hP2, hLK, h4K, ?_, hrK, fun i hi => absurd hi ?_⟩))
  · rw [smK.i (by simp), s2.i (by simp), h11]
    rfl
  · show ¬ i + 1 < 1
    omega
theorem c_verdictC {mc ms : Nat} {M : zM} {g : Nat} (hW : zWd M g) {G : Gm} (hG : gmOk G) (h : gGm M g G) {Q : zQt} (hq : Q (some (.int (nI (vdG G)))) M) : wX4_verdict mc ms [.ref g] M Q := by
  refine ⟨⟨Nat.le_of_ble_eq_true rfl, rfl⟩, fun X l0 => ?_⟩
  have h1 := hG.1
  have h6 := hG.2.1
  refine l0 _ _ _ _ _ ⟨rfl, vX4_verdict_0 hW ?_⟩
  rw [h.2.2.1, show nI G.1 - (1 : Int32) = nI (G.1 - 1) from pk_sub (b := 1) (by omega), show nI (G.1 - 1) * (8 : Int32) = nI (8 * (G.1 - 1)) from by rw [Nat.mul_comm 8 _]; exact pk_mul _ 8, show nI (8 * (G.1 - 1)) + (2 : Int32) = nI (8 * (G.1 - 1) + 2) from nI_add _ 2, nI_clamp (by omega), (h.2.2.2.2.1 (G.1 - 1) (by omega)).1 2 (by omega)]
  exact ⟨vp_in_nI (by omega) (by omega), hq⟩
theorem vdG_lt (G : Gm) : vdG G < 9 := vdt_lt _ _
theorem c_isOverC {mc ms : Nat} {M : zM} {g : Nat} (hW : zWd M g) {G : Gm} (hG : gmOk G) (h : gGm M g G) {Q : zQt} (q1 : ended (vdG G) → Q (some (.int 1)) M) (q0 : ¬ ended (vdG G) → Q (some (.int 0)) M) : wX4_isOver mc ms [.ref g] M Q := by
  refine ⟨⟨Nat.le_of_ble_eq_true rfl, rfl⟩, fun X l0 l19 l20 => ?_⟩
  have hv := vdG_lt G
  have f19 : ¬ ended (vdG G) → X 19 0 0 [] [] M := fun w => l19 _ _ _ _ _ ⟨rfl, vX4_isOver_19 hW (l20 _ _ _ _ _ ⟨rfl, vX4_isOver_20 hW ⟨rfl, q0 w⟩⟩)⟩
  refine l0 _ _ _ _ _ ⟨rfl, vX4_isOver_0 hW (c_verdictC hW hG h (vkX4_isOver_4 hW ?_))⟩
  have e1 := nI_ltI (a := vdG G) (b := 1) (by omega) (by decide)
  have e5 := nI_ltI (a := 5) (b := vdG G) (by decide) (by omega)
  refine ⟨fun w => f19 (fun z => ?_), fun w => ⟨fun w5 => f19 (fun z => ?_), fun w5 => l20 _ _ _ _ _ ⟨rfl, vX4_isOver_20 hW ⟨rfl, q1 ?_⟩⟩⟩⟩
  · have := e1.mp w; have := z.1; omega
  · have := e5.mp w5; have := z.2; omega
  · have a : ¬ vdG G < 1 := fun z => w (e1.mpr z)
    have b : ¬ 5 < vdG G := fun z => w5 (e5.mpr z)
    exact ⟨by omega, by omega⟩
theorem c_isFullC {mc ms : Nat} {M : zM} {g : Nat} (hW : zWd M g) {G : Gm} (hG : gmOk G) (h : gGm M g G) {Q : zQt} (q1 : G.1 = 601 → Q (some (.int 1)) M) (q0 : ¬ G.1 = 601 → Q (some (.int 0)) M) : wX4_isFull mc ms [.ref g] M Q := by
  refine ⟨⟨Nat.le_of_ble_eq_true rfl, rfl⟩, fun X l0 l15 => ?_⟩
  have h6 := hG.2.1
  have e := nI_leI (a := G.1) (b := 600) (by omega) (by decide)
  refine l0 _ _ _ _ _ ⟨rfl, vX4_isFull_0 hW ?_⟩
  rw [h.2.2.1]
  refine ⟨fun w => l15 _ _ _ _ _ ⟨rfl, vX4_isFull_15 hW ⟨rfl, q0 ?_⟩⟩, fun w => l15 _ _ _ _ _ ⟨rfl, vX4_isFull_15 hW ⟨rfl, q1 ?_⟩⟩⟩
  · have := e.mp w; omega
  · have : ¬ G.1 ≤ 600 := fun z => w (e.mpr z)
    omega
theorem lst_B {G : Gm} : lst (G.1 - 1, G.2) = G.2.1 (G.1 - 1 - 1) := rfl
theorem gmOk_B {G : Gm} (h : gmOk G) (h2 : 2 ≤ G.1) : gmOk (G.1 - 1, G.2) := by
  obtain ⟨a, b, c, d⟩ := h
  refine ⟨?_, ?_, fun i hi => c i ?_, fun i hi => d i ?_⟩
  · show 0 < G.1 - 1
    omega
  · show G.1 - 1 ≤ 601
    omega
  · have : i < G.1 - 1 := hi
    omega
  · have : i + 1 < G.1 - 1 := hi
    omega
set_option maxHeartbeats 4000000 in
theorem c_takeBack {mc ms : Nat} {M : zM} {g : Nat} (hW : zWd M g) (hC : cOk M) {G : Gm} (hG : gmOk G) (h : gGm M g G) {Q : zQt} (q0 : G.1 < 2 → Q (some (.int 0)) M) (q1 : ∀ N, 2 ≤ G.1 → zSm (gC g) M N → gGm N g (G.1 - 1, G.2) → Q (some (.int 1)) N) : wX4_takeBack mc ms [.ref g] M Q := by
  refine ⟨⟨Nat.le_of_ble_eq_true rfl, rfl⟩, fun X l0 => ?_⟩
  have hg := hW.2
  obtain ⟨hP, hL, h4, h11, hr, hsv⟩ := h
  have h1 := hG.1
  have h6 := hG.2.1
  have e2 := nI_leI (a := 2) (b := G.1) (by decide) (by omega)
  refine l0 _ _ _ _ _ ⟨rfl, vX4_takeBack_0 hW ?_⟩
  rw [h4]
  refine ⟨fun w => fun M17 e17 => ?_, fun w => q0 (by have : ¬ 2 ≤ G.1 := fun z => w (e2.mpr z); omega)⟩
  have h2 := e2.mp w
  rw [show nI G.1 - (1 : Int32) = nI (G.1 - 1) from pk_sub (b := 1) (by omega)] at e17
  have s17 : zSm [g] M M17 := by rw [e17]; exact zSm.I (by simp)
  have e4 : M17.1 g 4 = nI (G.1 - 1) := by rw [e17, zsI_s]
  obtain ⟨m, m1, m2, m3, m4⟩ := hsv (G.1 - 2) (by omega)
  rw [show G.1 - 2 + 1 = G.1 - 1 by omega] at m2 m3
  have em : m = m % 64 + 64 * (m / 64 % 64) + 4096 * (m / 4096) := (mvs_parts m1).2.2.2.2
  obtain ⟨gd2, pc2⟩ := hG.2.2.1 (G.1 - 2) (by omega)
  rw [e4, show nI (G.1 - 1) * (8 : Int32) = nI (8 * (G.1 - 1)) from by rw [Nat.mul_comm 8 _]; exact pk_mul _ 8, show nI (8 * (G.1 - 1)) + (3 : Int32) = nI (8 * (G.1 - 1) + 3) from nI_add _ 3, nI_clamp (by omega), s17.i (by simp), (hr (G.1 - 1) (by omega)).1 3 (by omega), show hsV G (G.1 - 1) 3 = nI m from m3, em]
  refine ⟨vp_in_nI (by omega) (by omega), ?_⟩
  have hP17 : bPs M17 g (mkP (G.2.1 (G.1 - 2)) (m % 64) (m / 64 % 64) (m / 4096)) := by
    have : lst G = mkM (G.2.1 (G.1 - 2)) m := m2
    have hP' := hP
    rw [this] at hP'
    exact bPs.sm s17 (fun b b1 b2 q => by simp at q; omega) hP'
  refine c_unmake (s17.wd hW) hP17 gd2 pc2 (by omega) (mvs_mvK m1) (k := G.1 - 2) (by rw [s17.i (by simp), h11]; congr 1; omega) (by omega) (by rw [s17.i (by simp)]; exact m4) (fun N sm hPN h11N => ?_)
  have WN := (sm.wd (s17.wd hW))
  have sMN : zSm [g, g + 1, g + 2, g + 3, g + 4] M N := (s17.mono (by simp)).tr (sm.mono (by simp))
  refine vkX4_takeBack_41 WN ?_
  have hCN : cOk N := hC.sm sMN (fun b b1 b2 q => by simp at q; omega)
  refine c_fillC WN hCN gd2 hPN (x := g + 7) (xn := 384) (at_ := 0) (most := 384) (fgs_7 WN) (by omega) (fun b b1 b2 => by omega) (fun b b1 b2 => by omega) (by omega) (by omega) (by omega) (fun K L smK hT hLL hk ho => ?_)
  obtain ⟨T, hT⟩ := hT
  have hLen := Gd_len gd2
  have hLl : L.length ≤ (mvs (G.2.1 (G.1 - 2))).length := by rw [← hT, List.length_append]; omega
  have eL : L = mvs (G.2.1 (G.1 - 2)) := by
    rcases hLL with q | q
    · exact q
    · omega
  subst eL
  refine vkX4_takeBack_57 (smK.wd WN) (fun M57 e57 => ?_)
  have s57 : zSm (gC g) M M57 := by
    rw [e57]
    exact ((sMN.mono (by simp)).tr (smK.mono (by simp))).tr (zSm.I (by simp))
  have sK57 : zSm [g, g + 6, g + 7] N M57 := by rw [e57]; exact (smK.mono (by simp)).tr (zSm.I (by simp))
  have s8 : zSm [g, g + 1, g + 2, g + 3, g + 4, g + 6, g + 7] M M57 := (sMN.mono (by simp)).tr (sK57.mono (by simp))
  have eP : lst (G.1 - 1, G.2) = G.2.1 (G.1 - 2) := by rw [lst_B, show G.1 - 1 - 1 = G.1 - 2 by omega]
  refine q1 M57 h2 s57 ⟨?_, ⟨?_, fun k v hkv => ?_⟩, ?_, ?_, fun i hi => ?_, fun i hi => ?_⟩
  · rw [eP]; exact bPs.sm sK57 (fun b b1 b2 q => by simp at q; omega) hPN
  · rw [eP, e57, zsI_s]
  · rw [eP] at hkv
    rw [e57, zsI_o (by omega)]
    have := hk k v hkv
    rwa [Nat.zero_add] at this
  · rw [e57, zsI_n (by omega), smK.i (by simp), sm.i (by simp)]
    exact e4
  · rw [sK57.i (by simp), h11N, show G.1 - 2 = G.1 - 1 - 1 by omega]
  · have hi' : i < G.1 - 1 := hi
    have := hr i (by omega)
    exact gRow_sm s8 ⟨by simp, by simp⟩ ⟨this.1, this.2⟩
  · have hi' : i + 1 < G.1 - 1 := hi
    obtain ⟨u, u1, u2, u3, u4⟩ := hsv i (by omega)
    exact ⟨u, u1, u2, u3, by rw [s8.i (by simp)]; exact u4⟩
set_option maxHeartbeats 4000000 in
theorem c_differentC {mc ms : Nat} {M : zM} {g : Nat} (hW : zWd M g) {G : Gm} (hG : gmOk G) (h : gGm M g G) {Q : zQt} (hq : Q (some (.int (nI (ctS G 0)))) M) : wX4_different mc ms [.ref g] M Q := by
  refine ⟨⟨Nat.le_of_ble_eq_true rfl, rfl⟩, fun X l0 l4 l30 => ?_⟩
  have h6 := hG.2.1
  have loop : ∀ (r i : Nat), i + r = G.1 → X 4 0 0 [.ref g, .int (nI (cn (fun i => if cnt G.2.1 i = 1 then 1 else 0) i)), .int (nI i)] [] M := by
    intro r
    induction r with
    | zero =>
      intro i hi
      refine l4 _ _ _ _ _ ⟨rfl, vX4_different_4 hW ?_⟩
      rw [h.2.2.1]
      refine ⟨fun _ => ?_, fun w => absurd ((nI_leI (a := G.1) (b := i) (by omega) (by omega)).mpr (by omega)) w⟩
      rw [show i = G.1 by omega]
      exact hq
    | succ r ih =>
      intro i hi
      have hci := cnt_le G.2.1 i
      refine l4 _ _ _ _ _ ⟨rfl, vX4_different_4 hW ?_⟩
      rw [h.2.2.1, show nI i * (8 : Int32) = nI (8 * i) from by rw [Nat.mul_comm 8 _]; exact pk_mul _ 8, show nI (8 * i) + (0 : Int32) = nI (8 * i + 0) from nI_add _ 0, nI_clamp (by omega), (h.2.2.2.2.1 i (by omega)).1 0 (by omega), show hsV G i 0 = nI (cnt G.2.1 i) from rfl]
      have e1 := nI_eq (a := cnt G.2.1 i) (b := 1) (by omega) (by decide)
      have ec : ∀ x, (if cnt G.2.1 i = 1 then 1 else 0) = x → nI (cn (fun i => if cnt G.2.1 i = 1 then 1 else 0) i) + nI x = nI (cn (fun i => if cnt G.2.1 i = 1 then 1 else 0) (i + 1)) := by
        intro x hx
        rw [nI_add, ← hx]
        rfl
      refine ⟨fun w => absurd ((nI_leI (a := G.1) (b := i) (by omega) (by omega)).mp w) (by omega), fun _ => ⟨vp_in_nI (by omega) (by omega), fun w => l30 _ _ _ _ _ ⟨rfl, vX4_different_30 hW ?_⟩, fun w => l30 _ _ _ _ _ ⟨rfl, vX4_different_30 hW ?_⟩⟩⟩
      · have := ih (i + 1) (by omega)
        rw [← ec 1 (if_pos (e1.mp w))] at this
        rw [nI_1 i]
        exact this
      · have := ih (i + 1) (by omega)
        rw [← ec 0 (if_neg (fun z => w (e1.mpr z))), nI_add, Nat.add_zero] at this
        rw [nI_1 i]
        exact this
  exact l0 _ _ _ _ _ ⟨rfl, vX4_different_0 hW (loop G.1 0 (by omega))⟩
set_option maxHeartbeats 4000000 in
theorem c_greatestC {mc ms : Nat} {M : zM} {g : Nat} (hW : zWd M g) {G : Gm} (hG : gmOk G) (h : gGm M g G) {Q : zQt} (hq : Q (some (.int (nI (ctS G 1)))) M) : wX4_greatestCount mc ms [.ref g] M Q := by
  refine ⟨⟨Nat.le_of_ble_eq_true rfl, rfl⟩, fun X l0 l4 => ?_⟩
  have h6 := hG.2.1
  have hmx : ∀ i, i ≤ 601 → mxN (cnt G.2.1) i ≤ 601 := fun i hi => mxN_le (fun j hj => by have := cnt_le G.2.1 j; omega) i hi
  have loop : ∀ (r i : Nat), i + r = G.1 → X 4 0 0 [.ref g, .int (nI (mxN (cnt G.2.1) i)), .int (nI i)] [] M := by
    intro r
    induction r with
    | zero =>
      intro i hi
      refine l4 _ _ _ _ _ ⟨rfl, vX4_greatestCount_4 hW ?_⟩
      rw [h.2.2.1]
      refine ⟨fun _ => ?_, fun w => absurd ((nI_leI (a := G.1) (b := i) (by omega) (by omega)).mpr (by omega)) w⟩
      rw [show i = G.1 by omega]
      exact hq
    | succ r ih =>
      intro i hi
      have hci := cnt_le G.2.1 i
      have hmi := hmx i (by omega)
      refine l4 _ _ _ _ _ ⟨rfl, vX4_greatestCount_4 hW ?_⟩
      rw [h.2.2.1, show nI i * (8 : Int32) = nI (8 * i) from by rw [Nat.mul_comm 8 _]; exact pk_mul _ 8, show nI (8 * i) + (0 : Int32) = nI (8 * i + 0) from nI_add _ 0, nI_clamp (by omega), (h.2.2.2.2.1 i (by omega)).1 0 (by omega), show hsV G i 0 = nI (cnt G.2.1 i) from rfl]
      have e1 := nI_ltI (a := mxN (cnt G.2.1) i) (b := cnt G.2.1 i) (by omega) (by omega)
      refine ⟨fun w => absurd ((nI_leI (a := G.1) (b := i) (by omega) (by omega)).mp w) (by omega), fun _ => ⟨vp_in_nI (by omega) (by omega), fun y ey => ?_⟩⟩
      have := ih (i + 1) (by omega)
      have ev : y = nI (mxN (cnt G.2.1) (i + 1)) := by
        rw [ey]
        show _ = nI (if cnt G.2.1 i ≤ mxN (cnt G.2.1) i then mxN (cnt G.2.1) i else cnt G.2.1 i)
        by_cases q : cnt G.2.1 i ≤ mxN (cnt G.2.1) i
        · rw [if_pos q, if_neg (fun z => by have := e1.mp z; omega)]
        · rw [if_neg q, if_pos (e1.mpr (by omega))]
      rw [ev, nI_1]
      exact this
  exact l0 _ _ _ _ _ ⟨rfl, vX4_greatestCount_0 hW (loop G.1 0 (by omega))⟩
