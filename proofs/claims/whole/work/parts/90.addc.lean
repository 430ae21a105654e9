/-! THE CLASS'S GAME: a position comes to the row -/
theorem fs_congr {ps qs : Nat → Ps} {i : Nat} (h : ∀ t, t ≤ i → ps t = qs t) : ∀ f j, j + f ≤ i → fsS ps i f j = fsS qs i f j
  | 0, j, _ => rfl
  | f + 1, j, hj => by
    unfold fsS
    rw [h i (Nat.le_refl _), h j (by omega), fs_congr h f (j + 1) (by omega)]
theorem hsV_congr {G H : Gm} {i : Nat} (h : ∀ t, t ≤ i → G.2.1 t = H.2.1 t) (hm : G.2.2 i = H.2.2 i) (w : Nat) : hsV G i w = hsV H i w := by
  unfold hsV
  rw [cnt_congr (fun j hj => h j hj), h i (Nat.le_refl _), hm, fs_congr h i 0 (by omega)]
/-- a row of the class's game: the numbers of a position, its keys -/
def gRow (M : zM) (g : Nat) (G : Gm) (i : Nat) : Prop := (∀ w, w < 8 → M.1 (g + 8) (8 * i + w) = hsV G i w) ∧ kyS M g i (G.2.1 i)
/-- the cells of a game -/
abbrev gC (g : Nat) : List Nat := [g, g + 1, g + 2, g + 3, g + 4, g + 5, g + 6, g + 7, g + 8, g + 9]
/-- the class's game g stands for G -/
def gGm (M : zM) (g : Nat) (G : Gm) : Prop := bPs M g (lst G) ∧ gLs M g (lst G) ∧ M.1 g 4 = nI G.1 ∧ M.1 (g + 1) 11 = nI (G.1 - 1) ∧ (∀ i, i < G.1 → gRow M g G i) ∧
  ∀ i, i + 1 < G.1 → ∃ m, m ∈ mvs (G.2.1 i) ∧ G.2.1 (i + 1) = mkM (G.2.1 i) m ∧ G.2.2 (i + 1) = nI m ∧ M.1 (g + 5) i = nI (svW (G.2.1 i) (m % 64) (m / 64 % 64))
/-- a row under way -/
def adS (M K : zM) (g n : Nat) (G : Gm) (S : List Nat) : Prop := zSm [g, g + 6, g + 7, g + 8, g + 9] M K ∧ gLs K g (lst G) ∧ K.1 g 4 = nI (n + 1) ∧ (∀ w, w ∈ S → w < 8 ∧ K.1 (g + 8) (8 * n + w) = hsV G n w) ∧ (∀ j, j < 8 * n → K.1 (g + 8) j = M.1 (g + 8) j) ∧ ∀ j, j < 5 * n → K.2.1 (g + 9) j = M.2.1 (g + 9) j
theorem adS.put {M K : zM} {g n : Nat} {G : Gm} {S : List Nat} (h : adS M K g n G S) {w : Nat} (hw : w < 8) {v : Int32} (hv : v = hsV G n w) : adS M (zsI K (g + 8) (8 * n + w) v) g n G (w :: S) := by
  obtain ⟨h1, h2, h3, h4, h5, h6⟩ := h
  refine ⟨h1.tr (zSm.I (by simp)), ⟨by rw [zsI_o (by omega)]; exact h2.1, fun k x hk => by rw [zsI_o (by omega)]; exact h2.2 k x hk⟩, by rw [zsI_o (by omega)]; exact h3, fun u hu => ?_, fun j hj => by rw [zsI_n (by omega)]; exact h5 j hj, fun j hj => h6 j hj⟩
  by_cases e : u = w
  · rw [e, zsI_s]; exact ⟨hw, hv⟩
  · rcases List.mem_cons.mp hu with q | q
    · exact absurd q e
    · rw [zsI_n (by omega)]; exact h4 u q
theorem adS.bps {M K : zM} {g n : Nat} {G : Gm} {S : List Nat} (h : adS M K g n G S) {P : Ps} (hP : bPs M g P) : bPs K g P := bPs.sm h.1 (fun b b1 b2 q => by simp at q; omega) hP
theorem adS.cok {M K : zM} {g n : Nat} {G : Gm} {S : List Nat} (h : adS M K g n G S) (hg : g = 35 ∨ g = 45) (hC : cOk M) : cOk K := cOk.sm h.1 (fun b b1 b2 q => by simp at q; omega) hC
theorem kyS.eq {M K : zM} {g i : Nat} {P : Ps} (h : ∀ t, t < 5 → K.2.1 (g + 9) (5 * i + t) = M.2.1 (g + 9) (5 * i + t)) (hk : kyS M g i P) : kyS K g i P :=
  ⟨fun t s ht hs => by rw [h t (by omega)]; exact hk.1 t s ht hs, by rw [h 4 (by omega)]; exact hk.2⟩
theorem adS.row {M K : zM} {g n : Nat} {G : Gm} {S : List Nat} (h : adS M K g n G S) {i : Nat} (hi : i < n) (hr : gRow M g G i) : gRow K g G i :=
  ⟨fun w hw => by rw [h.2.2.2.2.1 _ (by omega)]; exact hr.1 w hw, kyS.eq (fun t ht => h.2.2.2.2.2 _ (by omega)) hr.2⟩
set_option maxHeartbeats 4000000 in
theorem add_tail {mc ms : Nat} {X : Nat → zV} {Q : zQt} (l13 : zin 5 [0, 1] (aX4_add_13 mc ms X Q) X 13) (l110 : zin 5 [0, 2, 3] (aX4_add_110 mc ms X Q) X 110) (l167 : zin 5 [0, 2, 3, 4] (aX4_add_167 mc ms X Q) X 167) (l199 : zin 5 [0, 3] (aX4_add_199 mc ms X Q) X 199)
    {M : zM} {g : Nat} (hW : zWd M g) (hC : cOk M) {G : Gm} (hG : gmOk G) {n : Nat} (hn : G.1 = n + 1) (h4 : M.1 g 4 = nI n) (hP : bPs M g (lst G)) (hr : ∀ i, i < n → gRow M g G i)
    (hq : ∀ N, zSm [g, g + 6, g + 7, g + 8, g + 9] M N → gLs N g (lst G) → N.1 g 4 = nI (n + 1) → (∀ i, i < n + 1 → gRow N g G i) → Q none N) : X 13 0 0 [.ref g, .int (G.2.2 n)] [] M := by
  have hg := hW.2
  obtain ⟨hGd, hPC⟩ := hG.last
  have hLen := Gd_len hGd
  have h601 := hG.2.1
  have hlst : lst G = G.2.1 n := by unfold lst; rw [hn]; rfl
  have e8 : nI n * (8 : Int32) = nI (8 * n) := by rw [Nat.mul_comm 8 n]; exact pk_mul n 8
  have hcl := hPC.1
  have hcnt := cnt_le G.2.1 n
  refine l13 _ _ _ _ _ ⟨rfl, vX4_add_13 hW (c_fillC hW hC hGd hP (x := g + 7) (xn := 384) (at_ := 0) (most := 384) (fgs_7 hW) (by omega) (fun b b1 b2 => by omega) (fun b b1 b2 => by omega) (by omega) (by omega) (by omega) (fun N L sm hT hL hk ho => ?_))⟩
  obtain ⟨T, hT⟩ := hT
  have hLl : L.length ≤ (mvs (lst G)).length := by rw [← hT, List.length_append]; omega
  have eL : L = mvs (lst G) := by
    rcases hL with q | q
    · exact q
    · omega
  subst eL
  refine vkX4_add_29 (sm.wd hW) ?_
  intro M29 e29
  have e4 : M29.1 g 4 = nI n := by rw [e29, zsI_n (by omega), sm.i (by simp)]; exact h4
  rw [e4, nI_1, e8, show nI (8 * n) + (1 : Int32) = nI (8 * n + 1) from nI_add _ 1, show nI (8 * n) + (3 : Int32) = nI (8 * n + 3) from nI_add _ 3, show nI (8 * n) + (4 : Int32) = nI (8 * n + 4) from nI_add _ 4, nI_clamp (by omega), nI_clamp (by omega), nI_clamp (by omega)]
  intro M49 e49
  have s49 : zSm [g, g + 6, g + 7, g + 8, g + 9] M M49 := by
    rw [e49, e29]
    exact ((sm.mono (by simp)).tr (zSm.I (by simp))).tr (zSm.I (by simp))
  have a49 : adS M M49 g n G [] := by
    refine ⟨s49, ⟨?_, fun k v hkv => ?_⟩, by rw [e49, zsI_s], fun w hw => absurd hw List.not_mem_nil, fun j hj => by rw [e49, zsI_o (by omega), e29, zsI_o (by omega), sm.i (by simp)], fun j hj => by rw [e49, e29]; exact congrFun (sm.j (b := g + 9) (by simp)) j⟩
    · rw [e49, zsI_n (by omega), e29, zsI_s]
    · rw [e49, zsI_o (by omega), e29, zsI_o (by omega)]
      have := hk k v hkv
      rwa [Nat.zero_add] at this
  refine ⟨vp_in_nI (by omega) (by omega), fun M66 e66 => ?_⟩
  have h7 : M49.1 (g + 1) 7 = nI (lst G).2.2.2.2.1 := (a49.bps hP).2.2.2.2.1
  have a66 : adS M M66 g n G [1] := by rw [e66]; exact a49.put (by omega) (by rw [h7, hlst]; rfl)
  refine ⟨vp_in_nI (by omega) (by omega), fun M75 e75 => ?_⟩
  have a75 : adS M M75 g n G [3, 1] := by rw [e75]; exact a66.put (by omega) rfl
  refine ⟨vp_in_nI (by omega) (by omega), fun M87 e87 => ?_⟩
  have a87 : adS M M87 g n G [4, 3, 1] := by rw [e87]; exact a75.put (by omega) (by rw [a75.2.1.1, hlst]; rfl)
  have W87 := a87.1.wd hW
  have P87 := a87.bps hP
  -- behind the check
  have f110 : ∀ b : Bool, b = chB (lst G) → X 110 0 0 [.ref g, .int (nI n), .int (nI (8 * n))] [.int (bI b), .int (nI (8 * n) + (5 : Int32)), .ref (g + 8)] M87 := by
    intro b hb
    refine l110 _ _ _ _ _ ⟨rfl, vX4_add_110 W87 ?_⟩
    rw [show nI (8 * n) + (5 : Int32) = nI (8 * n + 5) from nI_add _ 5, show nI (8 * n) + (7 : Int32) = nI (8 * n + 7) from nI_add _ 7, nI_clamp (by omega)]
    refine ⟨vp_in_nI (by omega) (by omega), fun M110 e110 => ?_⟩
    have a110 : adS M M110 g n G [5, 4, 3, 1] := by rw [e110]; exact a87.put (by omega) (by rw [hb, hlst]; rfl)
    refine c_passingFileC (a110.1.wd hW) hGd (a110.bps hP) a110.2.1 (vkX4_add_123 (a110.1.wd hW) ?_)
    rw [nI_clamp (by omega)]
    refine ⟨vp_in_nI (by omega) (by omega), fun M123 e123 => ?_⟩
    have a123 : adS M M123 g n G [7, 5, 4, 3, 1] := by rw [e123]; exact a110.put (by omega) (by rw [hlst]; rfl)
    refine c_writeKeys (a123.1.wd hW) hGd.1 (a123.bps hP) (by omega) (by rw [(a123.2.2.2.1 7 (by simp)).2, hlst]; rfl) (fun K smK kyK koK => ?_)
    have aK : adS M K g n G [7, 5, 4, 3, 1] := by
      obtain ⟨q1, q2, q3, q4, q5, q6⟩ := a123
      refine ⟨q1.tr (smK.mono (by simp)), ⟨by rw [smK.i (by simp)]; exact q2.1, fun k v hkv => by rw [smK.i (by simp)]; exact q2.2 k v hkv⟩, by rw [smK.i (by simp)]; exact q3, fun w hw => by rw [smK.i (by simp)]; exact q4 w hw, fun j hj => by rw [smK.i (by simp)]; exact q5 j hj, fun j hj => by rw [koK j (by omega)]; exact q6 j hj⟩
    have WK := aK.1.wd hW
    refine vkX4_add_129 WK ?_
    have f199 : ∀ L, adS M L g n G [0, 7, 5, 4, 3, 1] → kyS L g n (lst G) → X 199 0 0 [.ref g, .int (nI (8 * n))] [.int (nI (fsS G.2.1 n n 0)), .int (nI (8 * n) + (6 : Int32)), .ref (g + 8)] L := by
      intro L aL kL
      have WL := aL.1.wd hW
      refine l199 _ _ _ _ _ ⟨rfl, vX4_add_199 WL ?_⟩
      rw [show nI (8 * n) + (6 : Int32) = nI (8 * n + 6) from nI_add _ 6, show nI (8 * n) + (2 : Int32) = nI (8 * n + 2) from nI_add _ 2, nI_clamp (by omega)]
      refine ⟨vp_in_nI (by omega) (by omega), fun M199 e199 => ?_⟩
      have a199 : adS M M199 g n G [6, 0, 7, 5, 4, 3, 1] := by rw [e199]; exact aL.put (by omega) rfl
      have k0 := (a199.2.2.2.1 0 (by simp)).2
      have k5 := (a199.2.2.2.1 5 (by simp)).2
      refine c_judge (a199.1.wd hW) hGd (a199.bps hP) a199.2.1 (i := n) (c := cnt G.2.1 n) (by omega) (by rw [k5, hlst]; rfl) k0 (by omega) (by omega) (vkX4_add_212 (a199.1.wd hW) ?_)
      rw [nI_clamp (by omega)]
      refine ⟨vp_in_nI (by omega) (by omega), fun M212 e212 => ?_⟩
      have a212 : adS M M212 g n G [2, 6, 0, 7, 5, 4, 3, 1] := by rw [e212]; exact a199.put (by omega) (by rw [hlst]; rfl)
      refine hq M212 a212.1 a212.2.1 a212.2.2.1 (fun i hi => ?_)
      by_cases q : i = n
      · rw [q]
        refine ⟨fun w hw => (a212.2.2.2.1 w ?_).2, ?_⟩
        · simp; omega
        · rw [← hlst]
          refine kyS.eq (fun t ht => ?_) kL
          rw [e212, e199]
          rfl
      · exact a212.row (by omega) (hr i (by omega))
    have h7K : K.1 (g + 1) 7 = nI (G.2.1 n).2.2.2.2.1 := by rw [← hlst]; exact (aK.bps hP).2.2.2.2.1
    refine c_latestSame WK hG (i := n) (by omega) h7K (fun j hj => ?_) (fun k hk hs hnn => vkX4_add_134 WK ?_) (fun hnn => vkX4_add_134 WK ?_)
    · by_cases q : j = n
      · rw [q, ← hlst]; exact kyK
      · exact (aK.row (by omega) (hr j (by omega))).2
    · have em : ¬ nI k = (-1 : Int32) := by
        rw [iI_nat k, show (-1 : Int32) = iI (-1) from by decide, iI_eq (by omega) (by omega) (by omega) (by omega)]
        omega
      have ek : nI k * (8 : Int32) = nI (8 * k) := by rw [Nat.mul_comm 8 k]; exact pk_mul k 8
      have rk := (aK.row hk (hr k hk)).1
      refine ⟨fun w => absurd w em, fun _ => ?_⟩
      rw [ek, show nI (8 * k) + (0 : Int32) = nI (8 * k + 0) from nI_add _ 0, show nI (8 * n) + (0 : Int32) = nI (8 * n + 0) from nI_add _ 0, nI_clamp (by omega), rk 0 (by omega)]
      refine ⟨vp_in_nI (by omega) (by omega), l167 _ _ _ _ _ ⟨rfl, vX4_add_167 WK ?_⟩⟩
      rw [nI_clamp (by omega)]
      refine ⟨vp_in_nI (by omega) (by omega), fun M167 e167 => ⟨fun w => absurd w em, fun _ => ?_⟩⟩
      have hc := (cnt_step (ps := G.2.1) (i := n)).2 k hk hs hnn
      have hf : fsS G.2.1 n n 0 = fsS G.2.1 k k 0 := fs_same hk hs k 0 (by omega)
      have a167 : adS M M167 g n G [0, 7, 5, 4, 3, 1] := by
        rw [e167]
        refine aK.put (by omega) ?_
        show nI (cnt G.2.1 k) + 1 = nI (cnt G.2.1 n)
        rw [hc, nI_1]
      have rk2 := (a167.row hk (hr k hk)).1
      rw [ek, show nI (8 * k) + (6 : Int32) = nI (8 * k + 6) from nI_add _ 6, nI_clamp (by omega), rk2 6 (by omega)]
      refine ⟨vp_in_nI (by omega) (by omega), ?_⟩
      have := f199 M167 a167 (kyS.eq (fun t ht => by rw [e167]; rfl) kyK)
      rw [hf] at this
      exact this
    · refine ⟨fun _ => l167 _ _ _ _ _ ⟨rfl, vX4_add_167 WK ?_⟩, fun w => absurd rfl w⟩
      rw [show nI (8 * n) + (0 : Int32) = nI (8 * n + 0) from nI_add _ 0, nI_clamp (by omega)]
      refine ⟨vp_in_nI (by omega) (by omega), fun M167 e167 => ⟨fun _ => ?_, fun w => absurd rfl w⟩⟩
      have hc := (cnt_step (ps := G.2.1) (i := n)).1 hnn
      have hf : fsS G.2.1 n n 0 = n := fs_none n 0 (by omega) (fun t _ ht q => hnn t ht (same_sym q))
      have a167 : adS M M167 g n G [0, 7, 5, 4, 3, 1] := by
        rw [e167]
        refine aK.put (by omega) ?_
        show (1 : Int32) = nI (cnt G.2.1 n)
        rw [hc]
        rfl
      have := f199 M167 a167 (kyS.eq (fun t ht => by rw [e167]; rfl) kyK)
      rw [hf] at this
      exact this
  refine c_inCheck W87 (a87.cok hg hC) P87.1 hGd.1.2.1 P87.2.1 (gd_king hGd) (fun hc => vkX4_add_102 W87 ⟨fun w => absurd w (by decide), fun _ => ?_⟩) (fun hc => vkX4_add_102 W87 ⟨fun _ => ?_, fun w => absurd rfl w⟩)
  · exact f110 true (chB_t.mpr hc).symm
  · exact f110 false (chB_f.mpr hc).symm
