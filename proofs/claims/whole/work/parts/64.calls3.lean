/-! THE REFERENCE'S spelling, historyOf, status -/
def jN (n : Nat) : Int64 := Int64.ofNat n
theorem jN_bv (n : Nat) : (jN n).toBitVec = BitVec.ofNat 64 n := rfl
theorem jN_cat (n x : Nat) (hx : x < 256) : (jN n <<< ((8 : Int32).toInt64 &&& 63)) ||| (nI x).toInt64 = jN (256 * n + x) := by
  apply Int64.toBitVec_inj.mp
  have e : ((8 : Int32).toInt64 &&& 63) = 8 := by decide
  rw [e]
  have e1 : (jN n <<< (8 : Int64)).toBitVec = BitVec.ofNat 64 n <<< 8 := rfl
  have e2 : ((nI x).toInt64).toBitVec = BitVec.ofNat 64 x := by
    have h : ∀ y, y < 256 → ((nI y).toInt64).toBitVec = BitVec.ofNat 64 y := by decide +kernel
    exact h x hx
  rw [Int64.toBitVec_or, e1, e2, jN_bv]
  apply BitVec.eq_of_toNat_eq
  simp only [BitVec.toNat_or, BitVec.toNat_shiftLeft, BitVec.toNat_ofNat]
  have h1 : (n % 2 ^ 64) <<< 8 % 2 ^ 64 = (n % 2 ^ 56) <<< 8 := by
    simp only [Nat.shiftLeft_eq]
    omega
  rw [h1, Nat.mod_eq_of_lt (show x < 2 ^ 64 by omega), ← Nat.shiftLeft_add_eq_or_of_lt (show x < 2 ^ 8 by omega)]
  simp only [Nat.shiftLeft_eq]
  omega
/-- eight signs of a list from a place on, as one number -/
def pk8 (L : List Nat) (a : Nat) : Nat → Nat
  | 0 => 0
  | k + 1 => 256 * pk8 L a k + L.getD (a + k) 0
set_option maxHeartbeats 4000000 in
theorem c_packed {mc ms : Nat} {M : zM} (hW : zFix M) {L : List Nat} (hL : rOut M L) (hl : L.length ≤ 100) (hb : ∀ x ∈ L, x < 256) {a : Nat} (ha : a < 2 ^ 20) {Q : zQt} (hq : Q (some (.long (jN (pk8 L a 8)))) M) : wX13_packed mc ms [.ref 55, .int (nI a)] M Q := by
  refine ⟨⟨Nat.le_of_ble_eq_true rfl, rfl⟩, fun X l0 l5 l42 l43 => ?_⟩
  have loop : ∀ (r k : Nat), k + r = 8 → X 5 0 0 [.ref 55, .int (nI a), .long (jN (pk8 L a k)), .int (nI (a + k))] [] M := by
    intro r
    induction r with
    | zero =>
      intro k hk
      obtain rfl : k = 8 := by omega
      refine l5 _ _ _ _ _ ⟨rfl, vX13_packed_5 hW ?_⟩
      rw [show nI a + (8 : Int32) = nI (a + 8) from nI_add a 8]
      exact ⟨fun _ => hq, fun d => absurd ((nI_leI (a := a + 8) (b := a + 8) (by omega) (by omega)).mpr (Nat.le_refl _)) d⟩
    | succ r ih =>
      intro k hk
      refine l5 _ _ _ _ _ ⟨rfl, vX13_packed_5 hW ?_⟩
      rw [show nI a + (8 : Int32) = nI (a + 8) from nI_add a 8, hL.1]
      have f43 : ∀ v, v = L.getD (a + k) 0 → X 43 0 0 [.ref 55, .int (nI a), .int (nI (a + k))] [.int (nI v), .long (jN (pk8 L a k) <<< ((8 : Int32).toInt64 &&& 63))] M := by
        intro v hv
        have hv2 : v < 256 := by
          rw [hv, List.getD_eq_getElem?_getD]
          rcases h : L[a + k]? with _ | y
          · decide
          · exact hb y (List.mem_of_getElem? h)
        refine l43 _ _ _ _ _ ⟨rfl, vX13_packed_43 hW ?_⟩
        rw [jN_cat _ _ hv2, nI_1, hv]
        exact ih (k + 1) (by omega)
      have e8 := nI_leI (a := a + 8) (b := a + k) (by omega) (by omega)
      have e0 := nI_ltI (a := a + k) (b := 0) (by omega) (by omega)
      have el := nI_leI (a := L.length) (b := a + k) (by omega) (by omega)
      refine ⟨fun d => absurd (e8.mp d) (by omega), fun _ => ⟨fun d => absurd (e0.mp d) (by omega), fun _ => ⟨fun d => l42 _ _ _ _ _ ⟨rfl, vX13_packed_42 hW (f43 0 ?_)⟩, fun d => ?_⟩⟩⟩
      · rw [List.getD_eq_getElem?_getD, List.getElem?_eq_none (el.mp d)]
        rfl
      · have hk2 : a + k < L.length := by
          have : ¬ L.length ≤ a + k := fun q => d (el.mpr q)
          omega
        have hg : L[a + k]? = some L[a + k] := List.getElem?_eq_getElem hk2
        rw [nI_clamp (by omega), hL.2 _ _ hg]
        refine ⟨vp_in_nI (by omega) (by omega), f43 _ ?_⟩
        rw [List.getD_eq_getElem?_getD, hg]
        rfl
  exact l0 _ _ _ _ _ ⟨rfl, vX13_packed_0 hW (loop 8 0 rfl)⟩
noncomputable def spA (A : Ah) (z : Int) : Nat × Nat := @ite _ (inL A z) (Classical.propDecidable _) (0, pk8 (spl (lst (aG A)) (mvAt (aG A) z) ++ sgl (lst (aG A)) (mvAt (aG A) z)) 0 8) (1, 0)
set_option maxHeartbeats 4000000 in
theorem r_spelling {mc ms : Nat} {M : zM} {A : Ah} (hR : rRef M A) (hO : aOk A) {z : Int} (hz : i32 z) {Q : zQt} (hq : ∀ N, rKp M N → N.1 55 0 = nI (spA A z).1 → Q (some (.long (jN (spA A z).2))) N) : wX13_spelling mc ms [.ref 55, .int (iI z)] M Q := by
  have hW := hR.1
  refine ⟨⟨Nat.le_of_ble_eq_true rfl, rfl⟩, fun X l0 l14 => ?_⟩
  refine l0 _ _ _ _ _ ⟨rfl, vX13_spelling_0 hW (c_listed hR hO hz (fun N k e h hS => ?_) (fun N k e h => ?_))⟩
  · have hWN := k.1.fix hW
    have hv : spA A z = (0, pk8 (spl (lst (aG A)) (mvAt (aG A) z) ++ sgl (lst (aG A)) (mvAt (aG A) z)) 0 8) := by unfold spA; rw [if_pos h]
    rw [hv] at hq
    have hok := hO.2.2.1 h.1
    have hL := hok.fit.2.2
    obtain ⟨hmem, hget⟩ := mvAt_mem h.2.1 h.2.2
    have hz1 := h.2.1
    have hz2 := h.2.2
    generalize mvAt (aG A) z = m at hmem hget hq
    have hml := mvs_lt hmem
    refine vkX13_spelling_6 hWN ⟨fun q => absurd q (by decide), fun _ => l14 _ _ _ _ _ ⟨rfl, vX13_spelling_14 hWN (fun K eK => ?_)⟩⟩
    have n0 : K.1 55 0 = 0 := by rw [eK, zsI_s]
    have kK : rKp M K := by rw [eK]; exact k.tr (rKp.slot (by omega))
    have hSK : rSh K (lst (aG A)) := rSh_sm (L := [55]) (by rw [eK]; exact zSm.I (by decide)) (fun b b1 b2 q => by have := List.mem_singleton.mp q; omega) hS
    have hWK := kK.1.fix hW
    rw [n0]
    refine ⟨fun _ => ?_, fun w => absurd (by decide) w⟩
    rw [iz_nat hz1, nI_clamp (by omega), hSK.2.1 _ _ hget]
    refine ⟨vp_in_nI (by omega) (by omega), c_spell hWK hSK hL (by omega) (fun K1 k1 o1 => ?_)⟩
    have g1 : sgF K K1 := k1.sg
    have hW1 := g1.1.fix hWK
    have hS1 := g1.sh hSK
    have hl6 := spl_len (lst (aG A)) m
    refine vkX13_spelling_36 hW1 ?_
    rw [nI_clamp (by omega), hS1.2.1 _ _ hget]
    refine ⟨vp_in_nI (by omega) (by omega), c_saySign hW1 hS1 hok.sm o1 (by omega) hmem (fun K2 k2 o2 => ?_)⟩
    have hW2 := k2.1.fix hW1
    have hsl := sgl_lt (lst (aG A)) m
    refine vkX13_spelling_46 hW2 (c_packed hW2 o2 (by rw [List.length_append]; omega) (fun x hx => by
      rcases List.mem_append.mp hx with q | q
      · exact spl_lt _ _ x q
      · exact hsl.2 x q) (a := 0) (by decide) (vkX13_spelling_51 hW2 (hq K2 ((kK.tr g1.kp).tr k2.kp) ?_)))
    rw [k2.2.1 0 (by decide), g1.2.1 0 (by decide)]
    exact n0
  · have hWN := k.1.fix hW
    have hv : spA A z = (1, 0) := by unfold spA; rw [if_neg h]
    rw [hv] at hq
    refine vkX13_spelling_6 hWN ⟨fun _ => l14 _ _ _ _ _ ⟨rfl, vX13_spelling_14 hWN (fun K eK => ?_)⟩, fun q => absurd rfl q⟩
    have n0 : K.1 55 0 = 1 := by rw [eK, zsI_s]
    have kK : rKp M K := by rw [eK]; exact k.tr (rKp.slot (by omega))
    rw [n0]
    exact ⟨fun w => absurd w (by decide), fun _ => hq K kK n0⟩
/-- the first position that is the same -/
noncomputable def fsS (ps : Nat → Ps) (i : Nat) : Nat → Nat → Nat
  | 0, j => j
  | f + 1, j => @ite _ (same (ps i) (ps j)) (Classical.propDecidable _) j (fsS ps i f (j + 1))
noncomputable def hsV (G : Gm) (i w : Nat) : Int32 := if w = 0 then nI (cnt G.2.1 i) else if w = 1 then nI (G.2.1 i).2.2.2.2.1 else if w = 2 then nI (vdt (G.2.1 i) (cnt G.2.1 i)) else if w = 3 then G.2.2 i else if w = 4 then nI (mvs (G.2.1 i)).length else if w = 5 then bI (chB (G.2.1 i)) else if w = 6 then nI (fsS G.2.1 i i 0) else pI (pfl (G.2.1 i))
def inH (A : Ah) (z w : Int) : Prop := aTh A = true ∧ 0 ≤ z ∧ z < (aG A).1 ∧ 0 ≤ w ∧ w < 8
noncomputable def hsA (A : Ah) (z w : Int) : Nat × Int32 := @ite _ (inH A z w) (Classical.propDecidable _) (0, hsV (aG A) z.toNat w.toNat) (1, 0)
set_option maxHeartbeats 4000000 in
theorem r_historyOf {mc ms : Nat} {M : zM} {A : Ah} (hR : rRef M A) (hO : aOk A) {z w : Int} (hz : i32 z) (hw : i32 w) {Q : zQt} (hq : ∀ N, rKp M N → N.1 55 0 = nI (hsA A z w).1 → Q (some (.int (hsA A z w).2)) N) : wX13_historyOf mc ms [.ref 55, .int (iI z), .int (iI w)] M Q := by
  have hW := hR.1
  refine ⟨⟨Nat.le_of_ble_eq_true rfl, rfl⟩, fun X l0 l39 l40 l155 => ?_⟩
  have f39 : ¬ inH A z w → X 39 0 0 [.ref 55, .int (iI z), .int (iI w)] [.ref 55] M := by
    intro h
    have hv : hsA A z w = (1, 0) := by unfold hsA; rw [if_neg h]
    rw [hv] at hq
    refine l39 _ _ _ _ _ ⟨rfl, vX13_historyOf_39 hW (l40 _ _ _ _ _ ⟨rfl, vX13_historyOf_40 hW (fun N e => ?_)⟩)⟩
    have n0 : N.1 55 0 = 1 := by rw [e, zsI_s]
    rw [n0]
    exact ⟨fun d => absurd d (by decide), fun _ => hq N (by rw [e]; exact rKp.slot (by omega)) n0⟩
  refine l0 _ _ _ _ _ ⟨rfl, vX13_historyOf_0 hW ?_⟩
  rw [hR.2.2.2.1]
  have ez := iz_lt hz (n := 0) (by omega)
  have ew := iz_lt hw (n := 0) (by omega)
  have e8 := iz_ge hw (n := 8) (by omega)
  refine ⟨fun d => f39 (fun q => absurd (q.1.symm.trans (bI_0.mp d)) (by decide)), fun d => ⟨fun u => f39 (fun q => by have := ez.mp u; have := q.2.1; omega), fun u => ?_⟩⟩
  have ht := bI_n.mp d
  obtain ⟨g, hg1, hg, hG, hok⟩ := hR.game hO ht
  have p1 := hok.1
  have p2 := hok.2.1
  rw [hg, nI_clamp (by omega), hG.1]
  have el := iz_ge hz (n := (aG A).1) (by omega)
  refine ⟨vp_in_nI (by omega) (by omega), fun y => f39 (fun q => by have := el.mp y; have := q.2.2.1; omega), fun y => ⟨fun v => f39 (fun q => by have := ew.mp v; have := q.2.2.2.1; omega), fun v => ⟨fun x => f39 (fun q => by have := e8.mp x; have := q.2.2.2.2; omega), fun x => ?_⟩⟩⟩
  have z0 : ¬ z < 0 := fun q => u (ez.mpr q)
  have z1 : ¬ ((aG A).1 : Int) ≤ z := fun q => y (el.mpr q)
  have w0 : ¬ w < 0 := fun q => v (ew.mpr q)
  have w1 : ¬ (8 : Int) ≤ w := fun q => x (e8.mpr q)
  have hv : hsA A z w = (0, hsV (aG A) z.toNat w.toNat) := by unfold hsA; rw [if_pos ⟨ht, by omega, by omega, by omega, by omega⟩]
  rw [hv] at hq
  refine l40 _ _ _ _ _ ⟨rfl, vX13_historyOf_40 hW (fun N e => ?_)⟩
  have n0 : N.1 55 0 = 0 := by rw [e, zsI_s]
  have k : rKp M N := by rw [e]; exact rKp.slot (by omega)
  have hWN := k.1.fix hW
  have hgN : N.1 55 6 = nI g := by rw [k.2 6 (by decide) (by decide)]; exact hg
  have hGN : rGm N g (aG A).1 (aG A).2.1 (aG A).2.2 := rGm_sm k.1 (fun b b1 b2 w => by
    simp only [List.mem_cons, List.mem_nil_iff, or_false] at w
    omega) hG
  have hq := hq N k n0
  obtain ⟨i, ei⟩ : ∃ i, i = z.toNat := ⟨_, rfl⟩
  obtain ⟨t, et⟩ : ∃ t, t = w.toNat := ⟨_, rfl⟩
  rw [n0]
  refine ⟨fun _ => ?_, fun w => absurd (by decide) w⟩
  rw [iz_nat (z := z) (by omega), ← ei]
  rw [← ei, ← et] at hq
  have hi : i < (aG A).1 := by omega
  obtain ⟨r1, r2, r3, r4, r5, r6, r7⟩ := (hGN.2 i hi).1
  refine c_base hWN hgN (vkX13_historyOf_56 hWN ?_)
  rw [iI_toInt hw.1 hw.2, nI_add, nI_clamp (by omega)]
  have rr : (69 : Int32) * nI (601 * g + i) + (67 : Int32) = nI (69 * (601 * g + i) + 67) := row_at (k := 67)
  rw [rr, nI_clamp (by omega), r1 67 (by omega), r2, r3, r4, r5, r6, r7]
  unfold hsV at hq
  refine ⟨fun c => ⟨vp_in_nI (by omega) (by omega), ?_⟩, fun c => ⟨vp_in_nI (by omega) (by omega), ?_⟩, fun c => ⟨vp_in_nI (by omega) (by omega), ?_⟩, fun c => ⟨vp_in_nI (by omega) (by omega), ?_⟩, fun c => ⟨vp_in_nI (by omega) (by omega), ?_⟩, fun c => ⟨vp_in_nI (by omega) (by omega), ?_⟩, fun c => ⟨vp_in_nI (by omega) (by omega), ?_⟩, fun c => ?_⟩
  · rw [if_neg (by omega), if_neg (by omega), if_neg (by omega), if_neg (by omega), if_neg (by omega), if_neg (by omega), if_neg (by omega)] at hq
    exact hq
  · rw [if_pos (by omega)] at hq
    exact hq
  · rw [if_neg (by omega), if_pos (by omega)] at hq
    exact hq
  · rw [if_neg (by omega), if_neg (by omega), if_pos (by omega)] at hq
    exact hq
  · rw [if_neg (by omega), if_neg (by omega), if_neg (by omega), if_pos (by omega)] at hq
    exact hq
  · rw [if_neg (by omega), if_neg (by omega), if_neg (by omega), if_neg (by omega), if_pos (by omega)] at hq
    exact hq
  · rw [if_neg (by omega), if_neg (by omega), if_neg (by omega), if_neg (by omega), if_neg (by omega), if_pos (by omega)] at hq
    exact hq
  · rw [if_neg (by omega), if_neg (by omega), if_neg (by omega), if_neg (by omega), if_neg (by omega), if_neg (by omega), if_pos (by omega)] at hq
    have loop : ∀ (f j : Nat), j + f = i → fsS (aG A).2.1 i f j = fsS (aG A).2.1 i i 0 → X 155 0 0 [.ref 55, .int (nI i), .int (nI j)] [] N := by
      intro f
      induction f with
      | zero =>
        intro j hj hf
        have hj : j = i := by omega
        refine l155 _ _ _ _ _ ⟨rfl, vX13_historyOf_155 hWN (c_isSame hWN hgN hg1 (by omega) (by omega) (P := (aG A).2.1 i) (R := (aG A).2.1 j) r1 (hGN.2 j (by omega)).1.1 r5 (hGN.2 j (by omega)).1.2.2.2.2.1 (fun h => vkX13_historyOf_162 hWN ⟨fun q => absurd q (by decide), fun _ => ?_⟩) (fun h => absurd ?_ h))⟩
        · rw [← hf] at hq
          exact hq
        · rw [hj]
          exact ⟨rfl, fun _ _ => rfl⟩
      | succ f ih =>
        intro j hj hf
        refine l155 _ _ _ _ _ ⟨rfl, vX13_historyOf_155 hWN (c_isSame hWN hgN hg1 (by omega) (by omega) (P := (aG A).2.1 i) (R := (aG A).2.1 j) r1 (hGN.2 j (by omega)).1.1 r5 (hGN.2 j (by omega)).1.2.2.2.2.1 (fun h => vkX13_historyOf_162 hWN ⟨fun q => absurd q (by decide), fun _ => ?_⟩) (fun h => vkX13_historyOf_162 hWN ⟨fun _ => ?_, fun q => absurd rfl q⟩))⟩
        · have : fsS (aG A).2.1 i (f + 1) j = j := by unfold fsS; rw [if_pos h]
          rw [← hf, this] at hq
          exact hq
        · rw [nI_1]
          refine ih (j + 1) (by omega) ?_
          rw [← hf]
          conv => rhs; unfold fsS
          rw [if_neg h]
    exact loop i 0 (by omega) rfl
