/-! THE CLASS'S GAME: passing file, keys, the latest that is the same -/
/-- the list of the latest position -/
def gLs (M : zM) (g : Nat) (P : Ps) : Prop := M.1 g 3 = nI (mvs P).length ∧ ∀ k v, (mvs P)[k]? = some v → M.1 (g + 7) k = nI v
theorem tip_pss {P : Ps} (hO : psOk P) {m : Nat} (hm : m ∈ mvs P) : pss P (m % 64) (m / 64 % 64) ↔ tipB P (m % 64) (m / 64 % 64) = true := by
  obtain ⟨ha, hb, hk, hlg, em⟩ := mvs_parts hm
  rw [pss_gos hO ha hlg.1, tipB_t]
  constructor
  · intro q; exact (psg_tip q).2
  · intro q
    unfold psg pwn
    rw [Bool.and_eq_true, decide_eq_true_eq]
    exact ⟨(kd_1 (hO.1 _ ha)).mpr (by have := q.1; have := hO.2.1; omega), tipB_t.mpr q⟩
theorem pfL_none {P : Ps} (h : ¬ P.2.2.2.1 < 8) : ∀ L, pfL P L = 8
  | [] => rfl
  | m :: t => by
    unfold pfL
    rw [if_neg]
    · exact pfL_none h t
    · intro q
      have := (tipB_t.mp q).2.2.1
      unfold psq at this
      rw [if_neg h] at this
      omega
set_option maxHeartbeats 4000000 in
theorem c_passingFileC {mc ms : Nat} {M : zM} {g : Nat} (hW : zWd M g) {P : Ps} (hG : Gd P) (hP : bPs M g P) (hL : gLs M g P) {Q : zQt} (hq : Q (some (.int (pI (pfl P)))) M) : wX4_passingFile mc ms [.ref g] M Q := by
  refine ⟨⟨Nat.le_of_ble_eq_true rfl, rfl⟩, fun X l0 l15 => ?_⟩
  have hO := hG.1
  have hc := hO.2.1
  have hLen := Gd_len hG
  refine l0 _ _ _ _ _ ⟨rfl, vX4_passingFile_0 hW ?_⟩
  rw [hP.2.2.2.1]
  by_cases hp : P.2.2.2.1 < 8
  rotate_left
  · have e : pI P.2.2.2.1 = -1 := by unfold pI; rw [if_neg hp]
    refine ⟨fun _ => ?_, fun q => absurd e q⟩
    have : pfl P = 8 := pfL_none hp _
    rw [this] at hq
    exact hq
  have en : ¬ pI P.2.2.2.1 = (-1 : Int32) := by
    unfold pI
    rw [if_pos hp]
    have : ∀ f, f < 8 → ¬ nI f = (-1 : Int32) := by decide
    exact this _ hp
  have loop : ∀ (r k : Nat), k + r = (mvs P).length → pfL P ((mvs P).drop k) = pfl P → X 15 0 0 [.ref g, .int (nI k)] [] M := by
    intro r
    induction r with
    | zero =>
      intro k hk hv
      refine l15 _ _ _ _ _ ⟨rfl, vX4_passingFile_15 hW ?_⟩
      rw [hL.1]
      refine ⟨fun _ => ?_, fun q => absurd ((nI_leI (a := (mvs P).length) (b := k) (by omega) (by omega)).mpr (by omega)) q⟩
      rw [List.drop_eq_nil_of_le (by omega)] at hv
      rw [← hv] at hq
      exact hq
    | succ r ih =>
      intro k hk hv
      have hkl : k < (mvs P).length := by omega
      have hgk : (mvs P)[k]? = some (mvs P)[k] := List.getElem?_eq_getElem hkl
      have hmem := List.getElem_mem hkl
      have hdr := List.drop_eq_getElem_cons hkl
      obtain ⟨m, em⟩ : ∃ m, m = (mvs P)[k] := ⟨_, rfl⟩
      rw [← em] at hgk hmem hdr
      have hml := mvs_lt hmem
      obtain ⟨ha, hb, -, -, -⟩ := mvs_parts hmem
      rw [hdr] at hv
      refine l15 _ _ _ _ _ ⟨rfl, vX4_passingFile_15 hW ?_⟩
      rw [hL.1, nI_clamp (by omega), hL.2 k m hgk]
      refine ⟨fun q => absurd ((nI_leI (a := (mvs P).length) (b := k) (by omega) (by omega)).mp q) (by omega), fun _ => ⟨vp_in_nI (by omega) (by omega), fun y ey => ⟨vp_in_nI (by omega) (by omega), ?_⟩⟩⟩
      have e1 : nI m &&& (63 : Int32) = nI (m % 64) := pk_andN (by omega) 6 (by decide)
      have e2 : (nI m >>> ((6 : Int32) &&& 31)) &&& (63 : Int32) = nI (m / 64 % 64) := by
        rw [pk_shrN (by omega) _ 6 (by decide), pk_andN (by omega) 6 (by decide)]
      rw [e2] at ey
      subst ey
      rw [e1]
      have hts := tip_pss hO hmem
      refine c_passes hW hc hP.1 hP.2.1 ha hb (fun q => vkX4_passingFile_53 hW ⟨fun w => absurd w (by decide), fun _ => ?_⟩) (fun q => vkX4_passingFile_53 hW ⟨fun _ => ?_, fun w => absurd rfl w⟩)
      · rw [and7 hb]
        unfold pfL at hv
        rw [if_pos (hts.mp q)] at hv
        rw [← hv] at hq
        unfold pI at hq
        rw [if_pos (by omega)] at hq
        exact hq
      · rw [nI_1]
        refine ih (k + 1) (by omega) ?_
        unfold pfL at hv
        rw [if_neg (fun w => q (hts.mpr w))] at hv
        exact hv
  exact ⟨fun q => absurd q en, fun _ => loop (mvs P).length 0 (by omega) rfl⟩
/-- the keys of a position -/
def kyS (M : zM) (g i : Nat) (P : Ps) : Prop := (∀ t s, t < 4 → s < 64 → (bt (M.2.1 (g + 9) (5 * i + t)) s = true ↔ P.1 s / 2 ^ t % 2 = 1)) ∧ M.2.1 (g + 9) (5 * i + 4) = jN (P.2.1 + 2 * P.2.2.1 + 32 * svF (pfl P))
theorem i64_nat {n : Nat} (h : n < 2 ^ 31) : (nI n).toInt64 = jN n := by
  have := jN_add 0 n h
  rw [Nat.zero_add] at this
  rw [← this]
  show _ = 0 + _
  rw [Int64.zero_add]
theorem jN_inj {a b : Nat} (ha : a < 2 ^ 64) (hb : b < 2 ^ 64) : jN a = jN b ↔ a = b := by
  constructor
  · intro h
    have := congrArg nn h
    rw [nn_jN ha, nn_jN hb] at this
    exact this
  · intro h; rw [h]
theorem bits_eq : ∀ u, u ≤ 12 → ∀ v, v ≤ 12 → (∀ t, t < 4 → (u / 2 ^ t % 2 = 1 ↔ v / 2 ^ t % 2 = 1)) → u = v := by decide +kernel
theorem svF_inj {a b : Nat} (ha : a ≤ 8) (hb : b ≤ 8) : svF a = svF b ↔ a = b := by
  unfold svF
  split <;> split <;> omega
theorem ky_same {M : zM} {g i j : Nat} {P R : Ps} (hP : psOk P) (hR : psOk R) (kP : kyS M g i P) (kR : kyS M g j R) : (∀ t, t < 5 → M.2.1 (g + 9) (5 * i + t) = M.2.1 (g + 9) (5 * j + t)) ↔ same P R := by
  have f1 := pfl_le P
  have f2 := pfl_le R
  have s1 : svF (pfl P) ≤ 8 := by unfold svF; split <;> omega
  have s2 : svF (pfl R) ≤ 8 := by unfold svF; split <;> omega
  have p1 := hP.2.1
  have p2 := hP.2.2.1
  have r1 := hR.2.1
  have r2 := hR.2.2.1
  constructor
  · intro h
    have h4 := h 4 (by omega)
    rw [kP.2, kR.2, jN_inj (by omega) (by omega)] at h4
    have hm : ∀ s, s < 64 → P.1 s = R.1 s := by
      intro s hs
      refine bits_eq _ (hP.1 s hs) _ (hR.1 s hs) (fun t ht => ?_)
      rw [← kP.1 t s ht hs, ← kR.1 t s ht hs, h t (by omega)]
    refine ⟨(svF_inj f1 f2).mp (by omega), fun k hk => ?_⟩
    unfold psI
    by_cases q : k < 64
    · rw [if_pos q, if_pos q, hm k q]
    · rw [if_neg q, if_neg q]
      by_cases q2 : k = 64
      · rw [if_pos q2, if_pos q2, show P.2.1 = R.2.1 by omega]
      · rw [if_neg q2, if_neg q2, if_pos (by omega), if_pos (by omega), show P.2.2.1 = R.2.2.1 by omega]
  · intro h t ht
    have hm := same_men hP hR h
    by_cases q : t < 4
    · apply bt_ext
      intro s hs
      have a1 := kP.1 t s q hs
      have a2 := kR.1 t s q hs
      rw [hm s hs] at a1
      rcases z : bt (M.2.1 (g + 9) (5 * j + t)) s with _ | _
      · rw [z] at a2
        rcases w : bt (M.2.1 (g + 9) (5 * i + t)) s with _ | _
        · rfl
        · exact absurd (a2.mpr (a1.mp w)) (by decide)
      · exact a1.mpr (a2.mp z)
    · have e : t = 4 := by omega
      rw [e, kP.2, kR.2]
      have h64 := h.2 64 (by omega)
      have h65 := h.2 65 (by omega)
      have e64 : nI P.2.1 = nI R.2.1 := h64
      have e65 : nI P.2.2.1 = nI R.2.2.1 := h65
      rw [(nI_eq (by omega) (by omega)).mp e64, (nI_eq (by omega) (by omega)).mp e65, h.1]
theorem lgE {x y : Int64} : lg_cmp x y = 0 ↔ x = y := by
  unfold lg_cmp
  constructor
  · intro h
    split at h
    · exact absurd h (by decide)
    · split at h
      · assumption
      · exact absurd h (by decide)
  · intro h
    rw [h]
    rw [if_neg (by simp), if_pos rfl]
theorem c_isSameC {mc ms : Nat} {M : zM} {g : Nat} (hW : zWd M g) {i j : Nat} (hi : i < 601) (hj : j < 601) {P R : Ps} (hP : psOk P) (hR : psOk R) (kP : kyS M g i P) (kR : kyS M g j R) {Q : zQt} (q1 : same P R → Q (some (.int 1)) M) (q0 : ¬ same P R → Q (some (.int 0)) M) : wX4_isSame mc ms [.ref g, .int (nI (i * 5)), .int (nI (j * 5))] M Q := by
  refine ⟨⟨Nat.le_of_ble_eq_true rfl, rfl⟩, fun X l0 l2 => ?_⟩
  have key := ky_same hP hR kP kR
  have loop : ∀ (r k : Nat), k + r = 5 → (∀ t, t < k → M.2.1 (g + 9) (5 * i + t) = M.2.1 (g + 9) (5 * j + t)) → X 2 0 0 [.ref g, .int (nI (i * 5)), .int (nI (j * 5)), .int (nI k)] [] M := by
    intro r
    induction r with
    | zero =>
      intro k hk h
      obtain rfl : k = 5 := by omega
      exact l2 _ _ _ _ _ ⟨rfl, vX4_isSame_2 hW ⟨fun _ => q1 (key.mp h), fun q => absurd (by decide) q⟩⟩
    | succ r ih =>
      intro k hk h
      have e5 := nI_leI (a := 5) (b := k) (by decide) (by omega)
      refine l2 _ _ _ _ _ ⟨rfl, vX4_isSame_2 hW ⟨fun q => absurd (e5.mp q) (by omega), fun _ => ?_⟩⟩
      rw [nI_add, nI_add, nI_clamp (by omega), nI_clamp (by omega), lgE, show i * 5 + k = 5 * i + k by omega, show j * 5 + k = 5 * j + k by omega, nI_1]
      refine ⟨vp_in_nI (by omega) (by omega), vp_in_nI (by omega) (by omega), fun q => ih (k + 1) (by omega) (fun t ht => ?_), fun q => q0 (fun z => q (key.mpr z k (by omega)))⟩
      rcases (show t < k ∨ t = k by omega) with w | w
      · exact h t w
      · rw [w]; exact q
  exact l0 _ _ _ _ _ ⟨rfl, vX4_isSame_0 hW (loop 5 0 rfl (fun t ht => absurd ht (by omega)))⟩
theorem nI_max {a b : Nat} (ha : a < 2 ^ 30) (hb : b < 2 ^ 30) : (if (0 : Int32) < nI a - nI b then nI a - nI b else 0) = nI (a - b) := by
  by_cases q : b ≤ a
  · rw [pk_sub q]
    have e : (0 : Int32) < nI (a - b) ↔ 0 < a - b := nI_ltI (a := 0) (b := a - b) (by decide) (by omega)
    by_cases w : 0 < a - b
    · rw [if_pos (e.mpr w)]
    · rw [if_neg (fun z => w (e.mp z)), show a - b = 0 by omega]
      rfl
  · have := pk_sneg (a := a) (b := b) hb (by omega)
    rw [if_neg, show a - b = 0 by omega]
    · rfl
    · intro z
      have z2 : (nI a - nI b).toInt < 0 := by
        rw [pk_sub_toInt ha hb]
        omega
      have z3 := Int32.lt_iff_toInt_lt.mp z
      have z4 : (0 : Int32).toInt = 0 := rfl
      omega
set_option maxHeartbeats 4000000 in
theorem c_latestSame {mc ms : Nat} {M : zM} {g : Nat} (hW : zWd M g) {G : Gm} (hG : gmOk G) {i : Nat} (hi : i < G.1) (h7 : M.1 (g + 1) 7 = nI (G.2.1 i).2.2.2.2.1) (hk : ∀ j, j ≤ i → kyS M g j (G.2.1 j)) {Q : zQt} (q1 : ∀ k, k < i → same (G.2.1 k) (G.2.1 i) → (∀ j, k < j → j < i → ¬ same (G.2.1 j) (G.2.1 i)) → Q (some (.int (nI k))) M) (q0 : (∀ j, j < i → ¬ same (G.2.1 j) (G.2.1 i)) → Q (some (.int (-1))) M) : wX4_latestSame mc ms [.ref g, .int (nI i)] M Q := by
  refine ⟨⟨Nat.le_of_ble_eq_true rfl, rfl⟩, fun X l0 l18 => ?_⟩
  have h6 := hG.2.1
  have hok : ∀ j, j ≤ i → psOk (G.2.1 j) := fun j hj => (hG.2.2.1 j (by omega)).1.1
  have hcl := (hG.2.2.1 i hi).2.1
  obtain ⟨c, ec⟩ : ∃ c, c = (G.2.1 i).2.2.2.2.1 := ⟨_, rfl⟩
  rw [← ec] at h7 hcl
  have nb : ∀ j, j + c < i → ¬ same (G.2.1 j) (G.2.1 i) := fun j hj => no_back hG hi (by rw [← ec]; exact hj)
  have loop : ∀ (k : Nat), k ≤ i → (∀ j, k ≤ j → j < i → ¬ same (G.2.1 j) (G.2.1 i)) → X 18 0 0 [.ref g, .int (nI i), .int (nI (i - c)), .int (nI k + (-1))] [] M := by
    intro k
    induction k with
    | zero =>
      intro hk0 hn
      refine l18 _ _ _ _ _ ⟨rfl, vX4_latestSame_18 hW ?_⟩
      have e : nI 0 + (-1 : Int32) < nI (i - c) := by
        rw [iI_nat (i - c), show nI 0 + (-1 : Int32) = iI (-1) from by decide]
        exact (iI_lt (by omega) (by omega) (by omega) (by omega)).mpr (by omega)
      exact ⟨fun _ => q0 (fun j hj => hn j (by omega) hj), fun q => absurd e q⟩
    | succ k ih =>
      intro hki hn
      rw [pk_m1]
      have e := nI_ltI (a := k) (b := i - c) (by omega) (by omega)
      refine l18 _ _ _ _ _ ⟨rfl, vX4_latestSame_18 hW ⟨fun q => q0 (fun j hj => ?_), fun q => ?_⟩⟩
      · have := e.mp q
        by_cases w : k + 1 ≤ j
        · exact hn j w hj
        · exact nb j (by omega)
      · rw [show nI k * (5 : Int32) = nI (k * 5) from pk_mul k 5, show nI i * (5 : Int32) = nI (i * 5) from pk_mul i 5]
        refine c_isSameC hW (by omega) (by omega) (hok k (by omega)) (hok i (Nat.le_refl _)) (hk k (by omega)) (hk i (Nat.le_refl _)) (fun z => vkX4_latestSame_33 hW ⟨fun w => absurd w (by decide), fun _ => q1 k (by omega) z (fun j a b => hn j (by omega) b)⟩) (fun z => vkX4_latestSame_33 hW ⟨fun _ => ih (by omega) (fun j a b => ?_), fun w => absurd rfl w⟩)
        by_cases w : j = k
        · rw [w]; exact z
        · exact hn j (by omega) b
  refine l0 _ _ _ _ _ ⟨rfl, vX4_latestSame_0 hW (fun y ey => ?_)⟩
  rw [h7, nI_max (by omega) (by omega)] at ey
  subst ey
  rw [Int32.sub_eq_add_neg]
  exact loop i (Nat.le_refl _) (fun j a b => absurd a (by omega))
set_option maxHeartbeats 4000000 in
theorem c_writeKeys {mc ms : Nat} {M : zM} {g : Nat} (hW : zWd M g) {P : Ps} (hO : psOk P) (hP : bPs M g P) {i : Nat} (hi : i < 601) (h7 : M.1 (g + 8) (8 * i + 7) = pI (pfl P)) {Q : zQt} (hq : ∀ N, zSm [g + 9] M N → kyS N g i P → (∀ j, ¬ (5 * i ≤ j ∧ j < 5 * i + 5) → N.2.1 (g + 9) j = M.2.1 (g + 9) j) → Q none N) : wX4_writeKeys mc ms [.ref g, .int (nI i)] M Q := by
  refine ⟨⟨Nat.le_of_ble_eq_true rfl, rfl⟩, fun X l0 l6 l17 l48 => ?_⟩
  have loop : ∀ (r t : Nat) (N : zM), t + r = 4 → zSm [g + 9] M N → (∀ u s, u < t → s < 64 → (bt (N.2.1 (g + 9) (5 * i + u)) s = true ↔ P.1 s / 2 ^ u % 2 = 1)) → (∀ j, ¬ (5 * i ≤ j ∧ j < 5 * i + 5) → N.2.1 (g + 9) j = M.2.1 (g + 9) j) → X 6 0 0 [.ref g, .int (nI i), .int (nI (5 * i)), .int (nI t)] [] N := by
    intro r
    induction r with
    | zero =>
      intro t N ht sm hb ho
      obtain rfl : t = 4 := by omega
      have hWN := sm.wd hW
      refine l6 _ _ _ _ _ ⟨rfl, vX4_writeKeys_6 hWN ⟨fun _ => ?_, fun q => absurd (by decide) q⟩⟩
      rw [show nI i * (8 : Int32) = nI (i * 8) from pk_mul i 8, show nI (i * 8) + (7 : Int32) = nI (i * 8 + 7) from nI_add _ 7, nI_clamp (by omega), show nI (5 * i) + (4 : Int32) = nI (5 * i + 4) from nI_add _ 4, nI_clamp (by omega), sm.i (by simp), sm.i (by simp), hP.2.1, hP.2.2.1, show i * 8 + 7 = 8 * i + 7 by omega, h7]
      refine ⟨vp_in_nI (by omega) (by omega), vp_in_nI (by omega) (by omega), fun N2 e2 => ?_⟩
      have p1 := hO.2.1
      have p2 := hO.2.2.1
      have f1 := pfl_le P
      have s1 : svF (pfl P) ≤ 8 := by unfold svF; split <;> omega
      have ep : pI (pfl P) + (1 : Int32) = nI (svF (pfl P)) := by
        unfold pI svF
        split
        · exact nI_1 _
        · decide
      have ev : ((nI P.2.1 ||| (nI P.2.2.1 <<< ((1 : Int32) &&& 31))) ||| ((pI (pfl P) + (1 : Int32)) <<< ((5 : Int32) &&& 31))).toInt64 = jN (P.2.1 + 2 * P.2.2.1 + 32 * svF (pfl P)) := by
        rw [ep, pk_shlN _ 1 (by decide) (by omega), pk_shlN _ 5 (by decide) (by omega), show P.2.2.1 * 2 ^ 1 = 2 ^ 1 * P.2.2.1 by omega, nI_or (by omega) (by omega), show svF (pfl P) * 2 ^ 5 = 2 ^ 5 * svF (pfl P) by omega, nI_or (by omega) (by omega), i64_nat (by omega)]
      rw [ev] at e2
      refine hq N2 (by rw [e2]; exact sm.tr (zSm.J (by simp))) ⟨fun u s hu hs => ?_, by rw [e2, zsJ_s]⟩ (fun j hj => ?_)
      · rw [e2, zsJ_n (by omega)]; exact hb u s hu hs
      · rw [e2, zsJ_n (by omega)]; exact ho j hj
    | succ r ih =>
      intro t N ht sm hb ho
      have hWN := sm.wd hW
      have hBN : bSt N g P.1 := hP.1.sm sm (fun b b1 b2 q => by have := List.mem_singleton.mp q; omega)
      have inner : ∀ (r2 m : Nat) (x : Int64), m + r2 = 13 → 1 ≤ m → (∀ s, s < 64 → (bt x s = true ↔ P.1 s < m ∧ P.1 s / 2 ^ t % 2 = 1)) → X 17 0 0 [.ref g, .int (nI i), .int (nI (5 * i)), .int (nI t), .long x, .int (nI m)] [] N := by
        intro r2
        induction r2 with
        | zero =>
          intro m x hm hm1 hx
          obtain rfl : m = 13 := by omega
          refine l17 _ _ _ _ _ ⟨rfl, vX4_writeKeys_17 hWN ⟨fun _ => ?_, fun q => absurd (by decide) q⟩⟩
          rw [nI_add, nI_clamp (by omega)]
          refine ⟨vp_in_nI (by omega) (by omega), fun N2 e2 => ?_⟩
          rw [nI_1]
          refine ih (t + 1) N2 (by omega) (by rw [e2]; exact sm.tr (zSm.J (by simp))) (fun u s hu hs => ?_) (fun j hj => ?_)
          · by_cases q : u = t
            · rw [q, e2, zsJ_s, hx s hs]
              have := (hBN.1 s hs).2
              exact ⟨fun z => z.2, fun z => ⟨by omega, z⟩⟩
            · rw [e2, zsJ_n (by omega)]; exact hb u s (by omega) hs
          · rw [e2, zsJ_n (by omega)]; exact ho j hj
        | succ r2 ih2 =>
          intro m x hm hm1 hx
          have e12 := nI_ltI (a := 12) (b := m) (by decide) (by omega)
          have f48 : ∀ y : Int64, (∀ s, s < 64 → (bt y s = true ↔ P.1 s < m + 1 ∧ P.1 s / 2 ^ t % 2 = 1)) → X 48 0 0 [.ref g, .int (nI i), .int (nI (5 * i)), .int (nI t), .long y, .int (nI m)] [] N := by
            intro y hy
            refine l48 _ _ _ _ _ ⟨rfl, vX4_writeKeys_48 hWN ?_⟩
            rw [nI_1]
            exact ih2 (m + 1) y (by omega) (by omega) hy
          have eb : ((nI m >>> (nI t &&& 31)) &&& (1 : Int32)) = 0 ↔ ¬ m / 2 ^ t % 2 = 1 := by
            have h : ∀ m, m < 16 → ∀ t, t < 4 → (((nI m >>> (nI t &&& 31)) &&& (1 : Int32)) = 0 ↔ ¬ m / 2 ^ t % 2 = 1) := by decide +kernel
            exact h m (by omega) t (by omega)
          refine l17 _ _ _ _ _ ⟨rfl, vX4_writeKeys_17 hWN ⟨fun q => absurd (e12.mp q) (by omega), fun _ => ⟨fun q => f48 x (fun s hs => ?_), fun q => ?_⟩⟩⟩
          · rw [hx s hs]
            constructor
            · intro z; exact ⟨by omega, z.2⟩
            · rintro ⟨z1, z2⟩
              by_cases w : P.1 s = m
              · rw [w] at z2; exact absurd z2 (eb.mp q)
              · exact ⟨by omega, z2⟩
          · have q1 : m / 2 ^ t % 2 = 1 := by
              by_cases w : m / 2 ^ t % 2 = 1
              · exact w
              · exact absurd (eb.mpr w) q
            rw [nI_clamp (by omega)]
            refine ⟨vp_in_nI (by omega) (by omega), fun y ey => f48 y (fun s hs => ?_)⟩
            rw [ey, bt_or, Bool.or_eq_true, hx s hs, hBN.2.1 m s hm1 (by omega) hs]
            constructor
            · rintro (z | z)
              · exact ⟨by omega, z.2⟩
              · rw [z]; exact ⟨by omega, q1⟩
            · rintro ⟨z1, z2⟩
              by_cases w : P.1 s = m
              · exact Or.inr w
              · exact Or.inl ⟨by omega, z2⟩
      have e4 := nI_leI (a := 4) (b := t) (by decide) (by omega)
      refine l6 _ _ _ _ _ ⟨rfl, vX4_writeKeys_6 hWN ⟨fun q => absurd (e4.mp q) (by omega), fun _ => inner 12 1 0 rfl (Nat.le_refl _) (fun s hs => ?_)⟩⟩
      rw [bt_0]
      constructor
      · intro z; exact absurd z (by decide)
      · rintro ⟨z1, z2⟩
        rw [show P.1 s = 0 by omega, Nat.zero_div] at z2
        exact absurd z2 (by decide)
  refine l0 _ _ _ _ _ ⟨rfl, vX4_writeKeys_0 hW ?_⟩
  rw [show nI i * (5 : Int32) = nI (i * 5) from pk_mul i 5, show i * 5 = 5 * i by omega]
  exact loop 4 0 M rfl zSm.rf (fun u s hu => absurd hu (by omega)) (fun _ _ => rfl)
