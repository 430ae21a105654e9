/-! THE CLASS'S CALLS, where they do not throw -/
theorem pk8_out {L : List Nat} {a : Nat} (h : L.length ≤ a) : ∀ n, pk8 L a n = 0
  | 0 => rfl
  | n + 1 => by
    show 256 * pk8 L a n + L.getD (a + n) 0 = 0
    rw [pk8_out h n, getD_out (by omega)]
theorem cHal.sm {L : List Nat} {M N : zM} {A : Ah} (h : cHal M A) (hs : zSm L M N) (hL : 16 ∉ L ∧ 24 ∉ L ∧ ∀ b, 18 ≤ b → b ≤ 23 → b ∉ L) (hg : ∀ g, (g = 35 ∨ g = 45) → M.2.2.1 16 6 = some g → aTh A = true → gGm M g (aG A) → gGm N g (aG A)) : cHal N A := by
  obtain ⟨k1, k2, k3, k4, k5, k6, k7, k8, g, hgg, h6, h7, hG⟩ := h
  refine ⟨hs.fix k1, k2.sm hs hL.2.2, k3.sm hs hL.2.1, ?_, ?_, ?_, ?_, ?_, g, hgg, by rw [hs.1]; exact h6, by rw [hs.1]; exact h7, fun ht => hg g hgg h6 ht (hG ht)⟩
  · rw [hs.i hL.1]; exact k4
  · rw [hs.i hL.1]; exact k5
  · rw [hs.i hL.1]; exact k6
  · rw [hs.i hL.1]; exact k7
  · rw [hs.i hL.1]; exact k8
theorem some_g {M : zM} {g g2 : Nat} (h : M.2.2.1 16 6 = some g) (h2 : M.2.2.1 16 6 = some g2) : g2 = g := by
  rw [h] at h2
  exact (Option.some.inj h2).symm
theorem th_8 {M : zM} {A : Ah} (h : cHal M A) : (M.1 16 8 = 0 ↔ aTh A = false) := by
  rw [h.2.2.2.2.1, bI_0]
theorem nth_8 {M : zM} {A : Ah} (h : cHal M A) (ht : aTh A = true) : ¬ M.1 16 8 = 0 := fun z => by
  rw [(th_8 h).mp z] at ht
  exact absurd ht (by decide)
set_option maxHeartbeats 4000000 in
theorem c_eight {mc ms : Nat} {M : zM} {g : Nat} (hW : zWd M g) {P : Ps} (hO : psOk P) (hP : bPs M g P) (hc : P.2.2.2.2.1 < 100000) (hn : P.2.2.2.2.2 < 100000) {z : Int} (hz : i32 z) {Q : zQt} (hq : ∀ N, zSm [29, 30] M N → Q (some (.long (jN (if z < 0 ∨ 20 < z then 0 else pk8 (recL P) (8 * z.toNat) 8)))) N) : wX7_eight mc ms [.ref 29, .ref (g + 1), .int (iI z)] M Q := by
  refine ⟨⟨Nat.le_of_ble_eq_true rfl, rfl⟩, fun X l0 l10 l25 l61 => ?_⟩
  have hlen := recL_len P
  have f10 : (z < 0 ∨ 13 ≤ z) → X 10 0 0 [] [] M := by
    intro h
    refine l10 _ _ _ _ _ ⟨rfl, vX7_eight_10 hW ?_⟩
    have := hq M zSm.rf
    have e : (if z < 0 ∨ 20 < z then 0 else pk8 (recL P) (8 * z.toNat) 8) = 0 := by
      split
      · rfl
      · exact pk8_out (by omega) 8
    rw [e] at this
    exact this
  refine l0 _ _ _ _ _ ⟨rfl, vX7_eight_0 hW ?_⟩
  have z0 := iz_lt hz (n := 0) (by decide)
  have z13 := iz_lt hz (n := 13) (by decide)
  refine ⟨fun w => f10 (Or.inl (by have := z0.mp w; omega)), fun w => ⟨fun w2 => ?_, fun w2 => f10 (Or.inr (by have : ¬ z < 13 := fun y => w2 (z13.mpr y); omega))⟩⟩
  have h0 : 0 ≤ z := by have : ¬ z < 0 := fun y => w (z0.mpr y); omega
  have h13 := z13.mp w2
  obtain ⟨k, ek⟩ : ∃ k, k = z.toNat := ⟨_, rfl⟩
  have hk : k < 13 := by omega
  rw [iz_nat h0, ← ek]
  rw [if_neg (by omega), ← ek] at hq
  refine c_write hW hO hP hc hn (fun N sN oN => vkX7_eight_17 (sN.wd hW) ?_)
  have WN := sN.wd hW
  have loop : ∀ (r j : Nat), j + r = 8 → X 25 0 0 [.ref 29, .int (nI k), .long (jN (pk8 (recL P) (8 * k) j)), .int (nI (8 * k + j))] [] N := by
    intro r
    induction r with
    | zero =>
      intro j hj
      obtain rfl : j = 8 := by omega
      refine l25 _ _ _ _ _ ⟨rfl, vX7_eight_25 WN ?_⟩
      rw [show (8 : Int32) * nI k = nI (8 * k) from pk_mul 8 k, show nI (8 * k) + (8 : Int32) = nI (8 * k + 8) from nI_add _ 8]
      exact ⟨fun _ => hq N sN, fun w => absurd ((nI_leI (a := 8 * k + 8) (b := 8 * k + 8) (by omega) (by omega)).mpr (Nat.le_refl _)) w⟩
    | succ r ih =>
      intro j hj
      have f61 : ∀ c, c < 256 → c = (recL P).getD (8 * k + j) 0 → X 61 0 0 [.ref 29, .int (nI k), .int (nI (8 * k + j))] [.int (nI c), .long (jN (pk8 (recL P) (8 * k) j) <<< ((8 : Int32).toInt64 &&& 63))] N := by
        intro c hcc ec
        refine l61 _ _ _ _ _ ⟨rfl, vX7_eight_61 WN ?_⟩
        rw [jN_cat _ _ hcc, nI_1, ec]
        exact ih (j + 1) (by omega)
      refine l25 _ _ _ _ _ ⟨rfl, vX7_eight_25 WN ?_⟩
      rw [show (8 : Int32) * nI k = nI (8 * k) from pk_mul 8 k, show nI (8 * k) + (8 : Int32) = nI (8 * k + 8) from nI_add _ 8, oN.1]
      have el := nI_leI (a := (recL P).length) (b := 8 * k + j) (by omega) (by omega)
      refine ⟨fun w => absurd ((nI_leI (a := 8 * k + 8) (b := 8 * k + j) (by omega) (by omega)).mp w) (by omega), fun _ => ⟨fun w => f61 0 (by omega) (getD_out (el.mp w)).symm, fun w => ?_⟩⟩
      have hlt : 8 * k + j < (recL P).length := by have : ¬ (recL P).length ≤ 8 * k + j := fun y => w (el.mpr y); omega
      have hg := List.getElem?_eq_getElem hlt
      rw [nI_clamp (by omega), oN.2 _ _ hg]
      refine ⟨vp_in_nI (by omega) (by omega), f61 _ (recL_lt _ (List.getElem_mem hlt)) ?_⟩
      rw [List.getD_eq_getElem?_getD, hg]
      rfl
  rw [show (8 : Int32) * nI k = nI (8 * k) from pk_mul 8 k]
  exact loop 8 0 rfl
theorem gm_cl {G : Gm} (h : gmOk G) : (lst G).2.2.2.2.1 < 100000 ∧ (lst G).2.2.2.2.2 < 100000 := by
  have := h.last.2
  have h6 := h.2.1
  exact ⟨by have := this.1; omega, by have := this.2; omega⟩
theorem k_recordAt {mc ms : Nat} {M : zM} {A : Ah} (hK : cHal M A) (hO : aOk A) {z : Int} (hz : i32 z) {Q : zQt} (hq : ∀ N, cFr M N → cHal N A → Q (some (.long (jN (rcA A z)))) N) : wX11_recordAt mc ms [.ref 16, .int (iI z)] M Q := by
  refine ⟨⟨Nat.le_of_ble_eq_true rfl, rfl⟩, fun X l0 l26 => ?_⟩
  have hW := hK.wd
  refine l0 _ _ _ _ _ ⟨rfl, vX11_recordAt_0 hW ⟨fun w => ?_, fun w => ?_⟩⟩
  · have ht := (th_8 hK).mp w
    refine l26 _ _ _ _ _ ⟨rfl, vX11_recordAt_26 hW ?_⟩
    have := hq M cFr.rf hK
    unfold rcA at this
    rw [if_pos (Or.inl ht)] at this
    exact this
  · have ht : aTh A = true := by
      cases h : aTh A with
      | true => rfl
      | false => exact absurd ((th_8 hK).mpr h) w
    obtain ⟨g, hg, h6, Wg, gG, oG⟩ := hK.game hO ht
    obtain ⟨c1, c2⟩ := gm_cl oG
    refine ⟨g, h6, fgs_0 Wg, g + 1, fgr_0_0 Wg, fgs_1 Wg, c_eight Wg oG.last.1.1 gG.1 c1 c2 hz (fun N sN => vkX11_recordAt_22 (sN.wd hW) (l26 _ _ _ _ _ ⟨rfl, vX11_recordAt_26 (sN.wd hW) ?_⟩))⟩
    have := hq N (cFr.of sN (by simp)) (hK.sm sN ⟨by simp, by simp, fun b b1 b2 q => by simp at q; omega⟩ (fun g2 hg2 _ _ hh => hh.sm sN (fun b b1 b2 q => by simp at q; omega)))
    unfold rcA at this
    have e : (if aTh A = false ∨ z < 0 ∨ 20 < z then 0 else pk8 (recL (lst (aG A))) (8 * z.toNat) 8) = (if z < 0 ∨ 20 < z then 0 else pk8 (recL (lst (aG A))) (8 * z.toNat) 8) := by
      by_cases q : z < 0 ∨ 20 < z
      · rw [if_pos (Or.inr q), if_pos q]
      · rw [if_neg (fun u => u.elim (fun v => by rw [ht] at v; exact absurd v (by decide)) q), if_neg q]
    rw [e] at this
    exact this
theorem th_tf {A : Ah} : aTh A = true ∨ aTh A = false := by cases aTh A <;> simp
theorem k_retreat {mc ms : Nat} {M : zM} {A : Ah} (hK : cHal M A) (hO : aOk A) {Q : zQt} (hq : ∀ N, cFr M N → cHal N (retA A).2 → Q (some (.int (nI (retA A).1))) N) : wX11_retreat mc ms [.ref 16] M Q := by
  refine ⟨⟨Nat.le_of_ble_eq_true rfl, rfl⟩, fun X l0 l21 l22 => ?_⟩
  have hW := hK.wd
  have f21 : ∀ N, cFr M N → cHal N A → (aTh A = false ∨ (aG A).1 < 2) → X 21 0 0 [] [] N := by
    intro N fr hN h
    refine l21 _ _ _ _ _ ⟨rfl, vX11_retreat_21 hN.wd (l22 _ _ _ _ _ ⟨rfl, vX11_retreat_22 hN.wd ⟨rfl, ?_⟩⟩)⟩
    have e : retA A = (0, A) := by unfold retA; rw [if_pos h]
    have := hq N fr (by rw [e]; exact hN)
    rw [e] at this
    exact this
  refine l0 _ _ _ _ _ ⟨rfl, vX11_retreat_0 hW ⟨fun w => f21 M cFr.rf hK (Or.inl ((th_8 hK).mp w)), fun w => ?_⟩⟩
  have ht : aTh A = true := th_tf.elim id (fun h => absurd ((th_8 hK).mpr h) w)
  obtain ⟨g, hg, h6, Wg, gG, oG⟩ := hK.game hO ht
  refine ⟨g, h6, fgs_0 Wg, c_takeBack Wg hK.2.1 oG gG (fun h2 => vkX11_retreat_14 hW ⟨fun _ => f21 M cFr.rf hK (Or.inr h2), fun z => absurd rfl z⟩) (fun N h2 sN gN => vkX11_retreat_14 (sN.wd hW) ⟨fun z => absurd z (by decide), fun _ => ?_⟩)⟩
  refine l22 _ _ _ _ _ ⟨rfl, vX11_retreat_22 (sN.wd hW) ⟨rfl, ?_⟩⟩
  have e : retA A = (1, aSet A ((aG A).1 - 1, (aG A).2)) := by
    unfold retA
    rw [if_neg (fun z => z.elim (fun u => by rw [ht] at u; exact absurd u (by decide)) (fun u => by omega))]
  have hN : cHal N (aSet A ((aG A).1 - 1, (aG A).2)) := by
    obtain ⟨k1, k2, k3, k4, k5, k6, k7, k8, g2, hg2, h62, h72, hG2⟩ := hK
    have eg := some_g h6 h62
    subst eg
    have h16 : 16 ∉ gC g2 := by simp; omega
    refine ⟨sN.fix k1, k2.sm sN (fun b b1 b2 q => by simp at q; omega), k3.sm sN (by simp; omega), ?_, ?_, ?_, ?_, ?_, g2, hg, by rw [sN.1]; exact h62, by rw [sN.1]; exact h72, fun _ => gN⟩
    · rw [sN.i h16]; exact k4
    · rw [sN.i h16]; exact k5
    · rw [sN.i h16]; exact k6
    · rw [sN.i h16]; exact k7
    · rw [sN.i h16]; exact k8
  have := hq N (cFr.of sN (cCs_l hg (by simp))) (by rw [e]; exact hN)
  rw [e] at this
  exact this
set_option maxHeartbeats 4000000 in
theorem k_proceed {mc ms : Nat} {M : zM} {A : Ah} (hK : cHal M A) (hO : aOk A) {z : Int} (hz : i32 z) (h0 : (proA A z).1 = 0) {Q : zQt} (hq : ∀ N, cFr M N → cHal N (proA A z).2.2 → Q (some (.int (nI (proA A z).2.1))) N) : wX11_proceed mc ms [.ref 16, .int (iI z)] M Q := by
  refine ⟨⟨Nat.le_of_ble_eq_true rfl, rfl⟩, fun X l0 l27 l50 => ?_⟩
  have hW := hK.wd
  have c1 : ¬ (aTh A = false ∨ ended (vdG (aG A)) ∨ (aG A).1 = 601) := fun h => by
    unfold proA at h0
    rw [if_pos h] at h0
    exact absurd (show (1 : Nat) = 0 from h0) (by decide)
  have c2 : ¬ (z < 0 ∨ (mvs (lst (aG A))).length ≤ z) := fun h => by
    unfold proA at h0
    rw [if_neg c1, if_pos h] at h0
    exact absurd (show (2 : Nat) = 0 from h0) (by decide)
  have e : proA A z = (0, vdG (gmN (aG A) (mvAt (aG A) z)), aSet A (gmN (aG A) (mvAt (aG A) z))) := by
    unfold proA
    rw [if_neg c1, if_neg c2]
  rw [e] at hq
  have ht : aTh A = true := th_tf.elim id (fun h => absurd (Or.inl h) c1)
  obtain ⟨g, hg, h6, Wg, gG, oG⟩ := hK.game hO ht
  have hLen := Gd_len oG.last.1
  have z0 : 0 ≤ z := by
    by_cases q : z < 0
    · exact absurd (Or.inl q) c2
    · omega
  have zl : z < (mvs (lst (aG A))).length := by
    by_cases q : (mvs (lst (aG A))).length ≤ z
    · exact absurd (Or.inr q) c2
    · omega
  obtain ⟨hmem, hget⟩ := mvAt_mem (G := aG A) z0 zl
  have n0 := iz_lt hz (n := 0) (by decide)
  have nl := iz_lt hz (n := (mvs (lst (aG A))).length) (by omega)
  refine l0 _ _ _ _ _ ⟨rfl, vX11_proceed_0 hW ⟨fun w => absurd w (nth_8 hK ht), fun _ => ⟨g, h6, fgs_0 Wg, ?_⟩⟩⟩
  refine c_isOverC Wg oG gG (fun h => absurd (Or.inr (Or.inl h)) c1) (fun h => vkX11_proceed_14 hW ⟨fun _ => ⟨g, h6, fgs_0 Wg, ?_⟩, fun u => absurd rfl u⟩)
  refine c_isFullC Wg oG gG (fun h2 => absurd (Or.inr (Or.inr h2)) c1) (fun h2 => vkX11_proceed_24 hW ⟨fun _ => ?_, fun u => absurd rfl u⟩)
  refine ⟨fun w => absurd (n0.mp w) (by omega), fun _ => ⟨g, h6, fgs_0 Wg, ?_⟩⟩
  rw [gG.2.1.1]
  refine ⟨fun _ => ⟨g, h6, fgs_0 Wg, g, h6, fgs_0 Wg, g + 7, 384, fgr_0_2 Wg, fgs_7 Wg, ?_⟩, fun w => absurd (nl.mpr zl) w⟩
  rw [iz_nat z0, nI_clamp (by omega), gG.2.1.2 z.toNat _ hget]
  refine ⟨vp_in_nI (by omega) (by omega), c_addC Wg hK.2.1 oG gG (by have := oG.2.1; omega) hmem (fun N sN gN => vkX11_proceed_74 (sN.wd hW) ?_)⟩
  have WN := sN.wd Wg
  refine ⟨g, by rw [sN.1]; exact h6, fgs_0 WN, c_verdictC WN (oG.next (by have := oG.2.1; omega) hmem) gN (vkX11_proceed_81 (sN.wd hW) ?_)⟩
  refine hq N (cFr.of sN (cCs_l hg (by simp))) ?_
  obtain ⟨k1, k2, k3, k4, k5, k6, k7, k8, g2, hg2, h62, h72, hG2⟩ := hK
  have eg := some_g h6 h62
  subst eg
  have h16 : 16 ∉ gC g2 := by simp; omega
  refine ⟨sN.fix k1, k2.sm sN (fun b b1 b2 q => by simp at q; omega), k3.sm sN (by simp; omega), ?_, ?_, ?_, ?_, ?_, g2, hg, by rw [sN.1]; exact h62, by rw [sN.1]; exact h72, fun _ => gN⟩
  · rw [sN.i h16]; exact k4
  · rw [sN.i h16]; exact k5
  · rw [sN.i h16]; exact k6
  · rw [sN.i h16]; exact k7
  · rw [sN.i h16]; exact k8
theorem k_legalMany {mc ms : Nat} {M : zM} {A : Ah} (hK : cHal M A) (hO : aOk A) {Q : zQt} (hq : Q (some (.int (nI (lmA A)))) M) : wX11_legalMany mc ms [.ref 16] M Q := by
  refine ⟨⟨Nat.le_of_ble_eq_true rfl, rfl⟩, fun X l0 l18 => ?_⟩
  have hW := hK.wd
  refine l0 _ _ _ _ _ ⟨rfl, vX11_legalMany_0 hW ⟨fun w => l18 _ _ _ _ _ ⟨rfl, vX11_legalMany_18 hW ?_⟩, fun w => ?_⟩⟩
  · unfold lmA at hq
    rw [if_neg (by rw [(th_8 hK).mp w]; decide)] at hq
    exact hq
  · have ht : aTh A = true := th_tf.elim id (fun h => absurd ((th_8 hK).mpr h) w)
    obtain ⟨g, hg, h6, Wg, gG, oG⟩ := hK.game hO ht
    refine ⟨g, h6, fgs_0 Wg, l18 _ _ _ _ _ ⟨rfl, vX11_legalMany_18 hW ?_⟩⟩
    rw [gG.2.1.1]
    unfold lmA at hq
    rw [if_pos ht] at hq
    exact hq
theorem c_hasPlace {mc ms : Nat} {M : zM} {A : Ah} (hK : cHal M A) (hO : aOk A) {z : Int} (hz : i32 z) {Q : zQt} (q1 : inL A z → Q (some (.int 1)) M) (q0 : ¬ inL A z → Q (some (.int 0)) M) : wX11_hasPlace mc ms [.ref 16, .int (iI z)] M Q := by
  refine ⟨⟨Nat.le_of_ble_eq_true rfl, rfl⟩, fun X l0 l26 l27 => ?_⟩
  have hW := hK.wd
  have f26 : ¬ inL A z → X 26 0 0 [] [] M := fun h => l26 _ _ _ _ _ ⟨rfl, vX11_hasPlace_26 hW (l27 _ _ _ _ _ ⟨rfl, vX11_hasPlace_27 hW ⟨rfl, q0 h⟩⟩)⟩
  have n0 := iz_lt hz (n := 0) (by decide)
  refine l0 _ _ _ _ _ ⟨rfl, vX11_hasPlace_0 hW ⟨fun w => f26 (fun h => by have := (th_8 hK).mp w; rw [h.1] at this; exact absurd this (by decide)), fun w => ⟨fun w2 => f26 (fun h => by have := n0.mp w2; have := h.2.1; omega), fun w2 => ?_⟩⟩⟩
  have ht : aTh A = true := th_tf.elim id (fun h => absurd ((th_8 hK).mpr h) w)
  obtain ⟨g, hg, h6, Wg, gG, oG⟩ := hK.game hO ht
  have hLen := Gd_len oG.last.1
  have nl := iz_ge hz (n := (mvs (lst (aG A))).length) (by omega)
  refine ⟨g, h6, fgs_0 Wg, ?_⟩
  rw [gG.2.1.1]
  refine ⟨fun w3 => f26 (fun h => by have := nl.mp w3; have := h.2.2; omega), fun w3 => l27 _ _ _ _ _ ⟨rfl, vX11_hasPlace_27 hW ⟨rfl, q1 ⟨ht, ?_, ?_⟩⟩⟩⟩
  · have : ¬ z < 0 := fun y => w2 (n0.mpr y); omega
  · have : ¬ ((mvs (lst (aG A))).length : Int) ≤ z := fun y => w3 (nl.mpr y); omega
theorem k_legalMove {mc ms : Nat} {M : zM} {A : Ah} (hK : cHal M A) (hO : aOk A) {z : Int} (hz : i32 z) (hL : inL A z) {Q : zQt} (hq : Q (some (.int (nI (mvAt (aG A) z)))) M) : wX11_legalMove mc ms [.ref 16, .int (iI z)] M Q := by
  refine ⟨⟨Nat.le_of_ble_eq_true rfl, rfl⟩, fun X l0 => ?_⟩
  have hW := hK.wd
  refine l0 _ _ _ _ _ ⟨rfl, vX11_legalMove_0 hW (c_hasPlace hK hO hz (fun _ => vkX11_legalMove_5 hW ⟨fun w => absurd w (by decide), fun _ => ?_⟩) (fun h => absurd hL h))⟩
  obtain ⟨g, hg, h6, Wg, gG, oG⟩ := hK.game hO hL.1
  have hLen := Gd_len oG.last.1
  obtain ⟨hmem, hget⟩ := mvAt_mem (G := aG A) hL.2.1 hL.2.2
  have h1 := hL.2.1
  have h2 := hL.2.2
  refine ⟨g, h6, fgs_0 Wg, g + 7, 384, fgr_0_2 Wg, fgs_7 Wg, ?_⟩
  rw [iz_nat h1, nI_clamp (by omega), gG.2.1.2 z.toNat _ hget]
  exact ⟨vp_in_nI (by omega) (by omega), hq⟩
theorem k_spelling {mc ms : Nat} {M : zM} {A : Ah} (hK : cHal M A) (hO : aOk A) {z : Int} (hz : i32 z) (hL : inL A z) {Q : zQt} (hq : ∀ N, cFr M N → cHal N A → Q (some (.long (jN (pk8 (spl (lst (aG A)) (mvAt (aG A) z) ++ sgl (lst (aG A)) (mvAt (aG A) z)) 0 8)))) N) : wX11_spelling mc ms [.ref 16, .int (iI z)] M Q := by
  refine ⟨⟨Nat.le_of_ble_eq_true rfl, rfl⟩, fun X l0 => ?_⟩
  have hW := hK.wd
  refine l0 _ _ _ _ _ ⟨rfl, vX11_spelling_0 hW (c_hasPlace hK hO hz (fun _ => vkX11_spelling_5 hW ⟨fun w => absurd w (by decide), fun _ => ?_⟩) (fun h => absurd hL h))⟩
  obtain ⟨g, hg, h6, Wg, gG, oG⟩ := hK.game hO hL.1
  obtain ⟨hGd, hPC⟩ := oG.last
  have h601 := oG.2.1
  obtain ⟨hmem, hget⟩ := mvAt_mem (G := aG A) hL.2.1 hL.2.2
  have h1 := hL.2.1
  refine ⟨g, h6, fgs_0 Wg, ?_⟩
  rw [iz_nat h1]
  refine c_wholeC Wg hK.2.1 hGd gG.2.1 (k := (aG A).1 - 1) hPC (by omega) (by omega) ⟨gG.1, gG.2.2.2.1⟩ hget (spl_head _ _) (fun N fr sN => vkX11_spelling_28 (fr.1.wd hW) (hq N (cFr.of fr.1 (cCs_l hg (by simp))) ?_))
  refine hK.sm fr.1 ⟨by simp; omega, by simp; omega, fun b b1 b2 q => by simp at q; omega⟩ (fun g2 hg2 h62 _ hh => ?_)
  have eg := some_g h6 h62
  subst eg
  exact hh.back fr.1 ⟨by simp; omega, by simp; omega, by simp; omega, by simp; omega⟩ sN fr.2
theorem k_manOn {mc ms : Nat} {M : zM} {A : Ah} (hK : cHal M A) (hO : aOk A) {z : Int} (hz : i32 z) {Q : zQt} (hq : Q (some (.int (iI (moA A z)))) M) : wX11_manOn mc ms [.ref 16, .int (iI z)] M Q := by
  refine ⟨⟨Nat.le_of_ble_eq_true rfl, rfl⟩, fun X l0 l32 l33 => ?_⟩
  have hW := hK.wd
  have f32 : (aTh A = false ∨ z < 0 ∨ 63 < z) → X 32 0 0 [] [] M := by
    intro h
    refine l32 _ _ _ _ _ ⟨rfl, vX11_manOn_32 hW (l33 _ _ _ _ _ ⟨rfl, vX11_manOn_33 hW ?_⟩)⟩
    unfold moA at hq
    rw [if_pos h] at hq
    exact hq
  have n0 := iz_lt hz (n := 0) (by decide)
  have n64 := iz_ge hz (n := 64) (by decide)
  refine l0 _ _ _ _ _ ⟨rfl, vX11_manOn_0 hW ⟨fun w => f32 (Or.inl ((th_8 hK).mp w)), fun w => ⟨fun w2 => f32 (Or.inr (Or.inl (by have := n0.mp w2; omega))), fun w2 => ⟨fun w3 => f32 (Or.inr (Or.inr (by have := n64.mp w3; omega))), fun w3 => ?_⟩⟩⟩⟩
  have ht : aTh A = true := th_tf.elim id (fun h => absurd ((th_8 hK).mpr h) w)
  obtain ⟨g, hg, h6, Wg, gG, oG⟩ := hK.game hO ht
  have z0 : 0 ≤ z := by have : ¬ z < 0 := fun y => w2 (n0.mpr y); omega
  have z64 : z < 64 := by have : ¬ ((64 : Nat) : Int) ≤ z := fun y => w3 (n64.mpr y); omega
  refine ⟨g, h6, fgs_0 Wg, g + 1, fgr_0_0 Wg, fgs_1 Wg, g + 2, 64, fgr_1_1 Wg, fgs_2 Wg, ?_⟩
  rw [iz_nat z0, nI_clamp (by omega), (gG.1.1.1 z.toNat (by omega)).1]
  refine ⟨vp_in_nI (by omega) (by omega), l33 _ _ _ _ _ ⟨rfl, vX11_manOn_33 hW ?_⟩⟩
  unfold moA at hq
  rw [if_neg (fun h => h.elim (fun u => by rw [ht] at u; exact absurd u (by decide)) (fun u => by omega))] at hq
  exact hq
