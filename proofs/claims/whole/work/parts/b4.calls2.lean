/-! THE CLASS'S CALLS: lines, values, history, status -/
theorem c_shortDepth {mc ms : Nat} {M : zM} {A : Ah} (hK : cHal M A) (hO : aOk A) (ht : aTh A = true) {Q : zQt} (hq : Q (some (.int (nI (dpS (lst (aG A)))))) M) : wX11_shortDepth mc ms [.ref 16] M Q := by
  refine ⟨⟨Nat.le_of_ble_eq_true rfl, rfl⟩, fun X l0 l17 => ?_⟩
  have hW := hK.wd
  obtain ⟨g, hg, h6, Wg, gG, oG⟩ := hK.game hO ht
  have hLen := Gd_len oG.last.1
  have e30 := nI_ltI (a := 30) (b := (mvs (lst (aG A))).length) (by decide) (by omega)
  refine l0 _ _ _ _ _ ⟨rfl, vX11_shortDepth_0 hW ⟨g, h6, fgs_0 Wg, ?_⟩⟩
  rw [gG.2.1.1]
  unfold dpS at hq
  refine ⟨fun w => l17 _ _ _ _ _ ⟨rfl, vX11_shortDepth_17 hW ?_⟩, fun w => l17 _ _ _ _ _ ⟨rfl, vX11_shortDepth_17 hW ?_⟩⟩
  · rw [if_neg (by have := e30.mp w; omega)] at hq; exact hq
  · rw [if_pos (by have : ¬ 30 < (mvs (lst (aG A))).length := fun y => w (e30.mpr y); omega)] at hq; exact hq
theorem c_lookDepth {mc ms : Nat} {M : zM} {A : Ah} (hK : cHal M A) (hO : aOk A) (ht : aTh A = true) {Q : zQt} (hq : Q (some (.int (nI (dpM (lst (aG A)))))) M) : wX11_lookDepth mc ms [.ref 16] M Q := by
  refine ⟨⟨Nat.le_of_ble_eq_true rfl, rfl⟩, fun X l0 l22 => ?_⟩
  have hW := hK.wd
  obtain ⟨g, hg, h6, Wg, gG, oG⟩ := hK.game hO ht
  have hmn := mnS_le (lst (aG A)).1
  have e3 := nI_ltI (a := 3) (b := mnS (lst (aG A)).1) (by decide) (by omega)
  refine l0 _ _ _ _ _ ⟨rfl, vX11_lookDepth_0 hW ⟨g, h6, fgs_0 Wg, g + 1, fgr_0_0 Wg, fgs_1 Wg, c_manyMen Wg gG.1.1 (vkX11_lookDepth_10 hW ?_)⟩⟩
  unfold dpM at hq
  refine ⟨fun w => ?_, fun w => l22 _ _ _ _ _ ⟨rfl, vX11_lookDepth_22 hW ?_⟩⟩
  · rw [if_neg (by have := e3.mp w; omega)] at hq
    exact c_shortDepth hK hO ht (vkX11_lookDepth_22 hW (l22 _ _ _ _ _ ⟨rfl, vX11_lookDepth_22 hW hq⟩))
  · rw [if_pos (by have : ¬ 3 < mnS (lst (aG A)).1 := fun y => w (e3.mpr y); omega)] at hq
    exact hq
theorem k_linesTo {mc ms : Nat} {M : zM} {A : Ah} (hK : cHal M A) (hO : aOk A) {z : Int} (hz : i32 z) (h0 : (lnA A z).1 = 0) {Q : zQt} (hq : ∀ N, cFr M N → cHal N A → Q (some (.long (jN (lnA A z).2))) N) : wX11_linesTo mc ms [.ref 16, .int (iI z)] M Q := by
  refine ⟨⟨Nat.le_of_ble_eq_true rfl, rfl⟩, fun X l0 l27 => ?_⟩
  have hW := hK.wd
  have ht : aTh A = true := th_tf.elim id (fun h => by
    unfold lnA at h0
    rw [if_pos h] at h0
    exact absurd (show (1 : Nat) = 0 from h0) (by decide))
  have hnf : ¬ aTh A = false := by rw [ht]; decide
  have c2 : ¬ (z < 0 ∨ dpS (lst (aG A)) < z) := fun h => by
    unfold lnA at h0
    rw [if_neg hnf, if_pos h] at h0
    exact absurd (show (2 : Nat) = 0 from h0) (by decide)
  have e : lnA A z = (0, lnS z.toNat (lst (aG A))) := by unfold lnA; rw [if_neg hnf, if_neg c2]
  rw [e] at hq
  obtain ⟨g, hg, h6, Wg, gG, oG⟩ := hK.game hO ht
  obtain ⟨hGd, hPC⟩ := oG.last
  have h601 := oG.2.1
  have hd := dpS_le (lst (aG A))
  have z0 : 0 ≤ z := by omega
  have n0 := iz_lt hz (n := 0) (by decide)
  have nd := iz_le hz (n := dpS (lst (aG A))) (by omega)
  refine l0 _ _ _ _ _ ⟨rfl, vX11_linesTo_0 hW ⟨fun w => absurd w (nth_8 hK ht), fun _ => ⟨fun w => absurd (n0.mp w) (by omega), fun _ => ?_⟩⟩⟩
  refine c_shortDepth hK hO ht (vkX11_linesTo_24 hW ⟨fun _ => ⟨g, h6, fgs_0 Wg, ?_⟩, fun w => absurd (nd.mpr (by omega)) w⟩)
  rw [iz_nat z0]
  refine c_linesC Wg hK.2.1 hGd (k := (aG A).1 - 1) hPC (by omega) (by omega) (by omega) ⟨gG.1, gG.2.2.2.1⟩ (fun N fr sN => vkX11_linesTo_47 (fr.1.wd hW) (hq N (cFr.of fr.1 (cCs_l hg (by simp))) ?_))
  refine hK.sm fr.1 ⟨by simp; omega, by simp; omega, fun b b1 b2 q => by simp at q; omega⟩ (fun g2 hg2 h62 _ hh => ?_)
  have eg := some_g h6 h62
  subst eg
  exact hh.back fr.1 ⟨by simp; omega, by simp; omega, by simp; omega, by simp; omega⟩ sN fr.2.1
theorem wd_fact {A : Ah} {z : Int} (h : wdA A z = 0) : aTh A = true ∧ 0 ≤ z ∧ z ≤ dpM (lst (aG A)) := by
  unfold wdA at h
  by_cases q : aTh A = false
  · rw [if_pos q] at h; omega
  · rw [if_neg q] at h
    by_cases q2 : z < 0 ∨ dpM (lst (aG A)) < z
    · rw [if_pos q2] at h; omega
    · exact ⟨th_tf.elim id (fun u => absurd u q), by omega, by omega⟩
theorem dpM_le (P : Ps) : dpM P ≤ 4 := by
  unfold dpM
  have := dpS_le P
  split <;> omega
theorem look_hal {M N : zM} {A : Ah} {g : Nat} (hK : cHal M A) (hg : g = 35 ∨ g = 45) (h6 : M.2.2.1 16 6 = some g) (fr : lkF M N g ((aG A).1 - 1)) (sN : sSt N g (lst (aG A)) ((aG A).1 - 1)) : cFr M N ∧ cHal N A := by
  refine ⟨cFr.of fr.1 (cCs_l hg (by simp)), hK.sm fr.1 ⟨by simp; omega, by simp; omega, fun b b1 b2 q => by simp at q; omega⟩ (fun g2 hg2 h62 _ hh => ?_)⟩
  have eg := some_g h6 h62
  subst eg
  exact hh.back fr.1 ⟨by simp; omega, by simp; omega, by simp; omega, by simp; omega⟩ sN fr.2
theorem k_valueAt {mc ms : Nat} {M : zM} {A : Ah} (hK : cHal M A) (hO : aOk A) {z : Int} (hz : i32 z) (h0 : wdA A z = 0) {Q : zQt} (hq : ∀ N, cFr M N → cHal N A → Q (some (.int (iI (val z.toNat (lst (aG A)))))) N) : wX11_valueAt mc ms [.ref 16, .int (iI z)] M Q := by
  refine ⟨⟨Nat.le_of_ble_eq_true rfl, rfl⟩, fun X l0 l27 => ?_⟩
  have hW := hK.wd
  obtain ⟨ht, z0, zd⟩ := wd_fact h0
  obtain ⟨g, hg, h6, Wg, gG, oG⟩ := hK.game hO ht
  obtain ⟨hGd, hPC⟩ := oG.last
  have h601 := oG.2.1
  have hd := dpM_le (lst (aG A))
  have n0 := iz_lt hz (n := 0) (by decide)
  have nd := iz_le hz (n := dpM (lst (aG A))) (by omega)
  refine l0 _ _ _ _ _ ⟨rfl, vX11_valueAt_0 hW ⟨fun w => absurd w (nth_8 hK ht), fun _ => ⟨fun w => absurd (n0.mp w) (by omega), fun _ => ?_⟩⟩⟩
  refine c_lookDepth hK hO ht (vkX11_valueAt_24 hW ⟨fun _ => ⟨g, h6, fgs_0 Wg, ?_⟩, fun w => absurd (nd.mpr (by omega)) w⟩)
  rw [iz_nat z0]
  refine c_look Wg hK.2.1 hGd gG.2.1 (k := (aG A).1 - 1) hPC (by omega) (by omega) (by omega) ⟨gG.1, gG.2.2.2.1⟩ (fun N fr sN n1 n2 => vkX11_valueAt_47 (fr.1.wd hW) ?_)
  obtain ⟨f1, f2⟩ := look_hal hK hg h6 fr sN
  rw [n1]
  exact hq N f1 f2
theorem k_bestAt {mc ms : Nat} {M : zM} {A : Ah} (hK : cHal M A) (hO : aOk A) {z : Int} (hz : i32 z) (h0 : wdA A z = 0) {Q : zQt} (hq : ∀ N, cFr M N → cHal N A → Q (some (.int (iI (bstS z.toNat (lst (aG A)))))) N) : wX11_bestAt mc ms [.ref 16, .int (iI z)] M Q := by
  refine ⟨⟨Nat.le_of_ble_eq_true rfl, rfl⟩, fun X l0 l27 => ?_⟩
  have hW := hK.wd
  obtain ⟨ht, z0, zd⟩ := wd_fact h0
  obtain ⟨g, hg, h6, Wg, gG, oG⟩ := hK.game hO ht
  obtain ⟨hGd, hPC⟩ := oG.last
  have h601 := oG.2.1
  have hd := dpM_le (lst (aG A))
  have n0 := iz_lt hz (n := 0) (by decide)
  have nd := iz_le hz (n := dpM (lst (aG A))) (by omega)
  refine l0 _ _ _ _ _ ⟨rfl, vX11_bestAt_0 hW ⟨fun w => absurd w (nth_8 hK ht), fun _ => ⟨fun w => absurd (n0.mp w) (by omega), fun _ => ?_⟩⟩⟩
  refine c_lookDepth hK hO ht (vkX11_bestAt_24 hW ⟨fun _ => ⟨g, h6, fgs_0 Wg, ?_⟩, fun w => absurd (nd.mpr (by omega)) w⟩)
  rw [iz_nat z0]
  refine c_look Wg hK.2.1 hGd gG.2.1 (k := (aG A).1 - 1) hPC (by omega) (by omega) (by omega) ⟨gG.1, gG.2.2.2.1⟩ (fun N fr sN n1 n2 => vkX11_bestAt_47 (fr.1.wd hW) ?_)
  obtain ⟨f1, f2⟩ := look_hal hK hg h6 fr sN
  rw [n2]
  exact hq N f1 f2
theorem k_historyOf {mc ms : Nat} {M : zM} {A : Ah} (hK : cHal M A) (hO : aOk A) {z w : Int} (hz : i32 z) (hw : i32 w) (hH : inH A z w) {Q : zQt} (hq : Q (some (.int (hsV (aG A) z.toNat w.toNat))) M) : wX11_historyOf mc ms [.ref 16, .int (iI z), .int (iI w)] M Q := by
  refine ⟨⟨Nat.le_of_ble_eq_true rfl, rfl⟩, fun X l0 l32 => ?_⟩
  have hW := hK.wd
  obtain ⟨ht, z0, zl, w0, w8⟩ := hH
  obtain ⟨g, hg, h6, Wg, gG, oG⟩ := hK.game hO ht
  have h601 := oG.2.1
  have n0 := iz_lt hz (n := 0) (by decide)
  have nl := iz_ge hz (n := (aG A).1) (by omega)
  have m0 := iz_lt hw (n := 0) (by decide)
  have m8 := iz_lt hw (n := 8) (by decide)
  refine l0 _ _ _ _ _ ⟨rfl, vX11_historyOf_0 hW ⟨fun u => absurd u (nth_8 hK ht), fun _ => ⟨fun u => absurd (n0.mp u) (by omega), fun _ => ⟨g, h6, fgs_0 Wg, ?_⟩⟩⟩⟩
  rw [gG.2.2.1]
  refine ⟨fun u => absurd (nl.mp u) (by omega), fun _ => ⟨fun u => absurd (m0.mp u) (by omega), fun _ => ⟨fun _ => ⟨g, h6, fgs_0 Wg, g + 8, 4808, fgr_0_5 Wg, fgs_8 Wg, ?_⟩, fun u => absurd (m8.mpr (by omega)) u⟩⟩⟩
  rw [iz_nat z0, iz_nat w0, show nI z.toNat * (8 : Int32) = nI (8 * z.toNat) from by rw [Nat.mul_comm 8 _]; exact pk_mul _ 8, nI_add, nI_clamp (by omega), (gG.2.2.2.2.1 z.toNat (by omega)).1 w.toNat (by omega)]
  exact ⟨vp_in_nI (by omega) (by omega), hq⟩
set_option maxHeartbeats 4000000 in
theorem c_ofPosition {mc ms : Nat} {M : zM} {A : Ah} (hK : cHal M A) (hO : aOk A) (ht : aTh A = true) {z : Int} (hz : i32 z) {Q : zQt} (hq : Q (some (.int (if z < 4 ∨ 9 < z then -1 else if z = 4 then nI (vdG (aG A)) else psI (lst (aG A)) (64 + (z - 5).toNat)))) M) : wX11_ofPosition mc ms [.ref 16, .int (iI z)] M Q := by
  refine ⟨⟨Nat.le_of_ble_eq_true rfl, rfl⟩, fun X l0 => ?_⟩
  have hW := hK.wd
  obtain ⟨g, hg, h6, Wg, gG, oG⟩ := hK.game hO ht
  refine l0 _ _ _ _ _ ⟨rfl, vX11_ofPosition_0 hW ?_⟩
  rw [iI_toInt hz.1 hz.2]
  refine ⟨fun u => ?_, fun u => ⟨g, h6, fgs_0 Wg, c_verdictC Wg oG gG (vkX11_ofPosition_47 hW ?_)⟩, fun u => ⟨g, h6, fgs_0 Wg, g + 1, fgr_0_0 Wg, fgs_1 Wg, ?_⟩, fun u => ⟨g, h6, fgs_0 Wg, g + 1, fgr_0_0 Wg, fgs_1 Wg, ?_⟩, fun u => ⟨g, h6, fgs_0 Wg, g + 1, fgr_0_0 Wg, fgs_1 Wg, ?_⟩, fun u => ⟨g, h6, fgs_0 Wg, g + 1, fgr_0_0 Wg, fgs_1 Wg, ?_⟩, fun u => ⟨g, h6, fgs_0 Wg, g + 1, fgr_0_0 Wg, fgs_1 Wg, ?_⟩⟩
  · rw [if_pos u] at hq; exact hq
  · rw [if_neg (by omega), if_pos u] at hq; exact hq
  · rw [if_neg (by omega), if_neg (by omega), u] at hq
    rw [gG.1.2.1]; exact hq
  · rw [if_neg (by omega), if_neg (by omega), u] at hq
    rw [gG.1.2.2.1]; exact hq
  · rw [if_neg (by omega), if_neg (by omega), u] at hq
    rw [gG.1.2.2.2.1]; exact hq
  · rw [if_neg (by omega), if_neg (by omega), u] at hq
    rw [gG.1.2.2.2.2.1]; exact hq
  · rw [if_neg (by omega), if_neg (by omega), u] at hq
    rw [gG.1.2.2.2.2.2.1]; exact hq
set_option maxHeartbeats 8000000 in
theorem k_status {mc ms : Nat} {M : zM} {A : Ah} (hK : cHal M A) (hO : aOk A) {z : Int} (hz : i32 z) {Q : zQt} (hq : Q (some (.int (stA A z))) M) : wX11_status mc ms [.ref 16, .int (iI z)] M Q := by
  refine ⟨⟨Nat.le_of_ble_eq_true rfl, rfl⟩, fun X l0 l105 l127 l146 l165 l171 l187 => ?_⟩
  have hW := hK.wd
  have tt : ¬ M.1 16 8 = 0 → aTh A = true := fun w => th_tf.elim id (fun h => absurd ((th_8 hK).mpr h) w)
  have ff : M.1 16 8 = 0 → aTh A = false := fun w => (th_8 hK).mp w
  unfold stA at hq
  have f171 : (z < 0 ∨ 13 < z ∨ (4 ≤ z ∧ z ≤ 9)) → X 171 0 0 [.ref 16, .int (iI z)] [] M := by
    intro h
    refine l171 _ _ _ _ _ ⟨rfl, vX11_status_171 hW ⟨fun w => l187 _ _ _ _ _ ⟨rfl, vX11_status_187 hW ?_⟩, fun w => ?_⟩⟩
    · by_cases q : z < 0 ∨ 13 < z
      · rw [if_pos q] at hq; exact hq
      · rw [if_neg q, if_neg (by omega), if_neg (by omega), if_neg (by omega), if_neg (by omega), if_neg (by omega), if_pos (ff w)] at hq
        exact hq
    · have ht := tt w
      have hnf : ¬ aTh A = false := by rw [ht]; decide
      refine c_ofPosition hK hO ht hz (vkX11_status_183 hW (l187 _ _ _ _ _ ⟨rfl, vX11_status_187 hW ?_⟩))
      by_cases q : z < 0 ∨ 13 < z
      · rw [if_pos q] at hq
        rw [if_pos (by omega)]
        exact hq
      · rw [if_neg q, if_neg (by omega), if_neg (by omega), if_neg (by omega), if_neg (by omega), if_neg (by omega), if_neg hnf] at hq
        rw [if_neg (by omega)]
        exact hq
  refine l0 _ _ _ _ _ ⟨rfl, vX11_status_0 hW ?_⟩
  rw [iI_toInt hz.1 hz.2]
  refine ⟨fun u => f171 (by omega), fun u => ?_, fun u => ?_, fun u => ?_, fun u => ?_, fun u => f171 (by omega), fun u => f171 (by omega), fun u => f171 (by omega), fun u => f171 (by omega), fun u => f171 (by omega), fun u => f171 (by omega), fun u => ?_, fun u => ?_, fun u => ?_, fun u => ?_⟩
  · rw [if_neg (by omega), if_pos u] at hq; rw [hK.2.2.2.1]; exact hq
  · rw [if_neg (by omega), if_neg (by omega), if_pos u] at hq; rw [hK.2.2.2.2.2.1]; exact hq
  · rw [if_neg (by omega), if_neg (by omega), if_neg (by omega), if_pos u] at hq; rw [hK.2.2.2.2.2.2.1]; exact hq
  · rw [if_neg (by omega), if_neg (by omega), if_neg (by omega), if_neg (by omega), if_neg (by omega), if_pos (Or.inl u)] at hq
    refine ⟨fun w => l105 _ _ _ _ _ ⟨rfl, vX11_status_105 hW ?_⟩, fun w => ?_⟩
    · rw [if_pos (ff w)] at hq; exact hq
    · have ht := tt w
      rw [if_neg (by rw [ht]; decide), if_pos u] at hq
      obtain ⟨g, hg, h6, Wg, gG, oG⟩ := hK.game hO ht
      refine ⟨g, h6, fgs_0 Wg, l105 _ _ _ _ _ ⟨rfl, vX11_status_105 hW ?_⟩⟩
      rw [gG.2.2.1]; exact hq
  · rw [if_neg (by omega), if_neg (by omega), if_neg (by omega), if_neg (by omega), if_neg (by omega), if_pos (by omega)] at hq
    refine ⟨fun w => l127 _ _ _ _ _ ⟨rfl, vX11_status_127 hW ?_⟩, fun w => ?_⟩
    · rw [if_pos (ff w)] at hq; exact hq
    · have ht := tt w
      rw [if_neg (by rw [ht]; decide), if_neg (by omega), if_pos u] at hq
      obtain ⟨g, hg, h6, Wg, gG, oG⟩ := hK.game hO ht
      exact ⟨g, h6, fgs_0 Wg, g + 1, fgr_0_0 Wg, fgs_1 Wg, c_manyMen Wg gG.1.1 (vkX11_status_123 hW (l127 _ _ _ _ _ ⟨rfl, vX11_status_127 hW hq⟩))⟩
  · rw [if_neg (by omega), if_neg (by omega), if_neg (by omega), if_neg (by omega), if_neg (by omega), if_pos (by omega)] at hq
    refine ⟨fun w => l146 _ _ _ _ _ ⟨rfl, vX11_status_146 hW ?_⟩, fun w => ?_⟩
    · rw [if_pos (ff w)] at hq; exact hq
    · have ht := tt w
      rw [if_neg (by rw [ht]; decide), if_neg (by omega), if_neg (by omega), u] at hq
      obtain ⟨g, hg, h6, Wg, gG, oG⟩ := hK.game hO ht
      exact ⟨g, h6, fgs_0 Wg, c_differentC Wg oG gG (vkX11_status_142 hW (l146 _ _ _ _ _ ⟨rfl, vX11_status_146 hW hq⟩))⟩
  · rw [if_neg (by omega), if_neg (by omega), if_neg (by omega), if_neg (by omega), if_neg (by omega), if_pos (by omega)] at hq
    refine ⟨fun w => l165 _ _ _ _ _ ⟨rfl, vX11_status_165 hW ?_⟩, fun w => ?_⟩
    · rw [if_pos (ff w)] at hq; exact hq
    · have ht := tt w
      rw [if_neg (by rw [ht]; decide), if_neg (by omega), if_neg (by omega), u] at hq
      obtain ⟨g, hg, h6, Wg, gG, oG⟩ := hK.game hO ht
      exact ⟨g, h6, fgs_0 Wg, c_greatestC Wg oG gG (vkX11_status_161 hW (l165 _ _ _ _ _ ⟨rfl, vX11_status_165 hW hq⟩))⟩
  · rw [if_neg (by omega), if_neg (by omega), if_neg (by omega), if_neg (by omega), if_pos u] at hq
    rw [hK.2.2.2.2.2.2.2.1]; exact hq
