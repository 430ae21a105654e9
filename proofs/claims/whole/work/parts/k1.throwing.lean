/-! THE CALLS THAT THROW -/
abbrev eIA : String := "java/lang/IllegalArgumentException"
abbrev eIS : String := "java/lang/IllegalStateException"
abbrev eIB : String := "java/lang/IndexOutOfBoundsException"
theorem t_submit {mc ms : Nat} (hc : 1 ≤ mc) (hs : 6 ≤ ms) {M : zM} {A : Ah} (hK : cHal M A) {z : Int} (hz : i32 z) (h0 : z < 1 ∨ 20 < z) {Q : zQt} {EX : zEt} (hx : ∀ n, EX eIA (zEx M n)) : wtX11_submit mc ms [.ref 16, .int (iI z)] M Q EX := by
  refine ⟨⟨Nat.le_of_ble_eq_true rfl, rfl⟩, fun X l0 l11 l39 l119 l122 => ?_⟩
  have hW := hK.wd
  have f11 : X 11 0 0 [] [] M := l11 _ _ _ _ _ ⟨rfl, vtX11_submit_11 hW ⟨hc, hs, hx⟩⟩
  have n1 := iz_lt hz (n := 1) (by decide)
  have n2 := iz_le hz (n := 20) (by decide)
  exact l0 _ _ _ _ _ ⟨rfl, vtX11_submit_0 hW ⟨fun _ => f11, fun w => ⟨fun w2 => absurd (n2.mp w2) (by have : ¬ z < 1 := fun y => w (n1.mpr y); omega), fun _ => f11⟩⟩⟩
theorem t_proceed {mc ms : Nat} (hc : 1 ≤ mc) (hs : 6 ≤ ms) {M : zM} {A : Ah} (hK : cHal M A) (hO : aOk A) {z : Int} (hz : i32 z) {Q : zQt} {EX : zEt} (h0 : ((proA A z).1 = 1 ∧ ∀ n, EX eIS (zEx M n)) ∨ ((proA A z).1 = 2 ∧ ∀ n, EX eIB (zEx M n))) : wtX11_proceed mc ms [.ref 16, .int (iI z)] M Q EX := by
  refine ⟨⟨Nat.le_of_ble_eq_true rfl, rfl⟩, fun X l0 l27 l50 => ?_⟩
  have hW := hK.wd
  have f27 : (aTh A = false ∨ ended (vdG (aG A)) ∨ (aG A).1 = 601) → X 27 0 0 [] [] M := by
    intro h
    have e : (proA A z).1 = 1 := by unfold proA; rw [if_pos h]
    refine l27 _ _ _ _ _ ⟨rfl, vtX11_proceed_27 hW ⟨hc, hs, ?_⟩⟩
    rcases h0 with h0 | h0
    · exact h0.2
    · rw [e] at h0; omega
  refine l0 _ _ _ _ _ ⟨rfl, vtX11_proceed_0 hW ⟨fun w => f27 (Or.inl ((th_8 hK).mp w)), fun w => ?_⟩⟩
  have ht : aTh A = true := th_tf.elim id (fun h => absurd ((th_8 hK).mpr h) w)
  obtain ⟨g, hg, h6, Wg, gG, oG⟩ := hK.game hO ht
  have hLen := Gd_len oG.last.1
  refine ⟨g, h6, fgs_0 Wg, c_isOverC Wg oG gG (fun h => vktX11_proceed_14 hW ⟨fun u => absurd u (by decide), fun _ => f27 (Or.inr (Or.inl h))⟩) (fun h1 => vktX11_proceed_14 hW ⟨fun _ => ⟨g, h6, fgs_0 Wg, ?_⟩, fun u => absurd rfl u⟩)⟩
  refine c_isFullC Wg oG gG (fun h => vktX11_proceed_24 hW ⟨fun u => absurd u (by decide), fun _ => f27 (Or.inr (Or.inr h))⟩) (fun h2 => vktX11_proceed_24 hW ⟨fun _ => ?_, fun u => absurd rfl u⟩)
  have c1 : ¬ (aTh A = false ∨ ended (vdG (aG A)) ∨ (aG A).1 = 601) := fun h => h.elim (fun h => by rw [ht] at h; exact absurd h (by decide)) (fun h => h.elim h1 h2)
  have hr : z < 0 ∨ (mvs (lst (aG A))).length ≤ z := by
    by_cases q : z < 0 ∨ (mvs (lst (aG A))).length ≤ z
    · exact q
    · exfalso
      have e : (proA A z).1 = 0 := by unfold proA; rw [if_neg c1, if_neg q]
      rw [e] at h0; omega
  have hb : ∀ n, EX eIB (zEx M n) := by
    have e : (proA A z).1 = 2 := by unfold proA; rw [if_neg c1, if_pos hr]
    rw [e] at h0
    rcases h0 with h0 | h0
    · exact absurd h0.1 (by decide)
    · exact h0.2
  have f50 : X 50 0 0 [] [] M := l50 _ _ _ _ _ ⟨rfl, vtX11_proceed_50 hW ⟨hc, hs, hb⟩⟩
  have n0 := iz_lt hz (n := 0) (by decide)
  have nl := iz_lt hz (n := (mvs (lst (aG A))).length) (by omega)
  refine ⟨fun _ => f50, fun w => ⟨g, h6, fgs_0 Wg, ?_⟩⟩
  rw [gG.2.1.1]
  exact ⟨fun w2 => absurd (nl.mp w2) (by have : ¬ z < 0 := fun y => w (n0.mpr y); omega), fun _ => f50⟩
theorem t_legalMove {mc ms : Nat} (hc : 1 ≤ mc) (hs : 6 ≤ ms) {M : zM} {A : Ah} (hK : cHal M A) (hO : aOk A) {z : Int} (hz : i32 z) (h0 : ¬ inL A z) {Q : zQt} {EX : zEt} (hx : ∀ n, EX eIB (zEx M n)) : wtX11_legalMove mc ms [.ref 16, .int (iI z)] M Q EX := by
  refine ⟨⟨Nat.le_of_ble_eq_true rfl, rfl⟩, fun X l0 => ?_⟩
  have hW := hK.wd
  exact l0 _ _ _ _ _ ⟨rfl, vtX11_legalMove_0 hW (c_hasPlace hK hO hz (fun h => absurd h h0) (fun _ => vktX11_legalMove_5 hW ⟨fun _ => ⟨hc, hs, hx⟩, fun w => absurd rfl w⟩))⟩
theorem t_spelling {mc ms : Nat} (hc : 1 ≤ mc) (hs : 6 ≤ ms) {M : zM} {A : Ah} (hK : cHal M A) (hO : aOk A) {z : Int} (hz : i32 z) (h0 : ¬ inL A z) {Q : zQt} {EX : zEt} (hx : ∀ n, EX eIB (zEx M n)) : wtX11_spelling mc ms [.ref 16, .int (iI z)] M Q EX := by
  refine ⟨⟨Nat.le_of_ble_eq_true rfl, rfl⟩, fun X l0 => ?_⟩
  have hW := hK.wd
  exact l0 _ _ _ _ _ ⟨rfl, vtX11_spelling_0 hW (c_hasPlace hK hO hz (fun h => absurd h h0) (fun _ => vktX11_spelling_5 hW ⟨fun _ => ⟨hc, hs, hx⟩, fun w => absurd rfl w⟩))⟩
theorem t_linesTo {mc ms : Nat} (hc : 1 ≤ mc) (hs : 6 ≤ ms) {M : zM} {A : Ah} (hK : cHal M A) (hO : aOk A) {z : Int} (hz : i32 z) {Q : zQt} {EX : zEt} (h0 : ((lnA A z).1 = 1 ∧ ∀ n, EX eIS (zEx M n)) ∨ ((lnA A z).1 = 2 ∧ ∀ n, EX eIA (zEx M n))) : wtX11_linesTo mc ms [.ref 16, .int (iI z)] M Q EX := by
  refine ⟨⟨Nat.le_of_ble_eq_true rfl, rfl⟩, fun X l0 l27 => ?_⟩
  have hW := hK.wd
  have n0 := iz_lt hz (n := 0) (by decide)
  refine l0 _ _ _ _ _ ⟨rfl, vtX11_linesTo_0 hW ⟨fun w => ⟨hc, hs, ?_⟩, fun w => ?_⟩⟩
  · have e : (lnA A z).1 = 1 := by unfold lnA; rw [if_pos ((th_8 hK).mp w)]
    rw [e] at h0
    rcases h0 with h0 | h0
    · exact h0.2
    · exact absurd h0.1 (by decide)
  · have ht : aTh A = true := th_tf.elim id (fun h => absurd ((th_8 hK).mpr h) w)
    have hnf : ¬ aTh A = false := by rw [ht]; decide
    have f27 : (z < 0 ∨ dpS (lst (aG A)) < z) → X 27 0 0 [] [] M := fun h => by
      have e : (lnA A z).1 = 2 := by unfold lnA; rw [if_neg hnf, if_pos h]
      refine l27 _ _ _ _ _ ⟨rfl, vtX11_linesTo_27 hW ⟨hc, hs, ?_⟩⟩
      rw [e] at h0
      rcases h0 with h0 | h0
      · exact absurd h0.1 (by decide)
      · exact h0.2
    have hd := dpS_le (lst (aG A))
    have nd := iz_le hz (n := dpS (lst (aG A))) (by omega)
    refine ⟨fun w => f27 (Or.inl (n0.mp w)), fun w => c_shortDepth hK hO ht (vktX11_linesTo_24 hW ⟨fun w2 => ?_, fun w2 => f27 (Or.inr (by have : ¬ z ≤ dpS (lst (aG A)) := fun y => w2 (nd.mpr y); omega))⟩)⟩
    exfalso
    have e : (lnA A z).1 = 0 := by
      unfold lnA
      rw [if_neg hnf, if_neg (fun h => h.elim (fun y => w (n0.mpr y)) (fun y => by have := nd.mp w2; omega))]
    rw [e] at h0; omega
theorem t_valueAt {mc ms : Nat} (hc : 1 ≤ mc) (hs : 6 ≤ ms) {M : zM} {A : Ah} (hK : cHal M A) (hO : aOk A) {z : Int} (hz : i32 z) {Q : zQt} {EX : zEt} (h0 : (wdA A z = 1 ∧ ∀ n, EX eIS (zEx M n)) ∨ (wdA A z = 2 ∧ ∀ n, EX eIA (zEx M n))) : wtX11_valueAt mc ms [.ref 16, .int (iI z)] M Q EX := by
  refine ⟨⟨Nat.le_of_ble_eq_true rfl, rfl⟩, fun X l0 l27 => ?_⟩
  have hW := hK.wd
  have n0 := iz_lt hz (n := 0) (by decide)
  refine l0 _ _ _ _ _ ⟨rfl, vtX11_valueAt_0 hW ⟨fun w => ⟨hc, hs, ?_⟩, fun w => ?_⟩⟩
  · have e : wdA A z = 1 := by unfold wdA; rw [if_pos ((th_8 hK).mp w)]
    rw [e] at h0
    rcases h0 with h0 | h0
    · exact h0.2
    · exact absurd h0.1 (by decide)
  · have ht : aTh A = true := th_tf.elim id (fun h => absurd ((th_8 hK).mpr h) w)
    have hnf : ¬ aTh A = false := by rw [ht]; decide
    have f27 : (z < 0 ∨ dpM (lst (aG A)) < z) → X 27 0 0 [] [] M := fun h => by
      have e : wdA A z = 2 := by unfold wdA; rw [if_neg hnf, if_pos h]
      refine l27 _ _ _ _ _ ⟨rfl, vtX11_valueAt_27 hW ⟨hc, hs, ?_⟩⟩
      rw [e] at h0
      rcases h0 with h0 | h0
      · exact absurd h0.1 (by decide)
      · exact h0.2
    have hd := dpM_le (lst (aG A))
    have nd := iz_le hz (n := dpM (lst (aG A))) (by omega)
    refine ⟨fun w => f27 (Or.inl (n0.mp w)), fun w => c_lookDepth hK hO ht (vktX11_valueAt_24 hW ⟨fun w2 => ?_, fun w2 => f27 (Or.inr (by have : ¬ z ≤ dpM (lst (aG A)) := fun y => w2 (nd.mpr y); omega))⟩)⟩
    exfalso
    have e : wdA A z = 0 := by
      unfold wdA
      rw [if_neg hnf, if_neg (fun h => h.elim (fun y => w (n0.mpr y)) (fun y => by have := nd.mp w2; omega))]
    rw [e] at h0; omega
theorem t_bestAt {mc ms : Nat} (hc : 1 ≤ mc) (hs : 6 ≤ ms) {M : zM} {A : Ah} (hK : cHal M A) (hO : aOk A) {z : Int} (hz : i32 z) {Q : zQt} {EX : zEt} (h0 : (wdA A z = 1 ∧ ∀ n, EX eIS (zEx M n)) ∨ (wdA A z = 2 ∧ ∀ n, EX eIA (zEx M n))) : wtX11_bestAt mc ms [.ref 16, .int (iI z)] M Q EX := by
  refine ⟨⟨Nat.le_of_ble_eq_true rfl, rfl⟩, fun X l0 l27 => ?_⟩
  have hW := hK.wd
  have n0 := iz_lt hz (n := 0) (by decide)
  refine l0 _ _ _ _ _ ⟨rfl, vtX11_bestAt_0 hW ⟨fun w => ⟨hc, hs, ?_⟩, fun w => ?_⟩⟩
  · have e : wdA A z = 1 := by unfold wdA; rw [if_pos ((th_8 hK).mp w)]
    rw [e] at h0
    rcases h0 with h0 | h0
    · exact h0.2
    · exact absurd h0.1 (by decide)
  · have ht : aTh A = true := th_tf.elim id (fun h => absurd ((th_8 hK).mpr h) w)
    have hnf : ¬ aTh A = false := by rw [ht]; decide
    have f27 : (z < 0 ∨ dpM (lst (aG A)) < z) → X 27 0 0 [] [] M := fun h => by
      have e : wdA A z = 2 := by unfold wdA; rw [if_neg hnf, if_pos h]
      refine l27 _ _ _ _ _ ⟨rfl, vtX11_bestAt_27 hW ⟨hc, hs, ?_⟩⟩
      rw [e] at h0
      rcases h0 with h0 | h0
      · exact absurd h0.1 (by decide)
      · exact h0.2
    have hd := dpM_le (lst (aG A))
    have nd := iz_le hz (n := dpM (lst (aG A))) (by omega)
    refine ⟨fun w => f27 (Or.inl (n0.mp w)), fun w => c_lookDepth hK hO ht (vktX11_bestAt_24 hW ⟨fun w2 => ?_, fun w2 => f27 (Or.inr (by have : ¬ z ≤ dpM (lst (aG A)) := fun y => w2 (nd.mpr y); omega))⟩)⟩
    exfalso
    have e : wdA A z = 0 := by
      unfold wdA
      rw [if_neg hnf, if_neg (fun h => h.elim (fun y => w (n0.mpr y)) (fun y => by have := nd.mp w2; omega))]
    rw [e] at h0; omega
theorem t_distanceToMate {mc ms : Nat} (hc : 1 ≤ mc) (hs : 6 ≤ ms) {M : zM} {A : Ah} (hK : cHal M A) (h0 : aTh A = false) {Q : zQt} {EX : zEt} (hx : ∀ n, EX eIS (zEx M n)) : wtX11_distanceToMate mc ms [.ref 16] M Q EX := by
  refine ⟨⟨Nat.le_of_ble_eq_true rfl, rfl⟩, fun X l0 => ?_⟩
  exact l0 _ _ _ _ _ ⟨rfl, vtX11_distanceToMate_0 hK.wd ⟨fun _ => ⟨hc, hs, hx⟩, fun w => absurd ((th_8 hK).mpr h0) w⟩⟩
theorem t_matingMove {mc ms : Nat} (hc : 1 ≤ mc) (hs : 6 ≤ ms) {M : zM} {A : Ah} (hK : cHal M A) (h0 : aTh A = false) {Q : zQt} {EX : zEt} (hx : ∀ n, EX eIS (zEx M n)) : wtX11_matingMove mc ms [.ref 16] M Q EX := by
  refine ⟨⟨Nat.le_of_ble_eq_true rfl, rfl⟩, fun X l0 => ?_⟩
  exact l0 _ _ _ _ _ ⟨rfl, vtX11_matingMove_0 hK.wd ⟨fun _ => ⟨hc, hs, hx⟩, fun w => absurd ((th_8 hK).mpr h0) w⟩⟩
theorem t_historyOf {mc ms : Nat} (hc : 1 ≤ mc) (hs : 6 ≤ ms) {M : zM} {A : Ah} (hK : cHal M A) (hO : aOk A) {z w : Int} (hz : i32 z) (hw : i32 w) (h0 : ¬ inH A z w) {Q : zQt} {EX : zEt} (hx : ∀ n, EX eIB (zEx M n)) : wtX11_historyOf mc ms [.ref 16, .int (iI z), .int (iI w)] M Q EX := by
  refine ⟨⟨Nat.le_of_ble_eq_true rfl, rfl⟩, fun X l0 l32 => ?_⟩
  have hW := hK.wd
  have f32 : X 32 0 0 [] [] M := l32 _ _ _ _ _ ⟨rfl, vtX11_historyOf_32 hW ⟨hc, hs, hx⟩⟩
  have n0 := iz_lt hz (n := 0) (by decide)
  have m0 := iz_lt hw (n := 0) (by decide)
  have m8 := iz_lt hw (n := 8) (by decide)
  refine l0 _ _ _ _ _ ⟨rfl, vtX11_historyOf_0 hW ⟨fun _ => f32, fun w1 => ⟨fun _ => f32, fun w2 => ?_⟩⟩⟩
  have ht : aTh A = true := th_tf.elim id (fun h => absurd ((th_8 hK).mpr h) w1)
  obtain ⟨g, hg, h6, Wg, gG, oG⟩ := hK.game hO ht
  have h601 := oG.2.1
  have nl := iz_ge hz (n := (aG A).1) (by omega)
  refine ⟨g, h6, fgs_0 Wg, ?_⟩
  rw [gG.2.2.1]
  refine ⟨fun _ => f32, fun w3 => ⟨fun _ => f32, fun w4 => ⟨fun w5 => ?_, fun _ => f32⟩⟩⟩
  refine absurd ⟨ht, ?_, ?_, ?_, ?_⟩ h0
  · have : ¬ z < 0 := fun y => w2 (n0.mpr y); omega
  · have : ¬ (aG A).1 ≤ z := fun y => w3 (nl.mpr y); omega
  · have : ¬ w < 0 := fun y => w4 (m0.mpr y); omega
  · exact m8.mp w5
