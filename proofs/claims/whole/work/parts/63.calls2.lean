/-! THE REFERENCE'S smaller calls, on -/
def retA (A : Ah) : Nat × Ah := if aTh A = false ∨ (aG A).1 < 2 then (0, A) else (1, aSet A ((aG A).1 - 1, (aG A).2))
theorem r_retreat {mc ms : Nat} {M : zM} {A : Ah} (hR : rRef M A) (hO : aOk A) {Q : zQt} (hq : ∀ N, zSm rCs M N → N.1 55 0 = 0 → rRef N (retA A).2 → Q (some (.int (nI (retA A).1))) N) : wX13_retreat mc ms [.ref 55] M Q := by
  have hW := hR.1
  refine ⟨⟨Nat.le_of_ble_eq_true rfl, rfl⟩, fun X l0 l25 => ?_⟩
  refine l0 _ _ _ _ _ ⟨rfl, vX13_retreat_0 hW (fun N e => ?_)⟩
  have n0 : N.1 55 0 = 0 := by rw [e, zsI_s]
  have k : rKp M N := by rw [e]; exact rKp.slot (by omega)
  have hRN := k.ref hR
  have f25 : (aTh A = false ∨ (aG A).1 < 2) → X 25 0 0 [] [] N := by
    intro h
    have hv : retA A = (0, A) := by unfold retA; rw [if_pos h]
    rw [hv] at hq
    exact l25 _ _ _ _ _ ⟨rfl, vX13_retreat_25 hRN.1 (hq N k.cs n0 hRN)⟩
  rw [hRN.2.2.2.1]
  refine ⟨fun d => f25 (Or.inl (bI_0.mp d)), fun d => ?_⟩
  have ht := bI_n.mp d
  obtain ⟨g, hg1, hg, hG, hok⟩ := hRN.game hO ht
  have p2 := hok.2.1
  rw [hg, nI_clamp (by omega), hG.1]
  have e2 := nI_leI (a := 2) (b := (aG A).1) (by decide) (by omega)
  refine ⟨vp_in_nI (by omega) (by omega), fun w => ⟨vp_in_nI (by omega) (by omega), vp_in_nI (by omega) (by omega), fun K eK => ?_⟩, fun w => f25 (Or.inr ?_)⟩
  · have h2 := e2.mp w
    have hv : retA A = (1, aSet A ((aG A).1 - 1, (aG A).2)) := by
      unfold retA
      rw [if_neg]
      rintro (q | q)
      · rw [ht] at q; exact absurd q (by decide)
      · omega
    rw [hv] at hq
    rw [show nI (aG A).1 - (1 : Int32) = nI ((aG A).1 - 1) from pk_sub (a := (aG A).1) (b := 1) (by omega)] at eK
    have sK : zSm [58] N K := by rw [eK]; exact zSm.I (by decide)
    obtain ⟨_, r2, rT, r7, r3, r4, r5, _⟩ := hRN
    refine hq K (k.cs.tr (sK.mono (by decide))) (by rw [sK.i (by decide)]; exact n0) ⟨sK.fix (k.1.fix hW), by rw [sK.i (by decide)]; exact r2, fun i hi => by rw [sK.i (by decide)]; exact rT i hi, by rw [sK.i (by decide)]; exact r7, by rw [sK.i (by decide)]; exact r3, by rw [sK.i (by decide)]; exact r4, by rw [sK.i (by decide)]; exact r5, g, hg1, by rw [sK.i (by decide)]; exact hg, fun _ => ?_⟩
    refine ⟨by rw [eK, zsI_s], fun i hi => ?_⟩
    have hi : i < (aG A).1 - 1 := hi
    have z := hG.2 i (by omega)
    unfold rEnt at z ⊢
    rw [sK.i (by decide), sK.i (by decide), sK.i (by decide), sK.i (by decide), sK.i (by decide), sK.i (by decide), sK.i (by decide)]
    exact z
  · have : ¬ 2 ≤ (aG A).1 := fun q => w (e2.mpr q)
    omega
/-- a number of the row of the latest position -/
theorem last_at {g n : Nat} (hg : g ≤ 1) (hn : 0 < n) (h6 : n ≤ 601) : nI (601 * g) + nI n - (1 : Int32) = nI (601 * g + (n - 1)) := by
  rw [nI_add]
  have := pk_sub (a := 601 * g + n) (b := 1) (by omega)
  rw [show 601 * g + n - 1 = 601 * g + (n - 1) by omega] at this
  exact this
noncomputable def lmA (A : Ah) : Nat := if aTh A = true then (mvs (lst (aG A))).length else 0
theorem r_legalMany {mc ms : Nat} {M : zM} {A : Ah} (hR : rRef M A) (hO : aOk A) {Q : zQt} (hq : ∀ N, rKp M N → N.1 55 0 = 0 → Q (some (.int (nI (lmA A)))) N) : wX13_legalMany mc ms [.ref 55] M Q := by
  have hW := hR.1
  refine ⟨⟨Nat.le_of_ble_eq_true rfl, rfl⟩, fun X l0 l37 => ?_⟩
  refine l0 _ _ _ _ _ ⟨rfl, vX13_legalMany_0 hW (fun N e => ?_)⟩
  have n0 : N.1 55 0 = 0 := by rw [e, zsI_s]
  have k : rKp M N := by rw [e]; exact rKp.slot (by omega)
  have hRN := k.ref hR
  have f37 : ∀ v, v = lmA A → X 37 0 0 [] [.int (nI v)] N := fun v hv => l37 _ _ _ _ _ ⟨rfl, vX13_legalMany_37 hRN.1 (by rw [hv]; exact hq N k n0)⟩
  rw [hRN.2.2.2.1]
  refine ⟨fun d => f37 0 ?_, fun d => ?_⟩
  · unfold lmA
    rw [if_neg (by rw [bI_0.mp d]; decide)]
  · have ht := bI_n.mp d
    obtain ⟨g, hg1, hg, hG, hok⟩ := hRN.game hO ht
    have p1 := hok.1
    have p2 := hok.2.1
    refine c_base hRN.1 hg (vkX13_legalMany_20 hRN.1 ?_)
    rw [hg, nI_clamp (by omega), hG.1, last_at hg1 p1 p2, nI_clamp (by omega), (hG.2 ((aG A).1 - 1) (by omega)).1.2.2.1]
    refine ⟨vp_in_nI (by omega) (by omega), vp_in_nI (by omega) (by omega), f37 _ ?_⟩
    unfold lmA
    rw [if_pos ht]
    rfl
/-- whether there is a move of this place -/
def inL (A : Ah) (z : Int) : Prop := aTh A = true ∧ 0 ≤ z ∧ z < (mvs (lst (aG A))).length
theorem c_listed {mc ms : Nat} {M : zM} {A : Ah} (hR : rRef M A) (hO : aOk A) {z : Int} (hz : i32 z) {Q : zQt} (q1 : ∀ N, rKp M N → N.1 55 0 = M.1 55 0 → inL A z → rSh N (lst (aG A)) → Q (some (.int 1)) N) (q0 : ∀ N, rKp M N → N.1 55 0 = M.1 55 0 → ¬ inL A z → Q (some (.int 0)) N) : wX13_listed mc ms [.ref 55, .int (iI z)] M Q := by
  have hW := hR.1
  refine ⟨⟨Nat.le_of_ble_eq_true rfl, rfl⟩, fun X l0 l11 l36 l37 => ?_⟩
  have f36 : ∀ N, rKp M N → N.1 55 0 = M.1 55 0 → ¬ inL A z → X 36 0 0 [] [] N := fun N k e h => l36 _ _ _ _ _ ⟨rfl, vX13_listed_36 (k.1.fix hW) (l37 _ _ _ _ _ ⟨rfl, vX13_listed_37 (k.1.fix hW) ⟨rfl, q0 N k e h⟩⟩)⟩
  refine l0 _ _ _ _ _ ⟨rfl, vX13_listed_0 hW ?_⟩
  have h7 := hR.2.2.2.1
  rw [h7]
  refine ⟨fun d => l11 _ _ _ _ _ ⟨rfl, vX13_listed_11 hW ?_⟩, fun d => r_show hR hO (bI_n.mp d) (fun N hN hS => ?_)⟩
  · rw [h7]
    exact ⟨fun _ => f36 M rKp.rf rfl (fun q => absurd (q.1.symm.trans (bI_0.mp d)) (by decide)), fun w => absurd d w⟩
  · have ht := bI_n.mp d
    have k : rKp M N := rKp.of hN (by decide)
    have hWN := k.1.fix hW
    have e0 : N.1 55 0 = M.1 55 0 := by rw [hN.i (by decide)]
    have hL := (hO.2.2.1 ht).fit.2.2
    refine vkX13_listed_11 hWN (l11 _ _ _ _ _ ⟨rfl, vX13_listed_11 hWN ?_⟩)
    rw [(k.ref hR).2.2.2.1, show N.1 67 (0 : Int32).toNatClampNeg = nI (mvs (lst (aG A))).length from hS.2.2]
    have ez := iz_lt hz (n := 0) (by omega)
    have el := iz_ge hz (n := (mvs (lst (aG A))).length) (by omega)
    refine ⟨fun w => absurd w d, fun _ => ⟨fun w => f36 N k e0 (fun q => ?_), fun w => ⟨fun y => f36 N k e0 (fun q => ?_), fun y => l37 _ _ _ _ _ ⟨rfl, vX13_listed_37 hWN ⟨rfl, q1 N k e0 ⟨ht, ?_, ?_⟩ hS⟩⟩⟩⟩⟩
    · have := ez.mp w
      have := q.2.1
      omega
    · have := el.mp y
      have := q.2.2
      omega
    · have : ¬ z < 0 := fun q => w (ez.mpr q)
      omega
    · have : ¬ ((mvs (lst (aG A))).length : Int) ≤ z := fun q => y (el.mpr q)
      omega
noncomputable def lvA (A : Ah) (z : Int) : Nat × Nat := @ite _ (inL A z) (Classical.propDecidable _) (0, mvAt (aG A) z) (1, 0)
theorem r_legalMove {mc ms : Nat} {M : zM} {A : Ah} (hR : rRef M A) (hO : aOk A) {z : Int} (hz : i32 z) {Q : zQt} (hq : ∀ N, rKp M N → N.1 55 0 = nI (lvA A z).1 → Q (some (.int (nI (lvA A z).2))) N) : wX13_legalMove mc ms [.ref 55, .int (iI z)] M Q := by
  have hW := hR.1
  refine ⟨⟨Nat.le_of_ble_eq_true rfl, rfl⟩, fun X l0 l14 l34 => ?_⟩
  refine l0 _ _ _ _ _ ⟨rfl, vX13_legalMove_0 hW (c_listed hR hO hz (fun N k e h hS => ?_) (fun N k e h => ?_))⟩
  · have hWN := k.1.fix hW
    have hv : lvA A z = (0, mvAt (aG A) z) := by unfold lvA; rw [if_pos h]
    rw [hv] at hq
    have hL := (hO.2.2.1 h.1).fit.2.2
    obtain ⟨hmem, hget⟩ := mvAt_mem h.2.1 h.2.2
    have hval := hS.2.1 _ _ hget
    have hz1 := h.2.1
    have hz2 := h.2.2
    refine vkX13_legalMove_6 hWN ⟨fun q => absurd q (by decide), fun _ => l14 _ _ _ _ _ ⟨rfl, vX13_legalMove_14 hWN (fun K eK => ?_)⟩⟩
    have n0 : K.1 55 0 = 0 := by rw [eK, zsI_s]
    have kK : rKp M K := by rw [eK]; exact k.tr (rKp.slot (by omega))
    rw [n0]
    refine ⟨fun _ => ?_, fun w => absurd (by decide) w⟩
    rw [iz_nat hz1, nI_clamp (by omega), show K.1 66 z.toNat = nI (mvAt (aG A) z) by rw [eK, zsI_o (by decide)]; exact hval]
    exact ⟨vp_in_nI (by omega) (by omega), l34 _ _ _ _ _ ⟨rfl, vX13_legalMove_34 (kK.1.fix hW) (hq K kK n0)⟩⟩
  · have hWN := k.1.fix hW
    have hv : lvA A z = (1, 0) := by unfold lvA; rw [if_neg h]
    rw [hv] at hq
    refine vkX13_legalMove_6 hWN ⟨fun _ => l14 _ _ _ _ _ ⟨rfl, vX13_legalMove_14 hWN (fun K eK => ?_)⟩, fun q => absurd rfl q⟩
    have n0 : K.1 55 0 = 1 := by rw [eK, zsI_s]
    have kK : rKp M K := by rw [eK]; exact k.tr (rKp.slot (by omega))
    rw [n0]
    exact ⟨fun w => absurd w (by decide), fun _ => l34 _ _ _ _ _ ⟨rfl, vX13_legalMove_34 (kK.1.fix hW) (hq K kK n0)⟩⟩
noncomputable def moA (A : Ah) (z : Int) : Int := if aTh A = false ∨ z < 0 ∨ 63 < z then -1 else ((lst (aG A)).1 z.toNat : Nat)
theorem row_at {g n k : Nat} : (69 : Int32) * nI (601 * g + n) + nI k = nI (69 * (601 * g + n) + k) := by
  rw [show (69 : Int32) * nI (601 * g + n) = nI (69 * (601 * g + n)) from pk_mul 69 _, nI_add]
theorem r_manOn {mc ms : Nat} {M : zM} {A : Ah} (hR : rRef M A) (hO : aOk A) {z : Int} (hz : i32 z) {Q : zQt} (hq : ∀ N, rKp M N → N.1 55 0 = 0 → Q (some (.int (iI (moA A z)))) N) : wX13_manOn mc ms [.ref 55, .int (iI z)] M Q := by
  have hW := hR.1
  refine ⟨⟨Nat.le_of_ble_eq_true rfl, rfl⟩, fun X l0 l22 l52 => ?_⟩
  refine l0 _ _ _ _ _ ⟨rfl, vX13_manOn_0 hW (fun N e => ?_)⟩
  have n0 : N.1 55 0 = 0 := by rw [e, zsI_s]
  have k : rKp M N := by rw [e]; exact rKp.slot (by omega)
  have hRN := k.ref hR
  have f52 : ∀ v, v = iI (moA A z) → X 52 0 0 [] [.int v] N := fun v hv => l52 _ _ _ _ _ ⟨rfl, vX13_manOn_52 hRN.1 (by rw [hv]; exact hq N k n0)⟩
  have f22 : (aTh A = false ∨ z < 0 ∨ 63 < z) → X 22 0 0 [] [] N := fun h => l22 _ _ _ _ _ ⟨rfl, vX13_manOn_22 hRN.1 (f52 _ (by unfold moA; rw [if_pos h]; rfl))⟩
  rw [hRN.2.2.2.1]
  have ez := iz_lt hz (n := 0) (by omega)
  have el := iz_le hz (n := 63) (by omega)
  refine ⟨fun d => f22 (Or.inl (bI_0.mp d)), fun d => ⟨fun w => f22 (Or.inr (Or.inl (ez.mp w))), fun w => ⟨fun y => ?_, fun y => f22 (Or.inr (Or.inr ?_))⟩⟩⟩
  · have ht := bI_n.mp d
    obtain ⟨g, hg1, hg, hG, hok⟩ := hRN.game hO ht
    have p1 := hok.1
    have p2 := hok.2.1
    have z0 : ¬ z < 0 := fun q => w (ez.mpr q)
    have z1 := el.mp y
    refine c_base hRN.1 hg (vkX13_manOn_36 hRN.1 ?_)
    have hent := (hG.2 ((aG A).1 - 1) (by omega)).1.1 z.toNat (by omega)
    rw [hg, nI_clamp (by omega), hG.1, last_at hg1 p1 p2, iz_nat (by omega), row_at, nI_clamp (by omega), hent]
    refine ⟨vp_in_nI (by omega) (by omega), vp_in_nI (by omega) (by omega), f52 _ ?_⟩
    unfold moA psI
    rw [if_pos (by omega), if_neg]
    · rfl
    · rintro (q | q | q)
      · rw [ht] at q; exact absurd q (by decide)
      · omega
      · omega
  · have : ¬ z ≤ 63 := fun q => y (el.mpr q)
    omega
noncomputable def dpS (P : Ps) : Nat := if (mvs P).length ≤ 30 then 3 else 2
theorem c_deepest {mc ms : Nat} {M : zM} {A : Ah} (hR : rRef M A) (hO : aOk A) (ht : aTh A = true) {Q : zQt} (hq : Q (some (.int (nI (dpS (lst (aG A)))))) M) : wX13_deepest mc ms [.ref 55] M Q := by
  have hW := hR.1
  refine ⟨⟨Nat.le_of_ble_eq_true rfl, rfl⟩, fun X l0 l31 => ?_⟩
  obtain ⟨g, hg1, hg, hG, hok⟩ := hR.game hO ht
  have p1 := hok.1
  have p2 := hok.2.1
  have hL := hok.fit.2.2
  have f31 : ∀ v, v = dpS (lst (aG A)) → X 31 0 0 [] [.int (nI v)] M := fun v hv => l31 _ _ _ _ _ ⟨rfl, vX13_deepest_31 hW (by rw [hv]; exact hq)⟩
  refine l0 _ _ _ _ _ ⟨rfl, vX13_deepest_0 hW (c_base hW hg (vkX13_deepest_8 hW ?_))⟩
  rw [hg, nI_clamp (by omega), hG.1, last_at hg1 p1 p2, nI_clamp (by omega), (hG.2 ((aG A).1 - 1) (by omega)).1.2.2.1]
  have e30 := nI_leI (a := (mvs (lst (aG A))).length) (b := 30) (by omega) (by decide)
  refine ⟨vp_in_nI (by omega) (by omega), vp_in_nI (by omega) (by omega), fun w => f31 3 ?_, fun w => f31 2 ?_⟩
  · unfold dpS; rw [if_pos (e30.mp w)]
  · unfold dpS; rw [if_neg (fun q => w (e30.mpr q))]
/-- how many men stand -/
def mnS (B : Nat → Nat) : Nat := cn (fun s => if 0 < B s then 1 else 0) 64
theorem c_men {mc ms : Nat} {M : zM} {A : Ah} (hR : rRef M A) (hO : aOk A) (ht : aTh A = true) {Q : zQt} (hq : Q (some (.int (nI (mnS (lst (aG A)).1)))) M) : wX13_men mc ms [.ref 55] M Q := by
  have hW := hR.1
  refine ⟨⟨Nat.le_of_ble_eq_true rfl, rfl⟩, fun X l0 l4 l45 => ?_⟩
  obtain ⟨g, hg1, hg, hG, hok⟩ := hR.game hO ht
  have p1 := hok.1
  have p2 := hok.2.1
  have loop : ∀ (r k : Nat), k + r = 64 → X 4 0 0 [.ref 55, .int (nI (cn (fun s => if 0 < (lst (aG A)).1 s then 1 else 0) k)), .int (nI k)] [] M := by
    intro r
    induction r with
    | zero =>
      intro k hk
      obtain rfl : k = 64 := by omega
      exact l4 _ _ _ _ _ ⟨rfl, vX13_men_4 hW ⟨fun _ => hq, fun d => absurd (by decide) d⟩⟩
    | succ r ih =>
      intro k hk
      refine l4 _ _ _ _ _ ⟨rfl, vX13_men_4 hW ⟨fun d => absurd ((nI_leI (a := 64) (b := k) (by decide) (by omega)).mp d) (by omega), fun _ => c_base hW hg (vkX13_men_21 hW ?_)⟩⟩
      obtain ⟨⟨hent, -⟩, hok2, -⟩ := hG.2 ((aG A).1 - 1) (by omega)
      have hent := hent k (by omega)
      have h12 := hok2.1 k (by omega)
      rw [hg, nI_clamp (by omega), hG.1, last_at hg1 p1 p2, row_at, nI_clamp (by omega), hent]
      have e0 : psI ((aG A).2.1 ((aG A).1 - 1)) k = nI ((lst (aG A)).1 k) := by unfold psI; rw [if_pos (by omega)]; rfl
      have h12 : (lst (aG A)).1 k ≤ 12 := h12
      rw [e0]
      have e1 := nI_leI (a := (lst (aG A)).1 k) (b := 0) (by omega) (by decide)
      have f45 : ∀ v, v = (if 0 < (lst (aG A)).1 k then 1 else 0) → X 45 0 0 [.ref 55, .int (nI k)] [.int (nI v), .int (nI (cn (fun s => if 0 < (lst (aG A)).1 s then 1 else 0) k))] M := by
        intro v hv
        refine l45 _ _ _ _ _ ⟨rfl, vX13_men_45 hW ?_⟩
        rw [nI_1, nI_add, hv]
        exact ih (k + 1) (by omega)
      refine ⟨vp_in_nI (by omega) (by omega), vp_in_nI (by omega) (by omega), fun w => f45 0 ?_, fun w => f45 1 ?_⟩
      · rw [if_neg (by have := e1.mp w; omega)]
      · rw [if_pos (by
          have : ¬ (lst (aG A)).1 k ≤ 0 := fun q => w (e1.mpr q)
          omega)]
  exact l0 _ _ _ _ _ ⟨rfl, vX13_men_0 hW (loop 64 0 rfl)⟩
noncomputable def dpM (P : Ps) : Nat := if mnS P.1 ≤ 3 then 4 else dpS P
noncomputable def wdA (A : Ah) (z : Int) : Nat := if aTh A = false then 1 else if z < 0 ∨ dpM (lst (aG A)) < z then 2 else 0
theorem mnS_le (B : Nat → Nat) : mnS B ≤ 64 := cn_le (fun i => by split <;> omega) 64
theorem dpS_le (P : Ps) : dpS P ≤ 3 := by unfold dpS; split <;> omega
theorem c_wrongDepth {mc ms : Nat} {M : zM} {A : Ah} (hR : rRef M A) (hO : aOk A) {z : Int} (hz : i32 z) {Q : zQt} (hq : Q (some (.int (nI (wdA A z)))) M) : wX13_wrongDepth mc ms [.ref 55, .int (iI z)] M Q := by
  have hW := hR.1
  refine ⟨⟨Nat.le_of_ble_eq_true rfl, rfl⟩, fun X l0 l32 l35 l40 => ?_⟩
  have f40 : ∀ v, v = wdA A z → X 40 0 0 [] [.int (nI v)] M := fun v hv => l40 _ _ _ _ _ ⟨rfl, vX13_wrongDepth_40 hW (by rw [hv]; exact hq)⟩
  have f35 : aTh A = true → (z < 0 ∨ dpM (lst (aG A)) < z) → X 35 0 0 [] [] M := fun t h => l35 _ _ _ _ _ ⟨rfl, vX13_wrongDepth_35 hW (f40 2 (by unfold wdA; rw [if_neg (by rw [t]; decide), if_pos h]))⟩
  refine l0 _ _ _ _ _ ⟨rfl, vX13_wrongDepth_0 hW ?_⟩
  rw [hR.2.2.2.1]
  have ez := iz_lt hz (n := 0) (by omega)
  refine ⟨fun d => f40 1 (by unfold wdA; rw [if_pos (bI_0.mp d)]), fun d => ⟨fun w => f35 (bI_n.mp d) (Or.inl (ez.mp w)), fun w => c_men hR hO (bI_n.mp d) ?_⟩⟩
  have ht := bI_n.mp d
  have z0 : ¬ z < 0 := fun q => w (ez.mpr q)
  have f32 : ∀ v, v = dpM (lst (aG A)) → v ≤ 4 → X 32 0 0 [] [.int (nI v), .int (iI z)] M := by
    intro v hv hv4
    have el := iz_le hz (n := v) (by omega)
    refine l32 _ _ _ _ _ ⟨rfl, vX13_wrongDepth_32 hW ⟨fun y => f40 0 ?_, fun y => f35 ht (Or.inr ?_)⟩⟩
    · have := el.mp y
      unfold wdA
      rw [if_neg (by rw [ht]; decide), if_neg (by rw [← hv]; omega)]
    · have : ¬ z ≤ v := fun q => y (el.mpr q)
      rw [← hv]; omega
  have hmn := mnS_le (lst (aG A)).1
  have e3 := nI_leI (a := mnS (lst (aG A)).1) (b := 3) (by omega) (by decide)
  have hd := dpS_le (lst (aG A))
  refine vkX13_wrongDepth_20 hW ⟨fun y => f32 4 ?_ (by omega), fun y => c_deepest hR hO ht (vkX13_wrongDepth_28 hW (f32 _ ?_ (by omega)))⟩
  · unfold dpM; rw [if_pos (e3.mp y)]
  · unfold dpM; rw [if_neg (fun q => y (e3.mpr q))]
