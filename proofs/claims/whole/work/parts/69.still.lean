/-! THE REFERENCE'S material, back, still -/
def wt (k : Nat) : Nat := if k = 1 then 1 else if k = 2 ∨ k = 3 then 3 else if k = 4 then 5 else if k = 5 then 9 else 0
def mtT (P : Ps) (s : Nat) : Int := if sdI (P.1 s) = P.2.1 then (wt (kd (P.1 s)) : Int) else -(wt (kd (P.1 s)) : Int)
def mtN (P : Ps) : Nat → Int
  | 0 => 0
  | n + 1 => mtN P n + mtT P n
def mtl (P : Ps) : Int := mtN P 64
theorem wt_le (k : Nat) : wt k ≤ 9 := by
  unfold wt
  split
  · omega
  split
  · omega
  split
  · omega
  split <;> omega
theorem mtT_bd (P : Ps) (s : Nat) : -9 ≤ mtT P s ∧ mtT P s ≤ 9 := by
  have := wt_le (kd (P.1 s))
  unfold mtT
  split <;> omega
theorem mtN_bd (P : Ps) : ∀ n : Nat, -(9 * (n : Int)) ≤ mtN P n ∧ mtN P n ≤ 9 * (n : Int)
  | 0 => by unfold mtN; omega
  | n + 1 => by
    have h1 := mtN_bd P n
    have h2 := mtT_bd P n
    unfold mtN
    omega
theorem mtl_bd (P : Ps) : -576 ≤ mtl P ∧ mtl P ≤ 576 := by
  have := mtN_bd P 64
  unfold mtl
  omega
set_option maxHeartbeats 4000000 in
theorem c_material {mc ms : Nat} {M : zM} (hW : zFix M) {y : Nat} (hy : y ≤ 5) {P : Ps} (hP : rPs M (69 * y) P) {Q : zQt} (hq : Q (some (.int (iI (mtl P)))) M) : wX13_material mc ms [.ref 55, .int (nI y)] M Q := by
  refine ⟨⟨Nat.le_of_ble_eq_true rfl, rfl⟩, fun X l0 l10 l53 l79 l114 => ?_⟩
  obtain ⟨hB, ⟨hs, hs1⟩, -⟩ := hP
  have loop : ∀ (r k : Nat), k + r = 64 → X 10 0 0 [.ref 55, .int (nI (69 * y)), .int (iI (mtN P k)), .int (nI k)] [] M := by
    intro r
    induction r with
    | zero =>
      intro k hk
      obtain rfl : k = 64 := by omega
      exact l10 _ _ _ _ _ ⟨rfl, vX13_material_10 hW ⟨fun _ => hq, fun d => absurd (by decide) d⟩⟩
    | succ r ih =>
      intro k hk
      obtain ⟨b1, b12⟩ := hB k (by omega)
      have e64 := nI_leI (a := 64) (b := k) (by decide) (by omega)
      have hkd : kd (P.1 k) ≤ 12 := by unfold kd; split <;> omega
      have f114 : ∀ v, v = iI (mtT P k) → X 114 0 0 [.ref 55, .int (nI (69 * y)), .int (nI k)] [.int v, .int (iI (mtN P k))] M := by
        intro v hv
        refine l114 _ _ _ _ _ ⟨rfl, vX13_material_114 hW ?_⟩
        rw [hv, iI_add, nI_1]
        exact ih (k + 1) (by omega)
      have f79 : ∀ v, v = wt (kd (P.1 k)) → X 79 0 0 [.ref 55, .int (nI (69 * y)), .int (iI (mtN P k)), .int (nI k)] [.int (nI v)] M := by
        intro v hv
        have hv9 := wt_le (kd (P.1 k))
        refine l79 _ _ _ _ _ ⟨rfl, vX13_material_79 hW ?_⟩
        rw [nI_add, nI_clamp (by omega), b1]
        refine ⟨vp_in_nI (by omega) (by omega), c_sideOf hW _ (by omega) (vkX13_material_94 hW ?_)⟩
        rw [show nI (69 * y) + (64 : Int32) = nI (69 * y + 64) from nI_add _ 64, nI_clamp (by omega), hs]
        have hb := sdI_bd (P.1 k)
        have es : iI (sdI (P.1 k)) = nI P.2.1 ↔ sdI (P.1 k) = P.2.1 := by
          rw [iI_nat]; exact iI_eq (by omega) (by omega) (by omega) (by omega)
        refine ⟨vp_in_nI (by omega) (by omega), fun u => f114 _ ?_, fun u => f114 _ ?_⟩
        · unfold mtT
          rw [if_pos (es.mp u), ← hv]
          rfl
        · unfold mtT
          rw [if_neg (fun q => u (es.mpr q)), ← hv, ← iI_neg]
          rfl
      have f53 : wt (kd (P.1 k)) = 3 → X 53 0 0 [.ref 55, .int (nI (69 * y)), .int (iI (mtN P k)), .int (nI k)] [] M := fun h => l53 _ _ _ _ _ ⟨rfl, vX13_material_53 hW (f79 3 h.symm)⟩
      refine l10 _ _ _ _ _ ⟨rfl, vX13_material_10 hW ⟨fun d => absurd (e64.mp d) (by omega), fun _ => ?_⟩⟩
      rw [nI_add, nI_clamp (by omega), b1]
      refine ⟨vp_in_nI (by omega) (by omega), c_kindOf hW _ (by omega) (vkX13_material_29 hW ?_)⟩
      have q1 := nI_eq (a := kd (P.1 k)) (b := 1) (by omega) (by decide)
      have q2 := nI_eq (a := kd (P.1 k)) (b := 2) (by omega) (by decide)
      have q3 := nI_eq (a := kd (P.1 k)) (b := 3) (by omega) (by decide)
      have q4 := nI_eq (a := kd (P.1 k)) (b := 4) (by omega) (by decide)
      have q5 := nI_eq (a := kd (P.1 k)) (b := 5) (by omega) (by decide)
      refine ⟨fun u => f79 1 ?_, fun u => ⟨fun v => f53 ?_, fun v => ⟨fun w => f53 ?_, fun w => ⟨fun x => f79 5 ?_, fun x => ⟨fun z => f79 9 ?_, fun z => f79 0 ?_⟩⟩⟩⟩⟩
      · unfold wt; rw [if_pos (q1.mp u)]
      · unfold wt; rw [if_neg (fun q => u (q1.mpr q)), if_pos (Or.inl (q2.mp v))]
      · unfold wt; rw [if_neg (fun q => u (q1.mpr q)), if_pos (Or.inr (q3.mp w))]
      · unfold wt
        have a1 := q4.mp x
        rw [if_neg (by omega), if_neg (by omega), if_pos a1]
      · unfold wt
        have a1 := q5.mp z
        rw [if_neg (by omega), if_neg (by omega), if_neg (by omega), if_pos a1]
      · unfold wt
        have a1 : ¬ kd (P.1 k) = 1 := fun q => u (q1.mpr q)
        have a2 : ¬ kd (P.1 k) = 2 := fun q => v (q2.mpr q)
        have a3 : ¬ kd (P.1 k) = 3 := fun q => w (q3.mpr q)
        have a4 : ¬ kd (P.1 k) = 4 := fun q => x (q4.mpr q)
        have a5 : ¬ kd (P.1 k) = 5 := fun q => z (q5.mpr q)
        rw [if_neg a1, if_neg (by omega), if_neg a4, if_neg a5]
  refine l0 _ _ _ _ _ ⟨rfl, vX13_material_0 hW ?_⟩
  rw [show (69 : Int32) * nI y = nI (69 * y) from pk_mul 69 _]
  exact loop 64 0 rfl
def bk (v : Int) : Int := if -v < -900 then 1 - v else if 900 < -v then -v - 1 else -v
theorem bk_bd {v : Int} (h : -1000 ≤ v ∧ v ≤ 1000) : -1000 ≤ bk v ∧ bk v ≤ 1000 := by
  unfold bk
  split
  · omega
  · split <;> omega
theorem c_back {mc ms : Nat} {M : zM} (hW : zFix M) {v : Int} (hv : -1000 ≤ v ∧ v ≤ 1000) {Q : zQt} (hq : Q (some (.int (iI (bk v)))) M) : wX13_back mc ms [.int (iI v)] M Q := by
  refine ⟨⟨Nat.le_of_ble_eq_true rfl, rfl⟩, fun X l0 l31 => ?_⟩
  have f31 : ∀ x, x = iI (bk v) → X 31 0 0 [] [.int x] M := fun x hx => l31 _ _ _ _ _ ⟨rfl, vX13_back_31 hW (by rw [hx]; exact hq)⟩
  refine l0 _ _ _ _ _ ⟨rfl, vX13_back_0 hW ?_⟩
  rw [iI_neg]
  have e1 : (-900 : Int32) ≤ iI (-v) ↔ -900 ≤ -v := iI_le (a := -900) (b := -v) (by omega) (by omega) (by omega) (by omega)
  have e2 : iI (-v) ≤ (900 : Int32) ↔ -v ≤ 900 := iI_le (a := -v) (b := 900) (by omega) (by omega) (by omega) (by omega)
  refine ⟨fun a => ⟨fun b => f31 _ ?_, fun b => f31 _ ?_⟩, fun a => f31 _ ?_⟩
  · have := e1.mp a
    have := e2.mp b
    unfold bk
    rw [if_neg (by omega), if_neg (by omega)]
  · have := e1.mp a
    have h2 : ¬ -v ≤ 900 := fun q => b (e2.mpr q)
    unfold bk
    rw [if_neg (by omega), if_pos (by omega), show (1 : Int32) = iI 1 from rfl, iI_sub]
  · have h1 : ¬ -900 ≤ -v := fun q => a (e1.mpr q)
    unfold bk
    rw [if_pos (by omega), show (1 : Int32) = iI 1 from rfl, iI_sub]
noncomputable def stl (P : Ps) : Int := @ite _ (hasM P) (Classical.propDecidable _) (mtl P) (if chB P = true then -1000 else 0)
theorem stl_bd (P : Ps) : -1000 ≤ stl P ∧ stl P ≤ 1000 := by
  have := mtl_bd P
  unfold stl
  split
  · omega
  · split <;> omega
set_option maxHeartbeats 4000000 in
theorem c_still {mc ms : Nat} {M : zM} (hW : zFix M) {y : Nat} (hy : y ≤ 4) {P : Ps} (hP : rPs M (69 * y) P) (hcl : P.2.2.2.2.1 + 1 < 2 ^ 30) (hnm : P.2.2.2.2.2 + 1 < 2 ^ 30) {Q : zQt} (hq : ∀ N, scr M N (69 * y + 69) → Q (some (.int (iI (stl P)))) N) : wX13_still mc ms [.ref 55, .int (nI y)] M Q := by
  refine ⟨⟨Nat.le_of_ble_eq_true rfl, rfl⟩, fun X l0 l48 => ?_⟩
  have f48 : ∀ N v, scr M N (69 * y + 69) → v = iI (stl P) → X 48 0 0 [] [.int v] N := fun N v h hv => l48 _ _ _ _ _ ⟨rfl, vX13_still_48 (h.1.fix hW) (by rw [hv]; exact hq N h)⟩
  have hPN : ∀ N, scr M N (69 * y + 69) → rPs N (69 * y) P := fun N h => rPs_same (fun i _ _ => h.2 i (by omega)) hP
  refine l0 _ _ _ _ _ ⟨rfl, vX13_still_0 hW (c_hasMove hW hy hP hcl hnm (fun N hN h => ?_) (fun N hN h => ?_))⟩
  · have hWN := hN.1.fix hW
    refine vkX13_still_5 hWN ⟨fun d => absurd d (by decide), fun _ => c_material hWN (by omega) (hPN N hN) (vkX13_still_15 hWN (f48 N _ hN ?_))⟩
    unfold stl
    rw [if_pos h]
  · have hWN := hN.1.fix hW
    have hP2 := hPN N hN
    refine vkX13_still_5 hWN ⟨fun _ => ?_, fun d => absurd rfl d⟩
    rw [show (69 : Int32) * nI y = nI (69 * y) from pk_mul 69 _, show nI (69 * y) + (64 : Int32) = nI (69 * y + 64) from nI_add _ 64, nI_clamp (by omega), hP2.2.1.1]
    refine ⟨vp_in_nI (by omega) (by omega), c_isChecked hWN (p := 69 * y) hP2.1 (by omega) hP2.2.1.2 (fun c => vkX13_still_38 hWN ⟨fun d => absurd d (by decide), fun _ => f48 N _ hN ?_⟩) (fun c => vkX13_still_38 hWN ⟨fun _ => f48 N _ hN ?_, fun d => absurd rfl d⟩)⟩
    · unfold stl
      rw [if_neg h, if_pos (chB_t.mpr c)]
      rfl
    · unfold stl
      rw [if_neg h, if_neg (fun q => c (chB_t.mp q))]
      rfl
