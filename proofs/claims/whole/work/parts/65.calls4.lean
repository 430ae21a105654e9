/-! THE REFERENCE'S status -/
def mxN (f : Nat → Nat) : Nat → Nat
  | 0 => 0
  | n + 1 => if f n ≤ mxN f n then mxN f n else f n
noncomputable def ctS (G : Gm) (w : Nat) : Nat := if w = 0 then cn (fun i => if cnt G.2.1 i = 1 then 1 else 0) G.1 else mxN (cnt G.2.1) G.1
theorem mxN_le {f : Nat → Nat} {b : Nat} (h : ∀ i, i < b → f i ≤ b) : ∀ n, n ≤ b → mxN f n ≤ b
  | 0, _ => Nat.zero_le _
  | n + 1, hn => by
    unfold mxN
    have := mxN_le h n (by omega)
    have := h n (by omega)
    split <;> omega
set_option maxHeartbeats 4000000 in
theorem c_counted {mc ms : Nat} {M : zM} {A : Ah} (hR : rRef M A) (hO : aOk A) (ht : aTh A = true) {w : Nat} (hw : w ≤ 1) {Q : zQt} (hq : Q (some (.int (nI (ctS (aG A) w)))) M) : wX13_counted mc ms [.ref 55, .int (nI w)] M Q := by
  have hW := hR.1
  refine ⟨⟨Nat.le_of_ble_eq_true rfl, rfl⟩, fun X l0 l7 l47 l61 l77 => ?_⟩
  obtain ⟨g, hg1, hg, hG, hok⟩ := hR.game hO ht
  have p1 := hok.1
  have p2 := hok.2.1
  obtain ⟨n, en⟩ : ∃ n, n = (aG A).1 := ⟨_, rfl⟩
  have hb : ∀ i, i < 601 → cnt (aG A).2.1 i ≤ 601 := fun i hi => by have := cnt_le (aG A).2.1 i; omega
  have loop : ∀ (r k : Nat), k + r = (aG A).1 → X 7 0 0 [.ref 55, .int (nI w), .int (nI (cn (fun i => if cnt (aG A).2.1 i = 1 then 1 else 0) k)), .int (nI (mxN (cnt (aG A).2.1) k)), .int (nI k)] [] M := by
    intro r
    induction r with
    | zero =>
      intro k hk
      have hk : k = (aG A).1 := by omega
      refine l7 _ _ _ _ _ ⟨rfl, vX13_counted_7 hW ?_⟩
      rw [hg, nI_clamp (by omega), hG.1]
      have e0 := nI_eq (a := w) (b := 0) (by omega) (by decide)
      refine ⟨vp_in_nI (by omega) (by omega), fun _ => ⟨fun y => l77 _ _ _ _ _ ⟨rfl, vX13_counted_77 hW ?_⟩, fun y => l77 _ _ _ _ _ ⟨rfl, vX13_counted_77 hW ?_⟩⟩, fun d => absurd ((nI_leI (a := (aG A).1) (b := k) (by omega) (by omega)).mpr (by omega)) d⟩
      · unfold ctS at hq
        rw [if_pos (e0.mp y), ← hk] at hq
        exact hq
      · unfold ctS at hq
        rw [if_neg (fun q => y (e0.mpr q)), ← hk] at hq
        exact hq
    | succ r ih =>
      intro k hk
      refine l7 _ _ _ _ _ ⟨rfl, vX13_counted_7 hW ?_⟩
      rw [hg, nI_clamp (by omega), hG.1]
      refine ⟨vp_in_nI (by omega) (by omega), fun d => absurd ((nI_leI (a := (aG A).1) (b := k) (by omega) (by omega)).mp d) (by omega), fun _ => c_base hW hg (vkX13_counted_29 hW ?_)⟩
      rw [nI_add, nI_clamp (by omega)]
      refine ⟨vp_in_nI (by omega) (by omega), fun y ey => ?_⟩
      rw [(hG.2 k (by omega)).1.2.2.2.2.2.1] at ey
      subst ey
      have hc := hb k (by omega)
      have hmx := mxN_le hb k (by omega)
      have e1 := nI_eq (a := cnt (aG A).2.1 k) (b := 1) (by omega) (by decide)
      have em := nI_leI (a := cnt (aG A).2.1 k) (b := mxN (cnt (aG A).2.1) k) (by omega) (by omega)
      have f61 : ∀ v u, v = mxN (cnt (aG A).2.1) (k + 1) → u = cn (fun i => if cnt (aG A).2.1 i = 1 then 1 else 0) (k + 1) → X 61 0 0 [.ref 55, .int (nI w), .int (nI u), .int (nI k)] [.int (nI v)] M := by
        intro v u hv hu
        refine l61 _ _ _ _ _ ⟨rfl, vX13_counted_61 hW ?_⟩
        rw [nI_1, hv, hu]
        exact ih (k + 1) (by omega)
      have f47 : ∀ v, v = (if cnt (aG A).2.1 k = 1 then 1 else 0) → X 47 0 0 [.ref 55, .int (nI w), .int (nI (mxN (cnt (aG A).2.1) k)), .int (nI k), .int (nI (cnt (aG A).2.1 k))] [.int (nI v), .int (nI (cn (fun i => if cnt (aG A).2.1 i = 1 then 1 else 0) k))] M := by
        intro v hv
        refine l47 _ _ _ _ _ ⟨rfl, vX13_counted_47 hW ?_⟩
        rw [nI_add]
        refine ⟨fun y => f61 _ _ ?_ ?_, fun y => f61 _ _ ?_ ?_⟩
        · show _ = (if cnt (aG A).2.1 k ≤ mxN (cnt (aG A).2.1) k then mxN (cnt (aG A).2.1) k else cnt (aG A).2.1 k)
          rw [if_pos (em.mp y)]
        · rw [hv]; rfl
        · show _ = (if cnt (aG A).2.1 k ≤ mxN (cnt (aG A).2.1) k then mxN (cnt (aG A).2.1) k else cnt (aG A).2.1 k)
          rw [if_neg (fun q => y (em.mpr q))]
        · rw [hv]; rfl
      exact ⟨fun y => f47 1 (by rw [if_pos (e1.mp y)]), fun y => f47 0 (by rw [if_neg (fun q => y (e1.mpr q))])⟩
  exact l0 _ _ _ _ _ ⟨rfl, vX13_counted_0 hW (loop (aG A).1 0 (by omega))⟩
noncomputable def stA (A : Ah) (z : Int) : Int32 := if z < 0 ∨ 13 < z then -1 else if z = 0 then nI (aN A) else if z = 1 then nI (aFa A) else if z = 2 then iI (aFm A) else if z = 13 then nI (aTk A) else
  if z = 3 ∨ 9 < z then (if aTh A = false then 0 else if z = 3 then nI (aG A).1 else if z = 10 then nI (mnS (lst (aG A)).1) else nI (ctS (aG A) (z - 11).toNat)) else
  if aTh A = false then -1 else if z = 4 then nI (vdG (aG A)) else psI (lst (aG A)) (64 + (z - 5).toNat)
set_option maxHeartbeats 4000000 in
theorem r_status {mc ms : Nat} {M : zM} {A : Ah} (hR : rRef M A) (hO : aOk A) {z : Int} (hz : i32 z) {Q : zQt} (hq : ∀ N, rKp M N → N.1 55 0 = 0 → Q (some (.int (stA A z))) N) : wX13_status mc ms [.ref 55, .int (iI z)] M Q := by
  have hW := hR.1
  refine ⟨⟨Nat.le_of_ble_eq_true rfl, rfl⟩, fun X l0 l15 l49 l67 l116 l117 l182 => ?_⟩
  refine l0 _ _ _ _ _ ⟨rfl, vX13_status_0 hW (fun N e => ?_)⟩
  have n0 : N.1 55 0 = 0 := by rw [e, zsI_s]
  have k : rKp M N := by rw [e]; exact rKp.slot (by omega)
  have hRN := k.ref hR
  have hWN := hRN.1
  have hq := hq N k n0
  have f15 : (z < 0 ∨ 13 < z) → X 15 0 0 [] [] N := fun h => l15 _ _ _ _ _ ⟨rfl, vX13_status_15 hWN (by unfold stA at hq; rw [if_pos h] at hq; exact hq)⟩
  have f49 : ∀ v, v = stA A z → X 49 0 0 [] [.int v] N := fun v hv => l49 _ _ _ _ _ ⟨rfl, vX13_status_49 hWN (by rw [hv]; exact hq)⟩
  have f116 : ∀ v, v = stA A z → X 116 0 0 [] [.int v] N := fun v hv => l116 _ _ _ _ _ ⟨rfl, vX13_status_116 hWN (by rw [hv]; exact hq)⟩
  have f182 : ∀ v, v = stA A z → X 182 0 0 [] [.int v] N := fun v hv => l182 _ _ _ _ _ ⟨rfl, vX13_status_182 hWN (by rw [hv]; exact hq)⟩
  obtain ⟨_, r2, rT, r7, r3, r4, r5, _⟩ := id hRN
  have q0 : iI z < 0 ↔ z < 0 := iz_lt hz (n := 0) (by omega)
  have qe0 : iI z = 0 ↔ z = 0 := iz_eq hz (n := 0) (by omega)
  have q1 : iI z = 1 ↔ z = 1 := iz_eq hz (n := 1) (by omega)
  have q3 : 3 ≤ iI z ↔ 3 ≤ z := iz_ge hz (n := 3) (by omega)
  have qe3 : iI z = 3 ↔ z = 3 := iz_eq hz (n := 3) (by omega)
  have qe4 : iI z = 4 ↔ z = 4 := iz_eq hz (n := 4) (by omega)
  have q9 : iI z ≤ 9 ↔ z ≤ 9 := iz_le hz (n := 9) (by omega)
  have qe10 : iI z = 10 ↔ z = 10 := iz_eq hz (n := 10) (by omega)
  have q13 : iI z ≤ 13 ↔ z ≤ 13 := iz_le hz (n := 13) (by omega)
  have qg13 : 13 ≤ iI z ↔ 13 ≤ z := iz_ge hz (n := 13) (by omega)
  have qe13 : iI z = 13 ↔ z = 13 := iz_eq hz (n := 13) (by omega)
  have f67 : 0 ≤ z → z ≤ 13 → z ≠ 13 → (z = 3 ∨ 9 < z) → X 67 0 0 [.ref 55, .int (iI z)] [] N := by
    intro z0 z13 zn hx
    have hs : stA A z = if aTh A = false then 0 else if z = 3 then nI (aG A).1 else if z = 10 then nI (mnS (lst (aG A)).1) else nI (ctS (aG A) (z - 11).toNat) := by
      unfold stA
      rw [if_neg (by omega), if_neg (by omega), if_neg (by omega), if_neg (by omega), if_neg zn, if_pos hx]
    refine l67 _ _ _ _ _ ⟨rfl, vX13_status_67 hWN ?_⟩
    rw [r7]
    refine ⟨fun d => f116 0 (by rw [hs, if_pos (bI_0.mp d)]), fun d => ?_⟩
    have ht := bI_n.mp d
    obtain ⟨g, hg1, hg, hG, hok⟩ := hRN.game hO ht
    rw [if_neg (by rw [ht]; decide)] at hs
    refine ⟨fun y => ?_, fun y => ⟨fun u => c_men hRN hO ht (vkX13_status_105 hWN (f116 _ ?_)), fun u => ?_⟩⟩
    · rw [hg, nI_clamp (by omega), hG.1]
      refine ⟨vp_in_nI (by omega) (by omega), f116 _ ?_⟩
      rw [hs, if_pos (qe3.mp y)]
    · rw [hs, if_neg (fun q => y (qe3.mpr q)), if_pos (qe10.mp u)]
    · have y3 : ¬ z = 3 := fun q => y (qe3.mpr q)
      have y10 : ¬ z = 10 := fun q => u (qe10.mpr q)
      have es : iI z - (11 : Int32) = nI (z - 11).toNat := by
        rw [show (11 : Int32) = iI 11 from rfl, iI_sub, iz_nat (by omega)]
      rw [es]
      refine c_counted hRN hO ht (by omega) (vkX13_status_116 hWN (f116 _ ?_))
      rw [hs, if_neg y3, if_neg y10]
  have f117 : 0 ≤ z → z ≤ 13 → ¬ z < 3 → ¬ z = 3 → (z ≤ 9 ∨ z = 13) → X 117 0 0 [.ref 55, .int (iI z)] [] N := by
    intro z0 z13 z3 zn3 hx
    refine l117 _ _ _ _ _ ⟨rfl, vX13_status_117 hWN ⟨fun y => ?_, fun y => ?_⟩⟩
    · rw [r5]
      unfold stA at hq
      rw [if_neg (by omega), if_neg (by omega), if_neg (by omega), if_neg (by omega), if_pos (qe13.mp y)] at hq
      exact hq
    · have y13 : ¬ z = 13 := fun q => y (qe13.mpr q)
      have hs : stA A z = if aTh A = false then -1 else if z = 4 then nI (vdG (aG A)) else psI (lst (aG A)) (64 + (z - 5).toNat) := by
        unfold stA
        rw [if_neg (by omega), if_neg (by omega), if_neg (by omega), if_neg (by omega), if_neg y13, if_neg (by omega)]
      rw [r7]
      refine ⟨fun d => ?_, fun d => ?_⟩
      · rw [hs, if_pos (bI_0.mp d)] at hq
        exact hq
      · have ht := bI_n.mp d
        obtain ⟨g, hg1, hg, hG, hok⟩ := hRN.game hO ht
        have p1 := hok.1
        have p2 := hok.2.1
        rw [if_neg (by rw [ht]; decide)] at hs
        obtain ⟨w1, _, _, _, _, _, w7⟩ := (hG.2 ((aG A).1 - 1) (by omega)).1
        refine c_base hWN hg (vkX13_status_143 hWN ?_)
        rw [hg, nI_clamp (by omega), hG.1, last_at hg1 p1 p2]
        refine ⟨vp_in_nI (by omega) (by omega), fun y ey => ⟨fun c => ?_, fun c => ?_⟩⟩
        · refine c_verdict hWN hg hg1 (n := (aG A).1 - 1) (by rw [show (aG A).1 - 1 + 1 = (aG A).1 by omega]; exact hG.1) (by omega) w7 (vkX13_status_166 hWN (f182 _ ?_))
          rw [hs, if_pos (qe4.mp c)]
          rfl
        · have c4 : ¬ z = 4 := fun q => c (qe4.mpr q)
          have ea : y + (64 : Int32) + iI z - (5 : Int32) = nI (69 * (601 * g + ((aG A).1 - 1)) + (64 + (z - 5).toNat)) := by
            rw [ey, show (69 : Int32) * nI (601 * g + ((aG A).1 - 1)) = nI (69 * (601 * g + ((aG A).1 - 1))) from pk_mul 69 _, show nI (69 * (601 * g + ((aG A).1 - 1))) + (64 : Int32) = nI (69 * (601 * g + ((aG A).1 - 1)) + 64) from nI_add _ 64, iI_nat, iI_add, show (5 : Int32) = iI 5 from rfl, iI_sub, iI_nat]
            congr 1
            omega
          rw [ea, nI_clamp (by omega), w1 (64 + (z - 5).toNat) (by omega)]
          refine ⟨vp_in_nI (by omega) (by omega), f182 _ ?_⟩
          rw [hs, if_neg c4]
          rfl
  refine ⟨fun d => f15 (Or.inl (q0.mp d)), fun d => ⟨fun d2 => ?_, fun d2 => f15 (Or.inr ?_)⟩⟩
  rotate_left
  · have : ¬ z ≤ 13 := fun q => d2 (q13.mpr q)
    omega
  have z0 : ¬ z < 0 := fun q => d (q0.mpr q)
  have z13 := q13.mp d2
  refine ⟨fun c => ?_, fun c => ?_⟩
  · have c3 := q3.mp c
    refine ⟨fun y => f67 (by omega) z13 (by have := qe3.mp y; omega) (Or.inl (qe3.mp y)), fun y => ?_⟩
    have y3 : ¬ z = 3 := fun q => y (qe3.mpr q)
    refine ⟨fun u => f117 (by omega) z13 (by omega) y3 (Or.inl (q9.mp u)), fun u => ⟨fun v => f117 (by omega) z13 (by omega) y3 (Or.inr (by have := qg13.mp v; omega)), fun v => f67 (by omega) z13 ?_ (Or.inr ?_)⟩⟩
    · intro q
      exact v (qg13.mpr (by omega))
    · have : ¬ z ≤ 9 := fun q => u (q9.mpr q)
      omega
  · have c3 : ¬ (3 : Int) ≤ z := fun q => c (q3.mpr q)
    rw [r2, r3, r4]
    refine ⟨fun y => f49 _ ?_, fun y => ⟨fun u => f49 _ ?_, fun u => f49 _ ?_⟩⟩
    · unfold stA
      rw [if_neg (by omega), if_pos (qe0.mp y)]
    · have u1 := q1.mp u
      unfold stA
      rw [if_neg (by omega), if_neg (by omega), if_pos (by omega)]
    · have y0 : ¬ z = 0 := fun q => y (qe0.mpr q)
      have u1 : ¬ z = 1 := fun q => u (q1.mpr q)
      unfold stA
      rw [if_neg (by omega), if_neg (by omega), if_neg (by omega), if_pos (by omega)]
