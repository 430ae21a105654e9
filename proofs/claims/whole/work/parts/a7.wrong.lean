/-! THE CLASS'S READER: what keeps a position from being right -/
theorem set_hm {M : zM} {g : Nat} {B : Nat → Nat} (hB : bSt M g B) {m : Nat} (h1 : 1 ≤ m) (h2 : m ≤ 12) : pcN 64 (nn (M.2.1 (g + 3) m)) = hm B m := by
  rw [pc_sqs]
  refine sqs_cn (fun s hs => ?_)
  have := hB.2.1 m s h1 h2 hs
  by_cases q : B s = m
  · rw [if_pos q, if_pos (this.mpr q)]
  · rw [if_neg q, if_neg (fun z => q (this.mp z))]
set_option maxHeartbeats 4000000 in
theorem c_tooMany {mc ms : Nat} {M : zM} {g : Nat} (hW : zWd M g) {B : Nat → Nat} (hB : bSt M g B) {c : Nat} (hc : c ≤ 1) {Q : zQt} (q1 : ¬ wgt B c ≤ 8 → Q (some (.int 1)) M) (q0 : wgt B c ≤ 8 → Q (some (.int 0)) M) : wX6_tooMany mc ms [.ref 27, .ref (g + 1), .int (nI (6 * c))] M Q := by
  refine ⟨⟨Nat.le_of_ble_eq_true rfl, rfl⟩, fun X l0 l37 l83 => ?_⟩
  have h1 := hm_le B (6 * c + 1)
  have h2 := hm_le B (6 * c + 2)
  have h3 := hm_le B (6 * c + 3)
  have h4 := hm_le B (6 * c + 4)
  have h5 := hm_le B (6 * c + 5)
  have hw : wgt B c = hm B (6 * c + 1) + ((hm B (6 * c + 2) - 2) + (hm B (6 * c + 3) - 2) + (hm B (6 * c + 4) - 2) + (hm B (6 * c + 5) - 1)) := rfl
  have bc : ∀ m, 1 ≤ m → m ≤ 6 → (M.2.1 (g + 3) (6 * c + m)) = (M.2.1 (g + 3) (6 * c + m)) := fun _ _ _ => rfl
  have fin : ∀ a, a = (hm B (6 * c + 5) - 1) + (hm B (6 * c + 2) - 2) + (hm B (6 * c + 3) - 2) + (hm B (6 * c + 4) - 2) → X 37 0 0 [.ref (g + 1), .int (nI (6 * c)), .int (iI (8 - (hm B (6 * c + 1) : Nat))), .int (nI a), .int (nI 5)] [] M := by
    intro a ha
    refine l37 _ _ _ _ _ ⟨rfl, vX6_tooMany_37 hW ⟨fun _ => ?_, fun w => absurd (by decide) w⟩⟩
    rw [iI_nat a]
    have el := iI_le (a := (a : Int)) (b := 8 - (hm B (6 * c + 1) : Nat)) (by omega) (by omega) (by omega) (by omega)
    refine ⟨fun w => l83 _ _ _ _ _ ⟨rfl, vX6_tooMany_83 hW ⟨rfl, q0 ?_⟩⟩, fun w => l83 _ _ _ _ _ ⟨rfl, vX6_tooMany_83 hW ⟨rfl, q1 ?_⟩⟩⟩
    · have := el.mp w; omega
    · have : ¬ (a : Int) ≤ 8 - (hm B (6 * c + 1) : Nat) := fun z => w (el.mpr z)
      omega
  have step : ∀ k a, 2 ≤ k → k ≤ 4 → a ≤ 300 → X 37 0 0 [.ref (g + 1), .int (nI (6 * c)), .int (iI (8 - (hm B (6 * c + 1) : Nat))), .int (nI (a + (hm B (6 * c + k) - 2))), .int (nI (k + 1))] [] M → X 37 0 0 [.ref (g + 1), .int (nI (6 * c)), .int (iI (8 - (hm B (6 * c + 1) : Nat))), .int (nI a), .int (nI k)] [] M := by
    intro k a k2 k4 ha h
    have hk := hm_le B (6 * c + k)
    refine l37 _ _ _ _ _ ⟨rfl, vX6_tooMany_37 hW ⟨fun w => absurd ((nI_ltI (a := 4) (b := k) (by decide) (by omega)).mp w) (by omega), fun _ => ?_⟩⟩
    rw [nI_add, nI_clamp (by omega)]
    refine ⟨vp_in_nI (by omega) (by omega), c_bitCount _ (vkX6_tooMany_58 hW ?_)⟩
    rw [set_hm hB (by omega) (by omega)]
    intro y ey
    have := nI_max (a := hm B (6 * c + k)) (b := 2) (by omega) (by omega)
    rw [show nI (hm B (6 * c + k)) - (2 : Int32) = nI (hm B (6 * c + k)) - nI 2 from rfl, this, nI_add] at ey
    rw [ey, nI_1]
    exact h
  refine l0 _ _ _ _ _ ⟨rfl, vX6_tooMany_0 hW ?_⟩
  rw [show nI (6 * c) + (1 : Int32) = nI (6 * c + 1) from nI_1 _, nI_clamp (by omega)]
  refine ⟨vp_in_nI (by omega) (by omega), c_bitCount _ (vkX6_tooMany_13 hW ?_)⟩
  rw [set_hm hB (by omega) (by omega), show nI (6 * c) + (5 : Int32) = nI (6 * c + 5) from nI_add _ 5, nI_clamp (by omega)]
  refine ⟨vp_in_nI (by omega) (by omega), c_bitCount _ (vkX6_tooMany_27 hW ?_)⟩
  rw [set_hm hB (by omega) (by omega)]
  intro y ey
  have := nI_max (a := hm B (6 * c + 5)) (b := 1) (by omega) (by omega)
  rw [show nI (hm B (6 * c + 5)) - (1 : Int32) = nI (hm B (6 * c + 5)) - nI 1 from rfl, this] at ey
  rw [ey, show (8 : Int32) - nI (hm B (6 * c + 1)) = iI (8 - (hm B (6 * c + 1) : Nat)) from by rw [iI_nat, show (8 : Int32) = iI 8 from rfl, iI_sub]]
  exact step 2 _ (by omega) (by omega) (by omega) (step 3 _ (by omega) (by omega) (by omega) (step 4 _ (by omega) (by omega) (by omega) (fin _ rfl)))
set_option maxHeartbeats 4000000 in
theorem c_rightsStand {mc ms : Nat} {M : zM} {g : Nat} (hW : zWd M g) {P : Ps} (hO : psOk P) (hP : bPs M g P) {Q : zQt} (q1 : rgtOk P → Q (some (.int 1)) M) (q0 : ¬ rgtOk P → Q (some (.int 0)) M) : wX6_rightsStand mc ms [.ref 27, .ref (g + 1)] M Q := by
  refine ⟨⟨Nat.le_of_ble_eq_true rfl, rfl⟩, fun X l0 l2 l25 l44 l77 l78 l98 => ?_⟩
  have hr := hO.2.2.1
  have loop : ∀ (n k : Nat), k + n = 4 → (∀ j, j < k → rhm P j ∨ P.2.2.1 / 2 ^ j % 2 = 0) → X 2 0 0 [.ref (g + 1), .int (nI k)] [] M := by
    intro n
    induction n with
    | zero =>
      intro k hk hj
      obtain rfl : k = 4 := by omega
      exact l2 _ _ _ _ _ ⟨rfl, vX6_rightsStand_2 hW ⟨fun _ => q1 hj, fun w => absurd (by decide) w⟩⟩
    | succ n ih =>
      intro k hk hj
      have hk4 : k < 4 := by omega
      have hs := shr16 P.2.2.1 hr k hk4
      have f98 : (rhm P k ∨ P.2.2.1 / 2 ^ k % 2 = 0) → X 98 0 0 [.ref (g + 1), .int (nI k)] [] M := by
        intro h
        refine l98 _ _ _ _ _ ⟨rfl, vX6_rightsStand_98 hW ?_⟩
        rw [nI_1]
        refine ih (k + 1) (by omega) (fun j hj2 => ?_)
        by_cases q : j = k
        · rw [q]; exact h
        · exact hj j (by omega)
      have f78 : ∀ b : Bool, (b = true ↔ rhm P k) → X 78 0 0 [.ref (g + 1), .int (nI k)] [.int (bI b)] M := by
        intro b hb
        refine l78 _ _ _ _ _ ⟨rfl, vX6_rightsStand_78 hW ?_⟩
        rw [hP.2.2.1]
        refine ⟨fun w => f98 (Or.inr (hs.mp w)), fun w => ⟨fun w2 => q0 (fun z => ?_), fun w2 => f98 (Or.inl (hb.mp (bI_n.mp w2)))⟩⟩
        rcases z k hk4 with y | y
        · rw [hb.mpr y] at w2; exact absurd w2 (by decide)
        · exact w (hs.mpr y)
      have f77 : ¬ rhm P k → X 77 0 0 [.ref (g + 1), .int (nI k)] [] M := fun h => l77 _ _ _ _ _ ⟨rfl, vX6_rightsStand_77 hW (f78 false ⟨fun z => absurd z (by decide), fun z => absurd z h⟩)⟩
      obtain ⟨hm, ehm⟩ : ∃ hm, hm = 56 * (k / 2) + 4 := ⟨_, rfl⟩
      obtain ⟨cr, ecr⟩ : ∃ cr, cr = 56 * (k / 2) + (if k % 2 = 0 then 7 else 0) := ⟨_, rfl⟩
      have hrh : rhm P k ↔ P.1 hm = 6 + 6 * (k / 2) ∧ P.1 cr = 4 + 6 * (k / 2) := by rw [ehm, ecr]; rfl
      have hcr : cr < 64 := by rw [ecr]; split <;> omega
      have bh := hP.1.1 hm (by omega)
      have bcr := hP.1.1 cr hcr
      have f44 : X 44 0 0 [.ref (g + 1), .int (nI k), .int (nI (6 * (k / 2))), .int (nI hm)] [.int (nI cr)] M := by
        refine l44 _ _ _ _ _ ⟨rfl, vX6_rightsStand_44 hW ?_⟩
        rw [nI_clamp (by omega), nI_clamp (by omega), bh.1, bcr.1, show (6 : Int32) + nI (6 * (k / 2)) = nI (6 + 6 * (k / 2)) from nI_add 6 _, show (4 : Int32) + nI (6 * (k / 2)) = nI (4 + 6 * (k / 2)) from nI_add 4 _]
        have e1 := nI_eq (a := P.1 hm) (b := 6 + 6 * (k / 2)) (by omega) (by omega)
        have e2 := nI_eq (a := P.1 cr) (b := 4 + 6 * (k / 2)) (by omega) (by omega)
        exact ⟨vp_in_nI (by omega) (by omega), fun w => ⟨vp_in_nI (by omega) (by omega), fun w2 => f78 true ⟨fun _ => hrh.mpr ⟨e1.mp w, e2.mp w2⟩, fun _ => rfl⟩, fun w2 => f77 (fun z => w2 (e2.mpr (hrh.mp z).2))⟩, fun w => f77 (fun z => w (e1.mpr (hrh.mp z).1))⟩
      have f25 : X 25 0 0 [.ref (g + 1), .int (nI k), .int (nI (6 * (k / 2)))] [.int (nI hm)] M := by
        refine l25 _ _ _ _ _ ⟨rfl, vX6_rightsStand_25 hW ?_⟩
        rw [show nI k - nI k / (2 : Int32) * (2 : Int32) = nI (k % 2) from pk_rem (d := 2) (by omega) (by decide) (by decide), show nI hm + (3 : Int32) = nI (hm + 3) from nI_add _ 3, show nI hm - (4 : Int32) = nI (hm - 4) from pk_sub (b := 4) (by omega)]
        have e0 := nI_eq (a := k % 2) (b := 0) (by omega) (by decide)
        refine ⟨fun w => ?_, fun w => ?_⟩
        · rw [show hm + 3 = cr by rw [ecr, if_pos (e0.mp w)]; omega]; exact f44
        · rw [show hm - 4 = cr by rw [ecr, if_neg (fun z => w (e0.mpr z))]; omega]; exact f44
      refine l2 _ _ _ _ _ ⟨rfl, vX6_rightsStand_2 hW ?_⟩
      rw [show nI k / (2 : Int32) = nI (k / 2) from pk_div (by omega) (by decide) (by decide), show nI (k / 2) * (6 : Int32) = nI (6 * (k / 2)) from by rw [Nat.mul_comm 6 _]; exact pk_mul _ 6]
      have e2 := nI_leI (a := 2) (b := k) (by decide) (by omega)
      refine ⟨fun w => absurd ((nI_leI (a := 4) (b := k) (by decide) (by omega)).mp w) (by omega), fun _ => fun y ey => ?_⟩
      rw [ey]
      refine ⟨fun w => ?_, fun w => ?_⟩
      · have : hm = 60 := by have := e2.mp w; omega
        rw [this] at f25; exact f25
      · have : hm = 4 := by have : ¬ 2 ≤ k := fun z => w (e2.mpr z); omega
        rw [this] at f25; exact f25
  exact l0 _ _ _ _ _ ⟨rfl, vX6_rightsStand_0 hW (loop 4 0 (by omega) (fun j hj => absurd hj (Nat.not_lt_zero _)))⟩
set_option maxHeartbeats 4000000 in
theorem c_passantStands {mc ms : Nat} {M : zM} {g : Nat} (hW : zWd M g) {P : Ps} (hO : psOk P) (hP : bPs M g P) (hf : P.2.2.2.1 < 8) {Q : zQt} (q1 : pstOk P → Q (some (.int 1)) M) (q0 : ¬ pstOk P → Q (some (.int 0)) M) : wX6_passantStands mc ms [.ref 27, .ref (g + 1)] M Q := by
  refine ⟨⟨Nat.le_of_ble_eq_true rfl, rfl⟩, fun X l0 l18 l30 l90 l91 => ?_⟩
  have hc := hO.2.1
  have hcl := hO.2.2.2.2.1
  have f90 : ¬ pstOk P → X 90 0 0 [] [] M := fun h => l90 _ _ _ _ _ ⟨rfl, vX6_passantStands_90 hW (l91 _ _ _ _ _ ⟨rfl, vX6_passantStands_91 hW ⟨rfl, q0 h⟩⟩)⟩
  have f91 : pstOk P → X 91 0 0 [] [.int 1] M := fun h => l91 _ _ _ _ _ ⟨rfl, vX6_passantStands_91 hW ⟨rfl, q1 h⟩⟩
  have h6 : M.1 (g + 1) 6 = nI P.2.2.2.1 := by rw [hP.2.2.2.1]; unfold pI; rw [if_pos hf]
  -- second square, what stands on it and behind it
  have f30 : ∀ (s2 s3 s4 pw : Nat) (st : Int32), s2 = (if P.2.1 = 0 then 48 else 8) + P.2.2.2.1 → s3 = (if P.2.1 = 0 then 40 else 16) + P.2.2.2.1 → s4 = (if P.2.1 = 0 then 32 else 24) + P.2.2.2.1 → pw = (if P.2.1 = 0 then 7 else 1) → nI s2 + st = nI s3 → nI s2 + (2 : Int32) * st = nI s4 → (1 : Int32) + (6 : Int32) * nI (1 - P.2.1) = nI pw → X 30 0 0 [.ref (g + 1), .int (nI (1 - P.2.1)), .int st] [.int (nI (if P.2.1 = 0 then 48 else 8))] M := by
    intro s2 s3 s4 pw st e2 e3 e4 epw a3 a4 a5
    have l2 : s2 < 64 := by rw [e2]; split <;> omega
    have l3 : s3 < 64 := by rw [e3]; split <;> omega
    have l4 : s4 < 64 := by rw [e4]; split <;> omega
    have lp : pw ≤ 7 := by rw [epw]; split <;> omega
    have b2 := hP.1.1 s2 l2
    have b3 := hP.1.1 s3 l3
    have b4 := hP.1.1 s4 l4
    have hps : pstOk P ↔ P.1 s4 = pw ∧ P.1 s3 = 0 ∧ P.1 s2 = 0 ∧ P.2.2.2.2.1 = 0 := by
      unfold pstOk
      rw [← e2, ← e3, ← e4, ← epw]
      exact ⟨fun z => z.elim (fun y => by omega) id, Or.inr⟩
    have z7 := nI_eq (a := P.2.2.2.2.1) (b := 0) (by omega) (by decide)
    have z2 := nI_eq (a := P.1 s2) (b := 0) (by omega) (by decide)
    have z3 := nI_eq (a := P.1 s3) (b := 0) (by omega) (by decide)
    have z4 := nI_eq (a := P.1 s4) (b := pw) (by omega) (by omega)
    refine l30 _ _ _ _ _ ⟨rfl, vX6_passantStands_30 hW ?_⟩
    rw [h6, hP.2.2.2.2.1, nI_add, ← e2, a3, a4, a5, nI_clamp (by omega), nI_clamp (by omega), nI_clamp (by omega), b2.1, b3.1, b4.1]
    refine ⟨fun w => ⟨vp_in_nI (by omega) (by omega), fun w2 => ⟨vp_in_nI (by omega) (by omega), fun w3 => ⟨vp_in_nI (by omega) (by omega), fun w4 => f91 (hps.mpr ⟨z4.mp w4, z3.mp w3, z2.mp w2, z7.mp w⟩), fun w4 => f90 (fun z => w4 (z4.mpr (hps.mp z).1))⟩, fun w3 => f90 (fun z => w3 (z3.mpr (hps.mp z).2.1))⟩, fun w2 => f90 (fun z => w2 (z2.mpr (hps.mp z).2.2.1))⟩, fun w => f90 (fun z => w (z7.mpr (hps.mp z).2.2.2))⟩
  refine l0 _ _ _ _ _ ⟨rfl, vX6_passantStands_0 hW ?_⟩
  rw [hP.2.1, show (1 : Int32) - nI P.2.1 = nI (1 - P.2.1) from pk_sub (a := 1) hc]
  intro y ey
  rw [ey]
  rcases (show P.2.1 = 0 ∨ P.2.1 = 1 by omega) with q | q
  · have := f30 (48 + P.2.2.2.1) (40 + P.2.2.2.1) (32 + P.2.2.2.1) 7 (-8) (by rw [if_pos q]) (by rw [if_pos q]) (by rw [if_pos q]) (by rw [if_pos q]) (by rw [iI_nat, iI_nat, show (-8 : Int32) = iI (-8) from by decide, iI_add]; congr 1; omega) (by rw [iI_nat, iI_nat, show (2 : Int32) * (-8 : Int32) = iI (-16) from by decide, iI_add]; congr 1; omega) (by rw [q]; decide)
    rw [q] at this ⊢
    rw [if_pos rfl] at this
    exact ⟨fun w => absurd w (by decide), fun _ => l18 _ _ _ _ _ ⟨rfl, vX6_passantStands_18 hW ⟨fun w => absurd w (by decide), fun _ => this⟩⟩⟩
  · have := f30 (8 + P.2.2.2.1) (16 + P.2.2.2.1) (24 + P.2.2.2.1) 1 8 (by rw [if_neg (by omega)]) (by rw [if_neg (by omega)]) (by rw [if_neg (by omega)]) (by rw [if_neg (by omega)]) (by rw [show (8 : Int32) = nI 8 from rfl, nI_add]; congr 1; omega) (by rw [show (2 : Int32) * (8 : Int32) = nI 16 from by decide, nI_add]; congr 1; omega) (by rw [q]; decide)
    rw [q] at this ⊢
    rw [if_neg (by omega)] at this
    exact ⟨fun _ => l18 _ _ _ _ _ ⟨rfl, vX6_passantStands_18 hW ⟨fun _ => this, fun w => absurd rfl w⟩⟩, fun w => absurd rfl w⟩
theorem last_bit : ∀ s, s < 64 → bt (-72057594037927681 : Int64) s = decide (s < 8 ∨ 55 < s) := by decide +kernel
set_option maxHeartbeats 4000000 in
theorem c_wrong {mc ms : Nat} {M : zM} {g : Nat} (hW : zWd M g) (hC : cOk M) {P : Ps} (hO : psOk P) (hP : bPs M g P) {Q : zQt} (hq : Q (some (.int (nI (rcF P)))) M) : wX6_wrong mc ms [.ref 27, .ref (g + 1)] M Q := by
  refine ⟨⟨Nat.le_of_ble_eq_true rfl, rfl⟩, fun X l0 l28 l75 l108 l144 => ?_⟩
  have hc := hO.2.1
  have hB := hP.1
  have bit := hB.2.1
  have k6 := hm_le P.1 6
  have k12 := hm_le P.1 12
  have e6 := nI_eq (a := hm P.1 6) (b := 1) (by omega) (by decide)
  have e12 := nI_eq (a := hm P.1 12) (b := 1) (by omega) (by decide)
  have f28 : (hm P.1 6 ≠ 1 ∨ hm P.1 12 ≠ 1) → X 28 0 0 [] [] M := fun h => by
    refine l28 _ _ _ _ _ ⟨rfl, vX6_wrong_28 hW ?_⟩
    unfold rcF at hq
    rw [if_pos h] at hq
    exact hq
  refine l0 _ _ _ _ _ ⟨rfl, vX6_wrong_0 hW (c_bitCount _ (vkX6_wrong_10 hW ?_))⟩
  rw [show (6 : Int32).toNatClampNeg = 6 from rfl, set_hm hB (by omega) (by omega)]
  refine ⟨fun w => c_bitCount _ (vkX6_wrong_24 hW ?_), fun w => f28 (Or.inl (fun z => w (e6.mpr z)))⟩
  rw [show (12 : Int32).toNatClampNeg = 12 from rfl, set_hm hB (by omega) (by omega)]
  refine ⟨fun w2 => fun y ey => ?_, fun w2 => f28 (Or.inr (fun z => w2 (e12.mpr z)))⟩
  have hk : ¬ (hm P.1 6 ≠ 1 ∨ hm P.1 12 ≠ 1) := fun z => z.elim (fun u => u (e6.mp w)) (fun u => u (e12.mp w2))
  have f75 : ¬ menOk P.1 → X 75 0 0 [] [] M := fun h => by
    refine l75 _ _ _ _ _ ⟨rfl, vX6_wrong_75 hW ?_⟩
    unfold rcF at hq
    rw [if_neg hk, if_neg h] at hq
    exact hq
  have hpw : y &&& (-72057594037927681 : Int64) = 0 ↔ ∀ f, f < 8 → kd (P.1 f) ≠ 1 ∧ kd (P.1 (56 + f)) ≠ 1 := by
    have key : ∀ s, s < 64 → (bt (y &&& (-72057594037927681 : Int64)) s = true ↔ kd (P.1 s) = 1 ∧ (s < 8 ∨ 55 < s)) := by
      intro s hs
      rw [bt_and, last_bit s hs, Bool.and_eq_true, decide_eq_true_eq, ey, bt_or, Bool.or_eq_true]
      have b1 := bit 1 s (by omega) (by omega) hs
      have b7 := bit 7 s (by omega) (by omega) hs
      rw [show (1 : Int32).toNatClampNeg = 1 from rfl, show (7 : Int32).toNatClampNeg = 7 from rfl, b1, b7, kd_1 (hO.1 s hs)]
    constructor
    · intro h f hf
      have n : ∀ s, s < 64 → ¬ (kd (P.1 s) = 1 ∧ (s < 8 ∨ 55 < s)) := fun s hs z => by
        have := (key s hs).mpr z
        rw [h, bt_0] at this
        exact absurd this (by decide)
      exact ⟨fun z => n f (by omega) ⟨z, by omega⟩, fun z => n (56 + f) (by omega) ⟨z, by omega⟩⟩
    · intro h
      by_cases q : y &&& (-72057594037927681 : Int64) = 0
      · exact q
      · obtain ⟨s, hs, hb⟩ := bt_ne.mp q
        obtain ⟨z1, z2⟩ := (key s hs).mp hb
        rcases z2 with z2 | z2
        · exact absurd z1 (h s z2).1
        · have := (h (s - 56) (by omega)).2
          rw [show 56 + (s - 56) = s by omega] at this
          exact absurd z1 this
  rw [lg0]
  refine ⟨fun w3 => ?_, fun w3 => f75 (fun z => w3 (hpw.mpr z.1))⟩
  have hp := hpw.mp w3
  have t0 := c_tooMany (mc := 0) (ms := 0) hW hB (c := 0) (by omega) (Q := fun r M1 => kX6_wrong_62 mc ms X Q 0 0 [some (.ref 27), some (.ref (g + 1)), some (.long y), none, none] (r.toList ++ []) M1)
  refine t0 (fun z => vkX6_wrong_62 hW ⟨fun u => absurd u (by decide), fun _ => f75 (fun u => z u.2.1)⟩) (fun z0 => vkX6_wrong_62 hW ⟨fun _ => ?_, fun u => absurd rfl u⟩)
  have t1 := c_tooMany (mc := 0) (ms := 0) hW hB (c := 1) (by omega) (Q := fun r M1 => kX6_wrong_72 mc ms X Q 0 0 [some (.ref 27), some (.ref (g + 1)), some (.long y), none, none] (r.toList ++ []) M1)
  refine t1 (fun z => vkX6_wrong_72 hW ⟨fun u => absurd u (by decide), fun _ => f75 (fun u => z u.2.2)⟩) (fun z1 => vkX6_wrong_72 hW ⟨fun _ => ?_, fun u => absurd rfl u⟩)
  have hmen : menOk P.1 := ⟨hp, z0, z1⟩
  have hq2 : Q (some (.int (nI (@ite _ (rgtOk P) (Classical.propDecidable _) (@ite _ (pstOk P) (Classical.propDecidable _) (if ckB P.1 (1 - P.2.1) = true then 11 else 0) 10) 9)))) M := by
    unfold rcF at hq
    rw [if_neg hk, if_pos hmen] at hq
    exact hq
  refine c_rightsStand hW hO hP (fun zr => vkX6_wrong_83 hW ⟨fun u => absurd u (by decide), fun _ => ?_⟩) (fun zr => vkX6_wrong_83 hW ⟨fun _ => ?_, fun u => absurd rfl u⟩)
  rotate_left
  · rw [if_neg zr] at hq2
    exact hq2
  rw [if_pos zr] at hq2
  have hkc : hm P.1 (6 + 6 * (1 - P.2.1)) = 1 := by
    rcases (show P.2.1 = 0 ∨ P.2.1 = 1 by omega) with q | q <;> rw [q]
    · exact e12.mp w2
    · exact e6.mp w
  have f108 : pstOk P → X 108 0 0 [.ref (g + 1)] [] M := by
    intro zp
    rw [if_pos zp] at hq2
    refine l108 _ _ _ _ _ ⟨rfl, vX6_wrong_108 hW ?_⟩
    rw [hP.2.1, show (1 : Int32) - nI P.2.1 = nI (1 - P.2.1) from pk_sub (a := 1) hc]
    intro y2 ey2
    rw [ey2]
    refine c_kingOf hW hB (by omega) hkc (vkX6_wrong_123 hW (c_occupied hW hB (fun o ho => vkX6_wrong_131 hW ?_)))
    rw [hP.2.1]
    have hck : chk P.1 (1 - P.2.1) ↔ atk P.1 (kq P.1 (1 - P.2.1) 64) P.2.1 := by
      unfold chk
      rw [show 1 - (1 - P.2.1) = P.2.1 by omega]
    have hko := atkO_atk (B := P.1) (o := o) ho (s := kq P.1 (1 - P.2.1) 64) (c := P.2.1) (kq_lt _ _ 64 (Nat.le_refl _))
    refine c_attacked hW hC hB (kq_lt _ _ 64 (Nat.le_refl _)) hc o 0 (fun z => vkX6_wrong_135 hW ⟨fun u => absurd u (by decide), fun _ => l144 _ _ _ _ _ ⟨rfl, vX6_wrong_144 hW ?_⟩⟩) (fun z => vkX6_wrong_135 hW ⟨fun _ => l144 _ _ _ _ _ ⟨rfl, vX6_wrong_144 hW ?_⟩, fun u => absurd rfl u⟩)
    · rw [if_pos (ckB_t.mpr (hck.mpr (hko.mp z)))] at hq2
      exact hq2
    · rw [if_neg (fun u => z (hko.mpr (hck.mp (ckB_t.mp u))))] at hq2
      exact hq2
  rw [hP.2.2.2.1]
  by_cases hf : P.2.2.2.1 < 8
  · have en : ¬ pI P.2.2.2.1 = (-1 : Int32) := by
      unfold pI
      rw [if_pos hf]
      have : ∀ f, f < 8 → ¬ nI f = (-1 : Int32) := by decide
      exact this _ hf
    refine ⟨fun u => absurd u en, fun _ => c_passantStands hW hO hP hf (fun zp => vkX6_wrong_102 hW ⟨fun u => absurd u (by decide), fun _ => f108 zp⟩) (fun zp => vkX6_wrong_102 hW ⟨fun _ => ?_, fun u => absurd rfl u⟩)⟩
    rw [if_neg zp] at hq2
    exact hq2
  · have e : pI P.2.2.2.1 = -1 := by unfold pI; rw [if_neg hf]
    have h8 : P.2.2.2.1 = 8 := by have := hO.2.2.2.1; omega
    exact ⟨fun _ => f108 (Or.inl h8), fun u => absurd e u⟩
