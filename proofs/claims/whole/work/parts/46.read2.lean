/-! THE REFERENCE'S READING: the record and whether it is right -/
def hm (B : Nat → Nat) (m : Nat) : Nat := cn (fun s => if B s = m then 1 else 0) 64
theorem hm_le (B : Nat → Nat) (m : Nat) : hm B m ≤ 64 := cn_le (fun s => by split <;> omega) 64
theorem c_howMany {mc ms : Nat} {M : zM} (hW : zFix M) {B : Nat → Nat} (hB : rBd M 0 B) {m : Nat} (hm' : m < 2 ^ 30) {Q : zQt} (hq : Q (some (.int (nI (hm B m)))) M) : wX13_howMany mc ms [.ref 55, .int (nI m)] M Q := by
  refine ⟨⟨Nat.le_of_ble_eq_true rfl, rfl⟩, fun X l0 l4 l26 => ?_⟩
  have loop : ∀ (n s : Nat), s + n = 64 → X 4 0 0 [.ref 55, .int (nI m), .int (nI (cn (fun s => if B s = m then 1 else 0) s)), .int (nI s)] [] M := by
    intro n
    induction n with
    | zero =>
      intro s hs
      obtain rfl : s = 64 := by omega
      exact l4 _ _ _ _ _ ⟨rfl, vX13_howMany_4 hW ⟨fun _ => hq, fun d => absurd (by decide) d⟩⟩
    | succ n ih =>
      intro s hs
      have hs64 : s < 64 := by omega
      obtain ⟨hBs, hB12⟩ := hB s hs64
      rw [Nat.zero_add] at hBs
      have f26 : ∀ v, v = (if B s = m then 1 else 0) → X 26 0 0 [.ref 55, .int (nI m), .int (nI s)] [.int (nI v), .int (nI (cn (fun s => if B s = m then 1 else 0) s))] M := by
        intro v hv
        refine l26 _ _ _ _ _ ⟨rfl, vX13_howMany_26 hW ?_⟩
        rw [nI_add, nI_1, hv]
        exact ih (s + 1) (by omega)
      refine l4 _ _ _ _ _ ⟨rfl, vX13_howMany_4 hW ⟨fun d => absurd d (nI_ge (a := s) (b := 64) hs64 (by decide)), fun _ => ?_⟩⟩
      rw [nI_clamp (by omega), hBs]
      have e := nI_eq (a := B s) (b := m) (by omega) (by omega)
      exact ⟨vp_in_nI (by omega) (by omega), fun a => f26 1 (by rw [if_pos (e.mp a)]), fun a => f26 0 (by rw [if_neg (fun q => a (e.mpr q))])⟩
  exact l0 _ _ _ _ _ ⟨rfl, vX13_howMany_0 hW (loop 64 0 rfl)⟩
theorem c_above {mc ms : Nat} {M : zM} (hW : zFix M) {a b : Nat} (ha : a < 2 ^ 30) (hb : b < 2 ^ 30) {Q : zQt} (hq : Q (some (.int (nI (a - b)))) M) : wX13_above mc ms [.int (nI a), .int (nI b)] M Q := by
  refine ⟨⟨Nat.le_of_ble_eq_true rfl, rfl⟩, fun X l0 l12 => ?_⟩
  have e := nI_leI (a := a) (b := b) (by omega) (by omega)
  refine l0 _ _ _ _ _ ⟨rfl, vX13_above_0 hW ⟨fun c => l12 _ _ _ _ _ ⟨rfl, vX13_above_12 hW ?_⟩, fun c => l12 _ _ _ _ _ ⟨rfl, vX13_above_12 hW ?_⟩⟩⟩
  · rw [show a - b = 0 by have := e.mp c; omega] at hq
    exact hq
  · have : ¬ a ≤ b := fun q => c (e.mpr q)
    rw [pk_sub (by omega)]
    exact hq
/-- pawns and what is above the first men of a side -/
def wgt (B : Nat → Nat) (c : Nat) : Nat := hm B (6 * c + 1) + ((hm B (6 * c + 2) - 2) + (hm B (6 * c + 3) - 2) + (hm B (6 * c + 4) - 2) + (hm B (6 * c + 5) - 1))
def menOk (B : Nat → Nat) : Prop := (∀ f, f < 8 → kd (B f) ≠ 1 ∧ kd (B (56 + f)) ≠ 1) ∧ wgt B 0 ≤ 8 ∧ wgt B 1 ≤ 8
set_option maxHeartbeats 4000000 in
theorem c_menFit {mc ms : Nat} {M : zM} (hW : zFix M) {B : Nat → Nat} (hB : rBd M 0 B) {Q : zQt} (q1 : menOk B → Q (some (.int 1)) M) (q0 : ¬ menOk B → Q (some (.int 0)) M) : wX13_menFit mc ms [.ref 55] M Q := by
  refine ⟨⟨Nat.le_of_ble_eq_true rfl, rfl⟩, fun X l0 l2 l37 l49 l129 l130 => ?_⟩
  have hl := fun m => hm_le B m
  have kb : ∀ s, s < 64 → M.1 65 s = nI (B s) ∧ B s ≤ 12 := by
    intro s hs
    have := hB s hs
    rwa [Nat.zero_add] at this
  have step : ∀ (c : Nat) (b b' : Bool), c ≤ 1 → b' = (b && decide (wgt B c ≤ 8)) → X 49 0 0 [.ref 55, .int (bI b'), .int (nI (6 * (c + 1)))] [] M → X 49 0 0 [.ref 55, .int (bI b), .int (nI (6 * c))] [] M := by
    intro c b b' hc hb' nx
    have f130 : ∀ z, z = b' → X 130 0 0 [.ref 55, .int (nI (6 * c))] [.int (bI z)] M := by
      intro z hz
      refine l130 _ _ _ _ _ ⟨rfl, vX13_menFit_130 hW ?_⟩
      rw [show nI (6 * c) + (6 : Int32) = nI (6 * (c + 1)) from nI_add (6 * c) 6, hz]
      exact nx
    have f129 : b' = false → X 129 0 0 [.ref 55, .int (nI (6 * c))] [] M := fun h => l129 _ _ _ _ _ ⟨rfl, vX13_menFit_129 hW (f130 false h.symm)⟩
    have h1 := hl (6 * c + 1)
    have h2 := hl (6 * c + 2)
    have h3 := hl (6 * c + 3)
    have h4 := hl (6 * c + 4)
    have h5 := hl (6 * c + 5)
    refine l49 _ _ _ _ _ ⟨rfl, vX13_menFit_49 hW ⟨fun d => absurd d (nI_ge (a := 6 * c) (b := 12) (by omega) (by decide)), fun _ => ?_⟩⟩
    rw [show nI (6 * c) + (1 : Int32) = nI (6 * c + 1) from nI_add (6 * c) 1]
    refine c_howMany hW hB (by omega) (vkX13_menFit_62 hW ?_)
    rw [show nI (6 * c) + (2 : Int32) = nI (6 * c + 2) from nI_add (6 * c) 2]
    refine c_howMany hW hB (by omega) (vkX13_menFit_70 hW (c_above hW (b := 2) (by omega) (by omega) (vkX13_menFit_74 hW ?_)))
    rw [show nI (6 * c) + (3 : Int32) = nI (6 * c + 3) from nI_add (6 * c) 3]
    refine c_howMany hW hB (by omega) (vkX13_menFit_81 hW (c_above hW (b := 2) (by omega) (by omega) (vkX13_menFit_85 hW ?_)))
    rw [show nI (6 * c) + (4 : Int32) = nI (6 * c + 4) from nI_add (6 * c) 4, nI_add]
    refine c_howMany hW hB (by omega) (vkX13_menFit_93 hW (c_above hW (b := 2) (by omega) (by omega) (vkX13_menFit_97 hW ?_)))
    rw [show nI (6 * c) + (5 : Int32) = nI (6 * c + 5) from nI_add (6 * c) 5, nI_add]
    refine c_howMany hW hB (by omega) (vkX13_menFit_105 hW (c_above hW (b := 1) (by omega) (by omega) (vkX13_menFit_109 hW ?_)))
    rw [nI_add, nI_add]
    have ew : hm B (6 * c + 1) + ((hm B (6 * c + 2) - 2) + (hm B (6 * c + 3) - 2) + (hm B (6 * c + 4) - 2) + (hm B (6 * c + 5) - 1)) = wgt B c := rfl
    rw [ew]
    have hwl : wgt B c ≤ 320 := by rw [← ew]; omega
    have e8 := nI_ltI (a := 8) (b := wgt B c) (by decide) (by omega)
    refine ⟨fun a => f129 ?_, fun a => ⟨fun d => f129 ?_, fun d => f130 true ?_⟩⟩
    · rw [hb', bI_0.mp a]; rfl
    · have := e8.mp d
      rw [hb', decide_eq_false (by omega)]
      cases b <;> rfl
    · have : ¬ 8 < wgt B c := fun q => d (e8.mpr q)
      rw [hb', bI_n.mp a, decide_eq_true (by omega)]
      rfl
  have f49 : (∀ f, f < 8 → kd (B f) ≠ 1 ∧ kd (B (56 + f)) ≠ 1) → X 49 0 0 [.ref 55, .int 1, .int 0] [] M := by
    intro hf
    refine step 0 true _ (by omega) rfl (step 1 _ _ (by omega) rfl ?_)
    have hx : (true && decide (wgt B 0 ≤ 8) && decide (wgt B 1 ≤ 8)) = true ↔ menOk B := by
      unfold menOk
      simp only [Bool.true_and, Bool.and_eq_true, decide_eq_true_eq]
      exact ⟨fun q => ⟨hf, q⟩, fun q => q.2⟩
    generalize (true && decide (wgt B 0 ≤ 8) && decide (wgt B 1 ≤ 8)) = z at hx
    refine l49 _ _ _ _ _ ⟨rfl, vX13_menFit_49 hW ⟨fun _ => ?_, fun d => absurd (by decide) d⟩⟩
    cases z with
    | true => exact ⟨rfl, q1 (hx.mp rfl)⟩
    | false => exact ⟨rfl, q0 (fun q => absurd (hx.mpr q) (by decide))⟩
  have f37 : ¬ menOk B → X 37 0 0 [] [] M := fun h => l37 _ _ _ _ _ ⟨rfl, vX13_menFit_37 hW (q0 h)⟩
  have loop : ∀ (n f : Nat), f + n = 8 → (∀ t, t < f → kd (B t) ≠ 1 ∧ kd (B (56 + t)) ≠ 1) → X 2 0 0 [.ref 55, .int (nI f)] [] M := by
    intro n
    induction n with
    | zero =>
      intro f hf h
      obtain rfl : f = 8 := by omega
      exact l2 _ _ _ _ _ ⟨rfl, vX13_menFit_2 hW ⟨fun _ => f49 h, fun d => absurd (by decide) d⟩⟩
    | succ n ih =>
      intro f hf h
      obtain ⟨k1, k2⟩ := kb f (by omega)
      obtain ⟨k3, k4⟩ := kb (56 + f) (by omega)
      have d1 : kd (B f) < 2 ^ 31 := by unfold kd; split <;> omega
      have d2 : kd (B (56 + f)) < 2 ^ 31 := by unfold kd; split <;> omega
      have e1 := nI_eq (a := kd (B f)) (b := 1) d1 (by decide)
      have e2 := nI_eq (a := kd (B (56 + f))) (b := 1) d2 (by decide)
      refine l2 _ _ _ _ _ ⟨rfl, vX13_menFit_2 hW ⟨fun d => absurd d (nI_ge (a := f) (b := 8) (by omega) (by decide)), fun _ => ?_⟩⟩
      rw [nI_clamp (by omega), k1]
      refine ⟨vp_in_nI (by omega) (by omega), c_kindOf hW _ (by omega) (vkX13_menFit_17 hW ⟨fun a => f37 ?_, fun a => ?_⟩)⟩
      · exact fun q => (q.1 f (by omega)).1 (e1.mp a)
      · rw [show (56 : Int32) + nI f = nI (56 + f) from nI_add 56 f, nI_clamp (by omega), k3]
        refine ⟨vp_in_nI (by omega) (by omega), c_kindOf hW _ (by omega) (vkX13_menFit_33 hW ⟨fun b => f37 ?_, fun b => ?_⟩)⟩
        · exact fun q => (q.1 f (by omega)).2 (e2.mp b)
        · rw [nI_1]
          refine ih (f + 1) (by omega) (fun t ht => ?_)
          by_cases et : t = f
          · rw [et]
            exact ⟨fun q => a (e1.mpr q), fun q => b (e2.mpr q)⟩
          · exact h t (by omega)
  exact l0 _ _ _ _ _ ⟨rfl, vX13_menFit_0 hW (loop 8 0 rfl (fun t ht => absurd ht (by omega)))⟩
def rhm (P : Ps) (k : Nat) : Prop := P.1 (56 * (k / 2) + 4) = 6 + 6 * (k / 2) ∧ P.1 (56 * (k / 2) + (if k % 2 = 0 then 7 else 0)) = 4 + 6 * (k / 2)
def rgtOk (P : Ps) : Prop := ∀ k, k < 4 → rhm P k ∨ P.2.2.1 / 2 ^ k % 2 = 0
theorem shr16 : ∀ r, r < 16 → ∀ k, k < 4 → ((nI r >>> (nI k &&& 31)) &&& 1 = 0 ↔ r / 2 ^ k % 2 = 0) := by decide +kernel
set_option maxHeartbeats 4000000 in
theorem c_rightsFit {mc ms : Nat} {M : zM} (hW : zFix M) {P : Ps} (hP : rPs M 0 P) {Q : zQt} (q1 : rgtOk P → Q (some (.int 1)) M) (q0 : ¬ rgtOk P → Q (some (.int 0)) M) : wX13_rightsFit mc ms [.ref 55] M Q := by
  refine ⟨⟨Nat.le_of_ble_eq_true rfl, rfl⟩, fun X l0 l4 l29 l73 l74 l99 l103 l104 => ?_⟩
  have kb : ∀ s, s < 64 → M.1 65 s = nI (P.1 s) ∧ P.1 s ≤ 12 := by
    intro s hs
    have := hP.1 s hs
    rwa [Nat.zero_add] at this
  have e65 : M.1 65 65 = nI P.2.2.1 := hP.2.2.1.1
  have b65 := hP.2.2.1.2
  have loop : ∀ (n k : Nat) (b : Bool), k + n = 4 → (b = true ↔ ∀ t, t < k → rhm P t ∨ P.2.2.1 / 2 ^ t % 2 = 0) → X 4 0 0 [.ref 55, .int (bI b), .int (nI k)] [] M := by
    intro n
    induction n with
    | zero =>
      intro k b hk h
      obtain rfl : k = 4 := by omega
      refine l4 _ _ _ _ _ ⟨rfl, vX13_rightsFit_4 hW ⟨fun _ => ?_, fun d => absurd (by decide) d⟩⟩
      cases b with
      | true => exact ⟨rfl, q1 (h.mp rfl)⟩
      | false => exact ⟨rfl, q0 (fun q => absurd (h.mpr q) (by decide))⟩
    | succ n ih =>
      intro k b hk h
      have hk4 : k < 4 := by omega
      have f104 : ∀ z : Bool, (z = true ↔ ∀ t, t < k + 1 → rhm P t ∨ P.2.2.1 / 2 ^ t % 2 = 0) → X 104 0 0 [.ref 55, .int (nI k)] [.int (bI z)] M := by
        intro z hz
        refine l104 _ _ _ _ _ ⟨rfl, vX13_rightsFit_104 hW ?_⟩
        rw [nI_1]
        exact ih (k + 1) z (by omega) hz
      have f103 : ¬ (∀ t, t < k + 1 → rhm P t ∨ P.2.2.1 / 2 ^ t % 2 = 0) → X 103 0 0 [.ref 55, .int (nI k)] [] M := fun hn => l103 _ _ _ _ _ ⟨rfl, vX13_rightsFit_103 hW (f104 false ⟨fun q => absurd q (by decide), fun q => absurd q hn⟩)⟩
      have f99 : b = true → (rhm P k ∨ P.2.2.1 / 2 ^ k % 2 = 0) → X 99 0 0 [.ref 55, .int (nI k)] [] M := fun hb hh => l99 _ _ _ _ _ ⟨rfl, vX13_rightsFit_99 hW (f104 true ⟨fun _ t ht => by
        rcases (show t < k ∨ t = k by omega) with q | q
        · exact h.mp hb t q
        · rw [q]; exact hh, fun _ => rfl⟩)⟩
      have f74 : ∀ z : Bool, (z = true ↔ rhm P k) → X 74 0 0 [.ref 55, .int (bI b), .int (nI k)] [.int (bI z)] M := by
        intro z hz
        refine l74 _ _ _ _ _ ⟨rfl, vX13_rightsFit_74 hW ?_⟩
        rw [show (65 : Int32).toNatClampNeg = 65 from rfl, e65]
        have e := shr16 _ b65 k hk4
        refine ⟨fun a => f103 (fun q => ?_), fun a => ⟨fun c => ⟨fun d => f99 (bI_n.mp a) (Or.inr (e.mp d)), fun d => f103 (fun q => ?_)⟩, fun c => f99 (bI_n.mp a) (Or.inl (hz.mp (bI_n.mp c)))⟩⟩
        · have := h.mpr (fun t ht => q t (by omega))
          rw [bI_0, this] at a
          exact absurd a (by decide)
        · rcases q k (by omega) with y | y
          · rw [bI_0, hz.mpr y] at c
            exact absurd c (by decide)
          · exact d (e.mpr y)
      have f73 : ¬ rhm P k → X 73 0 0 [.ref 55, .int (bI b), .int (nI k)] [] M := fun hn => l73 _ _ _ _ _ ⟨rfl, vX13_rightsFit_73 hW (f74 false ⟨fun q => absurd q (by decide), fun q => absurd q hn⟩)⟩
      have f29 : ∀ w, w = (if k % 2 = 0 then 7 else 0) → X 29 0 0 [.ref 55, .int (bI b), .int (nI k), .int (nI (k / 2))] [.int (nI w), .int (nI (56 * (k / 2)))] M := by
        intro w hw
        have hw7 : w ≤ 7 := by rw [hw]; split <;> omega
        obtain ⟨a1, a2⟩ := kb (56 * (k / 2) + 4) (by omega)
        obtain ⟨b1, b2⟩ := kb (56 * (k / 2) + w) (by omega)
        refine l29 _ _ _ _ _ ⟨rfl, vX13_rightsFit_29 hW ?_⟩
        rw [show (56 : Int32) * nI (k / 2) = nI (56 * (k / 2)) from pk_mul 56 _, show nI (56 * (k / 2)) + (4 : Int32) = nI (56 * (k / 2) + 4) from nI_add _ 4, nI_add, nI_clamp (by omega), nI_clamp (by omega), a1, b1, show (6 : Int32) * nI (k / 2) = nI (6 * (k / 2)) from pk_mul 6 _, show (6 : Int32) + nI (6 * (k / 2)) = nI (6 + 6 * (k / 2)) from nI_add 6 _, show (4 : Int32) + nI (6 * (k / 2)) = nI (4 + 6 * (k / 2)) from nI_add 4 _]
        have e1 := nI_eq (a := P.1 (56 * (k / 2) + 4)) (b := 6 + 6 * (k / 2)) (by omega) (by omega)
        have e2 := nI_eq (a := P.1 (56 * (k / 2) + w)) (b := 4 + 6 * (k / 2)) (by omega) (by omega)
        have er : rhm P k ↔ P.1 (56 * (k / 2) + 4) = 6 + 6 * (k / 2) ∧ P.1 (56 * (k / 2) + w) = 4 + 6 * (k / 2) := by unfold rhm; rw [hw]
        refine ⟨vp_in_nI (by omega) (by omega), fun a => ⟨vp_in_nI (by omega) (by omega), fun c => f74 true ⟨fun _ => er.mpr ⟨e1.mp a, e2.mp c⟩, fun _ => rfl⟩, fun c => f73 (fun q => c (e2.mpr (er.mp q).2))⟩, fun a => f73 (fun q => a (e1.mpr (er.mp q).1))⟩
      refine l4 _ _ _ _ _ ⟨rfl, vX13_rightsFit_4 hW ⟨fun d => absurd d (nI_ge (a := k) (b := 4) hk4 (by decide)), fun _ => ?_⟩⟩
      rw [show nI k - nI k / (2 : Int32) * (2 : Int32) = nI (k % 2) from nI_mod (by omega) (by decide) (by decide), show nI k / (2 : Int32) = nI (k / 2) from pk_div (by omega) (by decide) (by decide), show (56 : Int32) * nI (k / 2) = nI (56 * (k / 2)) from pk_mul 56 _]
      have e0 := nI_eq (a := k % 2) (b := 0) (by omega) (by decide)
      exact ⟨fun a => f29 7 (by rw [if_pos (e0.mp a)]), fun a => f29 0 (by rw [if_neg (fun q => a (e0.mpr q))])⟩
  exact l0 _ _ _ _ _ ⟨rfl, vX13_rightsFit_0 hW (loop 4 0 true rfl ⟨fun _ t ht => absurd ht (by omega), fun _ => rfl⟩)⟩
def pstOk (P : Ps) : Prop := P.2.2.2.1 = 8 ∨ P.1 ((if P.2.1 = 0 then 32 else 24) + P.2.2.2.1) = (if P.2.1 = 0 then 7 else 1) ∧ P.1 ((if P.2.1 = 0 then 40 else 16) + P.2.2.2.1) = 0 ∧ P.1 ((if P.2.1 = 0 then 48 else 8) + P.2.2.2.1) = 0 ∧ P.2.2.2.2.1 = 0
set_option maxHeartbeats 4000000 in
theorem c_passantFits {mc ms : Nat} {M : zM} (hW : zFix M) {P : Ps} (hP : rPs M 0 P) {Q : zQt} (q1 : pstOk P → Q (some (.int 1)) M) (q0 : ¬ pstOk P → Q (some (.int 0)) M) : wX13_passantFits mc ms [.ref 55] M Q := by
  refine ⟨⟨Nat.le_of_ble_eq_true rfl, rfl⟩, fun X l0 l29 l45 l61 l78 l96 l133 l134 => ?_⟩
  have kb : ∀ s, s < 64 → M.1 65 s = nI (P.1 s) ∧ P.1 s ≤ 12 := by
    intro s hs
    have := hP.1 s hs
    rwa [Nat.zero_add] at this
  have e64 : M.1 65 64 = nI P.2.1 := hP.2.1.1
  have b64 := hP.2.1.2
  have e66 : M.1 65 66 = pI P.2.2.2.1 := hP.2.2.2.1.1
  have b66 := hP.2.2.2.1.2
  have e67 : M.1 65 67 = nI P.2.2.2.2.1 := hP.2.2.2.2.1.1
  have b67 := hP.2.2.2.2.1.2
  have f133 : ¬ pstOk P → X 133 0 0 [] [] M := fun h => l133 _ _ _ _ _ ⟨rfl, vX13_passantFits_133 hW (l134 _ _ _ _ _ ⟨rfl, vX13_passantFits_134 hW ⟨rfl, q0 h⟩⟩)⟩
  refine l0 _ _ _ _ _ ⟨rfl, vX13_passantFits_0 hW (fun y hy => ?_)⟩
  rw [show (66 : Int32).toNatClampNeg = 66 from rfl, e66] at hy
  rw [show (64 : Int32).toNatClampNeg = 64 from rfl, e64]
  by_cases h8 : P.2.2.2.1 = 8
  · have hy' : y = -1 := by rw [hy, h8]; rfl
    rw [hy']
    exact ⟨fun a => absurd a (by decide), fun _ => q1 (Or.inl h8)⟩
  have hf7 : P.2.2.2.1 < 8 := by omega
  have hy' : y = nI P.2.2.2.1 := by rw [hy]; unfold pI; rw [if_pos hf7]
  rw [hy']
  generalize hgf : P.2.2.2.1 = f at hf7 h8
  have hz : ∀ w : Bool, (w = true ↔ P.2.1 = 0) → X 29 0 0 [.ref 55, .int (nI f)] [.int (bI w)] M := by
    intro w hw
    have iw : ∀ a b : Nat, (if P.2.1 = 0 then a else b) = (if w = true then a else b) := by
      intro a b
      by_cases z : P.2.1 = 0
      · rw [if_pos z, if_pos (hw.mpr z)]
      · rw [if_neg z, if_neg (fun q => z (hw.mp q))]
    have er : pstOk P ↔ P.1 ((if w = true then 32 else 24) + f) = (if w = true then 7 else 1) ∧ P.1 ((if w = true then 40 else 16) + f) = 0 ∧ P.1 ((if w = true then 48 else 8) + f) = 0 ∧ P.2.2.2.2.1 = 0 := by
      unfold pstOk
      rw [iw 32 24, iw 40 16, iw 48 8, iw 7 1, hgf]
      exact ⟨fun q => q.resolve_left h8, Or.inr⟩
    have f96 : ∀ x3 x4 x5 v, x3 < 64 → x4 < 64 → x5 < 64 → v < 64 → (pstOk P ↔ P.1 x3 = v ∧ P.1 x4 = 0 ∧ P.1 x5 = 0 ∧ P.2.2.2.2.1 = 0) → X 96 0 0 [.ref 55, .int (nI x4), .int (nI x5)] [.int (nI v), .int (nI (P.1 x3))] M := by
      intro x3 x4 x5 v h3 h4 h5 hv hr
      obtain ⟨a1, a2⟩ := kb x3 h3
      obtain ⟨b1, b2⟩ := kb x4 h4
      obtain ⟨c1, c2⟩ := kb x5 h5
      refine l96 _ _ _ _ _ ⟨rfl, vX13_passantFits_96 hW ?_⟩
      rw [nI_clamp (by omega), nI_clamp (by omega), b1, c1, show (67 : Int32).toNatClampNeg = 67 from rfl, e67]
      have g1 := nI_eq (a := P.1 x3) (b := v) (by omega) (by omega)
      have g2 := nI_eq (a := P.1 x4) (b := 0) (by omega) (by decide)
      have g3 := nI_eq (a := P.1 x5) (b := 0) (by omega) (by decide)
      have g4 := nI_eq (a := P.2.2.2.2.1) (b := 0) (by omega) (by decide)
      refine ⟨fun a => ⟨vp_in_nI (by omega) (by omega), fun b => ⟨vp_in_nI (by omega) (by omega), fun c => ⟨fun d => ?_, fun d => f133 (fun q => d (g4.mpr (hr.mp q).2.2.2))⟩, fun c => f133 (fun q => c (g3.mpr (hr.mp q).2.2.1))⟩, fun b => f133 (fun q => b (g2.mpr (hr.mp q).2.1))⟩, fun a => f133 (fun q => a (g1.mpr (hr.mp q).1))⟩
      exact l134 _ _ _ _ _ ⟨rfl, vX13_passantFits_134 hW ⟨rfl, q1 (hr.mpr ⟨g1.mp a, g2.mp b, g3.mp c, g4.mp d⟩)⟩⟩
    cases w with
    | true =>
      refine l29 _ _ _ _ _ ⟨rfl, vX13_passantFits_29 hW ⟨fun a => absurd a (by decide), fun _ => ?_⟩⟩
      rw [show (32 : Int32) + nI f = nI (32 + f) from nI_add 32 f]
      refine l45 _ _ _ _ _ ⟨rfl, vX13_passantFits_45 hW ⟨fun a => absurd a (by decide), fun _ => ?_⟩⟩
      rw [show (40 : Int32) + nI f = nI (40 + f) from nI_add 40 f]
      refine l61 _ _ _ _ _ ⟨rfl, vX13_passantFits_61 hW ⟨fun a => absurd a (by decide), fun _ => ?_⟩⟩
      rw [show (48 : Int32) + nI f = nI (48 + f) from nI_add 48 f]
      refine l78 _ _ _ _ _ ⟨rfl, vX13_passantFits_78 hW ?_⟩
      rw [nI_clamp (by omega), (kb (32 + f) (by omega)).1]
      exact ⟨vp_in_nI (by omega) (by omega), fun a => absurd a (by decide), fun _ => f96 (32 + f) (40 + f) (48 + f) 7 (by omega) (by omega) (by omega) (by omega) er⟩
    | false =>
      refine l29 _ _ _ _ _ ⟨rfl, vX13_passantFits_29 hW ⟨fun _ => ?_, fun a => absurd rfl a⟩⟩
      rw [show (24 : Int32) + nI f = nI (24 + f) from nI_add 24 f]
      refine l45 _ _ _ _ _ ⟨rfl, vX13_passantFits_45 hW ⟨fun _ => ?_, fun a => absurd rfl a⟩⟩
      rw [show (16 : Int32) + nI f = nI (16 + f) from nI_add 16 f]
      refine l61 _ _ _ _ _ ⟨rfl, vX13_passantFits_61 hW ⟨fun _ => ?_, fun a => absurd rfl a⟩⟩
      rw [show (8 : Int32) + nI f = nI (8 + f) from nI_add 8 f]
      refine l78 _ _ _ _ _ ⟨rfl, vX13_passantFits_78 hW ?_⟩
      rw [nI_clamp (by omega), (kb (24 + f) (by omega)).1]
      exact ⟨vp_in_nI (by omega) (by omega), fun _ => f96 (24 + f) (16 + f) (8 + f) 1 (by omega) (by omega) (by omega) (by omega) er, fun a => absurd rfl a⟩
  have ec := nI_eq (a := P.2.1) (b := 0) (by omega) (by decide)
  refine ⟨fun _ => ⟨fun a => hz true ⟨fun _ => ec.mp a, fun _ => rfl⟩, fun a => hz false ⟨fun q => absurd q (by decide), fun q => absurd (ec.mpr q) a⟩⟩, fun a => absurd ((nI_leI (a := 0) (b := f) (by decide) (by omega)).mpr (by omega)) a⟩
