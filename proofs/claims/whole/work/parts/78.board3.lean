/-! THE CLASS'S BOARD: king, check, kinds of moves -/
def bPs (M : zM) (g : Nat) (P : Ps) : Prop := bSt M g P.1 ∧ M.1 (g + 1) 4 = nI P.2.1 ∧ M.1 (g + 1) 5 = nI P.2.2.1 ∧ M.1 (g + 1) 6 = pI P.2.2.2.1 ∧ M.1 (g + 1) 7 = nI P.2.2.2.2.1 ∧ M.1 (g + 1) 8 = nI P.2.2.2.2.2 ∧ M.1 (g + 1) 9 = iI (bal P.1)
theorem bSt.sm {L : List Nat} {M N : zM} {g : Nat} (h : zSm L M N) (hL : ∀ b, g + 2 ≤ b → b ≤ g + 4 → b ∉ L) {B : Nat → Nat} (hB : bSt M g B) : bSt N g B := by
  unfold bSt at hB ⊢
  rw [h.i (hL (g + 2) (by omega) (by omega)), h.j (hL (g + 3) (by omega) (by omega)), h.j (hL (g + 4) (by omega) (by omega))]
  exact hB
theorem bPs.sm {L : List Nat} {M N : zM} {g : Nat} (h : zSm L M N) (hL : ∀ b, g + 1 ≤ b → b ≤ g + 4 → b ∉ L) {P : Ps} (hP : bPs M g P) : bPs N g P := by
  unfold bPs at hP ⊢
  rw [h.i (hL (g + 1) (by omega) (by omega))]
  exact ⟨hP.1.sm h (fun b a c => hL b (by omega) c), hP.2⟩
theorem c_occupied {mc ms : Nat} {M : zM} {g : Nat} (hW : zWd M g) {B : Nat → Nat} (hB : bSt M g B) {Q : zQt} (hq : ∀ o, (∀ s, s < 64 → (bt o s = true ↔ B s ≠ 0)) → Q (some (.long o)) M) : wX0_occupied mc ms [.ref (g + 1)] M Q := by
  refine ⟨⟨Nat.le_of_ble_eq_true rfl, rfl⟩, fun X l0 => l0 _ _ _ _ _ ⟨rfl, vX0_occupied_0 hW (hq _ (fun s hs => ?_))⟩⟩
  have h0 := hB.2.2 0 s (by omega) hs
  have h1 := hB.2.2 1 s (by omega) hs
  rw [bt_or, Bool.or_eq_true, show (0 : Int32).toNatClampNeg = 0 from rfl, show (1 : Int32).toNatClampNeg = 1 from rfl, h0, h1]
  have hb := sdI_bd (B s)
  constructor
  · rintro q z
    rw [z, show sdI 0 = -1 from rfl] at q
    omega
  · intro q
    have : sdI (B s) ≠ -1 := by
      unfold sdI
      rw [if_neg q]
      split <;> omega
    omega
theorem hm_filter (B : Nat → Nat) (m : Nat) : ∀ n, cn (fun s => if B s = m then 1 else 0) n = ((List.range n).filter (fun s => decide (B s = m))).length
  | 0 => rfl
  | n + 1 => by
    rw [List.range_succ, List.filter_append, List.length_append, ← hm_filter B m n]
    simp only [cn]
    by_cases q : B n = m
    · simp [q]
    · simp [q]
theorem one_man {B : Nat → Nat} {m : Nat} (h : hm B m = 1) : ∃ k, k < 64 ∧ B k = m ∧ (∀ t, t < 64 → B t = m → t = k) ∧ (List.range 64).filter (fun s => decide (B s = m)) = [k] := by
  unfold hm at h
  rw [hm_filter] at h
  obtain ⟨k, hk⟩ := List.length_eq_one_iff.mp h
  have hm : ∀ t, t ∈ (List.range 64).filter (fun s => decide (B s = m)) ↔ t < 64 ∧ B t = m := fun t => by rw [List.mem_filter, List.mem_range, decide_eq_true_eq]
  have h1 := (hm k).mp (by rw [hk]; exact List.mem_singleton.mpr rfl)
  refine ⟨k, h1.1, h1.2, fun t ht hb => ?_, hk⟩
  have := (hm t).mpr ⟨ht, hb⟩
  rw [hk] at this
  exact List.mem_singleton.mp this
theorem kq_of {B : Nat → Nat} {c k : Nat} (h2 : B k = 6 + 6 * c) : ∀ n, k < n → (∀ t, t < n → B t = 6 + 6 * c → t = k) → kq B c n = k
  | 0, h, _ => by omega
  | n + 1, h, hu => by
    unfold kq
    by_cases q : B n = 6 + 6 * c
    · rw [if_pos q]; exact hu n (by omega) q
    · rw [if_neg q]
      have : k ≠ n := fun e => q (by rw [← e]; exact h2)
      exact kq_of h2 n (by omega) (fun t ht hb => hu t (by omega) hb)
theorem c_kingOf {mc ms : Nat} {M : zM} {g : Nat} (hW : zWd M g) {B : Nat → Nat} (hB : bSt M g B) {c : Nat} (hc : c ≤ 1) (h1 : hm B (6 + 6 * c) = 1) {Q : zQt} (hq : Q (some (.int (nI (kq B c 64)))) M) : wX0_kingOf mc ms [.ref (g + 1), .int (nI c)] M Q := by
  obtain ⟨k, hk, hb, hu, hl⟩ := one_man h1
  have hkq := kq_of hb 64 hk hu
  refine ⟨⟨Nat.le_of_ble_eq_true rfl, rfl⟩, fun X l0 => l0 _ _ _ _ _ ⟨rfl, vX0_kingOf_0 hW ?_⟩⟩
  rw [show (6 : Int32) * nI c = nI (6 * c) from pk_mul 6 c, show (6 : Int32) + nI (6 * c) = nI (6 + 6 * c) from nI_add 6 _, nI_clamp (by omega)]
  have hs : sqs (M.2.1 (g + 3) (6 + 6 * c)) = k :: [] := by
    rw [← hl]
    unfold sqs
    apply List.filter_congr
    intro s hs
    have hs := List.mem_range.mp hs
    have := hB.2.1 (6 + 6 * c) s (by omega) (by omega) hs
    rcases hbt : bt (M.2.1 (g + 3) (6 + 6 * c)) s with _ | _
    · rw [hbt] at this
      exact (decide_eq_false (fun q => absurd (this.mpr q) (by decide))).symm
    · exact (decide_eq_true (this.mp hbt)).symm
  refine ⟨vp_in_nI (by omega) (by omega), c_lowest hW hs (vkX0_kingOf_15 hW ?_)⟩
  rw [← hkq]
  exact hq
theorem atkO_atk {B : Nat → Nat} {o : Int64} (ho : ∀ s, s < 64 → (bt o s = true ↔ B s ≠ 0)) {s c : Nat} (hs : s < 64) : atkO B o 0 s c ↔ atk B s c := by
  unfold atkO atk
  constructor
  · rintro ⟨a, ha, h1, -, h2⟩
    exact ⟨a, ha, h1, (attO_att ho ha hs).mp h2⟩
  · rintro ⟨a, ha, h1, h2⟩
    exact ⟨a, ha, h1, bt_0 a, (attO_att ho ha hs).mpr h2⟩
theorem c_inCheck {mc ms : Nat} {M : zM} {g : Nat} (hW : zWd M g) (hC : cOk M) {B : Nat → Nat} (hB : bSt M g B) {c : Nat} (hc : c ≤ 1) (h4 : M.1 (g + 1) 4 = nI c) (h1 : hm B (6 + 6 * c) = 1) {Q : zQt} (q1 : chk B c → Q (some (.int 1)) M) (q0 : ¬ chk B c → Q (some (.int 0)) M) : wX0_inCheck mc ms [.ref (g + 1)] M Q := by
  refine ⟨⟨Nat.le_of_ble_eq_true rfl, rfl⟩, fun X l0 => l0 _ _ _ _ _ ⟨rfl, vX0_inCheck_0 hW ?_⟩⟩
  rw [h4]
  refine c_kingOf hW hB hc h1 (vkX0_inCheck_9 hW ?_)
  rw [h4]
  refine c_occupied hW hB (fun o ho => vkX0_inCheck_19 hW ?_)
  rw [show (1 : Int32) - nI c = nI (1 - c) from pk_sub (a := 1) (b := c) hc]
  have hk := kq_lt B c 64 (Nat.le_refl _)
  refine c_attacked hW hC hB hk (by omega) o 0 (fun h => vkX0_inCheck_23 hW ⟨rfl, q1 ((atkO_atk ho hk).mp h)⟩) (fun h => vkX0_inCheck_23 hW ⟨rfl, q0 (fun q => h ((atkO_atk ho hk).mpr q))⟩)
def pss (P : Ps) (a b : Nat) : Prop := P.1 a = 1 + 6 * P.2.1 ∧ a % 8 ≠ b % 8 ∧ P.1 b = 0
theorem and7 {a : Nat} (ha : a < 64) : nI a &&& (7 : Int32) = nI (a % 8) := pk_andN (by omega) 3 (by decide)
theorem c_passes {mc ms : Nat} {M : zM} {g : Nat} (hW : zWd M g) {P : Ps} (hc : P.2.1 ≤ 1) (hB : bSt M g P.1) (h4 : M.1 (g + 1) 4 = nI P.2.1) {a b : Nat} (ha : a < 64) (hb : b < 64) {Q : zQt} (q1 : pss P a b → Q (some (.int 1)) M) (q0 : ¬ pss P a b → Q (some (.int 0)) M) : wX0_passes mc ms [.ref (g + 1), .int (nI a), .int (nI b)] M Q := by
  refine ⟨⟨Nat.le_of_ble_eq_true rfl, rfl⟩, fun X l0 l42 l43 => ?_⟩
  have f42 : ¬ pss P a b → X 42 0 0 [] [] M := fun h => l42 _ _ _ _ _ ⟨rfl, vX0_passes_42 hW (l43 _ _ _ _ _ ⟨rfl, vX0_passes_43 hW ⟨rfl, q0 h⟩⟩)⟩
  obtain ⟨ma, ma12⟩ := hB.1 a ha
  obtain ⟨mb, mb12⟩ := hB.1 b hb
  refine l0 _ _ _ _ _ ⟨rfl, vX0_passes_0 hW ?_⟩
  rw [h4, nI_clamp (by omega), nI_clamp (by omega), ma, mb, and7 ha, and7 hb, show (6 : Int32) * nI P.2.1 = nI (6 * P.2.1) from pk_mul 6 _, show (1 : Int32) + nI (6 * P.2.1) = nI (1 + 6 * P.2.1) from nI_add 1 _]
  have e1 := nI_eq (a := P.1 a) (b := 1 + 6 * P.2.1) (by omega) (by omega)
  have e2 := nI_eq (a := a % 8) (b := b % 8) (by omega) (by omega)
  have e3 := nI_eq (a := P.1 b) (b := 0) (by omega) (by decide)
  refine ⟨vp_in_nI (by omega) (by omega), fun u => ⟨fun v => f42 (fun q => q.2.1 (e2.mp v)), fun v => ⟨vp_in_nI (by omega) (by omega), fun w => l43 _ _ _ _ _ ⟨rfl, vX0_passes_43 hW ⟨rfl, q1 ⟨e1.mp u, fun q => v (e2.mpr q), e3.mp w⟩⟩⟩, fun w => f42 (fun q => w (e3.mpr q.2.2))⟩⟩, fun u => f42 (fun q => u (e1.mpr q.1))⟩
def csI (P : Ps) (a b : Nat) : Int := if P.1 a = 6 + 6 * P.2.1 ∧ ((b : Int) - a = 2 ∨ (b : Int) - a = -2) then (b : Int) - a else 0
theorem c_castleStep {mc ms : Nat} {M : zM} {g : Nat} (hW : zWd M g) {P : Ps} (hc : P.2.1 ≤ 1) (hB : bSt M g P.1) (h4 : M.1 (g + 1) 4 = nI P.2.1) {a b : Nat} (ha : a < 64) (hb : b < 64) {Q : zQt} (hq : Q (some (.int (iI (csI P a b)))) M) : wX0_castleStep mc ms [.ref (g + 1), .int (nI a), .int (nI b)] M Q := by
  refine ⟨⟨Nat.le_of_ble_eq_true rfl, rfl⟩, fun X l0 l34 l38 l39 => ?_⟩
  have f39 : ∀ v, v = iI (csI P a b) → X 39 0 0 [] [.int v] M := fun v hv => l39 _ _ _ _ _ ⟨rfl, vX0_castleStep_39 hW (by rw [hv]; exact hq)⟩
  obtain ⟨ma, ma12⟩ := hB.1 a ha
  refine l0 _ _ _ _ _ ⟨rfl, vX0_castleStep_0 hW ?_⟩
  rw [h4, nI_clamp (by omega), ma, show (6 : Int32) * nI P.2.1 = nI (6 * P.2.1) from pk_mul 6 _, show (6 : Int32) + nI (6 * P.2.1) = nI (6 + 6 * P.2.1) from nI_add 6 _, iI_nat b, iI_nat a, iI_sub]
  have e1 := nI_eq (a := P.1 a) (b := 6 + 6 * P.2.1) (by omega) (by omega)
  have e2 : iI ((b : Int) - a) = (2 : Int32) ↔ (b : Int) - a = 2 := iI_eq (b := 2) (by omega) (by omega) (by omega) (by omega)
  have e3 : iI ((b : Int) - a) = (-2 : Int32) ↔ (b : Int) - a = -2 := iI_eq (b := -2) (by omega) (by omega) (by omega) (by omega)
  have yes : P.1 a = 6 + 6 * P.2.1 → ((b : Int) - a = 2 ∨ (b : Int) - a = -2) → X 34 0 0 [.int (iI ((b : Int) - a))] [] M := fun h h2 => l34 _ _ _ _ _ ⟨rfl, vX0_castleStep_34 hW (f39 _ (by unfold csI; rw [if_pos ⟨h, h2⟩]))⟩
  have no : ¬ (P.1 a = 6 + 6 * P.2.1 ∧ ((b : Int) - a = 2 ∨ (b : Int) - a = -2)) → X 38 0 0 [] [] M := fun h => l38 _ _ _ _ _ ⟨rfl, vX0_castleStep_38 hW (f39 _ (by unfold csI; rw [if_neg h]; rfl))⟩
  refine ⟨vp_in_nI (by omega) (by omega), fun u => ⟨fun v => yes (e1.mp u) (Or.inl (e2.mp v)), fun v => ⟨fun w => yes (e1.mp u) (Or.inr (e3.mp w)), fun w => no (fun q => ?_)⟩⟩, fun u => no (fun q => u (e1.mpr q.1))⟩
  rcases q.2 with q | q
  · exact v (e2.mpr q)
  · exact w (e3.mpr q)
def rAtS (s : Nat) : Nat := if s = 0 then 2 else if s = 4 then 3 else if s = 7 then 1 else if s = 56 then 8 else if s = 60 then 12 else if s = 63 then 4 else 0
theorem c_rightsAt {mc ms : Nat} {M : zM} {g : Nat} (hW : zWd M g) {s : Nat} (hs : s < 64) {Q : zQt} (hq : Q (some (.int (nI (rAtS s)))) M) : wX0_rightsAt mc ms [.int (nI s)] M Q := by
  refine ⟨⟨Nat.le_of_ble_eq_true rfl, rfl⟩, fun X l0 => l0 _ _ _ _ _ ⟨rfl, vX0_rightsAt_0 hW ?_⟩⟩
  have e : (nI s).toInt = s := iI_toInt (z := s) (by omega) (by omega)
  rw [e]
  unfold rAtS at hq
  refine ⟨fun a => ?_, fun a => ⟨fun b => ?_, fun b => ⟨fun c => ?_, fun c => ⟨fun d => ?_, fun d => ⟨fun f => ?_, fun f => ⟨fun h => ?_, fun h => ?_⟩⟩⟩⟩⟩⟩
  · rw [if_pos (by omega)] at hq; exact hq
  · rw [if_neg (by omega), if_pos (by omega)] at hq; exact hq
  · rw [if_neg (by omega), if_neg (by omega), if_pos (by omega)] at hq; exact hq
  · rw [if_neg (by omega), if_neg (by omega), if_neg (by omega), if_pos (by omega)] at hq; exact hq
  · rw [if_neg (by omega), if_neg (by omega), if_neg (by omega), if_neg (by omega), if_pos (by omega)] at hq; exact hq
  · rw [if_neg (by omega), if_neg (by omega), if_neg (by omega), if_neg (by omega), if_neg (by omega), if_pos (by omega)] at hq; exact hq
  · rw [if_neg (by omega), if_neg (by omega), if_neg (by omega), if_neg (by omega), if_neg (by omega), if_neg (by omega)] at hq; exact hq
def bsd (B : Nat → Nat) (c s : Nat) : Prop := 0 < s % 8 ∧ B (s - 1) = 7 - 6 * c ∨ s % 8 < 7 ∧ B (s + 1) = 7 - 6 * c
theorem c_isBesidePawn {mc ms : Nat} {M : zM} {g : Nat} (hW : zWd M g) {B : Nat → Nat} (hB : bSt M g B) {c : Nat} (hc : c ≤ 1) (h4 : M.1 (g + 1) 4 = nI c) {s : Nat} (hs : s < 64) {Q : zQt} (q1 : bsd B c s → Q (some (.int 1)) M) (q0 : ¬ bsd B c s → Q (some (.int 0)) M) : wX0_isBesidePawn mc ms [.ref (g + 1), .int (nI s)] M Q := by
  refine ⟨⟨Nat.le_of_ble_eq_true rfl, rfl⟩, fun X l0 l33 l51 l55 l56 => ?_⟩
  have f51 : bsd B c s → X 51 0 0 [] [] M := fun h => l51 _ _ _ _ _ ⟨rfl, vX0_isBesidePawn_51 hW (l56 _ _ _ _ _ ⟨rfl, vX0_isBesidePawn_56 hW ⟨rfl, q1 h⟩⟩)⟩
  have f55 : ¬ bsd B c s → X 55 0 0 [] [] M := fun h => l55 _ _ _ _ _ ⟨rfl, vX0_isBesidePawn_55 hW (l56 _ _ _ _ _ ⟨rfl, vX0_isBesidePawn_56 hW ⟨rfl, q0 h⟩⟩)⟩
  have f33 : ¬ (0 < s % 8 ∧ B (s - 1) = 7 - 6 * c) → X 33 0 0 [.ref (g + 1), .int (nI s), .int (nI (7 - 6 * c)), .int (nI (s % 8))] [] M := by
    intro h
    have e7 := nI_leI (a := 7) (b := s % 8) (by decide) (by omega)
    refine l33 _ _ _ _ _ ⟨rfl, vX0_isBesidePawn_33 hW ⟨fun w => f55 (fun q => ?_), fun w => ?_⟩⟩
    · have := e7.mp w
      rcases q with q | q
      · exact h q
      · omega
    · have h7 : s % 8 < 7 := by
        have : ¬ 7 ≤ s % 8 := fun q => w (e7.mpr q)
        omega
      obtain ⟨m1, m12⟩ := hB.1 (s + 1) (by omega)
      rw [show nI s + (1 : Int32) = nI (s + 1) from nI_1 s, nI_clamp (by omega), m1]
      have em := nI_eq (a := B (s + 1)) (b := 7 - 6 * c) (by omega) (by omega)
      refine ⟨vp_in_nI (by omega) (by omega), fun u => f51 (Or.inr ⟨h7, em.mp u⟩), fun u => f55 (fun q => ?_)⟩
      rcases q with q | q
      · exact h q
      · exact u (em.mpr q.2)
  refine l0 _ _ _ _ _ ⟨rfl, vX0_isBesidePawn_0 hW (fun y ey => ?_)⟩
  rw [h4, show (1 : Int32) - nI c = nI (1 - c) from pk_sub (a := 1) (b := c) hc, show (6 : Int32) * nI (1 - c) = nI (6 * (1 - c)) from pk_mul 6 _, show (1 : Int32) + nI (6 * (1 - c)) = nI (1 + 6 * (1 - c)) from nI_add 1 _, show 1 + 6 * (1 - c) = 7 - 6 * c by omega] at ey
  subst ey
  rw [and7 hs]
  have e0 := nI_leI (a := s % 8) (b := 0) (by omega) (by decide)
  refine ⟨fun w => f33 (fun q => by have := e0.mp w; omega), fun w => ?_⟩
  have h0 : 0 < s % 8 := by
    have : ¬ s % 8 ≤ 0 := fun q => w (e0.mpr q)
    omega
  obtain ⟨m1, m12⟩ := hB.1 (s - 1) (by omega)
  rw [show nI s - (1 : Int32) = nI (s - 1) from pk_sub (a := s) (b := 1) (by omega), nI_clamp (by omega), m1]
  have em := nI_eq (a := B (s - 1)) (b := 7 - 6 * c) (by omega) (by omega)
  exact ⟨vp_in_nI (by omega) (by omega), fun u => f51 (Or.inl ⟨h0, em.mp u⟩), fun u => f33 (fun q => u (em.mpr q.2))⟩
