/-! THE CLASS'S BOARD: put, lift, and what it tells -/
def wS (m : Nat) : Int := if m = 1 then 1 else if m = 2 ∨ m = 3 then 3 else if m = 4 then 5 else if m = 5 then 9 else if m = 7 then -1 else if m = 8 ∨ m = 9 then -3 else if m = 10 then -5 else if m = 11 then -9 else 0
theorem wS_tab : ∀ m, m ≤ 12 → (zstn 4).2.2.getD m 0 = iI (wS m) := by decide +kernel
def balN (B : Nat → Nat) : Nat → Int
  | 0 => 0
  | n + 1 => balN B n + wS (B n)
def bal (B : Nat → Nat) : Int := balN B 64
theorem balN_ub {B : Nat → Nat} {s v : Nat} : ∀ n, balN (ub B s v) n = balN B n + (if s < n then wS v - wS (B s) else 0)
  | 0 => by simp [balN]
  | n + 1 => by
    have ih := balN_ub (B := B) (s := s) (v := v) n
    unfold balN
    rcases Nat.lt_trichotomy s n with q | q | q
    · rw [if_pos q] at ih
      rw [if_pos (show s < n + 1 by omega), ub_n (by omega)]
      omega
    · rw [if_neg (by omega)] at ih
      rw [if_pos (show s < n + 1 by omega), q, ub_s]
      rw [q] at ih
      omega
    · rw [if_neg (by omega)] at ih
      rw [if_neg (show ¬ s < n + 1 by omega), ub_n (by omega)]
      omega
theorem bal_ub {B : Nat → Nat} {s v : Nat} (hs : s < 64) : bal (ub B s v) = bal B + (wS v - wS (B s)) := by
  have := balN_ub (B := B) (s := s) (v := v) 64
  rw [if_pos hs] at this
  exact this
theorem zsJ_o {M : zM} {a j : Nat} {v : Int64} {b : Nat} (h : b ≠ a) : (zsJ M a j v).2.1 b = M.2.1 b := z2_off _ _ _ h
theorem zsJ_s {M : zM} {a j : Nat} {v : Int64} : (zsJ M a j v).2.1 a j = v := by rw [zsJ_at, if_pos ⟨rfl, rfl⟩]
theorem zsJ_n {M : zM} {a j : Nat} {v : Int64} {i : Nat} (h : i ≠ j) : (zsJ M a j v).2.1 a i = M.2.1 a i := by rw [zsJ_at, if_neg (fun q => h q.2)]
theorem zsJ_1 {M : zM} {a j : Nat} {v : Int64} : (zsJ M a j v).1 = M.1 := rfl
theorem zsI_2 {M : zM} {a j : Nat} {v : Int32} : (zsI M a j v).2.1 = M.2.1 := rfl
/-- the cells of a board -/
abbrev bC (g : Nat) : List Nat := [g + 1, g + 2, g + 3, g + 4]
/-- the slots of the board but the balance are as they were -/
def bFr (M N : zM) (g : Nat) : Prop := zSm (bC g) M N ∧ ∀ j, j ≠ 9 → N.1 (g + 1) j = M.1 (g + 1) j
theorem bFr.rf {M : zM} {g : Nat} : bFr M M g := ⟨zSm.rf, fun _ _ => rfl⟩
theorem bFr.tr {M N K : zM} {g : Nat} (h : bFr M N g) (h2 : bFr N K g) : bFr M K g := ⟨h.1.tr h2.1, fun j hj => (h2.2 j hj).trans (h.2 j hj)⟩
theorem sd_cases {m : Nat} (h1 : 1 ≤ m) (h2 : m ≤ 12) : sdI m = (if m ≤ 6 then 0 else 1 : Nat) := by
  unfold sdI
  rw [if_neg (by omega)]
  split <;> split <;> omega
set_option maxHeartbeats 4000000 in
theorem c_put {mc ms : Nat} {M : zM} {g : Nat} (hW : zWd M g) {B : Nat → Nat} (hB : bSt M g B) {b0 : Int} (h9 : M.1 (g + 1) 9 = iI b0) {s m : Nat} (hs : s < 64) (he : B s = 0) (hm1 : 1 ≤ m) (hm : m ≤ 12) {Q : zQt} (hq : ∀ N, bFr M N g → bSt N g (ub B s m) → N.1 (g + 1) 9 = iI (b0 + wS m) → Q none N) : wX0_put mc ms [.ref (g + 1), .int (nI s), .int (nI m)] M Q := by
  refine ⟨⟨Nat.le_of_ble_eq_true rfl, rfl⟩, fun X l0 l36 => ?_⟩
  obtain ⟨hM, hS, hC⟩ := hB
  refine l0 _ _ _ _ _ ⟨rfl, vX0_put_0 hW (fun y ey => ?_)⟩
  rw [nI_clamp (by omega), nI_clamp (by omega)]
  refine ⟨vp_in_nI (by omega) (by omega), fun M1 e1 => ⟨vp_in_nI (by omega) (by omega), vp_in_nI (by omega) (by omega), fun M2 e2 => ?_⟩⟩
  have hy : ∀ t, bt y t = decide (s = t) := fun t => by rw [ey]; exact bt_one hs t
  have f36 : ∀ c, c = (if m ≤ 6 then 0 else 1) → X 36 0 0 [.ref (g + 1), .int (nI m), .long y] [.int (nI c), .ref (g + 4)] M2 := by
    intro c hc
    have hc1 : c ≤ 1 := by rw [hc]; split <;> omega
    have hsd : sdI m = c := by rw [sd_cases hm1 hm, hc]
    have hW2 : zWd M2 g := by
      rw [e2, e1]
      exact ((zSm.I (L := bC g) (by simp)).tr (zSm.J (by simp))).wd hW
    refine l36 _ _ _ _ _ ⟨rfl, vX0_put_36 hW2 ?_⟩
    rw [nI_clamp (by omega), nI_clamp (by omega)]
    refine ⟨vp_in_nI (by omega) (by omega), vp_in_nI (by omega) (by omega), fun M3 e3 => ⟨vp_in_nI (by omega) (by omega), fun M4 e4 => ?_⟩⟩
    rw [wS_tab m hm] at e4
    have j9 : M3.1 (g + 1) 9 = iI b0 := by rw [e3, zsJ_1, e2, zsJ_1, e1, zsI_o (by omega)]; exact h9
    rw [j9, iI_add] at e4
    have sm : zSm (bC g) M M4 := by
      rw [e4, e3, e2, e1]
      exact (((zSm.I (by simp)).tr (zSm.J (by simp))).tr (zSm.J (by simp))).tr (zSm.I (by simp))
    refine hq M4 ⟨sm, fun j hj => ?_⟩ ⟨fun t ht => ?_, fun m' t a1 a2 ht => ?_, fun c' t hc' ht => ?_⟩ (by rw [e4, zsI_s])
    · rw [e4, zsI_n hj, e3, zsJ_1, e2, zsJ_1, e1, zsI_o (by omega)]
    · rw [e4, zsI_o (by omega), e3, zsJ_1, e2, zsJ_1, e1, zsI_at]
      by_cases q : t = s
      · rw [if_pos ⟨rfl, q⟩, q, ub_s]; exact ⟨rfl, hm⟩
      · rw [if_neg (fun w => q w.2), ub_n q]; exact hM t ht
    · rw [e4, zsI_2, e3, zsJ_o (by omega), e2, zsJ_at]
      by_cases q : m' = m
      · rw [if_pos ⟨rfl, q⟩, bt_or, hy t, e1, zsI_2, Bool.or_eq_true, decide_eq_true_eq, ← q, hS m' t a1 a2 ht]
        by_cases w : t = s
        · rw [w, ub_s]
          exact ⟨fun _ => rfl, fun _ => Or.inr rfl⟩
        · rw [ub_n w]
          exact ⟨fun h => h.elim id (fun h => absurd h.symm w), fun h => Or.inl h⟩
      · rw [if_neg (fun w => q w.2), e1, zsI_2, hS m' t a1 a2 ht]
        by_cases w : t = s
        · rw [w, ub_s, he]
          omega
        · rw [ub_n w]
    · rw [e4, zsI_2, e3, zsJ_at]
      by_cases q : c' = c
      · rw [if_pos ⟨rfl, q⟩, bt_or, hy t, e2, zsJ_o (by omega), e1, zsI_2, Bool.or_eq_true, decide_eq_true_eq, ← q, hC c' t hc' ht]
        by_cases w : t = s
        · rw [w, ub_s, q]
          exact ⟨fun _ => hsd, fun _ => Or.inr rfl⟩
        · rw [ub_n w]
          exact ⟨fun h => h.elim id (fun h => absurd h.symm w), fun h => Or.inl h⟩
      · rw [if_neg (fun w => q w.2), e2, zsJ_o (by omega), e1, zsI_2, hC c' t hc' ht]
        by_cases w : t = s
        · rw [w, ub_s, he, hsd, show sdI 0 = -1 from rfl]
          omega
        · rw [ub_n w]
  have e6 := nI_leI (a := m) (b := 6) (by omega) (by decide)
  exact ⟨fun q => f36 0 (by rw [if_pos (e6.mp q)]), fun q => f36 1 (by rw [if_neg (fun w => q (e6.mpr w))])⟩
set_option maxHeartbeats 4000000 in
theorem c_lift {mc ms : Nat} {M : zM} {g : Nat} (hW : zWd M g) {B : Nat → Nat} (hB : bSt M g B) {b0 : Int} (h9 : M.1 (g + 1) 9 = iI b0) {s : Nat} (hs : s < 64) (hm1 : 1 ≤ B s) {Q : zQt} (hq : ∀ N, bFr M N g → bSt N g (ub B s 0) → N.1 (g + 1) 9 = iI (b0 - wS (B s)) → Q none N) : wX0_lift mc ms [.ref (g + 1), .int (nI s)] M Q := by
  refine ⟨⟨Nat.le_of_ble_eq_true rfl, rfl⟩, fun X l0 l47 => ?_⟩
  obtain ⟨hM, hS, hC⟩ := hB
  have hm := (hM s hs).2
  refine l0 _ _ _ _ _ ⟨rfl, vX0_lift_0 hW ?_⟩
  rw [nI_clamp (by omega)]
  refine ⟨vp_in_nI (by omega) (by omega), fun y6 e6 y ey => ⟨vp_in_nI (by omega) (by omega), fun M1 e1 => ?_⟩⟩
  rw [(hM s hs).1] at e6
  subst e6
  obtain ⟨m, em⟩ : ∃ m, m = B s := ⟨_, rfl⟩
  rw [← em] at hm1 hm hq ⊢
  rw [nI_clamp (by omega)]
  refine ⟨vp_in_nI (by omega) (by omega), vp_in_nI (by omega) (by omega), fun M2 e2 => ?_⟩
  have hy : ∀ t, bt y t = decide (s = t) := fun t => by rw [ey]; exact bt_one hs t
  have f47 : ∀ c, c = (if m ≤ 6 then 0 else 1) → X 47 0 0 [.ref (g + 1), .int (nI m), .long y] [.int (nI c), .ref (g + 4)] M2 := by
    intro c hc
    have hc1 : c ≤ 1 := by rw [hc]; split <;> omega
    have hsd : sdI m = c := by rw [sd_cases hm1 hm, hc]
    have hW2 : zWd M2 g := by
      rw [e2, e1]
      exact ((zSm.I (L := bC g) (by simp)).tr (zSm.J (by simp))).wd hW
    refine l47 _ _ _ _ _ ⟨rfl, vX0_lift_47 hW2 ?_⟩
    rw [nI_clamp (by omega), nI_clamp (by omega)]
    refine ⟨vp_in_nI (by omega) (by omega), vp_in_nI (by omega) (by omega), fun M3 e3 => ⟨vp_in_nI (by omega) (by omega), fun M4 e4 => ?_⟩⟩
    rw [wS_tab m hm] at e4
    have j9 : M3.1 (g + 1) 9 = iI b0 := by rw [e3, zsJ_1, e2, zsJ_1, e1, zsI_o (by omega)]; exact h9
    rw [j9, iI_sub] at e4
    have sm : zSm (bC g) M M4 := by
      rw [e4, e3, e2, e1]
      exact (((zSm.I (by simp)).tr (zSm.J (by simp))).tr (zSm.J (by simp))).tr (zSm.I (by simp))
    refine hq M4 ⟨sm, fun j hj => ?_⟩ ⟨fun t ht => ?_, fun m' t a1 a2 ht => ?_, fun c' t hc' ht => ?_⟩ (by rw [e4, zsI_s])
    · rw [e4, zsI_n hj, e3, zsJ_1, e2, zsJ_1, e1, zsI_o (by omega)]
    · rw [e4, zsI_o (by omega), e3, zsJ_1, e2, zsJ_1, e1, zsI_at]
      by_cases q : t = s
      · rw [if_pos ⟨rfl, q⟩, q, ub_s]; exact ⟨rfl, by omega⟩
      · rw [if_neg (fun w => q w.2), ub_n q]; exact hM t ht
    · rw [e4, zsI_2, e3, zsJ_o (by omega), e2, zsJ_at]
      by_cases q : m' = m
      · rw [if_pos ⟨rfl, q⟩, bt_and, bt_not _ ht, hy t, e1, zsI_2, Bool.and_eq_true, Bool.not_eq_true', decide_eq_false_iff_not, ← q, hS m' t a1 a2 ht]
        by_cases w : t = s
        · rw [w, ub_s]
          exact ⟨fun h => absurd rfl h.2, fun h => by omega⟩
        · rw [ub_n w]
          exact ⟨fun h => h.1, fun h => ⟨h, fun z => w z.symm⟩⟩
      · rw [if_neg (fun w => q w.2), e1, zsI_2, hS m' t a1 a2 ht]
        by_cases w : t = s
        · rw [w, ub_s, ← em]
          omega
        · rw [ub_n w]
    · rw [e4, zsI_2, e3, zsJ_at]
      by_cases q : c' = c
      · rw [if_pos ⟨rfl, q⟩, bt_and, bt_not _ ht, hy t, e2, zsJ_o (by omega), e1, zsI_2, Bool.and_eq_true, Bool.not_eq_true', decide_eq_false_iff_not, ← q, hC c' t hc' ht]
        by_cases w : t = s
        · rw [w, ub_s, show sdI 0 = -1 from rfl]
          exact ⟨fun h => absurd rfl h.2, fun h => by omega⟩
        · rw [ub_n w]
          exact ⟨fun h => h.1, fun h => ⟨h, fun z => w z.symm⟩⟩
      · rw [if_neg (fun w => q w.2), e2, zsJ_o (by omega), e1, zsI_2, hC c' t hc' ht]
        by_cases w : t = s
        · rw [w, ub_s, ← em, hsd, show sdI 0 = -1 from rfl]
          omega
        · rw [ub_n w]
  have e6 := nI_leI (a := m) (b := 6) (by omega) (by decide)
  exact ⟨fun q => f47 0 (by rw [if_pos (e6.mp q)]), fun q => f47 1 (by rw [if_neg (fun w => q (e6.mpr w))])⟩
