/-! A RIGHT POSITION STAYS RIGHT BEHIND A LEGAL MOVE -/
def ub (B : Nat → Nat) (s v : Nat) : Nat → Nat := fun i => if i = s then v else B i
theorem cn_ub {B : Nat → Nat} {s v m : Nat} : ∀ n, cn (fun i => if ub B s v i = m then 1 else 0) n + (if s < n then (if B s = m then 1 else 0) else 0) = cn (fun i => if B i = m then 1 else 0) n + (if s < n then (if v = m then 1 else 0) else 0)
  | 0 => rfl
  | n + 1 => by
    have ih := cn_ub (B := B) (s := s) (v := v) (m := m) n
    simp only [cn]
    rcases Nat.lt_trichotomy s n with q | q | q
    · have e : ub B s v n = B n := by unfold ub; rw [if_neg (by omega)]
      rw [if_pos q, if_pos q] at ih
      rw [if_pos (show s < n + 1 by omega), if_pos (show s < n + 1 by omega), e]
      omega
    · have e : ub B s v n = v := by unfold ub; rw [if_pos q.symm]
      rw [if_neg (by omega), if_neg (by omega)] at ih
      rw [if_pos (show s < n + 1 by omega), if_pos (show s < n + 1 by omega), e, q]
      rw [q] at ih
      omega
    · have e : ub B s v n = B n := by unfold ub; rw [if_neg (by omega)]
      rw [if_neg (by omega), if_neg (by omega)] at ih
      rw [if_neg (show ¬ s < n + 1 by omega), if_neg (show ¬ s < n + 1 by omega), e]
      omega
theorem hm_ub {B : Nat → Nat} {s v m : Nat} (hs : s < 64) : hm (ub B s v) m + (if B s = m then 1 else 0) = hm B m + (if v = m then 1 else 0) := by
  have h := cn_ub (B := B) (s := s) (v := v) (m := m) 64
  rw [if_pos hs, if_pos hs] at h
  exact h
theorem ub_s {B : Nat → Nat} {s v : Nat} : ub B s v s = v := if_pos rfl
theorem ub_n {B : Nat → Nat} {s v i : Nat} (h : i ≠ s) : ub B s v i = B i := if_neg h
theorem cas_cst {P : Ps} {a b : Nat} (h : gos P a b) (hk : cas P a b = true) : kd (P.1 a) = 6 ∧ cst P a b := by
  unfold cas at hk
  simp only [Bool.and_eq_true, Bool.or_eq_true, decide_eq_true_eq] at hk
  obtain ⟨k6, hab⟩ := hk
  refine ⟨k6, ?_⟩
  rcases h.2.2.2.2 (by rw [k6]; decide) with q | q
  · exfalso
    have := q.2.2.2.2.1 k6
    unfold aI dF dR at this
    obtain ⟨h1, h2⟩ := this
    split at h1 <;> split at h2 <;> omega
  · exact q.2
theorem psg_tip {P : Ps} {a b : Nat} (hk : psg P a b = true) : kd (P.1 a) = 1 ∧ tip P a b := by
  unfold psg pwn at hk
  simp only [Bool.and_eq_true, decide_eq_true_eq] at hk
  exact ⟨hk.1, tipB_t.mp hk.2⟩
/-- how the board behind a move comes about, in the three kinds of moves -/
theorem mkB_ord {P : Ps} {a b pr : Nat} (hc : cas P a b = false) (hp : psg P a b = false) : mkB P a b pr = ub (ub P.1 a 0) b (if pr = 0 then P.1 a else pr + 6 * P.2.1) := by
  funext s
  unfold mkB ub
  rw [hc, hp]
  simp
theorem mkB_psg {P : Ps} {a b pr : Nat} (hc : cas P a b = false) (hp : psg P a b = true) : mkB P a b pr = ub (ub (ub P.1 a 0) b (if pr = 0 then P.1 a else pr + 6 * P.2.1)) (if P.2.1 = 0 then b - 8 else b + 8) 0 := by
  funext s
  unfold mkB ub
  rw [hc, hp]
  simp
theorem mkB_cas {P : Ps} {a b pr : Nat} (hc : cas P a b = true) (hp : psg P a b = false) : mkB P a b pr = ub (ub (ub (ub P.1 a 0) b (if pr = 0 then P.1 a else pr + 6 * P.2.1)) (if a < b then a + 3 else a - 4) 0) ((a + b) / 2) (4 + 6 * P.2.1) := by
  funext s
  unfold mkB ub
  rw [hc, hp]
  simp
theorem cas_no_psg {P : Ps} {a b : Nat} (hc : cas P a b = true) : psg P a b = false := by
  rcases h : psg P a b with _ | _
  · rfl
  · have := (psg_tip h).1
    unfold cas at hc
    simp only [Bool.and_eq_true, decide_eq_true_eq] at hc
    omega
/-- a legal move, and what it makes of the board -/
def mvK (P : Ps) (a b pr : Nat) : Prop := a < 64 ∧ b < 64 ∧ lgl P a b ∧ (pmt P a b = true ∧ 2 ≤ pr ∧ pr ≤ 5 ∨ pmt P a b = false ∧ pr = 0)
theorem mvs_mvK {P : Ps} {m : Nat} (h : m ∈ mvs P) : mvK P (m % 64) (m / 64 % 64) (m / 4096) := by
  obtain ⟨a, b, k, ha, hb, hl, e, hk⟩ := mem_mvs h
  have h1 : m % 64 = a := by omega
  have h2 : m / 64 % 64 = b := by omega
  have h3 : m / 4096 = k := by omega
  rw [h1, h2, h3]
  exact ⟨ha, hb, hl, hk⟩
theorem own_man {m c : Nat} (hm : m ≤ 12) (hc : c ≤ 1) : sdI m = c ↔ 6 * c + 1 ≤ m ∧ m ≤ 6 * c + 6 := by
  unfold sdI
  split
  · omega
  · split <;> omega
theorem kd_6 {m : Nat} (hm : m ≤ 12) : kd m = 6 ↔ m = 6 ∨ m = 12 := by
  unfold kd
  split <;> omega
theorem kd_1 {m : Nat} (hm : m ≤ 12) : kd m = 1 ↔ m = 1 ∨ m = 7 := by
  unfold kd
  split <;> omega
/-- the numbers of men behind a move -/
theorem hm_mk {P : Ps} (hO : psOk P) {a b pr : Nat} (h : mvK P a b pr) :
    (∀ m, 6 * P.2.1 + 1 ≤ m → m ≤ 6 * P.2.1 + 6 → hm (mkB P a b pr) m + (if pr = 0 then 0 else if m = 6 * P.2.1 + 1 then 1 else 0) = hm P.1 m + (if pr = 0 then 0 else if m = 6 * P.2.1 + pr then 1 else 0)) ∧
    (∀ m, 7 - 6 * P.2.1 ≤ m → m ≤ 12 - 6 * P.2.1 → hm (mkB P a b pr) m ≤ hm P.1 m ∧ (m = 12 - 6 * P.2.1 → hm (mkB P a b pr) m = hm P.1 m)) := by
  obtain ⟨ha, hb, hl, hpr⟩ := h
  obtain ⟨⟨h1, h2, h3, h4, h5⟩, -⟩ := hl
  have hA := hO.1 a ha
  have hB := hO.1 b hb
  have hc := hO.2.1
  have o1 := (own_man hA hc).mp h1
  have o2 : ¬ (6 * P.2.1 + 1 ≤ P.1 b ∧ P.1 b ≤ 6 * P.2.1 + 6) := fun q => h2 ((own_man hB hc).mpr q)
  have o3 : ¬ (P.1 b = 6 ∨ P.1 b = 12) := fun q => h3 ((kd_6 hB).mpr q)
  have hab : a ≠ b := fun q => o2 (by rw [← q]; exact o1)
  have hpw : pr ≠ 0 → P.1 a = 1 + 6 * P.2.1 ∧ 2 ≤ pr ∧ pr ≤ 5 := by
    intro q
    rcases hpr with w | w
    · obtain ⟨w1, w2, w3⟩ := w
      unfold pmt at w1
      simp only [Bool.and_eq_true, decide_eq_true_eq] at w1
      have := (kd_1 hA).mp w1.1
      omega
    · exact absurd w.2 q
  obtain ⟨v, hv⟩ : ∃ v, v = (if pr = 0 then P.1 a else pr + 6 * P.2.1) := ⟨_, rfl⟩
  have hm1 : ∀ m, hm (ub P.1 a 0) m + (if P.1 a = m then 1 else 0) = hm P.1 m + (if 0 = m then 1 else 0) := fun m => hm_ub ha
  have hm2 : ∀ m, hm (ub (ub P.1 a 0) b v) m + (if P.1 b = m then 1 else 0) = hm (ub P.1 a 0) m + (if v = m then 1 else 0) := fun m => by
    have := hm_ub (B := ub P.1 a 0) (v := v) (m := m) hb
    rw [ub_n (fun q => hab q.symm)] at this
    exact this
  have hv2 : pr = 0 ∧ v = P.1 a ∨ pr ≠ 0 ∧ v = pr + 6 * P.2.1 := by
    by_cases q : pr = 0
    · rw [if_pos q] at hv; exact Or.inl ⟨q, hv⟩
    · rw [if_neg q] at hv; exact Or.inr ⟨q, hv⟩
  by_cases kc : cas P a b = true
  · have kp := cas_no_psg kc
    obtain ⟨k6, e, q, -, -⟩ := cas_cst ⟨h1, h2, h3, h4, h5⟩ kc
    have hk := (kd_6 hA).mp k6
    have hp0 : pr = 0 := by
      by_cases z : pr = 0
      · exact z
      · have := (hpw z).1; omega
    have hab2 : ∃ r, r = (if a < b then a + 3 else a - 4) ∧ r < 64 ∧ r ≠ a ∧ r ≠ b ∧ r ≠ (a + b) / 2 ∧ P.1 r = 4 + 6 * P.2.1 ∧ P.1 ((a + b) / 2) = 0 ∧ (a + b) / 2 < 64 ∧ (a + b) / 2 ≠ a ∧ (a + b) / 2 ≠ b := by
      rcases q with ⟨q1, q2, q3, q4⟩ | ⟨q1, q2, q3, q4⟩
      · refine ⟨_, rfl, ?_⟩
        rw [if_pos (by omega)]
        exact ⟨by omega, by omega, by omega, by omega, q3, q4 _ (by omega) (by omega), by omega, by omega, by omega⟩
      · refine ⟨_, rfl, ?_⟩
        rw [if_neg (by omega)]
        exact ⟨by omega, by omega, by omega, by omega, q3, q4 _ (by omega) (by omega), by omega, by omega, by omega⟩
    obtain ⟨r, er, r64, ra, rb, rm, pr4, pm0, m64, ma, mb⟩ := hab2
    rw [mkB_cas kc kp, ← er, ← hv]
    have hm3 : ∀ m, hm (ub (ub (ub P.1 a 0) b v) r 0) m + (if 4 + 6 * P.2.1 = m then 1 else 0) = hm (ub (ub P.1 a 0) b v) m + (if 0 = m then 1 else 0) := fun m => by
      have := hm_ub (B := ub (ub P.1 a 0) b v) (v := 0) (m := m) r64
      rw [ub_n rb, ub_n ra, pr4] at this
      exact this
    have hm4 : ∀ m, hm (ub (ub (ub (ub P.1 a 0) b v) r 0) ((a + b) / 2) (4 + 6 * P.2.1)) m + (if 0 = m then 1 else 0) = hm (ub (ub (ub P.1 a 0) b v) r 0) m + (if 4 + 6 * P.2.1 = m then 1 else 0) := fun m => by
      have := hm_ub (B := ub (ub (ub P.1 a 0) b v) r 0) (v := 4 + 6 * P.2.1) (m := m) m64
      rw [ub_n (fun q => rm q.symm), ub_n mb, ub_n ma, pm0] at this
      exact this
    refine ⟨fun m m1 m2 => ?_, fun m m1 m2 => ?_⟩
    · have z1 := hm1 m
      have z2 := hm2 m
      have z3 := hm3 m
      have z4 := hm4 m
      rw [if_pos hp0, if_pos hp0]
      have hvA : v = P.1 a := by omega
      rw [hvA] at z2 z3 z4 ⊢
      rw [if_neg (show ¬ P.1 b = m by omega)] at z2
      rw [if_neg (show ¬ 0 = m by omega)] at z1 z3 z4
      omega
    · have z1 := hm1 m
      have z2 := hm2 m
      have z3 := hm3 m
      have z4 := hm4 m
      have hvA : v = P.1 a := by omega
      rw [hvA] at z2 z3 z4 ⊢
      rw [if_neg (show ¬ P.1 a = m by omega), if_neg (show ¬ 0 = m by omega)] at z1
      rw [if_neg (show ¬ P.1 a = m by omega)] at z2
      rw [if_neg (show ¬ 0 = m by omega), if_neg (show ¬ 4 + 6 * P.2.1 = m by omega)] at z3 z4
      refine ⟨by omega, fun q => ?_⟩
      rw [if_neg (show ¬ P.1 b = m by omega)] at z2
      omega
  · have kc : cas P a b = false := by simpa using kc
    have fin : ∀ B' : Nat → Nat, (∀ m, 6 * P.2.1 + 1 ≤ m → m ≤ 6 * P.2.1 + 6 → hm B' m = hm (ub (ub P.1 a 0) b v) m) → (∀ m, 7 - 6 * P.2.1 ≤ m → m ≤ 12 - 6 * P.2.1 → hm B' m ≤ hm (ub (ub P.1 a 0) b v) m ∧ (m = 12 - 6 * P.2.1 → hm B' m = hm (ub (ub P.1 a 0) b v) m)) →
        (∀ m, 6 * P.2.1 + 1 ≤ m → m ≤ 6 * P.2.1 + 6 → hm B' m + (if pr = 0 then 0 else if m = 6 * P.2.1 + 1 then 1 else 0) = hm P.1 m + (if pr = 0 then 0 else if m = 6 * P.2.1 + pr then 1 else 0)) ∧
        (∀ m, 7 - 6 * P.2.1 ≤ m → m ≤ 12 - 6 * P.2.1 → hm B' m ≤ hm P.1 m ∧ (m = 12 - 6 * P.2.1 → hm B' m = hm P.1 m)) := by
      intro B' u1 u2
      refine ⟨fun m m1 m2 => ?_, fun m m1 m2 => ?_⟩
      · have z1 := hm1 m
        have z2 := hm2 m
        have z3 := u1 m m1 m2
        rw [if_neg (show ¬ P.1 b = m by omega)] at z2
        rw [if_neg (show ¬ 0 = m by omega)] at z1
        by_cases q : pr = 0
        · rw [if_pos q, if_pos q]
          have hvA : v = P.1 a := by omega
          rw [hvA] at z2 z3
          omega
        · rw [if_neg q, if_neg q]
          obtain ⟨w1, w2, w3⟩ := hpw q
          have hvA : v = pr + 6 * P.2.1 := by omega
          rw [hvA] at z2 z3
          rw [w1] at z1
          by_cases y1 : m = 6 * P.2.1 + 1
          · rw [if_pos y1, if_neg (by omega)]
            rw [if_pos (by omega)] at z1
            rw [if_neg (by omega)] at z2
            omega
          · rw [if_neg y1]
            rw [if_neg (by omega)] at z1
            by_cases y2 : m = 6 * P.2.1 + pr
            · rw [if_pos y2]
              rw [if_pos (by omega)] at z2
              omega
            · rw [if_neg y2]
              rw [if_neg (by omega)] at z2
              omega
      · have z1 := hm1 m
        have z2 := hm2 m
        have z3 := u2 m m1 m2
        have hvn : ¬ v = m := by
          rcases hv2 with q | q
          · omega
          · have := hpw q.1; omega
        rw [if_neg (show ¬ P.1 a = m by omega), if_neg (show ¬ 0 = m by omega)] at z1
        rw [if_neg hvn] at z2
        refine ⟨by omega, fun q => ?_⟩
        rw [if_neg (show ¬ P.1 b = m by omega)] at z2
        have := z3.2 q
        omega
    by_cases kp : psg P a b = true
    · rw [mkB_psg kc kp, ← hv]
      obtain ⟨k1, t1, t2, t3, t4, t5⟩ := psg_tip kp
      have ht3 := t3
      unfold psq at ht3
      obtain ⟨s, es⟩ : ∃ s, s = (if P.2.1 = 0 then b - 8 else b + 8) := ⟨_, rfl⟩
      rw [← es] at t5 ⊢
      have hs : s < 64 ∧ s ≠ a ∧ s ≠ b := by
        split at ht3
        · refine ⟨?_, fun q => ?_, ?_⟩
          · rw [es]; split at ht3 <;> split <;> omega
          · rw [q] at t5; omega
          · rw [es]; split at ht3 <;> split <;> omega
        · omega
      have hm3 : ∀ m, hm (ub (ub (ub P.1 a 0) b v) s 0) m + (if 7 - 6 * P.2.1 = m then 1 else 0) = hm (ub (ub P.1 a 0) b v) m + (if 0 = m then 1 else 0) := fun m => by
        have := hm_ub (B := ub (ub P.1 a 0) b v) (v := 0) (m := m) hs.1
        rw [ub_n hs.2.2, ub_n hs.2.1, t5] at this
        exact this
      refine fin _ (fun m m1 m2 => ?_) (fun m m1 m2 => ?_)
      · have z := hm3 m
        rw [if_neg (show ¬ 7 - 6 * P.2.1 = m by omega), if_neg (show ¬ 0 = m by omega)] at z
        exact z
      · have z := hm3 m
        rw [if_neg (show ¬ 0 = m by omega)] at z
        refine ⟨by omega, fun q => ?_⟩
        rw [if_neg (show ¬ 7 - 6 * P.2.1 = m by omega)] at z
        exact z
    · have kp : psg P a b = false := by simpa using kp
      rw [mkB_ord kc kp, ← hv]
      exact fin _ (fun _ _ _ => rfl) (fun _ _ _ => ⟨Nat.le_refl _, fun _ => rfl⟩)
