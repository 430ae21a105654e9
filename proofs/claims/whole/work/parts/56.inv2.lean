/-! A right position stays right: squares, rights, passing, check -/
def Gd (P : Ps) : Prop := psOk P ∧ (hm P.1 6 = 1 ∧ hm P.1 12 = 1) ∧ menOk P.1 ∧ rgtOk P ∧ pstOk P ∧ ¬ chk P.1 (1 - P.2.1)
theorem rcF_0 {P : Ps} (hO : psOk P) : rcF P = 0 ↔ Gd P := by
  unfold rcF Gd
  constructor
  · intro h
    split at h
    · omega
    · rename_i h1
      split at h
      · rename_i h2
        split at h
        · rename_i h3
          split at h
          · rename_i h4
            split at h
            · omega
            · rename_i h5
              exact ⟨hO, by omega, h2, h3, h4, fun q => h5 (ckB_t.mpr q)⟩
          · omega
        · omega
      · omega
  · rintro ⟨-, h1, h2, h3, h4, h5⟩
    rw [if_neg (by omega), if_pos h2, if_pos h3, if_pos h4, if_neg (fun q => h5 (ckB_t.mp q))]
/-- what of a move's squares is known -/
theorem mk_sq {P : Ps} (hO : psOk P) {a b pr : Nat} (h : mvK P a b pr) (s : Nat) : s = b ∨ s = a ∨ mkB P a b pr s = P.1 s ∨ psg P a b = true ∧ P.1 s = 7 - 6 * P.2.1 ∧ mkB P a b pr s = 0 ∨ cas P a b = true ∧ (P.1 s = 0 ∧ mkB P a b pr s = 4 + 6 * P.2.1 ∨ P.1 s = 4 + 6 * P.2.1 ∧ mkB P a b pr s = 0) := by
  obtain ⟨ha, hb, hl, hpr⟩ := h
  by_cases sb : s = b
  · exact Or.inl sb
  by_cases sa : s = a
  · exact Or.inr (Or.inl sa)
  refine Or.inr (Or.inr ?_)
  by_cases kc : cas P a b = true
  · have kp := cas_no_psg kc
    obtain ⟨k6, e, q, -, -⟩ := cas_cst hl.1 kc
    rw [mkB_cas kc kp]
    by_cases s1 : s = (a + b) / 2
    · refine Or.inr (Or.inr ⟨kc, Or.inl ⟨?_, by rw [s1, ub_s]⟩⟩)
      rw [s1]
      rcases q with ⟨q1, q2, q3, q4⟩ | ⟨q1, q2, q3, q4⟩
      · exact q4 _ (by omega) (by omega)
      · exact q4 _ (by omega) (by omega)
    · rw [ub_n s1]
      by_cases s2 : s = (if a < b then a + 3 else a - 4)
      · refine Or.inr (Or.inr ⟨kc, Or.inr ⟨?_, by rw [← s2, ub_s]⟩⟩)
        rcases q with ⟨q1, q2, q3, q4⟩ | ⟨q1, q2, q3, q4⟩
        · rw [if_pos (by omega)] at s2
          rw [s2]; exact q3
        · rw [if_neg (by omega)] at s2
          rw [s2]; exact q3
      · rw [ub_n s2, ub_n sb, ub_n sa]
        exact Or.inl rfl
  · have kc : cas P a b = false := by simpa using kc
    by_cases kp : psg P a b = true
    · rw [mkB_psg kc kp]
      obtain ⟨k1, t1, t2, t3, t4, t5⟩ := psg_tip kp
      by_cases s1 : s = (if P.2.1 = 0 then b - 8 else b + 8)
      · rw [← s1] at t5
        exact Or.inr (Or.inl ⟨kp, t5, by rw [← s1, ub_s]⟩)
      · rw [ub_n s1, ub_n sb, ub_n sa]
        exact Or.inl rfl
    · have kp : psg P a b = false := by simpa using kp
      rw [mkB_ord kc kp, ub_n sb, ub_n sa]
      exact Or.inl rfl
theorem mk_a {P : Ps} {a b pr : Nat} (h : mvK P a b pr) (hne : a ≠ b) : mkB P a b pr a = 0 := by
  obtain ⟨ha, hb, hl, hpr⟩ := h
  by_cases kc : cas P a b = true
  · have kp := cas_no_psg kc
    obtain ⟨k6, e, q, -, -⟩ := cas_cst hl.1 kc
    rw [mkB_cas kc kp, ub_n (by omega), ub_n (by split <;> omega), ub_n hne, ub_s]
  · have kc : cas P a b = false := by simpa using kc
    by_cases kp : psg P a b = true
    · rw [mkB_psg kc kp]
      by_cases s1 : a = (if P.2.1 = 0 then b - 8 else b + 8)
      · rw [← s1, ub_s]
      · rw [ub_n s1, ub_n hne, ub_s]
    · have kp : psg P a b = false := by simpa using kp
      rw [mkB_ord kc kp, ub_n hne, ub_s]
theorem mk_b {P : Ps} {a b pr : Nat} (h : mvK P a b pr) : mkB P a b pr b = if pr = 0 then P.1 a else pr + 6 * P.2.1 := by
  obtain ⟨ha, hb, hl, hpr⟩ := h
  by_cases kc : cas P a b = true
  · have kp := cas_no_psg kc
    obtain ⟨k6, e, q, -, -⟩ := cas_cst hl.1 kc
    rw [mkB_cas kc kp, ub_n (by omega), ub_n (by split <;> omega), ub_s]
  · have kc : cas P a b = false := by simpa using kc
    by_cases kp : psg P a b = true
    · rw [mkB_psg kc kp]
      obtain ⟨k1, t1, t2, t3, t4, t5⟩ := psg_tip kp
      unfold psq at t3
      have : b ≠ (if P.2.1 = 0 then b - 8 else b + 8) := by
        split at t3
        · split at t3 <;> split <;> omega
        · omega
      rw [ub_n this, ub_s]
    · have kp : psg P a b = false := by simpa using kp
      rw [mkB_ord kc kp, ub_s]
theorem mv_ne {P : Ps} {a b pr : Nat} (h : mvK P a b pr) : a ≠ b := by
  rintro rfl
  exact h.2.2.1.1.2.1 h.2.2.1.1.1
theorem pr_pawn {P : Ps} (hO : psOk P) {a b pr : Nat} (h : mvK P a b pr) (hp : pr ≠ 0) : P.1 a = 1 + 6 * P.2.1 ∧ 2 ≤ pr ∧ pr ≤ 5 ∧ (b < 8 ∨ 55 < b) := by
  have hA := hO.1 a h.1
  have o1 := (own_man hA hO.2.1).mp h.2.2.1.1.1
  rcases h.2.2.2 with w | w
  · obtain ⟨w1, w2, w3⟩ := w
    unfold pmt at w1
    simp only [Bool.and_eq_true, Bool.or_eq_true, decide_eq_true_eq] at w1
    have := (kd_1 hA).mp w1.1
    omega
  · exact absurd w.2 hp
theorem men_mk {P : Ps} (hO : psOk P) (hk : menOk P.1) {a b pr : Nat} (h : mvK P a b pr) : menOk (mkB P a b pr) := by
  have hc := hO.2.1
  obtain ⟨n1, n2⟩ := hm_mk hO h
  have hne := mv_ne h
  refine ⟨?_, ?_⟩
  · have key : ∀ s, (s < 8 ∨ 55 < s) → s < 64 → kd (P.1 s) ≠ 1 → kd (mkB P a b pr s) ≠ 1 := by
      intro s hs h64 hP
      rcases mk_sq hO h s with q | q | q | q | q
      · rw [q, mk_b h]
        by_cases p0 : pr = 0
        · rw [if_pos p0]
          intro k1
          have hpm : pmt P a b = true := by
            unfold pmt
            simp only [Bool.and_eq_true, Bool.or_eq_true, decide_eq_true_eq]
            exact ⟨k1, by omega⟩
          rcases h.2.2.2 with w | w
          · omega
          · rw [hpm] at w; exact absurd w.1 (by decide)
        · rw [if_neg p0]
          have := pr_pawn hO h p0
          unfold kd
          split <;> omega
      · rw [q, mk_a h hne]
        decide
      · rw [q]; exact hP
      · rw [q.2.2]; decide
      · rcases q.2 with w | w
        · rw [w.2]
          unfold kd
          split <;> omega
        · rw [w.2]; decide
    intro f hf
    exact ⟨key f (by omega) (by omega) (hk.1 f hf).1, key (56 + f) (by omega) (by omega) (hk.1 f hf).2⟩
  · have own : wgt (mkB P a b pr) P.2.1 ≤ wgt P.1 P.2.1 := by
      have z1 := n1 (6 * P.2.1 + 1) (by omega) (by omega)
      have z2 := n1 (6 * P.2.1 + 2) (by omega) (by omega)
      have z3 := n1 (6 * P.2.1 + 3) (by omega) (by omega)
      have z4 := n1 (6 * P.2.1 + 4) (by omega) (by omega)
      have z5 := n1 (6 * P.2.1 + 5) (by omega) (by omega)
      unfold wgt
      by_cases p0 : pr = 0
      · rw [if_pos p0, if_pos p0] at z1 z2 z3 z4 z5
        omega
      · rw [if_neg p0, if_neg p0] at z1 z2 z3 z4 z5
        have := pr_pawn hO h p0
        rw [if_pos rfl, if_neg (by omega)] at z1
        rw [if_neg (by omega)] at z2 z3 z4 z5
        split at z2 <;> split at z3 <;> split at z4 <;> split at z5 <;> omega
    have opp : wgt (mkB P a b pr) (1 - P.2.1) ≤ wgt P.1 (1 - P.2.1) := by
      have z1 := (n2 (6 * (1 - P.2.1) + 1) (by omega) (by omega)).1
      have z2 := (n2 (6 * (1 - P.2.1) + 2) (by omega) (by omega)).1
      have z3 := (n2 (6 * (1 - P.2.1) + 3) (by omega) (by omega)).1
      have z4 := (n2 (6 * (1 - P.2.1) + 4) (by omega) (by omega)).1
      have z5 := (n2 (6 * (1 - P.2.1) + 5) (by omega) (by omega)).1
      unfold wgt
      omega
    have h0 := hk.2.1
    have h1 := hk.2.2
    rcases (show P.2.1 = 0 ∨ P.2.1 = 1 by omega) with q | q
    · rw [q] at own opp
      exact ⟨Nat.le_trans own h0, Nat.le_trans opp h1⟩
    · rw [q] at own opp
      exact ⟨Nat.le_trans opp h0, Nat.le_trans own h1⟩
theorem king_mk {P : Ps} (hO : psOk P) (hk : hm P.1 6 = 1 ∧ hm P.1 12 = 1) {a b pr : Nat} (h : mvK P a b pr) : hm (mkB P a b pr) 6 = 1 ∧ hm (mkB P a b pr) 12 = 1 := by
  have hc := hO.2.1
  obtain ⟨n1, n2⟩ := hm_mk hO h
  have own : hm (mkB P a b pr) (6 * P.2.1 + 6) = hm P.1 (6 * P.2.1 + 6) := by
    have z := n1 (6 * P.2.1 + 6) (by omega) (by omega)
    by_cases p0 : pr = 0
    · rw [if_pos p0, if_pos p0] at z
      exact z
    · rw [if_neg p0, if_neg p0] at z
      have := pr_pawn hO h p0
      rw [if_neg (by omega), if_neg (by omega)] at z
      exact z
  have opp := (n2 (12 - 6 * P.2.1) (by omega) (by omega)).2 rfl
  rcases (show P.2.1 = 0 ∨ P.2.1 = 1 by omega) with q | q
  · rw [q] at own opp
    exact ⟨own.trans hk.1, opp.trans hk.2⟩
  · rw [q] at own opp
    exact ⟨opp.trans hk.1, own.trans hk.2⟩
theorem wo_bit : ∀ r, r < 16 → ∀ w, w < 16 → ∀ k, k < 4 → wo r w / 2 ^ k % 2 ≠ 0 → r / 2 ^ k % 2 ≠ 0 ∧ w / 2 ^ k % 2 = 0 := by decide +kernel
theorem crn_bit : ∀ s, s < 64 → ∀ k, k < 4 → crn s / 2 ^ k % 2 = 0 → s ≠ 56 * (k / 2) + (if k % 2 = 0 then 7 else 0) := by decide +kernel
theorem rgt_mk {P : Ps} (hO : psOk P) (hk : rgtOk P) {a b pr : Nat} (h : mvK P a b pr) : rgtOk (mkP P a b pr) := by
  intro k hk4
  have hc := hO.2.1
  have hr := hO.2.2.1
  by_cases hb0 : (mkP P a b pr).2.2.1 / 2 ^ k % 2 = 0
  · exact Or.inr hb0
  refine Or.inl ?_
  have hb0 : mkR P a b / 2 ^ k % 2 ≠ 0 := hb0
  unfold mkR at hb0
  obtain ⟨r0, er0⟩ : ∃ r0, r0 = (if kd (P.1 a) = 6 then wo P.2.2.1 (3 * 4 ^ P.2.1) else P.2.2.1) := ⟨_, rfl⟩
  rw [← er0] at hb0
  have w3 : 3 * 4 ^ P.2.1 < 16 := by rcases (show P.2.1 = 0 ∨ P.2.1 = 1 by omega) with q | q <;> rw [q] <;> decide
  have r16 : r0 < 16 := by
    rw [er0]
    split
    · exact (wo_and _ hr _ w3).2
    · exact hr
  have ca := crn_lt a
  have cb := crn_lt b
  have hx := wo_bit _ ((wo_and _ r16 _ ca).2) _ cb k hk4 hb0
  have hy := wo_bit _ r16 _ ca k hk4 hx.1
  have ha := crn_bit a h.1 k hk4 hy.2
  have hb := crn_bit b h.2.1 k hk4 hx.2
  have hz : P.2.2.1 / 2 ^ k % 2 ≠ 0 ∧ (kd (P.1 a) = 6 → k / 2 ≠ P.2.1) := by
    have q := hy.1
    rw [er0] at q
    split at q
    · have z := wo_bit _ hr _ w3 k hk4 q
      refine ⟨z.1, fun _ e => ?_⟩
      have z2 := z.2
      rw [← e] at z2
      exact absurd z2 ((by decide : ∀ k, k < 4 → ¬ 3 * 4 ^ (k / 2) / 2 ^ k % 2 = 0) k hk4)
    · rename_i hn
      exact ⟨q, fun e => absurd e hn⟩
  obtain ⟨g1, g2⟩ : rhm P k := by
    rcases hk k hk4 with q | q
    · exact q
    · exact absurd q hz.1
  have hA := hO.1 a h.1
  have hB := hO.1 b h.2.1
  have own := (own_man hA hc).mp h.2.2.1.1.1
  have nk := h.2.2.1.1.2.2.1
  have hk2 : k / 2 ≤ 1 := by omega
  have kcas : cas P a b = true → k / 2 ≠ P.2.1 := fun q => hz.2 (cas_cst h.2.2.1.1 q).1
  constructor
  · show mkB P a b pr (56 * (k / 2) + 4) = 6 + 6 * (k / 2)
    rcases mk_sq hO h (56 * (k / 2) + 4) with q | q | q | q | q
    · exfalso
      rw [q] at g1
      exact nk ((kd_6 hB).mpr (by omega))
    · exfalso
      rw [q] at g1
      have := hz.2 ((kd_6 hA).mpr (by omega))
      omega
    · rw [q]; exact g1
    · exfalso; omega
    · exfalso
      omega
  · show mkB P a b pr (56 * (k / 2) + (if k % 2 = 0 then 7 else 0)) = 4 + 6 * (k / 2)
    rcases mk_sq hO h (56 * (k / 2) + (if k % 2 = 0 then 7 else 0)) with q | q | q | q | q
    · exact absurd q.symm hb
    · exact absurd q.symm ha
    · rw [q]; exact g2
    · exfalso; omega
    · exfalso
      have := kcas q.1
      omega
theorem pst_mk {P : Ps} (hO : psOk P) {a b pr : Nat} (h : mvK P a b pr) : pstOk (mkP P a b pr) := by
  have hc := hO.2.1
  have hA := hO.1 a h.1
  have hne := mv_ne h
  by_cases ht : two P a b = true
  rotate_left
  · left
    show (if (lft P a b pr || rgt P a b pr) = true then b % 8 else 8) = 8
    rw [if_neg]
    unfold lft rgt
    simp [ht]
  by_cases hlr : (lft P a b pr || rgt P a b pr) = true
  rotate_left
  · left
    show (if (lft P a b pr || rgt P a b pr) = true then b % 8 else 8) = 8
    rw [if_neg hlr]
  right
  unfold two pwn at ht
  simp only [Bool.and_eq_true, Bool.or_eq_true, decide_eq_true_eq] at ht
  obtain ⟨k1, hab⟩ := ht
  have own := (own_man hA hc).mp h.2.2.1.1.1
  have pa := (kd_1 hA).mp k1
  have pg := h.2.2.1.1.2.2.2.1 k1
  have nat : ¬ att P.1 a b := by
    intro q
    have := q.2.2.1 k1
    unfold aI dF dR at this
    obtain ⟨h1, h2⟩ := this
    split at h1 <;> split at h2 <;> omega
  unfold pgo at pg
  have hup : upI P.2.1 = if P.2.1 = 0 then 8 else -8 := rfl
  split at pg
  · exfalso
    rename_i e
    rw [hup] at e
    split at e <;> omega
  split at pg
  rotate_left
  · exfalso
    rcases pg with q | q
    · exact nat q.1
    · exact nat q.2.1
  rename_i e1 e2
  obtain ⟨g1, g2, g3⟩ := pg
  have hp0 : pr = 0 := by
    by_cases q : pr = 0
    · exact q
    · have := pr_pawn hO h q
      split at g1 <;> omega
  have hclk : (mkP P a b pr).2.2.2.2.1 = 0 := by
    show (if (pwn P a || tks P a b) = true then 0 else P.2.2.2.2.1 + 1) = 0
    rw [if_pos]
    unfold pwn
    simp [k1]
  have hps : (mkP P a b pr).2.2.2.1 = b % 8 := by
    show (if (lft P a b pr || rgt P a b pr) = true then b % 8 else 8) = b % 8
    rw [if_pos hlr]
  have hsd : (mkP P a b pr).2.1 = 1 - P.2.1 := rfl
  rw [hps, hsd]
  have hm0 : ∀ s, s ≠ a → s ≠ b → P.1 s = 0 → mkB P a b pr s = 0 := by
    intro s sa sb s0
    rcases mk_sq hO h s with q | q | q | q | q
    · exact absurd q sb
    · exact absurd q sa
    · rw [q]; exact s0
    · exact q.2.2
    · have := (cas_cst h.2.2.1.1 q.1).1
      omega
  have hbv : mkB P a b pr b = P.1 a := by rw [mk_b h, if_pos hp0]
  have hav : mkB P a b pr a = 0 := mk_a h hne
  rcases (show P.2.1 = 0 ∨ P.2.1 = 1 by omega) with q | q
  · rw [q] at e2 g1 g2 ⊢
    have u0 : upI 0 = 8 := rfl
    rw [u0] at e2 g2
    rw [if_pos rfl] at g1
    refine ⟨?_, ?_, ?_, hclk⟩
    · show mkB P a b pr (24 + b % 8) = 1
      rw [show 24 + b % 8 = b by omega, hbv]
      omega
    · show mkB P a b pr (16 + b % 8) = 0
      refine hm0 _ (by omega) (by omega) ?_
      rw [show 16 + b % 8 = ((a : Int) + 8).toNat by omega]
      exact g2
    · show mkB P a b pr (8 + b % 8) = 0
      rw [show 8 + b % 8 = a by omega]
      exact hav
  · rw [q] at e2 g1 g2 ⊢
    have u0 : upI 1 = -8 := rfl
    rw [u0] at e2 g2
    rw [if_neg (by omega)] at g1
    refine ⟨?_, ?_, ?_, hclk⟩
    · show mkB P a b pr (32 + b % 8) = 7
      rw [show 32 + b % 8 = b by omega, hbv]
      omega
    · show mkB P a b pr (40 + b % 8) = 0
      refine hm0 _ (by omega) (by omega) ?_
      rw [show 40 + b % 8 = ((a : Int) + -8).toNat by omega]
      exact g2
    · show mkB P a b pr (48 + b % 8) = 0
      rw [show 48 + b % 8 = a by omega]
      exact hav
