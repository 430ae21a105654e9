/-! NOTHING FROM BEFORE A PAWN'S MOVE OR A TAKING COMES BACK -/
def phv (s m : Nat) : Nat := if m = 0 then 0 else if m = 1 then 10 + (7 - s / 8) else if m = 7 then 10 + s / 8 else 1
def phi (B : Nat → Nat) : Nat := cn (fun s => phv s (B s)) 64
theorem phi_cn {B : Nat → Nat} {s v : Nat} : ∀ n, cn (fun i => phv i (ub B s v i)) n + (if s < n then phv s (B s) else 0) = cn (fun i => phv i (B i)) n + (if s < n then phv s v else 0)
  | 0 => rfl
  | n + 1 => by
    have ih := phi_cn (B := B) (s := s) (v := v) n
    simp only [cn]
    rcases Nat.lt_trichotomy s n with q | q | q
    · have e : ub B s v n = B n := ub_n (by omega)
      rw [if_pos q, if_pos q] at ih
      rw [if_pos (show s < n + 1 by omega), if_pos (show s < n + 1 by omega), e]
      omega
    · rw [if_neg (by omega), if_neg (by omega)] at ih
      rw [if_pos (show s < n + 1 by omega), if_pos (show s < n + 1 by omega), q, ub_s]
      rw [q] at ih
      omega
    · have e : ub B s v n = B n := ub_n (by omega)
      rw [if_neg (by omega), if_neg (by omega)] at ih
      rw [if_neg (show ¬ s < n + 1 by omega), if_neg (show ¬ s < n + 1 by omega), e]
      omega
theorem phi_ub {B : Nat → Nat} {s v : Nat} (hs : s < 64) : phi (ub B s v) + phv s (B s) = phi B + phv s v := by
  have h := phi_cn (B := B) (s := s) (v := v) 64
  rw [if_pos hs, if_pos hs] at h
  exact h
theorem phv_pos {s m : Nat} (h : m ≠ 0) : 1 ≤ phv s m := by
  unfold phv
  rw [if_neg h]
  split
  · omega
  · split <;> omega
theorem phv_off {s m : Nat} (h0 : m ≠ 0) (h1 : m ≠ 1) (h7 : m ≠ 7) : phv s m = 1 := by
  unfold phv
  rw [if_neg h0, if_neg h1, if_neg h7]
/-- a legal move lets the potential sink, or keeps it if it is neither a pawn's nor a taking -/
theorem phi_mk {P : Ps} (hG : Gd P) {a b pr : Nat} (h : mvK P a b pr) : phi (mkB P a b pr) ≤ phi P.1 ∧ ((pwn P a || tks P a b) = true → phi (mkB P a b pr) < phi P.1) := by
  have hO := hG.1
  have hc := hO.2.1
  have ha := h.1
  have hb := h.2.1
  have hA := hO.1 a ha
  have own := (own_man hA hc).mp h.2.2.1.1.1
  have hne := mv_ne h
  obtain ⟨v, ev⟩ : ∃ v, v = (if pr = 0 then P.1 a else pr + 6 * P.2.1) := ⟨_, rfl⟩
  have u1 := phi_ub (B := P.1) (v := 0) ha
  have u2 := phi_ub (B := ub P.1 a 0) (v := v) hb
  rw [ub_n (fun q => hne q.symm)] at u2
  have z0 : phv a 0 = 0 := rfl
  have pa := phv_pos (s := a) (show P.1 a ≠ 0 by omega)
  -- what the man that moves loses
  have lose : phv b v ≤ phv a (P.1 a) ∧ (pwn P a = true → phv b v < phv a (P.1 a)) := by
    by_cases hp : pwn P a = true
    · have k1 : kd (P.1 a) = 1 := by unfold pwn at hp; simpa using hp
      have hpa := (kd_1 hA).mp k1
      have pg := h.2.2.1.1.2.2.2.1 k1
      have hup : upI P.2.1 = if P.2.1 = 0 then 8 else -8 := rfl
      -- the pawn goes up by a rank or two
      have rk : (P.2.1 = 0 → a / 8 < b / 8) ∧ (P.2.1 = 1 → b / 8 < a / 8) := by
        unfold pgo at pg
        split at pg
        · rename_i e
          rw [hup] at e
          split at e <;> omega
        · split at pg
          · rename_i e
            rw [hup] at e
            split at e <;> omega
          · have hat : att P.1 a b := by
              rcases pg with q | q
              · exact q.1
              · exact q.2.1
            have := (hat.2.2.1 k1).2
            unfold dR at this
            split at this <;> omega
      have lt : phv b v < phv a (P.1 a) := by
        by_cases p0 : pr = 0
        · rw [ev, if_pos p0]
          rcases hpa with q | q
          · rw [q]
            have := rk.1 (by omega)
            show 10 + (7 - b / 8) < 10 + (7 - a / 8)
            omega
          · rw [q]
            have := rk.2 (by omega)
            show 10 + b / 8 < 10 + a / 8
            omega
        · have hpp := pr_pawn hO h p0
          rw [ev, if_neg p0, phv_off (by omega) (by omega) (by omega)]
          rcases hpa with q | q
          · rw [q]
            show 1 < 10 + (7 - a / 8)
            omega
          · rw [q]
            show 1 < 10 + a / 8
            omega
      exact ⟨Nat.le_of_lt lt, fun _ => lt⟩
    · have p0 : pr = 0 := by
        by_cases q : pr = 0
        · exact q
        · exfalso
          have := pr_pawn hO h q
          apply hp
          unfold pwn
          exact decide_eq_true ((kd_1 hA).mpr (by omega))
      have n1 : ¬ kd (P.1 a) = 1 := fun q => hp (by unfold pwn; exact decide_eq_true q)
      have n17 : P.1 a ≠ 1 ∧ P.1 a ≠ 7 := ⟨fun q => n1 ((kd_1 hA).mpr (Or.inl q)), fun q => n1 ((kd_1 hA).mpr (Or.inr q))⟩
      rw [ev, if_pos p0, phv_off (by omega) n17.1 n17.2, phv_off (by omega) n17.1 n17.2]
      exact ⟨Nat.le_refl _, fun q => absurd q hp⟩
  by_cases kc : cas P a b = true
  · have kp := cas_no_psg kc
    obtain ⟨k6, eh, qq, -, -⟩ := cas_cst h.2.2.1.1 kc
    obtain ⟨r, er⟩ : ∃ r, r = (if a < b then a + 3 else a - 4) := ⟨_, rfl⟩
    have hr : r < 64 ∧ r ≠ a ∧ r ≠ b ∧ r ≠ (a + b) / 2 ∧ P.1 r = 4 + 6 * P.2.1 ∧ P.1 ((a + b) / 2) = 0 ∧ (a + b) / 2 < 64 ∧ (a + b) / 2 ≠ a ∧ (a + b) / 2 ≠ b ∧ P.1 b = 0 := by
      rw [er]
      rcases qq with ⟨q1, q2, q3, q4⟩ | ⟨q1, q2, q3, q4⟩
      · rw [if_pos (by omega)]
        exact ⟨by omega, by omega, by omega, by omega, q3, q4 _ (by omega) (by omega), by omega, by omega, by omega, q4 b (by omega) (by omega)⟩
      · rw [if_neg (by omega)]
        exact ⟨by omega, by omega, by omega, by omega, q3, q4 _ (by omega) (by omega), by omega, by omega, by omega, q4 b (by omega) (by omega)⟩
    obtain ⟨r64, ra, rb, rm, r4, m0, m64, ma, mb, hb0⟩ := hr
    rw [mkB_cas kc kp, ← er, ← ev]
    have u3 := phi_ub (B := ub (ub P.1 a 0) b v) (v := 0) r64
    have u4 := phi_ub (B := ub (ub (ub P.1 a 0) b v) r 0) (v := 4 + 6 * P.2.1) m64
    rw [ub_n rb, ub_n ra, r4] at u3
    rw [ub_n (fun q => rm q.symm), ub_n mb, ub_n ma, m0] at u4
    rw [phv_off (show 4 + 6 * P.2.1 ≠ 0 by omega) (by omega) (by omega)] at u3 u4
    have e0 : phv r 0 = 0 := rfl
    have e1 : phv ((a + b) / 2) 0 = 0 := rfl
    rw [hb0, show phv b 0 = 0 from rfl] at u2
    refine ⟨by omega, fun q => ?_⟩
    rw [Bool.or_eq_true] at q
    rcases q with q | q
    · have := lose.2 q; omega
    · unfold tks at q
      rw [kp, hb0] at q
      exact absurd q (by decide)
  · have kc : cas P a b = false := by simpa using kc
    by_cases kp : psg P a b = true
    · have hz := psg_sq hO kp
      rw [mkB_psg kc kp, ← ev]
      have u3 := phi_ub (B := ub (ub P.1 a 0) b v) (v := 0) hz.2.2.2.2.1
      rw [ub_n hz.2.2.2.2.2.1, ub_n hz.2.2.2.2.2.2] at u3
      have pc := phv_pos (s := whr P a b) (show P.1 (whr P a b) ≠ 0 by rw [hz.2.2.2.1]; omega)
      have e0 : phv (whr P a b) 0 = 0 := rfl
      rw [hz.2.2.1, show phv b 0 = 0 from rfl] at u2
      have u3' : phi (ub (ub (ub P.1 a 0) b v) (if P.2.1 = 0 then b - 8 else b + 8) 0) + phv (whr P a b) (P.1 (whr P a b)) = phi (ub (ub P.1 a 0) b v) + phv (whr P a b) 0 := u3
      exact ⟨by omega, fun _ => by omega⟩
    · have kp' : psg P a b = false := by simpa using kp
      rw [mkB_ord kc kp', ← ev]
      refine ⟨by omega, fun q => ?_⟩
      rw [Bool.or_eq_true] at q
      rcases q with q | q
      · have := lose.2 q; omega
      · unfold tks at q
        rw [kp', Bool.false_or, decide_eq_true_eq] at q
        have := phv_pos (s := b) (show P.1 b ≠ 0 by omega)
        omega
theorem gm_phi {G : Gm} (hG : gmOk G) : ∀ (d j : Nat), j + d < G.1 → phi (G.2.1 (j + d)).1 ≤ phi (G.2.1 j).1
  | 0, j, _ => Nat.le_refl _
  | d + 1, j, h => by
    have ih := gm_phi hG d j (by omega)
    obtain ⟨m, hm, e, -⟩ := hG.2.2.2 (j + d) (by omega)
    have hg := (hG.2.2.1 (j + d) (by omega)).1
    have := (phi_mk hg (mvs_mvK hm)).1
    rw [show j + (d + 1) = j + d + 1 by omega, e]
    exact Nat.le_trans this ih
/-- either the clock has run on, or the potential has sunk -/
theorem gm_clk {G : Gm} (hG : gmOk G) : ∀ (d j : Nat), j + d < G.1 → d ≤ (G.2.1 (j + d)).2.2.2.2.1 ∨ phi (G.2.1 (j + d)).1 < phi (G.2.1 j).1
  | 0, j, _ => Or.inl (Nat.zero_le _)
  | d + 1, j, h => by
    obtain ⟨m, hm, e, -⟩ := hG.2.2.2 (j + d) (by omega)
    have hg := (hG.2.2.1 (j + d) (by omega)).1
    have ph := phi_mk hg (mvs_mvK hm)
    have hle := gm_phi hG d j (by omega)
    rw [show j + (d + 1) = j + d + 1 by omega, e]
    by_cases q : (pwn (G.2.1 (j + d)) (m % 64) || tks (G.2.1 (j + d)) (m % 64) (m / 64 % 64)) = true
    · exact Or.inr (Nat.lt_of_lt_of_le (ph.2 q) hle)
    · have ec : (mkM (G.2.1 (j + d)) m).2.2.2.2.1 = (G.2.1 (j + d)).2.2.2.2.1 + 1 := by
        show (if _ then 0 else _) = _
        rw [if_neg q]
      rcases gm_clk hG d j (by omega) with w | w
      · exact Or.inl (by rw [ec]; omega)
      · exact Or.inr (Nat.lt_of_le_of_lt ph.1 w)
theorem phi_congr {B D : Nat → Nat} (h : ∀ s, s < 64 → B s = D s) : phi B = phi D := by
  unfold phi
  exact cn_congr 64 (fun i hi => by rw [h i hi])
theorem same_men {P R : Ps} (hP : psOk P) (hR : psOk R) (h : same P R) : ∀ s, s < 64 → P.1 s = R.1 s := by
  intro s hs
  have := h.2 s (by omega)
  unfold psI at this
  rw [if_pos hs, if_pos hs] at this
  exact (nI_eq (by have := hP.1 s hs; omega) (by have := hR.1 s hs; omega)).mp this
theorem no_back {G : Gm} (hG : gmOk G) {i j : Nat} (hi : i < G.1) (hj : j + (G.2.1 i).2.2.2.2.1 < i) : ¬ same (G.2.1 j) (G.2.1 i) := by
  intro hs
  have h1 := (hG.2.2.1 j (by omega)).1.1
  have h2 := (hG.2.2.1 i hi).1.1
  have e := phi_congr (same_men h1 h2 hs)
  have := gm_clk hG (i - j) j (by omega)
  rw [show j + (i - j) = i by omega] at this
  omega
theorem same_sym {P R : Ps} (h : same P R) : same R P := ⟨h.1.symm, fun k hk => (h.2 k hk).symm⟩
theorem same_tr {P R S : Ps} (h : same P R) (h2 : same R S) : same P S := ⟨h.1.trans h2.1, fun k hk => (h.2 k hk).trans (h2.2 k hk)⟩
theorem sameN_1 {P R : Ps} : sameN P R = 1 ↔ same P R := by
  unfold sameN
  split
  · rename_i h; exact ⟨fun _ => h, fun _ => rfl⟩
  · rename_i h; exact ⟨fun q => absurd q (by decide), fun q => absurd q h⟩
theorem sameN_c {P R S : Ps} (h : same P R) : sameN P S = sameN R S := by
  by_cases q : same P S
  · rw [sameN_1.mpr q, sameN_1.mpr (same_tr (same_sym h) q)]
  · have n1 : sameN P S ≠ 1 := fun w => q (sameN_1.mp w)
    have n2 : sameN R S ≠ 1 := fun w => q (same_tr h (sameN_1.mp w))
    have := sameN_le P S
    have := sameN_le R S
    omega
theorem same_rf (P : Ps) : same P P := ⟨rfl, fun _ _ => rfl⟩
theorem cn_zero {f : Nat → Nat} : ∀ n, (∀ i, i < n → f i = 0) → cn f n = 0
  | 0, _ => rfl
  | n + 1, h => by
    simp only [cn]
    rw [cn_zero n (fun i hi => h i (by omega)), h n (by omega)]
theorem cn_cut {f : Nat → Nat} (k : Nat) : ∀ n, k ≤ n → (∀ i, k ≤ i → i < n → f i = 0) → cn f n = cn f k
  | 0, h, _ => by rw [show k = 0 by omega]
  | n + 1, h, hz => by
    by_cases q : k = n + 1
    · rw [q]
    · simp only [cn]
      rw [cn_cut k n (by omega) (fun i a b => hz i a (by omega)), hz n (by omega) (by omega)]
      rfl
/-- how often a position has stood, by the latest that is the same -/
theorem cnt_step {ps : Nat → Ps} {i : Nat} : ((∀ j, j < i → ¬ same (ps j) (ps i)) → cnt ps i = 1) ∧ ∀ k, k < i → same (ps k) (ps i) → (∀ j, k < j → j < i → ¬ same (ps j) (ps i)) → cnt ps i = cnt ps k + 1 := by
  have e1 : sameN (ps i) (ps i) = 1 := sameN_1.mpr (same_rf _)
  have z : ∀ j, ¬ same (ps j) (ps i) → sameN (ps i) (ps j) = 0 := by
    intro j h
    have n1 : sameN (ps i) (ps j) ≠ 1 := fun w => h (same_sym (sameN_1.mp w))
    have := sameN_le (ps i) (ps j)
    omega
  constructor
  · intro h
    unfold cnt
    simp only [cn]
    rw [cn_zero i (fun j hj => z j (h j hj)), e1]
  · intro k hk hs h
    unfold cnt
    simp only [cn]
    have e2 := cn_cut (f := fun j => sameN (ps i) (ps j)) (k + 1) i (by omega) (fun j a b => z j (h j (by omega) b))
    simp only [cn] at e2
    rw [e2, e1]
    have e3 : cn (fun j => sameN (ps i) (ps j)) k = cn (fun j => sameN (ps k) (ps j)) k := cn_congr k (fun j hj => sameN_c (same_sym hs))
    rw [e3, sameN_1.mpr (same_sym hs), sameN_1.mpr (same_rf (ps k))]
theorem fs_none {ps : Nat → Ps} {i : Nat} : ∀ f j, j + f = i → (∀ t, j ≤ t → t < i → ¬ same (ps i) (ps t)) → fsS ps i f j = i
  | 0, j, h, _ => h
  | f + 1, j, h, hn => by
    unfold fsS
    rw [if_neg (hn j (Nat.le_refl _) (by omega))]
    exact fs_none f (j + 1) (by omega) (fun t a b => hn t (by omega) b)
theorem fs_same {ps : Nat → Ps} {i k : Nat} (hki : k < i) (hs : same (ps k) (ps i)) : ∀ f j, j + f = k → fsS ps i (i - j) j = fsS ps k f j
  | 0, j, h => by
    obtain ⟨d, hd⟩ : ∃ d, i - j = d + 1 := ⟨i - j - 1, by omega⟩
    rw [hd]
    unfold fsS
    have : j = k := h
    rw [if_pos (by rw [this]; exact same_sym hs)]
  | f + 1, j, h => by
    obtain ⟨d, hd⟩ : ∃ d, i - j = d + 1 := ⟨i - j - 1, by omega⟩
    have ih := fs_same hki hs f (j + 1) (by omega)
    rw [hd]
    unfold fsS
    by_cases q : same (ps i) (ps j)
    · rw [if_pos q, if_pos (same_tr hs q)]
    · rw [if_neg q, if_neg (fun w => q (same_tr (same_sym hs) w)), show d = i - (j + 1) by omega]
      exact ih
