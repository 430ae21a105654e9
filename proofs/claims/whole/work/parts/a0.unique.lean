/-! TWO LEGAL MOVES HAVE TWO SPELLINGS -/
theorem ltr_ge (m : Nat) : 66 ≤ ltr m := by
  unfold ltr
  split
  · split <;> omega
  · split
    · split <;> omega
    · split
      · split <;> omega
      · split
        · split <;> omega
        · split
          · split <;> omega
          · split <;> omega
theorem spl_head (P : Ps) (m : Nat) : ∃ x t, spl P m = x :: t ∧ x ≠ 0 := by
  unfold spl
  split
  · exact ⟨48, [45, 48], rfl, by omega⟩
  split
  · exact ⟨48, [45, 48, 45, 48], rfl, by omega⟩
  split
  · split
    · exact ⟨97 + m / 64 % 64 % 8, _, rfl, by omega⟩
    · exact ⟨97 + m % 64 % 8, _, rfl, by omega⟩
  · have := ltr_ge (kd (P.1 (m % 64)))
    exact ⟨ltr (kd (P.1 (m % 64))), _, rfl, by omega⟩
theorem ltr_26 : ∀ k, k ≤ 6 → ∀ j, j ≤ 6 → 1 ≤ k → 1 ≤ j → ltr k = ltr j → k = j := by decide
theorem ltr_up : ∀ k, k ≤ 6 → ltr k ≤ 82 := by decide
theorem fm_head {T : Nat → Nat} {a n : Nat} (h : fmS T a n ≠ 0) : 0 < n ∧ T a ≠ 0 := by
  unfold fmS at h
  by_cases hc : caS T a n
  · have := hc.2 0 (by have := hc.1; omega)
    rw [Nat.add_zero, if_pos rfl] at this
    exact ⟨by have := hc.1; omega, by omega⟩
  rw [if_neg hc] at h
  by_cases hm : 0 < n ∧ (T a = 75 ∨ isO (T a))
  · refine ⟨hm.1, ?_⟩
    rcases hm.2 with q | q | q | q | q <;> omega
  rw [if_neg hm] at h
  by_cases hp : pfS T a (a + n)
  · obtain ⟨f1, f2, f3⟩ := hp
    unfold pw1 at f1 f2
    by_cases q : 2 < a + n - a ∧ isF (T a) ∧ T (a + 1) = 120
    · have := q.2.1
      unfold isF at this
      exact ⟨by omega, by omega⟩
    · rw [if_neg q] at f1 f2
      unfold isF at f2
      refine ⟨?_, by omega⟩
      unfold pw2 at f1
      split at f1 <;> omega
  · rw [if_neg hp] at h; exact absurd rfl h
/-- what of a move is known -/
theorem mv_ext {m u : Nat} {P : Ps} (hm : m ∈ mvs P) (hu : u ∈ mvs P) (h1 : m % 64 = u % 64) (h2 : m / 64 % 64 = u / 64 % 64) (h3 : m / 4096 = u / 4096) : m = u := by
  have e1 := (mvs_parts hm).2.2.2.2
  have e2 := (mvs_parts hu).2.2.2.2
  omega
theorem spl_cas {P : Ps} {m : Nat} (h : cstl P m ≠ 0) : spl P m = casL 3 ∧ cstl P m = 1 ∨ spl P m = casL 5 ∧ cstl P m = 2 := by
  have hh : cstl P m = 1 ∨ cstl P m = 2 := by
    unfold cstl at h ⊢
    split
    · exact Or.inl rfl
    · rename_i z
      rw [if_neg z] at h
      split
      · exact Or.inr rfl
      · rename_i z2
        rw [if_neg z2] at h
        exact absurd rfl h
  unfold spl
  rcases hh with q | q
  · exact Or.inl ⟨if_pos q, q⟩
  · exact Or.inr ⟨by rw [if_neg (by omega), if_pos q], q⟩
theorem spl_pw {P : Ps} {m : Nat} (h : cstl P m = 0) (hk : kd (P.1 (m % 64)) = 1) : spl P m = (if m % 64 % 8 = m / 64 % 64 % 8 then [] else [97 + m % 64 % 8, 120]) ++ [97 + m / 64 % 64 % 8, 49 + m / 64 % 64 / 8] ++ (if 0 < m / 4096 then [ltr (m / 4096)] else []) := by
  unfold spl
  rw [if_neg (by omega), if_neg (by omega), if_pos hk]
theorem spl_mn {P : Ps} {m : Nat} (h : cstl P m = 0) (hk : ¬ kd (P.1 (m % 64)) = 1) : spl P m = [ltr (kd (P.1 (m % 64)))] ++ orgL P m ++ (if 0 < P.1 (m / 64 % 64) then [120] else []) ++ [97 + m / 64 % 64 % 8, 49 + m / 64 % 64 / 8] := by
  unfold spl
  rw [if_neg (by omega), if_neg (by omega), if_neg hk]
  rfl
theorem head_cas {P : Ps} {m : Nat} (h : cstl P m ≠ 0) : (spl P m).head? = some 48 := by
  rcases spl_cas h with q | q <;> rw [q.1] <;> rfl
theorem head_pw {P : Ps} {m : Nat} (h : cstl P m = 0) (hk : kd (P.1 (m % 64)) = 1) : ∃ x, (spl P m).head? = some x ∧ 97 ≤ x := by
  rw [spl_pw h hk]
  split
  · exact ⟨97 + m / 64 % 64 % 8, rfl, by omega⟩
  · exact ⟨97 + m % 64 % 8, rfl, by omega⟩
theorem head_mn {P : Ps} {m : Nat} (h : cstl P m = 0) (hk : ¬ kd (P.1 (m % 64)) = 1) : (spl P m).head? = some (ltr (kd (P.1 (m % 64)))) := by
  rw [spl_mn h hk]; rfl
/-- castlings -/
theorem cas_same {P : Ps} (hG : Gd P) {m u : Nat} (hm : m ∈ mvs P) (hu : u ∈ mvs P) (h : cstl P m = cstl P u) (h0 : cstl P m ≠ 0) : m = u := by
  have hO := hG.1
  have kk : ∀ x, x ∈ mvs P → cstl P x ≠ 0 → x % 64 = kq P.1 P.2.1 64 ∧ x / 4096 = 0 ∧ (cstl P x = 1 → x / 64 % 64 = x % 64 + 2) ∧ (cstl P x ≠ 1 → x % 64 = x / 64 % 64 + 2) := by
    intro x hx hx0
    obtain ⟨k1, k2, k3⟩ := own_kd hO hx
    obtain ⟨ha, hb, -, -, -⟩ := mvs_parts hx
    have hk6 : kd (P.1 (x % 64)) = 6 := by
      unfold cstl at hx0
      by_cases z : kd (P.1 (x % 64)) = 6
      · exact z
      · rw [if_neg (fun w => z w.1), if_neg (fun w => z w.1)] at hx0
        exact absurd rfl hx0
    refine ⟨(kq_is hG).2.2 _ ha (by omega), pr_kd hO hx (by omega), fun z => ?_, fun z => ?_⟩
    · unfold cstl at z
      by_cases w : kd (P.1 (x % 64)) = 6 ∧ x / 64 % 64 = x % 64 + 2
      · exact w.2
      · rw [if_neg w] at z
        split at z <;> omega
    · unfold cstl at z hx0
      by_cases w : kd (P.1 (x % 64)) = 6 ∧ x / 64 % 64 = x % 64 + 2
      · rw [if_pos w] at z; exact absurd rfl z
      · rw [if_neg w] at hx0
        by_cases w2 : kd (P.1 (x % 64)) = 6 ∧ x % 64 = x / 64 % 64 + 2
        · exact w2.2
        · rw [if_neg w2] at hx0; exact absurd rfl hx0
  obtain ⟨a1, a2, a3, a4⟩ := kk m hm h0
  obtain ⟨b1, b2, b3, b4⟩ := kk u hu (by rw [← h]; exact h0)
  refine mv_ext hm hu (by omega) ?_ (by omega)
  by_cases q : cstl P m = 1
  · have := a3 q
    have := b3 (by omega)
    omega
  · have := a4 q
    have := b4 (by omega)
    omega
/-- pawns -/
theorem pgo_geo {P : Ps} (hc : P.2.1 ≤ 1) {a b : Nat} (hB : P.1 a = 1 + 6 * P.2.1) (h : pgo P a b) : (a % 8 = b % 8 → (b : Int) = a + upI P.2.1 ∨ (b : Int) = a + 2 * upI P.2.1 ∧ P.1 ((a : Int) + upI P.2.1).toNat = 0) ∧ (a % 8 ≠ b % 8 → dR a b = (if P.2.1 = 0 then 1 else -1)) := by
  have hkd : kd (P.1 a) = 1 := by
    rw [hB]
    rcases (show P.2.1 = 0 ∨ P.2.1 = 1 by omega) with q | q <;> rw [q] <;> rfl
  have hup : upI P.2.1 = 8 ∨ upI P.2.1 = -8 := by unfold upI; split <;> omega
  unfold pgo at h
  by_cases q1 : (b : Int) = a + upI P.2.1
  · exact ⟨fun _ => Or.inl q1, fun z => absurd z (by omega)⟩
  rw [if_neg q1] at h
  by_cases q2 : (b : Int) = a + 2 * upI P.2.1
  · rw [if_pos q2] at h
    exact ⟨fun _ => Or.inr ⟨q2, h.2.1⟩, fun z => absurd z (by omega)⟩
  rw [if_neg q2] at h
  have hat : att P.1 a b := by
    rcases h with q | q
    · exact q.1
    · exact q.2.1
  have hp := hat.2.2.1 hkd
  have e : (if P.1 a = 1 then (1 : Int) else -1) = (if P.2.1 = 0 then 1 else -1) := by
    rw [hB]
    rcases (show P.2.1 = 0 ∨ P.2.1 = 1 by omega) with q | q <;> rw [q] <;> rfl
  rw [e] at hp
  refine ⟨fun z => ?_, fun _ => hp.2⟩
  have h1 := hp.1
  unfold aI dF at h1
  rw [z] at h1
  split at h1 <;> omega
theorem pw_same {P : Ps} (hG : Gd P) {m u : Nat} (hm : m ∈ mvs P) (hu : u ∈ mvs P) (hk : kd (P.1 (m % 64)) = 1) (hk2 : kd (P.1 (u % 64)) = 1) (hto : m / 64 % 64 = u / 64 % 64) (hpr : m / 4096 = u / 4096) (hf : m % 64 % 8 = u % 64 % 8) : m = u := by
  have hO := hG.1
  have hc := hO.2.1
  obtain ⟨ha, hb, -, hl, -⟩ := mvs_parts hm
  obtain ⟨ha2, hb2, -, hl2, -⟩ := mvs_parts hu
  obtain ⟨k1, k2, k3⟩ := own_kd hO hm
  obtain ⟨j1, j2, j3⟩ := own_kd hO hu
  have hB : P.1 (m % 64) = 1 + 6 * P.2.1 := by omega
  have hB2 : P.1 (u % 64) = 1 + 6 * P.2.1 := by omega
  have g1 := pgo_geo hc hB (hl.1.2.2.2.1 hk)
  have g2 := pgo_geo hc hB2 (hl2.1.2.2.2.1 hk2)
  refine mv_ext hm hu ?_ hto hpr
  rw [← hto] at g2 hb2
  generalize m % 64 = a at *
  generalize u % 64 = c at *
  generalize m / 64 % 64 = b at *
  have hup : upI P.2.1 = 8 ∨ upI P.2.1 = -8 := by unfold upI; split <;> omega
  by_cases q : a % 8 = b % 8
  · have x1 := g1.1 q
    have x2 := g2.1 (by omega)
    rcases x1 with x1 | ⟨x1, y1⟩
    · rcases x2 with x2 | ⟨x2, y2⟩
      · omega
      · exfalso
        have : ((c : Int) + upI P.2.1).toNat = a := by omega
        rw [this] at y2
        omega
    · rcases x2 with x2 | ⟨x2, y2⟩
      · exfalso
        have : ((a : Int) + upI P.2.1).toNat = c := by omega
        rw [this] at y1
        omega
      · omega
  · have x1 := g1.2 q
    have x2 := g2.2 (by omega)
    unfold dR at x1 x2
    split at x1 <;> omega
/-- other men: what tells them apart -/
theorem mn_same {P : Ps} (hG : Gd P) {m u : Nat} (hm : m ∈ mvs P) (hu : u ∈ mvs P) (hman : P.1 (m % 64) = P.1 (u % 64)) (hto : m / 64 % 64 = u / 64 % 64) (hk : ¬ kd (P.1 (m % 64)) = 1) (ho : orgL P m = orgL P u) : m = u := by
  have hO := hG.1
  obtain ⟨ha, hb, -, hl, -⟩ := mvs_parts hm
  obtain ⟨ha2, hb2, -, hl2, -⟩ := mvs_parts hu
  refine mv_ext hm hu ?_ hto (by rw [pr_kd hO hm hk, pr_kd hO hu (by rw [← hman]; exact hk)])
  by_cases q : m % 64 = u % 64
  · exact q
  exfalso
  have r1 : rvP P m 0 u := ⟨⟨fun z => q z.symm, hto.symm, hman.symm⟩, Or.inl rfl⟩
  have r2 : rvP P u 0 m := ⟨⟨q, hto, hman⟩, Or.inl rfl⟩
  have p1 : 0 < rvs P m 0 := rvs_pos.mpr ⟨u, hu, r1⟩
  have p2 : 0 < rvs P u 0 := rvs_pos.mpr ⟨m, hm, r2⟩
  have f1 : rvs P m 1 = 0 → m % 64 % 8 ≠ u % 64 % 8 := fun z w => by
    have : 0 < rvs P m 1 := rvs_pos.mpr ⟨u, hu, r1.1, Or.inr (Or.inl ⟨rfl, w.symm⟩)⟩
    omega
  have f2 : rvs P m 2 = 0 → m % 64 / 8 ≠ u % 64 / 8 := fun z w => by
    have : 0 < rvs P m 2 := rvs_pos.mpr ⟨u, hu, r1.1, Or.inr (Or.inr ⟨rfl, w.symm⟩)⟩
    omega
  unfold orgL at ho
  rw [if_pos p1, if_pos p2] at ho
  by_cases x1 : rvs P m 1 = 0
  · rw [if_pos (Or.inl x1), if_pos x1] at ho
    have := f1 x1
    by_cases y1 : rvs P u 1 = 0
    · rw [if_pos (Or.inl y1), if_pos y1] at ho
      simp at ho
      omega
    · by_cases y2 : rvs P u 2 = 0
      · rw [if_neg (by omega), if_neg y1] at ho
        simp at ho
        omega
      · rw [if_pos (Or.inr y2), if_neg y1] at ho
        simp at ho
  · by_cases x2 : rvs P m 2 = 0
    · rw [if_neg (by omega), if_neg x1] at ho
      have := f2 x2
      by_cases y1 : rvs P u 1 = 0
      · rw [if_pos (Or.inl y1), if_pos y1] at ho
        simp at ho
        omega
      · by_cases y2 : rvs P u 2 = 0
        · rw [if_neg (by omega), if_neg y1] at ho
          simp at ho
          omega
        · rw [if_pos (Or.inr y2), if_neg y1] at ho
          simp at ho
    · rw [if_pos (Or.inr x2), if_neg x1] at ho
      by_cases y1 : rvs P u 1 = 0
      · rw [if_pos (Or.inl y1), if_pos y1] at ho
        simp at ho
      · by_cases y2 : rvs P u 2 = 0
        · rw [if_neg (by omega), if_neg y1] at ho
          simp at ho
        · rw [if_pos (Or.inr y2), if_neg y1] at ho
          simp at ho
          omega
theorem spl_inj {P : Ps} (hG : Gd P) {m u : Nat} (hm : m ∈ mvs P) (hu : u ∈ mvs P) (h : spl P m = spl P u) : m = u := by
  have hO := hG.1
  have hhd : (spl P m).head? = (spl P u).head? := by rw [h]
  obtain ⟨k1, k2, k3⟩ := own_kd hO hm
  obtain ⟨j1, j2, j3⟩ := own_kd hO hu
  have u1 := ltr_up _ k2
  have u2 := ltr_up _ j2
  have v1 := ltr_ge (kd (P.1 (m % 64)))
  have v2 := ltr_ge (kd (P.1 (u % 64)))
  by_cases c1 : cstl P m = 0
  · by_cases c2 : cstl P u = 0
    · by_cases p1 : kd (P.1 (m % 64)) = 1
      · obtain ⟨x, hx, hx1⟩ := head_pw c1 p1
        by_cases p2 : kd (P.1 (u % 64)) = 1
        · have q1 := spl_pw c1 p1
          have q2 := spl_pw c2 p2
          rw [h, q2] at q1
          have prm : m / 4096 ≠ 0 → 2 ≤ m / 4096 ∧ m / 4096 ≤ 5 := fun z => ⟨(pr_pawn hO (mvs_mvK hm) z).2.1, (pr_pawn hO (mvs_mvK hm) z).2.2.1⟩
          have pru : u / 4096 ≠ 0 → 2 ≤ u / 4096 ∧ u / 4096 ≤ 5 := fun z => ⟨(pr_pawn hO (mvs_mvK hu) z).2.1, (pr_pawn hO (mvs_mvK hu) z).2.2.1⟩
          obtain ⟨-, tb1, -, -, -⟩ := mvs_parts hm
          obtain ⟨-, tb2, -, -, -⟩ := mvs_parts hu
          have key : m % 64 % 8 = u % 64 % 8 ∧ m / 64 % 64 = u / 64 % 64 ∧ m / 4096 = u / 4096 := by
            by_cases a1 : m % 64 % 8 = m / 64 % 64 % 8
            · by_cases a2 : u % 64 % 8 = u / 64 % 64 % 8
              · rw [if_pos a1, if_pos a2] at q1
                by_cases b1 : 0 < m / 4096
                · by_cases b2 : 0 < u / 4096
                  · rw [if_pos b1, if_pos b2] at q1
                    simp at q1
                    have := ltr_26 _ (by have := (prm (by omega)).2; omega) _ (by have := (pru (by omega)).2; omega) (by omega) (by omega) q1.2.2.symm
                    omega
                  · rw [if_pos b1, if_neg b2] at q1
                    simp at q1
                · by_cases b2 : 0 < u / 4096
                  · rw [if_neg b1, if_pos b2] at q1
                    simp at q1
                  · rw [if_neg b1, if_neg b2] at q1
                    simp at q1
                    omega
              · rw [if_pos a1, if_neg a2] at q1
                by_cases b1 : 0 < m / 4096
                · by_cases b2 : 0 < u / 4096
                  · rw [if_pos b1, if_pos b2] at q1
                    simp at q1
                  · rw [if_pos b1, if_neg b2] at q1
                    simp at q1
                · by_cases b2 : 0 < u / 4096
                  · rw [if_neg b1, if_pos b2] at q1
                    simp at q1
                  · rw [if_neg b1, if_neg b2] at q1
                    simp at q1
            · by_cases a2 : u % 64 % 8 = u / 64 % 64 % 8
              · rw [if_neg a1, if_pos a2] at q1
                by_cases b1 : 0 < m / 4096
                · by_cases b2 : 0 < u / 4096
                  · rw [if_pos b1, if_pos b2] at q1
                    simp at q1
                  · rw [if_pos b1, if_neg b2] at q1
                    simp at q1
                · by_cases b2 : 0 < u / 4096
                  · rw [if_neg b1, if_pos b2] at q1
                    simp at q1
                  · rw [if_neg b1, if_neg b2] at q1
                    simp at q1
              · rw [if_neg a1, if_neg a2] at q1
                by_cases b1 : 0 < m / 4096
                · by_cases b2 : 0 < u / 4096
                  · rw [if_pos b1, if_pos b2] at q1
                    simp at q1
                    have := ltr_26 _ (by have := (prm (by omega)).2; omega) _ (by have := (pru (by omega)).2; omega) (by omega) (by omega) q1.2.2.2.symm
                    omega
                  · rw [if_pos b1, if_neg b2] at q1
                    simp at q1
                · by_cases b2 : 0 < u / 4096
                  · rw [if_neg b1, if_pos b2] at q1
                    simp at q1
                  · rw [if_neg b1, if_neg b2] at q1
                    simp at q1
                    omega
          exact pw_same hG hm hu p1 p2 key.2.1 key.2.2 key.1
        · have e2 := head_mn c2 p2
          rw [hx, e2] at hhd
          have := Option.some.inj hhd
          omega
      · have e1 := head_mn c1 p1
        by_cases p2 : kd (P.1 (u % 64)) = 1
        · obtain ⟨x, hx, hx1⟩ := head_pw c2 p2
          rw [e1, hx] at hhd
          have := Option.some.inj hhd
          omega
        · have e2 := head_mn c2 p2
          rw [e1, e2] at hhd
          have hkk : kd (P.1 (m % 64)) = kd (P.1 (u % 64)) := ltr_26 _ k2 _ j2 k1 j1 (Option.some.inj hhd)
          have hman : P.1 (m % 64) = P.1 (u % 64) := by omega
          have q1 := spl_mn c1 p1
          have q2 := spl_mn c2 p2
          rw [h, q2] at q1
          obtain ⟨-, tb1, -, -, -⟩ := mvs_parts hm
          obtain ⟨-, tb2, -, -, -⟩ := mvs_parts hu
          have q3 := List.append_inj' q1 rfl
          have hto : m / 64 % 64 = u / 64 % 64 := by
            have := q3.2
            simp at this
            omega
          have q4 := q3.1
          rw [hto] at q4
          have q5 := List.append_cancel_right q4
          rw [hman] at q5
          have q6 : orgL P u = orgL P m := List.append_cancel_left q5
          exact mn_same hG hm hu hman hto p1 q6.symm
    · rw [head_cas c2] at hhd
      by_cases p1 : kd (P.1 (m % 64)) = 1
      · obtain ⟨x, hx, hx1⟩ := head_pw c1 p1
        rw [hx] at hhd
        have := Option.some.inj hhd
        omega
      · rw [head_mn c1 p1] at hhd
        have := Option.some.inj hhd
        omega
  · by_cases c2 : cstl P u = 0
    · rw [head_cas c1] at hhd
      by_cases p2 : kd (P.1 (u % 64)) = 1
      · obtain ⟨x, hx, hx1⟩ := head_pw c2 p2
        rw [hx] at hhd
        have := Option.some.inj hhd
        omega
      · rw [head_mn c2 p2] at hhd
        have := Option.some.inj hhd
        omega
    · refine cas_same hG hm hu ?_ c1
      rcases spl_cas c1 with x | x
      · rcases spl_cas c2 with y | y
        · rw [x.2, y.2]
        · rw [x.1, y.1] at h
          exact absurd h (by decide)
      · rcases spl_cas c2 with y | y
        · rw [x.1, y.1] at h
          exact absurd h (by decide)
        · rw [x.2, y.2]
