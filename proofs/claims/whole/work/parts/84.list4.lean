/-! THE CLASS'S LISTER: what leaves the king attacked -/
theorem attO_eq {B D : Nat → Nat} {o : Int64} {x s : Nat} (h : B x = D x) : attO B o x s ↔ attO D o x s := by
  unfold attO
  rw [h]
/-- squares between two of one rank -/
theorem rank_btw {Z : Nat → Prop} {x b : Nat} (hr : x / 8 = b / 8) (hx : x < 64) (hb : b < 64) : (∀ i : Nat, 1 ≤ i → i < stn x b → Z (sqA x b i)) ↔ ∀ s, (x < s ∧ s < b ∨ b < s ∧ s < x) → Z s := by
  have hR : dR x b = 0 := by unfold dR; omega
  rcases Nat.lt_trichotomy x b with q | q | q
  · have hF : dF x b = ((b - x : Nat) : Int) := by unfold dF; omega
    have hn : stn x b = b - x := by unfold stn; rw [hF, hR]; simp
    have hp : stp x b = 1 := by
      unfold stp
      rw [hF, hR]
      unfold sgn
      simp
      omega
    have hs : ∀ i, sqA x b i = x + i := by intro i; unfold sqA; rw [hp]; omega
    constructor
    · intro h s hs'
      have := h (s - x) (by omega) (by omega)
      rw [hs, show x + (s - x) = s by omega] at this
      exact this
    · intro h i i1 i2
      rw [hs]
      exact h (x + i) (by omega)
  · constructor
    · intro _ s hs'; omega
    · intro _ i i1 i2
      have : stn x b = 0 := by
        unfold stn
        rw [hR, show dF x b = 0 by unfold dF; omega]
        rfl
      omega
  · have hF : dF x b = -((x - b : Nat) : Int) := by unfold dF; omega
    have hn : stn x b = x - b := by
      unfold stn
      rw [hF, hR, Int.natAbs_neg]
      simp
    have hp : stp x b = -1 := by
      unfold stp
      rw [hF, hR]
      unfold sgn
      simp
      omega
    have hs : ∀ i, i ≤ x → sqA x b i = x - i := by intro i hi; unfold sqA; rw [hp]; omega
    constructor
    · intro h s hs'
      have := h (x - s) (by omega) (by omega)
      rw [hs _ (by omega), show x - (x - s) = s by omega] at this
      exact this
    · intro h i i1 i2
      rw [hs i (by omega)]
      exact h (x - i) (by omega)
/-- a square between two of different ranks is of neither's rank -/
theorem btw_rank {x b i : Nat} (hx : x < 64) (hb : b < 64) (hne : x ≠ b) (hl : dF x b = 0 ∨ aI (dF x b) = aI (dR x b)) (h1 : 1 ≤ i) (h2 : i < stn x b) : sqA x b i / 8 ≠ b / 8 ∧ sqA x b i < 64 := by
  have hl' : dF x b = 0 ∨ dR x b = 0 ∨ aI (dF x b) = aI (dR x b) := by rcases hl with q | q; exact Or.inl q; exact Or.inr (Or.inr q)
  obtain ⟨-, n7, -, e, hrg⟩ := line_of hx hb hne hl'
  obtain ⟨g1, g2⟩ := hrg i h1 h2
  have key : (List.range 64).all (fun x => (List.range 64).all (fun b => decide (x = b) || !(decide (dF x b = 0) || decide (aI (dF x b) = aI (dR x b))) || (List.range 8).all (fun i => decide (i < 1) || decide (stn x b ≤ i) || decide (sqA x b i / 8 ≠ b / 8)))) = true := by decide +kernel
  have z := List.all_eq_true.mp (List.all_eq_true.mp key x (List.mem_range.mpr hx)) b (List.mem_range.mpr hb)
  simp only [Bool.or_eq_true, decide_eq_true_eq, Bool.not_eq_true', Bool.or_eq_false_iff, decide_eq_false_iff_not] at z
  refine ⟨?_, by unfold sqA; omega⟩
  rcases z with (z | z) | z
  · exact absurd z hne
  · rcases hl with q | q
    · exact absurd q z.1
    · exact absurd q z.2
  · have := List.all_eq_true.mp z i (List.mem_range.mpr (by omega))
    simp only [Bool.or_eq_true, decide_eq_true_eq] at this
    rcases this with (w | w) | w
    · omega
    · omega
    · exact w
/-- the king's square behind a move -/
noncomputable def nkq (P : Ps) (a b : Nat) : Nat := if a = kq P.1 P.2.1 64 then b else kq P.1 P.2.1 64
theorem gd_king {P : Ps} (hG : Gd P) : hm P.1 (6 + 6 * P.2.1) = 1 := by
  have hc := hG.1.2.1
  rcases (show P.2.1 = 0 ∨ P.2.1 = 1 by omega) with z | z
  · rw [z]; exact hG.2.1.1
  · rw [z]; exact hG.2.1.2
theorem kq_is {P : Ps} (hG : Gd P) : kq P.1 P.2.1 64 < 64 ∧ P.1 (kq P.1 P.2.1 64) = 6 + 6 * P.2.1 ∧ ∀ t, t < 64 → P.1 t = 6 + 6 * P.2.1 → t = kq P.1 P.2.1 64 := by
  obtain ⟨k, hk, hb, hu, -⟩ := one_man (gd_king hG)
  rw [kq_of hb 64 hk hu]
  exact ⟨hk, hb, hu⟩
set_option maxHeartbeats 16000000 in
theorem expo_iff {P : Ps} (hG : Gd P) {a b : Nat} (ha : a < 64) (hb : b < 64) (hg : gos P a b) {o gn : Int64} (ho : ∀ s, s < 64 → (bt o s = true ↔ ¬ (psg P a b = true ∧ s = whr P a b) ∧ (s = b ∨ s ≠ a ∧ P.1 s ≠ 0))) (hgn : ∀ s, s < 64 → (bt gn s = true ↔ s = (if psg P a b = true then whr P a b else b))) : atkO P.1 o gn (nkq P a b) (1 - P.2.1) ↔ chk (mkB P a b 0) P.2.1 := by
  have hO := hG.1
  have hc := hO.2.1
  have hA := hO.1 a ha
  have hBb := hO.1 b hb
  have own := (own_man hA hc).mp hg.1
  have nown : ¬ (6 * P.2.1 + 1 ≤ P.1 b ∧ P.1 b ≤ 6 * P.2.1 + 6) := fun q => hg.2.1 ((own_man hBb hc).mpr q)
  have hne : a ≠ b := fun q => nown (by rw [← q]; exact own)
  obtain ⟨kg64, kgv, kgu⟩ := kq_is hG
  obtain ⟨kg, ekg⟩ : ∃ kg, kg = kq P.1 P.2.1 64 := ⟨_, rfl⟩
  rw [← ekg] at kg64 kgv kgu
  have kgb : kg ≠ b := fun q => hg.2.2.1 ((kd_6 hBb).mpr (by rw [← q]; omega))
  obtain ⟨D, eD⟩ : ∃ D, D = mkB P a b 0 := ⟨_, rfl⟩
  obtain ⟨k', ek'⟩ : ∃ k', k' = nkq P a b := ⟨_, rfl⟩
  rw [← eD, ← ek']
  have ek2 : k' = if a = kg then b else kg := by rw [ek', ekg]; rfl
  have k64 : k' < 64 := by rw [ek2]; split <;> omega
  -- the new board, square by square
  have mod : ∀ s, (s = b ∧ D s = P.1 a) ∨ (s = a ∧ D s = 0) ∨ (psg P a b = true ∧ s = whr P a b ∧ D s = 0 ∧ P.1 s = 7 - 6 * P.2.1) ∨ (cas P a b = true ∧ s = (a + b) / 2 ∧ D s = 4 + 6 * P.2.1 ∧ P.1 s = 0) ∨ (cas P a b = true ∧ s = (if a < b then a + 3 else a - 4) ∧ D s = 0 ∧ P.1 s = 4 + 6 * P.2.1) ∨ (s ≠ b ∧ s ≠ a ∧ (psg P a b = true → s ≠ whr P a b) ∧ (cas P a b = true → s ≠ (a + b) / 2 ∧ s ≠ (if a < b then a + 3 else a - 4)) ∧ D s = P.1 s) := by
    intro s
    by_cases kc : cas P a b = true
    · have kp := cas_no_psg kc
      obtain ⟨k6, eh, qq, -, -⟩ := cas_cst hg kc
      obtain ⟨r, er⟩ : ∃ r, r = (if a < b then a + 3 else a - 4) := ⟨_, rfl⟩
      have hr : r ≠ a ∧ r ≠ b ∧ r ≠ (a + b) / 2 ∧ P.1 r = 4 + 6 * P.2.1 ∧ P.1 ((a + b) / 2) = 0 ∧ (a + b) / 2 ≠ a ∧ (a + b) / 2 ≠ b := by
        rw [er]
        rcases qq with ⟨q1, q2, q3, q4⟩ | ⟨q1, q2, q3, q4⟩
        · rw [if_pos (by omega)]
          exact ⟨by omega, by omega, by omega, q3, q4 _ (by omega) (by omega), by omega, by omega⟩
        · rw [if_neg (by omega)]
          exact ⟨by omega, by omega, by omega, q3, q4 _ (by omega) (by omega), by omega, by omega⟩
      obtain ⟨ra, rb, rm, r4, m0, ma, mb⟩ := hr
      have emk := mkB_cas (pr := 0) kc kp
      rw [if_pos rfl, ← eD, ← er] at emk
      rw [← er, emk]
      by_cases x1 : s = (a + b) / 2
      · rw [x1, ub_s]
        exact Or.inr (Or.inr (Or.inr (Or.inl ⟨kc, rfl, rfl, m0⟩)))
      · rw [ub_n x1]
        by_cases x2 : s = r
        · rw [x2, ub_s]
          exact Or.inr (Or.inr (Or.inr (Or.inr (Or.inl ⟨kc, rfl, rfl, r4⟩))))
        · rw [ub_n x2]
          by_cases x3 : s = b
          · rw [x3, ub_s]; exact Or.inl ⟨rfl, rfl⟩
          · rw [ub_n x3]
            by_cases x4 : s = a
            · rw [x4, ub_s]; exact Or.inr (Or.inl ⟨rfl, rfl⟩)
            · rw [ub_n x4]
              exact Or.inr (Or.inr (Or.inr (Or.inr (Or.inr ⟨x3, x4, fun q => by rw [kp] at q; exact absurd q (by decide), fun _ => ⟨x1, x2⟩, rfl⟩))))
    · have kc' : cas P a b = false := by simpa using kc
      by_cases kp : psg P a b = true
      · have hz := psg_sq hO kp
        have emk := mkB_psg (pr := 0) kc' kp
        rw [if_pos rfl, ← eD] at emk
        have emk : D = ub (ub (ub P.1 a 0) b (P.1 a)) (whr P a b) 0 := emk
        rw [emk]
        by_cases x1 : s = whr P a b
        · rw [x1, ub_s]
          exact Or.inr (Or.inr (Or.inl ⟨kp, rfl, rfl, hz.2.2.2.1⟩))
        · rw [ub_n x1]
          by_cases x3 : s = b
          · rw [x3, ub_s]; exact Or.inl ⟨rfl, rfl⟩
          · rw [ub_n x3]
            by_cases x4 : s = a
            · rw [x4, ub_s]; exact Or.inr (Or.inl ⟨rfl, rfl⟩)
            · rw [ub_n x4]
              exact Or.inr (Or.inr (Or.inr (Or.inr (Or.inr ⟨x3, x4, fun _ => x1, fun q => absurd q kc, rfl⟩))))
      · have kp' : psg P a b = false := by simpa using kp
        have emk := mkB_ord (pr := 0) kc' kp'
        rw [if_pos rfl, ← eD] at emk
        rw [emk]
        by_cases x3 : s = b
        · rw [x3, ub_s]; exact Or.inl ⟨rfl, rfl⟩
        · rw [ub_n x3]
          by_cases x4 : s = a
          · rw [x4, ub_s]; exact Or.inr (Or.inl ⟨rfl, rfl⟩)
          · rw [ub_n x4]
            exact Or.inr (Or.inr (Or.inr (Or.inr (Or.inr ⟨x3, x4, fun q => absurd q kp, fun q => absurd q kc, rfl⟩))))
  -- the king
  have hkq : kq D P.2.1 64 = k' := by
    have hDk : D k' = 6 + 6 * P.2.1 := by
      rw [ek2]
      by_cases q : a = kg
      · rw [if_pos q]
        rcases mod b with w | w | w | w | w | w
        · rw [w.2, q]; exact kgv
        · exact absurd w.1.symm hne
        · exact absurd w.2.1.symm (psg_sq hO w.1).2.2.2.2.2.1
        · obtain ⟨-, eh, qq, -, -⟩ := cas_cst hg w.1
          have := w.2.1
          omega
        · obtain ⟨-, eh, qq, -, -⟩ := cas_cst hg w.1
          have := w.2.1
          split at this <;> omega
        · exact absurd rfl w.1
      · rw [if_neg q]
        rcases mod kg with w | w | w | w | w | w
        · exact absurd w.1 kgb
        · exact absurd w.1.symm q
        · have := w.2.2.2; omega
        · have := w.2.2.2; omega
        · have := w.2.2.2; omega
        · rw [w.2.2.2.2]; exact kgv
    refine kq_of hDk 64 k64 (fun t ht hD => ?_)
    rw [ek2]
    rcases mod t with w | w | w | w | w | w
    · rw [w.2] at hD
      rw [if_pos (kgu a ha hD)]
      exact w.1
    · omega
    · omega
    · omega
    · omega
    · rw [w.2.2.2.2] at hD
      have := kgu t ht hD
      rw [if_neg (fun q => w.2.1 (by rw [q]; exact this))]
      exact this
  unfold chk atk atkO
  rw [hkq]
  -- who is left
  have side : ∀ x, x < 64 → (sdI (D x) = (1 - P.2.1 : Nat) ↔ sdI (P.1 x) = (1 - P.2.1 : Nat) ∧ bt gn x = false) ∧ (sdI (D x) = (1 - P.2.1 : Nat) → D x = P.1 x) := by
    intro x hx
    have hgx := hgn x hx
    have gf : bt gn x = false ↔ ¬ x = (if psg P a b = true then whr P a b else b) := by rw [← hgx, Bool.not_eq_true]
    rw [gf]
    have s7 : sdI (7 - 6 * P.2.1) = (1 - P.2.1 : Nat) := (own_man (by omega) (by omega)).mpr (by omega)
    have s4 : sdI (4 + 6 * P.2.1) = (P.2.1 : Nat) := (own_man (by omega) hc).mpr (by omega)
    have s0 : sdI 0 = -1 := rfl
    rcases mod x with w | w | w | w | w | w
    · have hDo : sdI (D x) = P.2.1 := by rw [w.2]; exact hg.1
      refine ⟨⟨fun q => by omega, fun q => ?_⟩, fun q => by omega⟩
      exfalso
      by_cases kp : psg P a b = true
      · rw [w.1, (psg_sq hO kp).2.2.1] at q
        omega
      · rw [if_neg kp] at q
        exact q.2 w.1
    · rw [w.2, w.1]
      have := hg.1
      refine ⟨⟨fun q => by omega, fun q => by omega⟩, fun q => by omega⟩
    · rw [w.2.2.1]
      refine ⟨⟨fun q => by omega, fun q => ?_⟩, fun q => by omega⟩
      rw [if_pos w.1] at q
      exact absurd w.2.1 q.2
    · rw [w.2.2.1, w.2.2.2]
      refine ⟨⟨fun q => by omega, fun q => by omega⟩, fun q => by omega⟩
    · rw [w.2.2.1, w.2.2.2]
      refine ⟨⟨fun q => by omega, fun q => by omega⟩, fun q => by omega⟩
    · rw [w.2.2.2.2]
      refine ⟨⟨fun q => ⟨q, ?_⟩, fun q => q.1⟩, fun _ => rfl⟩
      split
      · rename_i kp; exact w.2.2.1 kp
      · exact w.1
  -- attacks of one that is left
  have same : ∀ x, x < 64 → sdI (P.1 x) = (1 - P.2.1 : Nat) → D x = P.1 x → (attO P.1 o x k' ↔ att D x k') := by
    intro x hx hs hD
    by_cases kc : cas P a b = true
    · have kp := cas_no_psg kc
      obtain ⟨k6, eh, qq, na1, na2⟩ := cas_cst hg kc
      have kpn : ¬ psg P a b = true := by rw [kp]; decide
      have hak : a = kg := kgu a ha (by have := (kd_6 hA).mp k6; omega)
      have hkb : k' = b := by rw [ek2, if_pos hak]
      have r8 : a / 8 = b / 8 := by omega
      rw [hkb]
      have hob : ∀ s, s < 64 → s / 8 ≠ b / 8 → (bt o s = false ↔ D s = 0) := by
        intro s hs8 hr
        have hos := ho s hs8
        have hDs : D s = P.1 s := by
          rcases mod s with w | w | w | w | w | w
          · exact absurd (by rw [w.1]) hr
          · exact absurd (by rw [w.1]; exact r8) hr
          · exact absurd w.1 kpn
          · exact absurd (by rw [w.2.1]; omega) hr
          · exact absurd (by rw [w.2.1]; split <;> omega) hr
          · exact w.2.2.2.2
        rw [hDs]
        constructor
        · intro q
          by_cases u : P.1 s = 0
          · exact u
          · have : bt o s = true := hos.mpr ⟨fun z => kpn z.1, Or.inr ⟨fun z => hr (by rw [z]; exact r8), u⟩⟩
            rw [q] at this
            exact absurd this (by decide)
        · intro q
          rcases u : bt o s with _ | _
          · rfl
          · rcases (hos.mp u).2 with z | z
            · exact absurd (by rw [z]) hr
            · exact absurd q z.2
      have xb : x ≠ b := by
        rintro rfl
        rw [hD.symm] at hs
        rcases mod x with w | w | w | w | w | w
        · rw [w.2] at hs
          have := hg.1
          omega
        · exact hne w.1.symm
        · exact kpn w.1
        · have := w.2.1; omega
        · have := w.2.1; split at this <;> omega
        · exact w.1 rfl
      -- along the rank nobody attacks, either way
      have norank : x / 8 = b / 8 → (∀ s, (x < s ∧ s < b ∨ b < s ∧ s < x) → s < 64 → s ≠ a → P.1 s = 0) → (kd (P.1 x) = 4 ∨ kd (P.1 x) = 5) → False := by
        intro hr hz hk
        apply na1
        refine ⟨x, hx, hs, ?_⟩
        have xa : x ≠ a := by
          rintro rfl
          have := hg.1
          omega
        -- where x can stand
        have px : (a < b → x < a) ∧ (b < a → a < x) := by
          constructor
          · intro hl
            rcases qq with ⟨q1, q2, q3, q4⟩ | ⟨q1, q2, q3, q4⟩
            · rcases Nat.lt_or_ge x a with u | u
              · exact u
              · exfalso
                have hxr : x = a + 1 ∨ x = a + 2 ∨ x = a + 3 := by omega
                rcases hxr with e | e | e
                · rw [e, q4 (a + 1) (by omega) (by omega), show sdI 0 = -1 from rfl] at hs; omega
                · omega
                · rw [e, q3] at hs
                  have : sdI (4 + 6 * P.2.1) = (P.2.1 : Nat) := (own_man (by omega) hc).mpr (by omega)
                  omega
            · omega
          · intro hl
            rcases qq with ⟨q1, q2, q3, q4⟩ | ⟨q1, q2, q3, q4⟩
            · omega
            · rcases Nat.lt_or_ge a x with u | u
              · exact u
              · exfalso
                have hxr : x = a - 1 ∨ x = a - 2 ∨ x = a - 3 ∨ x = a - 4 := by omega
                rcases hxr with e | e | e | e
                · rw [e, q4 (a - 1) (by omega) (by omega), show sdI 0 = -1 from rfl] at hs; omega
                · omega
                · rw [e, q4 (a - 3) (by omega) (by omega), show sdI 0 = -1 from rfl] at hs; omega
                · rw [e, q3] at hs
                  have : sdI (4 + 6 * P.2.1) = (P.2.1 : Nat) := (own_man (by omega) hc).mpr (by omega)
                  omega
        have hR : dR x a = 0 := by unfold dR; omega
        refine ⟨by omega, xa, fun q => by omega, fun q => by omega, fun q => by omega, fun _ _ _ => ⟨Or.inl ⟨Or.inr hR, by omega⟩, ?_⟩⟩
        rw [rank_btw (Z := fun s => P.1 s = 0) (by omega) hx ha]
        intro s hs'
        exact hz s (by omega) (by omega) (by omega)
      have hmid : D ((a + b) / 2) = 4 + 6 * P.2.1 := by
        rcases mod ((a + b) / 2) with w | w | w | w | w | w
        · have := w.1; omega
        · have := w.1; omega
        · exact absurd w.1 kpn
        · exact w.2.2.1
        · have := w.2.1; split at this <;> omega
        · exact absurd rfl (w.2.2.2.1 kc).1
      have hmb : b < (a + b) / 2 ∧ (a + b) / 2 < a ∨ a < (a + b) / 2 ∧ (a + b) / 2 < b := by omega
      unfold attO att
      rw [hD]
      refine and_congr_right (fun _ => and_congr_right (fun _ => and_congr_right (fun _ => and_congr_right (fun _ => and_congr_right (fun _ => ?_)))))
      have h12 := hO.1 x hx
      have kdx : kd (P.1 x) ≠ 1 → kd (P.1 x) ≠ 2 → kd (P.1 x) ≠ 6 → kd (P.1 x) = 3 ∨ kd (P.1 x) = 4 ∨ kd (P.1 x) = 5 := by
        intro n1 n2 n6
        have := kd_sd h12 (by omega : 1 - P.2.1 ≤ 1) hs
        omega
      constructor
      · intro h n1 n2 n6
        obtain ⟨z1, z2⟩ := h n1 n2 n6
        refine ⟨z1, ?_⟩
        by_cases hr : x / 8 = b / 8
        · exfalso
          have hk45 : kd (P.1 x) = 4 ∨ kd (P.1 x) = 5 := by
            rcases z1 with w | w
            · have := kdx n1 n2 n6; omega
            · have e0 : dR x b = 0 := by unfold dR; omega
              rw [e0] at w
              have : dF x b = 0 := by
                have := w.1
                unfold aI at this
                split at this <;> omega
              unfold dF at this
              omega
          have z2' := (rank_btw (Z := fun s => bt o s = false) hr hx hb).mp z2
          refine norank hr (fun s hs' s64 sa => ?_) hk45
          have := z2' s hs'
          by_cases u : P.1 s = 0
          · exact u
          · rw [(ho s s64).mpr ⟨fun z => kpn z.1, Or.inr ⟨sa, u⟩⟩] at this
            exact absurd this (by decide)
        · have hl : dF x b = 0 ∨ aI (dF x b) = aI (dR x b) := by
            rcases z1 with w | w
            · rcases w.1 with v | v
              · exact Or.inl v
              · exfalso; unfold dR at v; omega
            · exact Or.inr w.1
          intro i i1 i2
          obtain ⟨g1, g2⟩ := btw_rank hx hb xb hl i1 i2
          exact (hob _ g2 g1).mp (z2 i i1 i2)
      · intro h n1 n2 n6
        obtain ⟨z1, z2⟩ := h n1 n2 n6
        refine ⟨z1, ?_⟩
        by_cases hr : x / 8 = b / 8
        · exfalso
          have hk45 : kd (P.1 x) = 4 ∨ kd (P.1 x) = 5 := by
            rcases z1 with w | w
            · have := kdx n1 n2 n6; omega
            · have e0 : dR x b = 0 := by unfold dR; omega
              rw [e0] at w
              have : dF x b = 0 := by
                have := w.1
                unfold aI at this
                split at this <;> omega
              unfold dF at this
              omega
          have z2' := (rank_btw (Z := fun s => D s = 0) hr hx hb).mp z2
          by_cases hm : x < (a + b) / 2 ∧ (a + b) / 2 < b ∨ b < (a + b) / 2 ∧ (a + b) / 2 < x
          · have := z2' _ hm
            omega
          · -- then x stands beyond: on empty or own squares
            have s4 : sdI (4 + 6 * P.2.1) = (P.2.1 : Nat) := (own_man (by omega) hc).mpr (by omega)
            rcases qq with ⟨q1, q2, q3, q4⟩ | ⟨q1, q2, q3, q4⟩
            · have hxr : x = a + 1 ∨ x = a + 3 := by omega
              rcases hxr with e | e
              · rw [e, q4 (a + 1) (by omega) (by omega), show sdI 0 = -1 from rfl] at hs; omega
              · rw [e, q3] at hs; omega
            · have hxr : x = a - 1 ∨ x = a - 3 ∨ x = a - 4 := by omega
              rcases hxr with e | e | e
              · rw [e, q4 (a - 1) (by omega) (by omega), show sdI 0 = -1 from rfl] at hs; omega
              · rw [e, q4 (a - 3) (by omega) (by omega), show sdI 0 = -1 from rfl] at hs; omega
              · rw [e, q3] at hs; omega
        · have hl : dF x b = 0 ∨ aI (dF x b) = aI (dR x b) := by
            rcases z1 with w | w
            · rcases w.1 with v | v
              · exact Or.inl v
              · exfalso; unfold dR at v; omega
            · exact Or.inr w.1
          intro i i1 i2
          obtain ⟨g1, g2⟩ := btw_rank hx hb xb hl i1 i2
          exact (hob _ g2 g1).mpr (z2 i i1 i2)
    · have hod : ∀ s, s < 64 → (bt o s = true ↔ D s ≠ 0) := by
        intro s hs8
        rw [ho s hs8]
        rcases mod s with w | w | w | w | w | w
        · rw [w.2, w.1]
          refine ⟨fun _ => by omega, fun _ => ⟨fun z => (psg_sq hO z.1).2.2.2.2.2.1 z.2.symm, Or.inl rfl⟩⟩
        · rw [w.2, w.1]
          exact ⟨fun q => absurd (q.2.elim (fun z => absurd z hne) (fun z => absurd rfl z.1)) id, fun q => absurd rfl q⟩
        · rw [w.2.2.1]
          exact ⟨fun q => absurd ⟨w.1, w.2.1⟩ q.1, fun q => absurd rfl q⟩
        · exact absurd w.1 kc
        · exact absurd w.1 kc
        · rw [w.2.2.2.2]
          exact ⟨fun q => q.2.elim (fun z => absurd z w.1) (fun z => z.2), fun q => ⟨fun z => w.2.2.1 z.1 z.2, Or.inr ⟨w.2.1, q⟩⟩⟩
      rw [attO_eq (D := D) hD.symm]
      exact attO_att hod hx k64
  constructor
  · rintro ⟨x, hx, h1, h2, h3⟩
    have hD1 := (side x hx).1.mpr ⟨h1, h2⟩
    exact ⟨x, hx, hD1, (same x hx h1 ((side x hx).2 hD1)).mp h3⟩
  · rintro ⟨x, hx, h1, h2⟩
    obtain ⟨g1, g2⟩ := (side x hx).1.mp h1
    exact ⟨x, hx, g1, g2, (same x hx g1 ((side x hx).2 h1)).mpr h2⟩
