/-! THE COMPASS: rays, and what is seen along them -/
def fsD (d : Nat) : Int := if d = 0 ∨ d = 2 ∨ d = 7 then 1 else if d = 3 ∨ d = 4 ∨ d = 6 then -1 else 0
def rsD (d : Nat) : Int := if d = 1 ∨ d = 2 ∨ d = 3 then 1 else if d = 5 ∨ d = 6 ∨ d = 7 then -1 else 0
def dlt (d : Nat) : Int := 8 * rsD d + fsD d
def lenR (d s : Nat) : Nat := min (if fsD d = 1 then 7 - s % 8 else if fsD d = -1 then s % 8 else 7) (if rsD d = 1 then 7 - s / 8 else if rsD d = -1 then s / 8 else 7)
/-- the square k steps on -/
def rq (d s k : Nat) : Nat := ((s : Int) + dlt d * k).toNat
def ryG (d s t : Nat) : Bool := (List.range (lenR d s)).any (fun k => decide (rq d s (k + 1) = t))
theorem ryG_iff {d s t : Nat} : ryG d s t = true ↔ ∃ k, 1 ≤ k ∧ k ≤ lenR d s ∧ t = rq d s k := by
  unfold ryG
  rw [List.any_eq_true]
  constructor
  · rintro ⟨k, hk, h⟩
    have := List.mem_range.mp hk
    exact ⟨k + 1, by omega, by omega, (decide_eq_true_eq.mp h).symm⟩
  · rintro ⟨k, h1, h2, h3⟩
    refine ⟨k - 1, List.mem_range.mpr (by omega), decide_eq_true ?_⟩
    rw [show k - 1 + 1 = k by omega]
    exact h3.symm
/-- what is known of a square of a ray -/
theorem ray_geo : (List.range 8).all (fun d => (List.range 64).all (fun s => (List.range (lenR d s)).all (fun j => decide (rq d s (j + 1) < 64) && decide ((rq d s (j + 1) : Int) = s + dlt d * (j + 1)) && decide (stn s (rq d s (j + 1)) = j + 1) && decide (stp s (rq d s (j + 1)) = dlt d) && decide (s ≠ rq d s (j + 1)) && (if d % 4 < 2 then decide (dF s (rq d s (j + 1)) = 0) || decide (dR s (rq d s (j + 1)) = 0) else decide (aI (dF s (rq d s (j + 1))) = aI (dR s (rq d s (j + 1)))))))) = true := by decide +kernel
theorem ray_at {d s k : Nat} (hd : d < 8) (hs : s < 64) (h1 : 1 ≤ k) (h2 : k ≤ lenR d s) : rq d s k < 64 ∧ (rq d s k : Int) = s + dlt d * k ∧ stn s (rq d s k) = k ∧ stp s (rq d s k) = dlt d ∧ s ≠ rq d s k ∧ (d % 4 < 2 → dF s (rq d s k) = 0 ∨ dR s (rq d s k) = 0) ∧ (¬ d % 4 < 2 → aI (dF s (rq d s k)) = aI (dR s (rq d s k))) := by
  have h := List.all_eq_true.mp (List.all_eq_true.mp (List.all_eq_true.mp ray_geo d (List.mem_range.mpr hd)) s (List.mem_range.mpr hs)) (k - 1) (List.mem_range.mpr (by omega))
  rw [show k - 1 + 1 = k by omega] at h
  simp only [Bool.and_eq_true, decide_eq_true_eq] at h
  obtain ⟨⟨⟨⟨⟨a1, a2⟩, a3⟩, a4⟩, a5⟩, a6⟩ := h
  have e : ((k - 1 : Nat) : Int) + 1 = k := by omega
  rw [e] at a2
  refine ⟨a1, a2, a3, a4, a5, fun q => ?_, fun q => ?_⟩
  · rw [if_pos q] at a6
    simpa using a6
  · rw [if_neg q] at a6
    simpa using a6
theorem ray_sqA {d s k i : Nat} (hd : d < 8) (hs : s < 64) (h1 : 1 ≤ k) (h2 : k ≤ lenR d s) : sqA s (rq d s k) i = rq d s i := by
  have := (ray_at hd hs h1 h2).2.2.2.1
  unfold sqA rq
  rw [show ((s : Int) + dlt d * k).toNat = rq d s k from rfl, this]
theorem dlt_pos : ∀ d, d < 4 → 0 < dlt d := by decide
theorem dlt_neg : ∀ d, d < 8 → ¬ d < 4 → dlt d < 0 := by decide
theorem ray_mono {d s i k : Nat} (hd : d < 8) (hs : s < 64) (hi : 1 ≤ i) (hik : i < k) (h2 : k ≤ lenR d s) : if d < 4 then rq d s i < rq d s k else rq d s k < rq d s i := by
  have a := (ray_at hd hs hi (by omega : i ≤ lenR d s)).2.1
  have b := (ray_at hd hs (by omega : 1 ≤ k) h2).2.1
  have hm : (i : Int) < k := by omega
  split
  · rename_i q
    have := Int.mul_lt_mul_of_pos_left hm (dlt_pos d q)
    omega
  · rename_i q
    have := Int.mul_lt_mul_of_neg_left hm (dlt_neg d hd q)
    omega
/-- the square is seen along the ray: nothing of the set stands short of it -/
def lnD (o : Int64) (d s t : Nat) : Prop := ∃ k, 1 ≤ k ∧ k ≤ lenR d s ∧ t = rq d s k ∧ ∀ i, 1 ≤ i → i < k → bt o (rq d s i) = false
theorem lnD_iff {o : Int64} {d s t : Nat} (hd : d < 8) (hs : s < 64) : lnD o d s t ↔ ryG d s t = true ∧ ∀ u, ryG d s u = true → bt o u = true → (if d < 4 then t ≤ u else u ≤ t) := by
  constructor
  · rintro ⟨k, k1, k2, e, h⟩
    refine ⟨ryG_iff.mpr ⟨k, k1, k2, e⟩, fun u hu hb => ?_⟩
    obtain ⟨j, j1, j2, ej⟩ := ryG_iff.mp hu
    rcases Nat.lt_trichotomy j k with q | q | q
    · have := h j j1 q
      rw [← ej, hb] at this
      exact absurd this (by decide)
    · rw [e, ej, q]
      split <;> exact Nat.le_refl _
    · have := ray_mono hd hs k1 q j2
      rw [e, ej]
      split <;> rename_i w
      · rw [if_pos w] at this; omega
      · rw [if_neg w] at this; omega
  · rintro ⟨hr, h⟩
    obtain ⟨k, k1, k2, e⟩ := ryG_iff.mp hr
    refine ⟨k, k1, k2, e, fun i i1 i2 => ?_⟩
    rcases hb : bt o (rq d s i) with _ | _
    · rfl
    · have := h (rq d s i) (ryG_iff.mpr ⟨i, i1, by omega, rfl⟩) hb
      have m := ray_mono hd hs i1 i2 k2
      rw [e] at this
      split at this <;> rename_i w
      · rw [if_pos w] at m; omega
      · rw [if_neg w] at m; omega
/-! bits: all up to the lowest; all from the highest on -/
theorem bt_xor (x y : Int64) (s : Nat) : bt (x ^^^ y) s = (bt x s != bt y s) := by
  unfold bt
  rw [nn_xor, Nat.testBit_xor]
theorem bt_m1 {s : Nat} (hs : s < 64) : bt (-1) s = true := by
  unfold bt
  rw [nn_m1, Nat.testBit_two_pow_sub_one]
  simpa using hs
theorem bt_upto (x : Int64) {s : Nat} (hs : s < 64) : bt (x ^^^ (x - 1)) s = !decide (∃ j, j < s ∧ bt x j = true) := by
  by_cases hx : x = 0
  · rw [hx]
    have hn : ¬ ∃ j, j < s ∧ bt 0 j = true := by
      rintro ⟨j, _, h⟩
      rw [bt_0] at h
      exact absurd h (by decide)
    rw [decide_eq_false hn, bt_xor, bt_0, show (0 : Int64) - 1 = -1 from by decide, bt_m1 hs]
    rfl
  · rw [bt_xor, bt_sub1 hx hs]
    cases bt x s <;> cases decide (∃ j, j < s ∧ bt x j = true) <;> rfl
theorem bt_fill {x y : Int64} {w : Nat} (hw : w < 64) (h : ∀ i, bt y i = true ↔ ∃ j, i ≤ j ∧ j < i + w ∧ bt x j = true) (i : Nat) : bt (y ||| ((y.toUInt64 >>> ((nI w).toInt64.toUInt64 &&& Int64.toUInt64 63)).toInt64)) i = true ↔ ∃ j, i ≤ j ∧ j < i + (w + w) ∧ bt x j = true := by
  rw [bt_or, Bool.or_eq_true, bt_shr y hw, h i, h (w + i)]
  constructor
  · rintro (⟨j, a, b, c⟩ | ⟨j, a, b, c⟩)
    · exact ⟨j, a, by omega, c⟩
    · exact ⟨j, by omega, by omega, c⟩
  · rintro ⟨j, a, b, c⟩
    by_cases q : j < i + w
    · exact Or.inl ⟨j, a, q, c⟩
    · exact Or.inr ⟨j, by omega, by omega, c⟩
/-- the compass's rays stand -/
def cRay (M : zM) : Prop := ∀ d s, d < 8 → s < 64 → ∀ t, t < 64 → bt (M.2.1 21 (64 * d + s)) t = ryG d s t
set_option maxHeartbeats 4000000 in
theorem c_lines {mc ms : Nat} {M : zM} {g : Nat} (hW : zWd M g) (hR : cRay M) {s : Nat} (hs : s < 64) (o : Int64) {f : Nat} (hf : f ≤ 2) {Q : zQt} (hq : ∀ r, (∀ t, t < 64 → (bt r t = true ↔ ∃ d, (d = f ∨ d = f + 1 ∨ d = f + 4 ∨ d = f + 5) ∧ lnD o d s t)) → Q (some (.long r)) M) : wX1_lines mc ms [.ref 17, .int (nI s), .long o, .int (nI f)] M Q := by
  refine ⟨⟨Nat.le_of_ble_eq_true rfl, rfl⟩, fun X l0 l7 => ?_⟩
  have loop : ∀ (r d : Nat) (x : Int64), d + r = f + 2 → f ≤ d → (∀ t, t < 64 → (bt x t = true ↔ ∃ e, (e < d ∨ 4 ≤ e ∧ e < d + 4) ∧ (e = f ∨ e = f + 1 ∨ e = f + 4 ∨ e = f + 5) ∧ lnD o e s t)) → X 7 0 0 [.ref 17, .int (nI s), .long o, .int (nI f), .long x, .int (nI d)] [] M := by
    intro r
    induction r with
    | zero =>
      intro d x hd hfd hx
      refine l7 _ _ _ _ _ ⟨rfl, vX1_lines_7 hW ?_⟩
      rw [show nI f + (2 : Int32) = nI (f + 2) from nI_add f 2]
      refine ⟨fun _ => hq x (fun t ht => (hx t ht).trans ?_), fun q => absurd ((nI_leI (a := f + 2) (b := d) (by omega) (by omega)).mpr (by omega)) q⟩
      constructor
      · rintro ⟨e, _, a, b⟩
        exact ⟨e, a, b⟩
      · rintro ⟨e, a, b⟩
        exact ⟨e, by omega, a, b⟩
    | succ r ih =>
      intro d x hd hfd hx
      refine l7 _ _ _ _ _ ⟨rfl, vX1_lines_7 hW ?_⟩
      rw [show nI f + (2 : Int32) = nI (f + 2) from nI_add f 2, show nI d * (64 : Int32) = nI (d * 64) from pk_mul d 64, nI_add, nI_clamp (by omega), show nI d + (4 : Int32) = nI (d + 4) from nI_add d 4, show nI (d + 4) * (64 : Int32) = nI ((d + 4) * 64) from pk_mul (d + 4) 64, nI_add, nI_clamp (by omega)]
      refine ⟨fun q => absurd ((nI_leI (a := f + 2) (b := d) (by omega) (by omega)).mp q) (by omega), fun _ => ⟨vp_in_nI (by omega) (by omega), fun y28 e28 y49 e49 => ⟨vp_in_nI (by omega) (by omega), fun y65 e65 y80 e80 y89 e89 y98 e98 y108 e108 y118 e118 y128 e128 y144 e144 => ?_⟩⟩⟩
      have rU : ∀ t, t < 64 → bt y28 t = ryG d s t := fun t ht => by rw [e28, show d * 64 + s = 64 * d + s by omega]; exact hR d s (by omega) hs t ht
      have rD : ∀ t, t < 64 → bt y65 t = ryG (d + 4) s t := fun t ht => by rw [e65, show (d + 4) * 64 + s = 64 * (d + 4) + s by omega]; exact hR (d + 4) s (by omega) hs t ht
      rw [nI_1]
      refine ih (d + 1) y144 (by omega) (by omega) (fun t ht => ?_)
      -- the upper ray
      have up : bt (y28 &&& ((y28 &&& o) ^^^ ((y28 &&& o) - 1))) t = true ↔ lnD o d s t := by
        rw [bt_and, bt_upto _ ht, rU t ht, lnD_iff (by omega) hs, Bool.and_eq_true, Bool.not_eq_true', decide_eq_false_iff_not]
        refine and_congr_right (fun _ => ?_)
        constructor
        · intro hn u hu hb
          rw [if_pos (by omega)]
          rcases Nat.lt_or_ge u t with q | q
          · refine absurd ⟨u, q, ?_⟩ hn
            rw [bt_and, rU u (by omega), hu, hb]
            rfl
          · exact q
        · rintro hn ⟨u, q, hb⟩
          rw [bt_and, rU u (by omega), Bool.and_eq_true] at hb
          have := hn u hb.1 hb.2
          rw [if_pos (by omega)] at this
          omega
      -- the lower ray
      have g0 : ∀ i, bt (y65 &&& o) i = true ↔ ∃ j, i ≤ j ∧ j < i + 1 ∧ bt (y65 &&& o) j = true := by
        intro i
        constructor
        · intro h
          exact ⟨i, Nat.le_refl _, by omega, h⟩
        · rintro ⟨j, a, b, c⟩
          have : j = i := by omega
          rw [← this]; exact c
      have g1 := bt_fill (by decide : 1 < 64) g0
      rw [show nI 1 = (1 : Int32) from rfl, ← e80] at g1
      have g2 := bt_fill (by decide : 2 < 64) g1
      rw [show nI 2 = (2 : Int32) from rfl, ← e89] at g2
      have g3 := bt_fill (by decide : 4 < 64) g2
      rw [show nI 4 = (4 : Int32) from rfl, ← e98] at g3
      have g4' := bt_fill (by decide : 8 < 64) g3
      rw [show nI 8 = (8 : Int32) from rfl, ← e108] at g4'
      have g5 := bt_fill (by decide : 16 < 64) g4'
      rw [show nI 16 = (16 : Int32) from rfl, ← e118] at g5
      have g6 := bt_fill (by decide : 32 < 64) g5
      rw [show nI 32 = (32 : Int32) from rfl, ← e128] at g6
      have sh : bt ((y128.toUInt64 >>> ((1 : Int32).toInt64.toUInt64 &&& Int64.toUInt64 63)).toInt64) t = bt y128 (1 + t) := bt_shr y128 (by decide : 1 < 64) t
      have dn : bt (y65 &&& (((y128.toUInt64 >>> ((1 : Int32).toInt64.toUInt64 &&& Int64.toUInt64 63)).toInt64) ^^^ (-1))) t = true ↔ lnD o (d + 4) s t := by
        rw [bt_and, bt_not _ ht, sh, rD t ht, lnD_iff (by omega) hs, Bool.and_eq_true, Bool.not_eq_true']
        refine and_congr_right (fun _ => ?_)
        constructor
        · intro hn u hu hb
          rw [if_neg (by omega)]
          rcases Nat.lt_or_ge t u with q | q
          · have hu64 : u < 64 := by
              obtain ⟨k, k1, k2, e⟩ := ryG_iff.mp hu
              rw [e]; exact (ray_at (by omega) hs k1 k2).1
            have := (g6 (1 + t)).mpr ⟨u, by omega, by omega, by rw [bt_and, rD u hu64, hu, hb]; rfl⟩
            rw [hn] at this
            exact absurd this (by decide)
          · exact q
        · intro hn
          rcases hb : bt y128 (1 + t) with _ | _
          · rfl
          · obtain ⟨u, a, b, c⟩ := (g6 (1 + t)).mp hb
            by_cases hu64 : u < 64
            · rw [bt_and, rD u hu64, Bool.and_eq_true] at c
              have := hn u c.1 c.2
              rw [if_neg (by omega)] at this
              omega
            · rw [bt_ge (by omega)] at c
              exact absurd c (by decide)
      rw [e144, bt_or, Bool.or_eq_true, dn, e49, bt_or, Bool.or_eq_true, up, hx t ht]
      constructor
      · rintro ((⟨e, a, b, c⟩ | h) | h)
        · exact ⟨e, by omega, b, c⟩
        · exact ⟨d, by omega, by omega, h⟩
        · exact ⟨d + 4, by omega, by omega, h⟩
      · rintro ⟨e, a, b, c⟩
        by_cases q1 : e = d
        · rw [q1] at c; exact Or.inl (Or.inr c)
        · by_cases q2 : e = d + 4
          · rw [q2] at c; exact Or.inr c
          · exact Or.inl (Or.inl ⟨e, by omega, b, c⟩)
  refine l0 _ _ _ _ _ ⟨rfl, vX1_lines_0 hW (loop 2 f 0 (by omega) (Nat.le_refl _) (fun t ht => ?_))⟩
  rw [bt_0]
  constructor
  · intro h; exact absurd h (by decide)
  · rintro ⟨e, a, b, _⟩
    omega
