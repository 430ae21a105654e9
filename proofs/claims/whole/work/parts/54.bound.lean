/-! HOW MANY MOVES A POSITION HAS AT MOST -/
def cap (k : Nat) : Nat := if k = 1 then 12 else if k = 2 then 8 else if k = 3 then 13 else if k = 4 then 14 else if k = 5 then 27 else if k = 6 then 10 else 0
def geoK (k c a b : Nat) : Bool := if k = 1 then decide ((b : Int) = a + upI c) || decide ((b : Int) = a + 2 * upI c) && decide (a / 8 = (if c = 0 then 1 else 6)) || decide (aI (dF a b) = 1) && decide (dR a b = (if c = 0 then 1 else -1)) else
  if k = 2 then decide (aI (dF a b) * aI (dR a b) = 2) else if k = 6 then decide (a ≠ b) && decide (aI (dF a b) < 2) && decide (aI (dR a b) < 2) || decide (a = 4 + 56 * c) && (decide (b = a + 2) || decide (b + 2 = a)) else decide (a ≠ b) && ((decide (dF a b = 0) || decide (dR a b = 0)) && decide (k ≠ 3) || decide (aI (dF a b) = aI (dR a b)) && decide (k ≠ 4))
def wNk (k b : Nat) : Nat := if k = 1 ∧ (b < 8 ∨ 55 < b) then 4 else 1
def gsum (k c a : Nat) : Nat := cn (fun b => if geoK k c a b = true then wNk k b else 0) 64
theorem gsum_le : (List.range 7).all (fun k => (List.range 2).all (fun c => (List.range 64).all (fun a => decide (k = 0) || decide (gsum k c a ≤ cap k)))) = true := by decide +kernel
theorem gsum_cap {k c a : Nat} (hk : k < 7) (h0 : k ≠ 0) (hc : c ≤ 1) (ha : a < 64) : gsum k c a ≤ cap k := by
  have h := List.all_eq_true.mp (List.all_eq_true.mp (List.all_eq_true.mp gsum_le k (List.mem_range.mpr hk)) c (List.mem_range.mpr (by omega))) a (List.mem_range.mpr ha)
  rw [Bool.or_eq_true, decide_eq_true_eq, decide_eq_true_eq] at h
  rcases h with h | h
  · exact absurd h h0
  · exact h
theorem kd_sd {m c : Nat} (hm : m ≤ 12) (hc : c ≤ 1) (h : sdI m = c) : kd m ≠ 0 ∧ kd m < 7 ∧ m = kd m + 6 * c := by
  unfold sdI at h
  unfold kd
  split at h
  · omega
  · split at h
    · split <;> omega
    · split <;> omega
/-- what a legal move asks of the two squares -/
theorem lgl_geo {P : Ps} (hO : psOk P) {a b : Nat} (ha : a < 64) (h : lgl P a b) : geoK (kd (P.1 a)) P.2.1 a b = true := by
  obtain ⟨⟨h1, -, -, h2, h3⟩, -⟩ := h
  have hc := hO.2.1
  obtain ⟨k0, k7, ke⟩ := kd_sd (hO.1 a ha) hc h1
  have hat : att P.1 a b → kd (P.1 a) = 1 → aI (dF a b) = 1 ∧ dR a b = (if P.2.1 = 0 then 1 else -1) := by
    intro q hk
    obtain ⟨z1, z2⟩ := q.2.2.1 hk
    refine ⟨z1, ?_⟩
    rw [z2]
    rw [hk] at ke
    rcases (show P.2.1 = 0 ∨ P.2.1 = 1 by omega) with s | s
    · rw [if_pos (by omega), if_pos s]
    · rw [if_neg (by omega), if_neg (by omega)]
  unfold geoK
  by_cases hk : kd (P.1 a) = 1
  · rw [if_pos hk]
    have hp := h2 hk
    unfold pgo at hp
    split at hp
    · rename_i e
      simp [e]
    · split at hp
      · rename_i e
        simp [e, hp.1]
      · have : aI (dF a b) = 1 ∧ dR a b = (if P.2.1 = 0 then 1 else -1) := by
          rcases hp with q | q
          · exact hat q.1 hk
          · exact hat q.2.1 hk
        rw [this.1, this.2]
        simp
  · rw [if_neg hk]
    rcases h3 hk with q | q
    · by_cases hk2 : kd (P.1 a) = 2
      · rw [if_pos hk2]
        simpa using q.2.2.2.1 hk2
      · rw [if_neg hk2]
        by_cases hk6 : kd (P.1 a) = 6
        · rw [if_pos hk6]
          have := q.2.2.2.2.1 hk6
          have hne := q.2.1
          simp [this.1, this.2, hne]
        · rw [if_neg hk6]
          have := (q.2.2.2.2.2 hk hk2 hk6).1
          have hne := q.2.1
          unfold slides at this
          simp [hne]
          rcases this with w | w
          · exact Or.inl ⟨w.1, w.2⟩
          · exact Or.inr ⟨w.1, w.2⟩
    · obtain ⟨hk6, hcs⟩ := q
      rw [if_neg (by omega), if_pos hk6]
      obtain ⟨e, q, -⟩ := hcs
      have : b = a + 2 ∨ b + 2 = a := by
        rcases q with q | q
        · exact Or.inl q.1
        · exact Or.inr q.1
      rw [Bool.or_eq_true]
      refine Or.inr ?_
      simp only [Bool.and_eq_true, Bool.or_eq_true, decide_eq_true_eq]
      exact ⟨e, this⟩
theorem fm_cn (f : Nat → List Nat) : ∀ n, ((List.range n).flatMap f).length = cn (fun b => (f b).length) n
  | 0 => rfl
  | n + 1 => by
    rw [List.range_succ, List.flatMap_append, List.length_append, fm_cn f n]
    simp [cn]
theorem cn_mono {f h : Nat → Nat} : ∀ n, (∀ i, i < n → f i ≤ h i) → cn f n ≤ cn h n
  | 0, _ => Nat.le_refl _
  | n + 1, q => by
    have := cn_mono n (fun i hi => q i (by omega))
    have := q n (by omega)
    simp only [cn]
    omega
theorem mvTo_len {P : Ps} (hO : psOk P) {a b : Nat} (ha : a < 64) : (mvTo P a b).length ≤ if geoK (kd (P.1 a)) P.2.1 a b = true then wNk (kd (P.1 a)) b else 0 := by
  by_cases h : lgl P a b
  · rw [mvTo_y h, if_pos (lgl_geo hO ha h)]
    unfold wNk
    by_cases hp : pmt P a b = true
    · rw [if_pos hp]
      unfold pmt at hp
      simp only [Bool.and_eq_true, Bool.or_eq_true, decide_eq_true_eq] at hp
      rw [if_pos hp, List.length_map, List.length_range]
      exact Nat.le_refl _
    · rw [if_neg hp, List.length_map, List.length_range]
      split <;> omega
  · rw [mvTo_n h]
    exact Nat.zero_le _
def capA (c m : Nat) : Nat := if sdI m = c then cap (kd m) else 0
theorem mvFrom_len {P : Ps} (hO : psOk P) {a : Nat} (ha : a < 64) : (mvFrom P a).length ≤ capA P.2.1 (P.1 a) := by
  unfold mvFrom
  rw [fm_cn]
  unfold capA
  by_cases h : sdI (P.1 a) = P.2.1
  · rw [if_pos h]
    obtain ⟨k0, k7, -⟩ := kd_sd (hO.1 a ha) hO.2.1 h
    exact Nat.le_trans (cn_mono 64 (fun b _ => mvTo_len hO ha)) (gsum_cap k7 k0 hO.2.1 ha)
  · rw [if_neg h]
    have : ∀ n, cn (fun b => (mvTo P a b).length) n = 0 := by
      intro n
      induction n with
      | zero => rfl
      | succ n ih =>
        simp only [cn]
        rw [ih, mvTo_n (fun q => h q.1.1)]
        rfl
    rw [this]
    exact Nat.le_refl _
def hmN (B : Nat → Nat) (m n : Nat) : Nat := cn (fun s => if B s = m then 1 else 0) n
theorem capA_val : (List.range 2).all (fun c => (List.range 13).all (fun m => decide (capA c m = 12 * (if m = 6 * c + 1 then 1 else 0) + 8 * (if m = 6 * c + 2 then 1 else 0) + 13 * (if m = 6 * c + 3 then 1 else 0) + 14 * (if m = 6 * c + 4 then 1 else 0) + 27 * (if m = 6 * c + 5 then 1 else 0) + 10 * (if m = 6 * c + 6 then 1 else 0)))) = true := by decide +kernel
theorem cap_sum {B : Nat → Nat} {c : Nat} (hc : c ≤ 1) : ∀ n, (∀ s, s < n → B s ≤ 12) → cn (fun a => capA c (B a)) n = 12 * hmN B (6 * c + 1) n + 8 * hmN B (6 * c + 2) n + 13 * hmN B (6 * c + 3) n + 14 * hmN B (6 * c + 4) n + 27 * hmN B (6 * c + 5) n + 10 * hmN B (6 * c + 6) n
  | 0, _ => rfl
  | n + 1, hB => by
    have ih := cap_sum hc n (fun s hs => hB s (by omega))
    have hv := List.all_eq_true.mp (List.all_eq_true.mp capA_val c (List.mem_range.mpr (by omega))) (B n) (List.mem_range.mpr (by have := hB n (by omega); omega))
    rw [decide_eq_true_eq] at hv
    unfold hmN at ih ⊢
    simp only [cn]
    rw [ih, hv]
    omega
theorem mvs_bound {P : Ps} (hO : psOk P) (h6 : hm P.1 (6 * P.2.1 + 6) = 1) (hw : wgt P.1 P.2.1 ≤ 8) : (mvs P).length ≤ 323 := by
  unfold mvs
  rw [fm_cn]
  have h := cn_mono (f := fun a => (mvFrom P a).length) (h := fun a => capA P.2.1 (P.1 a)) 64 (fun a ha => mvFrom_len hO ha)
  rw [cap_sum hO.2.1 64 hO.1] at h
  unfold wgt at hw
  unfold hm at h6 hw
  unfold hmN at h
  omega
