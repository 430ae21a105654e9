/-! THE REFERENCE'S ENDINGS: where a position is kept -/
def kNb (k q : Nat) : Bool := if k = 1 then decide (q % 8 < 4) else decide (q % 8 < 4 ∧ q / 8 ≤ q % 8)
def kCt (k : Nat) : Nat → Nat
  | 0 => 0
  | q + 1 => kCt k q + (if kNb k q = true then 1 else 0)
def kNo (k q : Nat) : Int := if kNb k q = true then (kCt k q : Int) else -1
theorem kNb_0 {k : Nat} (h : k ≠ 1) (q : Nat) : kNb k q = kNb 0 q := by
  unfold kNb
  rw [if_neg h, if_neg (by decide)]
theorem kCt_0 {k : Nat} (h : k ≠ 1) : ∀ q, kCt k q = kCt 0 q
  | 0 => rfl
  | q + 1 => by unfold kCt; rw [kCt_0 h q, kNb_0 h]
theorem kNo_0 {k : Nat} (h : k ≠ 1) (q : Nat) : kNo k q = kNo 0 q := by
  unfold kNo
  rw [kNb_0 h, kCt_0 h]
/-- the first turn that leads the king where it is kept -/
def tIx (k s : Nat) : Nat := ((List.range 8).findIdx (fun i => kNb k (trn i s)))
theorem tIx_tab : (List.range 2).all (fun k => (List.range 64).all (fun s => decide (tIx k s < (if k = 1 then 2 else 8)) && kNb k (trn (tIx k s) s) && (List.range 8).all (fun i => decide (tIx k s ≤ i) || !kNb k (trn i s)) && (!kNb k s || decide (tIx k s = 0)) && decide (kCt k s ≤ (if k = 1 then 32 else 10)) && (!kNb k s || decide (kCt k s < (if k = 1 then 32 else 10))))) = true := by decide +kernel
theorem tIx_0 {k : Nat} (h : k ≠ 1) (s : Nat) : tIx k s = tIx 0 s := by
  unfold tIx
  congr 1
  funext i
  exact kNb_0 h _
def kSz (k : Nat) : Nat := if k = 1 then 32 else 10
theorem tIx_of {k s : Nat} (hs : s < 64) : tIx k s < 8 ∧ (k = 1 → tIx k s < 2) ∧ kNb k (trn (tIx k s) s) = true ∧ (∀ i, i < tIx k s → kNb k (trn i s) = false) ∧ (kNb k s = true → tIx k s = 0 ∧ kCt k s < kSz k) := by
  have key : ∀ j, j < 2 → tIx j s < (if j = 1 then 2 else 8) ∧ kNb j (trn (tIx j s) s) = true ∧ (∀ i, i < tIx j s → kNb j (trn i s) = false) ∧ (kNb j s = true → tIx j s = 0 ∧ kCt j s < (if j = 1 then 32 else 10)) := by
    intro j hj
    have h := List.all_eq_true.mp (List.all_eq_true.mp tIx_tab j (List.mem_range.mpr hj)) s (List.mem_range.mpr hs)
    simp only [Bool.and_eq_true, Bool.or_eq_true, Bool.not_eq_true', decide_eq_true_eq] at h
    obtain ⟨⟨⟨⟨⟨h1, h2⟩, h3⟩, h4⟩, _⟩, h6⟩ := h
    have lt8 : tIx j s < 8 := by split at h1 <;> omega
    refine ⟨h1, h2, fun i hi => ?_, fun hk => ⟨?_, ?_⟩⟩
    · have := List.all_eq_true.mp h3 i (List.mem_range.mpr (by omega))
      simp only [Bool.or_eq_true, Bool.not_eq_true', decide_eq_true_eq] at this
      rcases this with z | z
      · omega
      · exact z
    · rcases h4 with z | z
      · rw [hk] at z; exact absurd z (by decide)
      · exact z
    · rcases h6 with z | z
      · rw [hk] at z; exact absurd z (by decide)
      · exact z
  by_cases k1 : k = 1
  · subst k1
    obtain ⟨a, b, c, d⟩ := key 1 (by decide)
    exact ⟨by simp at a; omega, fun _ => by simpa using a, b, c, d⟩
  · obtain ⟨a, b, c, d⟩ := key 0 (by decide)
    rw [tIx_0 k1, kNb_0 k1]
    refine ⟨by simpa using a, fun z => absurd z k1, b, fun i hi => by rw [kNb_0 k1]; exact c i hi, fun z => ?_⟩
    rw [kNb_0 k1] at z
    rw [kCt_0 k1]
    unfold kSz
    rw [if_neg k1]
    exact d z
def plc (k s p w : Nat) (sm : Bool) : Nat := 2 * ((kCt k (trn (tIx k s) s) * 64 + trn (tIx k s) p) * 64 + trn (tIx k s) w) + (if sm = true then 1 else 0)
/-- the reference's tables of turns and of kings -/
def eTb (M : zM) : Prop := (∀ i q, i < 8 → q < 64 → M.1 74 (64 * i + q) = nI (trn i q)) ∧ ∀ q, q < 64 → M.1 75 q = iI (kNo 0 q) ∧ M.1 75 (64 + q) = iI (kNo 1 q)
theorem eTb.king {M : zM} (h : eTb M) (k : Nat) {q : Nat} (hq : q < 64) : M.1 75 ((if k = 1 then 64 else 0) + q) = iI (kNo k q) := by
  by_cases k1 : k = 1
  · rw [if_pos k1, k1]; exact (h.2 q hq).2
  · rw [if_neg k1, kNo_0 k1, Nat.zero_add]; exact (h.2 q hq).1
theorem kCt_lt {k q : Nat} (hq : q < 64) (h : kNb k q = true) : kCt k q < 32 := by
  have := (tIx_of (k := k) hq).2.2.2.2 h
  unfold kSz at this
  split at this <;> omega
theorem e_place {mc ms : Nat} {M : zM} (hW : zFix M) (hT : eTb M) {k s p w : Nat} {sm : Bool} (k1 : k ≤ 5) (hs : s < 64) (hp : p < 64) (hw : w < 64) {Q : zQt} (hq : Q (some (.int (nI (plc k s p w sm)))) M) : wX12_place mc ms [.ref 71, .int (nI k), .int (nI s), .int (nI p), .int (nI w), .int (bI sm)] M Q := by
  refine ⟨⟨Nat.le_of_ble_eq_true rfl, rfl⟩, fun X l0 l11 l16 l114 => ?_⟩
  obtain ⟨t8, _, tk, tf, _⟩ := tIx_of (k := k) hs
  obtain ⟨o, ho⟩ : ∃ o, o = if k = 1 then 64 else 0 := ⟨_, rfl⟩
  have o64 : o = 64 ∨ o = 0 := by rw [ho]; split <;> omega
  have loop : ∀ (r i : Nat), i + r = tIx k s → X 16 0 0 [.ref 71, .int (nI s), .int (nI p), .int (nI w), .int (bI sm), .int (nI o), .int (nI i)] [] M := by
    intro r
    induction r with
    | zero =>
      intro i hi
      have hi : i = tIx k s := by omega
      have i8 : i < 8 := by omega
      have ts := (trn_of i8 hs).2
      have tp := (trn_of i8 hp).2
      have tw := (trn_of i8 hw).2
      refine l16 _ _ _ _ _ ⟨rfl, vX12_place_16 hW ?_⟩
      rw [show (64 : Int32) * nI i = nI (64 * i) from pk_mul 64 i, nI_add, nI_add, nI_add, nI_clamp (by omega), nI_clamp (by omega), nI_clamp (by omega), hT.1 i s i8 hs, hT.1 i p i8 hp, hT.1 i w i8 hw, nI_add, nI_clamp (by omega)]
      have hk : M.1 75 (o + trn i s) = nI (kCt k (trn i s)) := by
        rw [ho, hT.king k ts]
        unfold kNo
        rw [hi, if_pos tk]
        rfl
      have c32 := kCt_lt ts (hi ▸ tk : kNb k (trn i s) = true)
      rw [hk]
      refine ⟨vp_in_nI (by omega) (by omega), vp_in_nI (by omega) (by omega), fun _ => ⟨vp_in_nI (by omega) (by omega), vp_in_nI (by omega) (by omega), fun y e => ?_⟩, fun z => absurd ((nI_leI (a := 0) (b := kCt k (trn i s)) (by decide) (by omega)).mpr (by omega)) z⟩
      rw [e]
      have val : ((2 : Int32) * (((nI (kCt k (trn i s)) * (64 : Int32)) + nI (trn i p)) * (64 : Int32) + nI (trn i w))) = nI (2 * ((kCt k (trn i s) * 64 + trn i p) * 64 + trn i w)) := by
        rw [show nI (kCt k (trn i s)) * (64 : Int32) = nI (kCt k (trn i s) * 64) from pk_mul _ 64, nI_add, show nI (kCt k (trn i s) * 64 + trn i p) * (64 : Int32) = nI ((kCt k (trn i s) * 64 + trn i p) * 64) from pk_mul _ 64, nI_add]
        exact pk_mul 2 _
      rw [val]
      refine ⟨vp_in_nI (by omega) (by omega), vp_in_nI (by omega) (by omega), fun z => l114 _ _ _ _ _ ⟨rfl, vX12_place_114 hW ?_⟩, fun z => l114 _ _ _ _ _ ⟨rfl, vX12_place_114 hW ?_⟩⟩
      · have z := bI_0.mp z
        unfold plc at hq
        rw [z, ← hi] at hq
        rw [show (0 : Int32) = nI 0 from rfl, nI_add]
        exact hq
      · have z := bI_n.mp z
        unfold plc at hq
        rw [z, ← hi] at hq
        rw [show (1 : Int32) = nI 1 from rfl, nI_add]
        exact hq
    | succ r ih =>
      intro i hi
      have i8 : i < 8 := by omega
      have ts := (trn_of i8 hs).2
      refine l16 _ _ _ _ _ ⟨rfl, vX12_place_16 hW ?_⟩
      rw [show (64 : Int32) * nI i = nI (64 * i) from pk_mul 64 i, nI_add, nI_add, nI_add, nI_clamp (by omega), nI_clamp (by omega), nI_clamp (by omega), hT.1 i s i8 hs, nI_add, nI_clamp (by omega)]
      have hk : M.1 75 (o + trn i s) = iI (-1) := by
        rw [ho, hT.king k ts]
        unfold kNo
        rw [tf i (by omega), if_neg (by decide)]
      rw [hk]
      refine ⟨vp_in_nI (by omega) (by omega), vp_in_nI (by omega) (by omega), fun z => absurd z (by decide), fun _ => ?_⟩
      rw [show nI i + (1 : Int32) = nI (i + 1) from nI_add _ 1]
      exact ih (i + 1) (by omega)
  have f11 : X 11 0 0 [.ref 71, .int (nI s), .int (nI p), .int (nI w), .int (bI sm)] [.int (nI o)] M := l11 _ _ _ _ _ ⟨rfl, vX12_place_11 hW (loop (tIx k s) 0 (by omega))⟩
  refine l0 _ _ _ _ _ ⟨rfl, vX12_place_0 hW ⟨fun z => ?_, fun z => ?_⟩⟩
  · have z : k = 1 := (nI_eq (a := k) (b := 1) (by omega) (by decide)).mp z
    rw [ho, if_pos z] at f11
    exact f11
  · have z : ¬ k = 1 := fun q => z (by rw [q]; rfl)
    rw [ho, if_neg z] at f11
    exact f11
