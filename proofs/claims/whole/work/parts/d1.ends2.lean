/-! THE REFERENCE'S ENDINGS: lists of moves -/
/-- where a king's step i leads; -1 if nowhere -/
def sT (s i : Nat) : Int := if i = 4 ∨ s % 8 + i % 3 < 1 ∨ 8 < s % 8 + i % 3 ∨ s / 8 + i / 3 < 1 ∨ 8 < s / 8 + i / 3 then -1 else 8 * ((s / 8 : Nat) + (i / 3 : Nat) - 1) + ((s % 8 : Nat) + (i % 3 : Nat) - 1)
theorem e_stepped {mc ms : Nat} {M : zM} (hW : zFix M) {s i : Nat} (hs : s < 64) (hi : i < 9) {Q : zQt} (hq : Q (some (.int (iI (sT s i)))) M) : wX12_stepped mc ms [.ref 71, .int (nI s), .int (nI i)] M Q := by
  refine ⟨⟨Nat.le_of_ble_eq_true rfl, rfl⟩, fun X l0 l50 l61 => ?_⟩
  have f61 : ∀ z : Int, z = sT s i → X 61 0 0 [] [.int (iI z)] M := fun z e => l61 _ _ _ _ _ ⟨rfl, vX12_stepped_61 hW (by rw [e]; exact hq)⟩
  have f50 : sT s i = -1 → X 50 0 0 [] [] M := fun e => l50 _ _ _ _ _ ⟨rfl, vX12_stepped_50 hW (f61 (-1) e.symm)⟩
  refine l0 _ _ _ _ _ ⟨rfl, vX12_stepped_0 hW (fun y1 e1 y2 e2 => ?_)⟩
  rw [m8 (by omega), show (nI i - nI i / (3 : Int32) * (3 : Int32)) = nI (i % 3) from pk_rem (d := 3) (by omega) (by decide) (by decide), iI_nat, iI_nat, iI_add, show (1 : Int32) = iI 1 from rfl, iI_sub] at e1
  rw [q8 (by omega), show nI i / (3 : Int32) = nI (i / 3) from pk_div (d := 3) (by omega) (by decide) (by decide), iI_nat, iI_nat, iI_add, show (1 : Int32) = iI 1 from rfl, iI_sub] at e2
  have i0 : ∀ z : Int, -100 < z → z < 100 → (iI z < 0 ↔ z < 0) := fun z a b => iI_lt (a := z) (b := 0) (by omega) (by omega) (by decide) (by decide)
  have i8 : ∀ z : Int, -100 < z → z < 100 → ((8 : Int32) ≤ iI z ↔ 8 ≤ z) := fun z a b => iI_le (a := 8) (b := z) (by decide) (by decide) (by omega) (by omega)
  have i9 : ∀ z : Int, -100 < z → z < 100 → (iI z < (8 : Int32) ↔ z < 8) := fun z a b => iI_lt (a := z) (b := 8) (by omega) (by omega) (by decide) (by decide)
  rw [e1, e2]
  refine ⟨fun c => f50 ?_, fun c => ⟨fun d => f50 ?_, fun d => ⟨fun e => f50 ?_, fun e => ⟨fun g => f50 ?_, fun g => ⟨fun h => ?_, fun h => f50 ?_⟩⟩⟩⟩⟩
  · have c := (nI_eq (a := i) (b := 4) (by omega) (by decide)).mp c
    unfold sT; rw [if_pos (by omega)]
  · rw [i0 _ (by omega) (by omega)] at d
    unfold sT; rw [if_pos (by omega)]
  · rw [i8 _ (by omega) (by omega)] at e
    unfold sT; rw [if_pos (by omega)]
  · rw [i0 _ (by omega) (by omega)] at g
    unfold sT; rw [if_pos (by omega)]
  · have c : ¬ i = 4 := fun q => c (by rw [q]; rfl)
    rw [i0 _ (by omega) (by omega)] at d g
    rw [i8 _ (by omega) (by omega)] at e
    rw [i9 _ (by omega) (by omega)] at h
    rw [show (8 : Int32) = iI 8 from rfl, iI_mul, iI_add]
    refine f61 _ ?_
    unfold sT; rw [if_neg (by omega)]
  · rw [i9 _ (by omega) (by omega)] at h
    rw [i8 _ (by omega) (by omega)] at e
    unfold sT; rw [if_pos (by omega)]
theorem sT_all : (List.range 64).all (fun s => (List.range 9).all (fun i => decide (sT s i = -1) || (decide (0 ≤ sT s i) && decide (sT s i < 64) && decide (s ≠ (sT s i).toNat) && decide (aI (dF s (sT s i).toNat) < 2) && decide (aI (dR s (sT s i).toNat) < 2)))) = true := by decide +kernel
theorem sT_back : (List.range 64).all (fun s => (List.range 64).all (fun t => decide (s = t) || !decide (aI (dF s t) < 2) || !decide (aI (dR s t) < 2) || (List.range 9).any (fun i => decide (sT s i = t)))) = true := by decide +kernel
theorem sT_of {s i : Nat} (hs : s < 64) (hi : i < 9) : sT s i = -1 ∨ (0 ≤ sT s i ∧ sT s i < 64 ∧ kiG s (sT s i).toNat) := by
  have h := List.all_eq_true.mp (List.all_eq_true.mp sT_all s (List.mem_range.mpr hs)) i (List.mem_range.mpr hi)
  simp only [Bool.or_eq_true, Bool.and_eq_true, decide_eq_true_eq] at h
  rcases h with h | ⟨⟨⟨⟨a, b⟩, c⟩, d⟩, e⟩
  · exact Or.inl h
  · exact Or.inr ⟨a, b, c, d, e⟩
theorem sT_to {s t : Nat} (hs : s < 64) (ht : t < 64) (h : kiG s t) : ∃ i, i < 9 ∧ sT s i = t := by
  have q := List.all_eq_true.mp (List.all_eq_true.mp sT_back s (List.mem_range.mpr hs)) t (List.mem_range.mpr ht)
  simp only [Bool.or_eq_true, Bool.not_eq_true', decide_eq_true_eq, decide_eq_false_iff_not, List.any_eq_true, List.mem_range] at q
  rcases q with ((q | q) | q) | ⟨i, a, b⟩
  · exact absurd q h.1
  · exact absurd h.2.1 q
  · exact absurd h.2.2 q
  · exact ⟨i, a, b⟩
theorem sT_ki {s : Nat} (hs : s < 64) {P : Nat → Prop} : (∃ i, i < 9 ∧ 0 ≤ sT s i ∧ P (sT s i).toNat) ↔ ∃ t, t < 64 ∧ kiG s t ∧ P t := by
  constructor
  · rintro ⟨i, hi, h0, hP⟩
    rcases sT_of hs hi with h | ⟨a, b, c⟩
    · omega
    · exact ⟨_, by omega, c, hP⟩
  · rintro ⟨t, ht, hk, hP⟩
    obtain ⟨i, hi, e⟩ := sT_to hs ht hk
    exact ⟨i, hi, by omega, by rw [e]; exact hP⟩
/-- a move: its number, and the position after it -/
def eMl (N : zM) (L : List (Nat × Nat × Nat × Nat × Nat)) : Prop := N.1 71 11 = nI L.length ∧ L.length ≤ 64 ∧ ∀ i m, L[i]? = some m → N.1 76 i = nI m.1 ∧ N.1 77 i = nI m.2.1 ∧ N.1 78 i = nI m.2.2.1 ∧ N.1 79 i = nI m.2.2.2.1 ∧ N.1 80 i = nI m.2.2.2.2
def eC : List Nat := [71, 76, 77, 78, 79, 80]
theorem e_add {mc ms : Nat} {N : zM} (hW : zFix N) {L : List (Nat × Nat × Nat × Nat × Nat)} (h : eMl N L) (hl : L.length < 64) (a b c k s p w : Nat) {Q : zQt} (hq : ∀ K, zSm eC N K → eMl K (L ++ [(a + 64 * b + 4096 * c, k, s, p, w)]) → Q none K) : wX12_add mc ms [.ref 71, .int (nI a), .int (nI b), .int (nI c), .int (nI k), .int (nI s), .int (nI p), .int (nI w)] N Q := by
  refine ⟨⟨Nat.le_of_ble_eq_true rfl, rfl⟩, fun X l0 => ?_⟩
  refine l0 _ _ _ _ _ ⟨rfl, vX12_add_0 hW ?_⟩
  have h0 := h.1
  rw [show (64 : Int32) * nI b = nI (64 * b) from pk_mul 64 b, nI_add, show (4096 : Int32) * nI c = nI (4096 * c) from pk_mul 4096 c, nI_add]
  have v64 : vp_in (nI L.length) 64 := vp_in_nI (by omega) (by omega)
  have tn := nI_clamp (n := L.length) (by omega)
  rw [h0]
  refine ⟨v64, fun M1 e1 => ?_⟩
  rw [tn] at e1
  have r1 : M1.1 71 11 = nI L.length := by rw [e1, zsI_at, if_neg (by omega), h0]
  rw [r1]
  refine ⟨v64, fun M2 e2 => ?_⟩
  rw [tn] at e2
  have r2 : M2.1 71 11 = nI L.length := by rw [e2, zsI_at, if_neg (by omega), r1]
  rw [r2]
  refine ⟨v64, fun M3 e3 => ?_⟩
  rw [tn] at e3
  have r3 : M3.1 71 11 = nI L.length := by rw [e3, zsI_at, if_neg (by omega), r2]
  rw [r3]
  refine ⟨v64, fun M4 e4 => ?_⟩
  rw [tn] at e4
  have r4 : M4.1 71 11 = nI L.length := by rw [e4, zsI_at, if_neg (by omega), r3]
  rw [r4]
  refine ⟨v64, fun M5 e5 M6 e6 => ?_⟩
  rw [tn] at e5
  have r5 : M5.1 71 11 = nI L.length := by rw [e5, zsI_at, if_neg (by omega), r4]
  rw [r5, show nI L.length + (1 : Int32) = nI (L.length + 1) from nI_add _ 1] at e6
  have sm : zSm eC N M6 := by
    rw [e6, e5, e4, e3, e2, e1]
    exact ((((zSm.I (by decide)).tr (zSm.I (by decide))).tr (zSm.I (by decide))).tr (zSm.I (by decide))).tr ((zSm.I (by decide)).tr (zSm.I (by decide)))
  refine hq M6 sm ⟨?_, ?_, fun i m hm => ?_⟩
  · rw [e6, zsI_at, if_pos ⟨rfl, rfl⟩]; simp
  · simp; omega
  · rw [e6, e5, e4, e3, e2, e1]
    simp only [zsI_at]
    by_cases hi : i < L.length
    · rw [List.getElem?_append_left hi] at hm
      have g := h.2.2 i m hm
      have ne : i ≠ L.length := by omega
      simp [ne, g]
    · by_cases he : i = L.length
      · rw [he, List.getElem?_append_right (Nat.le_refl _)] at hm
        simp at hm
        rw [← hm, he]
        simp
      · rw [List.getElem?_eq_none (by simp; omega)] at hm
        exact absurd hm (by simp)
