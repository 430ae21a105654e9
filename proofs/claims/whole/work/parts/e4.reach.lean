/-! THE REFERENCE'S ENDINGS: rows -/
theorem nX12_reached_23 {mc ms : Nat} {X : Nat → zV} {Q : zQt} {M : zM} {x1 x2 : Int32} (h : X 63 0 0 [] [.int (-1)] M) : aX12_reached_23 mc ms X Q 0 0 [some (.ref 71), some (.int x1), some (.int x2), none] [.null] M := h
theorem nkX12_reached_23 {mc ms : Nat} {X : Nat → zV} {Q : zQt} {M : zM} {x1 x2 : Int32} (h : X 23 0 0 [.ref 71, .int x1, .int x2] [.null] M) : kX12_reached_23 mc ms X Q 0 0 [some (.ref 71), some (.int x1), some (.int x2), none] [.null] M := h
theorem nX12_rowOf_52 {mc ms : Nat} {X : Nat → zV} {Q : zQt} {M : zM} (h : Q (some .null) M) : aX12_rowOf_52 mc ms X Q 0 0 [none, none] [.null] M := h
def slt (k : Nat) : Nat := if k = 1 then 4 else if k = 2 then 7 else if k = 3 then 8 else if k = 4 then 5 else 6
theorem e_rowOf {mc ms : Nat} {M : zM} (hW : zFix M) {k : Nat} (k5 : k ≤ 5) {Q : zQt} (hq : Q (some (zrf (M.2.2.1 71 (slt k)))) M) : wX12_rowOf mc ms [.ref 71, .int (nI k)] M Q := by
  refine ⟨⟨Nat.le_of_ble_eq_true rfl, rfl⟩, fun X l0 l52 => ?_⟩
  have kI : ∀ n : Nat, n < 2 ^ 31 → (nI k = nI n ↔ k = n) := fun n hn => nI_eq (by omega) hn
  have f52 : ∀ j, j = slt k → X 52 0 0 [] [zrf (M.2.2.1 71 j)] M := fun j e => by
    rw [e]
    refine l52 _ _ _ _ _ ⟨rfl, ?_⟩
    cases e2 : M.2.2.1 71 (slt k) with
    | none => rw [e2] at hq; exact hq
    | some r => rw [e2] at hq; exact hq
  refine l0 _ _ _ _ _ ⟨rfl, vX12_rowOf_0 hW ⟨fun a => f52 4 ?_, fun a => ⟨fun b => f52 7 ?_, fun b => ⟨fun c => f52 8 ?_, fun c => ⟨fun d => f52 5 ?_, fun d => f52 6 ?_⟩⟩⟩⟩⟩
  · have a := (kI 1 (by decide)).mp a
    unfold slt; rw [if_pos a]
  · have b := (kI 2 (by decide)).mp b
    subst b; rfl
  · have c := (kI 3 (by decide)).mp c
    subst c; rfl
  · have d := (kI 4 (by decide)).mp d
    subst d; rfl
  · have a : ¬ k = 1 := fun q => a (by rw [q]; rfl)
    have b : ¬ k = 2 := fun q => b (by rw [q]; rfl)
    have c : ¬ k = 3 := fun q => c (by rw [q]; rfl)
    have d : ¬ k = 4 := fun q => d (by rw [q]; rfl)
    unfold slt; rw [if_neg a, if_neg b, if_neg c, if_neg d]
/-- what a place of a row holds when all distances below N are known -/
def eV (k s p w : Nat) (sm : Bool) (N : Nat) (v : Int32) : Prop := (∃ d, d < N ∧ isD k s p w sm d ∧ v = nI d) ∨ ((∀ d, d < N → ¬ isD k s p w sm d) ∧ v = -1)
/-- a row, one side's places -/
def eRd (M : zM) (k : Nat) (sm : Bool) (N : Nat) : Prop := (M.2.2.1 71 (slt k) = none ∧ ∀ s p w d, s < 64 → p < 64 → w < 64 → d < N → ¬ isD k s p w sm d) ∨ ∃ r, M.2.2.1 71 (slt k) = some r ∧ zsh M r = some (3, 8192 * kSz k) ∧ ∀ s p w, s < 64 → p < 64 → w < 64 → eV k s p w sm N (M.1 r (plc k s p w sm))
theorem plc_lt {k s p w : Nat} {sm : Bool} (hs : s < 64) (hp : p < 64) (hw : w < 64) : plc k s p w sm < 8192 * kSz k := by
  obtain ⟨t8, _, tk, _, _⟩ := tIx_of (k := k) hs
  have ts := (trn_of t8 hs).2
  have tp := (trn_of t8 hp).2
  have tw := (trn_of t8 hw).2
  have := ((tIx_of (k := k) ts).2.2.2.2 tk).2
  unfold plc
  have : (if sm = true then 1 else 0) ≤ 1 := by split <;> omega
  omega
theorem kSz_le (k : Nat) : kSz k ≤ 32 := by unfold kSz; split <;> omega
theorem e_reached {mc ms : Nat} {M : zM} (hW : zFix M) (hT : eTb M) {L : List (Nat × Nat × Nat × Nat × Nat)} (hL : eMl M L) {i : Nat} {m : Nat × Nat × Nat × Nat × Nat} (hi : L[i]? = some m) (hm : m.2.1 ≤ 5 ∧ m.2.2.1 < 64 ∧ m.2.2.2.1 < 64 ∧ m.2.2.2.2 < 64) {sm : Bool} {N : Nat} (hR : m.2.1 ≠ 0 → eRd M m.2.1 sm N) {Q : zQt} (hq : ∀ v, (m.2.1 = 0 → v = -1) → (m.2.1 ≠ 0 → eV m.2.1 m.2.2.1 m.2.2.2.1 m.2.2.2.2 sm N v) → Q (some (.int v)) M) : wX12_reached mc ms [.ref 71, .int (nI i), .int (bI sm)] M Q := by
  refine ⟨⟨Nat.le_of_ble_eq_true rfl, rfl⟩, fun X l0 l23 l63 => ?_⟩
  have hil : i < L.length := (List.getElem?_eq_some_iff.mp hi).1
  have i64 : i < 64 := Nat.lt_of_lt_of_le hil hL.2.1
  obtain ⟨-, g2, g3, g4, g5⟩ := hL.2.2 i m hi
  obtain ⟨h1, h2, h3, h4⟩ := hm
  have v64 : vp_in (nI i) 64 := vp_in_nI (by omega) (by omega)
  have f63 : ∀ v, (m.2.1 = 0 → v = -1) → (m.2.1 ≠ 0 → eV m.2.1 m.2.2.1 m.2.2.2.1 m.2.2.2.2 sm N v) → X 63 0 0 [] [.int v] M := fun v a b => l63 _ _ _ _ _ ⟨rfl, vX12_reached_63 hW (hq v a b)⟩
  have f23n : (m.2.1 ≠ 0 → ∀ d, d < N → ¬ isD m.2.1 m.2.2.1 m.2.2.2.1 m.2.2.2.2 sm d) → X 23 0 0 [.ref 71, .int (nI i), .int (bI sm)] [.null] M := fun h => l23 _ _ _ _ _ ⟨rfl, nX12_reached_23 (f63 (-1) (fun _ => rfl) (fun z => Or.inr ⟨h z, rfl⟩))⟩
  refine l0 _ _ _ _ _ ⟨rfl, vX12_reached_0 hW ?_⟩
  rw [nI_clamp (by omega), g2]
  refine ⟨v64, fun z => f23n (fun y => absurd ((nI_eq (b := 0) (by omega) (by decide)).mp z) y), fun z => ⟨v64, ?_⟩⟩
  have nz : m.2.1 ≠ 0 := fun q => z (by rw [q]; rfl)
  refine e_rowOf hW h1 ?_
  rcases hR nz with ⟨e, hno⟩ | ⟨r, e, hsh, hv⟩
  · rw [e]
    exact nkX12_reached_23 (f23n (fun _ d hd => hno _ _ _ d h2 h3 h4 hd))
  · rw [e]
    refine vkX12_reached_23 hW hsh ?_
    refine l23 _ _ _ _ _ ⟨rfl, vX12_reached_23 hW hsh ?_⟩
    rw [nI_clamp (by omega), g2, g3, g4, g5]
    refine ⟨v64, v64, v64, v64, ?_⟩
    refine e_place hW hT h1 h2 h3 h4 ?_
    refine vkX12_reached_62 hW hsh hsh ?_
    have lt := plc_lt (k := m.2.1) (sm := sm) h2 h3 h4
    have := kSz_le m.2.1
    rw [nI_clamp (by omega)]
    exact ⟨vp_in_nI lt (by omega), f63 _ (fun q => absurd q nz) (fun _ => hv _ _ _ h2 h3 h4)⟩
