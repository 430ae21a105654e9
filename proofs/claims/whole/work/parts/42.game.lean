/-! THE REFERENCE'S GAME: positions in a row, what each is worth -/
theorem zsI_o {M : zM} {a j : Nat} {v : Int32} {b : Nat} (h : b ≠ a) : (zsI M a j v).1 b = M.1 b := z2_off _ _ _ h
theorem zsI_s {M : zM} {a j : Nat} {v : Int32} : (zsI M a j v).1 a j = v := by rw [zsI_at, if_pos ⟨rfl, rfl⟩]
theorem zsI_n {M : zM} {a j : Nat} {v : Int32} {i : Nat} (h : i ≠ j) : (zsI M a j v).1 a i = M.1 a i := by rw [zsI_at, if_neg (fun q => h q.2)]
/-- a position's 69 ints -/
def psI (P : Ps) (k : Nat) : Int32 := if k < 64 then nI (P.1 k) else if k = 64 then nI P.2.1 else if k = 65 then nI P.2.2.1 else if k = 66 then pI P.2.2.2.1 else if k = 67 then nI P.2.2.2.2.1 else nI P.2.2.2.2.2
def psOk (P : Ps) : Prop := (∀ s, s < 64 → P.1 s ≤ 12) ∧ P.2.1 ≤ 1 ∧ P.2.2.1 < 16 ∧ P.2.2.2.1 ≤ 8 ∧ P.2.2.2.2.1 < 2 ^ 30 ∧ P.2.2.2.2.2 < 2 ^ 30
theorem rPs_iff {M : zM} {p : Nat} {P : Ps} : rPs M p P ↔ (∀ k, k < 69 → M.1 65 (p + k) = psI P k) ∧ psOk P := by
  constructor
  · rintro ⟨h1, ⟨h2, h2'⟩, ⟨h3, h3'⟩, ⟨h4, h4'⟩, ⟨h5, h5'⟩, h6, h6'⟩
    refine ⟨fun k hk => ?_, fun s hs => (h1 s hs).2, h2', h3', h4', h5', h6'⟩
    unfold psI
    by_cases c : k < 64
    · rw [if_pos c]; exact (h1 k c).1
    · rw [if_neg c]
      rcases (show k = 64 ∨ k = 65 ∨ k = 66 ∨ k = 67 ∨ k = 68 by omega) with rfl | rfl | rfl | rfl | rfl
      · exact h2
      · exact h3
      · exact h4
      · exact h5
      · exact h6
  · rintro ⟨h, o1, o2, o3, o4, o5, o6⟩
    refine ⟨fun s hs => ⟨?_, o1 s hs⟩, ⟨h 64 (by omega), o2⟩, ⟨h 65 (by omega), o3⟩, ⟨h 66 (by omega), o4⟩, ⟨h 67 (by omega), o5⟩, h 68 (by omega), o6⟩
    rw [h s (by omega)]
    unfold psI
    rw [if_pos hs]
/-- the position shown, with its list -/
def rSh (M : zM) (P : Ps) : Prop := rPs M 0 P ∧ (∀ k v, (mvs P)[k]? = some v → M.1 66 k = nI v) ∧ M.1 67 0 = nI (mvs P).length
theorem mem_mvs {P : Ps} {m : Nat} (h : m ∈ mvs P) : ∃ a b k, a < 64 ∧ b < 64 ∧ lgl P a b ∧ m = a + 64 * b + 4096 * k ∧ (pmt P a b = true ∧ 2 ≤ k ∧ k ≤ 5 ∨ pmt P a b = false ∧ k = 0) := by
  unfold mvs at h
  obtain ⟨a, ha, h⟩ := List.mem_flatMap.mp h
  unfold mvFrom at h
  obtain ⟨b, hb, h⟩ := List.mem_flatMap.mp h
  have ha := List.mem_range.mp ha
  have hb := List.mem_range.mp hb
  by_cases hl : lgl P a b
  · rw [mvTo_y hl] at h
    by_cases hp : pmt P a b = true
    · rw [if_pos hp] at h
      obtain ⟨t, ht, e⟩ := List.mem_map.mp h
      have ht := List.mem_range.mp ht
      exact ⟨a, b, 2 + t, ha, hb, hl, e.symm, Or.inl ⟨hp, by omega, by omega⟩⟩
    · rw [if_neg hp] at h
      obtain ⟨t, ht, e⟩ := List.mem_map.mp h
      have ht := List.mem_range.mp ht
      exact ⟨a, b, 0 + t, ha, hb, hl, e.symm, Or.inr ⟨by simpa using hp, by omega⟩⟩
  · rw [mvTo_n hl] at h
    exact absurd h (by simp)
theorem mvs_lt {P : Ps} {m : Nat} (h : m ∈ mvs P) : m < 24576 := by
  obtain ⟨a, b, k, ha, hb, _, e, hk⟩ := mem_mvs h
  rcases hk with q | q <;> omega
/-- the file of the first move of a list that takes in passing; 8 if none does -/
noncomputable def pfL (P : Ps) : List Nat → Nat
  | [] => 8
  | m :: t => if tipB P (m % 64) (m / 64 % 64) = true then m / 64 % 64 % 8 else pfL P t
noncomputable def pfl (P : Ps) : Nat := pfL P (mvs P)
theorem pfL_le (P : Ps) : ∀ L, pfL P L ≤ 8
  | [] => Nat.le_refl 8
  | m :: t => by
    unfold pfL
    split
    · omega
    · exact pfL_le P t
theorem pfl_le (P : Ps) : pfl P ≤ 8 := pfL_le P _
theorem pI_eq {a b : Nat} (ha : a ≤ 8) (hb : b ≤ 8) : pI a = pI b ↔ a = b := by
  revert a b
  have : ∀ a, a < 9 → ∀ b, b < 9 → (pI a = pI b ↔ a = b) := by decide
  intro a b ha hb
  exact this a (by omega) b (by omega)
def same (P R : Ps) : Prop := pfl P = pfl R ∧ ∀ k, k < 66 → psI P k = psI R k
noncomputable def sameN (P R : Ps) : Nat := @ite _ (same P R) (Classical.propDecidable _) 1 0
def cn (f : Nat → Nat) : Nat → Nat
  | 0 => 0
  | n + 1 => cn f n + f n
noncomputable def cnt (ps : Nat → Ps) (i : Nat) : Nat := cn (fun j => sameN (ps i) (ps j)) (i + 1)
theorem cn_le {f : Nat → Nat} (h : ∀ i, f i ≤ 1) : ∀ n, cn f n ≤ n
  | 0 => Nat.le_refl 0
  | n + 1 => by
    have := cn_le h n
    have := h n
    show cn f n + f n ≤ n + 1
    omega
noncomputable def chB (P : Ps) : Bool := @decide (chk P.1 P.2.1) (Classical.propDecidable _)
theorem chB_t {P : Ps} : chB P = true ↔ chk P.1 P.2.1 := by
  unfold chB
  exact @decide_eq_true_iff _ (Classical.propDecidable _)
theorem chB_f {P : Ps} : chB P = false ↔ ¬ chk P.1 P.2.1 := by
  rw [← chB_t]
  simp
def fOth (B : Nat → Nat) (s : Nat) : Nat := if 0 < kd (B s) ∧ kd (B s) < 6 then 1 else 0
def fMin (B : Nat → Nat) (s : Nat) : Nat := if kd (B s) = 2 ∨ kd (B s) = 3 then 1 else 0
def fWh (B : Nat → Nat) (s : Nat) : Nat := if B s = 3 then 1 else 0
def fBl (B : Nat → Nat) (s : Nat) : Nat := if B s = 9 then 1 else 0
def fLt (B : Nat → Nat) (s : Nat) : Nat := if kd (B s) = 3 then (s % 8 + s / 8) % 2 else 0
abbrev dead (B : Nat → Nat) : Prop := cn (fOth B) 64 = 0 ∨ cn (fOth B) 64 = 1 ∧ cn (fMin B) 64 = 1 ∨ cn (fOth B) 64 = 2 ∧ cn (fWh B) 64 = 1 ∧ cn (fBl B) 64 = 1 ∧ cn (fLt B) 64 ≠ 1
theorem fOth_le (B : Nat → Nat) (s : Nat) : fOth B s ≤ 1 := by unfold fOth; split <;> omega
theorem fMin_le (B : Nat → Nat) (s : Nat) : fMin B s ≤ 1 := by unfold fMin; split <;> omega
theorem fWh_le (B : Nat → Nat) (s : Nat) : fWh B s ≤ 1 := by unfold fWh; split <;> omega
theorem fBl_le (B : Nat → Nat) (s : Nat) : fBl B s ≤ 1 := by unfold fBl; split <;> omega
theorem fLt_le (B : Nat → Nat) (s : Nat) : fLt B s ≤ 1 := by unfold fLt; split <;> omega
noncomputable def vdt (P : Ps) (c : Nat) : Nat := if (mvs P).length = 0 then (if chB P = true then 1 else 2) else if dead P.1 then 3 else if 5 ≤ c then 4 else if 150 ≤ P.2.2.2.2.1 then 5 else if 3 ≤ c then (if 100 ≤ P.2.2.2.2.1 then 8 else 6) else if 100 ≤ P.2.2.2.2.1 then 7 else 0
theorem c_base {mc ms : Nat} {M : zM} (hW : zFix M) {g : Nat} (hg : M.1 55 6 = nI g) {Q : zQt} (hq : Q (some (.int (nI (601 * g)))) M) : wX13_base mc ms [.ref 55] M Q := by
  refine ⟨⟨Nat.le_of_ble_eq_true rfl, rfl⟩, fun X l0 => ?_⟩
  refine l0 _ _ _ _ _ ⟨rfl, vX13_base_0 hW ?_⟩
  rw [hg, show (601 : Int32) * nI g = nI (601 * g) from pk_mul 601 g]
  exact hq
set_option maxHeartbeats 4000000 in
theorem c_isDead {mc ms : Nat} {M : zM} (hW : zFix M) {B : Nat → Nat} (hB : rBd M 0 B) {Q : zQt} (q1 : dead B → Q (some (.int 1)) M) (q0 : ¬ dead B → Q (some (.int 0)) M) : wX13_isDead mc ms [.ref 55] M Q := by
  refine ⟨⟨Nat.le_of_ble_eq_true rfl, rfl⟩, fun X l0 l15 l51 l52 l67 l72 l92 l114 l141 l163 l185 l189 l190 => ?_⟩
  have f185 : dead B → X 185 0 0 [] [] M := fun h => l185 _ _ _ _ _ ⟨rfl, vX13_isDead_185 hW (l190 _ _ _ _ _ ⟨rfl, vX13_isDead_190 hW ⟨rfl, q1 h⟩⟩)⟩
  have f189 : ¬ dead B → X 189 0 0 [] [] M := fun h => l189 _ _ _ _ _ ⟨rfl, vX13_isDead_189 hW (l190 _ _ _ _ _ ⟨rfl, vX13_isDead_190 hW ⟨rfl, q0 h⟩⟩)⟩
  have b1 := fun n => cn_le (fOth_le B) n
  have b2 := fun n => cn_le (fMin_le B) n
  have b3 := fun n => cn_le (fWh_le B) n
  have b4 := fun n => cn_le (fBl_le B) n
  have b5 := fun n => cn_le (fLt_le B) n
  have c1 := b1 64
  have c2 := b2 64
  have c3 := b3 64
  have c4 := b4 64
  have c5 := b5 64
  have loop : ∀ (n s : Nat), s + n = 64 → X 15 0 0 [.ref 55, .int (nI (cn (fMin B) s)), .int (nI (cn (fOth B) s)), .int (nI (cn (fLt B) s)), .int (nI (cn (fWh B) s)), .int (nI (cn (fBl B) s)), .int (nI s)] [] M := by
    intro n
    induction n with
    | zero =>
      intro s hs
      obtain rfl : s = 64 := by omega
      have f163 : ¬ cn (fOth B) 64 = 0 → ¬ (cn (fOth B) 64 = 1 ∧ cn (fMin B) 64 = 1) → X 163 0 0 [.int (nI (cn (fOth B) 64)), .int (nI (cn (fLt B) 64)), .int (nI (cn (fWh B) 64)), .int (nI (cn (fBl B) 64))] [] M := by
        intro h0 h1
        have e1 := nI_eq (a := cn (fOth B) 64) (b := 2) (by omega) (by decide)
        have e2 := nI_eq (a := cn (fWh B) 64) (b := 1) (by omega) (by decide)
        have e3 := nI_eq (a := cn (fBl B) 64) (b := 1) (by omega) (by decide)
        have e4 := nI_eq (a := cn (fLt B) 64) (b := 1) (by omega) (by decide)
        refine l163 _ _ _ _ _ ⟨rfl, vX13_isDead_163 hW ⟨fun a => ⟨fun b => ⟨fun c => ⟨fun d => f189 ?_, fun d => f185 ?_⟩, fun c => f189 ?_⟩, fun b => f189 ?_⟩, fun a => f189 ?_⟩⟩
        · have := e4.mp d
          unfold dead; omega
        · have := e1.mp a
          have := e2.mp b
          have := e3.mp c
          have : ¬ cn (fLt B) 64 = 1 := fun q => d (e4.mpr q)
          unfold dead; omega
        · have : ¬ cn (fBl B) 64 = 1 := fun q => c (e3.mpr q)
          unfold dead; omega
        · have : ¬ cn (fWh B) 64 = 1 := fun q => b (e2.mpr q)
          unfold dead; omega
        · have : ¬ cn (fOth B) 64 = 2 := fun q => a (e1.mpr q)
          unfold dead; omega
      have e0 := nI_eq (a := cn (fOth B) 64) (b := 0) (by omega) (by decide)
      have e1 := nI_eq (a := cn (fOth B) 64) (b := 1) (by omega) (by decide)
      have e2 := nI_eq (a := cn (fMin B) 64) (b := 1) (by omega) (by decide)
      refine l15 _ _ _ _ _ ⟨rfl, vX13_isDead_15 hW ⟨fun _ => ⟨fun a => f185 (Or.inl (e0.mp a)), fun a => ⟨fun b => ⟨fun c => f185 (Or.inr (Or.inl ⟨e1.mp b, e2.mp c⟩)), fun c => f163 (fun q => a (e0.mpr q)) (fun q => c (e2.mpr q.2))⟩, fun b => f163 (fun q => a (e0.mpr q)) (fun q => b (e1.mpr q.1))⟩⟩, fun d => absurd (by decide) d⟩⟩
    | succ n ih =>
      intro s hs
      have hs64 : s < 64 := by omega
      obtain ⟨hBs, hB12⟩ := hB s hs64
      rw [Nat.zero_add] at hBs
      have hk6 : kd (B s) ≤ 6 := by unfold kd; split <;> omega
      have f141 : ∀ e, e = fLt B s → X 141 0 0 [.ref 55, .int (nI (cn (fMin B) (s + 1))), .int (nI (cn (fOth B) (s + 1))), .int (nI (cn (fWh B) (s + 1))), .int (nI (cn (fBl B) (s + 1))), .int (nI s)] [.int (nI e), .int (nI (cn (fLt B) s))] M := by
        intro e he
        refine l141 _ _ _ _ _ ⟨rfl, vX13_isDead_141 hW ?_⟩
        rw [nI_1, nI_add, he]
        exact ih (s + 1) (by omega)
      have f114 : ∀ e, e = fBl B s → X 114 0 0 [.ref 55, .int (nI (cn (fMin B) (s + 1))), .int (nI (cn (fOth B) (s + 1))), .int (nI (cn (fLt B) s)), .int (nI (cn (fWh B) (s + 1))), .int (nI s), .int (nI (kd (B s)))] [.int (nI e), .int (nI (cn (fBl B) s))] M := by
        intro e he
        refine l114 _ _ _ _ _ ⟨rfl, vX13_isDead_114 hW ⟨fun a => ?_, fun a => ?_⟩⟩
        · rw [show nI s - nI s / (8 : Int32) * (8 : Int32) = nI (s % 8) from nI_mod (by omega) (by decide) (by decide), show nI s / (8 : Int32) = nI (s / 8) from pk_div (by omega) (by decide) (by decide), nI_add, nI_add, show nI (s % 8 + s / 8) - nI (s % 8 + s / 8) / (2 : Int32) * (2 : Int32) = nI ((s % 8 + s / 8) % 2) from nI_mod (by omega) (by decide) (by decide), he]
          exact f141 _ (by unfold fLt; rw [if_pos ((nI_eq (a := kd (B s)) (b := 3) (by omega) (by decide)).mp a)])
        · rw [nI_add, he]
          exact f141 0 (by unfold fLt; rw [if_neg (fun q => a ((nI_eq (a := kd (B s)) (b := 3) (by omega) (by decide)).mpr q))])
      have f92 : ∀ e, e = fWh B s → X 92 0 0 [.ref 55, .int (nI (cn (fMin B) (s + 1))), .int (nI (cn (fOth B) (s + 1))), .int (nI (cn (fLt B) s)), .int (nI (cn (fBl B) s)), .int (nI s), .int (nI (kd (B s)))] [.int (nI e), .int (nI (cn (fWh B) s))] M := by
        intro e he
        refine l92 _ _ _ _ _ ⟨rfl, vX13_isDead_92 hW ?_⟩
        rw [nI_clamp (by omega), hBs, nI_add, he]
        have e9 := nI_eq (a := B s) (b := 9) (by omega) (by decide)
        refine ⟨vp_in_nI (by omega) (by omega), fun a => f114 1 ?_, fun a => f114 0 ?_⟩
        · unfold fBl; rw [if_pos (e9.mp a)]
        · unfold fBl; rw [if_neg (fun q => a (e9.mpr q))]
      have f72 : ∀ e, e = fMin B s → X 72 0 0 [.ref 55, .int (nI (cn (fOth B) (s + 1))), .int (nI (cn (fLt B) s)), .int (nI (cn (fWh B) s)), .int (nI (cn (fBl B) s)), .int (nI s), .int (nI (kd (B s)))] [.int (nI e), .int (nI (cn (fMin B) s))] M := by
        intro e he
        refine l72 _ _ _ _ _ ⟨rfl, vX13_isDead_72 hW ?_⟩
        rw [nI_clamp (by omega), hBs, nI_add, he]
        have e3 := nI_eq (a := B s) (b := 3) (by omega) (by decide)
        refine ⟨vp_in_nI (by omega) (by omega), fun a => f92 1 ?_, fun a => f92 0 ?_⟩
        · unfold fWh; rw [if_pos (e3.mp a)]
        · unfold fWh; rw [if_neg (fun q => a (e3.mpr q))]
      have f67 : fMin B s = 1 → X 67 0 0 [.ref 55, .int (nI (cn (fOth B) (s + 1))), .int (nI (cn (fLt B) s)), .int (nI (cn (fWh B) s)), .int (nI (cn (fBl B) s)), .int (nI s), .int (nI (kd (B s)))] [.int (nI (cn (fMin B) s))] M := fun h => l67 _ _ _ _ _ ⟨rfl, vX13_isDead_67 hW (f72 1 h.symm)⟩
      have f52 : ∀ e, e = fOth B s → X 52 0 0 [.ref 55, .int (nI (cn (fMin B) s)), .int (nI (cn (fLt B) s)), .int (nI (cn (fWh B) s)), .int (nI (cn (fBl B) s)), .int (nI s), .int (nI (kd (B s)))] [.int (nI e), .int (nI (cn (fOth B) s))] M := by
        intro e he
        have e2 := nI_eq (a := kd (B s)) (b := 2) (by omega) (by decide)
        have e3 := nI_eq (a := kd (B s)) (b := 3) (by omega) (by decide)
        refine l52 _ _ _ _ _ ⟨rfl, vX13_isDead_52 hW ?_⟩
        rw [nI_add, he]
        refine ⟨fun a => f67 ?_, fun a => ⟨fun b => f67 ?_, fun b => f72 0 ?_⟩⟩
        · unfold fMin; rw [if_pos (Or.inl (e2.mp a))]
        · unfold fMin; rw [if_pos (Or.inr (e3.mp b))]
        · unfold fMin; rw [if_neg]
          rintro (q | q)
          · exact a (e2.mpr q)
          · exact b (e3.mpr q)
      have f51 : fOth B s = 0 → X 51 0 0 [.ref 55, .int (nI (cn (fMin B) s)), .int (nI (cn (fLt B) s)), .int (nI (cn (fWh B) s)), .int (nI (cn (fBl B) s)), .int (nI s), .int (nI (kd (B s)))] [.int (nI (cn (fOth B) s))] M := fun h => l51 _ _ _ _ _ ⟨rfl, vX13_isDead_51 hW (f52 0 h.symm)⟩
      refine l15 _ _ _ _ _ ⟨rfl, vX13_isDead_15 hW ⟨fun d => absurd d (nI_ge (a := s) (b := 64) hs64 (by decide)), fun _ => ?_⟩⟩
      rw [nI_clamp (by omega), hBs]
      refine ⟨vp_in_nI (by omega) (by omega), c_kindOf hW _ (by omega) ?_⟩
      have e0 := nI_leI (a := kd (B s)) (b := 0) (by omega) (by decide)
      have e6 := nI_leI (a := 6) (b := kd (B s)) (by decide) (by omega)
      refine vkX13_isDead_32 hW ⟨fun a => f51 ?_, fun a => ⟨fun b => f51 ?_, fun b => f52 1 ?_⟩⟩
      · have := e0.mp a
        unfold fOth; rw [if_neg (by omega)]
      · have := e6.mp b
        unfold fOth; rw [if_neg (by omega)]
      · have h1 : ¬ kd (B s) ≤ 0 := fun q => a (e0.mpr q)
        have h2 : ¬ 6 ≤ kd (B s) := fun q => b (e6.mpr q)
        unfold fOth; rw [if_pos (by omega)]
  exact l0 _ _ _ _ _ ⟨rfl, vX13_isDead_0 hW (loop 64 0 rfl)⟩
set_option maxHeartbeats 4000000 in
theorem c_verdictOf {mc ms : Nat} {M : zM} (hW : zFix M) {P : Ps} (hS : rSh M P) (hL : (mvs P).length ≤ 330) {c : Nat} (hc : c < 2 ^ 30) {Q : zQt} (hq : Q (some (.int (nI (vdt P c)))) M) : wX13_verdictOf mc ms [.ref 55, .int (nI c)] M Q := by
  refine ⟨⟨Nat.le_of_ble_eq_true rfl, rfl⟩, fun X l0 l29 l102 => ?_⟩
  have f29 : ∀ k, vdt P c = k → X 29 0 0 [] [.int (nI k)] M := fun k h => l29 _ _ _ _ _ ⟨rfl, vX13_verdictOf_29 hW (by rw [← h]; exact hq)⟩
  have f102 : ∀ k, vdt P c = k → X 102 0 0 [] [.int (nI k)] M := fun k h => l102 _ _ _ _ _ ⟨rfl, vX13_verdictOf_102 hW (by rw [← h]; exact hq)⟩
  obtain ⟨hP, hl, hz⟩ := hS
  have e64 : M.1 65 64 = nI P.2.1 := hP.2.1.1
  have e67 : M.1 65 67 = nI P.2.2.2.2.1 := hP.2.2.2.2.1.1
  have b67 := hP.2.2.2.2.1.2
  have z0 := nI_eq (a := (mvs P).length) (b := 0) (by omega) (by decide)
  refine l0 _ _ _ _ _ ⟨rfl, vX13_verdictOf_0 hW ?_⟩
  rw [show (0 : Int32).toNatClampNeg = 0 from rfl, show (64 : Int32).toNatClampNeg = 64 from rfl, show (67 : Int32).toNatClampNeg = 67 from rfl, hz, e64, e67]
  refine ⟨fun a => ?_, fun a y hy => ?_⟩
  · have a' := z0.mp a
    refine c_isChecked hW (p := 0) hP.1 (by omega) hP.2.1.2 (fun h => ?_) (fun h => ?_)
    · refine vkX13_verdictOf_21 hW ⟨fun d => absurd d (by decide), fun _ => f29 1 ?_⟩
      unfold vdt; rw [if_pos a', if_pos (chB_t.mpr h)]
    · refine vkX13_verdictOf_21 hW ⟨fun _ => f29 2 ?_, fun d => absurd rfl d⟩
      unfold vdt; rw [if_pos a', if_neg (fun q => h (chB_t.mp q))]
  · have a' : ¬ (mvs P).length = 0 := fun q => a (z0.mpr q)
    rw [hy]
    have k5 := nI_ltI (a := c) (b := 5) (by omega) (by decide)
    have k3 := nI_ltI (a := c) (b := 3) (by omega) (by decide)
    have t1 := nI_ltI (a := P.2.2.2.2.1) (b := 150) (by omega) (by decide)
    have t0 := nI_ltI (a := P.2.2.2.2.1) (b := 100) (by omega) (by decide)
    refine c_isDead hW hP.1 (fun h => ?_) (fun h => ?_)
    · refine vkX13_verdictOf_42 hW ⟨fun d => absurd d (by decide), fun _ => f102 3 ?_⟩
      unfold vdt; rw [if_neg a', if_pos h]
    · have u : vdt P c = if 5 ≤ c then 4 else if 150 ≤ P.2.2.2.2.1 then 5 else if 3 ≤ c then (if 100 ≤ P.2.2.2.2.1 then 8 else 6) else if 100 ≤ P.2.2.2.2.1 then 7 else 0 := by
        unfold vdt; rw [if_neg a', if_neg h]
      refine vkX13_verdictOf_42 hW ⟨fun _ => ⟨fun d5 => ⟨fun d1 => ⟨fun d3 => ⟨fun d0 => f102 0 ?_, fun d0 => f102 7 ?_⟩, fun d3 => ⟨fun d0 => f102 6 ?_, fun d0 => f102 8 ?_⟩⟩, fun d1 => f102 5 ?_⟩, fun d5 => f102 4 ?_⟩, fun d => absurd rfl d⟩
      · rw [u, if_neg (by have := k5.mp d5; omega), if_neg (by have := t1.mp d1; omega), if_neg (by have := k3.mp d3; omega), if_neg (by have := t0.mp d0; omega)]
      · rw [u, if_neg (by have := k5.mp d5; omega), if_neg (by have := t1.mp d1; omega), if_neg (by have := k3.mp d3; omega), if_pos (by have : ¬ P.2.2.2.2.1 < 100 := fun q => d0 (t0.mpr q); omega)]
      · rw [u, if_neg (by have := k5.mp d5; omega), if_neg (by have := t1.mp d1; omega), if_pos (by have : ¬ c < 3 := fun q => d3 (k3.mpr q); omega), if_neg (by have := t0.mp d0; omega)]
      · rw [u, if_neg (by have := k5.mp d5; omega), if_neg (by have := t1.mp d1; omega), if_pos (by have : ¬ c < 3 := fun q => d3 (k3.mpr q); omega), if_pos (by have : ¬ P.2.2.2.2.1 < 100 := fun q => d0 (t0.mpr q); omega)]
      · rw [u, if_neg (by have := k5.mp d5; omega), if_pos (by have : ¬ P.2.2.2.2.1 < 150 := fun q => d1 (t1.mpr q); omega)]
      · rw [u, if_pos (by have : ¬ c < 5 := fun q => d5 (k5.mpr q); omega)]
set_option maxHeartbeats 4000000 in
theorem c_passingFile {mc ms : Nat} {M : zM} (hW : zFix M) {P : Ps} (hS : rSh M P) (hL : (mvs P).length ≤ 330) {Q : zQt} (hq : Q (some (.int (pI (pfl P)))) M) : wX13_passingFile mc ms [.ref 55] M Q := by
  refine ⟨⟨Nat.le_of_ble_eq_true rfl, rfl⟩, fun X l0 l2 => ?_⟩
  obtain ⟨hP, hl, hz⟩ := hS
  have loop : ∀ (n k : Nat), k + n = (mvs P).length → pfL P ((mvs P).drop k) = pfl P → X 2 0 0 [.ref 55, .int (nI k)] [] M := by
    intro n
    induction n with
    | zero =>
      intro k hk h
      refine l2 _ _ _ _ _ ⟨rfl, vX13_passingFile_2 hW ?_⟩
      rw [show (0 : Int32).toNatClampNeg = 0 from rfl, hz]
      have e := nI_leI (a := (mvs P).length) (b := k) (by omega) (by omega)
      refine ⟨fun _ => ?_, fun d => absurd (e.mpr (by omega)) d⟩
      rw [List.drop_eq_nil_of_le (by omega)] at h
      rw [← h] at hq
      exact hq
    | succ n ih =>
      intro k hk h
      have hkl : k < (mvs P).length := by omega
      have e := nI_leI (a := (mvs P).length) (b := k) (by omega) (by omega)
      have hm : (mvs P)[k]? = some (mvs P)[k] := List.getElem?_eq_getElem hkl
      have hv := hl k _ hm
      have hlt := mvs_lt (List.getElem_mem hkl)
      rw [List.drop_eq_getElem_cons hkl] at h
      generalize hgm : (mvs P)[k] = m at hm hv hlt h
      refine l2 _ _ _ _ _ ⟨rfl, vX13_passingFile_2 hW ?_⟩
      rw [show (0 : Int32).toNatClampNeg = 0 from rfl, hz, nI_clamp (by omega), hv]
      refine ⟨fun d => absurd (e.mp d) (by omega), fun _ => ⟨vp_in_nI (by omega) (by omega), c_fromOf hW (by omega) ?_⟩⟩
      refine vkX13_passingFile_23 hW ?_
      rw [nI_clamp (by omega), hv]
      refine ⟨vp_in_nI (by omega) (by omega), c_toOf hW (by omega) ?_⟩
      refine vkX13_passingFile_32 hW ?_
      unfold pfL at h
      refine c_takesInPassing hW (p := 0) hP (by omega) (Nat.mod_lt _ (by decide)) (Nat.mod_lt _ (by decide)) (fun ht => ?_) (fun ht => ?_)
      · refine vkX13_passingFile_35 hW ⟨fun d => absurd d (by decide), fun _ => ?_⟩
        rw [nI_clamp (by omega), hv]
        refine ⟨vp_in_nI (by omega) (by omega), c_toOf hW (by omega) ?_⟩
        refine vkX13_passingFile_47 hW ?_
        rw [show nI (m / 64 % 64) - nI (m / 64 % 64) / (8 : Int32) * (8 : Int32) = nI (m / 64 % 64 % 8) from nI_mod (by omega) (by decide) (by decide)]
        rw [if_pos (tipB_t.mpr ht)] at h
        rw [← h] at hq
        unfold pI at hq
        rw [if_pos (by omega)] at hq
        exact hq
      · refine vkX13_passingFile_35 hW ⟨fun _ => ?_, fun d => absurd rfl d⟩
        rw [nI_1]
        rw [if_neg (fun q => ht (tipB_t.mp q))] at h
        exact ih (k + 1) (by omega) h
  exact l0 _ _ _ _ _ ⟨rfl, vX13_passingFile_0 hW (loop (mvs P).length 0 (by omega) rfl)⟩
set_option maxHeartbeats 4000000 in
theorem c_isSame {mc ms : Nat} {M : zM} (hW : zFix M) {g i j : Nat} (hg : M.1 55 6 = nI g) (hg1 : g ≤ 1) (hi : i < 601) (hj : j < 601) {P R : Ps} (hP : ∀ k, k < 69 → M.1 57 (69 * (601 * g + i) + k) = psI P k) (hR : ∀ k, k < 69 → M.1 57 (69 * (601 * g + j) + k) = psI R k) (fP : M.1 62 (601 * g + i) = pI (pfl P)) (fR : M.1 62 (601 * g + j) = pI (pfl R)) {Q : zQt} (q1 : same P R → Q (some (.int 1)) M) (q0 : ¬ same P R → Q (some (.int 0)) M) : wX13_isSame mc ms [.ref 55, .int (nI i), .int (nI j)] M Q := by
  refine ⟨⟨Nat.le_of_ble_eq_true rfl, rfl⟩, fun X l0 l51 l56 l94 l95 => ?_⟩
  have loop : ∀ (n k : Nat) (b : Bool), k + n = 66 → (b = true ↔ pfl P = pfl R ∧ ∀ t, t < k → psI P t = psI R t) → X 56 0 0 [.ref 55, .int (nI (69 * (601 * g + i))), .int (nI (69 * (601 * g + j))), .int (bI b), .int (nI k)] [] M := by
    intro n
    induction n with
    | zero =>
      intro k b hk h
      obtain rfl : k = 66 := by omega
      refine l56 _ _ _ _ _ ⟨rfl, vX13_isSame_56 hW ⟨fun _ => ?_, fun d => absurd (by decide) d⟩⟩
      cases b with
      | true => exact ⟨rfl, q1 (h.mp rfl)⟩
      | false => exact ⟨rfl, q0 (fun q => absurd (h.mpr q) (by decide))⟩
    | succ n ih =>
      intro k b hk h
      have hk66 : k < 66 := by omega
      have f95 : ∀ b' : Bool, (b' = true ↔ pfl P = pfl R ∧ ∀ t, t < k + 1 → psI P t = psI R t) → X 95 0 0 [.ref 55, .int (nI (69 * (601 * g + i))), .int (nI (69 * (601 * g + j))), .int (nI k)] [.int (bI b')] M := by
        intro b' h'
        refine l95 _ _ _ _ _ ⟨rfl, vX13_isSame_95 hW ?_⟩
        rw [nI_1]
        exact ih (k + 1) b' (by omega) h'
      have f94 : ¬ (pfl P = pfl R ∧ ∀ t, t < k + 1 → psI P t = psI R t) → X 94 0 0 [.ref 55, .int (nI (69 * (601 * g + i))), .int (nI (69 * (601 * g + j))), .int (nI k)] [] M := by
        intro h'
        exact l94 _ _ _ _ _ ⟨rfl, vX13_isSame_94 hW (f95 false ⟨fun q => absurd q (by decide), fun q => absurd q h'⟩)⟩
      refine l56 _ _ _ _ _ ⟨rfl, vX13_isSame_56 hW ⟨fun d => absurd d (nI_ge (a := k) (b := 66) hk66 (by decide)), fun _ => ⟨fun a => f94 ?_, fun a => ?_⟩⟩⟩
      · intro q
        have := h.mpr ⟨q.1, fun t ht => q.2 t (by omega)⟩
        rw [bI_0] at a
        rw [this] at a
        exact absurd a (by decide)
      · have hb := h.mp (bI_n.mp a)
        rw [nI_add, nI_add, nI_clamp (by omega), nI_clamp (by omega), hP k (by omega), hR k (by omega)]
        refine ⟨vp_in_nI (by omega) (by omega), vp_in_nI (by omega) (by omega), fun e => f95 true ⟨fun _ => ⟨hb.1, fun t ht => ?_⟩, fun _ => rfl⟩, fun e => f94 (fun q => e (q.2 k (by omega)))⟩
        rcases (show t < k ∨ t = k by omega) with q | q
        · exact hb.2 t q
        · rw [q]; exact e
  have f51 : ∀ b : Bool, (b = true ↔ pfl P = pfl R) → X 51 0 0 [.ref 55, .int (nI (69 * (601 * g + i))), .int (nI (69 * (601 * g + j)))] [.int (bI b)] M := by
    intro b h
    refine l51 _ _ _ _ _ ⟨rfl, vX13_isSame_51 hW (loop 66 0 b rfl ?_)⟩
    rw [h]
    exact ⟨fun q => ⟨q, fun t ht => absurd ht (by omega)⟩, fun q => q.1⟩
  refine l0 _ _ _ _ _ ⟨rfl, vX13_isSame_0 hW (c_base hW hg ?_)⟩
  refine vkX13_isSame_6 hW (c_base hW hg ?_)
  rw [nI_add, show (69 : Int32) * nI (601 * g + i) = nI (69 * (601 * g + i)) from pk_mul 69 _]
  refine vkX13_isSame_16 hW (c_base hW hg ?_)
  rw [nI_add, show (69 : Int32) * nI (601 * g + j) = nI (69 * (601 * g + j)) from pk_mul 69 _]
  refine vkX13_isSame_29 hW ?_
  rw [nI_add, nI_clamp (by omega), fP]
  refine ⟨vp_in_nI (by omega) (by omega), c_base hW hg ?_⟩
  refine vkX13_isSame_40 hW ?_
  rw [nI_add, nI_clamp (by omega), fR]
  have e := pI_eq (pfl_le P) (pfl_le R)
  exact ⟨vp_in_nI (by omega) (by omega), fun a => f51 true ⟨fun _ => e.mp a, fun _ => rfl⟩, fun a => f51 false ⟨fun q => absurd q (by decide), fun q => absurd (e.mpr q) a⟩⟩
