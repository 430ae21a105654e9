/-! THE REFERENCE'S POSITIONS: board, side, rights, passant file (8: none), clock, number -/
abbrev Ps : Type := (Nat → Nat) × Nat × Nat × Nat × Nat × Nat
def pI (f : Nat) : Int32 := if f < 8 then nI f else -1
def rPs (M : zM) (p : Nat) (P : Ps) : Prop := rBd M p P.1 ∧ (M.1 65 (p + 64) = nI P.2.1 ∧ P.2.1 ≤ 1) ∧ (M.1 65 (p + 65) = nI P.2.2.1 ∧ P.2.2.1 < 16) ∧ (M.1 65 (p + 66) = pI P.2.2.2.1 ∧ P.2.2.2.1 ≤ 8) ∧ (M.1 65 (p + 67) = nI P.2.2.2.2.1 ∧ P.2.2.2.2.1 < 2 ^ 30) ∧ M.1 65 (p + 68) = nI P.2.2.2.2.2 ∧ P.2.2.2.2.2 < 2 ^ 30
/-- some man of the side attacks the square -/
def atk (B : Nat → Nat) (s : Nat) (c : Nat) : Prop := ∃ a, a < 64 ∧ sdI (B a) = c ∧ att B a s
/-- the last square among the first n on which the king stands; 0 if none -/
def kq (B : Nat → Nat) (c : Nat) : Nat → Nat
  | 0 => 0
  | n + 1 => if B n = 6 + 6 * c then n else kq B c n
theorem kq_lt (B : Nat → Nat) (c : Nat) : ∀ n, n ≤ 64 → kq B c n < 64
  | 0, _ => by unfold kq; omega
  | n + 1, h => by
    unfold kq
    split
    · omega
    · exact kq_lt B c n (by omega)
def chk (B : Nat → Nat) (c : Nat) : Prop := atk B (kq B c 64) (1 - c)
theorem sdI_bd (n : Nat) : -1 ≤ sdI n ∧ sdI n ≤ 1 := by
  unfold sdI
  split
  · omega
  · split <;> omega
set_option maxHeartbeats 4000000 in
theorem c_isAttacked {mc ms : Nat} {M : zM} (hW : zFix M) {p : Nat} {B : Nat → Nat} (hB : rBd M p B) (hp : p + 64 ≤ 414) {s c : Nat} (hs : s < 64) (hc : c ≤ 1) {Q : zQt} (q1 : atk B s c → Q (some (.int 1)) M) (q0 : ¬ atk B s c → Q (some (.int 0)) M) : wX13_isAttacked mc ms [.ref 55, .int (nI p), .int (nI s), .int (nI c)] M Q := by
  refine ⟨⟨Nat.le_of_ble_eq_true rfl, rfl⟩, fun X l0 l3 l39 => ?_⟩
  have loop : ∀ (n i : Nat), i + n = 64 → (∀ a, a < i → ¬ (sdI (B a) = c ∧ att B a s)) → X 3 0 0 [.ref 55, .int (nI p), .int (nI s), .int (nI c), .int (nI i)] [] M := by
    intro n
    induction n with
    | zero =>
      intro i hi hno
      obtain rfl : i = 64 := by omega
      refine l3 _ _ _ _ _ ⟨rfl, vX13_isAttacked_3 hW ⟨fun _ => q0 ?_, fun d => absurd (by decide) d⟩⟩
      rintro ⟨a, h1, h2, h3⟩
      exact hno a h1 ⟨h2, h3⟩
    | succ n ih =>
      intro i hi hno
      have hi64 : i < 64 := by omega
      obtain ⟨hBi, hBm⟩ := hB i hi64
      have nx : ¬ (sdI (B i) = c ∧ att B i s) → X 39 0 0 [.ref 55, .int (nI p), .int (nI s), .int (nI c), .int (nI i)] [] M := by
        intro h
        refine l39 _ _ _ _ _ ⟨rfl, vX13_isAttacked_39 hW ?_⟩
        rw [nI_1]
        refine ih (i + 1) (by omega) (fun a ha => ?_)
        rcases (show a < i ∨ a = i by omega) with q | q
        · exact hno a q
        · rw [q]; exact h
      refine l3 _ _ _ _ _ ⟨rfl, vX13_isAttacked_3 hW ⟨fun d => absurd d (nI_ge (a := i) (b := 64) hi64 (by decide)), fun _ => ?_⟩⟩
      rw [nI_add, nI_clamp (by omega), hBi]
      refine ⟨vp_in_nI (by omega) (by omega), c_sideOf hW (B i) (by omega) ?_⟩
      have sb := sdI_bd (B i)
      have e : iI (sdI (B i)) = nI c ↔ sdI (B i) = c := by
        rw [iI_nat]
        exact iI_eq (by omega) (by omega) (by omega) (by omega)
      refine vkX13_isAttacked_22 hW ⟨fun d => ?_, fun d => nx (fun h => d (e.mpr h.1))⟩
      refine c_attacks hW hB hp hi64 hs (fun h => ?_) (fun h => ?_)
      · exact vkX13_isAttacked_34 hW ⟨fun z => absurd z (by decide), fun _ => q1 ⟨i, hi64, e.mp d, h⟩⟩
      · exact vkX13_isAttacked_34 hW ⟨fun _ => nx (fun q => h q.2), fun z => absurd rfl z⟩
  refine l0 _ _ _ _ _ ⟨rfl, vX13_isAttacked_0 hW ?_⟩
  exact loop 64 0 rfl (fun a ha => absurd ha (by omega))
set_option maxHeartbeats 4000000 in
theorem c_isChecked {mc ms : Nat} {M : zM} (hW : zFix M) {p : Nat} {B : Nat → Nat} (hB : rBd M p B) (hp : p + 64 ≤ 414) {c : Nat} (hc : c ≤ 1) {Q : zQt} (q1 : chk B c → Q (some (.int 1)) M) (q0 : ¬ chk B c → Q (some (.int 0)) M) : wX13_isChecked mc ms [.ref 55, .int (nI p), .int (nI c)] M Q := by
  refine ⟨⟨Nat.le_of_ble_eq_true rfl, rfl⟩, fun X l0 l5 l37 => ?_⟩
  have loop : ∀ (n i : Nat), i + n = 64 → X 5 0 0 [.ref 55, .int (nI p), .int (nI c), .int (nI (kq B c i)), .int (nI i)] [] M := by
    intro n
    induction n with
    | zero =>
      intro i hi
      obtain rfl : i = 64 := by omega
      refine l5 _ _ _ _ _ ⟨rfl, vX13_isChecked_5 hW ⟨fun _ => ?_, fun d => absurd (by decide) d⟩⟩
      rw [show (1 : Int32) - nI c = nI (1 - c) from pk_sub (a := 1) (b := c) hc]
      refine c_isAttacked hW hB hp (kq_lt B c 64 (by omega)) (by omega) (fun h => ?_) (fun h => ?_)
      · exact vkX13_isChecked_53 hW ⟨rfl, q1 h⟩
      · exact vkX13_isChecked_53 hW ⟨rfl, q0 h⟩
    | succ n ih =>
      intro i hi
      have hi64 : i < 64 := by omega
      obtain ⟨hBi, hBm⟩ := hB i hi64
      have nx : ∀ z, z = nI (kq B c (i + 1)) → X 37 0 0 [.ref 55, .int (nI p), .int (nI c), .int (nI i)] [.int z] M := by
        intro z hz
        refine l37 _ _ _ _ _ ⟨rfl, vX13_isChecked_37 hW ?_⟩
        rw [nI_1, hz]
        exact ih (i + 1) (by omega)
      refine l5 _ _ _ _ _ ⟨rfl, vX13_isChecked_5 hW ⟨fun d => absurd d (nI_ge (a := i) (b := 64) hi64 (by decide)), fun _ => ?_⟩⟩
      rw [nI_add, nI_clamp (by omega), hBi]
      have e6 : (6 : Int32) + ((6 : Int32) * nI c) = nI (6 + 6 * c) := by
        rw [show (6 : Int32) * nI c = nI (6 * c) from pk_mul 6 c]
        exact nI_add 6 (6 * c)
      rw [e6]
      refine ⟨vp_in_nI (by omega) (by omega), fun d => nx _ ?_, fun d => nx _ ?_⟩
      · have : B i = 6 + 6 * c := (nI_eq (by omega) (by omega)).mp d
        rw [kq, if_pos this]
      · have : ¬ B i = 6 + 6 * c := fun q => d (by rw [q])
        rw [kq, if_neg this]
  refine l0 _ _ _ _ _ ⟨rfl, vX13_isChecked_0 hW ?_⟩
  exact loop 64 0 rfl
theorem c_fromOf {mc ms : Nat} {M : zM} (hW : zFix M) {n : Nat} (hn : n < 2 ^ 31) {Q : zQt} (hq : Q (some (.int (nI (n % 64)))) M) : wX13_fromOf mc ms [.int (nI n)] M Q := by
  refine ⟨⟨Nat.le_of_ble_eq_true rfl, rfl⟩, fun X l0 => l0 _ _ _ _ _ ⟨rfl, vX13_fromOf_0 hW ?_⟩⟩
  rw [show nI n - nI n / (64 : Int32) * (64 : Int32) = nI (n % 64) from pk_rem (d := 64) hn (by decide) (by decide)]
  exact hq
theorem c_toOf {mc ms : Nat} {M : zM} (hW : zFix M) {n : Nat} (hn : n < 2 ^ 31) {Q : zQt} (hq : Q (some (.int (nI (n / 64 % 64)))) M) : wX13_toOf mc ms [.int (nI n)] M Q := by
  refine ⟨⟨Nat.le_of_ble_eq_true rfl, rfl⟩, fun X l0 => l0 _ _ _ _ _ ⟨rfl, vX13_toOf_0 hW ?_⟩⟩
  rw [show nI n / (64 : Int32) = nI (n / 64) from pk_div (d := 64) hn (by decide) (by decide), show nI (n / 64) - nI (n / 64) / (64 : Int32) * (64 : Int32) = nI (n / 64 % 64) from pk_rem (d := 64) (by omega) (by decide) (by decide)]
  exact hq
/-- the square on which a pawn can be taken in passing, as an Int (-1: none) -/
def psq (P : Ps) : Int := if P.2.2.2.1 < 8 then ((if P.2.1 = 0 then 40 else 16) + P.2.2.2.1 : Nat) else -1
theorem c_passed {mc ms : Nat} {M : zM} (hW : zFix M) {p : Nat} {P : Ps} (hP : rPs M p P) (hp : p + 69 ≤ 414) {Q : zQt} (hq : Q (some (.int (iI (psq P)))) M) : wX13_passed mc ms [.ref 55, .int (nI p)] M Q := by
  obtain ⟨hB, ⟨hS, hS1⟩, -, ⟨hE, hE8⟩, -, -, -⟩ := hP
  refine ⟨⟨Nat.le_of_ble_eq_true rfl, rfl⟩, fun X l0 l37 l39 => ?_⟩
  have f39 : ∀ z, z = iI (psq P) → X 39 0 0 [] [.int z] M := fun z hz => l39 _ _ _ _ _ ⟨rfl, vX13_passed_39 hW (by rw [hz]; exact hq)⟩
  refine l0 _ _ _ _ _ ⟨rfl, vX13_passed_0 hW ?_⟩
  rw [show nI p + (66 : Int32) = nI (p + 66) from nI_add p 66, show nI p + (64 : Int32) = nI (p + 64) from nI_add p 64, nI_clamp (by omega), nI_clamp (by omega), hS, hE]
  refine ⟨vp_in_nI (by omega) (by omega), fun y ey => ?_⟩
  subst ey
  by_cases h8 : P.2.2.2.1 < 8
  · have e : pI P.2.2.2.1 = nI P.2.2.2.1 := by unfold pI; rw [if_pos h8]
    rw [e]
    refine ⟨fun _ => ⟨vp_in_nI (by omega) (by omega), fun d => ?_, fun d => ?_⟩, fun d => absurd (nI_pos' (by omega)) d⟩
    · have hs : P.2.1 = 0 := (nI_eq (b := 0) (by omega) (by decide)).mp d
      refine l37 _ _ _ _ _ ⟨rfl, vX13_passed_37 hW (f39 _ ?_)⟩
      unfold psq
      rw [if_pos h8, if_pos hs, ← iI_nat]
      exact nI_add 40 _
    · have hs : ¬ P.2.1 = 0 := fun q => d (by rw [q]; rfl)
      refine l37 _ _ _ _ _ ⟨rfl, vX13_passed_37 hW (f39 _ ?_)⟩
      unfold psq
      rw [if_pos h8, if_neg hs, ← iI_nat]
      exact nI_add 16 _
  · have e : pI P.2.2.2.1 = -1 := by unfold pI; rw [if_neg h8]
    rw [e]
    refine ⟨fun d => absurd d (by decide), fun _ => f39 _ ?_⟩
    unfold psq
    rw [if_neg h8]
    decide
/-- a taking in passing -/
def tip (P : Ps) (a b : Nat) : Prop := P.1 a = 1 + 6 * P.2.1 ∧ att P.1 a b ∧ (b : Int) = psq P ∧ P.1 b = 0 ∧ P.1 (if P.2.1 = 0 then b - 8 else b + 8) = 7 - 6 * P.2.1
set_option maxHeartbeats 4000000 in
theorem c_takesInPassing {mc ms : Nat} {M : zM} (hW : zFix M) {p : Nat} {P : Ps} (hP : rPs M p P) (hp : p + 69 ≤ 414) {a b : Nat} (ha : a < 64) (hb : b < 64) {Q : zQt} (q1 : tip P a b → Q (some (.int 1)) M) (q0 : ¬ tip P a b → Q (some (.int 0)) M) : wX13_takesInPassing mc ms [.ref 55, .int (nI p), .int (nI a), .int (nI b)] M Q := by
  have hP0 := hP
  obtain ⟨hB, ⟨hS, hS1⟩, -, ⟨hE, hE8⟩, -, -, -⟩ := hP
  obtain ⟨hBa, hBam⟩ := hB a ha
  obtain ⟨hBb, hBbm⟩ := hB b hb
  refine ⟨⟨Nat.le_of_ble_eq_true rfl, rfl⟩, fun X l0 l43 l44 l92 l109 l110 => ?_⟩
  have f110 : ∀ z : Int32, (z = 1 ∧ tip P a b) ∨ (z = 0 ∧ ¬ tip P a b) → X 110 0 0 [] [.int z] M := by
    intro z h
    rcases h with ⟨e, h⟩ | ⟨e, h⟩ <;> subst e
    · exact l110 _ _ _ _ _ ⟨rfl, vX13_takesInPassing_110 hW ⟨rfl, q1 h⟩⟩
    · exact l110 _ _ _ _ _ ⟨rfl, vX13_takesInPassing_110 hW ⟨rfl, q0 h⟩⟩
  have f109 : ¬ tip P a b → X 109 0 0 [] [] M := fun h => l109 _ _ _ _ _ ⟨rfl, vX13_takesInPassing_109 hW (f110 0 (Or.inr ⟨rfl, h⟩))⟩
  have f92 : P.1 a = 1 + 6 * P.2.1 → att P.1 a b → (b : Int) = psq P → P.1 b = 0 → ∀ (n : Nat), n = (if P.2.1 = 0 then b - 8 else b + 8) → n < 64 → X 92 0 0 [.int (nI P.2.1)] [.int (nI n), .int (nI p), .ref 65] M := by
    intro h1 h2 h3 h4 n hn hn64
    obtain ⟨hBn, hBnm⟩ := hB n hn64
    refine l92 _ _ _ _ _ ⟨rfl, vX13_takesInPassing_92 hW ?_⟩
    rw [nI_add, nI_clamp (by omega), hBn, show (6 : Int32) * nI P.2.1 = nI (6 * P.2.1) from pk_mul 6 _, show (7 : Int32) - nI (6 * P.2.1) = nI (7 - 6 * P.2.1) from pk_sub (a := 7) (by omega)]
    have e : nI (P.1 n) = nI (7 - 6 * P.2.1) ↔ P.1 n = 7 - 6 * P.2.1 := nI_eq (by omega) (by omega)
    refine ⟨vp_in_nI (by omega) (by omega), fun d => f110 1 (Or.inl ⟨rfl, h1, h2, h3, h4, ?_⟩), fun d => f109 (fun h => d (e.mpr ?_))⟩
    · rw [← hn]; exact e.mp d
    · rw [hn]; exact h.2.2.2.2
  have f44 : ∀ z : Int32, (z = 1 ∧ P.1 a = 1 + 6 * P.2.1 ∧ att P.1 a b) ∨ (z = 0 ∧ ¬ tip P a b) → X 44 0 0 [.ref 55, .int (nI p), .int (nI b), .int (nI P.2.1)] [.int z] M := by
    intro z hz
    refine l44 _ _ _ _ _ ⟨rfl, vX13_takesInPassing_44 hW ⟨fun d => ?_, fun d => ?_⟩⟩
    · rcases hz with ⟨e, -⟩ | ⟨-, h⟩
      · rw [e] at d; exact absurd d (by decide)
      · exact f109 h
    · rcases hz with ⟨e, h1, h2⟩ | ⟨e, -⟩
      · refine c_passed hW hP0 hp ?_
        have pb : -1 ≤ psq P ∧ psq P < 64 := by
          unfold psq
          split
          · split <;> omega
          · omega
        have ep : nI b = iI (psq P) ↔ (b : Int) = psq P := by
          rw [iI_nat]
          exact iI_eq (by omega) (by omega) (by omega) (by omega)
        refine vkX13_takesInPassing_57 hW ⟨fun d2 => ?_, fun d2 => f109 (fun h => d2 (ep.mpr h.2.2.1))⟩
        have h3 := ep.mp d2
        rw [nI_add, nI_clamp (by omega), hBb]
        have ez : nI (P.1 b) = 0 ↔ P.1 b = 0 := nI_eq (b := 0) (by omega) (by decide)
        have es : nI P.2.1 = 0 ↔ P.2.1 = 0 := nI_eq (b := 0) (by omega) (by decide)
        refine ⟨vp_in_nI (by omega) (by omega), fun d3 => ?_, fun d3 => f109 (fun h => d3 (ez.mpr h.2.2.2.1))⟩
        have hbr : (P.2.1 = 0 → 40 ≤ b ∧ b < 48) ∧ (¬ P.2.1 = 0 → 16 ≤ b ∧ b < 24) := by
          unfold psq at h3
          constructor
          · intro hs
            rw [if_pos hs] at h3
            split at h3 <;> omega
          · intro hs
            rw [if_neg hs] at h3
            split at h3 <;> omega
        refine ⟨fun d4 => ?_, fun d4 => ?_⟩
        · have hs := es.mp d4
          have := hbr.1 hs
          rw [show nI b - (8 : Int32) = nI (b - 8) from pk_sub (b := 8) (by omega)]
          exact f92 h1 h2 h3 (ez.mp d3) (b - 8) (by rw [if_pos hs]) (by omega)
        · have hs : ¬ P.2.1 = 0 := fun q => d4 (es.mpr q)
          have := hbr.2 hs
          rw [show nI b + (8 : Int32) = nI (b + 8) from nI_add b 8]
          exact f92 h1 h2 h3 (ez.mp d3) (b + 8) (by rw [if_neg hs]) (by omega)
      · exact absurd e d
  have f43 : ¬ tip P a b → X 43 0 0 [.ref 55, .int (nI p), .int (nI b), .int (nI P.2.1)] [] M := fun h => l43 _ _ _ _ _ ⟨rfl, vX13_takesInPassing_43 hW (f44 0 (Or.inr ⟨rfl, h⟩))⟩
  refine l0 _ _ _ _ _ ⟨rfl, vX13_takesInPassing_0 hW ?_⟩
  rw [show nI p + (64 : Int32) = nI (p + 64) from nI_add p 64, nI_clamp (by omega), hS, nI_add, nI_clamp (by omega), hBa]
  refine ⟨vp_in_nI (by omega) (by omega), fun y ey => ?_⟩
  subst ey
  rw [show (6 : Int32) * nI P.2.1 = nI (6 * P.2.1) from pk_mul 6 _, show (1 : Int32) + nI (6 * P.2.1) = nI (1 + 6 * P.2.1) from nI_add 1 _]
  have em : nI (P.1 a) = nI (1 + 6 * P.2.1) ↔ P.1 a = 1 + 6 * P.2.1 := nI_eq (by omega) (by omega)
  refine ⟨vp_in_nI (by omega) (by omega), fun d => ?_, fun d => f43 (fun h => d (em.mpr h.1))⟩
  refine c_attacks hW hB (by omega) ha hb (fun h => ?_) (fun h => ?_)
  · exact vkX13_takesInPassing_36 hW ⟨fun z => absurd z (by decide), fun _ => f44 1 (Or.inl ⟨rfl, em.mp d, h⟩)⟩
  · exact vkX13_takesInPassing_36 hW ⟨fun _ => f43 (fun q => h q.2.1), fun z => absurd rfl z⟩
