/-! pawns, castling, a man's goings -/
def upI (c : Nat) : Int := if c = 0 then 8 else -8
def pgo (P : Ps) (a b : Nat) : Prop :=
  if (b : Int) = a + upI P.2.1 then P.1 b = 0
  else if (b : Int) = a + 2 * upI P.2.1 then a / 8 = (if P.2.1 = 0 then 1 else 6) ∧ P.1 ((a : Int) + upI P.2.1).toNat = 0 ∧ P.1 b = 0
  else (att P.1 a b ∧ 0 < P.1 b) ∨ tip P a b
set_option maxHeartbeats 4000000 in
theorem c_pawnGoes {mc ms : Nat} {M : zM} (hW : zFix M) {p : Nat} {P : Ps} (hP : rPs M p P) (hp : p + 69 ≤ 414) {a b : Nat} (ha : a < 64) (hb : b < 64) {Q : zQt} (q1 : pgo P a b → Q (some (.int 1)) M) (q0 : ¬ pgo P a b → Q (some (.int 0)) M) : wX13_pawnGoes mc ms [.ref 55, .int (nI p), .int (nI a), .int (nI b)] M Q := by
  have hP0 := hP
  obtain ⟨hB, ⟨hS, hS1⟩, -, -, -, -, -⟩ := hP
  obtain ⟨hBb, hBbm⟩ := hB b hb
  have ez : nI (P.1 b) = 0 ↔ P.1 b = 0 := nI_eq (b := 0) (by omega) (by decide)
  have es : nI P.2.1 = 0 ↔ P.2.1 = 0 := nI_eq (b := 0) (by omega) (by decide)
  refine ⟨⟨Nat.le_of_ble_eq_true rfl, rfl⟩, fun X l0 l23 l49 l75 l107 l108 l130 l140 l145 => ?_⟩
  have fin : ∀ z : Int32, (z = 1 ∧ pgo P a b) ∨ (z = 0 ∧ ¬ pgo P a b) → narrow .boolean (.int z) = .int z ∧ Q (some (.int z)) M := by
    intro z h
    rcases h with ⟨e, h⟩ | ⟨e, h⟩ <;> subst e
    · exact ⟨rfl, q1 h⟩
    · exact ⟨rfl, q0 h⟩
  have f49 : ∀ z : Int32, (z = 1 ∧ pgo P a b) ∨ (z = 0 ∧ ¬ pgo P a b) → X 49 0 0 [] [.int z] M := fun z h => l49 _ _ _ _ _ ⟨rfl, vX13_pawnGoes_49 hW (fin z h)⟩
  have f108 : ∀ z : Int32, (z = 1 ∧ pgo P a b) ∨ (z = 0 ∧ ¬ pgo P a b) → X 108 0 0 [] [.int z] M := fun z h => l108 _ _ _ _ _ ⟨rfl, vX13_pawnGoes_108 hW (fin z h)⟩
  have f107 : ¬ pgo P a b → X 107 0 0 [] [] M := fun h => l107 _ _ _ _ _ ⟨rfl, vX13_pawnGoes_107 hW (f108 0 (Or.inr ⟨rfl, h⟩))⟩
  have f145 : ∀ z : Int32, (z = 1 ∧ pgo P a b) ∨ (z = 0 ∧ ¬ pgo P a b) → X 145 0 0 [] [.int z] M := fun z h => l145 _ _ _ _ _ ⟨rfl, vX13_pawnGoes_145 hW (fin z h)⟩
  have f140 : pgo P a b → X 140 0 0 [] [] M := fun h => l140 _ _ _ _ _ ⟨rfl, vX13_pawnGoes_140 hW (f145 1 (Or.inl ⟨rfl, h⟩))⟩
  have ub : upI P.2.1 = 8 ∨ upI P.2.1 = -8 := by
    unfold upI
    split
    · exact Or.inl rfl
    · exact Or.inr rfl
  have f23 : X 23 0 0 [.ref 55, .int (nI p), .int (nI a), .int (nI b), .int (nI P.2.1)] [.int (iI (upI P.2.1))] M := by
    refine l23 _ _ _ _ _ ⟨rfl, vX13_pawnGoes_23 hW ?_⟩
    have e1 : nI b = nI a + iI (upI P.2.1) ↔ (b : Int) = a + upI P.2.1 := by
      rw [iI_nat, iI_nat, iI_add]
      exact iI_eq (by omega) (by omega) (by omega) (by omega)
    have e2 : nI b = nI a + (2 : Int32) * iI (upI P.2.1) ↔ (b : Int) = a + 2 * upI P.2.1 := by
      rw [show (2 : Int32) = iI 2 from rfl, iI_nat, iI_nat, iI_mul, iI_add]
      exact iI_eq (by omega) (by omega) (by omega) (by omega)
    refine ⟨fun c => ?_, fun c => ⟨fun c2 => ?_, fun c2 => ?_⟩⟩
    · have h1 := e1.mp c
      have base : pgo P a b ↔ P.1 b = 0 := by unfold pgo; rw [if_pos h1]
      rw [nI_add, nI_clamp (by omega), hBb]
      exact ⟨vp_in_nI (by omega) (by omega), fun d => f49 1 (Or.inl ⟨rfl, base.mpr (ez.mp d)⟩), fun d => f49 0 (Or.inr ⟨rfl, fun h => d (ez.mpr (base.mp h))⟩)⟩
    · have h1 : ¬ (b : Int) = a + upI P.2.1 := fun q => c (e1.mpr q)
      have h2 := e2.mp c2
      have base : pgo P a b ↔ a / 8 = (if P.2.1 = 0 then 1 else 6) ∧ P.1 ((a : Int) + upI P.2.1).toNat = 0 ∧ P.1 b = 0 := by unfold pgo; rw [if_neg h1, if_pos h2]
      have f75 : ∀ r : Nat, r = (if P.2.1 = 0 then 1 else 6) → X 75 0 0 [.ref 55, .int (nI p), .int (nI a), .int (nI b), .int (iI (upI P.2.1))] [.int (nI r), .int (nI (a / 8))] M := by
        intro r hr
        refine l75 _ _ _ _ _ ⟨rfl, vX13_pawnGoes_75 hW ?_⟩
        have er : nI (a / 8) = nI r ↔ a / 8 = r := nI_eq (by omega) (by split at hr <;> omega)
        refine ⟨fun d => ?_, fun d => f107 (fun h => d (er.mpr (by rw [hr]; exact (base.mp h).1)))⟩
        have hr2 := er.mp d
        have hrg : 0 ≤ (a : Int) + upI P.2.1 ∧ (a : Int) + upI P.2.1 < 64 := by
          unfold upI at h2 ⊢
          split at h2
          · rename_i hs; rw [if_pos hs]; omega
          · rename_i hs; rw [if_neg hs]; omega
        obtain ⟨t, ht⟩ : ∃ t : Nat, (t : Int) = (a : Int) + upI P.2.1 := ⟨((a : Int) + upI P.2.1).toNat, by omega⟩
        have ht2 : ((a : Int) + upI P.2.1).toNat = t := by omega
        rw [ht2] at base
        obtain ⟨hBt, hBtm⟩ := hB t (by omega)
        have et : nI (P.1 t) = 0 ↔ P.1 t = 0 := nI_eq (b := 0) (by omega) (by decide)
        have e3 : (nI p + nI a) + iI (upI P.2.1) = nI (p + t) := by
          rw [nI_add, iI_nat, iI_nat, iI_add]
          congr 1
          omega
        rw [e3, nI_clamp (by omega), hBt, nI_add, nI_clamp (by omega), hBb]
        refine ⟨vp_in_nI (by omega) (by omega), fun d2 => ⟨vp_in_nI (by omega) (by omega), fun d3 => f108 1 (Or.inl ⟨rfl, base.mpr ⟨by rw [← hr]; exact hr2, et.mp d2, ez.mp d3⟩⟩), fun d3 => f107 (fun h => d3 (ez.mpr (base.mp h).2.2))⟩, fun d2 => f107 (fun h => d2 (et.mpr (base.mp h).2.1))⟩
      rw [show nI a / (8 : Int32) = nI (a / 8) from pk_div (d := 8) (by omega) (by decide) (by decide)]
      exact ⟨fun d => f75 1 (by rw [if_pos (es.mp d)]), fun d => f75 6 (by rw [if_neg (fun q => d (es.mpr q))])⟩
    · have h1 : ¬ (b : Int) = a + upI P.2.1 := fun q => c (e1.mpr q)
      have h2 : ¬ (b : Int) = a + 2 * upI P.2.1 := fun q => c2 (e2.mpr q)
      have base : pgo P a b ↔ (att P.1 a b ∧ 0 < P.1 b) ∨ tip P a b := by unfold pgo; rw [if_neg h1, if_neg h2]
      have f130 : ¬ (att P.1 a b ∧ 0 < P.1 b) → X 130 0 0 [.ref 55, .int (nI p), .int (nI a), .int (nI b)] [] M := by
        intro h
        refine l130 _ _ _ _ _ ⟨rfl, vX13_pawnGoes_130 hW ?_⟩
        refine c_takesInPassing hW hP0 hp ha hb (fun t => ?_) (fun t => ?_)
        · exact vkX13_pawnGoes_137 hW ⟨fun z => absurd z (by decide), fun _ => f140 (base.mpr (Or.inr t))⟩
        · exact vkX13_pawnGoes_137 hW ⟨fun _ => f145 0 (Or.inr ⟨rfl, fun q => (base.mp q).elim h t⟩), fun z => absurd rfl z⟩
      refine c_attacks hW hB (by omega) ha hb (fun t => ?_) (fun t => ?_)
      · refine vkX13_pawnGoes_116 hW ⟨fun z => absurd z (by decide), fun _ => ?_⟩
        rw [nI_add, nI_clamp (by omega), hBb]
        have eg : (0 : Int32) < nI (P.1 b) ↔ 0 < P.1 b := nI_ltI (a := 0) (by decide) (by omega)
        exact ⟨vp_in_nI (by omega) (by omega), fun d => f140 (base.mpr (Or.inl ⟨t, eg.mp d⟩)), fun d => f130 (fun h => d (eg.mpr h.2))⟩
      · exact vkX13_pawnGoes_116 hW ⟨fun _ => f130 (fun h => t h.1), fun z => absurd rfl z⟩
  refine l0 _ _ _ _ _ ⟨rfl, vX13_pawnGoes_0 hW ?_⟩
  rw [show nI p + (64 : Int32) = nI (p + 64) from nI_add p 64, nI_clamp (by omega), hS]
  refine ⟨vp_in_nI (by omega) (by omega), fun y ey => ?_⟩
  subst ey
  refine ⟨fun d => ?_, fun d => ?_⟩
  · have : upI P.2.1 = 8 := by unfold upI; rw [if_pos (es.mp d)]
    rw [this] at f23
    exact f23
  · have : upI P.2.1 = -8 := by unfold upI; rw [if_neg (fun q => d (es.mpr q))]
    rw [this] at f23
    exact f23
theorem c_cornerRight {mc ms : Nat} {M : zM} (hW : zFix M) {s : Nat} (hs : s < 64) {Q : zQt} (hq : Q (some (.int (nI (if s = 7 then 1 else if s = 0 then 2 else if s = 63 then 4 else if s = 56 then 8 else 0)))) M) : wX13_cornerRight mc ms [.int (nI s)] M Q := by
  refine ⟨⟨Nat.le_of_ble_eq_true rfl, rfl⟩, fun X l0 l40 => ?_⟩
  have f40 : ∀ z : Int32, z = nI (if s = 7 then 1 else if s = 0 then 2 else if s = 63 then 4 else if s = 56 then 8 else 0) → X 40 0 0 [] [.int z] M := fun z hz => l40 _ _ _ _ _ ⟨rfl, vX13_cornerRight_40 hW (by rw [hz]; exact hq)⟩
  have e : ∀ k : Nat, k < 64 → (nI s = nI k ↔ s = k) := fun k hk => nI_eq (by omega) (by omega)
  refine l0 _ _ _ _ _ ⟨rfl, vX13_cornerRight_0 hW ?_⟩
  refine ⟨fun d => f40 _ ?_, fun d => ⟨fun d2 => f40 _ ?_, fun d2 => ⟨fun d3 => f40 _ ?_, fun d3 => ⟨fun d4 => f40 _ ?_, fun d4 => f40 _ ?_⟩⟩⟩⟩
  · rw [if_pos ((e 7 (by decide)).mp d)]; rfl
  · rw [if_neg (fun q => d ((e 7 (by decide)).mpr q)), if_pos ((e 0 (by decide)).mp d2)]; rfl
  · rw [if_neg (fun q => d ((e 7 (by decide)).mpr q)), if_neg (fun q => d2 ((e 0 (by decide)).mpr q)), if_pos ((e 63 (by decide)).mp d3)]; rfl
  · rw [if_neg (fun q => d ((e 7 (by decide)).mpr q)), if_neg (fun q => d2 ((e 0 (by decide)).mpr q)), if_neg (fun q => d3 ((e 63 (by decide)).mpr q)), if_pos ((e 56 (by decide)).mp d4)]; rfl
  · rw [if_neg (fun q => d ((e 7 (by decide)).mpr q)), if_neg (fun q => d2 ((e 0 (by decide)).mpr q)), if_neg (fun q => d3 ((e 63 (by decide)).mpr q)), if_neg (fun q => d4 ((e 56 (by decide)).mpr q))]; rfl
