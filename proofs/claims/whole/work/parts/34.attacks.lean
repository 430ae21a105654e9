/-! the reference's attacks -/
theorem z_b01 {z : Int32} (h : z = 0 ∨ z = 1) : narrow .boolean (.int z) = .int z := by
  rcases h with q | q <;> rw [q] <;> rfl
theorem att_slide {B : Nat → Nat} {a b : Nat} (h0 : kd (B a) ≠ 0) (hne : a ≠ b) (h1 : kd (B a) ≠ 1) (h2 : kd (B a) ≠ 2) (h6 : kd (B a) ≠ 6) : att B a b ↔ slides (kd (B a)) a b ∧ ∀ i : Nat, 1 ≤ i → i < stn a b → B (sqA a b i) = 0 :=
  ⟨fun h => h.2.2.2.2.2 h1 h2 h6, fun h => ⟨h0, hne, fun q => absurd q h1, fun q => absurd q h2, fun q => absurd q h6, fun _ _ _ => h⟩⟩
theorem kd_le {n : Nat} (h : n ≤ 12) : kd n ≤ 6 := by
  unfold kd
  split <;> omega
theorem sgn_bd (z : Int) : -1 ≤ sgn z ∧ sgn z ≤ 1 := by
  unfold sgn
  split
  · split <;> omega
  · omega
theorem stp_bd (a b : Nat) : -9 ≤ stp a b ∧ stp a b ≤ 9 := by
  have h1 := sgn_bd (dR a b)
  have h2 := sgn_bd (dF a b)
  unfold stp
  omega
set_option maxHeartbeats 4000000 in
theorem c_attacks {mc ms : Nat} {M : zM} (hW : zFix M) {p : Nat} {B : Nat → Nat} (hB : rBd M p B) (hp : p + 64 ≤ 414) {a b : Nat} (ha : a < 64) (hb : b < 64) {Q : zQt} (q1 : att B a b → Q (some (.int 1)) M) (q0 : ¬ att B a b → Q (some (.int 0)) M) : wX13_attacks mc ms [.ref 55, .int (nI p), .int (nI a), .int (nI b)] M Q := by
  refine ⟨⟨Nat.le_of_ble_eq_true rfl, rfl⟩, fun X l0 l63 l90 l97 l98 l119 l143 l144 l155 l160 l173 l186 l190 l191 l214 l233 l242 l270 l282 => ?_⟩
  have fin : ∀ z : Int32, (z = 1 ∧ att B a b) ∨ (z = 0 ∧ ¬ att B a b) → narrow .boolean (.int z) = .int z ∧ Q (some (.int z)) M := by
    intro z h
    rcases h with ⟨e, h⟩ | ⟨e, h⟩ <;> subst e
    · exact ⟨rfl, q1 h⟩
    · exact ⟨rfl, q0 h⟩
  have f63 : ¬ att B a b → X 63 0 0 [] [] M := fun h => l63 _ _ _ _ _ ⟨rfl, vX13_attacks_63 hW (q0 h)⟩
  have f98 : ∀ z : Int32, (z = 1 ∧ att B a b) ∨ (z = 0 ∧ ¬ att B a b) → X 98 0 0 [] [.int z] M := fun z h => l98 _ _ _ _ _ ⟨rfl, vX13_attacks_98 hW (fin z h)⟩
  have f97 : ¬ att B a b → X 97 0 0 [] [] M := fun h => l97 _ _ _ _ _ ⟨rfl, vX13_attacks_97 hW (f98 0 (Or.inr ⟨rfl, h⟩))⟩
  have f119 : ∀ z : Int32, (z = 1 ∧ att B a b) ∨ (z = 0 ∧ ¬ att B a b) → X 119 0 0 [] [.int z] M := fun z h => l119 _ _ _ _ _ ⟨rfl, vX13_attacks_119 hW (fin z h)⟩
  have f144 : ∀ z : Int32, (z = 1 ∧ att B a b) ∨ (z = 0 ∧ ¬ att B a b) → X 144 0 0 [] [.int z] M := fun z h => l144 _ _ _ _ _ ⟨rfl, vX13_attacks_144 hW (fin z h)⟩
  have f143 : ¬ att B a b → X 143 0 0 [] [] M := fun h => l143 _ _ _ _ _ ⟨rfl, vX13_attacks_143 hW (f144 0 (Or.inr ⟨rfl, h⟩))⟩
  have f282 : ∀ z : Int32, (z = 1 ∧ att B a b) ∨ (z = 0 ∧ ¬ att B a b) → X 282 0 0 [.int z] [] M := fun z h => l282 _ _ _ _ _ ⟨rfl, vX13_attacks_282 hW (fin z h)⟩
  have f242 : ¬ att B a b → ∀ x12 x13 : Int32, X 242 0 0 [.ref 55, .int (nI p), .int (nI b), .int 0, .int x12, .int x13] [] M := fun h x12 x13 => l242 _ _ _ _ _ ⟨rfl, vX13_attacks_242 hW ⟨fun _ => f282 0 (Or.inr ⟨rfl, h⟩), fun c => absurd rfl c⟩⟩
  obtain ⟨hBa, hBm⟩ := hB a ha
  obtain ⟨k, hk⟩ : ∃ k, k = kd (B a) := ⟨_, rfl⟩
  have hk6 : k ≤ 6 := by rw [hk]; exact kd_le hBm
  have kF := dF_bd (a := a) (b := b)
  have kR := dR_bd ha hb
  have jF := aI_bd kF
  have jR := aI_bd kR
  have kI : ∀ n : Nat, n < 2 ^ 31 → (nI k = nI n ↔ kd (B a) = n) := fun n hn => by rw [nI_eq (by omega) hn, hk]
  refine l0 _ _ _ _ _ ⟨rfl, vX13_attacks_0 hW ?_⟩
  rw [nI_add, nI_clamp (by omega)]
  refine ⟨vp_in_nI (by omega) (by omega), fun y8 e8 => ?_⟩
  rw [hBa] at e8
  subst e8
  refine c_kindOf hW (B a) (by omega) ?_
  rw [← hk]
  refine vkX13_attacks_15 hW (fun y26 e26 y37 e37 => ?_)
  rw [show (nI b - nI b / (8 : Int32) * (8 : Int32)) = nI (b % 8) from pk_rem (d := 8) (by omega) (by decide) (by decide), show (nI a - nI a / (8 : Int32) * (8 : Int32)) = nI (a % 8) from pk_rem (d := 8) (by omega) (by decide) (by decide), iI_nat, iI_nat, iI_sub] at e26
  rw [show nI b / (8 : Int32) = nI (b / 8) from pk_div (d := 8) (by omega) (by decide) (by decide), show nI a / (8 : Int32) = nI (a / 8) from pk_div (d := 8) (by omega) (by decide) (by decide), iI_nat, iI_nat, iI_sub] at e37
  have e26 : y26 = iI (dF a b) := e26
  have e37 : y37 = iI (dR a b) := e37
  subst e26
  subst e37
  refine c_amount hW (dF a b) (by omega) (by omega) ?_
  refine vkX13_attacks_44 hW ?_
  refine c_amount hW (dR a b) (by omega) (by omega) ?_
  refine vkX13_attacks_51 hW ?_
  have cF : ∀ z : Int, -100 < z → z < 100 → (iI (aI (dF a b)) = iI z ↔ aI (dF a b) = z) := fun z h1 h2 => iI_eq (by omega) (by omega) (by omega) (by omega)
  have cR : ∀ z : Int, -100 < z → z < 100 → (iI (aI (dR a b)) = iI z ↔ aI (dR a b) = z) := fun z h1 h2 => iI_eq (by omega) (by omega) (by omega) (by omega)
  have dRz : ∀ z : Int, -100 < z → z < 100 → (iI (dR a b) = iI z ↔ dR a b = z) := fun z h1 h2 => iI_eq (by omega) (by omega) (by omega) (by omega)
  refine ⟨fun c => f63 (fun h => h.1 ((kI 0 (by decide)).mp c)), fun c0 => ⟨fun c => f63 (fun h => h.2.1 ((nI_eq (by omega) (by omega)).mp c)), fun cne => ?_⟩⟩
  have k0 : kd (B a) ≠ 0 := fun q => c0 ((kI 0 (by decide)).mpr q)
  have hne : a ≠ b := fun q => cne (by rw [q])
  refine ⟨fun c1 => ?_, fun c1 => ⟨fun c2 => ?_, fun c2 => ⟨fun c6 => ?_, fun c6 => ?_⟩⟩⟩
  · -- a pawn
    have k1 : kd (B a) = 1 := (kI 1 (by decide)).mp c1
    have base : att B a b ↔ aI (dF a b) = 1 ∧ dR a b = (if B a = 1 then 1 else -1) := ⟨fun h => h.2.2.1 k1, fun h => ⟨k0, hne, fun _ => h, fun q => absurd (k1.symm.trans q) (by decide), fun q => absurd (k1.symm.trans q) (by decide), fun q => absurd k1 q⟩⟩
    refine ⟨fun d => ?_, fun d => f97 (fun h => d ((cF 1 (by decide) (by decide)).mpr (base.mp h).1))⟩
    have dF1 := (cF 1 (by decide) (by decide)).mp d
    refine ⟨fun d2 => ?_, fun d2 => ?_⟩
    · have hm : B a = 1 := (nI_eq (b := 1) (by omega) (by decide)).mp d2
      rw [if_pos hm] at base
      refine l90 _ _ _ _ _ ⟨rfl, vX13_attacks_90 hW ⟨fun d3 => f98 1 (Or.inl ⟨rfl, base.mpr ⟨dF1, (dRz 1 (by decide) (by decide)).mp d3⟩⟩), fun d3 => f97 (fun h => d3 ((dRz 1 (by decide) (by decide)).mpr (base.mp h).2))⟩⟩
    · have hm : ¬ B a = 1 := fun q => d2 ((nI_eq (b := 1) (by omega) (by decide)).mpr q)
      rw [if_neg hm] at base
      refine l90 _ _ _ _ _ ⟨rfl, vX13_attacks_90 hW ⟨fun d3 => f98 1 (Or.inl ⟨rfl, base.mpr ⟨dF1, (dRz (-1) (by decide) (by decide)).mp d3⟩⟩), fun d3 => f97 (fun h => d3 ((dRz (-1) (by decide) (by decide)).mpr (base.mp h).2))⟩⟩
  · -- a knight
    have k2 : kd (B a) = 2 := (kI 2 (by decide)).mp c2
    have base : att B a b ↔ aI (dF a b) * aI (dR a b) = 2 := ⟨fun h => h.2.2.2.1 k2, fun h => ⟨k0, hne, fun q => absurd (k2.symm.trans q) (by decide), fun _ => h, fun q => absurd (k2.symm.trans q) (by decide), fun _ q => absurd k2 q⟩⟩
    have hm : aI (dF a b) * aI (dR a b) ≤ 7 * 7 := Int.mul_le_mul (by omega) (by omega) (by omega) (by omega)
    have hm0 : 0 ≤ aI (dF a b) * aI (dR a b) := Int.mul_nonneg (by omega) (by omega)
    have e2 : iI (aI (dF a b)) * iI (aI (dR a b)) = (2 : Int32) ↔ aI (dF a b) * aI (dR a b) = 2 := by
      rw [iI_mul]
      exact iI_eq (b := 2) (by omega) (by omega) (by decide) (by decide)
    exact ⟨fun d => f119 1 (Or.inl ⟨rfl, base.mpr (e2.mp d)⟩), fun d => f119 0 (Or.inr ⟨rfl, fun h => d (e2.mpr (base.mp h))⟩)⟩
  · -- a king
    have k6 : kd (B a) = 6 := (kI 6 (by decide)).mp c6
    have base : att B a b ↔ aI (dF a b) < 2 ∧ aI (dR a b) < 2 := ⟨fun h => h.2.2.2.2.1 k6, fun h => ⟨k0, hne, fun q => absurd (k6.symm.trans q) (by decide), fun q => absurd (k6.symm.trans q) (by decide), fun _ => h, fun _ _ q => absurd k6 q⟩⟩
    have eF : (2 : Int32) ≤ iI (aI (dF a b)) ↔ 2 ≤ aI (dF a b) := iI_le (a := 2) (by decide) (by decide) (by omega) (by omega)
    have eR : (2 : Int32) ≤ iI (aI (dR a b)) ↔ 2 ≤ aI (dR a b) := iI_le (a := 2) (by decide) (by decide) (by omega) (by omega)
    refine ⟨fun d => f143 (fun h => ?_), fun d => ⟨fun d2 => f143 (fun h => ?_), fun d2 => f144 1 (Or.inl ⟨rfl, base.mpr ⟨?_, ?_⟩⟩)⟩⟩
    · have := eF.mp d
      have := (base.mp h).1
      omega
    · have := eR.mp d2
      have := (base.mp h).2
      omega
    · rcases Int.lt_or_le (aI (dF a b)) 2 with q | q
      · exact q
      · exact absurd (eF.mpr q) d
    · rcases Int.lt_or_le (aI (dR a b)) 2 with q | q
      · exact q
      · exact absurd (eR.mpr q) d2
  · -- a bishop, a rook, a queen
    have k1 : kd (B a) ≠ 1 := fun q => c1 ((kI 1 (by decide)).mpr q)
    have k2 : kd (B a) ≠ 2 := fun q => c2 ((kI 2 (by decide)).mpr q)
    have k6 : kd (B a) ≠ 6 := fun q => c6 ((kI 6 (by decide)).mpr q)
    have base := att_slide k0 hne k1 k2 k6
    have sb := stp_bd a b
    -- the walk along the line
    have walk : slides (kd (B a)) a b → ∀ (n i : Nat), i + n = stn a b → 1 ≤ i → (∀ j, 1 ≤ j → j < i → B (sqA a b j) = 0) → X 242 0 0 [.ref 55, .int (nI p), .int (nI b), .int 1, .int (iI (stp a b)), .int (iI ((a : Int) + stp a b * (i : Nat)))] [] M := by
      intro hs
      have hln := line_of ha hb hne (by
        rcases hs with ⟨h | h, -⟩ | ⟨h, -⟩
        · exact Or.inl h
        · exact Or.inr (Or.inl h)
        · exact Or.inr (Or.inr h))
      obtain ⟨g1, g2, g3, g4, g5⟩ := hln
      intro n
      induction n with
      | zero =>
        intro i hi h1 hcl
        have hi' : i = stn a b := by omega
        have hat : att B a b := base.mpr ⟨hs, fun j hj1 hj2 => hcl j hj1 (by omega)⟩
        refine l242 _ _ _ _ _ ⟨rfl, vX13_attacks_242 hW ⟨fun c => absurd c (by decide), fun _ => ⟨fun _ => f282 1 (Or.inl ⟨rfl, hat⟩), fun c => absurd ?_ c⟩⟩⟩
        rw [hi', g4]
        rfl
      | succ n ih =>
        intro i hi h1 hcl
        obtain ⟨r1, r2⟩ := g5 i h1 (by omega)
        have hsq : (a : Int) + stp a b * (i : Nat) = (sqA a b i : Nat) := by
          unfold sqA
          omega
        have hlt : sqA a b i < 64 := by
          unfold sqA
          omega
        obtain ⟨hBs, hBm2⟩ := hB (sqA a b i) hlt
        have hneb : ¬ iI ((a : Int) + stp a b * (i : Nat)) = nI b := by
          intro q
          rw [iI_nat, iI_eq (by omega) (by omega) (by omega) (by omega)] at q
          rw [← g4] at q
          have h9 : stp a b * (i : Nat) = stp a b * (stn a b : Nat) := by omega
          have h8 : ((i : Nat) : Int) = ((stn a b : Nat) : Int) := Int.eq_of_mul_eq_mul_left g3 h9
          omega
        refine l242 _ _ _ _ _ ⟨rfl, vX13_attacks_242 hW ⟨fun c => absurd c (by decide), fun _ => ⟨fun c => absurd c hneb, fun _ => ?_⟩⟩⟩
        rw [hsq, ← iI_nat, nI_add, nI_clamp (by omega), hBs]
        have ez : nI (B (sqA a b i)) = 0 ↔ B (sqA a b i) = 0 := nI_eq (b := 0) (by omega) (by decide)
        refine ⟨vp_in_nI (by omega) (by omega), fun d => ?_, fun d => ?_⟩
        · refine l270 _ _ _ _ _ ⟨rfl, vX13_attacks_270 hW ?_⟩
          have hnx := ih (i + 1) (by omega) (by omega) (fun j hj1 hj2 => by
            rcases (show j < i ∨ j = i by omega) with q | q
            · exact hcl j hj1 q
            · rw [q]; exact ez.mp d)
          have e : nI (sqA a b i) + iI (stp a b) = iI ((a : Int) + stp a b * ((i + 1 : Nat) : Nat)) := by
            rw [iI_nat, iI_add, ← hsq]
            congr 1
            rw [Int.natCast_add, Int.mul_add]
            omega
          rw [e]
          exact hnx
        · refine l270 _ _ _ _ _ ⟨rfl, vX13_attacks_270 hW ?_⟩
          exact f242 (fun h => d (ez.mpr ((base.mp h).2 i h1 (by omega)))) _ _
    -- behind the test of the direction
    have f233 : ∀ z : Int32, (z = 1 ∧ slides (kd (B a)) a b) ∨ (z = 0 ∧ ¬ slides (kd (B a)) a b) → ∀ s0 s1 : Int32, s1 + s0 = iI (stp a b) → X 233 0 0 [.ref 55, .int (nI p), .int (nI a), .int (nI b), .int z] [.int s0, .int s1] M := by
      intro z hz s0 s1 hs
      refine l233 _ _ _ _ _ ⟨rfl, vX13_attacks_233 hW ?_⟩
      rw [hs]
      rcases hz with ⟨e, h⟩ | ⟨e, h⟩ <;> subst e
      · have hln := line_of ha hb hne (by
          rcases h with ⟨h | h, -⟩ | ⟨h, -⟩
          · exact Or.inl h
          · exact Or.inr (Or.inl h)
          · exact Or.inr (Or.inr h))
        have := walk h (stn a b - 1) 1 (by omega) (by omega) (fun j h1 h2 => by omega)
        have e : nI a + iI (stp a b) = iI ((a : Int) + stp a b * ((1 : Nat) : Nat)) := by
          rw [iI_nat, iI_add]
          congr 1
          omega
        rw [e]
        exact this
      · exact f242 (fun q => h (base.mp q).1) _ _
    have f214 : ∀ z : Int32, (z = 1 ∧ slides (kd (B a)) a b) ∨ (z = 0 ∧ ¬ slides (kd (B a)) a b) → ∀ s0 : Int32, s0 = iI (8 * sgn (dR a b)) → X 214 0 0 [.ref 55, .int (nI p), .int (nI a), .int (nI b), .int (iI (dF a b)), .int z] [.int s0] M := by
      intro z hz s0 hs
      have eL : iI (dF a b) ≤ 0 ↔ dF a b ≤ 0 := iI_le (b := 0) (by omega) (by omega) (by decide) (by decide)
      have eG : (0 : Int32) ≤ iI (dF a b) ↔ 0 ≤ dF a b := iI_le (a := 0) (by decide) (by decide) (by omega) (by omega)
      have key : ∀ (y : Int32) (w : Int), y = iI w → sgn (dF a b) = w → s0 + y = iI (stp a b) := fun y w hy hw => by
        rw [hs, hy, iI_add, ← hw]
        rfl
      refine l214 _ _ _ _ _ ⟨rfl, vX13_attacks_214 hW ⟨fun c => ⟨fun d => f233 z hz 0 _ (key 0 0 (by decide) ?_), fun d => f233 z hz (-1) _ (key (-1) (-1) (by decide) ?_)⟩, fun c => f233 z hz 1 _ (key 1 1 (by decide) ?_)⟩⟩
      · unfold sgn; rw [if_pos (eL.mp c), if_pos (eG.mp d)]
      · unfold sgn; rw [if_pos (eL.mp c), if_neg (fun q => d (eG.mpr q))]
      · unfold sgn; rw [if_neg (fun q => c (eL.mpr q))]
    have f191 : ∀ z : Int32, (z = 1 ∧ slides (kd (B a)) a b) ∨ (z = 0 ∧ ¬ slides (kd (B a)) a b) → X 191 0 0 [.ref 55, .int (nI p), .int (nI a), .int (nI b), .int (iI (dF a b)), .int (iI (dR a b))] [.int z] M := by
      intro z hz
      have eL : iI (dR a b) ≤ 0 ↔ dR a b ≤ 0 := iI_le (b := 0) (by omega) (by omega) (by decide) (by decide)
      have eG : (0 : Int32) ≤ iI (dR a b) ↔ 0 ≤ dR a b := iI_le (a := 0) (by decide) (by decide) (by omega) (by omega)
      have key : ∀ (y : Int32) (w : Int), y = iI (8 * w) → sgn (dR a b) = w → y = iI (8 * sgn (dR a b)) := fun y w hy hw => by rw [hy, hw]
      refine l191 _ _ _ _ _ ⟨rfl, vX13_attacks_191 hW ⟨fun c => ⟨fun d => f214 z hz 0 (key 0 0 (by decide) ?_), fun d => f214 z hz (-8) (key (-8) (-1) (by decide) ?_)⟩, fun c => f214 z hz 8 (key 8 1 (by decide) ?_)⟩⟩
      · unfold sgn; rw [if_pos (eL.mp c), if_pos (eG.mp d)]
      · unfold sgn; rw [if_pos (eL.mp c), if_neg (fun q => d (eG.mpr q))]
      · unfold sgn; rw [if_neg (fun q => c (eL.mpr q))]
    have f186 : slides (kd (B a)) a b → X 186 0 0 [.ref 55, .int (nI p), .int (nI a), .int (nI b), .int (iI (dF a b)), .int (iI (dR a b))] [] M := fun h => l186 _ _ _ _ _ ⟨rfl, vX13_attacks_186 hW (f191 1 (Or.inl ⟨rfl, h⟩))⟩
    have f190 : ¬ slides (kd (B a)) a b → X 190 0 0 [.ref 55, .int (nI p), .int (nI a), .int (nI b), .int (iI (dF a b)), .int (iI (dR a b))] [] M := fun h => l190 _ _ _ _ _ ⟨rfl, vX13_attacks_190 hW (f191 0 (Or.inr ⟨rfl, h⟩))⟩
    have zF : aI (dF a b) = 0 ↔ dF a b = 0 := by unfold aI; split <;> omega
    have zR : aI (dR a b) = 0 ↔ dR a b = 0 := by unfold aI; split <;> omega
    have eFR : iI (aI (dF a b)) = iI (aI (dR a b)) ↔ aI (dF a b) = aI (dR a b) := cF _ (by omega) (by omega)
    have f173 : ¬ ((dF a b = 0 ∨ dR a b = 0) ∧ kd (B a) ≠ 3) → X 173 0 0 [.ref 55, .int (nI p), .int (nI a), .int (nI b), .int (nI k), .int (iI (dF a b)), .int (iI (dR a b)), .int (iI (aI (dF a b))), .int (iI (aI (dR a b)))] [] M := by
      intro h
      refine l173 _ _ _ _ _ ⟨rfl, vX13_attacks_173 hW ⟨fun c => ⟨fun d => f190 ?_, fun d => f186 ?_⟩, fun c => f190 ?_⟩⟩
      · rintro (q | ⟨-, q⟩)
        · exact h q
        · exact q ((kI 4 (by decide)).mp d)
      · exact Or.inr ⟨eFR.mp c, fun q => d ((kI 4 (by decide)).mpr q)⟩
      · rintro (q | ⟨q, -⟩)
        · exact h q
        · exact c (eFR.mpr q)
    have f160 : ∀ z : Int32, (z = 1 ∧ (dF a b = 0 ∨ dR a b = 0)) ∨ (z = 0 ∧ ¬ (dF a b = 0 ∨ dR a b = 0)) → X 160 0 0 [.ref 55, .int (nI p), .int (nI a), .int (nI b), .int (nI k), .int (iI (dF a b)), .int (iI (dR a b)), .int (iI (aI (dF a b))), .int (iI (aI (dR a b)))] [.int z] M := by
      intro z hz
      refine l160 _ _ _ _ _ ⟨rfl, vX13_attacks_160 hW ⟨fun c => f173 (fun h => ?_), fun c => ⟨fun d => f173 (fun h => h.2 ((kI 3 (by decide)).mp d)), fun d => f186 ?_⟩⟩⟩
      · rcases hz with ⟨e, -⟩ | ⟨-, q⟩
        · rw [e] at c; exact absurd c (by decide)
        · exact q h.1
      · rcases hz with ⟨-, q⟩ | ⟨e, -⟩
        · exact Or.inl ⟨q, fun r => d ((kI 3 (by decide)).mpr r)⟩
        · exact absurd e c
    have f155 : (dF a b = 0 ∨ dR a b = 0) → X 155 0 0 [.ref 55, .int (nI p), .int (nI a), .int (nI b), .int (nI k), .int (iI (dF a b)), .int (iI (dR a b)), .int (iI (aI (dF a b))), .int (iI (aI (dR a b)))] [] M := fun h => l155 _ _ _ _ _ ⟨rfl, vX13_attacks_155 hW (f160 1 (Or.inl ⟨rfl, h⟩))⟩
    refine ⟨fun d => f155 (Or.inl (zF.mp ((cF 0 (by decide) (by decide)).mp d))), fun d => ⟨fun d2 => f155 (Or.inr (zR.mp ((cR 0 (by decide) (by decide)).mp d2))), fun d2 => f160 0 (Or.inr ⟨rfl, ?_⟩)⟩⟩
    rintro (q | q)
    · exact d ((cF 0 (by decide) (by decide)).mpr (zF.mpr q))
    · exact d2 ((cR 0 (by decide) (by decide)).mpr (zR.mpr q))
