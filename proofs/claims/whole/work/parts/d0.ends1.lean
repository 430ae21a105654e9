/-! THE REFERENCE'S ENDINGS: attacks and positions -/
theorem e_amount {mc ms : Nat} {M : zM} (hW : zFix M) (z : Int) (h1 : -2147483648 < z) (h2 : z < 2147483648) {Q : zQt} (hq : Q (some (.int (iI (aI z)))) M) : wX12_amount mc ms [.int (iI z)] M Q := by
  refine ⟨⟨Nat.le_of_ble_eq_true rfl, rfl⟩, fun X h0 h10 => ?_⟩
  have fin : ∀ y, y = iI (aI z) → X 10 0 0 [] [.int y] M := fun y hy => h10 _ _ _ _ _ ⟨rfl, vX12_amount_10 hW (by rw [hy]; exact hq)⟩
  refine h0 _ _ _ _ _ ⟨rfl, vX12_amount_0 hW ?_⟩
  have e0 : (0 : Int32) ≤ iI z ↔ 0 ≤ z := iI_le (a := 0) (b := z) (by decide) (by decide) (by omega) h2
  refine ⟨fun c => fin _ ?_, fun c => fin _ ?_⟩
  · unfold aI
    rw [if_pos (e0.mp c)]
  · unfold aI
    rw [if_neg (fun q => c (e0.mpr q)), iI_neg]
theorem m8 {a : Nat} (ha : a < 2 ^ 31) : (nI a - nI a / (8 : Int32) * (8 : Int32)) = nI (a % 8) := pk_rem (d := 8) ha (by decide) (by decide)
theorem q8 {a : Nat} (ha : a < 2 ^ 31) : nI a / (8 : Int32) = nI (a / 8) := pk_div (d := 8) ha (by decide) (by decide)
theorem e_beside {mc ms : Nat} {M : zM} (hW : zFix M) {a b : Nat} (ha : a < 64) (hb : b < 64) {Q : zQt} (q1 : kiG a b → Q (some (.int 1)) M) (q0 : ¬ kiG a b → Q (some (.int 0)) M) : wX12_beside mc ms [.ref 71, .int (nI a), .int (nI b)] M Q := by
  refine ⟨⟨Nat.le_of_ble_eq_true rfl, rfl⟩, fun X h0 h41 h42 => ?_⟩
  have f42 : ∀ z : Int32, (z = 1 ∧ kiG a b) ∨ (z = 0 ∧ ¬ kiG a b) → X 42 0 0 [] [.int z] M := fun z h => h42 _ _ _ _ _ ⟨rfl, vX12_beside_42 hW (by
    rcases h with ⟨e, h⟩ | ⟨e, h⟩ <;> subst e
    · exact ⟨rfl, q1 h⟩
    · exact ⟨rfl, q0 h⟩)⟩
  have f41 : ¬ kiG a b → X 41 0 0 [] [] M := fun h => h41 _ _ _ _ _ ⟨rfl, vX12_beside_41 hW (f42 0 (Or.inr ⟨rfl, h⟩))⟩
  have kF := dF_bd (a := b) (b := a)
  have kR := dR_bd hb ha
  have jF := aI_bd kF
  have jR := aI_bd kR
  have eF : aI (dF b a) = aI (dF a b) := by rw [dF_sym, aI_neg]
  have eR : aI (dR b a) = aI (dR a b) := by rw [dR_sym, aI_neg]
  refine h0 _ _ _ _ _ ⟨rfl, vX12_beside_0 hW ⟨fun c => f41 (fun h => h.1 ((nI_eq (by omega) (by omega)).mp c)), fun c => ?_⟩⟩
  have hne : a ≠ b := fun q => c (by rw [q])
  rw [m8 (by omega), m8 (by omega), iI_nat, iI_nat, iI_sub]
  refine e_amount hW (dF b a) (by omega) (by omega) ?_
  refine vkX12_beside_17 hW ⟨fun c2 => f41 (fun h => ?_), fun c2 => ?_⟩
  · have := (iI_le (a := 2) (b := aI (dF b a)) (by decide) (by decide) (by omega) (by omega)).mp c2
    have := h.2.1
    omega
  have c3 : ¬ 2 ≤ aI (dF b a) := fun q => c2 ((iI_le (a := 2) (b := aI (dF b a)) (by decide) (by decide) (by omega) (by omega)).mpr q)
  rw [q8 (by omega), q8 (by omega), iI_nat, iI_nat, iI_sub]
  refine e_amount hW (dR b a) (by omega) (by omega) ?_
  refine vkX12_beside_33 hW ⟨fun c4 => f41 (fun h => ?_), fun c4 => f42 1 (Or.inl ⟨rfl, hne, by omega, ?_⟩)⟩
  · have := (iI_le (a := 2) (b := aI (dR b a)) (by decide) (by decide) (by omega) (by omega)).mp c4
    have := h.2.2
    omega
  · have : ¬ 2 ≤ aI (dR b a) := fun q => c4 ((iI_le (a := 2) (b := aI (dR b a)) (by decide) (by decide) (by omega) (by omega)).mpr q)
    omega
theorem stp_ne {a b i : Nat} (ha : a < 64) (hb : b < 64) (hne : a ≠ b) (hl : dF a b = 0 ∨ dR a b = 0 ∨ aI (dF a b) = aI (dR a b)) (hi : i < stn a b) : (a : Int) + stp a b * (i : Nat) ≠ b := by
  obtain ⟨-, -, g3, g4, -⟩ := line_of ha hb hne hl
  intro q
  have h1 : stp a b * (i : Nat) = stp a b * (stn a b : Nat) := by omega
  have h2 := Int.eq_of_mul_eq_mul_left g3 h1
  omega
theorem e_isOpen {mc ms : Nat} {M : zM} (hW : zFix M) {a b s w : Nat} (ha : a < 64) (hb : b < 64) (hs : s < 64) (hw : w < 64) (hne : a ≠ b) (hl : dF a b = 0 ∨ dR a b = 0 ∨ aI (dF a b) = aI (dR a b)) {Q : zQt} (q1 : opn s a b ∧ opn w a b → Q (some (.int 1)) M) (q0 : ¬ (opn s a b ∧ opn w a b) → Q (some (.int 0)) M) : wX12_isOpen mc ms [.ref 71, .int (nI a), .int (nI b), .int (nI s), .int (nI w)] M Q := by
  refine ⟨⟨Nat.le_of_ble_eq_true rfl, rfl⟩, fun X l0 l31 l64 l84 l119 => ?_⟩
  obtain ⟨g1, g2, g3, g4, g5⟩ := line_of ha hb hne hl
  have f119 : ¬ (opn s a b ∧ opn w a b) → X 119 0 0 [] [] M := fun h => l119 _ _ _ _ _ ⟨rfl, vX12_isOpen_119 hW (q0 h)⟩
  have loop : ∀ (r i : Nat) (f k : Int), i + r = stn a b → 1 ≤ i → 8 * k + f = (a : Int) + stp a b * (i : Nat) → (∀ j, 1 ≤ j → j < i → sqA a b j ≠ s ∧ sqA a b j ≠ w) → X 84 0 0 [.int (nI b), .int (nI s), .int (nI w), .int (iI (sgn (dF a b))), .int (iI (sgn (dR a b))), .int (iI f), .int (iI k)] [] M := by
    intro r
    induction r with
    | zero =>
      intro i f k hi i1 e hj
      have hi : i = stn a b := by omega
      rw [hi, g4] at e
      refine l84 _ _ _ _ _ ⟨rfl, vX12_isOpen_84 hW ?_⟩
      rw [show (8 : Int32) = iI 8 from rfl, iI_mul, iI_add, e]
      exact ⟨fun _ => q1 ⟨fun j j1 j2 => (hj j j1 (by omega)).1, fun j j1 j2 => (hj j j1 (by omega)).2⟩, fun c => absurd rfl c⟩
    | succ r ih =>
      intro i f k hi i1 e hj
      obtain ⟨b1, b2⟩ := g5 i i1 (by omega)
      have nb := stp_ne (i := i) ha hb hne hl (by omega)
      have eq : ((sqA a b i : Nat) : Int) = (a : Int) + stp a b * (i : Nat) := by unfold sqA; omega
      refine l84 _ _ _ _ _ ⟨rfl, vX12_isOpen_84 hW ?_⟩
      rw [show (8 : Int32) = iI 8 from rfl, iI_mul, iI_add, e, iI_nat, iI_nat, iI_nat, iI_add, iI_add]
      refine ⟨fun c => absurd ((iI_eq (by omega) (by omega) (by omega) (by omega)).mp c) nb, fun _ => ⟨fun c => f119 (fun h => ?_), fun c => ⟨fun d => f119 (fun h => ?_), fun d => ?_⟩⟩⟩
      · have := (iI_eq (by omega) (by omega) (by omega) (by omega)).mp c
        exact h.1 i i1 (by omega) (by omega)
      · have := (iI_eq (by omega) (by omega) (by omega) (by omega)).mp d
        exact h.2 i i1 (by omega) (by omega)
      · have n1 : sqA a b i ≠ s := fun q => c (by rw [← eq, q])
        have n2 : sqA a b i ≠ w := fun q => d (by rw [← eq, q])
        refine ih (i + 1) (f + sgn (dF a b)) (k + sgn (dR a b)) (by omega) (by omega) ?_ (fun j j1 j2 => ?_)
        · have : stp a b * ((i + 1 : Nat) : Int) = stp a b * (i : Nat) + stp a b := by
            rw [show ((i + 1 : Nat) : Int) = (i : Int) + 1 by omega, Int.mul_add, Int.mul_one]
          rw [this]
          have es : stp a b = 8 * sgn (dR a b) + sgn (dF a b) := rfl
          omega
        · by_cases z : j = i
          · rw [z]; exact ⟨n1, n2⟩
          · exact hj j j1 (by omega)
  have f64 : X 64 0 0 [.int (nI a), .int (nI b), .int (nI s), .int (nI w), .int (iI (sgn (dF a b)))] [.int (iI (sgn (dR a b)))] M := by
    refine l64 _ _ _ _ _ ⟨rfl, vX12_isOpen_64 hW (fun y e => ?_)⟩
    rw [m8 (by omega), iI_nat, iI_add] at e
    rw [e, q8 (by omega), iI_nat (a / 8), iI_add]
    refine loop (stn a b - 1) 1 _ _ (by omega) (by omega) ?_ (fun j j1 j2 => absurd j2 (by omega))
    have es : stp a b = 8 * sgn (dR a b) + sgn (dF a b) := rfl
    have : stp a b * ((1 : Nat) : Int) = stp a b := Int.mul_one _
    rw [this]
    omega
  have f31 : X 31 0 0 [.int (nI a), .int (nI b), .int (nI s), .int (nI w)] [.int (iI (sgn (dF a b)))] M := by
    refine l31 _ _ _ _ _ ⟨rfl, vX12_isOpen_31 hW ?_⟩
    rw [q8 (by omega), q8 (by omega)]
    have go : ∀ z : Int32, z = iI (sgn (dR a b)) → X 64 0 0 [.int (nI a), .int (nI b), .int (nI s), .int (nI w), .int (iI (sgn (dF a b)))] [.int z] M := fun z e => by rw [e]; exact f64
    refine ⟨fun c => ⟨fun d => go _ ?_, fun d => go _ ?_⟩, fun c => go _ ?_⟩
    · have c := (nI_leI (by omega) (by omega)).mp c
      have d := (nI_leI (by omega) (by omega)).mp d
      unfold sgn dR
      rw [if_pos (by omega), if_pos (by omega)]; rfl
    · have c := (nI_leI (by omega) (by omega)).mp c
      have d : ¬ a / 8 ≤ b / 8 := fun q => d ((nI_leI (by omega) (by omega)).mpr q)
      unfold sgn dR
      rw [if_pos (by omega), if_neg (by omega)]; rfl
    · have c : ¬ b / 8 ≤ a / 8 := fun q => c ((nI_leI (by omega) (by omega)).mpr q)
      unfold sgn dR
      rw [if_neg (by omega)]; rfl
  refine l0 _ _ _ _ _ ⟨rfl, vX12_isOpen_0 hW ?_⟩
  rw [m8 (by omega), m8 (by omega)]
  have go : ∀ z : Int32, z = iI (sgn (dF a b)) → X 31 0 0 [.int (nI a), .int (nI b), .int (nI s), .int (nI w)] [.int z] M := fun z e => by rw [e]; exact f31
  refine ⟨fun c => ⟨fun d => go _ ?_, fun d => go _ ?_⟩, fun c => go _ ?_⟩
  · have c := (nI_leI (by omega) (by omega)).mp c
    have d := (nI_leI (by omega) (by omega)).mp d
    unfold sgn dF
    rw [if_pos (by omega), if_pos (by omega)]; rfl
  · have c := (nI_leI (by omega) (by omega)).mp c
    have d : ¬ a % 8 ≤ b % 8 := fun q => d ((nI_leI (by omega) (by omega)).mpr q)
    unfold sgn dF
    rw [if_pos (by omega), if_neg (by omega)]; rfl
  · have c : ¬ b % 8 ≤ a % 8 := fun q => c ((nI_leI (by omega) (by omega)).mpr q)
    unfold sgn dF
    rw [if_neg (by omega)]; rfl
theorem opn_end {a b : Nat} (ha : a < 64) (hb : b < 64) (hne : a ≠ b) (hl : dF a b = 0 ∨ dR a b = 0 ∨ aI (dF a b) = aI (dR a b)) : opn b a b := by
  intro i i1 i2 q
  obtain ⟨b1, b2⟩ := (line_of ha hb hne hl).2.2.2.2 i i1 i2
  have := stp_ne ha hb hne hl i2
  have eq : ((sqA a b i : Nat) : Int) = (a : Int) + stp a b * (i : Nat) := by unfold sqA; omega
  omega
set_option maxHeartbeats 4000000 in
theorem e_attacked {mc ms : Nat} {M : zM} (hW : zFix M) {k s p w : Nat} (k1 : 1 ≤ k) (k5 : k ≤ 5) (hs : s < 64) (hp : p < 64) (hw : w < 64) (hne : p ≠ w) {Q : zQt} (q1 : at5 k s p w → Q (some (.int 1)) M) (q0 : ¬ at5 k s p w → Q (some (.int 0)) M) : wX12_attacked mc ms [.ref 71, .int (nI k), .int (nI s), .int (nI p), .int (nI w), .int (nI w)] M Q := by
  refine ⟨⟨Nat.le_of_ble_eq_true rfl, rfl⟩, fun X l0 l59 l60 l89 l90 l101 l111 l119 l137 l138 l170 l175 l199 l200 => ?_⟩
  have fin : ∀ z : Int32, (z = 1 ∧ at5 k s p w) ∨ (z = 0 ∧ ¬ at5 k s p w) → narrow .boolean (.int z) = .int z ∧ Q (some (.int z)) M := by
    intro z h
    rcases h with ⟨e, h⟩ | ⟨e, h⟩ <;> subst e
    · exact ⟨rfl, q1 h⟩
    · exact ⟨rfl, q0 h⟩
  have f60 : ∀ z : Int32, (z = 1 ∧ at5 k s p w) ∨ (z = 0 ∧ ¬ at5 k s p w) → X 60 0 0 [] [.int z] M := fun z h => l60 _ _ _ _ _ ⟨rfl, vX12_attacked_60 hW (fin z h)⟩
  have f90 : ∀ z : Int32, (z = 1 ∧ at5 k s p w) ∨ (z = 0 ∧ ¬ at5 k s p w) → X 90 0 0 [] [.int z] M := fun z h => l90 _ _ _ _ _ ⟨rfl, vX12_attacked_90 hW (fin z h)⟩
  have f200 : ∀ z : Int32, (z = 1 ∧ at5 k s p w) ∨ (z = 0 ∧ ¬ at5 k s p w) → X 200 0 0 [] [.int z] M := fun z h => l200 _ _ _ _ _ ⟨rfl, vX12_attacked_200 hW (fin z h)⟩
  have f59 : ¬ at5 k s p w → X 59 0 0 [] [] M := fun h => l59 _ _ _ _ _ ⟨rfl, vX12_attacked_59 hW (f60 0 (Or.inr ⟨rfl, h⟩))⟩
  have f89 : ¬ at5 k s p w → X 89 0 0 [] [] M := fun h => l89 _ _ _ _ _ ⟨rfl, vX12_attacked_89 hW (f90 0 (Or.inr ⟨rfl, h⟩))⟩
  have f199 : ¬ at5 k s p w → X 199 0 0 [] [] M := fun h => l199 _ _ _ _ _ ⟨rfl, vX12_attacked_199 hW (f200 0 (Or.inr ⟨rfl, h⟩))⟩
  have kF := dF_bd (a := w) (b := p)
  have kR := dR_bd hw hp
  have jF := aI_bd kF
  have jR := aI_bd kR
  have eF : aI (dF w p) = aI (dF p w) := by rw [dF_sym, aI_neg]
  have eR : aI (dR w p) = aI (dR p w) := by rw [dR_sym, aI_neg]
  have kI : ∀ n : Nat, n < 2 ^ 31 → (nI k = nI n ↔ k = n) := fun n hn => nI_eq (by omega) hn
  refine l0 _ _ _ _ _ ⟨rfl, vX12_attacked_0 hW ?_⟩
  rw [m8 (by omega), m8 (by omega), iI_nat (p % 8), iI_nat (w % 8), iI_sub]
  refine e_amount hW (dF w p) (by omega) (by omega) ?_
  refine vkX12_attacked_13 hW ?_
  rw [q8 (by omega), q8 (by omega), iI_nat (p / 8), iI_nat (w / 8), iI_sub]
  refine e_amount hW (dR w p) (by omega) (by omega) ?_
  rw [eF, eR]
  rw [eF] at jF
  rw [eR] at jR
  have L0 : ∀ z : Int, 0 ≤ z → z < 8 → ∀ n : Nat, n < 8 → (iI z = nI n ↔ z = n) := fun z a b n hn => by rw [iI_nat]; exact iI_eq (by omega) (by omega) (by omega) (by omega)
  have LL : ∀ z : Int, 0 ≤ z → z < 8 → (iI z ≤ 0 ↔ z = 0) := fun z a b => (iI_le (a := z) (b := 0) (by omega) (by omega) (by decide) (by decide)).trans ⟨fun q => by omega, fun q => by omega⟩
  obtain ⟨x, hx⟩ : ∃ x, x = aI (dF p w) := ⟨_, rfl⟩
  obtain ⟨y, hy⟩ : ∃ y, y = aI (dR p w) := ⟨_, rfl⟩
  have zF : x = 0 ↔ dF p w = 0 := by rw [hx]; unfold aI; split <;> omega
  have zR : y = 0 ↔ dR p w = 0 := by rw [hy]; unfold aI; split <;> omega
  have nz : ¬ (x = 0 ∧ y = 0) := by
    rintro ⟨a, b⟩
    have a := zF.mp a
    have b := zR.mp b
    unfold dF at a
    unfold dR at b
    omega
  rw [← hx, ← hy]
  rw [← hx] at jF
  rw [← hy] at jR
  refine vkX12_attacked_28 hW ?_
  rw [q8 (by omega), q8 (by omega), show nI (p / 8) + (1 : Int32) = nI (p / 8 + 1) from nI_add _ 1]
  have f175 : ∀ z : Int32, (z = 1 ∧ 3 ≤ k ∧ slides k p w) ∨ (z = 0 ∧ 3 ≤ k ∧ ¬ slides k p w) → X 175 0 0 [.ref 71, .int (nI s), .int (nI p), .int (nI w), .int (nI w)] [.int z] M := by
    intro z h
    have a5 : 3 ≤ k → (at5 k s p w ↔ slides k p w ∧ opn s p w) := fun q => by
      unfold at5
      rw [if_neg (by omega), if_neg (by omega)]
      exact ⟨fun h => h.2, fun h => ⟨hne, h⟩⟩
    refine l175 _ _ _ _ _ ⟨rfl, vX12_attacked_175 hW ?_⟩
    rcases h with ⟨e, h3, h⟩ | ⟨e, h3, h⟩ <;> subst e
    · refine ⟨fun c => absurd c (by decide), fun _ => ?_⟩
      have hl : dF p w = 0 ∨ dR p w = 0 ∨ aI (dF p w) = aI (dR p w) := by
        rcases h with h | h
        · rcases h.1 with q | q
          · exact Or.inl q
          · exact Or.inr (Or.inl q)
        · exact Or.inr (Or.inr h.1)
      refine e_isOpen hW hp hw hs hw hne hl (fun g => ?_) (fun g => ?_)
      · exact vkX12_attacked_192 hW ⟨fun c => absurd c (by decide), fun _ => f200 1 (Or.inl ⟨rfl, (a5 h3).mpr ⟨h, g.1⟩⟩)⟩
      · exact vkX12_attacked_192 hW ⟨fun _ => f199 (fun g2 => g ⟨((a5 h3).mp g2).2, opn_end hp hw hne hl⟩), fun c => absurd rfl c⟩
    · exact ⟨fun _ => f199 (fun g => h ((a5 h3).mp g).1), fun c => absurd rfl c⟩
  have f170 : 3 ≤ k → slides k p w → X 170 0 0 [.ref 71, .int (nI s), .int (nI p), .int (nI w), .int (nI w)] [] M := fun h3 h => l170 _ _ _ _ _ ⟨rfl, vX12_attacked_170 hW (f175 1 (Or.inl ⟨rfl, h3, h⟩))⟩
  have st : slides k p w ↔ (x = 0 ∨ y = 0) ∧ k ≠ 3 ∨ x = y ∧ k ≠ 4 := by
    unfold slides
    rw [zF, zR, hx, hy]
  have f138 : 3 ≤ k → ∀ g a : Int32, ((g = 1 ∧ (x = 0 ∨ y = 0)) ∨ (g = 0 ∧ ¬ (x = 0 ∨ y = 0))) → ((a = 1 ∧ x = y) ∨ (a = 0 ∧ ¬ x = y)) → X 138 0 0 [.ref 71, .int (nI k), .int (nI s), .int (nI p), .int (nI w), .int (nI w), .int g] [.int a] M := by
    intro h3 g a hg ha
    refine l138 _ _ _ _ _ ⟨rfl, vX12_attacked_138 hW ⟨fun c => f175 a ?_, fun c => ⟨fun d => f175 g ?_, fun d => ⟨fun e => ⟨fun e2 => f175 0 ?_, fun e2 => f170 h3 ?_⟩, fun e => f170 h3 ?_⟩⟩⟩⟩
    · have c := (kI 3 (by decide)).mp c
      rcases ha with ⟨q, ha⟩ | ⟨q, ha⟩
      · exact Or.inl ⟨q, h3, st.mpr (Or.inr ⟨ha, by omega⟩)⟩
      · exact Or.inr ⟨q, h3, fun z => (st.mp z).elim (fun v => v.2 c) (fun v => ha v.1)⟩
    · have d := (kI 4 (by decide)).mp d
      rcases hg with ⟨q, hg⟩ | ⟨q, hg⟩
      · exact Or.inl ⟨q, h3, st.mpr (Or.inl ⟨hg, by omega⟩)⟩
      · exact Or.inr ⟨q, h3, fun z => (st.mp z).elim (fun v => hg v.1) (fun v => v.2 d)⟩
    · refine Or.inr ⟨rfl, h3, fun z => ?_⟩
      rcases hg with ⟨q, hg⟩ | ⟨q, hg⟩
      · rw [q] at e; exact absurd e (by decide)
      · rcases ha with ⟨q2, ha⟩ | ⟨q2, ha⟩
        · rw [q2] at e2; exact absurd e2 (by decide)
        · exact (st.mp z).elim (fun v => hg v.1) (fun v => ha v.1)
    · rcases ha with ⟨q2, ha⟩ | ⟨q2, ha⟩
      · exact st.mpr (Or.inr ⟨ha, fun q => d ((kI 4 (by decide)).mpr q)⟩)
      · exact absurd q2 e2
    · rcases hg with ⟨q2, hg⟩ | ⟨q2, hg⟩
      · exact st.mpr (Or.inl ⟨hg, fun q => c ((kI 3 (by decide)).mpr q)⟩)
      · exact absurd q2 e
  have f119 : 3 ≤ k → ∀ g : Int32, ((g = 1 ∧ (x = 0 ∨ y = 0)) ∨ (g = 0 ∧ ¬ (x = 0 ∨ y = 0))) → X 119 0 0 [.ref 71, .int (nI k), .int (nI s), .int (nI p), .int (nI w), .int (nI w), .int (iI x), .int (iI y)] [.int g] M := by
    intro h3 g hg
    have f137 : ¬ x = y → X 137 0 0 [.ref 71, .int (nI k), .int (nI s), .int (nI p), .int (nI w), .int (nI w), .int g] [] M := fun q => l137 _ _ _ _ _ ⟨rfl, vX12_attacked_137 hW (f138 h3 g 0 hg (Or.inr ⟨rfl, q⟩))⟩
    refine l119 _ _ _ _ _ ⟨rfl, vX12_attacked_119 hW ⟨fun c => ⟨fun d => ?_, fun d => f138 h3 g 1 hg (Or.inl ⟨rfl, ?_⟩)⟩, fun c => f137 (fun q => c (by rw [q]))⟩⟩
    · have c := (iI_eq (by omega) (by omega) (by omega) (by omega)).mp c
      have d := (LL x jF.1 jF.2).mp d
      exact absurd ⟨d, by omega⟩ nz
    · exact (iI_eq (by omega) (by omega) (by omega) (by omega)).mp c
  have f111 : 3 ≤ k → ∀ u v : Int32, ((u = 1 ∧ y = 0) ∨ (u = 0 ∧ ¬ y = 0)) → ((v = 1 ∧ x = 0) ∨ (v = 0 ∧ ¬ x = 0)) → X 111 0 0 [.ref 71, .int (nI k), .int (nI s), .int (nI p), .int (nI w), .int (nI w), .int (iI x), .int (iI y)] [.int u, .int v] M := by
    intro h3 u v hu hv
    refine l111 _ _ _ _ _ ⟨rfl, vX12_attacked_111 hW ⟨fun c => f119 h3 0 (Or.inr ⟨rfl, ?_⟩), fun c => f119 h3 1 (Or.inl ⟨rfl, ?_⟩)⟩⟩
    · rcases hu with ⟨e, hu⟩ | ⟨e, hu⟩ <;> rcases hv with ⟨e2, hv⟩ | ⟨e2, hv⟩
      · exact fun _ => nz ⟨hv, hu⟩
      · rw [e, e2] at c; exact absurd c (by decide)
      · rw [e, e2] at c; exact absurd c (by decide)
      · exact fun z => z.elim hv hu
    · rcases hu with ⟨e, hu⟩ | ⟨e, hu⟩ <;> rcases hv with ⟨e2, hv⟩ | ⟨e2, hv⟩
      · exact Or.inl hv
      · exact Or.inr hu
      · exact Or.inl hv
      · rw [e, e2] at c; exact absurd rfl c
  have f101 : 3 ≤ k → ∀ v : Int32, ((v = 1 ∧ x = 0) ∨ (v = 0 ∧ ¬ x = 0)) → X 101 0 0 [.ref 71, .int (nI k), .int (nI s), .int (nI p), .int (nI w), .int (nI w), .int (iI x), .int (iI y)] [.int v] M := fun h3 v hv =>
    l101 _ _ _ _ _ ⟨rfl, vX12_attacked_101 hW ⟨fun c => f111 h3 1 v (Or.inl ⟨rfl, (L0 y jR.1 jR.2 0 (by decide)).mp c⟩) hv, fun c => f111 h3 0 v (Or.inr ⟨rfl, fun q => c ((L0 y jR.1 jR.2 0 (by decide)).mpr q)⟩) hv⟩⟩
  refine ⟨fun c => ?_, fun c => ⟨fun d => ?_, fun d => ?_⟩⟩
  · have c := (kI 1 (by decide)).mp c
    have a1 : at5 k s p w ↔ x = 1 ∧ dR p w = 1 := by unfold at5; rw [if_pos c, hx]
    refine ⟨fun d => ⟨fun e => f60 1 (Or.inl ⟨rfl, a1.mpr ⟨(L0 x jF.1 jF.2 1 (by decide)).mp d, ?_⟩⟩), fun e => f59 (fun h => e ?_)⟩, fun d => f59 (fun h => d ((L0 x jF.1 jF.2 1 (by decide)).mpr (a1.mp h).1))⟩
    · have e := (nI_eq (by omega) (by omega)).mp e
      unfold dR; omega
    · have := (a1.mp h).2
      unfold dR at this
      rw [show w / 8 = p / 8 + 1 by omega]
  · have d := (kI 2 (by decide)).mp d
    have a2 : at5 k s p w ↔ x + y = 3 ∧ ¬ x = 0 ∧ ¬ y = 0 := by
      unfold at5
      rw [if_neg (by omega), if_pos d]
      unfold knG
      rw [← hx, ← hy]
      have : x = 0 ∨ x = 1 ∨ x = 2 ∨ x = 3 ∨ x = 4 ∨ x = 5 ∨ x = 6 ∨ x = 7 := by omega
      rcases this with e | e | e | e | e | e | e | e <;> rw [e] <;> omega
    rw [iI_add]
    have e3 : iI (x + y) = (3 : Int32) ↔ x + y = 3 := iI_eq (a := x + y) (b := 3) (by omega) (by omega) (by decide) (by decide)
    refine ⟨fun e => ⟨fun g => f89 (fun h => (a2.mp h).2.1 ((LL x jF.1 jF.2).mp g)), fun g => ⟨fun i => f89 (fun h => (a2.mp h).2.2 ((LL y jR.1 jR.2).mp i)), fun i => f90 1 (Or.inl ⟨rfl, a2.mpr ⟨e3.mp e, fun q => g ((LL x jF.1 jF.2).mpr q), fun q => i ((LL y jR.1 jR.2).mpr q)⟩⟩)⟩⟩, fun e => f89 (fun h => e (e3.mpr (a2.mp h).1))⟩
  · have h3 : 3 ≤ k := by
      have c : ¬ k = 1 := fun q => c ((kI 1 (by decide)).mpr q)
      have d : ¬ k = 2 := fun q => d ((kI 2 (by decide)).mpr q)
      omega
    exact ⟨fun e => f101 h3 1 (Or.inl ⟨rfl, (L0 x jF.1 jF.2 0 (by decide)).mp e⟩), fun e => f101 h3 0 (Or.inr ⟨rfl, fun q => e ((L0 x jF.1 jF.2 0 (by decide)).mpr q)⟩)⟩
set_option maxHeartbeats 4000000 in
theorem e_isPosition {mc ms : Nat} {M : zM} (hW : zFix M) {k s p w : Nat} {sm : Bool} (k1 : 1 ≤ k) (k5 : k ≤ 5) (hs : s < 64) (hp : p < 64) (hw : w < 64) {Q : zQt} (q1 : pos5 k s p w sm → Q (some (.int 1)) M) (q0 : ¬ pos5 k s p w sm → Q (some (.int 0)) M) : wX12_isPosition mc ms [.ref 71, .int (nI k), .int (nI s), .int (nI p), .int (nI w), .int (bI sm)] M Q := by
  refine ⟨⟨Nat.le_of_ble_eq_true rfl, rfl⟩, fun X l0 l27 l50 l52 l71 l76 => ?_⟩
  have f76 : ∀ z : Int32, (z = 1 ∧ pos5 k s p w sm) ∨ (z = 0 ∧ ¬ pos5 k s p w sm) → X 76 0 0 [] [.int z] M := by
    intro z h
    refine l76 _ _ _ _ _ ⟨rfl, vX12_isPosition_76 hW ?_⟩
    rcases h with ⟨e, h⟩ | ⟨e, h⟩ <;> subst e
    · exact ⟨rfl, q1 h⟩
    · exact ⟨rfl, q0 h⟩
  have f71 : pos5 k s p w sm → X 71 0 0 [] [] M := fun h => l71 _ _ _ _ _ ⟨rfl, vX12_isPosition_71 hW (f76 1 (Or.inl ⟨rfl, h⟩))⟩
  have f50 : ¬ pos5 k s p w sm → X 50 0 0 [] [] M := fun h => l50 _ _ _ _ _ ⟨rfl, vX12_isPosition_50 hW (q0 h)⟩
  have f27 : ¬ pos5 k s p w sm → X 27 0 0 [] [] M := fun h => l27 _ _ _ _ _ ⟨rfl, vX12_isPosition_27 hW (q0 h)⟩
  have eq : ∀ {a b : Nat}, a < 64 → b < 64 → (nI a = nI b ↔ a = b) := fun ha hb => nI_eq (by omega) (by omega)
  refine l0 _ _ _ _ _ ⟨rfl, vX12_isPosition_0 hW ⟨fun c => f27 (fun h => h.1 ((eq hs hp).mp c)), fun c => ⟨fun d => f27 (fun h => h.2.1 ((eq hs hw).mp d)), fun d => ⟨fun e => f27 (fun h => h.2.2.1 ((eq hp hw).mp e)), fun e => ?_⟩⟩⟩⟩
  have n1 : s ≠ p := fun q => c ((eq hs hp).mpr q)
  have n2 : s ≠ w := fun q => d ((eq hs hw).mpr q)
  have n3 : p ≠ w := fun q => e ((eq hp hw).mpr q)
  refine e_beside hW hs hw (fun g => ?_) (fun g => ?_)
  · exact vkX12_isPosition_24 hW ⟨fun z => absurd z (by decide), fun _ => f27 (fun h => h.2.2.2.1 g)⟩
  refine vkX12_isPosition_24 hW ⟨fun _ => ?_, fun z => absurd rfl z⟩
  have f52 : (k = 1 → p / 8 ≠ 0 ∧ p / 8 ≠ 7) → X 52 0 0 [.ref 71, .int (nI k), .int (nI s), .int (nI p), .int (nI w), .int (bI sm)] [] M := by
    intro h1
    refine l52 _ _ _ _ _ ⟨rfl, vX12_isPosition_52 hW ⟨fun z => f71 ⟨n1, n2, n3, g, h1, fun q => ?_⟩, fun z => ?_⟩⟩
    · rw [q] at z; exact absurd z (by decide)
    · have hsm : sm = true := by
        cases sm
        · exact absurd rfl z
        · rfl
      refine e_attacked hW k1 k5 hs hp hw n3 (fun a => ?_) (fun a => ?_)
      · exact vkX12_isPosition_68 hW ⟨fun q => absurd q (by decide), fun _ => f76 0 (Or.inr ⟨rfl, fun h => h.2.2.2.2.2 hsm a⟩)⟩
      · exact vkX12_isPosition_68 hW ⟨fun _ => f71 ⟨n1, n2, n3, g, h1, fun _ => a⟩, fun q => absurd rfl q⟩
  rw [q8 (by omega)]
  refine ⟨fun z => ?_, fun z => f52 (fun q => absurd (by rw [q]; rfl) z)⟩
  have hk1 : k = 1 := (nI_eq (a := k) (b := 1) (by omega) (by decide)).mp z
  refine ⟨fun y => f50 (fun h => (h.2.2.2.2.1 hk1).1 ((nI_eq (b := 0) (by omega) (by decide)).mp y)), fun y => ⟨fun v => f50 (fun h => (h.2.2.2.2.1 hk1).2 ((nI_eq (b := 7) (by omega) (by decide)).mp v)), fun v => f52 (fun _ => ⟨fun q => y (by rw [q]; rfl), fun q => v (by rw [q]; rfl)⟩)⟩⟩
