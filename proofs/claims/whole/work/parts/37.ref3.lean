/-! castling -/
def cst (P : Ps) (a b : Nat) : Prop := a = 4 + 56 * P.2.1 ∧
  ((b = a + 2 ∧ P.2.2.1 / 4 ^ P.2.1 % 2 = 1 ∧ P.1 (a + 3) = 4 + 6 * P.2.1 ∧ ∀ t, a + 1 ≤ t → t < a + 3 → P.1 t = 0) ∨ (b + 2 = a ∧ P.2.2.1 / (2 * 4 ^ P.2.1) % 2 = 1 ∧ P.1 (a - 4) = 4 + 6 * P.2.1 ∧ ∀ t, a - 3 ≤ t → t < a → P.1 t = 0)) ∧ ¬ atk P.1 a (1 - P.2.1) ∧ ¬ atk P.1 ((a + b) / 2) (1 - P.2.1)
theorem bit16 : ∀ r, r < 16 → ∀ w ∈ [1, 2, 4, 8], (nI r &&& nI w = 0 ↔ ¬ r / w % 2 = 1) := by decide +kernel
set_option maxHeartbeats 4000000 in
theorem c_castles {mc ms : Nat} {M : zM} (hW : zFix M) {p : Nat} {P : Ps} (hP : rPs M p P) (hp : p + 69 ≤ 414) {a b : Nat} (ha : a < 64) (hb : b < 64) {Q : zQt} (q1 : cst P a b → Q (some (.int 1)) M) (q0 : ¬ cst P a b → Q (some (.int 0)) M) : wX13_castles mc ms [.ref 55, .int (nI p), .int (nI a), .int (nI b)] M Q := by
  obtain ⟨hB, ⟨hS, hS1⟩, ⟨hR, hR16⟩, -, -, -, -⟩ := hP
  obtain ⟨c, hc⟩ : ∃ c, c = P.2.1 := ⟨_, rfl⟩
  obtain ⟨hm, hhm⟩ : ∃ h, h = 4 + 56 * c := ⟨_, rfl⟩
  have hc1 : c ≤ 1 := by rw [hc]; exact hS1
  refine ⟨⟨Nat.le_of_ble_eq_true rfl, rfl⟩, fun X l0 l42 l44 l55 l67 l90 l130 l131 l151 l153 l167 l188 l189 l238 l239 => ?_⟩
  have f42 : ¬ cst P a b → X 42 0 0 [] [] M := fun h => l42 _ _ _ _ _ ⟨rfl, vX13_castles_42 hW (q0 h)⟩
  have f239 : ∀ z : Int32, (z = 1 ∧ cst P a b) ∨ (z = 0 ∧ ¬ cst P a b) → X 239 0 0 [] [.int z] M := by
    intro z h
    rcases h with ⟨e, h⟩ | ⟨e, h⟩ <;> subst e
    · exact l239 _ _ _ _ _ ⟨rfl, vX13_castles_239 hW ⟨rfl, q1 h⟩⟩
    · exact l239 _ _ _ _ _ ⟨rfl, vX13_castles_239 hW ⟨rfl, q0 h⟩⟩
  have f238 : ¬ cst P a b → X 238 0 0 [] [] M := fun h => l238 _ _ _ _ _ ⟨rfl, vX13_castles_238 hW (f239 0 (Or.inr ⟨rfl, h⟩))⟩
  -- the squares between, and what is attacked
  have f153 : ∀ (cn lo hi : Nat) (C0 : Prop), cn < 64 → (∀ s, s < hi ↔ s < hm ∨ s < cn) → hi ≤ 64 → ((C0 ∧ ∀ t, lo ≤ t → t < hi → P.1 t = 0) ∧ ¬ atk P.1 hm (1 - c) ∧ ¬ atk P.1 ((hm + b) / 2) (1 - c) ↔ cst P a b) →
      ∀ (n s : Nat), s + n = hi → lo ≤ s → ∀ z : Int32, (z = 1 ∧ (C0 ∧ ∀ t, lo ≤ t → t < s → P.1 t = 0)) ∨ (z = 0 ∧ ¬ (C0 ∧ ∀ t, lo ≤ t → t < s → P.1 t = 0)) → X 153 0 0 [.ref 55, .int (nI p), .int (nI b), .int (nI c), .int (nI hm), .int (nI cn), .int z, .int (nI s)] [] M := by
    intro cn lo hi C0 hcn hit hi64 hres n
    induction n with
    | zero =>
      intro s hs hlo z hz
      obtain rfl : s = hi := by omega
      have h9 : ¬ (s < hm ∨ s < cn) := fun q => absurd ((hit s).mpr q) (by omega)
      refine l153 _ _ _ _ _ ⟨rfl, vX13_castles_153 hW ⟨fun d => absurd ((nI_ltI (by omega) (by omega)).mp d) (fun q => h9 (Or.inl q)), fun _ => ⟨fun _ => ?_, fun d => absurd ((nI_leI (by omega) (by omega)).mpr (by omega)) d⟩⟩⟩
      refine ⟨fun d => f238 (fun h => ?_), fun d => ?_⟩
      · rcases hz with ⟨e, -⟩ | ⟨-, q⟩
        · rw [e] at d; exact absurd d (by decide)
        · exact q (hres.mpr h).1
      · rcases hz with ⟨-, q⟩ | ⟨e, -⟩
        · rw [show (1 : Int32) - nI c = nI (1 - c) from pk_sub (a := 1) (b := c) hc1]
          refine c_isAttacked hW hB (by omega) (by omega) (by omega) (fun t => ?_) (fun t => ?_)
          · exact vkX13_castles_213 hW ⟨fun y => absurd y (by decide), fun _ => f238 (fun h => (hres.mpr h).2.1 t)⟩
          · refine vkX13_castles_213 hW ⟨fun _ => ?_, fun y => absurd rfl y⟩
            rw [nI_add, show nI (hm + b) / (2 : Int32) = nI ((hm + b) / 2) from pk_div (d := 2) (by omega) (by decide) (by decide), show (1 : Int32) - nI c = nI (1 - c) from pk_sub (a := 1) (b := c) hc1]
            refine c_isAttacked hW hB (by omega) (by omega) (by omega) (fun t2 => ?_) (fun t2 => ?_)
            · exact vkX13_castles_231 hW ⟨fun y => absurd y (by decide), fun _ => f238 (fun h => (hres.mpr h).2.2 t2)⟩
            · exact vkX13_castles_231 hW ⟨fun _ => f239 1 (Or.inl ⟨rfl, hres.mp ⟨q, t, t2⟩⟩), fun y => absurd rfl y⟩
        · exact absurd e d
    | succ n ih =>
      intro s hs hlo z hz
      have hsl : s < hi := by omega
      obtain ⟨hBs, hBsm⟩ := hB s (by omega)
      have ez : nI (P.1 s) = 0 ↔ P.1 s = 0 := nI_eq (b := 0) (by omega) (by decide)
      have f189 : ∀ y : Int32, (y = 1 ∧ (C0 ∧ ∀ t, lo ≤ t → t < s + 1 → P.1 t = 0)) ∨ (y = 0 ∧ ¬ (C0 ∧ ∀ t, lo ≤ t → t < s + 1 → P.1 t = 0)) → X 189 0 0 [.ref 55, .int (nI p), .int (nI b), .int (nI c), .int (nI hm), .int (nI cn), .int (nI s)] [.int y] M := by
        intro y hy
        refine l189 _ _ _ _ _ ⟨rfl, vX13_castles_189 hW ?_⟩
        rw [nI_1]
        exact ih (s + 1) (by omega) (by omega) y hy
      have f188 : ¬ (C0 ∧ ∀ t, lo ≤ t → t < s + 1 → P.1 t = 0) → X 188 0 0 [.ref 55, .int (nI p), .int (nI b), .int (nI c), .int (nI hm), .int (nI cn), .int (nI s)] [] M := fun h => l188 _ _ _ _ _ ⟨rfl, vX13_castles_188 hW (f189 0 (Or.inr ⟨rfl, h⟩))⟩
      have f167 : X 167 0 0 [.ref 55, .int (nI p), .int (nI b), .int (nI c), .int (nI hm), .int (nI cn), .int z, .int (nI s)] [] M := by
        refine l167 _ _ _ _ _ ⟨rfl, vX13_castles_167 hW ⟨fun d => f188 (fun h => ?_), fun d => ?_⟩⟩
        · rcases hz with ⟨e, -⟩ | ⟨-, q⟩
          · rw [e] at d; exact absurd d (by decide)
          · exact q ⟨h.1, fun t h1 h2 => h.2 t h1 (by omega)⟩
        · rcases hz with ⟨-, q⟩ | ⟨e, -⟩
          · rw [nI_add, nI_clamp (by omega), hBs]
            refine ⟨vp_in_nI (by omega) (by omega), fun d2 => f189 1 (Or.inl ⟨rfl, q.1, fun t h1 h2 => ?_⟩), fun d2 => f188 (fun h => d2 (ez.mpr (h.2 s hlo (by omega))))⟩
            rcases (show t < s ∨ t = s by omega) with r | r
            · exact q.2 t h1 r
            · rw [r]; exact ez.mp d2
          · exact absurd e d
      refine l153 _ _ _ _ _ ⟨rfl, vX13_castles_153 hW ⟨fun _ => f167, fun d => ⟨fun d2 => ?_, fun _ => f167⟩⟩⟩
      exfalso
      rcases (hit s).mp hsl with r | r
      · exact d ((nI_ltI (by omega) (by omega)).mpr r)
      · have := (nI_leI (a := cn) (b := s) (by omega) (by omega)).mp d2
        omega
  -- from the right on
  have f90 : ∀ (cn lo hi w : Nat), cn < 64 → cn ≠ hm → w ∈ [1, 2, 4, 8] → (cn ≤ hm → lo = cn + 1 ∧ hi = hm) → (¬ cn ≤ hm → lo = hm + 1 ∧ hi = cn) → (((P.2.2.1 / w % 2 = 1 ∧ P.1 cn = 4 + 6 * c) ∧ ∀ t, lo ≤ t → t < hi → P.1 t = 0) ∧ ¬ atk P.1 hm (1 - c) ∧ ¬ atk P.1 ((hm + b) / 2) (1 - c) ↔ cst P a b) →
      X 90 0 0 [.ref 55, .int (nI p), .int (nI b), .int (nI c), .int (nI hm), .int (nI w)] [.int (nI cn)] M := by
    intro cn lo hi w hcn hcne hw h1 h2 hres
    obtain ⟨hBc, hBcm⟩ := hB cn hcn
    have hw9 : w < 9 := by
      simp only [List.mem_cons, List.not_mem_nil, or_false] at hw
      omega
    have f131 : ∀ z : Int32, (z = 1 ∧ (P.2.2.1 / w % 2 = 1 ∧ P.1 cn = 4 + 6 * c)) ∨ (z = 0 ∧ ¬ (P.2.2.1 / w % 2 = 1 ∧ P.1 cn = 4 + 6 * c)) → X 131 0 0 [.ref 55, .int (nI p), .int (nI b), .int (nI c), .int (nI hm), .int (nI cn)] [.int z] M := by
      intro z hz
      have go : ∀ y : Nat, y = lo → X 151 0 0 [.ref 55, .int (nI p), .int (nI b), .int (nI c), .int (nI hm), .int (nI cn), .int z] [.int (nI y)] M := by
        intro y hy
        subst hy
        refine l151 _ _ _ _ _ ⟨rfl, vX13_castles_151 hW ?_⟩
        have hlohi : y ≤ hi := by
          rcases Nat.lt_or_ge hm cn with q | q
          · have := h2 (by omega); omega
          · have := h1 q; omega
        refine f153 cn y hi _ hcn (fun s => ?_) ?_ hres (hi - y) y (by omega) (by omega) z ?_
        · rcases Nat.lt_or_ge hm cn with q | q
          · have := h2 (by omega); omega
          · have := h1 q; omega
        · rcases Nat.lt_or_ge hm cn with q | q
          · have := h2 (by omega); omega
          · have := h1 q; omega
        · rcases hz with ⟨e, q⟩ | ⟨e, q⟩
          · exact Or.inl ⟨e, q, fun t h3 h4 => by omega⟩
          · exact Or.inr ⟨e, fun r => q r.1⟩
      refine l131 _ _ _ _ _ ⟨rfl, vX13_castles_131 hW ⟨fun d => ?_, fun d => ?_⟩⟩
      · have := (nI_leI (by omega) (by omega)).mp d
        rw [nI_1]
        exact go _ (h1 this).1.symm
      · have : ¬ cn ≤ hm := fun q => d ((nI_leI (by omega) (by omega)).mpr q)
        rw [nI_1]
        exact go _ (h2 this).1.symm
    have f130 : ¬ (P.2.2.1 / w % 2 = 1 ∧ P.1 cn = 4 + 6 * c) → X 130 0 0 [.ref 55, .int (nI p), .int (nI b), .int (nI c), .int (nI hm), .int (nI cn)] [] M := fun h => l130 _ _ _ _ _ ⟨rfl, vX13_castles_130 hW (f131 0 (Or.inr ⟨rfl, h⟩))⟩
    refine l90 _ _ _ _ _ ⟨rfl, vX13_castles_90 hW ?_⟩
    rw [show nI p + (65 : Int32) = nI (p + 65) from nI_add p 65, nI_clamp (by omega), hR]
    have eb := bit16 P.2.2.1 hR16 w hw
    refine ⟨vp_in_nI (by omega) (by omega), fun d => f130 (fun h => eb.mp d h.1), fun d => ?_⟩
    have hbit : P.2.2.1 / w % 2 = 1 := by
      rcases Nat.lt_or_ge (P.2.2.1 / w % 2) 1 with q | q
      · exact absurd (eb.mpr (by omega)) d
      · omega
    rw [nI_add, nI_clamp (by omega), hBc, show (6 : Int32) * nI c = nI (6 * c) from pk_mul 6 c, show (4 : Int32) + nI (6 * c) = nI (4 + 6 * c) from nI_add 4 _]
    have ec : nI (P.1 cn) = nI (4 + 6 * c) ↔ P.1 cn = 4 + 6 * c := nI_eq (by omega) (by omega)
    exact ⟨vp_in_nI (by omega) (by omega), fun d2 => f131 1 (Or.inl ⟨rfl, hbit, ec.mp d2⟩), fun d2 => f130 (fun h => d2 (ec.mpr h.2))⟩
  have f44 : a = hm → (b = hm + 2 ∨ b + 2 = hm) → X 44 0 0 [.ref 55, .int (nI p), .int (nI b), .int (nI c), .int (nI hm)] [] M := by
    intro hah hbb
    refine l44 _ _ _ _ _ ⟨rfl, vX13_castles_44 hW ⟨fun d => ?_, fun d => ?_⟩⟩
    · have hle := (nI_leI (by omega) (by omega)).mp d
      have hb2 : b + 2 = hm := by omega
      refine l55 _ _ _ _ _ ⟨rfl, vX13_castles_55 hW ⟨fun _ => ?_, fun y => absurd rfl y⟩⟩
      refine l67 _ _ _ _ _ ⟨rfl, vX13_castles_67 hW (fun y72 e72 => ?_)⟩
      refine ⟨fun _ => ?_, fun y => absurd rfl y⟩
      rw [show nI hm - (4 : Int32) = nI (hm - 4) from pk_sub (b := 4) (by omega)]
      have hw : y72 = nI (2 * 4 ^ c) := by
        rw [e72]
        rcases (show c = 0 ∨ c = 1 by omega) with q | q <;> rw [q] <;> decide
      rw [hw]
      refine f90 (hm - 4) (hm - 3) hm (2 * 4 ^ c) (by omega) (by omega) (by rcases (show c = 0 ∨ c = 1 by omega) with q | q <;> rw [q] <;> decide) (fun _ => by omega) (fun q => by omega) ?_
      unfold cst
      rw [← hc, ← hhm]
      constructor
      · rintro ⟨⟨⟨r1, r2⟩, r3⟩, r4, r5⟩
        exact ⟨hah, Or.inr ⟨by omega, r1, by rw [hah]; exact r2, by rw [hah]; exact r3⟩, by rw [hah]; exact r4, by rw [hah]; exact r5⟩
      · rintro ⟨-, r | ⟨-, r1, r2, r3⟩, r4, r5⟩
        · omega
        · rw [hah] at r2 r3 r4 r5
          exact ⟨⟨⟨r1, r2⟩, r3⟩, r4, r5⟩
    · have hle : ¬ b ≤ hm := fun q => d ((nI_leI (by omega) (by omega)).mpr q)
      have hb2 : b = hm + 2 := by omega
      refine l55 _ _ _ _ _ ⟨rfl, vX13_castles_55 hW ⟨fun y => absurd y (by decide), fun _ => ?_⟩⟩
      refine l67 _ _ _ _ _ ⟨rfl, vX13_castles_67 hW (fun y72 e72 => ?_)⟩
      refine ⟨fun y => absurd y (by decide), fun _ => ?_⟩
      rw [show nI hm + (3 : Int32) = nI (hm + 3) from nI_add hm 3]
      have hw : y72 = nI (4 ^ c) := by
        rw [e72]
        rcases (show c = 0 ∨ c = 1 by omega) with q | q <;> rw [q] <;> decide
      rw [hw]
      refine f90 (hm + 3) (hm + 1) (hm + 3) (4 ^ c) (by omega) (by omega) (by rcases (show c = 0 ∨ c = 1 by omega) with q | q <;> rw [q] <;> decide) (fun q => by omega) (fun _ => by omega) ?_
      unfold cst
      rw [← hc, ← hhm]
      constructor
      · rintro ⟨⟨⟨r1, r2⟩, r3⟩, r4, r5⟩
        exact ⟨hah, Or.inl ⟨by omega, r1, by rw [hah]; exact r2, by rw [hah]; exact r3⟩, by rw [hah]; exact r4, by rw [hah]; exact r5⟩
      · rintro ⟨-, ⟨-, r1, r2, r3⟩ | r, r4, r5⟩
        · rw [hah] at r2 r3 r4 r5
          exact ⟨⟨⟨r1, r2⟩, r3⟩, r4, r5⟩
        · omega
  refine l0 _ _ _ _ _ ⟨rfl, vX13_castles_0 hW ?_⟩
  rw [show nI p + (64 : Int32) = nI (p + 64) from nI_add p 64, nI_clamp (by omega), hS, ← hc]
  refine ⟨vp_in_nI (by omega) (by omega), fun y9 e9 y18 e18 => ?_⟩
  subst e9
  rw [show (56 : Int32) * nI c = nI (56 * c) from pk_mul 56 c, show (4 : Int32) + nI (56 * c) = nI (4 + 56 * c) from nI_add 4 _, ← hhm] at e18
  subst e18
  have no : ¬ (a = hm ∧ (b = hm + 2 ∨ b + 2 = hm)) → ¬ cst P a b := by
    intro h q
    unfold cst at q
    rw [← hc, ← hhm] at q
    obtain ⟨r1, r2, -⟩ := q
    refine h ⟨r1, ?_⟩
    rcases r2 with ⟨r, -⟩ | ⟨r, -⟩
    · left; omega
    · right; omega
  have ea : nI a = nI hm ↔ a = hm := nI_eq (by omega) (by omega)
  rw [show nI hm + (2 : Int32) = nI (hm + 2) from nI_add hm 2, show nI hm - (2 : Int32) = nI (hm - 2) from pk_sub (b := 2) (by omega)]
  have eb1 : nI b = nI (hm + 2) ↔ b = hm + 2 := nI_eq (by omega) (by omega)
  have eb2 : nI b = nI (hm - 2) ↔ b = hm - 2 := nI_eq (by omega) (by omega)
  refine ⟨fun d => ⟨fun d2 => f44 (ea.mp d) (Or.inl (eb1.mp d2)), fun d2 => ⟨fun d3 => f44 (ea.mp d) (Or.inr (by have := eb2.mp d3; omega)), fun d3 => f42 (no ?_)⟩⟩, fun d => f42 (no (fun q => d (ea.mpr q.1)))⟩
  rintro ⟨-, r | r⟩
  · exact d2 (eb1.mpr r)
  · exact d3 (eb2.mpr (by omega))
/-- a man goes so, its own king aside -/
def gos (P : Ps) (a b : Nat) : Prop := sdI (P.1 a) = P.2.1 ∧ sdI (P.1 b) ≠ P.2.1 ∧ kd (P.1 b) ≠ 6 ∧ (kd (P.1 a) = 1 → pgo P a b) ∧ (kd (P.1 a) ≠ 1 → att P.1 a b ∨ (kd (P.1 a) = 6 ∧ cst P a b))
set_option maxHeartbeats 4000000 in
theorem c_goes {mc ms : Nat} {M : zM} (hW : zFix M) {p : Nat} {P : Ps} (hP : rPs M p P) (hp : p + 69 ≤ 414) {a b : Nat} (ha : a < 64) (hb : b < 64) {Q : zQt} (q1 : gos P a b → Q (some (.int 1)) M) (q0 : ¬ gos P a b → Q (some (.int 0)) M) : wX13_goes mc ms [.ref 55, .int (nI p), .int (nI a), .int (nI b)] M Q := by
  have hP0 := hP
  obtain ⟨hB, ⟨hS, hS1⟩, -, -, -, -, -⟩ := hP
  obtain ⟨hBa, hBam⟩ := hB a ha
  obtain ⟨hBb, hBbm⟩ := hB b hb
  refine ⟨⟨Nat.le_of_ble_eq_true rfl, rfl⟩, fun X l0 l61 l113 l117 l118 => ?_⟩
  have f61 : ¬ gos P a b → X 61 0 0 [] [] M := fun h => l61 _ _ _ _ _ ⟨rfl, vX13_goes_61 hW (q0 h)⟩
  have f118 : ∀ z : Int32, (z = 1 ∧ gos P a b) ∨ (z = 0 ∧ ¬ gos P a b) → X 118 0 0 [] [.int z] M := by
    intro z h
    rcases h with ⟨e, h⟩ | ⟨e, h⟩ <;> subst e
    · exact l118 _ _ _ _ _ ⟨rfl, vX13_goes_118 hW ⟨rfl, q1 h⟩⟩
    · exact l118 _ _ _ _ _ ⟨rfl, vX13_goes_118 hW ⟨rfl, q0 h⟩⟩
  have f113 : gos P a b → X 113 0 0 [] [] M := fun h => l113 _ _ _ _ _ ⟨rfl, vX13_goes_113 hW (f118 1 (Or.inl ⟨rfl, h⟩))⟩
  have f117 : ¬ gos P a b → X 117 0 0 [] [] M := fun h => l117 _ _ _ _ _ ⟨rfl, vX13_goes_117 hW (f118 0 (Or.inr ⟨rfl, h⟩))⟩
  have sa := sdI_bd (P.1 a)
  have sb := sdI_bd (P.1 b)
  have esa : iI (sdI (P.1 a)) = nI P.2.1 ↔ sdI (P.1 a) = P.2.1 := by rw [iI_nat]; exact iI_eq (by omega) (by omega) (by omega) (by omega)
  have esb : iI (sdI (P.1 b)) = nI P.2.1 ↔ sdI (P.1 b) = P.2.1 := by rw [iI_nat]; exact iI_eq (by omega) (by omega) (by omega) (by omega)
  have kla := kd_le hBam
  have klb := kd_le hBbm
  have ekb : nI (kd (P.1 b)) = (6 : Int32) ↔ kd (P.1 b) = 6 := nI_eq (b := 6) (by omega) (by decide)
  have ek1 : nI (kd (P.1 a)) = (1 : Int32) ↔ kd (P.1 a) = 1 := nI_eq (b := 1) (by omega) (by decide)
  have ek6 : nI (kd (P.1 a)) = (6 : Int32) ↔ kd (P.1 a) = 6 := nI_eq (b := 6) (by omega) (by decide)
  refine l0 _ _ _ _ _ ⟨rfl, vX13_goes_0 hW ?_⟩
  rw [show nI p + (64 : Int32) = nI (p + 64) from nI_add p 64, nI_add p a, nI_add p b, nI_clamp (by omega), nI_clamp (by omega), nI_clamp (by omega), hS, hBa, hBb]
  refine ⟨vp_in_nI (by omega) (by omega), fun y9 e9 => ⟨vp_in_nI (by omega) (by omega), fun y19 e19 => ⟨vp_in_nI (by omega) (by omega), fun y29 e29 => ?_⟩⟩⟩
  subst e9
  subst e19
  subst e29
  refine c_sideOf hW _ (by omega) ?_
  refine vkX13_goes_36 hW ⟨fun d1 => ?_, fun d1 => f61 (fun h => d1 (esa.mpr h.1))⟩
  refine c_sideOf hW _ (by omega) ?_
  refine vkX13_goes_46 hW ⟨fun d2 => f61 (fun h => h.2.1 (esb.mp d2)), fun d2 => ?_⟩
  refine c_kindOf hW _ (by omega) ?_
  refine vkX13_goes_56 hW ⟨fun d3 => f61 (fun h => h.2.2.1 (ekb.mp d3)), fun d3 => ?_⟩
  refine c_kindOf hW _ (by omega) ?_
  have h1 := esa.mp d1
  have h2 : sdI (P.1 b) ≠ P.2.1 := fun q => d2 (esb.mpr q)
  have h3 : kd (P.1 b) ≠ 6 := fun q => d3 (ekb.mpr q)
  refine vkX13_goes_68 hW ⟨fun d4 => ?_, fun d4 => ?_⟩
  · have k1 := ek1.mp d4
    have base : gos P a b ↔ pgo P a b := ⟨fun h => h.2.2.2.1 k1, fun h => ⟨h1, h2, h3, fun _ => h, fun q => absurd k1 q⟩⟩
    refine c_pawnGoes hW hP0 hp ha hb (fun t => ?_) (fun t => ?_)
    · exact vkX13_goes_83 hW (f118 1 (Or.inl ⟨rfl, base.mpr t⟩))
    · exact vkX13_goes_83 hW (f118 0 (Or.inr ⟨rfl, fun h => t (base.mp h)⟩))
  · have k1 : kd (P.1 a) ≠ 1 := fun q => d4 (ek1.mpr q)
    have base : gos P a b ↔ att P.1 a b ∨ (kd (P.1 a) = 6 ∧ cst P a b) := ⟨fun h => h.2.2.2.2 k1, fun h => ⟨h1, h2, h3, fun q => absurd q k1, fun _ => h⟩⟩
    refine c_attacks hW hB (by omega) ha hb (fun t => ?_) (fun t => ?_)
    · exact vkX13_goes_93 hW ⟨fun z => absurd z (by decide), fun _ => f113 (base.mpr (Or.inl t))⟩
    · refine vkX13_goes_93 hW ⟨fun _ => ⟨fun d5 => ?_, fun d5 => f117 (fun h => (base.mp h).elim t (fun q => d5 (ek6.mpr q.1)))⟩, fun z => absurd rfl z⟩
      refine c_castles hW hP0 hp ha hb (fun r => ?_) (fun r => ?_)
      · exact vkX13_goes_110 hW ⟨fun z => absurd z (by decide), fun _ => f113 (base.mpr (Or.inr ⟨ek6.mp d5, r⟩))⟩
      · exact vkX13_goes_110 hW ⟨fun _ => f117 (fun h => (base.mp h).elim t (fun q => r q.2)), fun z => absurd rfl z⟩
