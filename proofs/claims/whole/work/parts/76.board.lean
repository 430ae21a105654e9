/-! THE CLASS'S BOARD: what its rows stand for; attacked -/
def knG (s t : Nat) : Prop := aI (dF s t) * aI (dR s t) = 2
def kiG (s t : Nat) : Prop := s ≠ t ∧ aI (dF s t) < 2 ∧ aI (dR s t) < 2
def paG (c s t : Nat) : Prop := aI (dF s t) = 1 ∧ dR s t = (if c = 0 then 1 else -1)
/-- the compass's rows are as they were made -/
def cOk (M : zM) : Prop := cRay M ∧ (∀ s t, s < 64 → t < 64 → (bt (M.2.1 18 s) t = true ↔ knG s t)) ∧ (∀ s t, s < 64 → t < 64 → (bt (M.2.1 19 s) t = true ↔ kiG s t)) ∧ (∀ c s t, c ≤ 1 → s < 64 → t < 64 → (bt (M.2.1 20 (64 * c + s)) t = true ↔ paG c s t)) ∧
  (∀ s t, s < 64 → t < 64 → (bt (M.2.1 22 s) t = true ↔ s ≠ t ∧ (dF s t = 0 ∨ dR s t = 0))) ∧ ∀ s t, s < 64 → t < 64 → (bt (M.2.1 23 s) t = true ↔ s ≠ t ∧ aI (dF s t) = aI (dR s t))
theorem cOk.sm {L : List Nat} {M N : zM} (h : zSm L M N) (hL : ∀ b, 18 ≤ b → b ≤ 23 → b ∉ L) (hC : cOk M) : cOk N := by
  unfold cOk cRay at hC ⊢
  rw [h.j (hL 18 (by decide) (by decide)), h.j (hL 19 (by decide) (by decide)), h.j (hL 20 (by decide) (by decide)), h.j (hL 21 (by decide) (by decide)), h.j (hL 22 (by decide) (by decide)), h.j (hL 23 (by decide) (by decide))]
  exact hC
/-- the rows of the board of game g stand for the men -/
def bSt (M : zM) (g : Nat) (B : Nat → Nat) : Prop := (∀ s, s < 64 → M.1 (g + 2) s = nI (B s) ∧ B s ≤ 12) ∧ (∀ m s, 1 ≤ m → m ≤ 12 → s < 64 → (bt (M.2.1 (g + 3) m) s = true ↔ B s = m)) ∧ ∀ c s, c ≤ 1 → s < 64 → (bt (M.2.1 (g + 4) c) s = true ↔ sdI (B s) = c)
theorem lg0 {x : Int64} : lg_cmp x 0 = 0 ↔ x = 0 := by
  unfold lg_cmp
  constructor
  · intro h
    split at h
    · exact absurd h (by decide)
    · split at h
      · assumption
      · exact absurd h (by decide)
  · intro h
    rw [h]
    decide
theorem bt_ne {x : Int64} : ¬ x = 0 ↔ ∃ s, s < 64 ∧ bt x s = true := by
  constructor
  · intro h
    rcases hs : sqs x with _ | ⟨j, t⟩
    · exact absurd (sqs_nil.mp hs) h
    · have := sqs_cons hs
      exact ⟨j, this.1, this.2.1⟩
  · rintro ⟨s, _, h⟩ q
    rw [q, bt_0] at h
    exact absurd h (by decide)
theorem kd_of {c k : Nat} (hc : c ≤ 1) (hk : 1 ≤ k ∧ k ≤ 6) : kd (6 * c + k) = k := by
  unfold kd
  split <;> omega
theorem sd_of {c k : Nat} (hc : c ≤ 1) (hk : 1 ≤ k ∧ k ≤ 6) : sdI (6 * c + k) = c := (own_man (by omega) hc).mpr (by omega)
/-- some man of the side, not among those gone, attacks the square, where the set stands in the way -/
def atkO (B : Nat → Nat) (o gn : Int64) (s c : Nat) : Prop := ∃ a, a < 64 ∧ sdI (B a) = c ∧ bt gn a = false ∧ attO B o a s
theorem nI_row {c k : Nat} : (6 : Int32) * nI c + nI k = nI (6 * c + k) := by rw [show (6 : Int32) * nI c = nI (6 * c) from pk_mul 6 c, nI_add]
set_option maxHeartbeats 8000000 in
theorem c_attacked {mc ms : Nat} {M : zM} {g : Nat} (hW : zWd M g) (hC : cOk M) {B : Nat → Nat} (hB : bSt M g B) {s c : Nat} (hs : s < 64) (hc : c ≤ 1) (o gn : Int64) {Q : zQt} (q1 : atkO B o gn s c → Q (some (.int 1)) M) (q0 : ¬ atkO B o gn s c → Q (some (.int 0)) M) : wX0_attacked mc ms [.ref (g + 1), .int (nI s), .int (nI c), .long o, .long gn] M Q := by
  refine ⟨⟨Nat.le_of_ble_eq_true rfl, rfl⟩, fun X l0 l156 l223 l224 => ?_⟩
  obtain ⟨hRy, hKn, hKi, hPa, hCr, hSa⟩ := hC
  obtain ⟨hM, hSet, hCamp⟩ := hB
  have hC : cOk M := ⟨hRy, hKn, hKi, hPa, hCr, hSa⟩
  have man : ∀ a, a < 64 → sdI (B a) = c → ∃ k, 1 ≤ k ∧ k ≤ 6 ∧ B a = 6 * c + k := by
    intro a ha h
    obtain ⟨h1, h2, h3⟩ := kd_sd (hM a ha).2 hc h
    exact ⟨kd (B a), by omega, by omega, by omega⟩
  have rowS : ∀ k a, 1 ≤ k → k ≤ 6 → a < 64 → (bt (M.2.1 (g + 3) (6 * c + k)) a = true ↔ B a = 6 * c + k) := fun k a k1 k6 ha => hSet (6 * c + k) a (by omega) (by omega) ha
  have notG : ∀ (x : Int64) a, a < 64 → (bt (x &&& (gn ^^^ (-1))) a = true ↔ bt x a = true ∧ bt gn a = false) := by
    intro x a ha
    rw [bt_and, bt_not _ ha, Bool.and_eq_true, Bool.not_eq_true']
  -- sliders
  have slid : ∀ k a, a < 64 → B a = 6 * c + k → (k = 3 ∨ k = 4 ∨ k = 5) → (attO B o a s ↔ s ≠ a ∧ ((dF s a = 0 ∨ dR s a = 0) ∧ k ≠ 3 ∨ aI (dF s a) = aI (dR s a) ∧ k ≠ 4) ∧ clr o s a) := by
    intro k a ha hb hk
    have hkd : kd (B a) = k := by rw [hb]; exact kd_of hc (by omega)
    unfold attO slides
    rw [hkd]
    have f1 : dF a s = - dF s a := dF_sym s a
    have f2 : dR a s = - dR s a := dR_sym s a
    rw [f1, f2, aI_neg, aI_neg]
    constructor
    · rintro ⟨-, hne, -, -, -, h⟩
      obtain ⟨h1, h2⟩ := h (by omega) (by omega) (by omega)
      have h1' : (dF s a = 0 ∨ dR s a = 0) ∧ k ≠ 3 ∨ aI (dF s a) = aI (dR s a) ∧ k ≠ 4 := by
        rcases h1 with w | w
        · exact Or.inl ⟨by omega, w.2⟩
        · exact Or.inr w
      refine ⟨fun q => hne q.symm, h1', clr_sym ha hs hne ?_ h2⟩
      rw [f1, f2, aI_neg, aI_neg]
      rcases h1' with w | w
      · rcases w.1 with v | v
        · exact Or.inl (by omega)
        · exact Or.inr (Or.inl (by omega))
      · exact Or.inr (Or.inr w.1)
    · rintro ⟨hne, h1, h2⟩
      refine ⟨by omega, fun q => hne q.symm, fun q => by omega, fun q => by omega, fun q => by omega, fun _ _ _ => ⟨?_, clr_sym hs ha hne ?_ h2⟩⟩
      · rcases h1 with w | w
        · exact Or.inl ⟨by omega, w.2⟩
        · exact Or.inr w
      · rcases h1 with w | w
        · rcases w.1 with v | v
          · exact Or.inl v
          · exact Or.inr (Or.inl v)
        · exact Or.inr (Or.inr w.1)
  obtain ⟨nearP, hnear⟩ : ∃ p : Prop, p = ∃ a, a < 64 ∧ bt gn a = false ∧ (B a = 6 * c + 1 ∨ B a = 6 * c + 2 ∨ B a = 6 * c + 6) ∧ attO B o a s := ⟨_, rfl⟩
  obtain ⟨strP, hstr⟩ : ∃ p : Prop, p = ∃ a, a < 64 ∧ bt gn a = false ∧ (B a = 6 * c + 4 ∨ B a = 6 * c + 5) ∧ s ≠ a ∧ (dF s a = 0 ∨ dR s a = 0) ∧ clr o s a := ⟨_, rfl⟩
  obtain ⟨askP, hask⟩ : ∃ p : Prop, p = ∃ a, a < 64 ∧ bt gn a = false ∧ (B a = 6 * c + 3 ∨ B a = 6 * c + 5) ∧ s ≠ a ∧ aI (dF s a) = aI (dR s a) ∧ clr o s a := ⟨_, rfl⟩
  have all : atkO B o gn s c ↔ nearP ∨ strP ∨ askP := by
    rw [hnear, hstr, hask]
    constructor
    · rintro ⟨a, ha, h1, h2, h3⟩
      obtain ⟨k, k1, k6, hb⟩ := man a ha h1
      rcases (show k = 1 ∨ k = 2 ∨ k = 6 ∨ (k = 3 ∨ k = 4 ∨ k = 5) by omega) with w | w | w | w
      · exact Or.inl ⟨a, ha, h2, by rw [hb, w]; omega, h3⟩
      · exact Or.inl ⟨a, ha, h2, by rw [hb, w]; omega, h3⟩
      · exact Or.inl ⟨a, ha, h2, by rw [hb, w]; omega, h3⟩
      · obtain ⟨u1, u2, u3⟩ := (slid k a ha hb w).mp h3
        rcases u2 with v | v
        · exact Or.inr (Or.inl ⟨a, ha, h2, by omega, u1, v.1, u3⟩)
        · exact Or.inr (Or.inr ⟨a, ha, h2, by omega, u1, v.1, u3⟩)
    · rintro (⟨a, ha, h2, hb, h3⟩ | ⟨a, ha, h2, hb, u1, u2, u3⟩ | ⟨a, ha, h2, hb, u1, u2, u3⟩)
      · exact ⟨a, ha, (own_man (hM a ha).2 hc).mpr (by omega), h2, h3⟩
      · refine ⟨a, ha, (own_man (hM a ha).2 hc).mpr (by omega), h2, ?_⟩
        rcases hb with w | w
        · exact (slid 4 a ha w (by omega)).mpr ⟨u1, Or.inl ⟨u2, by omega⟩, u3⟩
        · exact (slid 5 a ha w (by omega)).mpr ⟨u1, Or.inl ⟨u2, by omega⟩, u3⟩
      · refine ⟨a, ha, (own_man (hM a ha).2 hc).mpr (by omega), h2, ?_⟩
        rcases hb with w | w
        · exact (slid 3 a ha w (by omega)).mpr ⟨u1, Or.inr ⟨u2, by omega⟩, u3⟩
        · exact (slid 5 a ha w (by omega)).mpr ⟨u1, Or.inr ⟨u2, by omega⟩, u3⟩
  have f224 : ∀ b : Bool, (b = true ↔ atkO B o gn s c) → X 224 0 0 [] [.int (bI b)] M := by
    intro b hb
    refine l224 _ _ _ _ _ ⟨rfl, vX0_attacked_224 hW ?_⟩
    cases b with
    | true => exact ⟨rfl, q1 (hb.mp rfl)⟩
    | false => exact ⟨rfl, q0 (fun q => absurd (hb.mpr q) (by decide))⟩
  have f223 : ¬ atkO B o gn s c → X 223 0 0 [] [] M := fun h => l223 _ _ _ _ _ ⟨rfl, vX0_attacked_223 hW (f224 false ⟨fun q => absurd q (by decide), fun q => absurd q h⟩)⟩
  have f156 : ¬ nearP → ¬ strP → X 156 0 0 [.ref (g + 1), .int (nI s), .long o, .long gn, .int ((6 : Int32) * nI c)] [] M := by
    intro n1 n2
    refine l156 _ _ _ _ _ ⟨rfl, vX0_attacked_156 hW ?_⟩
    rw [show (6 : Int32) * nI c + (3 : Int32) = nI (6 * c + 3) from nI_row, show (6 : Int32) * nI c + (5 : Int32) = nI (6 * c + 5) from nI_row, nI_clamp (by omega), nI_clamp (by omega), nI_clamp (by omega)]
    refine ⟨vp_in_nI (by omega) (by omega), vp_in_nI (by omega) (by omega), fun y ey => ⟨vp_in_nI (by omega) (by omega), ?_⟩⟩
    have hy : ∀ a, a < 64 → (bt y a = true ↔ bt gn a = false ∧ (B a = 6 * c + 3 ∨ B a = 6 * c + 5)) := by
      intro a ha
      rw [ey, notG _ a ha, bt_or, Bool.or_eq_true, rowS 3 a (by omega) (by omega) ha, rowS 5 a (by omega) (by omega) ha]
      exact And.comm
    rw [lg0]
    refine ⟨fun z => f223 (fun q => ?_), fun z => ?_⟩
    · rcases all.mp q with w | w | w
      · exact n1 w
      · exact n2 w
      · rw [hask] at w
        obtain ⟨a, ha, h2, hb, u1, u2, u3⟩ := w
        have : bt (M.2.1 23 s &&& y) a = true := by
          rw [bt_and, (hSa s a hs ha).mpr ⟨u1, u2⟩, (hy a ha).mpr ⟨h2, hb⟩]
          rfl
        rw [z, bt_0] at this
        exact absurd this (by decide)
    · refine c_lines hW hRy hs o (f := 2) (by omega) (fun r hr => vkX0_attacked_211 hW ?_)
      rw [lg0]
      have hz : ¬ (r &&& y) = 0 ↔ askP := by
        rw [bt_ne, hask]
        constructor
        · rintro ⟨a, ha, h⟩
          rw [bt_and, Bool.and_eq_true] at h
          obtain ⟨v1, v2⟩ := (hy a ha).mp h.2
          obtain ⟨u1, u2, u3⟩ := (seen_ak hs ha).mp ((hr a ha).mp h.1)
          exact ⟨a, ha, v1, v2, u1, u2, u3⟩
        · rintro ⟨a, ha, v1, v2, u1, u2, u3⟩
          refine ⟨a, ha, ?_⟩
          rw [bt_and, (hr a ha).mpr ((seen_ak hs ha).mpr ⟨u1, u2, u3⟩), (hy a ha).mpr ⟨v1, v2⟩]
          rfl
      refine ⟨fun w => f223 (fun q => ?_), fun w => f224 true ⟨fun _ => all.mpr (Or.inr (Or.inr (hz.mp w))), fun _ => rfl⟩⟩
      rcases all.mp q with v | v | v
      · exact n1 v
      · exact n2 v
      · exact hz.mpr v w
  refine l0 _ _ _ _ _ ⟨rfl, vX0_attacked_0 hW ?_⟩
  rw [show (6 : Int32) * nI c + (2 : Int32) = nI (6 * c + 2) from nI_row, show (6 : Int32) * nI c + (6 : Int32) = nI (6 * c + 6) from nI_row, show (6 : Int32) * nI c + (1 : Int32) = nI (6 * c + 1) from nI_row, show (6 : Int32) * nI c + (4 : Int32) = nI (6 * c + 4) from nI_row, show (6 : Int32) * nI c + (5 : Int32) = nI (6 * c + 5) from nI_row, show (1 : Int32) - nI c = nI (1 - c) from pk_sub (a := 1) (b := c) hc, show nI (1 - c) * (64 : Int32) = nI ((1 - c) * 64) from pk_mul (1 - c) 64, nI_add, nI_clamp (by omega), nI_clamp (by omega), nI_clamp (by omega), nI_clamp (by omega), nI_clamp (by omega), nI_clamp (by omega), nI_clamp (by omega)]
  refine ⟨vp_in_nI (by omega) (by omega), vp_in_nI (by omega) (by omega), vp_in_nI (by omega) (by omega), vp_in_nI (by omega) (by omega), vp_in_nI (by omega) (by omega), vp_in_nI (by omega) (by omega), fun y ey => ?_⟩
  rw [lg0]
  have hy : ¬ (y &&& (gn ^^^ (-1))) = 0 ↔ nearP := by
    rw [bt_ne, hnear]
    have key : ∀ a, a < 64 → (bt y a = true ↔ (knG s a ∧ B a = 6 * c + 2) ∨ (kiG s a ∧ B a = 6 * c + 6) ∨ (paG (1 - c) s a ∧ B a = 6 * c + 1)) := by
      intro a ha
      rw [ey, bt_or, bt_or, bt_and, bt_and, bt_and, Bool.or_eq_true, Bool.or_eq_true, Bool.and_eq_true, Bool.and_eq_true, Bool.and_eq_true, hKn s a hs ha, hKi s a hs ha, show (1 - c) * 64 + s = 64 * (1 - c) + s by omega, hPa (1 - c) s a (by omega) hs ha, rowS 2 a (by omega) (by omega) ha, rowS 6 a (by omega) (by omega) ha, rowS 1 a (by omega) (by omega) ha]
      exact or_assoc
    have f1 : ∀ a, dF a s = - dF s a := fun a => dF_sym s a
    have f2 : ∀ a, dR a s = - dR s a := fun a => dR_sym s a
    have two : ∀ k a, a < 64 → B a = 6 * c + k → (k = 1 ∨ k = 2 ∨ k = 6) → (attO B o a s ↔ (k = 2 ∧ knG s a) ∨ (k = 6 ∧ kiG s a) ∨ (k = 1 ∧ paG (1 - c) s a)) := by
      intro k a ha hb hk
      have hkd : kd (B a) = k := by rw [hb]; exact kd_of hc (by omega)
      unfold attO knG kiG paG
      rw [hkd, f1, f2, aI_neg, aI_neg]
      have hse : B a = 1 ↔ c = 0 ∧ k = 1 := by omega
      constructor
      · rintro ⟨-, hne, h1, h2, h6, -⟩
        rcases hk with w | w | w
        · obtain ⟨v1, v2⟩ := h1 w
          refine Or.inr (Or.inr ⟨w, v1, ?_⟩)
          by_cases q : c = 0
          · rw [if_pos (hse.mpr ⟨q, w⟩)] at v2
            rw [if_neg (by omega)]
            omega
          · rw [if_neg (fun z => q (hse.mp z).1)] at v2
            rw [if_pos (by omega)]
            omega
        · exact Or.inl ⟨w, h2 w⟩
        · exact Or.inr (Or.inl ⟨w, fun q => hne q.symm, h6 w⟩)
      · rintro (⟨w, v⟩ | ⟨w, v1, v2⟩ | ⟨w, v1, v2⟩)
        · refine ⟨by omega, ?_, fun q => by omega, fun _ => v, fun q => by omega, fun _ q => by omega⟩
          rintro rfl
          unfold dF dR aI at v
          simp at v
        · exact ⟨by omega, fun q => v1 q.symm, fun q => by omega, fun q => by omega, fun _ => v2, fun _ _ q => by omega⟩
        · refine ⟨by omega, ?_, fun _ => ⟨v1, ?_⟩, fun q => by omega, fun q => by omega, fun q => by omega⟩
          · rintro rfl
            unfold dF aI at v1
            simp at v1
          · by_cases q : c = 0
            · rw [if_neg (by omega)] at v2
              rw [if_pos (hse.mpr ⟨q, w⟩)]
              omega
            · rw [if_pos (by omega)] at v2
              rw [if_neg (fun z => q (hse.mp z).1)]
              omega
    constructor
    · rintro ⟨a, ha, h⟩
      obtain ⟨v1, v2⟩ := (notG y a ha).mp h
      rcases (key a ha).mp v1 with ⟨w1, w2⟩ | ⟨w1, w2⟩ | ⟨w1, w2⟩
      · exact ⟨a, ha, v2, by omega, (two 2 a ha w2 (by omega)).mpr (Or.inl ⟨rfl, w1⟩)⟩
      · exact ⟨a, ha, v2, by omega, (two 6 a ha w2 (by omega)).mpr (Or.inr (Or.inl ⟨rfl, w1⟩))⟩
      · exact ⟨a, ha, v2, by omega, (two 1 a ha w2 (by omega)).mpr (Or.inr (Or.inr ⟨rfl, w1⟩))⟩
    · rintro ⟨a, ha, v2, hb, h3⟩
      refine ⟨a, ha, (notG y a ha).mpr ⟨(key a ha).mpr ?_, v2⟩⟩
      rcases hb with w | w | w
      · rcases (two 1 a ha w (by omega)).mp h3 with q | q | q
        · omega
        · omega
        · exact Or.inr (Or.inr ⟨q.2, w⟩)
      · rcases (two 2 a ha w (by omega)).mp h3 with q | q | q
        · exact Or.inl ⟨q.2, w⟩
        · omega
        · omega
      · rcases (two 6 a ha w (by omega)).mp h3 with q | q | q
        · omega
        · exact Or.inr (Or.inl ⟨q.2, w⟩)
        · omega
  refine ⟨fun z => ?_, fun z => q1 (all.mpr (Or.inl (hy.mp z)))⟩
  have n1 : ¬ nearP := fun q => hy.mpr q z
  refine ⟨vp_in_nI (by omega) (by omega), vp_in_nI (by omega) (by omega), fun y2 ey2 => ⟨vp_in_nI (by omega) (by omega), ?_⟩⟩
  have hy2 : ∀ a, a < 64 → (bt y2 a = true ↔ bt gn a = false ∧ (B a = 6 * c + 4 ∨ B a = 6 * c + 5)) := by
    intro a ha
    rw [ey2, notG _ a ha, bt_or, Bool.or_eq_true, rowS 4 a (by omega) (by omega) ha, rowS 5 a (by omega) (by omega) ha]
    exact And.comm
  rw [lg0]
  refine ⟨fun w => f156 n1 (fun q => ?_), fun w => ?_⟩
  · rw [hstr] at q
    obtain ⟨a, ha, h2, hb, u1, u2, u3⟩ := q
    have : bt (M.2.1 22 s &&& y2) a = true := by
      rw [bt_and, (hCr s a hs ha).mpr ⟨u1, u2⟩, (hy2 a ha).mpr ⟨h2, hb⟩]
      rfl
    rw [w, bt_0] at this
    exact absurd this (by decide)
  · refine c_lines hW hRy hs o (f := 0) (by omega) (fun r hr => vkX0_attacked_146 hW ?_)
    rw [lg0]
    have hz : ¬ (r &&& y2) = 0 ↔ strP := by
      rw [bt_ne, hstr]
      constructor
      · rintro ⟨a, ha, h⟩
        rw [bt_and, Bool.and_eq_true] at h
        obtain ⟨v1, v2⟩ := (hy2 a ha).mp h.2
        obtain ⟨u1, u2, u3⟩ := (seen_st hs ha).mp ((hr a ha).mp h.1)
        exact ⟨a, ha, v1, v2, u1, u2, u3⟩
      · rintro ⟨a, ha, v1, v2, u1, u2, u3⟩
        refine ⟨a, ha, ?_⟩
        rw [bt_and, (hr a ha).mpr ((seen_st hs ha).mpr ⟨u1, u2, u3⟩), (hy2 a ha).mpr ⟨v1, v2⟩]
        rfl
    exact ⟨fun v => f156 n1 (fun q => hz.mpr q v), fun v => q1 (all.mpr (Or.inr (Or.inl (hz.mp v))))⟩
