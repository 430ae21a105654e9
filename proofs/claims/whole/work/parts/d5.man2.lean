/-! THE REFERENCE'S ENDINGS: moves of the man, the method -/
def gF (c : Nat) : Int := (c / 5 : Nat) - 2
def gR (c : Nat) : Int := (c % 5 : Nat) - 2
def gM (k s p w c : Nat) (m : Nat × Nat × Nat × Nat × Nat) : Prop := (lpB k (gF c) (gR c) = true ∨ slB k (gF c) (gR c) = true) ∧ dM (slB k (gF c) (gR c)) k s p w (gF c) (gR c) m
set_option maxHeartbeats 4000000 in
theorem e_manMoves {mc ms : Nat} {M : zM} (hW : zFix M) {L : List (Nat × Nat × Nat × Nat × Nat)} (h : eMl M L) (hl : L.length ≤ 20) {k s p w : Nat} (k2 : 2 ≤ k) (k5 : k ≤ 5) (hs : s < 64) (hp : p < 64) (hw : w < 64) {Q : zQt} (hq : ∀ K L2, zSm eC M K → eMl K (L ++ L2) → L2.length ≤ 27 → (∀ m, m ∈ L2 ↔ ∃ c, c < 25 ∧ gM k s p w c m) → Q none K) : wX12_manMoves mc ms [.ref 71, .int (nI k), .int (nI s), .int (nI p), .int (nI w)] M Q := by
  refine ⟨⟨Nat.le_of_ble_eq_true rfl, rfl⟩, fun X l0 l4 l14 l48 l49 l94 l105 l108 l112 l113 l143 l148 l150 l211 l212 l241 l258 => ?_⟩
  have kI : ∀ n : Nat, n < 2 ^ 31 → (nI k = nI n ↔ k = n) := fun n hn => nI_eq (by omega) hn
  -- one direction
  have line : ∀ (df dr : Int) (L2 : List (Nat × Nat × Nat × Nat × Nat)), -3 < df → df < 3 → -3 < dr → dr < 3 → L2.length ≤ 27 → (lpB k df dr = true → slB k df dr = false) →
      (∀ K L3, zSm eC M K → eMl K (L ++ (L2 ++ L3)) → L3.length ≤ capD k p df dr → (∀ m, m ∈ L3 ↔ (lpB k df dr = true ∨ slB k df dr = true) ∧ dM (slB k df dr) k s p w df dr m) → X 258 0 0 [.ref 71, .int (nI k), .int (nI s), .int (nI p), .int (nI w), .int (iI df), .int (iI dr)] [] K) →
      ∀ (r i : Nat) (K : zM) (L3 : List (Nat × Nat × Nat × Nat × Nat)) (on : Bool) (f q : Int), r + i = 9 → 1 ≤ i → f = ((p % 8 : Nat) : Int) + df * (i : Int) → q = ((p / 8 : Nat) : Int) + dr * (i : Int) → zSm eC M K → eMl K (L ++ (L2 ++ L3)) → (i = 1 → L3 = [] ∧ on = (lpB k df dr || slB k df dr)) → L3.length ≤ i - 1 → L3.length ≤ capD k p df dr →
      (on = true → (slB k df dr = true ∨ i = 1) ∧ ∀ j u, 1 ≤ j → j < i → dirT p df dr j u → u ≠ s ∧ u ≠ w) → (on = false → ∀ n t, i ≤ n → (lpB k df dr = true ∨ slB k df dr = true) → (slB k df dr = false → n = 1) → ¬ inD s p w df dr n t) →
      (∀ m, m ∈ L3 ↔ (lpB k df dr = true ∨ slB k df dr = true) ∧ ∃ n t, 1 ≤ n ∧ n < i ∧ (slB k df dr = false → n = 1) ∧ inD s p w df dr n t ∧ m = (p + 64 * t, k, s, t, w)) →
      X 150 0 0 [.ref 71, .int (nI k), .int (nI s), .int (nI p), .int (nI w), .int (iI df), .int (iI dr), .int (bI (slB k df dr)), .int (iI f), .int (iI q), .int (bI on)] [] K := by
    intro df dr L2 f1 f2 r1 r2 hL2 hxor cont r
    induction r using Nat.strongRecOn with
    | ind r ih =>
    intro i K L3 on f q hr i1 ef eq sm hK hi1 hn hcap hon hoff hm
    have hWK := sm.fix hW
    obtain ⟨sl, hsl⟩ : ∃ sl, sl = slB k df dr := ⟨_, rfl⟩
    obtain ⟨lp, hlp⟩ : ∃ lp, lp = lpB k df dr := ⟨_, rfl⟩
    rw [← hsl, ← hlp] at hi1 hoff hm hxor cont
    rw [← hsl] at hon ⊢
    have stop : (∀ n t, i ≤ n → (lp = true ∨ sl = true) → (sl = false → n = 1) → ¬ inD s p w df dr n t) → X 258 0 0 [.ref 71, .int (nI k), .int (nI s), .int (nI p), .int (nI w), .int (iI df), .int (iI dr)] [] K := by
      intro hno
      refine cont K L3 sm hK hcap (fun m => (hm m).trans ?_)
      refine and_congr_right (fun ha => ?_)
      constructor
      · rintro ⟨n, t, a, b, c, d, e⟩; exact ⟨n, t, a, c, d, e⟩
      · rintro ⟨n, t, a, c, d, e⟩
        by_cases z : n < i
        · exact ⟨n, t, a, z, c, d, e⟩
        · exact absurd d (hno n t (by omega) ha c)
    have offb : on = true → ¬ (0 ≤ f ∧ f < 8 ∧ 0 ≤ q ∧ q < 8) → ∀ n t, i ≤ n → (lp = true ∨ sl = true) → (sl = false → n = 1) → ¬ inD s p w df dr n t := by
      intro ho hb n t hn2 _ hs1 hin
      by_cases z : sl = true
      · obtain ⟨g1, g2, _⟩ := slB_of (hsl ▸ z)
        have := dir_conv hp g1 g2 hin.1 hn2
        rw [← ef, ← eq] at this
        exact hb this
      · have n1 : n = 1 := hs1 (by cases sl <;> simp at z ⊢)
        have e1 : i = n := by omega
        have := hin.1
        rw [← e1] at this
        obtain ⟨a, b, c⟩ := this
        rw [← ef] at b
        rw [← eq] at c
        exact hb (by omega)
    have hfb : -40 < f ∧ f < 40 := by
      rw [ef]
      have : df = -2 ∨ df = -1 ∨ df = 0 ∨ df = 1 ∨ df = 2 := by omega
      rcases this with e | e | e | e | e <;> rw [e] <;> omega
    have hqb : -40 < q ∧ q < 40 := by
      rw [eq]
      have : dr = -2 ∨ dr = -1 ∨ dr = 0 ∨ dr = 1 ∨ dr = 2 := by omega
      rcases this with e | e | e | e | e <;> rw [e] <;> omega
    have i0 : ∀ z : Int, -40 < z ∧ z < 40 → (iI z < 0 ↔ z < 0) := fun z a => iI_lt (a := z) (b := 0) (by omega) (by omega) (by decide) (by decide)
    have i8 : ∀ z : Int, -40 < z ∧ z < 40 → ((8 : Int32) ≤ iI z ↔ 8 ≤ z) := fun z a => iI_le (a := 8) (b := z) (by decide) (by decide) (by omega) (by omega)
    refine l150 _ _ _ _ _ ⟨rfl, vX12_manMoves_150 hWK ⟨fun c => stop (hoff (bI_0.mp c)), fun c => ?_⟩⟩
    have ho : on = true := bI_n.mp c
    rw [i0 f hfb, i8 f hfb, i0 q hqb, i8 q hqb]
    refine ⟨fun d => stop (offb ho (by omega)), fun d => ⟨fun e => stop (offb ho (by omega)), fun e => ⟨fun g => stop (offb ho (by omega)), fun g => ⟨fun j => stop (offb ho (by omega)), fun j => ?_⟩⟩⟩⟩
    obtain ⟨t1, t2, t3⟩ := dirT_of ef eq (by omega) (by omega) (by omega) (by omega)
    rw [show (8 : Int32) = iI 8 from rfl, iI_mul, iI_add, ← t2]
    obtain ⟨t0, ht0⟩ : ∃ t0, t0 = (8 * q + f).toNat := ⟨_, rfl⟩
    rw [← ht0] at t1 t3 ⊢
    rw [← iI_nat t0]
    have hor : lp = true ∨ sl = true := by
      rcases (hon ho).1 with z | z
      · exact Or.inr z
      · have := (hi1 z).2
        rw [ho] at this
        cases lp <;> cases sl <;> simp at this ⊢
    have hs1 : sl = false → i = 1 := fun z => by
      rcases (hon ho).1 with y | y
      · rw [z] at y; exact absurd y (by decide)
      · exact y
    have icap : i ≤ capD k p df dr := by
      unfold capD
      rw [← hlp, ← hsl]
      by_cases z : sl = true
      · have : ¬ lp = true := fun y => by rw [hxor y] at z; exact absurd z (by decide)
        rw [if_neg this, if_pos z]
        exact dir_cap hp (hsl ▸ z) (by rw [← ef]; omega) (by rw [← ef]; omega) (by rw [← eq]; omega) (by rw [← eq]; omega)
      · have z2 : sl = false := by cases sl <;> simp at z ⊢
        have : lp = true := by rcases hor with y | y
                               · exact y
                               · exact absurd y z
        rw [if_pos this, hs1 z2]
        exact Nat.le_refl 1
    have i7 : i ≤ 7 := by
      by_cases z : sl = true
      · have := dir_cap (i := i) hp (hsl ▸ z) (by rw [← ef]; omega) (by rw [← ef]; omega) (by rw [← eq]; omega) (by rw [← eq]; omega)
        have e7 : ∀ (d : Int) (x : Nat), x ≤ 7 → edg d x ≤ 7 := fun d x hx => by unfold edg; split <;> (try split) <;> omega
        have := e7 df (p % 8) (by omega)
        omega
      · have := hs1 (by cases sl <;> simp at z ⊢)
        omega
    have f241 : ∀ (on2 : Bool), on2 = (sl && (decide (t0 ≠ s) && decide (t0 ≠ w))) → ∀ (K2 : zM) (L4 : List (Nat × Nat × Nat × Nat × Nat)), zSm eC M K2 → eMl K2 (L ++ (L2 ++ L4)) → L4.length ≤ i → (∀ m, m ∈ L4 ↔ m ∈ L3 ∨ (t0 ≠ s ∧ t0 ≠ w ∧ m = (p + 64 * t0, k, s, t0, w))) → X 241 0 0 [.ref 71, .int (nI k), .int (nI s), .int (nI p), .int (nI w), .int (iI df), .int (iI dr), .int (bI sl), .int (iI f), .int (iI q), .int (bI on2)] [] K2 := by
      intro on2 e2 K2 L4 s2 h2 hn4 hm4
      refine l241 _ _ _ _ _ ⟨rfl, vX12_manMoves_241 (s2.fix hW) ?_⟩
      rw [iI_add, iI_add]
      have := ih (r - 1) (by omega) (i + 1) K2 L4 on2 (f + df) (q + dr) (by omega) (by omega) (by
        rw [ef, show ((i + 1 : Nat) : Int) = (i : Int) + 1 by omega, Int.mul_add, Int.mul_one]; omega) (by
        rw [eq, show ((i + 1 : Nat) : Int) = (i : Int) + 1 by omega, Int.mul_add, Int.mul_one]; omega) s2 h2 (fun z => absurd z (by omega)) (by omega) (by omega)
      rw [← hsl, ← hlp] at this
      refine this (fun z => ?_) (fun z n t hn2 _ hs2 hin => ?_) (fun m => ?_)
      · rw [z] at e2
        have e2 := e2.symm
        simp only [Bool.and_eq_true, decide_eq_true_eq] at e2
        refine ⟨Or.inl e2.1, fun j2 u a b hd => ?_⟩
        by_cases y : j2 = i
        · subst y
          rw [dirT_inj hd t1]
          exact e2.2
        · exact (hon ho).2 j2 u a (by omega) hd
      · rw [z] at e2
        by_cases y : sl = true
        · have := hin.2.2.2 i t0 i1 (by omega) t1
          rw [y] at e2
          simp [this.1, this.2] at e2
        · have := hs2 (by cases sl <;> simp at y ⊢)
          omega
      · rw [hm4 m, hm m]
        constructor
        · rintro (⟨a, n, t, b1, b2, b3⟩ | ⟨a, b, c2⟩)
          · exact ⟨a, n, t, b1, by omega, b3⟩
          · exact ⟨hor, i, t0, i1, by omega, hs1, ⟨t1, a, b, (hon ho).2⟩, c2⟩
        · rintro ⟨a, n, t, b1, b2, b3, b4, b5⟩
          by_cases y : n = i
          · subst y
            have e3 := dirT_inj b4.1 t1
            rw [e3] at b4 b5
            exact Or.inr ⟨b4.2.1, b4.2.2.1, b5⟩
          · exact Or.inl ⟨a, n, t, b1, by omega, b3, b4, b5⟩
    have es : nI t0 = nI s ↔ t0 = s := nI_eq (by omega) (by omega)
    have ew : nI t0 = nI w ↔ t0 = w := nI_eq (by omega) (by omega)
    have f212 : ∀ (on2 : Bool), on2 = (sl && (decide (t0 ≠ s) && decide (t0 ≠ w))) → X 212 0 0 [.ref 71, .int (nI k), .int (nI s), .int (nI p), .int (nI w), .int (iI df), .int (iI dr), .int (bI sl), .int (iI f), .int (iI q), .int (nI t0)] [.int (bI on2)] K := by
      intro on2 e2
      refine l212 _ _ _ _ _ ⟨rfl, vX12_manMoves_212 hWK ⟨fun z => f241 on2 e2 K L3 sm hK (by omega) (fun m => ?_), fun z => ⟨fun y => f241 on2 e2 K L3 sm hK (by omega) (fun m => ?_), fun y => ?_⟩⟩⟩
      · exact ⟨fun v => Or.inl v, fun v => v.elim id (fun u => absurd (es.mp z) u.1)⟩
      · exact ⟨fun v => Or.inl v, fun v => v.elim id (fun u => absurd (ew.mp y) u.2.1)⟩
      · refine e_add hWK hK (by simp; omega) p t0 0 k s t0 w (fun K2 s2 h2 => ?_)
        refine vkX12_manMoves_241 (s2.fix hWK) ?_
        rw [List.append_assoc, List.append_assoc] at h2
        refine f241 on2 e2 K2 _ (sm.tr s2) h2 (by simp; omega) (fun m => ?_)
        rw [List.mem_append, List.mem_singleton]
        exact ⟨fun v => v.elim Or.inl (fun u => Or.inr ⟨fun x => z (es.mpr x), fun x => y (ew.mpr x), u⟩), fun v => v.elim Or.inl (fun u => Or.inr u.2.2)⟩
    have f211 : (sl && (decide (t0 ≠ s) && decide (t0 ≠ w))) = false → X 211 0 0 [.ref 71, .int (nI k), .int (nI s), .int (nI p), .int (nI w), .int (iI df), .int (iI dr), .int (bI sl), .int (iI f), .int (iI q), .int (nI t0)] [] K := fun z => l211 _ _ _ _ _ ⟨rfl, vX12_manMoves_211 hWK (f212 false z.symm)⟩
    refine ⟨fun z => f211 (by rw [bI_0.mp z]; rfl), fun z => ⟨fun y => f211 (by rw [es.mp y]; simp), fun y => ⟨fun v => f211 (by rw [ew.mp v]; simp), fun v => f212 true ?_⟩⟩⟩
    have a1 : t0 ≠ s := fun x => y (es.mpr x)
    have a2 : t0 ≠ w := fun x => v (ew.mpr x)
    rw [bI_n.mp z]
    simp [a1, a2]
  -- the grid of directions
  have gb : ∀ c, c < 25 → -3 < gF c ∧ gF c < 3 ∧ -3 < gR c ∧ gR c < 3 := fun c hc => by unfold gF gR; omega
  have hxor : ∀ df dr : Int, lpB k df dr = true → slB k df dr = false := fun df dr z => by
    have z := of_decide_eq_true z
    unfold slB
    exact decide_eq_false (fun y => by omega)
  have grid : ∀ (r c : Nat) (K : zM) (L2 : List (Nat × Nat × Nat × Nat × Nat)), c + r = 25 → c < 25 → zSm eC M K → eMl K (L ++ L2) → L2.length ≤ capS k p c → (∀ m, m ∈ L2 ↔ ∃ d, d < c ∧ gM k s p w d m) → X 14 0 0 [.ref 71, .int (nI k), .int (nI s), .int (nI p), .int (nI w), .int (iI (gF c)), .int (iI (gR c))] [] K := by
    intro r
    induction r with
    | zero => intro c K L2 hr hc; omega
    | succ r ih =>
    intro c K L2 hr hc sm hK hn hm
    have hWK := sm.fix hW
    obtain ⟨b1, b2, b3, b4⟩ := gb c hc
    have hL27 : L2.length ≤ 27 := Nat.le_trans hn (capS_le k2 k5 hp (by omega))
    have f258 : ∀ K2 L3, zSm eC M K2 → eMl K2 (L ++ (L2 ++ L3)) → L3.length ≤ capD k p (gF c) (gR c) → (∀ m, m ∈ L3 ↔ (lpB k (gF c) (gR c) = true ∨ slB k (gF c) (gR c) = true) ∧ dM (slB k (gF c) (gR c)) k s p w (gF c) (gR c) m) → X 258 0 0 [.ref 71, .int (nI k), .int (nI s), .int (nI p), .int (nI w), .int (iI (gF c)), .int (iI (gR c))] [] K2 := by
      intro K2 L3 s2 h2 hn3 hm3
      have hWK2 := s2.fix hW
      have hlen : (L2 ++ L3).length ≤ capS k p (c + 1) := by
        rw [List.length_append]
        show _ ≤ capS k p c + capD k p ((c / 5 : Nat) - 2) ((c % 5 : Nat) - 2)
        exact Nat.add_le_add hn hn3
      have hmem : ∀ m, m ∈ L2 ++ L3 ↔ ∃ d, d < c + 1 ∧ gM k s p w d m := fun m => by
        rw [List.mem_append, hm m, hm3 m]
        constructor
        · rintro (⟨d, a, b⟩ | b)
          · exact ⟨d, by omega, b⟩
          · exact ⟨c, by omega, b⟩
        · rintro ⟨d, a, b⟩
          by_cases z : d = c
          · subst z; exact Or.inr b
          · exact Or.inl ⟨d, by omega, b⟩
      refine l258 _ _ _ _ _ ⟨rfl, vX12_manMoves_258 hWK2 ?_⟩
      rw [show (1 : Int32) = iI 1 from rfl, iI_add]
      by_cases z : (c + 1) % 5 = 0
      · have e3 : gR c + 1 = 3 := by unfold gR; omega
        rw [e3]
        refine l14 _ _ _ _ _ ⟨rfl, vX12_manMoves_14 hWK2 ⟨fun _ => ?_, fun y => absurd (by decide) y⟩⟩
        rw [show (1 : Int32) = iI 1 from rfl, iI_add]
        refine l4 _ _ _ _ _ ⟨rfl, vX12_manMoves_4 hWK2 ⟨fun y => ?_, fun y => ?_⟩⟩
        · have y := (iI_lt (a := 2) (b := gF c + 1) (by decide) (by decide) (by omega) (by omega)).mp y
          have e25 : c + 1 = 25 := by unfold gF at y; omega
          rw [e25] at hlen hmem
          exact hq K2 _ s2 h2 (Nat.le_trans hlen (capS_le k2 k5 hp (by omega))) hmem
        · have y : ¬ 2 < gF c + 1 := fun v => y ((iI_lt (a := 2) (b := gF c + 1) (by decide) (by decide) (by omega) (by omega)).mpr v)
          have e1 : gF c + 1 = gF (c + 1) := by unfold gF; omega
          have e2 : (-2 : Int) = gR (c + 1) := by unfold gR; omega
          have lt : c + 1 < 25 := by unfold gF at y; omega
          rw [e1, show (-2 : Int32) = iI (-2) from rfl, e2]
          exact ih (c + 1) K2 _ (by omega) lt s2 h2 hlen hmem
      · have e1 : gF c = gF (c + 1) := by unfold gF; omega
        have e2 : gR c + 1 = gR (c + 1) := by unfold gR; omega
        rw [e1, e2]
        exact ih (c + 1) K2 _ (by omega) (by omega) s2 h2 hlen hmem
    have go := line (gF c) (gR c) L2 b1 b2 b3 b4 hL27 (hxor _ _) f258 8 1 K [] (lpB k (gF c) (gR c) || slB k (gF c) (gR c)) (((p % 8 : Nat) : Int) + gF c) (((p / 8 : Nat) : Int) + gR c) (by omega) (by omega) (by
      rw [show ((1 : Nat) : Int) = 1 from rfl, Int.mul_one]) (by rw [show ((1 : Nat) : Int) = 1 from rfl, Int.mul_one]) sm (by simpa using hK) (fun _ => ⟨rfl, rfl⟩) (by simp) (by simp) (fun _ => ⟨Or.inr rfl, fun j u a b => absurd b (by omega)⟩) (fun z n t _ y => by
        rw [Bool.or_eq_false_iff] at z
        rcases y with y | y
        · rw [z.1] at y; exact absurd y (by decide)
        · rw [z.2] at y; exact absurd y (by decide)) (fun m => by
        simp only [List.not_mem_nil, false_iff]
        rintro ⟨_, n, t, a, b, _⟩
        omega)
    obtain ⟨df, hdf⟩ : ∃ df, df = gF c := ⟨_, rfl⟩
    obtain ⟨dr, hdr⟩ : ∃ dr, dr = gR c := ⟨_, rfl⟩
    rw [← hdf] at b1 b2
    rw [← hdr] at b3 b4
    rw [← hdf, ← hdr] at go ⊢
    have j1 : 0 ≤ aI df ∧ aI df < 3 := by unfold aI; split <;> omega
    have j2 : 0 ≤ aI dr ∧ aI dr < 3 := by unfold aI; split <;> omega
    have f148 : X 148 0 0 [.ref 71, .int (nI k), .int (nI s), .int (nI p), .int (nI w), .int (iI df), .int (iI dr), .int (bI (slB k df dr)), .int (iI (((p % 8 : Nat) : Int) + df)), .int (iI (((p / 8 : Nat) : Int) + dr))] [.int (bI (lpB k df dr || slB k df dr))] K := l148 _ _ _ _ _ ⟨rfl, vX12_manMoves_148 hWK go⟩
    have f143 : (lpB k df dr || slB k df dr) = true → X 143 0 0 [.ref 71, .int (nI k), .int (nI s), .int (nI p), .int (nI w), .int (iI df), .int (iI dr), .int (bI (slB k df dr)), .int (iI (((p % 8 : Nat) : Int) + df)), .int (iI (((p / 8 : Nat) : Int) + dr))] [] K := fun z => l143 _ _ _ _ _ ⟨rfl, vX12_manMoves_143 hWK (by rw [z] at f148; exact f148)⟩
    have f113 : ∀ b : Bool, b = slB k df dr → X 113 0 0 [.ref 71, .int (nI k), .int (nI s), .int (nI p), .int (nI w), .int (iI df), .int (iI dr), .int (bI (lpB k df dr))] [.int (bI b)] K := by
      intro b eb
      subst eb
      refine l113 _ _ _ _ _ ⟨rfl, vX12_manMoves_113 hWK (fun y e => ?_)⟩
      rw [m8 (by omega), iI_nat (p % 8), iI_add] at e
      subst e
      rw [q8 (by omega), iI_nat (p / 8), iI_add]
      refine ⟨fun z => ⟨fun y => ?_, fun y => f143 ?_⟩, fun z => f143 ?_⟩
      · rw [bI_0.mp z, bI_0.mp y] at f148
        rw [bI_0.mp y]
        exact f148
      · rw [bI_n.mp y]; simp
      · rw [bI_n.mp z]; rfl
    have f112 : slB k df dr = false → X 112 0 0 [.ref 71, .int (nI k), .int (nI s), .int (nI p), .int (nI w), .int (iI df), .int (iI dr), .int (bI (lpB k df dr))] [] K := fun z => l112 _ _ _ _ _ ⟨rfl, vX12_manMoves_112 hWK (f113 false z.symm)⟩
    have f108 : slB k df dr = true → X 108 0 0 [.ref 71, .int (nI k), .int (nI s), .int (nI p), .int (nI w), .int (iI df), .int (iI dr), .int (bI (lpB k df dr))] [] K := fun z => l108 _ _ _ _ _ ⟨rfl, vX12_manMoves_108 hWK (f113 true z.symm)⟩
    have c2 : ∀ z : Int, 0 ≤ z ∧ z < 3 → ((2 : Int32) ≤ iI z ↔ 2 ≤ z) := fun z a => iI_le (a := 2) (b := z) (by decide) (by decide) (by omega) (by omega)
    have slN : ¬ (3 ≤ k ∧ aI df < 2 ∧ aI dr < 2 ∧ 0 < aI df + aI dr ∧ (k = 5 ∨ (k = 3 ↔ aI df + aI dr = 2))) → slB k df dr = false := fun z => decide_eq_false z
    have f49 : ∀ b : Bool, b = lpB k df dr → X 49 0 0 [.ref 71, .int (nI k), .int (nI s), .int (nI p), .int (nI w), .int (iI df), .int (iI dr), .int (iI (aI df + aI dr))] [.int (bI b)] K := by
      intro b eb
      subst eb
      refine l49 _ _ _ _ _ ⟨rfl, vX12_manMoves_49 hWK ⟨fun z => f112 (slN (fun y => ?_)), fun z => ?_⟩⟩
      · have := (nI_leI (a := k) (b := 2) (by omega) (by decide)).mp z
        omega
      have k3 : 3 ≤ k := by
        have : ¬ k ≤ 2 := fun v => z ((nI_leI (a := k) (b := 2) (by omega) (by decide)).mpr v)
        omega
      refine e_amount hWK df (by omega) (by omega) ?_
      refine vkX12_manMoves_61 hWK ?_
      rw [c2 _ j1]
      refine ⟨fun y => f112 (slN (fun v => by omega)), fun y => ?_⟩
      refine e_amount hWK dr (by omega) (by omega) ?_
      refine vkX12_manMoves_70 hWK ?_
      rw [c2 _ j2]
      refine ⟨fun v => f112 (slN (fun u => by omega)), fun v => ⟨fun u => f112 (slN (fun o => ?_)), fun u => ?_⟩⟩
      · have := (iI_le (a := aI df + aI dr) (b := 0) (by omega) (by omega) (by decide) (by decide)).mp u
        omega
      have pos : 0 < aI df + aI dr := by
        have : ¬ aI df + aI dr ≤ 0 := fun o => u ((iI_le (a := aI df + aI dr) (b := 0) (by omega) (by omega) (by decide) (by decide)).mpr o)
        omega
      have sS : slB k df dr = true ↔ (k = 5 ∨ (k = 3 ↔ aI df + aI dr = 2)) := by
        unfold slB
        rw [decide_eq_true_eq]
        exact ⟨fun o => o.2.2.2.2, fun o => ⟨k3, by omega, by omega, pos, o⟩⟩
      refine ⟨fun o => f108 (sS.mpr (Or.inl ((kI 5 (by decide)).mp o))), fun o => ?_⟩
      have n5 : ¬ k = 5 := fun x => o ((kI 5 (by decide)).mpr x)
      have sN : ¬ (k = 3 ↔ aI df + aI dr = 2) → slB k df dr = false := fun x => by
        cases hh : slB k df dr
        · rfl
        · exact ((sS.mp hh).elim (fun y => absurd y n5) (fun y => absurd y x))
      have e2 : iI (aI df + aI dr) = (2 : Int32) ↔ aI df + aI dr = 2 := iI_eq (a := aI df + aI dr) (b := 2) (by omega) (by omega) (by decide) (by decide)
      have f94 : ∀ b : Bool, (b = true ↔ k = 3) → X 94 0 0 [.ref 71, .int (nI k), .int (nI s), .int (nI p), .int (nI w), .int (iI df), .int (iI dr), .int (iI (aI df + aI dr)), .int (bI (lpB k df dr))] [.int (bI b)] K := by
        intro b hb
        have f105 : ∀ a : Bool, (a = true ↔ aI df + aI dr = 2) → X 105 0 0 [.ref 71, .int (nI k), .int (nI s), .int (nI p), .int (nI w), .int (iI df), .int (iI dr), .int (bI (lpB k df dr))] [.int (bI a), .int (bI b)] K := by
          intro a ha
          refine l105 _ _ _ _ _ ⟨rfl, vX12_manMoves_105 hWK ⟨fun x => f108 (sS.mpr (Or.inr ?_)), fun x => f112 (sN (fun x2 => x ?_))⟩⟩
          · have : b = a := by revert x; cases a <;> cases b <;> decide
            rw [← hb, ← ha, this]
          · have : b = a := Bool.eq_iff_iff.mpr ((hb.trans x2).trans ha.symm)
            rw [this]
        refine l94 _ _ _ _ _ ⟨rfl, vX12_manMoves_94 hWK ⟨fun x => f105 true (by simp [e2.mp x]), fun x => f105 false (by simp; exact fun y => x (e2.mpr y))⟩⟩
      exact ⟨fun x => f94 true (by simp [(kI 3 (by decide)).mp x]), fun x => f94 false (by simp; exact fun y => x ((kI 3 (by decide)).mpr y))⟩
    have f48 : lpB k df dr = false → X 48 0 0 [.ref 71, .int (nI k), .int (nI s), .int (nI p), .int (nI w), .int (iI df), .int (iI dr), .int (iI (aI df + aI dr))] [] K := fun z => l48 _ _ _ _ _ ⟨rfl, vX12_manMoves_48 hWK (f49 false z.symm)⟩
    refine l14 _ _ _ _ _ ⟨rfl, vX12_manMoves_14 hWK ⟨fun z => absurd ((iI_lt (a := 2) (b := dr) (by decide) (by decide) (by omega) (by omega)).mp z) (by omega), fun _ => ?_⟩⟩
    refine e_amount hWK df (by omega) (by omega) ?_
    refine vkX12_manMoves_25 hWK ?_
    refine e_amount hWK dr (by omega) (by omega) ?_
    refine vkX12_manMoves_30 hWK ?_
    rw [iI_add]
    have e3 : iI (aI df + aI dr) = (3 : Int32) ↔ aI df + aI dr = 3 := iI_eq (a := aI df + aI dr) (b := 3) (by omega) (by omega) (by decide) (by decide)
    refine ⟨fun z => ⟨fun y => f49 true ?_, fun y => f48 ?_⟩, fun z => f48 ?_⟩
    · exact (decide_eq_true ⟨(kI 2 (by decide)).mp z, e3.mp y⟩).symm
    · exact decide_eq_false (fun v => y (e3.mpr v.2))
    · exact decide_eq_false (fun v => z ((kI 2 (by decide)).mpr v.1))
  refine l0 _ _ _ _ _ ⟨rfl, vX12_manMoves_0 hW ?_⟩
  refine l4 _ _ _ _ _ ⟨rfl, vX12_manMoves_4 hW ⟨fun z => absurd z (by decide), fun _ => ?_⟩⟩
  exact grid 25 0 M [] (by omega) (by omega) zSm.rf (by simpa using h) (by simp) (fun m => by simp)
