/-! THE CLASS'S GAME: dead positions, the verdict -/
theorem cn_filter {p : Nat → Bool} : ∀ n, cn (fun s => if p s = true then 1 else 0) n = ((List.range n).filter p).length
  | 0 => rfl
  | n + 1 => by
    rw [List.range_succ, List.filter_append, List.length_append, ← cn_filter n]
    simp only [cn]
    rcases q : p n with _ | _
    · simp [q]
    · simp [q]
theorem sqs_cn {x : Int64} {f : Nat → Nat} (h : ∀ s, s < 64 → f s = if bt x s = true then 1 else 0) : (sqs x).length = cn f 64 := by
  unfold sqs
  rw [← cn_filter, cn_congr 64 (fun i hi => h i hi)]
theorem c_manyMen {mc ms : Nat} {M : zM} {g : Nat} (hW : zWd M g) {B : Nat → Nat} (hB : bSt M g B) {Q : zQt} (hq : Q (some (.int (nI (mnS B)))) M) : wX0_manyMen mc ms [.ref (g + 1)] M Q := by
  refine ⟨⟨Nat.le_of_ble_eq_true rfl, rfl⟩, fun X l0 => l0 _ _ _ _ _ ⟨rfl, vX0_manyMen_0 hW (c_bitCount _ (vkX0_manyMen_16 hW ?_))⟩⟩
  rw [pc_sqs]
  have : (sqs (M.2.1 (g + 4) (0 : Int32).toNatClampNeg ||| M.2.1 (g + 4) (1 : Int32).toNatClampNeg)).length = mnS B := by
    refine sqs_cn (fun s hs => ?_)
    have h0 := hB.2.2 0 s (by omega) hs
    have h1 := hB.2.2 1 s (by omega) hs
    have hb := sdI_bd (B s)
    have key : bt (M.2.1 (g + 4) (0 : Int32).toNatClampNeg ||| M.2.1 (g + 4) (1 : Int32).toNatClampNeg) s = true ↔ 0 < B s := by
      rw [bt_or, Bool.or_eq_true, show (0 : Int32).toNatClampNeg = 0 from rfl, show (1 : Int32).toNatClampNeg = 1 from rfl, h0, h1]
      constructor
      · intro q
        by_cases z : B s = 0
        · rw [z, show sdI 0 = -1 from rfl] at q; omega
        · omega
      · intro q
        have : sdI (B s) ≠ -1 := by
          unfold sdI
          rw [if_neg (by omega)]
          split <;> omega
        omega
    by_cases q : 0 < B s
    · rw [if_pos q, if_pos (key.mpr q)]
    · rw [if_neg q, if_neg (fun z => q (key.mp z))]
  rw [this]
  exact hq
theorem cn_add {f h : Nat → Nat} : ∀ n, cn (fun s => f s + h s) n = cn f n + cn h n
  | 0 => rfl
  | n + 1 => by
    simp only [cn]
    rw [cn_add n]
    omega
theorem oth_13 : ∀ m, m ≤ 12 → (if 0 < m then 1 else 0) = ((if m = 6 then 1 else 0) + (if m = 12 then 1 else 0)) + (if 0 < kd m ∧ kd m < 6 then 1 else 0) := by decide
theorem mn_oth {B : Nat → Nat} (h12 : ∀ s, s < 64 → B s ≤ 12) (h : hm B 6 = 1 ∧ hm B 12 = 1) : mnS B = 2 + cn (fOth B) 64 := by
  have e : mnS B = cn (fun s => ((if B s = 6 then 1 else 0) + (if B s = 12 then 1 else 0)) + fOth B s) 64 := by
    unfold mnS
    refine cn_congr 64 (fun s hs => ?_)
    have := h12 s hs
    exact oth_13 (B s) this
  rw [e, cn_add, cn_add]
  have h1 := h.1
  have h2 := h.2
  unfold hm at h1 h2
  omega
theorem cn_pos {f : Nat → Nat} : ∀ n, 0 < cn f n ↔ ∃ s, s < n ∧ 0 < f s
  | 0 => ⟨fun h => absurd h (Nat.lt_irrefl _), fun ⟨s, h, _⟩ => absurd h (Nat.not_lt_zero _)⟩
  | n + 1 => by
    simp only [cn]
    constructor
    · intro h
      by_cases q : 0 < f n
      · exact ⟨n, by omega, q⟩
      · obtain ⟨s, a, b⟩ := (cn_pos (f := f) n).mp (by omega)
        exact ⟨s, by omega, b⟩
    · rintro ⟨s, a, b⟩
      by_cases q : s = n
      · rw [q] at b; omega
      · have := (cn_pos n).mpr ⟨s, by omega, b⟩
        omega
theorem cn_one {k v : Nat} : ∀ n, k < n → cn (fun s => if s = k then v else 0) n = v
  | 0, h => by omega
  | n + 1, h => by
    simp only [cn]
    by_cases q : n = k
    · rw [if_pos q, cn_zero n (fun i hi => if_neg (by omega))]
      omega
    · rw [if_neg q, cn_one n (by omega)]
      rfl
theorem min_13 : ∀ m, m ≤ 12 → 0 < (if kd m = 2 ∨ kd m = 3 then 1 else 0) → ((m = 3 ∨ m = 9) ∨ m = 2) ∨ m = 8 := by decide
theorem dark_bit : ∀ s, s < 64 → bt (-6172840429334713771 : Int64) s = decide ((s % 8 + s / 8) % 2 = 0) := by decide +kernel
set_option maxHeartbeats 4000000 in
theorem c_isDeadC {mc ms : Nat} {M : zM} {g : Nat} (hW : zWd M g) {B : Nat → Nat} (hB : bSt M g B) (hK : hm B 6 = 1 ∧ hm B 12 = 1) {Q : zQt} (q1 : dead B → Q (some (.int 1)) M) (q0 : ¬ dead B → Q (some (.int 0)) M) : wX4_isDead mc ms [.ref g] M Q := by
  refine ⟨⟨Nat.le_of_ble_eq_true rfl, rfl⟩, fun X l0 l59 l60 l105 l109 l110 l146 l151 => ?_⟩
  have h12 : ∀ s, s < 64 → B s ≤ 12 := fun s hs => (hB.1 s hs).2
  have hmn := mn_oth h12 hK
  have hO64 := cn_le (fOth_le B) 64
  obtain ⟨O, eO⟩ : ∃ O, O = cn (fOth B) 64 := ⟨_, rfl⟩
  rw [← eO] at hmn hO64
  have f110 : ∀ b : Bool, (b = true ↔ dead B) → X 110 0 0 [] [.int (bI b)] M := by
    intro b hb
    refine l110 _ _ _ _ _ ⟨rfl, vX4_isDead_110 hW ?_⟩
    cases b with
    | true => exact ⟨rfl, q1 (hb.mp rfl)⟩
    | false => exact ⟨rfl, q0 (fun q => absurd (hb.mpr q) (by decide))⟩
  have f105 : dead B → X 105 0 0 [] [] M := fun h => l105 _ _ _ _ _ ⟨rfl, vX4_isDead_105 hW (f110 true ⟨fun _ => h, fun _ => rfl⟩)⟩
  have f109 : ¬ dead B → X 109 0 0 [] [] M := fun h => l109 _ _ _ _ _ ⟨rfl, vX4_isDead_109 hW (f110 false ⟨fun q => absurd q (by decide), fun q => absurd q h⟩)⟩
  have f151 : ∀ b : Bool, (b = true ↔ dead B) → X 151 0 0 [] [.int (bI b)] M := by
    intro b hb
    refine l151 _ _ _ _ _ ⟨rfl, vX4_isDead_151 hW ?_⟩
    cases b with
    | true => exact ⟨rfl, q1 (hb.mp rfl)⟩
    | false => exact ⟨rfl, q0 (fun q => absurd (hb.mpr q) (by decide))⟩
  have f146 : dead B → X 146 0 0 [] [] M := fun h => l146 _ _ _ _ _ ⟨rfl, vX4_isDead_146 hW (f151 true ⟨fun _ => h, fun _ => rfl⟩)⟩
  refine l0 _ _ _ _ _ ⟨rfl, vX4_isDead_0 hW (c_manyMen hW hB (vkX4_isDead_7 hW ?_))⟩
  rw [hmn]
  have e4 := nI_leI (a := 2 + O) (b := 4) (by omega) (by decide)
  have ee4 := nI_eq (a := 2 + O) (b := 4) (by omega) (by decide)
  have ee2 := nI_eq (a := 2 + O) (b := 2) (by omega) (by decide)
  have bit : ∀ m s, 1 ≤ m → m ≤ 12 → s < 64 → (bt (M.2.1 (g + 3) m) s = true ↔ B s = m) := hB.2.1
  refine ⟨fun q y ey y2 ey2 => ?_, fun q => q0 (fun z => ?_)⟩
  rotate_left
  · have : ¬ 2 + O ≤ 4 := fun w => q (e4.mpr w)
    unfold dead at z
    rw [← eO] at z
    omega
  have ey : y = M.2.1 (g + 3) 3 := ey
  have ey2 : y2 = M.2.1 (g + 3) 9 := ey2
  have b3 : ∀ s, s < 64 → (bt y s = true ↔ B s = 3) := fun s hs => by rw [ey]; exact bit 3 s (by omega) (by omega) hs
  have b9 : ∀ s, s < 64 → (bt y2 s = true ↔ B s = 9) := fun s hs => by rw [ey2]; exact bit 9 s (by omega) (by omega) hs
  have ne3 : ¬ y = 0 ↔ 0 < cn (fWh B) 64 := by
    rw [bt_ne, cn_pos]
    constructor
    · rintro ⟨s, hs, h⟩
      exact ⟨s, hs, by unfold fWh; rw [if_pos ((b3 s hs).mp h)]; omega⟩
    · rintro ⟨s, hs, h⟩
      refine ⟨s, hs, (b3 s hs).mpr ?_⟩
      unfold fWh at h
      split at h
      · assumption
      · omega
  have ne9 : ¬ y2 = 0 ↔ 0 < cn (fBl B) 64 := by
    rw [bt_ne, cn_pos]
    constructor
    · rintro ⟨s, hs, h⟩
      exact ⟨s, hs, by unfold fBl; rw [if_pos ((b9 s hs).mp h)]; omega⟩
    · rintro ⟨s, hs, h⟩
      refine ⟨s, hs, (b9 s hs).mpr ?_⟩
      unfold fBl at h
      split at h
      · assumption
      · omega
  rw [lg0, lg0]
  refine ⟨fun w => ?_, fun w => ⟨fun z => f146 (Or.inl ?_), fun z => ?_⟩⟩
  · -- four men
    have hO2 : O = 2 := by have := ee4.mp w; omega
    have hd : dead B ↔ cn (fWh B) 64 = 1 ∧ cn (fBl B) 64 = 1 ∧ cn (fLt B) 64 ≠ 1 := by
      unfold dead
      rw [← eO, hO2]
      constructor
      · rintro (z | z | z)
        · omega
        · omega
        · exact z.2
      · intro z
        exact Or.inr (Or.inr ⟨rfl, z⟩)
    have f60 : ∀ b : Bool, (b = true ↔ 0 < cn (fWh B) 64 ∧ 0 < cn (fBl B) 64) → X 60 0 0 [.long y, .long y2] [.int (bI b)] M := by
      intro b hb
      refine l60 _ _ _ _ _ ⟨rfl, vX4_isDead_60 hW (fun y3 ey3 => ⟨fun z => f109 (fun u => ?_), fun z => c_bitCount _ (vkX4_isDead_84 hW ?_)⟩)⟩
      · have u' := hd.mp u
        rw [bI_0.mp z] at hb
        exact absurd (hb.mpr ⟨by omega, by omega⟩) (by decide)
      · obtain ⟨p3, p9⟩ := hb.mp (bI_n.mp z)
        rw [pc_sqs]
        have hlen : (sqs (y ||| y2)).length = cn (fWh B) 64 + cn (fBl B) 64 := by
          rw [← cn_add]
          refine sqs_cn (fun s hs => ?_)
          have k : bt (y ||| y2) s = true ↔ B s = 3 ∨ B s = 9 := by rw [bt_or, Bool.or_eq_true, b3 s hs, b9 s hs]
          unfold fWh fBl
          by_cases u3 : B s = 3
          · rw [if_pos u3, if_neg (by omega), if_pos (k.mpr (Or.inl u3))]
          · rw [if_neg u3]
            by_cases u9 : B s = 9
            · rw [if_pos u9, if_pos (k.mpr (Or.inr u9))]
            · rw [if_neg u9, if_neg (fun v => (k.mp v).elim u3 u9)]
        rw [hlen]
        have l3 := cn_le (fWh_le B) 64
        have l9 := cn_le (fBl_le B) 64
        have e2 := nI_eq (a := cn (fWh B) 64 + cn (fBl B) 64) (b := 2) (by omega) (by decide)
        refine ⟨fun v => ?_, fun v => f109 (fun u => v (e2.mpr (by have := hd.mp u; omega)))⟩
        have hv := e2.mp v
        have w1 : cn (fWh B) 64 = 1 := by omega
        have w9 : cn (fBl B) 64 = 1 := by omega
        have hm3 : hm B 3 = 1 := w1
        have hm9 : hm B 9 = 1 := w9
        obtain ⟨s1, s1l, s1v, s1u, -⟩ := one_man hm3
        obtain ⟨s2, s2l, s2v, s2u, -⟩ := one_man hm9
        have hs12 : s1 ≠ s2 := fun e => by rw [e, s2v] at s1v; omega
        have hlt : cn (fLt B) 64 = (s1 % 8 + s1 / 8) % 2 + (s2 % 8 + s2 / 8) % 2 := by
          rw [← cn_one (k := s1) (v := (s1 % 8 + s1 / 8) % 2) 64 s1l, ← cn_one (k := s2) (v := (s2 % 8 + s2 / 8) % 2) 64 s2l, ← cn_add]
          refine cn_congr 64 (fun s hs => ?_)
          have := h12 s hs
          unfold fLt
          by_cases c1 : s = s1
          · have c3 : ¬ s = s2 := by rw [c1]; exact hs12
            have c4 : kd (B s) = 3 := by rw [c1, s1v]; rfl
            rw [if_pos c4, if_pos c1, if_neg c3, c1]
            rfl
          · by_cases c2 : s = s2
            · have c4 : kd (B s) = 3 := by rw [c2, s2v]; rfl
              rw [if_pos c4, if_neg c1, if_pos c2, c2, Nat.zero_add]
            · rw [if_neg c1, if_neg c2, if_neg]
              intro k3
              unfold kd at k3
              split at k3
              · exact c1 (s1u s hs k3)
              · exact c2 (s2u s hs (by omega))
        have hy3 : ∀ s, s < 64 → (bt y3 s = true ↔ (s = s1 ∨ s = s2) ∧ (s % 8 + s / 8) % 2 = 0) := by
          intro s hs
          rw [ey3, bt_and, bt_or, dark_bit s hs, Bool.and_eq_true, Bool.or_eq_true, b3 s hs, b9 s hs, decide_eq_true_eq]
          constructor
          · rintro ⟨u | u, p⟩
            · exact ⟨Or.inl (s1u s hs u), p⟩
            · exact ⟨Or.inr (s2u s hs u), p⟩
          · rintro ⟨u | u, p⟩
            · exact ⟨Or.inl (by rw [u]; exact s1v), p⟩
            · exact ⟨Or.inr (by rw [u]; exact s2v), p⟩
        have hwb : ∀ s, s < 64 → (bt (y ||| y2) s = true ↔ s = s1 ∨ s = s2) := by
          intro s hs
          rw [bt_or, Bool.or_eq_true, b3 s hs, b9 s hs]
          constructor
          · rintro (u | u)
            · exact Or.inl (s1u s hs u)
            · exact Or.inr (s2u s hs u)
          · rintro (u | u)
            · rw [u]; exact Or.inl s1v
            · rw [u]; exact Or.inr s2v
        have d0 : y3 = 0 ↔ (s1 % 8 + s1 / 8) % 2 = 1 ∧ (s2 % 8 + s2 / 8) % 2 = 1 := by
          constructor
          · intro u
            have n : ∀ s, s < 64 → ¬ bt y3 s = true := fun s _ z => by rw [u, bt_0] at z; exact absurd z (by decide)
            constructor
            · by_cases p : (s1 % 8 + s1 / 8) % 2 = 0
              · exact absurd ((hy3 s1 s1l).mpr ⟨Or.inl rfl, p⟩) (n s1 s1l)
              · omega
            · by_cases p : (s2 % 8 + s2 / 8) % 2 = 0
              · exact absurd ((hy3 s2 s2l).mpr ⟨Or.inr rfl, p⟩) (n s2 s2l)
              · omega
          · rintro ⟨p1, p2⟩
            by_cases u : y3 = 0
            · exact u
            · obtain ⟨s, hs, hbs⟩ := bt_ne.mp u
              obtain ⟨c, p⟩ := (hy3 s hs).mp hbs
              rcases c with c | c
              · rw [c] at p; omega
              · rw [c] at p; omega
        have d1 : y3 = y ||| y2 ↔ (s1 % 8 + s1 / 8) % 2 = 0 ∧ (s2 % 8 + s2 / 8) % 2 = 0 := by
          constructor
          · intro u
            have n1 := (hwb s1 s1l).mpr (Or.inl rfl)
            have n2 := (hwb s2 s2l).mpr (Or.inr rfl)
            rw [← u] at n1 n2
            exact ⟨((hy3 s1 s1l).mp n1).2, ((hy3 s2 s2l).mp n2).2⟩
          · rintro ⟨p1, p2⟩
            apply bt_ext
            intro s hs
            have a := hy3 s hs
            have b := hwb s hs
            rcases u : bt (y ||| y2) s with _ | _
            · rw [u] at b
              rcases t : bt y3 s with _ | _
              · rfl
              · exact absurd (b.mpr (a.mp t).1) (by decide)
            · refine a.mpr ⟨b.mp u, ?_⟩
              rcases b.mp u with c | c
              · rw [c]; exact p1
              · rw [c]; exact p2
        rw [lg0, lgE, d0, d1]
        refine ⟨fun p => f105 (hd.mpr ⟨w1, w9, by rw [hlt]; omega⟩), fun p => ⟨fun p2 => f105 (hd.mpr ⟨w1, w9, by rw [hlt]; omega⟩), fun p2 => f109 (fun u => ?_)⟩⟩
        have := (hd.mp u).2.2
        rw [hlt] at this
        omega
    have f59 : ¬ (0 < cn (fWh B) 64 ∧ 0 < cn (fBl B) 64) → X 59 0 0 [.long y, .long y2] [] M := fun h => l59 _ _ _ _ _ ⟨rfl, vX4_isDead_59 hW (f60 false ⟨fun q => absurd q (by decide), fun q => absurd q h⟩)⟩
    refine ⟨fun z => f59 (fun u => ne3.mpr u.1 z), fun z => ⟨fun v => f59 (fun u => ne9.mpr u.2 v), fun v => f60 true ⟨fun _ => ⟨ne3.mp z, ne9.mp v⟩, fun _ => rfl⟩⟩⟩
  · have := ee2.mp z
    rw [← eO]
    omega
  · -- three men
    have hO1 : O = 1 := by
      have a1 := e4.mp q
      have a2 : ¬ 2 + O = 4 := fun u => w (ee4.mpr u)
      have a3 : ¬ 2 + O = 2 := fun u => z (ee2.mpr u)
      omega
    have hmi : cn (fMin B) 64 ≤ cn (fOth B) 64 := cn_mono 64 (fun s hs => by
      unfold fMin fOth
      split
      · rw [if_pos (by omega)]
        exact Nat.le_refl _
      · exact Nat.zero_le _)
    have hd : dead B ↔ 0 < cn (fMin B) 64 := by
      rw [← eO, hO1] at hmi
      unfold dead
      rw [← eO, hO1]
      constructor
      · rintro (v | v | v)
        · omega
        · omega
        · omega
      · intro v
        exact Or.inr (Or.inl ⟨rfl, by omega⟩)
    have key : ¬ (((y ||| y2) ||| M.2.1 (g + 3) 2) ||| M.2.1 (g + 3) 8) = 0 ↔ 0 < cn (fMin B) 64 := by
      rw [bt_ne, cn_pos]
      constructor
      · rintro ⟨s, hs, h⟩
        rw [bt_or, bt_or, bt_or, Bool.or_eq_true, Bool.or_eq_true, Bool.or_eq_true, b3 s hs, b9 s hs, bit 2 s (by omega) (by omega) hs, bit 8 s (by omega) (by omega) hs] at h
        refine ⟨s, hs, ?_⟩
        unfold fMin kd
        rw [if_pos (by split <;> omega)]
        omega
      · rintro ⟨s, hs, h⟩
        refine ⟨s, hs, ?_⟩
        rw [bt_or, bt_or, bt_or, Bool.or_eq_true, Bool.or_eq_true, Bool.or_eq_true, b3 s hs, b9 s hs, bit 2 s (by omega) (by omega) hs, bit 8 s (by omega) (by omega) hs]
        exact min_13 (B s) (h12 s hs) h
    rw [lg0]
    refine ⟨fun v => f151 false ⟨fun u => absurd u (by decide), fun u => absurd v (key.mpr (hd.mp u))⟩, fun v => f146 (hd.mpr (key.mp v))⟩
set_option maxHeartbeats 4000000 in
theorem c_judge {mc ms : Nat} {M : zM} {g : Nat} (hW : zWd M g) {P : Ps} (hG : Gd P) (hP : bPs M g P) (hL : gLs M g P) {i c : Nat} (hi : i < 601) (h5 : M.1 (g + 8) (8 * i + 5) = bI (chB P)) (h0 : M.1 (g + 8) (8 * i) = nI c) (hc : c < 2 ^ 30) (hcl : P.2.2.2.2.1 < 2 ^ 30) {Q : zQt} (hq : Q (some (.int (nI (vdt P c)))) M) : wX4_judge mc ms [.ref g, .int (nI (8 * i))] M Q := by
  refine ⟨⟨Nat.le_of_ble_eq_true rfl, rfl⟩, fun X l0 l24 l89 l108 => ?_⟩
  have hLen := Gd_len hG
  have f24 : ∀ v, v = vdt P c → X 24 0 0 [] [.int (nI v)] M := fun v hv => l24 _ _ _ _ _ ⟨rfl, vX4_judge_24 hW (by rw [hv]; exact hq)⟩
  have f89 : ∀ v, v = vdt P c → X 89 0 0 [] [.int (nI v)] M := fun v hv => l89 _ _ _ _ _ ⟨rfl, vX4_judge_89 hW (by rw [hv]; exact hq)⟩
  have f108 : ∀ v, v = vdt P c → X 108 0 0 [] [.int (nI v)] M := fun v hv => l108 _ _ _ _ _ ⟨rfl, vX4_judge_108 hW (by rw [hv]; exact hq)⟩
  refine l0 _ _ _ _ _ ⟨rfl, vX4_judge_0 hW ?_⟩
  rw [hL.1, show nI (8 * i) + (5 : Int32) = nI (8 * i + 5) from nI_add _ 5, nI_clamp (by omega), h5]
  have el := nI_eq (a := (mvs P).length) (b := 0) (by omega) (by decide)
  refine ⟨fun q => ⟨vp_in_nI (by omega) (by omega), fun w => f24 1 ?_, fun w => f24 2 ?_⟩, fun q => ?_⟩
  · unfold vdt
    rw [if_pos (el.mp q), if_pos]
    rcases z : chB P with _ | _
    · rw [z] at w; exact absurd w (by decide)
    · rfl
  · unfold vdt
    rw [if_pos (el.mp q), if_neg]
    intro z
    rw [z] at w
    exact w rfl
  have hl : ¬ (mvs P).length = 0 := fun z => q (el.mpr z)
  refine c_isDeadC hW hP.1 hG.2.1 (fun z => vkX4_judge_29 hW ⟨fun w => absurd w (by decide), fun _ => ?_⟩) (fun z => vkX4_judge_29 hW ⟨fun _ => ?_, fun w => absurd rfl w⟩)
  · unfold vdt at hq
    rw [if_neg hl, if_pos z] at hq
    exact hq
  · rw [show nI (8 * i) + (0 : Int32) = nI (8 * i) from nI_add _ 0, nI_clamp (by omega), hP.2.2.2.2.1]
    refine ⟨vp_in_nI (by omega) (by omega), fun y ey => ?_⟩
    rw [h0] at ey
    subst ey
    have e5 := nI_ltI (a := c) (b := 5) (by omega) (by decide)
    have e3 := nI_ltI (a := c) (b := 3) (by omega) (by decide)
    have e150 := nI_ltI (a := P.2.2.2.2.1) (b := 150) (by omega) (by decide)
    have e100 := nI_ltI (a := P.2.2.2.2.1) (b := 100) (by omega) (by decide)
    have hv : vdt P c = if 5 ≤ c then 4 else if 150 ≤ P.2.2.2.2.1 then 5 else if 3 ≤ c then (if 100 ≤ P.2.2.2.2.1 then 8 else 6) else if 100 ≤ P.2.2.2.2.1 then 7 else 0 := by
      unfold vdt
      rw [if_neg hl, if_neg z]
    refine ⟨fun a => ⟨fun b => ⟨fun d => ⟨fun e => f108 0 ?_, fun e => f108 7 ?_⟩, fun d => ⟨fun e => f89 6 ?_, fun e => f89 8 ?_⟩⟩, fun b => ?_⟩, fun a => ?_⟩
    · have := e5.mp a; have := e150.mp b; have := e3.mp d; have := e100.mp e
      rw [hv, if_neg (by omega), if_neg (by omega), if_neg (by omega), if_neg (by omega)]
    · have := e5.mp a; have := e150.mp b; have := e3.mp d
      have : ¬ P.2.2.2.2.1 < 100 := fun u => e (e100.mpr u)
      rw [hv, if_neg (by omega), if_neg (by omega), if_neg (by omega), if_pos (by omega)]
    · have := e5.mp a; have := e150.mp b; have := e100.mp e
      have : ¬ c < 3 := fun u => d (e3.mpr u)
      rw [hv, if_neg (by omega), if_neg (by omega), if_pos (by omega), if_neg (by omega)]
    · have := e5.mp a; have := e150.mp b
      have : ¬ c < 3 := fun u => d (e3.mpr u)
      have : ¬ P.2.2.2.2.1 < 100 := fun u => e (e100.mpr u)
      rw [hv, if_neg (by omega), if_neg (by omega), if_pos (by omega), if_pos (by omega)]
    · have := e5.mp a
      have : ¬ P.2.2.2.2.1 < 150 := fun u => b (e150.mpr u)
      rw [hv, if_neg (by omega), if_pos (by omega)] at hq
      exact hq
    · have : ¬ c < 5 := fun u => a (e5.mpr u)
      rw [hv, if_pos (by omega)] at hq
      exact hq
