/-! THE CLASS'S ENDINGS: what is known is read -/
def noT : Nat → Nat → Nat → Prop := fun _ _ _ => False
theorem bt_1 {s : Nat} : bt 1 s = decide (s = 0) := by
  unfold bt
  rw [show nn (1 : Int64) = 2 ^ 0 from rfl, Nat.testBit_two_pow]
  by_cases h : s = 0
  · rw [h]
  · rw [decide_eq_false h, decide_eq_false (fun q => h q.symm)]
theorem bit_int (x : Int64) {w : Nat} (hw : w < 64) : ((((x.toUInt64 >>> ((nI w).toInt64.toUInt64 &&& Int64.toUInt64 63)).toInt64) &&& (1 : Int64))).toInt32 = nI (if bt x w = true then 1 else 0) := by
  cases h : bt x w
  · rw [(one_bit x hw).mpr h]; rfl
  · have : (((x.toUInt64 >>> ((nI w).toInt64.toUInt64 &&& Int64.toUInt64 63)).toInt64) &&& (1 : Int64)) = 1 := bt_ext (fun s hs => by
      rw [bt_and, bt_shr x hw, bt_1]
      by_cases e : s = 0
      · rw [e, Nat.add_zero, h]; rfl
      · rw [decide_eq_false e, Bool.and_false])
    rw [this]; rfl
theorem rdb_all : (List.range 64).all (fun D => (List.range 5).all (fun j => decide (nI (D % 2 ^ (j + 1)) ||| (nI (D / 2 ^ (j + 1) % 2) <<< ((nI j + (1 : Int32)) &&& 31)) = nI (D % 2 ^ (j + 1 + 1))))) = true := by decide +kernel
theorem rdb_of {D j : Nat} (hD : D < 64) (hj : j < 5) : nI (D % 2 ^ (j + 1)) ||| (nI (D / 2 ^ (j + 1) % 2) <<< ((nI j + (1 : Int32)) &&& 31)) = nI (D % 2 ^ (j + 1 + 1)) := of_decide_eq_true (List.all_eq_true.mp (List.all_eq_true.mp rdb_all D (List.mem_range.mpr hD)) j (List.mem_range.mpr hj))
theorem dig_eq {d n : Nat} (hd : d < 64) (hn : n < 64) (h0 : d % 2 = n % 2) (h : ∀ j, j < 5 → d / 2 ^ (j + 1) % 2 = n / 2 ^ (j + 1) % 2) : d = n := by
  have a0 := h 0 (by omega)
  have a1 := h 1 (by omega)
  have a2 := h 2 (by omega)
  have a3 := h 3 (by omega)
  have a4 := h 4 (by omega)
  simp only [Nat.reduceAdd, Nat.reducePow] at a0 a1 a2 a3 a4
  omega
theorem c_lostIn {mc ms : Nat} {M : zM} {g : Nat} (hW : zWd M g) {e k n : Nat} (k1 : 1 ≤ k) (k5 : k ≤ 5) (hE : eSh M e) (hn : n < 64) (n2 : n % 2 = 0) (hK : kR M e k 100 false noT) {s p : Nat} (hs : s < 64) (hp : p < 64) {Q : zQt} (hq : ∀ r, (∀ w, w < 64 → (bt r w = true ↔ isD k s p w false n)) → Q (some (.long r)) M) : wX2_lostIn mc ms [.ref e, .int (nI (64 * p + s)), .int (nI n)] M Q := by
  refine ⟨⟨Nat.le_of_ble_eq_true rfl, rfl⟩, fun X l0 l10 l54 => ?_⟩
  obtain ⟨sh0, rc, ⟨r4, r5, r6, r7, r8, r9, r10⟩, ⟨sh1, sh2, sh3, sh4, sh5, sh6, sh7⟩, e82⟩ := id hE
  obtain ⟨i, ei⟩ : ∃ i, i = 64 * p + s := ⟨_, rfl⟩
  have i4 : i < 4096 := by omega
  have row : ∀ w, w < 64 → (bt (M.2.1 (e + 3) i) w = true ↔ ∃ d, d < 100 ∧ isD k s p w false d) := fun w hw => by
    have a := (hK s p w hs hp hw).1
    rw [if_neg (by decide), ← ei] at a
    rw [a]
    exact ⟨fun q => q.elim id (fun q => absurd q id), fun q => Or.inl q⟩
  have dg : ∀ j w, j < 5 → w < 64 → (bt (M.2.1 (e + 7) (j * 4096 + i)) w = true ↔ ∃ d, d < 100 ∧ isD k s p w false d ∧ d / 2 ^ (j + 1) % 2 = 1) := fun j w hj hw => by
    have a := (hK s p w hs hp hw).2 j hj
    rw [if_neg (by decide), ← ei, Nat.zero_add] at a
    rw [a]
    exact ⟨fun q => q.elim id (fun q => absurd q.1 id), fun q => Or.inl q⟩
  rw [← ei]
  have loop : ∀ (r j : Nat) (x : Int64), j + r = 5 → (∀ w, w < 64 → (bt x w = true ↔ ∃ d, d < 100 ∧ isD k s p w false d ∧ ∀ j', j' < j → d / 2 ^ (j' + 1) % 2 = n / 2 ^ (j' + 1) % 2)) → X 10 0 0 [.ref e, .int (nI i), .int (nI n), .long x, .int (nI j)] [] M := by
    intro r
    induction r with
    | zero =>
      intro j x hj hx
      have hj : j = 5 := by omega
      subst hj
      refine l10 _ _ _ _ _ ⟨rfl, vX2_lostIn_10 hW sh0 ⟨fun _ => hq x (fun w hw => ?_), fun c => absurd (by decide) c⟩⟩
      rw [hx w hw]
      constructor
      · rintro ⟨d, a, b, c⟩
        have d58 := isD_lt k1 k5 hs hp hw b
        have par := isD_par b
        have : d % 2 = 0 := by
          have : ¬ d % 2 = 1 := fun q => absurd (par.mpr q) (by decide)
          omega
        rw [← dig_eq (by omega) hn (by omega) c]
        exact b
      · intro h
        have := isD_lt k1 k5 hs hp hw h
        exact ⟨n, by omega, h, fun _ _ => rfl⟩
    | succ r ih =>
      intro j x hj hx
      have j5 : j < 5 := by omega
      refine l10 _ _ _ _ _ ⟨rfl, vX2_lostIn_10 hW sh0 ⟨fun c => absurd ((nI_leI (a := 5) (by decide) (by omega)).mp c) (by omega), fun _ => ⟨e + 7, 40960, r10, sh7, ?_⟩⟩⟩
      rw [show nI j * (4096 : Int32) = nI (j * 4096) from pk_mul j 4096, nI_add, nI_clamp (by omega), bit_of hn j5]
      refine ⟨vp_in_nI (by omega) (by omega), fun y ey => ?_⟩
      have nx : ∀ y2 : Int64, (∀ w, w < 64 → (bt y2 w = true ↔ (bt y w = true ↔ n / 2 ^ (j + 1) % 2 = 1))) → X 54 0 0 [.ref e, .int (nI i), .int (nI n), .int (nI j)] [.long y2, .long x] M := fun y2 h2 => by
        refine l54 _ _ _ _ _ ⟨rfl, vX2_lostIn_54 hW sh0 ?_⟩
        rw [show nI j + (1 : Int32) = nI (j + 1) from nI_add _ 1]
        refine ih (j + 1) _ (by omega) (fun w hw => ?_)
        rw [bt_and, Bool.and_eq_true, hx w hw, h2 w hw, ey, dg j w j5 hw]
        constructor
        · rintro ⟨⟨d, a, b, c⟩, z⟩
          refine ⟨d, a, b, fun j' hj' => ?_⟩
          by_cases q : j' = j
          · rw [q]
            have b2 : d / 2 ^ (j + 1) % 2 < 2 := Nat.mod_lt _ (by decide)
            have b3 : n / 2 ^ (j + 1) % 2 < 2 := Nat.mod_lt _ (by decide)
            by_cases y1 : n / 2 ^ (j + 1) % 2 = 1
            · obtain ⟨d2, _, b4, b5⟩ := z.mpr y1
              rw [isD_uniq b b4, b5, y1]
            · have : ¬ d / 2 ^ (j + 1) % 2 = 1 := fun q => y1 (z.mp ⟨d, a, b, q⟩)
              omega
          · exact c j' (by omega)
        · rintro ⟨d, a, b, c⟩
          refine ⟨⟨d, a, b, fun j' hj' => c j' (by omega)⟩, ?_⟩
          rw [← c j (by omega)]
          exact ⟨fun ⟨d2, _, b4, b5⟩ => by rw [isD_uniq b b4]; exact b5, fun q => ⟨d, a, b, q⟩⟩
      refine ⟨fun z => nx _ (fun w hw => ?_), fun z => nx _ (fun w hw => ?_)⟩
      · have z : ¬ n / 2 ^ (j + 1) % 2 = 1 := fun q => by rw [q] at z; exact absurd z (by decide)
        rw [bt_not _ hw, Bool.not_eq_true', ← Bool.not_eq_true]
        exact ⟨fun h => ⟨fun q => absurd q h, fun q => absurd q z⟩, fun h q => z (h.mp q)⟩
      · have z : n / 2 ^ (j + 1) % 2 = 1 := by
          have : n / 2 ^ (j + 1) % 2 ≠ 0 := fun q => z (by rw [q]; rfl)
          omega
        exact ⟨fun h => ⟨fun _ => z, fun _ => h⟩, fun h => h.mpr z⟩
  refine l0 _ _ _ _ _ ⟨rfl, vX2_lostIn_0 hW sh0 ⟨e + 3, 4096, r6, sh3, vp_in_nI i4 (by omega), fun y ey => ?_⟩⟩
  rw [nI_clamp (by omega)] at ey
  refine loop 5 0 y (by omega) (fun w hw => ?_)
  rw [ey, row w hw]
  exact ⟨fun ⟨d, a, b⟩ => ⟨d, a, b, fun j' h => absurd h (by omega)⟩, fun ⟨d, a, b, _⟩ => ⟨d, a, b⟩⟩
theorem c_read {mc ms : Nat} {M : zM} {g : Nat} (hW : zWd M g) {e k : Nat} (k1 : 1 ≤ k) (k5 : k ≤ 5) (hE : eSh M e) {sm : Bool} (hK : kR M e k 100 sm noT) {s p w : Nat} (hs : s < 64) (hp : p < 64) (hw : w < 64) {Q : zQt} (hq : ∀ v, eV k s p w sm 100 v → Q (some (.int v)) M) : wX2_read mc ms [.ref e, .int (nI (64 * p + s)), .int (nI w), .int (bI sm)] M Q := by
  refine ⟨⟨Nat.le_of_ble_eq_true rfl, rfl⟩, fun X l0 l19 l43 l52 => ?_⟩
  obtain ⟨sh0, rc, ⟨r4, r5, r6, r7, r8, r9, r10⟩, ⟨sh1, sh2, sh3, sh4, sh5, sh6, sh7⟩, e82⟩ := id hE
  obtain ⟨i, ei⟩ : ∃ i, i = 64 * p + s := ⟨_, rfl⟩
  have i4 : i < 4096 := by omega
  obtain ⟨o, ho⟩ : ∃ o, o = if sm = true then 5 else 0 := ⟨_, rfl⟩
  have o5 : (sm = true ∧ o = 5) ∨ (sm = false ∧ o = 0) := by
    cases sm
    · exact Or.inr ⟨rfl, by rw [ho]; rfl⟩
    · exact Or.inl ⟨rfl, by rw [ho]; rfl⟩
  have row : bt (M.2.1 (e + (if sm = true then 5 else 3)) i) w = true ↔ ∃ d, d < 100 ∧ isD k s p w sm d := by
    have a := (hK s p w hs hp hw).1
    rw [← ei] at a
    rw [a]
    exact ⟨fun q => q.elim id (fun q => absurd q id), fun q => Or.inl q⟩
  have dg : ∀ j, j < 5 → (bt (M.2.1 (e + 7) ((o + j) * 4096 + i)) w = true ↔ ∃ d, d < 100 ∧ isD k s p w sm d ∧ d / 2 ^ (j + 1) % 2 = 1) := fun j hj => by
    have a := (hK s p w hs hp hw).2 j hj
    rw [← ei, ← ho] at a
    rw [a]
    exact ⟨fun q => q.elim id (fun q => absurd q.1 id), fun q => Or.inl q⟩
  rw [← ei]
  have run : ∀ d, d < 64 → isD k s p w sm d → ∀ (r j : Nat), j + r = 5 → X 52 0 0 [.ref e, .int (nI i), .int (nI w), .int (bI sm), .int (nI (d % 2 ^ (j + 1))), .int (nI j)] [] M := by
    intro d d64 hD r
    induction r with
    | zero =>
      intro j hj
      have hj : j = 5 := by omega
      subst hj
      refine l52 _ _ _ _ _ ⟨rfl, vX2_read_52 hW sh0 ⟨fun _ => hq _ (Or.inl ⟨d, by omega, hD, ?_⟩), fun c => absurd (by decide) c⟩⟩
      rw [show d % 2 ^ (5 + 1) = d by simp only [Nat.reduceAdd, Nat.reducePow]; omega]
    | succ r ih =>
      intro j hj
      have j5 : j < 5 := by omega
      refine l52 _ _ _ _ _ ⟨rfl, vX2_read_52 hW sh0 ⟨fun c => absurd ((nI_leI (a := 5) (by decide) (by omega)).mp c) (by omega), fun _ => ⟨e + 7, 40960, r10, sh7, ?_⟩⟩⟩
      have ix : (bI sm * (5 : Int32) + nI j) * (4096 : Int32) + nI i = nI ((o + j) * 4096 + i) := by
        have : bI sm * (5 : Int32) = nI o := by
          rcases o5 with ⟨a, b⟩ | ⟨a, b⟩ <;> rw [a, b] <;> rfl
        rw [this, nI_add, show nI (o + j) * (4096 : Int32) = nI ((o + j) * 4096) from pk_mul _ 4096, nI_add]
      have hb : (o + j) * 4096 + i < 40960 := by rcases o5 with ⟨_, q⟩ | ⟨_, q⟩ <;> omega
      rw [ix, nI_clamp (by omega)]
      refine ⟨vp_in_nI hb (by omega), fun y ey y2 ey2 => ?_⟩
      rw [bit_int y hw, ey] at ey2
      have bit : (if bt (M.2.1 (e + 7) ((o + j) * 4096 + i)) w = true then 1 else 0) = d / 2 ^ (j + 1) % 2 := by
        have b2 : d / 2 ^ (j + 1) % 2 < 2 := Nat.mod_lt _ (by decide)
        by_cases q : bt (M.2.1 (e + 7) ((o + j) * 4096 + i)) w = true
        · rw [if_pos q]
          obtain ⟨d2, _, b4, b5⟩ := (dg j j5).mp q
          rw [isD_uniq hD b4, b5]
        · rw [if_neg q]
          have : ¬ d / 2 ^ (j + 1) % 2 = 1 := fun z => q ((dg j j5).mpr ⟨d, by omega, hD, z⟩)
          omega
      rw [bit, rdb_of d64 j5] at ey2
      rw [ey2, show nI j + (1 : Int32) = nI (j + 1) from nI_add _ 1]
      exact ih (j + 1) (by omega)
  have f19 : ∀ x : Int64, (bt x w = true ↔ ∃ d, d < 100 ∧ isD k s p w sm d) → X 19 0 0 [.ref e, .int (nI i), .int (nI w), .int (bI sm)] [.long x] M := fun x hx => by
    refine l19 _ _ _ _ _ ⟨rfl, vX2_read_19 hW sh0 ⟨fun c => ?_, fun c => ?_⟩⟩
    · have c := (one_bit x hw).mp (lg0.mp c)
      refine hq (-1) (Or.inr ⟨fun d hd q => ?_, rfl⟩)
      rw [hx.mpr ⟨d, hd, q⟩] at c
      exact absurd c (by decide)
    · have c : bt x w = true := by
        cases h : bt x w
        · exact absurd (lg0.mpr ((one_bit x hw).mpr h)) c
        · rfl
      obtain ⟨d, _, hD⟩ := hx.mp c
      have d58 := isD_lt k1 k5 hs hp hw hD
      have par := isD_par hD
      have st := run d (by omega) hD 5 0 (by omega)
      have d2 : nI (d % 2 ^ (0 + 1)) = bI sm := by
        simp only [Nat.zero_add, Nat.pow_one]
        cases sm
        · have : ¬ d % 2 = 1 := fun q => absurd (par.mpr q) (by decide)
          rw [show d % 2 = 0 by omega]; rfl
        · rw [par.mp rfl]; rfl
      rw [d2] at st
      have f43 : X 43 0 0 [.ref e, .int (nI i), .int (nI w)] [.int (bI sm)] M := l43 _ _ _ _ _ ⟨rfl, vX2_read_43 hW sh0 st⟩
      exact ⟨fun z => by rw [bI_0.mp z] at f43; exact f43, fun z => by rw [bI_n.mp z] at f43; exact f43⟩
  refine l0 _ _ _ _ _ ⟨rfl, vX2_read_0 hW sh0 ⟨fun z => ⟨e + 3, 4096, r6, sh3, vp_in_nI i4 (by omega), ?_⟩, fun z => ⟨e + 5, 4096, r8, sh5, vp_in_nI i4 (by omega), ?_⟩⟩⟩
  · rw [nI_clamp (by omega)]
    have z := bI_0.mp z
    rw [if_neg (by rw [z]; decide)] at row
    exact f19 _ row
  · rw [nI_clamp (by omega)]
    have z := bI_n.mp z
    rw [if_pos z] at row
    exact f19 _ row
