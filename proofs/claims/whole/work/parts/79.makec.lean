/-! THE CLASS'S make -/
theorem nI_or {k x y : Nat} (hx : x < 2 ^ k) (hb : x + 2 ^ k * y < 2 ^ 31) : nI x ||| nI (2 ^ k * y) = nI (x + 2 ^ k * y) := by
  apply Int32.toBitVec_inj.mp
  apply BitVec.eq_of_toNat_eq
  have hy : 2 ^ k * y < 2 ^ 31 := by omega
  rw [Int32.toBitVec_or, BitVec.toNat_or, pk_tn (by omega), pk_tn (by omega), pk_tn (by omega), Nat.or_comm, Nat.add_comm]
  exact (Nat.two_pow_add_eq_or_of_lt hx y).symm
theorem cs_iff {P : Ps} (hO : psOk P) {a b pr : Nat} (h : mvK P a b pr) : (cas P a b = true → P.1 a = 6 + 6 * P.2.1 ∧ csI P a b = (b : Int) - a ∧ ((b : Int) - a = 2 ∨ (b : Int) - a = -2)) ∧ (cas P a b = false → csI P a b = 0) := by
  have o := (own_man (hO.1 a h.1) hO.2.1).mp h.2.2.1.1.1
  have hc := hO.2.1
  unfold cas csI
  constructor
  · intro q
    simp only [Bool.and_eq_true, Bool.or_eq_true, decide_eq_true_eq] at q
    have := (kd_6 (hO.1 a h.1)).mp q.1
    have e : P.1 a = 6 + 6 * P.2.1 := by omega
    have e2 : (b : Int) - a = 2 ∨ (b : Int) - a = -2 := by omega
    refine ⟨e, ?_, e2⟩
    rw [if_pos ⟨e, e2⟩]
  · intro q
    rw [if_neg]
    rintro ⟨e, e2⟩
    have k6 : kd (P.1 a) = 6 := (kd_6 (hO.1 a h.1)).mpr (by omega)
    rw [k6] at q
    simp at q
    omega
/-- for a legal move: the class's test for taking in passing is the reference's -/
theorem pss_psg {P : Ps} (hO : psOk P) {a b pr : Nat} (h : mvK P a b pr) : pss P a b ↔ psg P a b = true := by
  have hA := hO.1 a h.1
  have o := (own_man hA hO.2.1).mp h.2.2.1.1.1
  constructor
  · rintro ⟨h1, h2, h3⟩
    have k1 : kd (P.1 a) = 1 := (kd_1 hA).mpr (by omega)
    have pg := h.2.2.1.1.2.2.2.1 k1
    have hu : upI P.2.1 = 8 ∨ upI P.2.1 = -8 := by
      unfold upI
      split
      · exact Or.inl rfl
      · exact Or.inr rfl
    unfold pgo at pg
    have ht : tip P a b := by
      split at pg
      · rename_i e
        exfalso
        omega
      · split at pg
        · rename_i e
          exfalso
          omega
        · rcases pg with q | q
          · omega
          · exact q
    unfold psg pwn
    simp only [Bool.and_eq_true, decide_eq_true_eq]
    exact ⟨k1, tipB_t.mpr ht⟩
  · intro q
    obtain ⟨k1, t1, t2, t3, t4, t5⟩ := psg_tip q
    refine ⟨t1, ?_, t4⟩
    have := (t2.2.2.1 k1).1
    unfold aI dF at this
    split at this <;> omega
def whr (P : Ps) (a b : Nat) : Nat := if P.2.1 = 0 then b - 8 else b + 8
theorem psg_sq {P : Ps} (hO : psOk P) {a b : Nat} (h : psg P a b = true) : P.1 a = 1 + 6 * P.2.1 ∧ (if P.2.1 = 0 then 40 ≤ b ∧ b < 48 else 16 ≤ b ∧ b < 24) ∧ P.1 b = 0 ∧ P.1 (whr P a b) = 7 - 6 * P.2.1 ∧ whr P a b < 64 ∧ whr P a b ≠ b ∧ whr P a b ≠ a := by
  obtain ⟨k1, t1, t2, t3, t4, t5⟩ := psg_tip h
  unfold psq at t3
  have hc := hO.2.1
  have hb : if P.2.1 = 0 then 40 ≤ b ∧ b < 48 else 16 ≤ b ∧ b < 24 := by
    split at t3
    · split at t3 <;> rename_i q <;> (first | rw [if_pos q] | rw [if_neg q]) <;> omega
    · omega
  refine ⟨t1, hb, t4, t5, ?_, ?_, ?_⟩
  · unfold whr
    split at hb <;> rename_i q <;> (first | rw [if_pos q] | rw [if_neg q]) <;> omega
  · unfold whr
    split at hb <;> rename_i q <;> (first | rw [if_pos q] | rw [if_neg q]) <;> omega
  · intro e
    have t5 : P.1 (whr P a b) = 7 - 6 * P.2.1 := t5
    rw [e] at t5
    omega
theorem xor8 : ∀ b, b < 64 → nI b ^^^ (8 : Int32) = nI (if b / 8 % 2 = 1 then b - 8 else b + 8) := by decide +kernel
theorem psg_xor {P : Ps} (hO : psOk P) {a b : Nat} (hb : b < 64) (h : psg P a b = true) : nI b ^^^ (8 : Int32) = nI (whr P a b) := by
  have := (psg_sq hO h).2.1
  rw [xor8 b hb]
  unfold whr
  split at this <;> rename_i q
  · rw [if_pos q, if_pos (by omega)]
  · rw [if_neg q, if_neg (by omega)]
theorem wo_iff : ∀ r, r < 16 → ∀ w, w < 16 → ∀ k, k < 4 → wo r w / 2 ^ k % 2 = (if w / 2 ^ k % 2 = 0 then r / 2 ^ k % 2 else 0) := by decide +kernel
theorem bits4 : ∀ u, u < 16 → ∀ v, v < 16 → (∀ k, k < 4 → u / 2 ^ k % 2 = v / 2 ^ k % 2) → u = v := by decide +kernel
theorem rAtS_bit : ∀ s, s < 64 → ∀ k, k < 4 → (rAtS s / 2 ^ k % 2 = 0 ↔ crn s / 2 ^ k % 2 = 0 ∧ s ≠ 4 + 56 * (k / 2)) := by decide +kernel
theorem rAtS_lt (s : Nat) : rAtS s < 16 := by
  unfold rAtS
  split
  · omega
  split
  · omega
  split
  · omega
  split
  · omega
  split
  · omega
  split <;> omega
theorem c34 : ∀ c, c ≤ 1 → ∀ k, k < 4 → 3 * 4 ^ c < 16 ∧ (3 * 4 ^ c / 2 ^ k % 2 = 0 ↔ k / 2 ≠ c) := by decide +kernel
theorem rights_mk {P : Ps} (hG : Gd P) {a b pr : Nat} (h : mvK P a b pr) : wo (wo P.2.2.1 (rAtS a)) (rAtS b) = mkR P a b := by
  obtain ⟨hO, hk, -, hr, -, -⟩ := hG
  have hc := hO.2.1
  have r16 := hO.2.2.1
  have ra := rAtS_lt a
  have rb := rAtS_lt b
  have ca := crn_lt a
  have cb := crn_lt b
  have w3 := (c34 P.2.1 hc 0 (by omega)).1
  have x1 := (wo_and _ r16 _ ra).2
  obtain ⟨r0, er0⟩ : ∃ r0, r0 = (if kd (P.1 a) = 6 then wo P.2.2.1 (3 * 4 ^ P.2.1) else P.2.2.1) := ⟨_, rfl⟩
  have y0 : r0 < 16 := by
    rw [er0]
    split
    · exact (wo_and _ r16 _ w3).2
    · exact r16
  have y1 := (wo_and _ y0 _ ca).2
  unfold mkR
  rw [← er0]
  refine bits4 _ (wo_and _ x1 _ rb).2 _ (wo_and _ y1 _ cb).2 (fun k hk4 => ?_)
  rw [wo_iff _ x1 _ rb k hk4, wo_iff _ r16 _ ra k hk4, wo_iff _ y1 _ cb k hk4, wo_iff _ y0 _ ca k hk4]
  have e0 : r0 / 2 ^ k % 2 = if kd (P.1 a) = 6 ∧ k / 2 = P.2.1 then 0 else P.2.2.1 / 2 ^ k % 2 := by
    rw [er0]
    by_cases q : kd (P.1 a) = 6
    · rw [if_pos q, wo_iff _ r16 _ w3 k hk4]
      have z := (c34 P.2.1 hc k hk4).2
      by_cases w : k / 2 = P.2.1
      · rw [if_neg (fun u => (z.mp u) w), if_pos ⟨q, w⟩]
      · rw [if_pos (z.mpr w), if_neg (fun u => w u.2)]
    · rw [if_neg q, if_neg (fun u => q u.1)]
  rw [e0]
  by_cases hz : P.2.2.1 / 2 ^ k % 2 = 0
  · rw [hz]
    simp
  · have hh : rhm P k := by
      rcases hr k hk4 with q | q
      · exact q
      · exact absurd q hz
    have hA := hO.1 a h.1
    have own := (own_man hA hc).mp h.2.2.1.1.1
    have hbk : b ≠ 4 + 56 * (k / 2) := by
      intro e
      have := hh.1
      rw [show 56 * (k / 2) + 4 = b by omega] at this
      exact h.2.2.1.1.2.2.1 ((kd_6 (hO.1 b h.2.1)).mpr (by omega))
    have hak : a = 4 + 56 * (k / 2) ↔ kd (P.1 a) = 6 ∧ k / 2 = P.2.1 := by
      constructor
      · intro e
        have := hh.1
        rw [show 56 * (k / 2) + 4 = a by omega] at this
        exact ⟨(kd_6 hA).mpr (by omega), by omega⟩
      · rintro ⟨q1, q2⟩
        have q3 := (kd_6 hA).mp q1
        have hone : hm P.1 (6 + 6 * P.2.1) = 1 := by
          rcases (show P.2.1 = 0 ∨ P.2.1 = 1 by omega) with z | z
          · rw [z]; exact hk.1
          · rw [z]; exact hk.2
        obtain ⟨t, t1, t2, t3, -⟩ := one_man hone
        have u1 := t3 a h.1 (by omega)
        have u2 := t3 (56 * (k / 2) + 4) (by omega) (by rw [hh.1, q2])
        omega
    have ba := rAtS_bit a h.1 k hk4
    have bb := rAtS_bit b h.2.1 k hk4
    by_cases ua : crn a / 2 ^ k % 2 = 0
    · by_cases ub' : crn b / 2 ^ k % 2 = 0
      · rw [if_pos (bb.mpr ⟨ub', hbk⟩), if_pos ub', if_pos ua]
        by_cases uk : a = 4 + 56 * (k / 2)
        · rw [if_neg (fun z => (ba.mp z).2 uk), if_pos (hak.mp uk)]
        · rw [if_pos (ba.mpr ⟨ua, uk⟩), if_neg (fun z => uk (hak.mpr z))]
      · rw [if_neg (fun z => ub' (bb.mp z).1), if_neg ub']
    · rw [if_neg ua]
      by_cases ub' : rAtS b / 2 ^ k % 2 = 0
      · rw [if_pos ub', if_neg (fun z => ua (ba.mp z).1)]
        split <;> rfl
      · rw [if_neg ub']
        split <;> rfl
theorem wo2 : ∀ r, r < 16 → ∀ x, x < 16 → ∀ y, y < 16 → nI r &&& ((nI x ||| nI y) ^^^ (-1)) = nI (wo (wo r x) y) := by decide +kernel
/-- what make keeps of what it took away -/
noncomputable def svT (P : Ps) (a b : Nat) : Nat := if psg P a b = true then P.1 (whr P a b) else P.1 b
def svF (f : Nat) : Nat := if f < 8 then f + 1 else 0
noncomputable def svW (P : Ps) (a b : Nat) : Nat := svT P a b + 16 * P.2.2.1 + 256 * svF P.2.2.2.1 + 4096 * P.2.2.2.2.1 + 16777216 * (if psg P a b = true then 1 else 0)
def bSB (M : zM) (g : Nat) (B : Nat → Nat) : Prop := bSt M g B ∧ M.1 (g + 1) 9 = iI (bal B)
theorem c_put' {mc ms : Nat} {M : zM} {g : Nat} (hW : zWd M g) {B : Nat → Nat} (hB : bSB M g B) {s m : Nat} (hs : s < 64) (he : B s = 0) (hm1 : 1 ≤ m) (hm : m ≤ 12) {Q : zQt} (hq : ∀ N, bFr M N g → bSB N g (ub B s m) → Q none N) : wX0_put mc ms [.ref (g + 1), .int (nI s), .int (nI m)] M Q :=
  c_put hW hB.1 hB.2 hs he hm1 hm (fun N f h h9 => hq N f ⟨h, by
    rw [h9, bal_ub hs, he, show wS 0 = 0 from rfl, Int.sub_zero]⟩)
theorem c_lift' {mc ms : Nat} {M : zM} {g : Nat} (hW : zWd M g) {B : Nat → Nat} (hB : bSB M g B) {s : Nat} (hs : s < 64) (hm1 : 1 ≤ B s) {Q : zQt} (hq : ∀ N, bFr M N g → bSB N g (ub B s 0) → Q none N) : wX0_lift mc ms [.ref (g + 1), .int (nI s)] M Q :=
  c_lift hW hB.1 hB.2 hs hm1 (fun N f h h9 => hq N f ⟨h, by
    rw [h9, bal_ub hs, show wS 0 = 0 from rfl]
    congr 1
    omega⟩)
set_option maxHeartbeats 16000000 in
theorem c_makeC {mc ms : Nat} {M : zM} {g : Nat} (hW : zWd M g) {P : Ps} (hP : bPs M g P) (hG : Gd P) {n : Nat} (hC : psC n P) (hn : n < 2000) {a b pr : Nat} (h : mvK P a b pr) {k : Nat} (hk : M.1 (g + 1) 11 = nI k) (hk6 : k < 608) {Q : zQt} (hq : ∀ N, zSm [g + 1, g + 2, g + 3, g + 4, g + 5] M N → bPs N g (mkP P a b pr) → N.1 (g + 1) 11 = nI (k + 1) → N.1 (g + 5) k = nI (svW P a b) → (∀ i, i ≠ k → N.1 (g + 5) i = M.1 (g + 5) i) → Q none N) : wX0_make mc ms [.ref (g + 1), .int (nI (a + 64 * b + 4096 * pr))] M Q := by
  refine ⟨⟨Nat.le_of_ble_eq_true rfl, rfl⟩, fun X l0 l48 l113 l141 l163 l186 l208 l227 l281 l282 l296 l306 => ?_⟩
  obtain ⟨hB, h4, h5, h6, h7, h8, h9⟩ := hP
  have hO := hG.1
  have hc := hO.2.1
  have ha := h.1
  have hb := h.2.1
  have hA := hO.1 a ha
  have hBb := hO.1 b hb
  have own := (own_man hA hc).mp h.2.2.1.1.1
  have nown : ¬ (6 * P.2.1 + 1 ≤ P.1 b ∧ P.1 b ≤ 6 * P.2.1 + 6) := fun q => h.2.2.1.1.2.1 ((own_man hBb hc).mpr q)
  have hne := mv_ne h
  have hpr : pr ≤ 5 := by
    by_cases q : pr = 0
    · omega
    · have := pr_pawn hO h q; omega
  have e1 : nI (a + 64 * b + 4096 * pr) &&& (63 : Int32) = nI a := by
    rw [pk_andN (by omega) 6 (by decide)]
    congr 1
    omega
  have e2 : (nI (a + 64 * b + 4096 * pr) >>> ((6 : Int32) &&& 31)) &&& (63 : Int32) = nI b := by
    rw [pk_shrN (by omega) _ 6 (by decide), pk_andN (by omega) 6 (by decide)]
    congr 1
    omega
  have e3 : nI (a + 64 * b + 4096 * pr) >>> ((12 : Int32) &&& 31) = nI pr := by
    rw [pk_shrN (by omega) _ 12 (by decide)]
    congr 1
    omega
  -- the end: passant, clock, number, side
  have f306 : ∀ (N : zM) (v : Nat), v = (mkP P a b pr).2.2.2.2.1 → zSm [g + 1, g + 2, g + 3, g + 4, g + 5] M N → bSB N g (mkB P a b pr) → N.1 (g + 1) 4 = nI P.2.1 → N.1 (g + 1) 5 = nI (mkR P a b) → N.1 (g + 1) 6 = pI (mkP P a b pr).2.2.2.1 → N.1 (g + 1) 8 = nI P.2.2.2.2.2 → N.1 (g + 1) 11 = nI (k + 1) → N.1 (g + 5) k = nI (svW P a b) → (∀ i, i ≠ k → N.1 (g + 5) i = M.1 (g + 5) i) → X 306 0 0 [.ref (g + 1)] [.int (nI v), .ref (g + 1)] N := by
    intro N v hv sm sb u4 u5 u6 u8 u11 us uo
    have hWN := sm.wd hW
    refine l306 _ _ _ _ _ ⟨rfl, vX0_make_306 hWN (fun N1 e1 N2 e2 N3 e3 => ?_)⟩
    have t8 : N1.1 (g + 1) 8 = nI P.2.2.2.2.2 := by rw [e1, zsI_n (by decide)]; exact u8
    have t4 : N1.1 (g + 1) 4 = nI P.2.1 := by rw [e1, zsI_n (by decide)]; exact u4
    rw [t8, t4, nI_add] at e2
    have t4' : N2.1 (g + 1) 4 = nI P.2.1 := by rw [e2, zsI_n (by decide)]; exact t4
    rw [t4', show (1 : Int32) - nI P.2.1 = nI (1 - P.2.1) from pk_sub (a := 1) (b := P.2.1) hc] at e3
    have s3 : zSm [g + 1] N N3 := by
      rw [e3, e2, e1]
      exact ((zSm.I (by simp)).tr (zSm.I (by simp))).tr (zSm.I (by simp))
    have o3 : ∀ j, j ≠ 4 → j ≠ 7 → j ≠ 8 → N3.1 (g + 1) j = N.1 (g + 1) j := fun j a b c => by rw [e3, zsI_n a, e2, zsI_n c, e1, zsI_n b]
    refine hq N3 (sm.tr (s3.mono (by simp))) ⟨sb.1.sm s3 (fun b b1 b2 q => by have := List.mem_singleton.mp q; omega), ?_, ?_, ?_, ?_, ?_, ?_⟩ ?_ ?_ (fun i hi => ?_)
    · rw [e3, zsI_s]; rfl
    · rw [o3 5 (by decide) (by decide) (by decide)]; exact u5
    · rw [o3 6 (by decide) (by decide) (by decide)]; exact u6
    · rw [e3, zsI_n (by decide), e2, zsI_n (by decide), e1, zsI_s, hv]
    · rw [e3, zsI_n (by decide), e2, zsI_s]; rfl
    · rw [o3 9 (by decide) (by decide) (by decide)]; exact sb.2
    · rw [o3 11 (by decide) (by decide) (by decide)]; exact u11
    · rw [s3.i (by simp)]; exact us
    · rw [s3.i (by simp)]; exact uo i hi
  -- taken, as the class knows it
  obtain ⟨tk, etk⟩ : ∃ tk, tk = svT P a b := ⟨_, rfl⟩
  have tk12 : tk ≤ 12 := by
    rw [etk]
    unfold svT
    split
    · rename_i q
      rw [(psg_sq hO q).2.2.2.1]
      omega
    · exact hBb
  have tkn : (tk = 0 ↔ tks P a b = false) := by
    rw [etk]
    unfold svT tks
    by_cases q : psg P a b = true
    · rw [if_pos q, (psg_sq hO q).2.2.2.1, q]
      simp
      omega
    · rw [if_neg q]
      have q : psg P a b = false := by simpa using q
      rw [q]
      simp
  have pwB : (pwn P a = true ↔ P.1 a = 1 + 6 * P.2.1) := by
    unfold pwn
    rw [decide_eq_true_eq, kd_1 hA]
    omega
  have f282 : ∀ (N : zM) (v : Int32), v = pI (mkP P a b pr).2.2.2.1 → zSm [g + 1, g + 2, g + 3, g + 4, g + 5] M N → bSB N g (mkB P a b pr) → N.1 (g + 1) 4 = nI P.2.1 → N.1 (g + 1) 5 = nI (mkR P a b) → N.1 (g + 1) 7 = nI P.2.2.2.2.1 → N.1 (g + 1) 8 = nI P.2.2.2.2.2 → N.1 (g + 1) 11 = nI (k + 1) → N.1 (g + 5) k = nI (svW P a b) → (∀ i, i ≠ k → N.1 (g + 5) i = M.1 (g + 5) i) → X 282 0 0 [.ref (g + 1), .int (nI tk), .int (bI (pwn P a))] [.int v, .ref (g + 1)] N := by
    intro N v hv sm sb u4 u5 u7 u8 u11 us uo
    refine l282 _ _ _ _ _ ⟨rfl, vX0_make_282 (sm.wd hW) (fun N1 e1 => ?_)⟩
    have s1 : zSm [g + 1] N N1 := by rw [e1]; exact zSm.I (by simp)
    have o1 : ∀ j, j ≠ 6 → N1.1 (g + 1) j = N.1 (g + 1) j := fun j hj => by rw [e1, zsI_n hj]
    have sm1 := sm.tr (s1.mono (by simp))
    have sb1 : bSB N1 g (mkB P a b pr) := ⟨sb.1.sm s1 (fun b b1 b2 q => by have := List.mem_singleton.mp q; omega), by rw [o1 9 (by decide)]; exact sb.2⟩
    have go := fun w hw => f306 N1 w hw sm1 sb1 (by rw [o1 4 (by decide)]; exact u4) (by rw [o1 5 (by decide)]; exact u5) (by rw [e1, zsI_s, hv]) (by rw [o1 8 (by decide)]; exact u8) (by rw [o1 11 (by decide)]; exact u11) (by rw [s1.i (by simp)]; exact us) (fun i hi => by rw [s1.i (by simp)]; exact uo i hi)
    have ecl : (mkP P a b pr).2.2.2.2.1 = if (pwn P a || tks P a b) = true then 0 else P.2.2.2.2.1 + 1 := rfl
    have f296 : (pwn P a || tks P a b) = true → X 296 0 0 [.ref (g + 1)] [.ref (g + 1)] N1 := fun q => l296 _ _ _ _ _ ⟨rfl, vX0_make_296 (sm1.wd hW) (go 0 (by rw [ecl, if_pos q]))⟩
    have et := nI_eq (a := tk) (b := 0) (by omega) (by decide)
    refine ⟨fun p0 => ⟨fun t0 => ?_, fun t0 => f296 ?_⟩, fun p0 => f296 ?_⟩
    · have a1 := bI_0.mp p0
      have a2 := tkn.mp (et.mp t0)
      rw [o1 7 (by decide), u7, show nI P.2.2.2.2.1 + (1 : Int32) = nI (P.2.2.2.2.1 + 1) from nI_1 _]
      refine go _ ?_
      rw [ecl, a1, a2]
      rfl
    · have : tks P a b = true := by
        rcases q : tks P a b with _ | _
        · exact absurd (et.mpr (tkn.mpr q)) t0
        · rfl
      rw [this, Bool.or_true]
    · rw [bI_n.mp p0, Bool.true_or]
  -- rights and passant
  have f227 : ∀ (N : zM), zSm [g + 1, g + 2, g + 3, g + 4, g + 5] M N → bSB N g (mkB P a b pr) → (∀ j, j ≠ 9 → j ≠ 11 → N.1 (g + 1) j = M.1 (g + 1) j) → N.1 (g + 1) 11 = nI (k + 1) → N.1 (g + 5) k = nI (svW P a b) → (∀ i, i ≠ k → N.1 (g + 5) i = M.1 (g + 5) i) → X 227 0 0 [.ref (g + 1), .int (nI a), .int (nI b), .int (nI tk)] [.int (bI (pwn P a))] N := by
    intro N sm sb uj u11 us uo
    have hWN := sm.wd hW
    refine l227 _ _ _ _ _ ⟨rfl, vX0_make_227 hWN (c_rightsAt hWN ha (vkX0_make_238 hWN (c_rightsAt hWN hb (vkX0_make_242 hWN (fun N1 e1 => ?_)))))⟩
    rw [uj 5 (by decide) (by decide), h5, wo2 _ hO.2.2.1 _ (rAtS_lt a) _ (rAtS_lt b), rights_mk hG h] at e1
    have s1 : zSm [g + 1] N N1 := by rw [e1]; exact zSm.I (by simp)
    have o1 : ∀ j, j ≠ 5 → N1.1 (g + 1) j = N.1 (g + 1) j := fun j hj => by rw [e1, zsI_n hj]
    have sm1 := sm.tr (s1.mono (by simp))
    have hW1 := sm1.wd hW
    have sb1 : bSB N1 g (mkB P a b pr) := ⟨sb.1.sm s1 (fun b b1 b2 q => by have := List.mem_singleton.mp q; omega), by rw [o1 9 (by decide)]; exact sb.2⟩
    have u4 : N1.1 (g + 1) 4 = nI P.2.1 := by rw [o1 4 (by decide), uj 4 (by decide) (by decide)]; exact h4
    have go := fun v hv => f282 N1 v hv sm1 sb1 u4 (by rw [e1, zsI_s]) (by rw [o1 7 (by decide), uj 7 (by decide) (by decide)]; exact h7) (by rw [o1 8 (by decide), uj 8 (by decide) (by decide)]; exact h8) (by rw [o1 11 (by decide)]; exact u11) (by rw [s1.i (by simp)]; exact us) (fun i hi => by rw [s1.i (by simp)]; exact uo i hi)
    have eps : (mkP P a b pr).2.2.2.1 = if (lft P a b pr || rgt P a b pr) = true then b % 8 else 8 := rfl
    have f281 : ¬ (lft P a b pr || rgt P a b pr) = true → X 281 0 0 [.ref (g + 1), .int (nI tk), .int (bI (pwn P a))] [.ref (g + 1)] N1 := fun q => l281 _ _ _ _ _ ⟨rfl, vX0_make_281 hW1 (go _ (by rw [eps, if_neg q]; rfl))⟩
    have eab : (if (0 : Int32) ≤ nI b - nI a then nI b - nI a else 0 - (nI b - nI a)) = iI (aI ((b : Int) - a)) := by
      rw [iI_nat b, iI_nat a, iI_sub]
      have e0 : (0 : Int32) ≤ iI ((b : Int) - a) ↔ (0 : Int) ≤ (b : Int) - a := iI_le (a := 0) (by omega) (by omega) (by omega) (by omega)
      unfold aI
      by_cases q : (0 : Int) ≤ (b : Int) - a
      · rw [if_pos (e0.mpr q), if_pos q]
      · rw [if_neg (fun w => q (e0.mp w)), if_neg q, show (0 : Int32) = iI 0 from rfl, iI_sub]
        congr 1
        omega
    rw [eab]
    have e16 : iI (aI ((b : Int) - a)) = (16 : Int32) ↔ aI ((b : Int) - a) = 16 := by
      have hbd : 0 ≤ aI ((b : Int) - a) ∧ aI ((b : Int) - a) < 64 := by unfold aI; split <;> omega
      exact iI_eq (b := 16) (by omega) (by omega) (by omega) (by omega)
    have etw : two P a b = true ↔ pwn P a = true ∧ aI ((b : Int) - a) = 16 := by
      unfold two
      rw [Bool.and_eq_true, Bool.or_eq_true, decide_eq_true_eq, decide_eq_true_eq]
      have := abs_2 (a := b) (b := a) (k := 16) (by decide)
      rw [show ((16 : Nat) : Int) = 16 from rfl] at this
      rw [this]
      exact and_congr_right (fun _ => by omega)
    have elr : (lft P a b pr || rgt P a b pr) = true ↔ two P a b = true ∧ bsd (mkB P a b pr) P.2.1 b := by
      unfold lft rgt bsd
      rw [Bool.or_eq_true, Bool.and_eq_true, Bool.and_eq_true, Bool.and_eq_true, Bool.and_eq_true, decide_eq_true_eq, decide_eq_true_eq, decide_eq_true_eq, decide_eq_true_eq]
      constructor
      · rintro (⟨⟨x, y⟩, z⟩ | ⟨⟨x, y⟩, z⟩)
        · exact ⟨x, Or.inl ⟨y, z⟩⟩
        · exact ⟨x, Or.inr ⟨y, z⟩⟩
      · rintro ⟨x, (⟨y, z⟩ | ⟨y, z⟩)⟩
        · exact Or.inl ⟨⟨x, y⟩, z⟩
        · exact Or.inr ⟨⟨x, y⟩, z⟩
    refine ⟨fun p0 => f281 (fun q => ?_), fun p0 => ⟨fun t => ?_, fun t => f281 (fun q => t (e16.mpr (etw.mp (elr.mp q).1).2))⟩⟩
    · have := (etw.mp (elr.mp q).1).1
      rw [bI_0.mp p0] at this
      exact absurd this (by decide)
    · have htw := etw.mpr ⟨bI_n.mp p0, e16.mp t⟩
      refine c_isBesidePawn hW1 sb1.1 hc u4 hb (fun q => vkX0_make_271 hW1 ⟨fun w => absurd w (by decide), fun _ => ?_⟩) (fun q => vkX0_make_271 hW1 ⟨fun _ => f281 (fun w => q (elr.mp w).2), fun w => absurd rfl w⟩)
      rw [and7 hb]
      refine go (nI (b % 8)) ?_
      rw [eps, if_pos (elr.mpr ⟨htw, q⟩)]
      unfold pI
      rw [if_pos (by omega)]
  have f208 : ∀ (N : zM), zSm [g + 1, g + 2, g + 3, g + 4, g + 5] M N → bSB N g (mkB P a b pr) → (∀ j, j ≠ 9 → j ≠ 11 → N.1 (g + 1) j = M.1 (g + 1) j) → N.1 (g + 1) 11 = nI (k + 1) → N.1 (g + 5) k = nI (svW P a b) → (∀ i, i ≠ k → N.1 (g + 5) i = M.1 (g + 5) i) → X 208 0 0 [.ref (g + 1), .int (nI a), .int (nI b), .int (nI (P.1 a)), .int (nI tk)] [] N := by
    intro N sm sb uj u11 us uo
    have go := f227 N sm sb uj u11 us uo
    refine l208 _ _ _ _ _ ⟨rfl, vX0_make_208 (sm.wd hW) ?_⟩
    rw [uj 4 (by decide) (by decide), h4, show (6 : Int32) * nI P.2.1 = nI (6 * P.2.1) from pk_mul 6 _, show (1 : Int32) + nI (6 * P.2.1) = nI (1 + 6 * P.2.1) from nI_add 1 _]
    have e := nI_eq (a := P.1 a) (b := 1 + 6 * P.2.1) (by omega) (by omega)
    refine ⟨fun q => ?_, fun q => ?_⟩
    · rw [pwB.mpr (e.mp q)] at go
      exact go
    · have : pwn P a = false := by
        rcases w : pwn P a with _ | _
        · rfl
        · exact absurd (e.mpr (pwB.mp w)) q
      rw [this] at go
      exact go
  obtain ⟨vv, evv⟩ : ∃ vv, vv = (if pr = 0 then P.1 a else pr + 6 * P.2.1) := ⟨_, rfl⟩
  have vv1 : 1 ≤ vv ∧ vv ≤ 12 := by
    rw [evv]
    split
    · omega
    · omega
  obtain ⟨wh, ewh⟩ : ∃ wh, wh = (if psg P a b = true then whr P a b else b) := ⟨_, rfl⟩
  have tkw : tk = P.1 wh := by
    rw [etk, ewh]
    unfold svT
    split <;> rfl
  have whF : wh < 64 ∧ wh ≠ a := by
    rw [ewh]
    split
    · rename_i q
      have := psg_sq hO q
      exact ⟨this.2.2.2.2.1, this.2.2.2.2.2.2⟩
    · exact ⟨hb, fun q => hne q.symm⟩
  -- the men: behind the lifts
  have f141 : ∀ (N : zM) (B1 : Nat → Nat), B1 = (if tk = 0 then ub P.1 a 0 else ub (ub P.1 a 0) wh 0) → zSm [g + 1, g + 2, g + 3, g + 4, g + 5] M N → bSB N g B1 → (∀ j, j ≠ 9 → j ≠ 11 → N.1 (g + 1) j = M.1 (g + 1) j) → N.1 (g + 1) 11 = nI (k + 1) → N.1 (g + 5) k = nI (svW P a b) → (∀ i, i ≠ k → N.1 (g + 5) i = M.1 (g + 5) i) → X 141 0 0 [.ref (g + 1), .int (nI a), .int (nI b), .int (nI pr), .int (nI (P.1 a)), .int (nI tk), .int (iI (csI P a b))] [] N := by
    intro N B1 eB sm sb uj u11 us uo
    have hWN := sm.wd hW
    have hB1b : B1 b = 0 := by
      rw [eB]
      by_cases q : psg P a b = true
      · have hz := psg_sq hO q
        split
        · rw [ub_n (fun z => hne z.symm)]; exact hz.2.2.1
        · rw [ub_n (by rw [ewh, if_pos q]; exact fun z => hz.2.2.2.2.2.1 z.symm), ub_n (fun z => hne z.symm)]; exact hz.2.2.1
      · rw [ewh, if_neg q] at tkw
        split
        · rename_i t0
          rw [ub_n (fun z => hne z.symm), ← tkw]; exact t0
        · rw [ewh, if_neg q, ub_s]
    have f163 : X 163 0 0 [.ref (g + 1), .int (nI a), .int (nI b), .int (nI (P.1 a)), .int (nI tk), .int (iI (csI P a b))] [.int (nI vv), .int (nI b), .ref (g + 1)] N := by
      refine l163 _ _ _ _ _ ⟨rfl, vX0_make_163 hWN (c_put' hWN sb hb hB1b vv1.1 vv1.2 (fun K fK sK => ?_))⟩
      have smK : zSm [g + 1, g + 2, g + 3, g + 4, g + 5] M K := sm.tr (fK.1.mono (by simp))
      have hWK := smK.wd hW
      have ujK : ∀ j, j ≠ 9 → j ≠ 11 → K.1 (g + 1) j = M.1 (g + 1) j := fun j a b => by rw [fK.2 j a, uj j a b]
      have u11K : K.1 (g + 1) 11 = nI (k + 1) := by rw [fK.2 11 (by decide)]; exact u11
      have usK : K.1 (g + 5) k = nI (svW P a b) := by rw [fK.1.i (by simp)]; exact us
      have uoK : ∀ i, i ≠ k → K.1 (g + 5) i = M.1 (g + 5) i := fun i hi => by rw [fK.1.i (by simp)]; exact uo i hi
      refine vkX0_make_166 hWK ?_
      by_cases kc : cas P a b = true
      · have kp := cas_no_psg kc
        obtain ⟨cA, cS, c2⟩ := (cs_iff hO h).1 kc
        obtain ⟨-, eh, qq, -, -⟩ := cas_cst h.2.2.1.1 kc
        have t0 : tk = 0 := by
          rw [tkw, ewh, if_neg (by rw [kp]; decide)]
          rcases qq with ⟨q1, q2, q3, q4⟩ | ⟨q1, q2, q3, q4⟩
          · exact q4 b (by omega) (by omega)
          · exact q4 b (by omega) (by omega)
        have eB' : B1 = ub P.1 a 0 := by rw [eB, if_pos t0]
        obtain ⟨r, er⟩ : ∃ r, r = (if a < b then a + 3 else a - 4) := ⟨_, rfl⟩
        have hr : r < 64 ∧ r ≠ a ∧ r ≠ b ∧ r ≠ (a + b) / 2 ∧ P.1 r = 4 + 6 * P.2.1 ∧ P.1 ((a + b) / 2) = 0 ∧ (a + b) / 2 < 64 ∧ (a + b) / 2 ≠ a ∧ (a + b) / 2 ≠ b := by
          rw [er]
          rcases qq with ⟨q1, q2, q3, q4⟩ | ⟨q1, q2, q3, q4⟩
          · rw [if_pos (by omega)]
            exact ⟨by omega, by omega, by omega, by omega, q3, q4 _ (by omega) (by omega), by omega, by omega, by omega⟩
          · rw [if_neg (by omega)]
            exact ⟨by omega, by omega, by omega, by omega, q3, q4 _ (by omega) (by omega), by omega, by omega, by omega⟩
        obtain ⟨r64, ra, rb, rm, r4, m0, m64, ma, mb⟩ := hr
        have emid : nI b - iI (csI P a b) / (2 : Int32) = nI ((a + b) / 2) := by
          rw [cS]
          rcases c2 with q | q
          · rw [q, show iI 2 / (2 : Int32) = nI 1 from by decide, show nI b - nI 1 = nI (b - 1) from pk_sub (by omega), show b - 1 = (a + b) / 2 by omega]
          · rw [q, show iI (-2) / (2 : Int32) = iI (-1) from by decide, iI_nat b, iI_sub, iI_nat]
            congr 1
            omega
        have f186 : X 186 0 0 [.ref (g + 1), .int (nI a), .int (nI b), .int (nI (P.1 a)), .int (nI tk), .int (iI (csI P a b))] [.int (nI r), .ref (g + 1)] K := by
          refine l186 _ _ _ _ _ ⟨rfl, vX0_make_186 hWK (c_lift' hWK sK r64 (by rw [ub_n rb, eB', ub_n ra, r4]; omega) (fun K2 fK2 sK2 => ?_))⟩
          have smK2 : zSm [g + 1, g + 2, g + 3, g + 4, g + 5] M K2 := smK.tr (fK2.1.mono (by simp))
          have hWK2 := smK2.wd hW
          refine vkX0_make_189 hWK2 ?_
          rw [emid, fK2.2 4 (by decide), ujK 4 (by decide) (by decide), h4, show (6 : Int32) * nI P.2.1 = nI (6 * P.2.1) from pk_mul 6 _, show (4 : Int32) + nI (6 * P.2.1) = nI (4 + 6 * P.2.1) from nI_add 4 _]
          refine c_put' hWK2 sK2 m64 (by rw [ub_n (fun z => rm z.symm), ub_n mb, eB', ub_n ma]; exact m0) (by omega) (by omega) (fun K3 fK3 sK3 => ?_)
          have smK3 : zSm [g + 1, g + 2, g + 3, g + 4, g + 5] M K3 := smK2.tr (fK3.1.mono (by simp))
          refine vkX0_make_208 (smK3.wd hW) (f208 K3 smK3 ?_ (fun j a b => by rw [fK3.2 j a, fK2.2 j a, ujK j a b]) (by rw [fK3.2 11 (by decide), fK2.2 11 (by decide)]; exact u11K) (by rw [fK3.1.i (by simp), fK2.1.i (by simp)]; exact usK) (fun i hi => by rw [fK3.1.i (by simp), fK2.1.i (by simp)]; exact uoK i hi))
          rw [mkB_cas kc kp, ← er, ← evv, ← eB']
          exact sK3
        rw [cS] at f186 ⊢
        have ez : ¬ iI ((b : Int) - a) = 0 := fun q => by
          have := (iI_eq (a := (b : Int) - a) (b := 0) (by omega) (by omega) (by omega) (by omega)).mp q
          omega
        have ep : iI ((b : Int) - a) ≤ (0 : Int32) ↔ (b : Int) - a ≤ 0 := iI_le (b := 0) (by omega) (by omega) (by omega) (by omega)
        refine ⟨fun q => absurd q ez, fun _ => ⟨fun q => ?_, fun q => ?_⟩⟩
        · have := ep.mp q
          rw [show nI b - (2 : Int32) = nI (b - 2) from pk_sub (a := b) (b := 2) (by omega), show b - 2 = r by rw [er, if_neg (by omega)]; omega]
          exact f186
        · have : ¬ (b : Int) - a ≤ 0 := fun w => q (ep.mpr w)
          rw [show nI b + (1 : Int32) = nI (b + 1) from nI_1 b, show b + 1 = r by rw [er, if_pos (by omega)]; omega]
          exact f186
      · have kc : cas P a b = false := by simpa using kc
        rw [(cs_iff hO h).2 kc]
        refine ⟨fun _ => f208 K smK ?_ ujK u11K usK uoK, fun q => absurd rfl q⟩
        have : ub B1 b vv = mkB P a b pr := by
          by_cases kp : psg P a b = true
          · have hz := psg_sq hO kp
            have tn : ¬ tk = 0 := by rw [tkw, ewh, if_pos kp, hz.2.2.2.1]; omega
            rw [mkB_psg kc kp, ← evv, eB, if_neg tn, ewh, if_pos kp]
            funext s
            show ub (ub (ub P.1 a 0) (whr P a b) 0) b vv s = ub (ub (ub P.1 a 0) b vv) (whr P a b) 0 s
            by_cases w1 : s = b
            · rw [w1, ub_s, ub_n (fun z => hz.2.2.2.2.2.1 z.symm), ub_s]
            · rw [ub_n w1]
              by_cases w2 : s = whr P a b
              · rw [w2, ub_s, ub_s]
              · rw [ub_n w2, ub_n w2, ub_n w1]
          · have kp' : psg P a b = false := by simpa using kp
            rw [mkB_ord kc kp', ← evv, eB]
            split
            · rfl
            · rw [ewh, if_neg kp]
              funext s
              by_cases w1 : s = b
              · rw [w1, ub_s, ub_s]
              · rw [ub_n w1, ub_n w1, ub_n w1]
        rw [← this]
        exact sK
    refine l141 _ _ _ _ _ ⟨rfl, vX0_make_141 hWN ?_⟩
    have ep := nI_eq (a := pr) (b := 0) (by omega) (by decide)
    refine ⟨fun q => ?_, fun q => ?_⟩
    · rw [evv, if_pos (ep.mp q)] at f163
      exact f163
    · rw [evv, if_neg (fun w => q (ep.mpr w))] at f163
      rw [uj 4 (by decide) (by decide), h4, show (6 : Int32) * nI P.2.1 = nI (6 * P.2.1) from pk_mul 6 _, nI_add]
      exact f163
  have f113 : ∀ s1 s0 : Int32, s1 ||| s0 = nI (svW P a b) → X 113 0 0 [.ref (g + 1), .int (nI a), .int (nI b), .int (nI pr), .int (nI (P.1 a)), .int (nI wh), .int (nI tk), .int (iI (csI P a b))] [.int s0, .int s1, .int (nI k), .ref (g + 5)] M := by
    intro s1 s0 hsv
    refine l113 _ _ _ _ _ ⟨rfl, vX0_make_113 hW ?_⟩
    rw [nI_clamp (by omega), hsv]
    refine ⟨vp_in_nI (by omega) (by omega), fun N1 e1 N2 e2 => ?_⟩
    have t11 : N1.1 (g + 1) 11 = nI k := by rw [e1, zsI_o (by omega)]; exact hk
    rw [t11, nI_1] at e2
    have s2 : zSm [g + 1, g + 2, g + 3, g + 4, g + 5] M N2 := by rw [e2, e1]; exact (zSm.I (by simp)).tr (zSm.I (by simp))
    have hW2 := s2.wd hW
    have o2 : ∀ j, j ≠ 11 → N2.1 (g + 1) j = M.1 (g + 1) j := fun j hj => by rw [e2, zsI_n hj, e1, zsI_o (by omega)]
    have u11 : N2.1 (g + 1) 11 = nI (k + 1) := by rw [e2, zsI_s]
    have us : N2.1 (g + 5) k = nI (svW P a b) := by rw [e2, zsI_o (by omega), e1, zsI_s]
    have uo : ∀ i, i ≠ k → N2.1 (g + 5) i = M.1 (g + 5) i := fun i hi => by rw [e2, zsI_o (by omega), e1, zsI_n hi]
    have sb2 : bSB N2 g P.1 := by
      refine ⟨hB.sm (L := [g + 1, g + 5]) ?_ (fun b b1 b2 q => ?_), by rw [o2 9 (by decide)]; exact h9⟩
      · rw [e2, e1]; exact (zSm.I (by simp)).tr (zSm.I (by simp))
      · simp at q
        omega
    refine c_lift' hW2 sb2 ha (by omega) (fun K fK sK => ?_)
    have smK : zSm [g + 1, g + 2, g + 3, g + 4, g + 5] M K := s2.tr (fK.1.mono (by simp))
    have hWK := smK.wd hW
    have ujK : ∀ j, j ≠ 9 → j ≠ 11 → K.1 (g + 1) j = M.1 (g + 1) j := fun j a b => by rw [fK.2 j a, o2 j b]
    have u11K : K.1 (g + 1) 11 = nI (k + 1) := by rw [fK.2 11 (by decide)]; exact u11
    have usK : K.1 (g + 5) k = nI (svW P a b) := by rw [fK.1.i (by simp)]; exact us
    have uoK : ∀ i, i ≠ k → K.1 (g + 5) i = M.1 (g + 5) i := fun i hi => by rw [fK.1.i (by simp)]; exact uo i hi
    have et := nI_eq (a := tk) (b := 0) (by omega) (by decide)
    refine vkX0_make_130 hWK ⟨fun q => f141 K _ (by rw [if_pos (et.mp q)]) smK sK ujK u11K usK uoK, fun q => ?_⟩
    have tn : ¬ tk = 0 := fun w => q (et.mpr w)
    refine c_lift' hWK sK whF.1 (by rw [ub_n whF.2, ← tkw]; omega) (fun K2 fK2 sK2 => ?_)
    have smK2 : zSm [g + 1, g + 2, g + 3, g + 4, g + 5] M K2 := smK.tr (fK2.1.mono (by simp))
    exact vkX0_make_141 (smK2.wd hW) (f141 K2 _ (by rw [if_neg tn]) smK2 sK2 (fun j a b => by rw [fK2.2 j a, ujK j a b]) (by rw [fK2.2 11 (by decide)]; exact u11K) (by rw [fK2.1.i (by simp)]; exact usK) (fun i hi => by rw [fK2.1.i (by simp)]; exact uoK i hi))
  have r16 := hO.2.2.1
  have p8 := hO.2.2.2.1
  have cl := hC.1
  have svf : svF P.2.2.2.1 ≤ 8 := by unfold svF; split <;> omega
  have word : (((nI tk ||| (nI P.2.2.1 <<< ((4 : Int32) &&& 31))) ||| ((pI P.2.2.2.1 + (1 : Int32)) <<< ((8 : Int32) &&& 31))) ||| (nI P.2.2.2.2.1 <<< ((12 : Int32) &&& 31))) = nI (tk + 16 * P.2.2.1 + 256 * svF P.2.2.2.1 + 4096 * P.2.2.2.2.1) := by
    have ep : pI P.2.2.2.1 + (1 : Int32) = nI (svF P.2.2.2.1) := by
      unfold pI svF
      split
      · exact nI_1 _
      · decide
    rw [ep, pk_shlN _ 4 (by decide) (by omega), pk_shlN _ 8 (by decide) (by omega), pk_shlN _ 12 (by decide) (by omega), show P.2.2.1 * 2 ^ 4 = 2 ^ 4 * P.2.2.1 by omega, nI_or (by omega) (by omega), show svF P.2.2.2.1 * 2 ^ 8 = 2 ^ 8 * svF P.2.2.2.1 by omega, nI_or (by omega) (by omega), show P.2.2.2.2.1 * 2 ^ 12 = 2 ^ 12 * P.2.2.2.2.1 by omega, nI_or (by omega) (by omega)]
  have f48 : X 48 0 0 [.ref (g + 1), .int (nI a), .int (nI b), .int (nI pr), .int (nI (P.1 a)), .int (bI (psg P a b))] [.int (nI wh)] M := by
    refine l48 _ _ _ _ _ ⟨rfl, vX0_make_48 hW ?_⟩
    rw [nI_clamp (by omega)]
    refine ⟨vp_in_nI whF.1 (by omega), fun y ey => ?_⟩
    rw [(hB.1 wh whF.1).1, ← tkw] at ey
    subst ey
    refine c_castleStep hW hc hB h4 ha hb (vkX0_make_65 hW ?_)
    rw [h5, h6, h7, hk, word]
    have base : svW P a b = tk + 16 * P.2.2.1 + 256 * svF P.2.2.2.1 + 4096 * P.2.2.2.2.1 + 16777216 * (if psg P a b = true then 1 else 0) := by rw [etk]; rfl
    refine ⟨fun q => f113 _ _ ?_, fun q => f113 _ _ ?_⟩
    · rw [base, bI_0.mp q]
      have := nI_or (k := 24) (x := tk + 16 * P.2.2.1 + 256 * svF P.2.2.2.1 + 4096 * P.2.2.2.2.1) (y := 0) (by omega) (by omega)
      exact this
    · rw [base, bI_n.mp q]
      have := nI_or (k := 24) (x := tk + 16 * P.2.2.1 + 256 * svF P.2.2.2.1 + 4096 * P.2.2.2.2.1) (y := 1) (by omega) (by omega)
      exact this
  refine l0 _ _ _ _ _ ⟨rfl, vX0_make_0 hW (fun y ey => ?_)⟩
  rw [e2] at ey
  subst ey
  rw [e1, e3, nI_clamp (by omega)]
  refine ⟨vp_in_nI (by omega) (by omega), fun y2 ey2 => ?_⟩
  rw [(hB.1 a ha).1] at ey2
  subst ey2
  refine c_passes hW hc hB h4 ha hb (fun q => vkX0_make_33 hW ⟨fun w => absurd w (by decide), fun _ => ?_⟩) (fun q => vkX0_make_33 hW ⟨fun _ => ?_, fun w => absurd rfl w⟩)
  · have kp := (pss_psg hO h).mp q
    rw [kp, ewh, if_pos kp] at f48
    rw [psg_xor hO hb kp]
    exact f48
  · have kp : psg P a b = false := by
      rcases w : psg P a b with _ | _
      · rfl
      · exact absurd ((pss_psg hO h).mpr w) q
    rw [kp, ewh, if_neg (by rw [kp]; decide)] at f48
    exact f48
