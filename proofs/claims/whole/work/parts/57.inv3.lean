/-! A right position stays right: check, the whole -/
/-- boards that differ in men of one side alone (and not in kings) see the same checks of that side -/
def alike (B D : Nat → Nat) (c : Nat) : Prop := ∀ s, B s = D s ∨ sdI (B s) = c ∧ sdI (D s) = c ∧ kd (B s) ≠ 6 ∧ kd (D s) ≠ 6
theorem alike.sym {B D : Nat → Nat} {c : Nat} (h : alike B D c) : alike D B c := fun s => by
  rcases h s with q | q
  · exact Or.inl q.symm
  · exact Or.inr ⟨q.2.1, q.1, q.2.2.2, q.2.2.1⟩
theorem sd_0 {c : Nat} : ¬ sdI 0 = c := by
  have : sdI 0 = -1 := rfl
  omega
theorem alike_att {B D : Nat → Nat} {c : Nat} (hc : c ≤ 1) (h : alike B D c) {x s : Nat} (hx : sdI (B x) = (1 - c : Nat)) (ha : att B x s) : sdI (D x) = (1 - c : Nat) ∧ att D x s := by
  have e : B x = D x := by
    rcases h x with q | q
    · exact q
    · omega
  refine ⟨by rw [← e]; exact hx, ?_⟩
  unfold att at ha ⊢
  rw [← e]
  obtain ⟨a1, a2, a3, a4, a5, a6⟩ := ha
  refine ⟨a1, a2, a3, a4, a5, fun k1 k2 k3 => ⟨(a6 k1 k2 k3).1, fun i i1 i2 => ?_⟩⟩
  have z := (a6 k1 k2 k3).2 i i1 i2
  rcases h (sqA x s i) with q | q
  · rw [← q]; exact z
  · rw [z] at q
    exact absurd q.1 sd_0
theorem alike_kq {B D : Nat → Nat} {c : Nat} (h : alike B D c) (hc : c ≤ 1) : ∀ n, kq B c n = kq D c n
  | 0 => rfl
  | n + 1 => by
    unfold kq
    rw [alike_kq h hc n]
    rcases h n with q | q
    · rw [q]
    · have k6 : kd (6 + 6 * c) = 6 := by unfold kd; split <;> omega
      rw [if_neg (fun e => q.2.2.1 (by rw [e]; exact k6)), if_neg (fun e => q.2.2.2 (by rw [e]; exact k6))]
theorem alike_chk {B D : Nat → Nat} {c : Nat} (hc : c ≤ 1) (h : alike B D c) (hk : chk B c) : chk D c := by
  unfold chk atk at hk ⊢
  obtain ⟨x, hx, h1, h2⟩ := hk
  rw [← alike_kq h hc]
  obtain ⟨z1, z2⟩ := alike_att hc h h1 h2
  exact ⟨x, hx, z1, z2⟩
theorem mk_alike {P : Ps} (hO : psOk P) {a b pr : Nat} (h : mvK P a b pr) : alike (mkB P a b pr) (mkB P a b 0) P.2.1 := by
  by_cases p0 : pr = 0
  · rw [p0]
    exact fun s => Or.inl rfl
  have hp := pr_pawn hO h p0
  have hc := hO.2.1
  intro s
  unfold mkB
  by_cases c1 : cas P a b = true ∧ s = (a + b) / 2
  · rw [if_pos c1, if_pos c1]
    exact Or.inl rfl
  rw [if_neg c1, if_neg c1]
  by_cases c2 : cas P a b = true ∧ s = (if a < b then a + 3 else a - 4)
  · rw [if_pos c2, if_pos c2]
    exact Or.inl rfl
  rw [if_neg c2, if_neg c2]
  by_cases c3 : psg P a b = true ∧ s = (if P.2.1 = 0 then b - 8 else b + 8)
  · rw [if_pos c3, if_pos c3]
    exact Or.inl rfl
  rw [if_neg c3, if_neg c3]
  by_cases c4 : s = b
  · rw [if_pos c4, if_pos c4]
    refine Or.inr ?_
    rw [if_neg p0, if_pos rfl, hp.1]
    refine ⟨?_, ?_, ?_, ?_⟩
    · exact (own_man (by omega) hc).mpr (by omega)
    · exact (own_man (by omega) hc).mpr (by omega)
    · unfold kd; split <;> omega
    · unfold kd; split <;> omega
  · rw [if_neg c4, if_neg c4]
    exact Or.inl rfl
theorem chk_mk {P : Ps} (hO : psOk P) {a b pr : Nat} (h : mvK P a b pr) : ¬ chk (mkB P a b pr) P.2.1 := fun q => h.2.2.1.2 (alike_chk hO.2.1 (mk_alike hO h) q)
/-- clock and number behind n half moves -/
def psC (n : Nat) (P : Ps) : Prop := P.2.2.2.2.1 ≤ 1000 + n ∧ P.2.2.2.2.2 ≤ 10000 + n
theorem psC_mk {n : Nat} {P : Ps} (hc : P.2.1 ≤ 1) (h : psC n P) (a b pr : Nat) : psC (n + 1) (mkP P a b pr) := by
  obtain ⟨h1, h2⟩ := h
  constructor
  · show (if (pwn P a || tks P a b) = true then 0 else P.2.2.2.2.1 + 1) ≤ 1000 + (n + 1)
    split <;> omega
  · show P.2.2.2.2.2 + P.2.1 ≤ 10000 + (n + 1)
    omega
theorem psC_mono {n m : Nat} {P : Ps} (h : psC n P) (hm : n ≤ m) : psC m P := ⟨by have := h.1; omega, by have := h.2; omega⟩
theorem ok_mk {n : Nat} {P : Ps} (hO : psOk P) (hC : psC n P) (hn : n < 2 ^ 20) {a b pr : Nat} (h : mvK P a b pr) : psOk (mkP P a b pr) := by
  obtain ⟨h1, h2, h3, h4, h5, h6⟩ := hO
  have hO : psOk P := ⟨h1, h2, h3, h4, h5, h6⟩
  have hC2 := psC_mk h2 hC a b pr
  have hpr : pr ≤ 5 := by
    by_cases q : pr = 0
    · omega
    · have := pr_pawn hO h q; omega
  refine ⟨fun s hs => mkB_le h1 h.1 h2 hpr s hs, ?_, ?_, ?_, ?_, ?_⟩
  · show 1 - P.2.1 ≤ 1
    omega
  · have w3 : 3 * 4 ^ P.2.1 < 16 := by rcases (show P.2.1 = 0 ∨ P.2.1 = 1 by omega) with q | q <;> rw [q] <;> decide
    show mkR P a b < 16
    unfold mkR
    have r16 : (if kd (P.1 a) = 6 then wo P.2.2.1 (3 * 4 ^ P.2.1) else P.2.2.1) < 16 := by
      split
      · exact (wo_and _ h3 _ w3).2
      · exact h3
    exact (wo_and _ (wo_and _ r16 _ (crn_lt a)).2 _ (crn_lt b)).2
  · show (if (lft P a b pr || rgt P a b pr) = true then b % 8 else 8) ≤ 8
    split <;> omega
  · have := hC2.1; omega
  · have := hC2.2; omega
theorem Gd_mk {n : Nat} {P : Ps} (hG : Gd P) (hC : psC n P) (hn : n < 2 ^ 20) {a b pr : Nat} (h : mvK P a b pr) : Gd (mkP P a b pr) := by
  obtain ⟨hO, hk, hm, hr, hp, hch⟩ := hG
  refine ⟨ok_mk hO hC hn h, king_mk hO hk h, men_mk hO hm h, rgt_mk hO hr h, pst_mk hO h, ?_⟩
  have hc := hO.2.1
  show ¬ chk (mkB P a b pr) (1 - (1 - P.2.1))
  rw [show 1 - (1 - P.2.1) = P.2.1 by omega]
  exact chk_mk hO h
theorem Gd_len {P : Ps} (h : Gd P) : (mvs P).length ≤ 323 := by
  obtain ⟨hO, hk, hm, -⟩ := h
  have hc := hO.2.1
  refine mvs_bound hO ?_ ?_
  · rcases (show P.2.1 = 0 ∨ P.2.1 = 1 by omega) with q | q
    · rw [q]; exact hk.1
    · rw [q]; exact hk.2
  · rcases (show P.2.1 = 0 ∨ P.2.1 = 1 by omega) with q | q
    · rw [q]; exact hm.2.1
    · rw [q]; exact hm.2.2
theorem Gd_fit {n : Nat} {P : Ps} (h : Gd P) (hC : psC n P) (hn : n < 2 ^ 20) : psFit P := by
  have := Gd_len h
  exact ⟨by have := hC.1; omega, by have := hC.2; omega, by omega⟩
theorem psC_sm {n : Nat} {P : Ps} (hC : psC n P) (hn : n < 2 ^ 20) : psSm P := ⟨by have := hC.1; omega, by have := hC.2; omega⟩
