/-! THE REFERENCE'S ENDINGS: a kind of man is worked out -/
def xFr (C : List Nat) (M K : zM) : Prop := zFix K ∧ (∀ b sh, zsh M b = some sh → zsh K b = some sh) ∧ M.2.2.2.length ≤ K.2.2.2.length ∧ ∀ b, b ∉ C → (b < M.2.2.2.length ∨ K.2.2.2.length ≤ b) → K.1 b = M.1 b ∧ K.2.1 b = M.2.1 b ∧ K.2.2.1 b = M.2.2.1 b
theorem xFr.rf {C : List Nat} {M : zM} (hW : zFix M) : xFr C M M := ⟨hW, fun _ _ h => h, Nat.le_refl _, fun _ _ _ => ⟨rfl, rfl, rfl⟩⟩
theorem xFr.tr {C : List Nat} {M K N : zM} (h : xFr C M K) (g : xFr C K N) : xFr C M N := by
  obtain ⟨a1, a2, a3, a4⟩ := h
  obtain ⟨b1, b2, b3, b4⟩ := g
  refine ⟨b1, fun b sh q => b2 b sh (a2 b sh q), Nat.le_trans a3 b3, fun b hb q => ?_⟩
  have x := a4 b hb (by omega)
  have y := b4 b hb (by omega)
  exact ⟨y.1.trans x.1, y.2.1.trans x.2.1, y.2.2.trans x.2.2⟩
theorem fix_len {M : zM} (hW : zFix M) : 82 ≤ M.2.2.2.length := by
  have h := hW.1 81 _ rfl
  have := (List.getElem?_eq_some_iff.mp h).1
  omega
def zrx (b j : Nat) : Prop := (b = 71 ∧ 4 ≤ j ∧ j ≤ 8) ∨ b = 34 ∨ (b = 16 ∧ (j = 6 ∨ j = 7))
def zrxB (b j : Nat) : Bool := (b == 71 && (decide (4 ≤ j) && decide (j ≤ 8))) || (b == 34) || (b == 16 && (j == 6 || j == 7))
theorem zrx_no : zrf0.all (fun t => decide (t.1 < 82) && !zrxB t.1 t.2.1) = true := by decide +kernel
theorem fix_x {M K : zM} (hW : zFix M) (h : ∀ b sh, zsh M b = some sh → zsh K b = some sh) (g : ∀ b j, b < 82 → ¬ zrx b j → K.2.2.1 b j = M.2.2.1 b j) : zFix K := by
  refine ⟨fun k sh q => h k sh (hW.1 k sh q), fun t ht => ?_⟩
  have q := List.all_eq_true.mp zrx_no t ht
  rw [Bool.and_eq_true] at q
  have q1 := of_decide_eq_true q.1
  have q2 : zrxB t.1 t.2.1 = false := by simpa using q.2
  rw [g t.1 t.2.1 q1 (fun z => ?_)]
  · exact hW.2 t ht
  · rcases z with ⟨a, b, c⟩ | a | ⟨a, b | b⟩
    · simp [zrxB, a, b, c] at q2
    · simp [zrxB, a] at q2
    · simp [zrxB, a, b] at q2
    · simp [zrxB, a, b] at q2
abbrev eKC : List Nat := [71, 72, 73, 76, 77, 78, 79, 80]
/-- a kind of man is worked out -/
def eDone (M : zM) (k : Nat) : Prop := eRd M k true 100 ∧ eRd M k false 100 ∧ ∃ g : Int, -1 ≤ g ∧ g < 58 ∧ M.1 73 k = iI g ∧ ∀ s p w sm d, s < 64 → p < 64 → w < 64 → isD k s p w sm d → (d : Int) ≤ g
def eKn (M : zM) (kn : Nat → Bool) : Prop := eTb M ∧ ∀ k, 1 ≤ k → k ≤ 5 → M.1 72 k = bI (kn k) ∧ (kn k = true → eDone M k)
theorem eV_less {k s p w : Nat} {sm : Bool} {N N2 : Nat} {v : Int32} (hn : ∀ d, N ≤ d → ¬ isD k s p w sm d) (h : eV k s p w sm N2 v) (h2 : N2 ≥ N) : eV k s p w sm N v := by
  rcases h with ⟨d, a, b, c⟩ | ⟨a, c⟩
  · exact Or.inl ⟨d, by rcases Nat.lt_or_ge d N with z | z; exact z; exact absurd b (hn d z), b, c⟩
  · exact Or.inr ⟨fun d hd => a d (by omega), c⟩
theorem row_no : (List.range 82).all (fun b => !decide (zsh0[b]? = some (3, 81920)) && !decide (zsh0[b]? = some (3, 262144))) = true := by decide +kernel
theorem zsh0_len : zsh0.length = 82 := by decide +kernel
theorem row_ge {M : zM} (hW : zFix M) {r k : Nat} (h : zsh M r = some (3, 8192 * kSz k)) : 82 ≤ r := by
  rcases Nat.lt_or_ge r 82 with z | z
  · exfalso
    have q := List.all_eq_true.mp row_no r (List.mem_range.mpr z)
    rw [Bool.and_eq_true] at q
    have e : zsh0[r]? = some (zsh0[r]'(by rw [zsh0_len]; exact z)) := List.getElem?_eq_getElem _
    have e2 := hW.1 r _ e
    unfold zsh at h
    rw [e2] at h
    unfold kSz at h
    by_cases k1 : k = 1
    · rw [if_pos k1] at h
      have : zsh0[r]? = some (3, 262144) := e.trans h
      simp [this] at q
    · rw [if_neg k1] at h
      have : zsh0[r]? = some (3, 81920) := e.trans h
      simp [this] at q
  · exact z
theorem eRd.fr {M K : zM} (hW : zFix M) {k : Nat} {sm : Bool} {N : Nat} (h : eRd M k sm N) (h71 : K.2.2.1 71 (slt k) = M.2.2.1 71 (slt k)) (hs : ∀ b sh, zsh M b = some sh → zsh K b = some sh) (hv : ∀ r, 82 ≤ r → r < M.2.2.2.length → K.1 r = M.1 r) : eRd K k sm N := by
  rcases h with ⟨a, b⟩ | ⟨r, a, b, c⟩
  · exact Or.inl ⟨h71.trans a, b⟩
  · have lt : r < M.2.2.2.length := (List.getElem?_eq_some_iff.mp b).1
    exact Or.inr ⟨r, h71.trans a, hs _ _ b, fun s p w x y z => by rw [hv r (row_ge hW b) lt]; exact c s p w x y z⟩
theorem zsI_c {M : zM} {a j b : Nat} {v : Int32} (h : b ≠ a) : (zsI M a j v).1 b = M.1 b := z2_off _ _ _ h
/-- how the memory stands before round d -/
def rL (M K : zM) (k d i : Nat) : Prop := zFix K ∧ eTb K ∧ rI K M.2.2.2.length k d (decide (d % 2 = 1)) 0 ∧ K.2.2.2 = M.2.2.2 ++ [(3, 8192 * kSz k)] ∧ (∀ b, b ≠ M.2.2.2.length → b ∉ eKC → K.1 b = M.1 b ∧ K.2.1 b = M.2.1 b) ∧ (∀ b j, b ≠ M.2.2.2.length → ¬ (b = 71 ∧ j = slt k) → K.2.2.1 b j = M.2.2.1 b j) ∧ (∀ j, K.1 72 j = if j = k then 1 else M.1 72 j) ∧ ∀ j, K.1 73 j = if j = k then iI ((d : Int) - 1 - i) else M.1 73 j
theorem rI.of {K K2 : zM} {r k d c : Nat} {sm : Bool} (h : rI K r k d sm c) (h1 : K2.1 r = K.1 r) (h2 : K2.2.2 = K.2.2) : rI K2 r k d sm c := by
  unfold rI zsh at h ⊢
  rw [h1, h2]
  exact h
theorem rI.next {K : zM} {r k d : Nat} {sm : Bool} (hsm : sm = true ↔ d % 2 = 1) (h : rI K r k d sm 262144) : rI K r k (d + 1) (!sm) 0 := by
  refine ⟨h.1, h.2.1, fun s p w hs hp hw hk => ?_, fun s p w hs hp hw hk => ?_⟩
  · have q := h.2.2.2 s p w hs hp hw hk
    rw [if_pos (by omega)] at q
    rw [Bool.not_not]
    exact q
  · rw [if_neg (by omega)]
    refine eV_up (h.2.2.1 s p w hs hp hw hk) (fun q => ?_)
    have := bool_iff (isD_par q) hsm
    cases sm <;> exact absurd this (by decide)
theorem odd_next (d : Nat) : decide ((d + 1) % 2 = 1) = !decide (d % 2 = 1) := by
  by_cases h : d % 2 = 1
  · rw [decide_eq_true h, decide_eq_false (by omega)]; rfl
  · rw [decide_eq_false h, decide_eq_true (by omega)]; rfl
theorem rL.step {M K K2 : zM} (hW : zFix M) {k d i : Nat} (k5 : k ≤ 5) (h : rL M K k d i) (s : zSm (M.2.2.2.length :: eC) K K2) (hI : rI K2 M.2.2.2.length k d (decide (d % 2 = 1)) 262144) {v : Int32} {i2 : Nat} (hv : v = iI (((d + 1 : Nat) : Int) - 1 - i2)) : rL M (zsI K2 73 k v) k (d + 1) i2 := by
  have l82 := fix_len hW
  obtain ⟨a1, a2, a3, a4, a5, a6, a7, a8⟩ := h
  have n72 : 72 ∉ M.2.2.2.length :: eC := fun q => by
    rcases List.mem_cons.mp q with e | e
    · omega
    · exact absurd e (by decide)
  have n73 : 73 ∉ M.2.2.2.length :: eC := fun q => by
    rcases List.mem_cons.mp q with e | e
    · omega
    · exact absurd e (by decide)
  have fK2 := s.fix a1
  refine ⟨fK2, ?_, ?_, ?_, ?_, ?_, ?_, ?_⟩
  · have t := a2.rw a1 a3.1 s
    unfold eTb
    rw [zsI_c (b := 74) (by decide), zsI_c (b := 75) (by decide)]
    exact t
  · rw [odd_next]
    exact (hI.next (by simp)).of (z2_off _ _ _ (by omega)) rfl
  · show K2.2.2.2 = _
    rw [s.1]; exact a4
  · intro b hb hc
    have e := a5 b hb hc
    have q : b ∉ M.2.2.2.length :: eC := fun q => by
      rcases List.mem_cons.mp q with e | e
      · exact hb e
      · exact hc (by simp [eC] at e; simp [eKC]; omega)
    have b73 : b ≠ 73 := fun e => hc (by rw [e]; decide)
    refine ⟨?_, ?_⟩
    · rw [show (zsI K2 73 k v).1 b = K2.1 b from z2_off _ _ _ b73, s.i q]; exact e.1
    · show K2.2.1 b = _
      rw [s.j q]; exact e.2
  · intro b j hb hj
    show K2.2.2.1 b j = _
    rw [s.1]; exact a6 b j hb hj
  · intro j
    rw [zsI_c (b := 72) (by decide), s.i n72]
    exact a7 j
  · intro j
    rw [zsI_at]
    by_cases e : j = k
    · rw [if_pos ⟨rfl, e⟩, if_pos e, hv]
    · rw [if_neg (fun q => e q.2), if_neg e, s.i n73, a8 j, if_neg e]
/-- at the end of the rounds -/
theorem rL.done {M K : zM} (hW : zFix M) {kn : Nat → Bool} (hK : eKn M kn) {k d i : Nat} (k1 : 1 ≤ k) (k5 : k ≤ 5) (d9 : d < 100) (h : rL M K k d i) (hG : rG k d i) (hn : ∀ e, d ≤ e → nDa k e) {K2 : zM} (h2 : (0 < d - i ∧ K2 = K) ∨ (d - i = 0 ∧ kpd K K2 k none 5)) : xFr eKC M K2 ∧ eKn K2 (fun j => if j = k then true else kn j) := by
  have l82 := fix_len hW
  obtain ⟨a1, a2, a3, a4, a5, a6, a7, a8⟩ := h
  have ki : K2.1 = K.1 ∧ K2.2.1 = K.2.1 ∧ K2.2.2.2 = K.2.2.2 ∧ ∀ b j, ¬ (b = 71 ∧ j = slt k) → K2.2.2.1 b j = K.2.2.1 b j := by
    rcases h2 with ⟨_, e⟩ | ⟨_, e⟩
    · subst e; exact ⟨rfl, rfl, rfl, fun _ _ _ => rfl⟩
    · exact ⟨e.1, e.2.1, e.2.2.1, fun b j q => by rw [e.2.2.2, if_neg (fun z => q ⟨z.1, z.2.1⟩)]⟩
  obtain ⟨k2i, k2j, k2s, k2r⟩ := ki
  have shp : ∀ b sh, zsh M b = some sh → zsh K2 b = some sh := fun b sh q => by
    unfold zsh at q ⊢
    rw [k2s, a4, List.getElem?_append_left (List.getElem?_eq_some_iff.mp q).1]
    exact q
  have fK2 : zFix K2 := by
    refine fix_x hW shp (fun b j hb hx => ?_)
    have h71 : ¬ (b = 71 ∧ j = slt k) := fun q => hx (Or.inl ⟨q.1, by
      have q := q.2
      unfold slt at q
      split at q
      · omega
      · split at q
        · omega
        · split at q
          · omega
          · split at q <;> omega⟩)
    rw [k2r b j h71, a6 b j (by omega) h71]
  have i72 : ∀ j, K2.1 72 j = if j = k then 1 else M.1 72 j := fun j => by rw [k2i]; exact a7 j
  have i73 : ∀ j, K2.1 73 j = if j = k then iI ((d : Int) - 1 - i) else M.1 73 j := fun j => by rw [k2i]; exact a8 j
  have ks : K2.2.2.2.length = M.2.2.2.length + 1 := by rw [k2s, a4, List.length_append]; rfl
  have hno : ∀ s p w sm e, s < 64 → p < 64 → w < 64 → isD k s p w sm e → e < d - i := fun s p w sm e hs hp hw q => by
    rcases Nat.lt_or_ge e d with z | z
    · rcases Nat.lt_or_ge e (d - i) with y | y
      · exact y
      · exact absurd q (hG.2.2 e y z s p w sm hs hp hw)
    · exact absurd q (hn e z s p w sm hs hp hw)
  refine ⟨⟨fK2, shp, by omega, fun b hb hl => ?_⟩, ?_, fun j j1 j5 => ⟨?_, fun z => ?_⟩⟩
  · have e := a5 b (by omega) hb
    refine ⟨by rw [k2i]; exact e.1, by rw [k2j]; exact e.2, funext (fun j => ?_)⟩
    have n71 : ¬ (b = 71 ∧ j = slt k) := fun q => hb (by rw [q.1]; decide)
    rw [k2r b j n71, a6 b j (by omega) n71]
  · unfold eTb at a2 ⊢
    rw [k2i]
    exact a2
  · rw [i72 j]
    show _ = bI (if j = k then true else kn j)
    by_cases e : j = k
    · rw [if_pos e, if_pos e]; rfl
    · rw [if_neg e, if_neg e]; exact (hK.2 j j1 j5).1
  · by_cases e : j = k
    · subst e
      have ev : ∀ sm2, eRd K2 j sm2 100 := fun sm2 => by
        rcases h2 with ⟨hp, e⟩ | ⟨hz, e⟩
        · subst e
          refine Or.inr ⟨M.2.2.2.length, a3.2.1, a3.1, eV_all (f := K2.1 M.2.2.2.length) (fun s p w hs hp hw hk => ?_)⟩
          have more : ∀ v, eV j s p w sm2 d v → eV j s p w sm2 100 v := fun v q => eV_more (by omega) (fun e he _ => hn e he s p w sm2 hs hp hw) q
          by_cases y : sm2 = decide (d % 2 = 1)
          · have q := a3.2.2.2 s p w hs hp hw hk
            rw [if_neg (by omega), ← y] at q
            exact more _ q
          · have q := a3.2.2.1 s p w hs hp hw hk
            have y2 : (!decide (d % 2 = 1)) = sm2 := by
              cases hb : decide (d % 2 = 1) <;> rw [hb] at y <;> cases sm2 <;> first | rfl | exact absurd rfl y
            rw [y2] at q
            exact more _ q
        · exact Or.inl ⟨by rw [e.2.2.2, if_pos ⟨rfl, rfl, k5⟩], fun s p w d' hs hp hw _ q => by
            have := hno s p w sm2 d' hs hp hw q
            omega⟩
      refine ⟨ev true, ev false, (d : Int) - 1 - i, by have := hG.1; omega, ?_, by rw [i73, if_pos rfl], fun s p w sm d' hs hp hw q => ?_⟩
      · by_cases y : i < d
        · obtain ⟨s, p, w, sm, b1, b2, b3, b4⟩ := hG.2.1 y
          have := isD_lt k1 k5 b1 b2 b3 b4
          omega
        · omega
      · have := hno s p w sm d' hs hp hw q
        omega
    · have z : (if j = k then true else kn j) = true := z
      rw [if_neg e] at z
      obtain ⟨b1, b2, g, b3, b4, b5, b6⟩ := (hK.2 j j1 j5).2 z
      have r71 : K2.2.2.1 71 (slt j) = M.2.2.1 71 (slt j) := by
        have n71 : ¬ (71 = 71 ∧ slt j = slt k) := fun q => e (slt_inj j1 j5 k1 k5 q.2)
        rw [k2r 71 _ n71, a6 71 _ (by omega) n71]
      have rows : ∀ r, 82 ≤ r → r < M.2.2.2.length → K2.1 r = M.1 r := fun r hr hl => by
        rw [k2i]
        exact (a5 r (by omega) (by simp [eKC]; omega)).1
      exact ⟨b1.fr hW r71 shp rows, b2.fr hW r71 shp rows, g, b3, b4, by rw [i73, if_neg e]; exact b5, b6⟩
