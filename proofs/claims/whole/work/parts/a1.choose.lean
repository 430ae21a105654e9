/-! THE CLASS'S SPELLER: which move a word means -/
def wdC (f : Nat) : Int := if f = 1 then 2 else if f = 2 then -2 else 0
/-- the word's fields tell of the n signs from a on, which have the form f -/
def wSt (M : zM) (T : Nat → Nat) (a n f : Nat) : Prop := M.1 28 3 = iI (wdC f) ∧ M.2.1 28 4 = jN (tx (txt T a n)) ∧
  (3 ≤ f → M.1 28 1 = nI ((T (lsq T f a n) - 97) + 8 * (T (lsq T f a n + 1) - 49)) ∧ (∃ k, M.1 28 0 = nI k ∧ k ≤ 6 ∧ (f = 3 → 2 ≤ k ∧ ltr k = T a) ∧ (f = 4 → k = 1)) ∧ ∃ j, M.1 28 2 = nI j ∧ j ≤ 5 ∧ (bec T f a n → 2 ≤ j ∧ ltr j = T (a + n - 1)) ∧ (¬ bec T f a n → j = 0))
theorem cstl_lt (P : Ps) (m : Nat) : cstl P m < 3 := by
  unfold cstl
  split
  · omega
  · split <;> omega
set_option maxHeartbeats 4000000 in
theorem c_means {mc ms : Nat} {M : zM} {g : Nat} (hW : zWd M g) {P : Ps} (hG : Gd P) (hP : bPs M g P) {T : Nat → Nat} {a n f : Nat} (hf : f = fmS T a n) (hf0 : f ≠ 0) (hw : wSt M T a n f) {m : Nat} (hm : m ∈ mvs P) {Q : zQt} (q1 : lkS P T m f a n → Q (some (.int 1)) M) (q0 : ¬ lkS P T m f a n → Q (some (.int 0)) M) : wX9_means mc ms [.ref 25, .ref g, .ref 28, .int (nI m)] M Q := by
  refine ⟨⟨Nat.le_of_ble_eq_true rfl, rfl⟩, fun X l0 l44 l58 l107 l108 => ?_⟩
  have hO := hG.1
  have hc := hO.2.1
  have hml := mvs_lt hm
  obtain ⟨ha, hb, hp5, -, -⟩ := mvs_parts hm
  obtain ⟨k1, k2, k3⟩ := own_kd hO hm
  have hcs := cs_cstl hO hm
  have hcl := cstl_lt P m
  have hfle := fmS_le T a n
  rw [← hf] at hfle
  obtain ⟨w1, w2, w3⟩ := hw
  have f107 : ¬ lkS P T m f a n → X 107 0 0 [] [] M := fun h => l107 _ _ _ _ _ ⟨rfl, vX9_means_107 hW (l108 _ _ _ _ _ ⟨rfl, vX9_means_108 hW ⟨rfl, q0 h⟩⟩)⟩
  have f108 : lkS P T m f a n → X 108 0 0 [] [.int 1] M := fun h => l108 _ _ _ _ _ ⟨rfl, vX9_means_108 hW ⟨rfl, q1 h⟩⟩
  have f58 : ∀ b : Bool, (b = true ↔ lkS P T m f a n) → X 58 0 0 [] [.int (bI b)] M := by
    intro b hb
    cases b with
    | true => exact l58 _ _ _ _ _ ⟨rfl, vX9_means_58 hW ⟨rfl, q1 (hb.mp rfl)⟩⟩
    | false => exact l58 _ _ _ _ _ ⟨rfl, vX9_means_58 hW ⟨rfl, q0 (fun z => absurd (hb.mpr z) (by decide))⟩⟩
  have hwd : iI (wdC f) = 0 ↔ 3 ≤ f := by
    have : ∀ f, f ≤ 4 → f ≠ 0 → (iI (wdC f) = 0 ↔ 3 ≤ f) := by decide
    exact this f hfle hf0
  have hcd : iI (csI P (m % 64) (m / 64 % 64)) = 0 ↔ cstl P m = 0 := by
    rw [hcs]
    have : ∀ c, c < 3 → (iI (if c = 1 then 2 else if c = 2 then -2 else 0) = 0 ↔ c = 0) := by decide
    exact this _ hcl
  have hwc : f < 3 ∨ 0 < cstl P m → (iI (wdC f) = iI (csI P (m % 64) (m / 64 % 64)) ↔ cstl P m = f) := by
    rw [hcs]
    have : ∀ f, f ≤ 4 → f ≠ 0 → ∀ c, c < 3 → (f < 3 ∨ 0 < c) → (iI (wdC f) = iI (if c = 1 then 2 else if c = 2 then -2 else 0) ↔ c = f) := by decide
    exact this f hfle hf0 _ hcl
  have f44 : f < 3 ∨ 0 < cstl P m → X 44 0 0 [.ref 28, .int (iI (csI P (m % 64) (m / 64 % 64)))] [] M := by
    intro h
    have hl : lkS P T m f a n ↔ cstl P m = f := by unfold lkS; rw [if_pos h]
    refine l44 _ _ _ _ _ ⟨rfl, vX9_means_44 hW ?_⟩
    rw [w1]
    exact ⟨fun w => f58 true ⟨fun _ => hl.mpr ((hwc h).mp w), fun _ => rfl⟩, fun w => f58 false ⟨fun z => absurd z (by decide), fun z => absurd ((hwc h).mpr (hl.mp z)) w⟩⟩
  refine l0 _ _ _ _ _ ⟨rfl, vX9_means_0 hW ?_⟩
  rw [mv_to hml, mv_from hml]
  intro y ey
  rw [ey]
  refine c_castleStep hW hc hP.1 hP.2.1 ha hb (vkX9_means_30 hW ?_)
  rw [w1, mv_pr hml]
  refine ⟨fun z => ⟨fun z2 => ?_, fun z2 => f44 (Or.inr (by have : cstl P m ≠ 0 := fun u => z2 (hcd.mpr u); omega))⟩, fun z => f44 (Or.inl (by have : ¬ 3 ≤ f := fun u => z (hwd.mpr u); omega))⟩
  have hf3 := hwd.mp z
  have hc0 := hcd.mp z2
  obtain ⟨t1, ⟨k, kk1, kk2, kk3, kk4⟩, ⟨j, jj1, jj2, jj3, jj4⟩⟩ := w3 hf3
  have hsq := fm_sq (T := T) (a := a) (n := n) (by rw [← hf]; exact hf3)
  rw [← hf] at hsq
  obtain ⟨-, -, s1, s2⟩ := hsq
  unfold isF at s1
  unfold isR at s2
  have hl : lkS P T m f a n ↔ lmn P T m f a ∧ (if 0 < m / 4096 then ltr (m / 4096) else 0) = (if bec T f a n then T (a + n - 1) else 0) ∧ m / 64 % 64 = (T (lsq T f a n) - 97) + 8 * (T (lsq T f a n + 1) - 49) := by
    unfold lkS
    rw [if_neg (by omega)]
  obtain ⟨t, et⟩ : ∃ t, t = (T (lsq T f a n) - 97) + 8 * (T (lsq T f a n + 1) - 49) := ⟨_, rfl⟩
  rw [← et] at t1 hl
  have ht : t < 64 := by omega
  have e1 := nI_eq (a := m / 64 % 64) (b := t) (by omega) (by omega)
  have e2 := nI_eq (a := m / 4096) (b := j) (by omega) (by omega)
  have hpr2 : m / 4096 ≠ 0 → 2 ≤ m / 4096 := fun h => (pr_pawn hO (mvs_mvK hm) h).2.1
  have hj : m / 4096 = j ↔ (if 0 < m / 4096 then ltr (m / 4096) else 0) = (if bec T f a n then T (a + n - 1) else 0) := by
    by_cases hb : bec T f a n
    · obtain ⟨b1, b2⟩ := jj3 hb
      rw [if_pos hb, ← b2]
      by_cases q : 0 < m / 4096
      · rw [if_pos q]
        exact ⟨fun z => by rw [z], fun z => ltr_26 _ (by omega) _ (by omega) (by omega) (by omega) z⟩
      · rw [if_neg q]
        have := ltr_ge j
        exact ⟨fun z => by omega, fun z => by omega⟩
    · have b1 := jj4 hb
      rw [if_neg hb, b1]
      by_cases q : 0 < m / 4096
      · rw [if_pos q]
        have := ltr_ge (m / 4096)
        exact ⟨fun z => by omega, fun z => by omega⟩
      · rw [if_neg q]
        exact ⟨fun _ => rfl, fun _ => by omega⟩
  have hk : kd (P.1 (m % 64)) = k ↔ lmn P T m f a := by
    unfold lmn
    rcases (show f = 3 ∨ f = 4 by omega) with q | q
    · obtain ⟨b1, b2⟩ := kk3 q
      rw [if_pos q, ← b2]
      constructor
      · intro z; rw [z]; exact ⟨by omega, rfl⟩
      · rintro ⟨z1, z2⟩
        exact ltr_26 _ (by omega) _ (by omega) (by omega) (by omega) z2
    · rw [if_neg (by omega), kk4 q]
  have e3 := nI_eq (a := kd (P.1 (m % 64))) (b := k) (by omega) (by omega)
  rw [t1, jj1, kk1, nI_clamp (by omega), (hP.1.1 _ ha).1, hP.2.1, show (6 : Int32) * nI P.2.1 = nI (6 * P.2.1) from pk_mul 6 _, pk_sub (by omega), show P.1 (m % 64) - 6 * P.2.1 = kd (P.1 (m % 64)) by omega]
  refine ⟨fun x1 => ⟨fun x2 => ⟨vp_in_nI (by omega) (by omega), fun x3 => f108 (hl.mpr ⟨hk.mp (e3.mp x3), hj.mp (e2.mp x2), e1.mp x1⟩), fun x3 => f107 (fun u => x3 (e3.mpr (hk.mpr (hl.mp u).1)))⟩, fun x2 => f107 (fun u => x2 (e2.mpr (hj.mpr (hl.mp u).2.1)))⟩, fun x1 => f107 (fun u => x1 (e1.mpr (hl.mp u).2.2))⟩
theorem txt_len (T : Nat → Nat) (a n : Nat) : (txt T a n).length = n := by simp [txt]
theorem txt_cons {T : Nat → Nat} {a n : Nat} (h : 0 < n) : ∃ t, txt T a n = T a :: t := by
  obtain ⟨k, rfl⟩ : ∃ k, n = k + 1 := ⟨n - 1, by omega⟩
  unfold txt
  rw [List.range_succ_eq_map]
  exact ⟨_, rfl⟩
/-- the class's comparison of words -/
theorem tx_cmp {P : Ps} {m : Nat} {T : Nat → Nat} (hT : ∀ i, T i < 256) {a n : Nat} (hn : n ≤ 7) (hf : fmS T a n ≠ 0) : lg_cmp (jN (tx (spl P m))) (jN (tx (txt T a n))) = 0 ↔ spl P m = txt T a n := by
  obtain ⟨h1, h2⟩ := fm_head hf
  obtain ⟨t, ht⟩ := txt_cons (T := T) (a := a) h1
  obtain ⟨x, s, hs, hx⟩ := spl_head P m
  have bt1 : ∀ z ∈ txt T a n, z < 256 := fun z hz => by
    unfold txt at hz
    obtain ⟨k, -, e⟩ := List.mem_map.mp hz
    rw [← e]; exact hT _
  have bs1 := spl_lt P m
  have p1 := tx_lt _ bt1
  have p2 := tx_lt _ bs1
  have l2 := spl_len P m
  have q1 : 256 ^ (txt T a n).length ≤ 256 ^ 7 := Nat.pow_le_pow_right (by decide) (by rw [txt_len]; omega)
  have q2 : 256 ^ (spl P m).length ≤ 256 ^ 7 := Nat.pow_le_pow_right (by decide) (by omega)
  rw [lgE, jN_inj (by omega) (by omega)]
  constructor
  · intro e
    rw [hs, ht] at e
    rw [hs] at bs1
    rw [ht] at bt1
    rw [hs, ht]
    exact tx_inj hx h2 bs1 bt1 e
  · intro e; rw [e]
/-- some of the first k moves is meant -/
def mnK (P : Ps) (T : Nat → Nat) (f a n k : Nat) : Prop := ∃ j m, j < k ∧ (mvs P)[j]? = some m ∧ lkS P T m f a n
set_option maxHeartbeats 4000000 in
theorem c_choose {mc ms : Nat} {M : zM} {g : Nat} (hW : zWd M g) {P : Ps} (hG : Gd P) (hP : bPs M g P) (hL : gLs M g P) {T : Nat → Nat} (hT : ∀ i, T i < 256) {a n f : Nat} (hn : n ≤ 7) (hf : f = fmS T a n) (hf0 : f ≠ 0) (hw : wSt M T a n f) {Q : zQt}
    (q1 : ∀ k m, (mvs P)[k]? = some m → lkS P T m f a n → spl P m = txt T a n → Q (some (.int (nI k))) M)
    (q2 : (∀ m ∈ mvs P, lkS P T m f a n → spl P m ≠ txt T a n) → (∃ m ∈ mvs P, lkS P T m f a n) → Q (some (.int (-23))) M)
    (q3 : (∀ m ∈ mvs P, ¬ lkS P T m f a n) → Q (some (.int (-22))) M) : wX9_choose mc ms [.ref 25, .ref g, .ref 28] M Q := by
  refine ⟨⟨Nat.le_of_ble_eq_true rfl, rfl⟩, fun X l0 l5 l50 l67 => ?_⟩
  have hLen := Gd_len hG
  have loop : ∀ (r k : Nat) (b : Bool), k + r = (mvs P).length → (b = true ↔ mnK P T f a n k) → (∀ j m, j < k → (mvs P)[j]? = some m → lkS P T m f a n → spl P m ≠ txt T a n) → X 5 0 0 [.ref 25, .ref g, .ref 28, .int (bI b), .int (nI k)] [] M := by
    intro r
    induction r with
    | zero =>
      intro k b hk hb hno
      obtain rfl : k = (mvs P).length := by omega
      refine l5 _ _ _ _ _ ⟨rfl, vX9_choose_5 hW ?_⟩
      rw [hL.1]
      have at_ : ∀ m ∈ mvs P, ∃ j, j < (mvs P).length ∧ (mvs P)[j]? = some m := fun m hm => by
        obtain ⟨j, hj, e⟩ := List.mem_iff_getElem.mp hm
        exact ⟨j, hj, by rw [List.getElem?_eq_getElem hj, e]⟩
      refine ⟨fun _ => ⟨fun w => l67 _ _ _ _ _ ⟨rfl, vX9_choose_67 hW (q3 (fun m hm z => ?_))⟩, fun w => l67 _ _ _ _ _ ⟨rfl, vX9_choose_67 hW (q2 (fun m hm z => ?_) ?_)⟩⟩, fun w => absurd ((nI_leI (a := (mvs P).length) (b := (mvs P).length) (by omega) (by omega)).mpr (Nat.le_refl _)) w⟩
      · obtain ⟨j, hj, e⟩ := at_ m hm
        rw [hb.mpr ⟨j, m, hj, e, z⟩] at w
        exact absurd w (by decide)
      · obtain ⟨j, hj, e⟩ := at_ m hm
        exact hno j m hj e z
      · obtain ⟨j, m, hj, e, z⟩ := hb.mp (bI_n.mp w)
        exact ⟨m, List.mem_of_getElem? e, z⟩
    | succ r ih =>
      intro k b hk hb hno
      have hkl : k < (mvs P).length := by omega
      have hgk : (mvs P)[k]? = some (mvs P)[k] := List.getElem?_eq_getElem hkl
      have hmk := List.getElem_mem hkl
      obtain ⟨m, em⟩ : ∃ m, m = (mvs P)[k] := ⟨_, rfl⟩
      rw [← em] at hgk hmk
      have f50 : ∀ c : Bool, (c = true ↔ mnK P T f a n (k + 1)) → (lkS P T m f a n → spl P m ≠ txt T a n) → X 50 0 0 [.ref 25, .ref g, .ref 28, .int (bI c), .int (nI k)] [] M := by
        intro c hc hn2
        refine l50 _ _ _ _ _ ⟨rfl, vX9_choose_50 hW ?_⟩
        rw [nI_1]
        refine ih (k + 1) c (by omega) hc (fun j u hj hu hl => ?_)
        by_cases q : j = k
        · rw [q, hgk] at hu; cases hu; exact hn2 hl
        · exact hno j u (by omega) hu hl
      refine l5 _ _ _ _ _ ⟨rfl, vX9_choose_5 hW ?_⟩
      rw [hL.1, nI_clamp (by omega), hL.2 k m hgk]
      refine ⟨fun w => absurd ((nI_leI (a := (mvs P).length) (b := k) (by omega) (by omega)).mp w) (by omega), fun _ => ⟨vp_in_nI (by omega) (by omega), ?_⟩⟩
      refine c_means hW hG hP hf hf0 hw hmk (fun z => vkX9_choose_27 hW ⟨fun w => absurd w (by decide), fun _ => ?_⟩) (fun z => vkX9_choose_27 hW ⟨fun _ => f50 b ?_ (fun u => absurd u z), fun w => absurd rfl w⟩)
      · refine c_plain hW hG hP hL hgk (vkX9_choose_37 hW ?_)
        rw [hw.2.1]
        have hcmp := tx_cmp (P := P) (m := m) hT hn (by rw [← hf]; exact hf0)
        refine ⟨fun w => q1 k m hgk z (hcmp.mp w), fun w => f50 true ⟨fun _ => ⟨k, m, by omega, hgk, z⟩, fun _ => rfl⟩ (fun _ u => w (hcmp.mpr u))⟩
      · rw [hb]
        constructor
        · rintro ⟨j, u, hj, hu, hl⟩; exact ⟨j, u, by omega, hu, hl⟩
        · rintro ⟨j, u, hj, hu, hl⟩
          by_cases q : j = k
          · rw [q, hgk] at hu; cases hu; exact absurd hl z
          · exact ⟨j, u, by omega, hu, hl⟩
  refine l0 _ _ _ _ _ ⟨rfl, vX9_choose_0 hW ?_⟩
  exact loop (mvs P).length 0 false (by omega) ⟨fun z => absurd z (by decide), fun ⟨j, m, hj, _⟩ => absurd hj (Nat.not_lt_zero _)⟩ (fun j m hj => absurd hj (Nat.not_lt_zero _))
/-! what the reference finds -/
theorem fdL_no {P : Ps} {T : Nat → Nat} {f a b n : Nat} : ∀ (L : List Nat) (w : Nat), (∀ m ∈ L, ¬ lkS P T m f a b) → fdL P T f a b n L w = -(w : Int)
  | [], w, _ => rfl
  | m :: t, w, h => by
    unfold fdL
    rw [if_neg (h m List.mem_cons_self)]
    exact fdL_no t w (fun u hu => h u (List.mem_cons_of_mem _ hu))
theorem fdL_23 {P : Ps} {T : Nat → Nat} {f a b n : Nat} : ∀ (L : List Nat) (w : Nat), (∀ m ∈ L, lkS P T m f a b → spl P m ≠ txt T a b) → w ≠ 24 → ((w = 23 ∨ ∃ m ∈ L, lkS P T m f a b) → fdL P T f a b n L w = -23)
  | [], w, _, h24, h => by
    rcases h with q | ⟨m, hm, _⟩
    · rw [q]; rfl
    · exact absurd hm List.not_mem_nil
  | m :: t, w, hs, h24, h => by
    unfold fdL
    by_cases q : lkS P T m f a b
    · rw [if_pos q, if_neg (hs m List.mem_cons_self q), if_neg h24]
      exact fdL_23 t 23 (fun u hu => hs u (List.mem_cons_of_mem _ hu)) (by omega) (Or.inl rfl)
    · rw [if_neg q]
      refine fdL_23 t w (fun u hu => hs u (List.mem_cons_of_mem _ hu)) h24 ?_
      rcases h with z | ⟨u, hu, z⟩
      · exact Or.inl z
      · rcases List.mem_cons.mp hu with y | y
        · rw [y] at z; exact absurd z q
        · exact Or.inr ⟨u, y, z⟩
theorem fdL_24 {P : Ps} {T : Nat → Nat} {f a b n : Nat} {m0 : Nat} (h0 : lkS P T m0 f a b) (hs0 : spl P m0 = txt T a b) : ∀ (L : List Nat) (w : Nat), (∀ m ∈ L, spl P m = txt T a b → m = m0) → (m0 ∈ L ∨ (w = 24 ∧ ¬ spl P m0 ++ sgl P m0 = txt T a n)) → fdL P T f a b n L w = if spl P m0 ++ sgl P m0 = txt T a n then (m0 : Int) else -24
  | [], w, _, h => by
    rcases h with q | ⟨q, z⟩
    · exact absurd q List.not_mem_nil
    · rw [q, if_neg z]; rfl
  | m :: t, w, hu, h => by
    unfold fdL
    have hu2 : ∀ x ∈ t, spl P x = txt T a b → x = m0 := fun x hx => hu x (List.mem_cons_of_mem _ hx)
    by_cases q : m = m0
    · subst q
      rw [if_pos h0, if_pos hs0]
      by_cases z : spl P m ++ sgl P m = txt T a n
      · rw [if_pos z, if_pos z]
      · rw [if_neg z]
        exact fdL_24 h0 hs0 t 24 hu2 (Or.inr ⟨rfl, z⟩)
    · have hns : ¬ spl P m = txt T a b := fun z => q (hu m List.mem_cons_self z)
      have hmem : m0 ∈ t ∨ (w = 24 ∧ ¬ spl P m0 ++ sgl P m0 = txt T a n) := by
        rcases h with z | z
        · rcases List.mem_cons.mp z with y | y
          · exact absurd y.symm q
          · exact Or.inl y
        · exact Or.inr z
      by_cases y : lkS P T m f a b
      · rw [if_pos y, if_neg hns]
        refine fdL_24 h0 hs0 t _ hu2 ?_
        rcases hmem with z | ⟨z, z2⟩
        · exact Or.inl z
        · exact Or.inr ⟨by rw [if_pos z], z2⟩
      · rw [if_neg y]
        exact fdL_24 h0 hs0 t w hu2 hmem
