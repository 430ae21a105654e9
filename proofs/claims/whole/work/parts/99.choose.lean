/-! THE CLASS'S SPELLER: whole, means, choose -/
theorem tx_acc : ∀ (L : List Nat) (n : Nat), L.foldl (fun n x => 256 * n + x) n = n * 256 ^ L.length + tx L
  | [], n => by simp [tx]
  | x :: t, n => by
    have h1 : (x :: t).foldl (fun n x => 256 * n + x) n = t.foldl (fun n x => 256 * n + x) (256 * n + x) := rfl
    have h2 : tx (x :: t) = t.foldl (fun n x => 256 * n + x) (256 * 0 + x) := rfl
    rw [h1, h2, tx_acc t (256 * n + x), tx_acc t (256 * 0 + x), List.length_cons, Nat.pow_succ, Nat.add_mul, Nat.mul_zero, Nat.zero_add]
    have : n * (256 ^ t.length * 256) = 256 * n * 256 ^ t.length := by rw [Nat.mul_comm (256 ^ t.length) 256, ← Nat.mul_assoc, Nat.mul_comm n 256]
    rw [this]
    omega
theorem tx_cons (x : Nat) (t : List Nat) : tx (x :: t) = x * 256 ^ t.length + tx t := by
  have h2 : tx (x :: t) = t.foldl (fun n x => 256 * n + x) (256 * 0 + x) := rfl
  rw [h2, tx_acc, Nat.mul_zero, Nat.zero_add]
theorem tx_lt : ∀ (L : List Nat), (∀ x ∈ L, x < 256) → tx L < 256 ^ L.length
  | [], _ => by simp [tx]
  | x :: t, h => by
    have h1 := tx_lt t (fun y hy => h y (List.mem_cons_of_mem _ hy))
    have h2 := h x List.mem_cons_self
    rw [tx_cons, List.length_cons, Nat.pow_succ]
    have : (x + 1) * 256 ^ t.length ≤ 256 * 256 ^ t.length := Nat.mul_le_mul_right _ (by omega)
    rw [Nat.add_mul, Nat.one_mul] at this
    omega
theorem tx_ge {x : Nat} {t : List Nat} (h : x ≠ 0) : 256 ^ t.length ≤ tx (x :: t) := by
  rw [tx_cons]
  have : 1 * 256 ^ t.length ≤ x * 256 ^ t.length := Nat.mul_le_mul_right _ (by omega)
  omega
theorem tx_inj1 : ∀ (L K : List Nat), L.length = K.length → (∀ x ∈ L, x < 256) → (∀ x ∈ K, x < 256) → tx L = tx K → L = K
  | [], [], _, _, _, _ => rfl
  | [], y :: s, h, _, _, _ => absurd h (by simp)
  | x :: t, [], h, _, _, _ => absurd h (by simp)
  | x :: t, y :: s, h, hx, hy, e => by
    have hl : t.length = s.length := by simpa using h
    rw [tx_cons, tx_cons, hl] at e
    have h1 := tx_lt t (fun z hz => hx z (List.mem_cons_of_mem _ hz))
    have h2 := tx_lt s (fun z hz => hy z (List.mem_cons_of_mem _ hz))
    rw [hl] at h1
    have hp : 0 < 256 ^ s.length := Nat.pow_pos (by decide)
    have d1 : (x * 256 ^ s.length + tx t) / 256 ^ s.length = x := by rw [Nat.mul_comm, Nat.mul_add_div hp, Nat.div_eq_of_lt h1]; omega
    have d2 : (y * 256 ^ s.length + tx s) / 256 ^ s.length = y := by rw [Nat.mul_comm, Nat.mul_add_div hp, Nat.div_eq_of_lt h2]; omega
    have exy : x = y := by rw [← d1, ← d2, e]
    subst exy
    have ets : tx t = tx s := by omega
    rw [tx_inj1 t s hl (fun z hz => hx z (List.mem_cons_of_mem _ hz)) (fun z hz => hy z (List.mem_cons_of_mem _ hz)) ets]
theorem tx_inj {x y : Nat} {t s : List Nat} (hx : x ≠ 0) (hy : y ≠ 0) (bx : ∀ z ∈ x :: t, z < 256) (by_ : ∀ z ∈ y :: s, z < 256) (e : tx (x :: t) = tx (y :: s)) : x :: t = y :: s := by
  refine tx_inj1 _ _ ?_ bx by_ e
  have a1 := tx_lt _ bx
  have a2 := tx_lt _ by_
  have b1 := tx_ge (t := t) hx
  have b2 := tx_ge (t := s) hy
  rw [List.length_cons] at a1 a2 ⊢
  rw [List.length_cons]
  have h1 : 256 ^ t.length < 256 ^ (s.length + 1) := by omega
  have h2 : 256 ^ s.length < 256 ^ (t.length + 1) := by omega
  have g1 := (Nat.pow_lt_pow_iff_right (by decide : 1 < 256)).mp h1
  have g2 := (Nat.pow_lt_pow_iff_right (by decide : 1 < 256)).mp h2
  omega
theorem pk8_take (L : List Nat) : ∀ k, k ≤ L.length → pk8 L 0 k = tx (L.take k)
  | 0, _ => by simp [pk8, tx]
  | k + 1, h => by
    have hk : k < L.length := by omega
    have e : L.take (k + 1) = L.take k ++ [L[k]] := by rw [List.take_succ_eq_append_getElem hk]
    rw [e, tx_snoc, ← pk8_take L k (by omega)]
    show 256 * pk8 L 0 k + L.getD (0 + k) 0 = _
    rw [Nat.zero_add, List.getD_eq_getElem?_getD, List.getElem?_eq_getElem hk]
    rfl
theorem pk8_more (L : List Nat) : ∀ j, pk8 L 0 (L.length + j) = tx L * 256 ^ j
  | 0 => by rw [Nat.add_zero, pk8_take L _ (Nat.le_refl _), List.take_length]; omega
  | j + 1 => by
    show 256 * pk8 L 0 (L.length + j) + L.getD (0 + (L.length + j)) 0 = _
    rw [pk8_more L j, List.getD_eq_getElem?_getD, List.getElem?_eq_none (by omega), Nat.pow_succ]
    show 256 * (tx L * 256 ^ j) + 0 = _
    rw [Nat.add_zero, Nat.mul_comm 256, Nat.mul_assoc]
theorem jN_shl8 (n : Nat) : jN n <<< ((8 : Int32).toInt64 &&& 63) = jN (256 * n) := by
  have h := jN_cat n 0 (by omega)
  rw [show (nI 0).toInt64 = 0 from by decide, Nat.add_zero] at h
  rw [← h]
  simp
set_option maxHeartbeats 4000000 in
theorem c_wholeC {mc ms : Nat} {M : zM} {g : Nat} (hW : zWd M g) (hC : cOk M) {P : Ps} (hG : Gd P) (hL : gLs M g P) {k n : Nat} (hPC : psC n P) (hn : n < 1990) (hk : k ≤ 600) (hS : sSt M g P k) {i m : Nat} (hi : (mvs P)[i]? = some m) (hh : ∃ x t, spl P m = x :: t ∧ x ≠ 0) {Q : zQt} (hq : ∀ N, sgC M N g k → sSt N g P k → Q (some (.long (jN (pk8 (spl P m ++ sgl P m) 0 8)))) N) : wX9_whole mc ms [.ref 25, .ref g, .int (nI i)] M Q := by
  refine ⟨⟨Nat.le_of_ble_eq_true rfl, rfl⟩, fun X l0 l34 l37 l64 => ?_⟩
  have hLen := Gd_len hG
  have hmem := List.mem_of_getElem? hi
  have hil : i < (mvs P).length := (List.getElem?_eq_some_iff.mp hi).1
  obtain ⟨x0, t0, hx, hx0⟩ := hh
  have hlt : ∀ z ∈ spl P m ++ sgl P m, z < 256 := fun z hz => (List.mem_append.mp hz).elim (spl_lt P m z) ((sgl_lt P m).2 z)
  have hlen : (spl P m ++ sgl P m).length ≤ 7 := by
    rw [List.length_append]
    have := spl_len P m
    have := (sgl_lt P m).1
    omega
  have hcons : spl P m ++ sgl P m = x0 :: (t0 ++ sgl P m) := by rw [hx]; rfl
  obtain ⟨L, eL⟩ : ∃ L, L = spl P m ++ sgl P m := ⟨_, rfl⟩
  rw [← eL] at hlt hlen hcons hq
  obtain ⟨l, el⟩ : ∃ l, l = L.length := ⟨_, rfl⟩
  have hl1 : 1 ≤ l := by rw [el, hcons, List.length_cons]; omega
  have hlow : 256 ^ (l - 1) ≤ tx L := by
    have := tx_ge (t := t0 ++ sgl P m) hx0
    rw [← hcons] at this
    rw [el, hcons, List.length_cons]
    rw [hcons] at this
    exact this
  have hhi : tx L < 256 ^ l := by rw [el]; exact tx_lt L hlt
  refine l0 _ _ _ _ _ ⟨rfl, vX9_whole_0 hW (c_plain hW hG hS.1 hL hi (vkX9_whole_6 hW ?_))⟩
  rw [nI_clamp (by omega), hL.2 i m hi]
  refine ⟨vp_in_nI (by omega) (by omega), c_signC hW hC hG hPC hn hk hS hmem (fun N fr sN => ?_)⟩
  have WN := fr.1.wd hW
  have loop : ∀ (r k : Nat), k + r = 8 - l → X 37 0 0 [.long (jN (tx L * 256 ^ k)), .int (nI k)] [] N := by
    intro r
    induction r with
    | zero =>
      intro k hk
      have fin : X 64 0 0 [.long (jN (tx L * 256 ^ k))] [] N := by
        refine l64 _ _ _ _ _ ⟨rfl, vX9_whole_64 WN ?_⟩
        have := hq N fr sN
        rw [show 8 = L.length + k by omega, pk8_more] at this
        exact this
      refine l37 _ _ _ _ _ ⟨rfl, vX9_whole_37 WN ⟨fun _ => fin, fun _ => ⟨fun w => ?_, fun _ => fin⟩⟩⟩
      exfalso
      have h1 := lg0.mp w
      have h2 : nn ((jN (tx L * 256 ^ k)).toUInt64 >>> ((56 : Int32).toInt64.toUInt64 &&& Int64.toUInt64 63)).toInt64 = nn (jN (tx L * 256 ^ k)) / 2 ^ 56 := nn_shr _ (t := 56) (by decide)
      have b1 : tx L * 256 ^ k < 256 ^ 8 := by
        have : tx L * 256 ^ k < 256 ^ l * 256 ^ k := Nat.mul_lt_mul_of_pos_right hhi (Nat.pow_pos (by decide))
        rw [← Nat.pow_add, show l + k = 8 by omega] at this
        exact this
      have b2 : 256 ^ 7 ≤ tx L * 256 ^ k := by
        have : 256 ^ (l - 1) * 256 ^ k ≤ tx L * 256 ^ k := Nat.mul_le_mul_right _ hlow
        rw [← Nat.pow_add, show l - 1 + k = 7 by omega] at this
        exact this
      rw [h1, nn_jN (by omega)] at h2
      have h3 : nn 0 = 0 := by decide
      rw [h3] at h2
      omega
    | succ r ih =>
      intro k hk
      have b1 : tx L * 256 ^ k < 256 ^ 7 := by
        have : tx L * 256 ^ k < 256 ^ l * 256 ^ k := Nat.mul_lt_mul_of_pos_right hhi (Nat.pow_pos (by decide))
        rw [← Nat.pow_add] at this
        exact Nat.lt_of_lt_of_le this (Nat.pow_le_pow_right (by decide) (by omega))
      have h2 : nn ((jN (tx L * 256 ^ k)).toUInt64 >>> ((56 : Int32).toInt64.toUInt64 &&& Int64.toUInt64 63)).toInt64 = nn (jN (tx L * 256 ^ k)) / 2 ^ 56 := nn_shr _ (t := 56) (by decide)
      rw [nn_jN (by omega)] at h2
      have hz : ((jN (tx L * 256 ^ k)).toUInt64 >>> ((56 : Int32).toInt64.toUInt64 &&& Int64.toUInt64 63)).toInt64 = 0 := by
        apply nn_inj
        rw [h2, show nn 0 = 0 from by decide]
        omega
      refine l37 _ _ _ _ _ ⟨rfl, vX9_whole_37 WN ⟨fun w => absurd ((nI_leI (a := 8) (b := k) (by decide) (by omega)).mp w) (by omega), fun _ => ⟨fun _ => fun y ey => ?_, fun w => absurd (lg0.mpr hz) w⟩⟩⟩
      rw [ey, jN_shl8, nI_1, show 256 * (tx L * 256 ^ k) = tx L * 256 ^ (k + 1) by rw [Nat.pow_succ, Nat.mul_comm 256, Nat.mul_assoc]]
      exact ih (k + 1) (by omega)
  have f34 : X 34 0 0 [.long (jN (tx L))] [] N := by
    refine l34 _ _ _ _ _ ⟨rfl, vX9_whole_34 WN ?_⟩
    have := loop (8 - l) 0 (by omega)
    rw [Nat.pow_zero, Nat.mul_one] at this
    exact this
  have hsN : sgN P m < 256 := by unfold sgN; split <;> (try split) <;> omega
  have ez := nI_eq (a := sgN P m) (b := 0) (by omega) (by decide)
  have hs := sgN_sgl P m
  refine vkX9_whole_18 WN ⟨fun w => ?_, fun w => fun y ey => ?_⟩
  · rw [if_pos (ez.mp w)] at hs
    rw [eL, hs, List.append_nil] at f34
    exact f34
  · rw [if_neg (fun z => w (ez.mpr z))] at hs
    rw [ey, jN_cat _ _ hsN, ← tx_snoc, ← hs, ← eL]
    exact f34
