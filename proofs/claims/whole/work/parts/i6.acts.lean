/-! CONSTRUCTORS: cells that are made one after the other -/
def rfL : List (Nat × Nat × Nat) → Nat → Nat → Option Nat
  | [], _, _ => none
  | t :: R, b, j => if b = t.1 ∧ j = t.2.1 then some t.2.2 else rfL R b j
def itL : List (Nat × Nat × Int32) → Nat → Nat → Int32
  | [], _, _ => 0
  | t :: Z, b, j => if b = t.1 ∧ j = t.2.1 then t.2.2 else itL Z b j
def hZ (z : Nat) (K0 K : zM) (n : Nat) (R : List (Nat × Nat × Nat)) (Z : List (Nat × Nat × Int32)) : Prop := K.2.2.2 = zsh0.take n ∧ (∀ b j, K.2.2.1 b j = rfL R b j) ∧ (∀ b i, z ≤ b → b < n → K.1 b i = itL Z b i) ∧ (∀ b, b < z → K.1 b = K0.1 b ∧ K.2.1 b = K0.2.1 b) ∧ z ≤ n ∧ n ≤ 82
theorem rfL_no {R : List (Nat × Nat × Nat)} {n : Nat} (h : R.all (fun t => t.1 != n) = true) (j : Nat) : rfL R n j = none := by
  induction R with
  | nil => rfl
  | cons t R ih =>
    rw [List.all_cons, Bool.and_eq_true] at h
    unfold rfL
    rw [if_neg (fun q => by rw [← q.1] at h; simp at h), ih h.2]
theorem itL_no {Z : List (Nat × Nat × Int32)} {n : Nat} (h : Z.all (fun t => t.1 != n) = true) (j : Nat) : itL Z n j = 0 := by
  induction Z with
  | nil => rfl
  | cons t R ih =>
    rw [List.all_cons, Bool.and_eq_true] at h
    unfold itL
    rw [if_neg (fun q => by rw [← q.1] at h; simp at h), ih h.2]
section ACT
variable {z n : Nat} {K0 K : zM} {R : List (Nat × Nat × Nat)} {Z : List (Nat × Nat × Int32)}
theorem hZ.len (h : hZ z K0 K n R Z) : K.2.2.2.length = n := by
  rw [h.1, List.length_take, zsh0_len]
  have := h.2.2.2.2.2
  omega
theorem hZ.sh (h : hZ z K0 K n R Z) {e : Nat} {x : Nat × Nat} (he : zsh0[e]? = some x) (hn : e < n) : zsh K e = some x := by
  unfold zsh
  rw [h.1, List.getElem?_take, if_pos hn]
  exact he
theorem hZ.new (h : hZ z K0 K n R Z) {x : Nat × Nat} (hx : zsh0[n]? = some x) (hR : R.all (fun t => t.1 != n) = true) (hI : Z.all (fun t => t.1 != n) = true) : hZ z K0 (zNew K x) (n + 1) R Z := by
  have len := h.len
  obtain ⟨h1, h2, h3, h4, h5, h6⟩ := h
  have n82 : n < 82 := by
    have := (List.getElem?_eq_some_iff.mp hx).1
    rw [zsh0_len] at this
    exact this
  refine ⟨?_, fun b j => ?_, fun b i hb hbn => ?_, fun b hb => ?_, by omega, by omega⟩
  · show K.2.2.2 ++ [x] = _
    rw [h1, List.take_add_one, hx]
    rfl
  · show (if b = K.2.2.2.length then none else K.2.2.1 b j) = _
    rw [len]
    by_cases q : b = n
    · rw [if_pos q, q, rfL_no hR]
    · rw [if_neg q]; exact h2 b j
  · show (if b = K.2.2.2.length then 0 else K.1 b i) = _
    rw [len]
    by_cases q : b = n
    · rw [if_pos q, q, itL_no hI]
    · rw [if_neg q]; exact h3 b i hb (by omega)
  · have := h4 b hb
    refine ⟨?_, ?_⟩
    · funext i
      show (if b = K.2.2.2.length then 0 else K.1 b i) = _
      rw [len, if_neg (by omega), this.1]
    · funext i
      show (if b = K.2.2.2.length then 0 else K.2.1 b i) = _
      rw [len, if_neg (by omega), this.2]
theorem hZ.rR (h : hZ z K0 K n R Z) (a j v : Nat) : hZ z K0 (zsR K a j (some v)) n ((a, j, v) :: R) Z := by
  obtain ⟨h1, h2, h3, h4, h5, h6⟩ := h
  refine ⟨h1, fun b i => ?_, h3, h4, h5, h6⟩
  show z2 K.2.2.1 a j (some v) b i = if b = a ∧ i = j then some v else rfL R b i
  unfold z2
  by_cases q : b = a
  · rw [if_pos q]
    by_cases y : i = j
    · rw [if_pos y, if_pos ⟨q, y⟩]
    · rw [if_neg y, if_neg (fun w => y w.2)]; exact h2 b i
  · rw [if_neg q, if_neg (fun w => q w.1)]; exact h2 b i
theorem hZ.iI (h : hZ z K0 K n R Z) {a : Nat} (ha : z ≤ a) (j : Nat) (v : Int32) : hZ z K0 (zsI K a j v) n R ((a, j, v) :: Z) := by
  obtain ⟨h1, h2, h3, h4, h5, h6⟩ := h
  refine ⟨h1, h2, fun b i hb hbn => ?_, fun b hb => ?_, h5, h6⟩
  · show z2 K.1 a j v b i = if b = a ∧ i = j then v else itL Z b i
    unfold z2
    by_cases q : b = a
    · rw [if_pos q]
      by_cases y : i = j
      · rw [if_pos y, if_pos ⟨q, y⟩]
      · rw [if_neg y, if_neg (fun w => y w.2)]; exact h3 b i hb hbn
    · rw [if_neg q, if_neg (fun w => q w.1)]; exact h3 b i hb hbn
  · have := h4 b hb
    exact ⟨by rw [zsI_o (by omega)]; exact this.1, this.2⟩
variable {mc ms u v : Nat} {lv : List (Option Value)} {st : List Value} {k : zT}
/-- a row is made and put into a field -/
theorem A_na (h : hZ z K0 K n R Z) {x : Int32} {c sz e ci j : Nat} (hx : x.toNatClampNeg = sz) (hx0 : ¬ x < 0) (hs : sz ≤ 1000000) (hn : zsh0[n]? = some (c, sz)) (hR : R.all (fun t => t.1 != n) = true) (hI : Z.all (fun t => t.1 != n) = true) (he : zsh0[e]? = some (0, ci)) (hen : e < n) (hu : u + 1 ≤ mc) (hv : v + sz ≤ ms) (hk : ∀ K', hZ z K0 K' (n + 1) ((e, j, n) :: R) Z → k (u + 1) (v + sz) lv st K') : zna mc ms c (zpr ci j k) u v lv (.int x :: .ref e :: st) K := by
  have len := h.len
  have hN := h.new hn hR hI
  refine ⟨hx0, by rw [hx]; exact hs, hu, by rw [hx]; exact hv, ?_⟩
  rw [hx, len]
  exact ⟨hN.sh he (by omega), hk _ (hN.rR e j n)⟩
theorem A_new (h : hZ z K0 K n R Z) {ci : Nat} (hn : zsh0[n]? = some (0, ci)) (hR : R.all (fun t => t.1 != n) = true) (hI : Z.all (fun t => t.1 != n) = true) (hu : u + 1 ≤ mc) (hv : v + zN ci ≤ ms) (hk : ∀ K', hZ z K0 K' (n + 1) R Z → k (u + 1) (v + zN ci) lv (.ref n :: .ref n :: st) K') : znew mc ms ci (zdup k) u v lv st K := by
  have len := h.len
  refine ⟨hu, hv, ?_⟩
  rw [len]
  exact hk _ (h.new hn hR hI)
theorem A_pr (h : hZ z K0 K n R Z) {b e ci j : Nat} (he : zsh0[e]? = some (0, ci)) (hen : e < n) (hk : ∀ K', hZ z K0 K' n ((e, j, b) :: R) Z → k u v lv st K') : zpr ci j k u v lv (.ref b :: .ref e :: st) K := ⟨h.sh he hen, hk _ (h.rR e j b)⟩
theorem A_pi (h : hZ z K0 K n R Z) {e ci j : Nat} {x : Int32} (he : zsh0[e]? = some (0, ci)) (hen : e < n) (hz : z ≤ e) (hk : ∀ K', hZ z K0 K' n R ((e, j, x) :: Z) → k u v lv st K') : zpi ci j k u v lv (.int x :: .ref e :: st) K := ⟨h.sh he hen, hk _ (h.iI hz j x)⟩
theorem A_gR (h : hZ z K0 K n R Z) {e ci j b : Nat} (he : zsh0[e]? = some (0, ci)) (hen : e < n) (hb : rfL R e j = some b) (hk : k u v lv (.ref b :: st) K) : zgR ci j k u v lv (.ref e :: st) K := ⟨h.sh he hen, b, by rw [h.2.1]; exact hb, hk⟩
end ACT
