/-! THE CLASS'S SEARCH: the value, with a window -/
theorem hasM_mvs {P : Ps} : hasM P ↔ (mvs P).length ≠ 0 := by
  constructor
  · rintro ⟨a, b, ha, hb, h⟩ e
    have e2 : mvs P = [] := List.length_eq_zero_iff.mp e
    have hx : ∃ m, m ∈ mvTo P a b := by
      rw [mvTo_y h]
      split
      · exact ⟨_, List.mem_map.mpr ⟨0, List.mem_range.mpr (by omega), rfl⟩⟩
      · exact ⟨_, List.mem_map.mpr ⟨0, List.mem_range.mpr (by omega), rfl⟩⟩
    obtain ⟨m, hm⟩ := hx
    have : m ∈ mvs P := List.mem_flatMap.mpr ⟨a, List.mem_range.mpr ha, List.mem_flatMap.mpr ⟨b, List.mem_range.mpr hb, hm⟩⟩
    rw [e2] at this
    exact absurd this List.not_mem_nil
  · intro h
    cases e : mvs P with
    | nil => rw [e] at h; exact absurd rfl h
    | cons m t =>
      have : m ∈ mvs P := by rw [e]; exact List.mem_cons_self
      obtain ⟨a, b, k, ha, hb, hl, -⟩ := mem_mvs this
      exact ⟨a, b, ha, hb, hl⟩
theorem wS_mt : ∀ m, m ≤ 12 → (wS m = if sdI m = (0 : Nat) then (wt (kd m) : Int) else -(wt (kd m) : Int)) ∧ (- wS m = if sdI m = (1 : Nat) then (wt (kd m) : Int) else -(wt (kd m) : Int)) := by decide
theorem mt_bal {P : Ps} (hO : psOk P) : mtl P = if P.2.1 = 0 then bal P.1 else - bal P.1 := by
  have hc := hO.2.1
  have loop : ∀ n, n ≤ 64 → mtN P n = if P.2.1 = 0 then balN P.1 n else - balN P.1 n := by
    intro n
    induction n with
    | zero => intro _; simp [mtN, balN]
    | succ n ih =>
      intro hn
      have := wS_mt (P.1 n) (hO.1 n (by omega))
      simp only [mtN, balN]
      rw [ih (by omega)]
      unfold mtT
      by_cases q : P.2.1 = 0
      · rw [if_pos q, if_pos q, this.1, q]
      · rw [if_neg q, if_neg q, show P.2.1 = 1 by omega, ← this.2]
        omega
  exact loop 64 (Nat.le_refl _)
/-- what a value can be -/
def tr3 (d : Nat) (v : Int) : Prop := (-1000 ≤ v ∧ v ≤ -1000 + d) ∨ (-576 ≤ v ∧ v ≤ 576) ∨ (1000 - d ≤ v ∧ v ≤ 1000)
theorem stl_tr (d : Nat) (P : Ps) : tr3 d (stl P) := by
  unfold stl tr3
  have := mtl_bd P
  split
  · omega
  · split <;> omega
theorem bk_tr {d : Nat} (hd : d ≤ 10) {v : Int} (h : tr3 d v) : tr3 (d + 1) (bk v) := by
  unfold tr3 at h ⊢
  unfold bk
  split
  · omega
  · split <;> omega
theorem vlL_ge {f : Nat → Int} : ∀ (L : List Nat) (b : Int), b ≤ vlL f L b ∧ ∀ m ∈ L, f m ≤ vlL f L b
  | [], b => ⟨by unfold vlL; omega, fun m h => absurd h List.not_mem_nil⟩
  | x :: t, b => by
    obtain ⟨h1, h2⟩ := vlL_ge (f := f) t (if f x ≤ b then b else f x)
    unfold vlL
    have h3 : b ≤ (if f x ≤ b then b else f x) ∧ f x ≤ (if f x ≤ b then b else f x) := by split <;> omega
    refine ⟨Int.le_trans h3.1 h1, fun m hm => ?_⟩
    rcases List.mem_cons.mp hm with q | q
    · rw [q]; exact Int.le_trans h3.2 h1
    · exact h2 m q
theorem vlL_in {f : Nat → Int} : ∀ (L : List Nat) (b : Int), vlL f L b = b ∨ ∃ m ∈ L, vlL f L b = f m
  | [], b => Or.inl rfl
  | x :: t, b => by
    unfold vlL
    rcases vlL_in (f := f) t (if f x ≤ b then b else f x) with q | ⟨m, hm, q⟩
    · by_cases w : f x ≤ b
      · rw [if_pos w] at q ⊢; exact Or.inl q
      · rw [if_neg w] at q ⊢; exact Or.inr ⟨x, List.mem_cons_self, q⟩
    · exact Or.inr ⟨m, List.mem_cons_of_mem _ hm, q⟩
/-- the greatest of the values of a list -/
def isMx (V : Int) (L : List Nat) (x : Nat → Int) : Prop := (∀ m ∈ L, x m ≤ V) ∧ ∃ m ∈ L, V = x m
theorem val_mx {d : Nat} {P : Ps} (h : (mvs P).length ≠ 0) : isMx (val (d + 1) P) (mvs P) (fun m => bk (val d (mkM P m))) := by
  have ev : val (d + 1) P = vlL (fun m => bk (val d (mkM P m))) (mvs P) (-2000) := by
    show (if (mvs P).length = 0 then stl P else _) = _
    rw [if_neg h]
  rw [ev]
  refine ⟨(vlL_ge (f := fun m => bk (val d (mkM P m))) (mvs P) (-2000)).2, ?_⟩
  rcases vlL_in (f := fun m => bk (val d (mkM P m))) (mvs P) (-2000) with q | q
  · exfalso
    cases e : mvs P with
    | nil => rw [e] at h; exact h rfl
    | cons m t =>
      have h1 := (vlL_ge (f := fun m => bk (val d (mkM P m))) (mvs P) (-2000)).2 m (by rw [e]; exact List.mem_cons_self)
      have h2 := bk_bd (val_bd d (mkM P m))
      rw [q] at h1
      omega
  · exact q
theorem val_tr : ∀ (d : Nat) (P : Ps), d ≤ 10 → tr3 d (val d P)
  | 0, P, _ => stl_tr 0 P
  | d + 1, P, h => by
    by_cases q : (mvs P).length = 0
    · unfold val
      rw [if_pos q]
      exact stl_tr _ P
    · obtain ⟨m, -, e⟩ := (val_mx (d := d) q).2
      rw [e]
      exact bk_tr (by omega) (val_tr d _ (by omega))
/-- a value as the class counts it, a half moves ahead -/
def sft (a : Nat) (v : Int) : Int := if v < -900 then v + a else if 900 < v then v - a else v
theorem sft_mono {a d : Nat} (ha : a ≤ 10) (hd : d ≤ 11) {u v : Int} (hu : tr3 d u) (hv : tr3 d v) (h : u ≤ v) : sft a u ≤ sft a v := by
  unfold tr3 at hu hv
  unfold sft
  split
  · split
    · omega
    · split <;> omega
  · split
    · split
      · omega
      · split <;> omega
    · split
      · omega
      · split <;> omega
theorem sft_bk {a d : Nat} (ha : a ≤ 10) (hd : d ≤ 10) {v : Int} (hv : tr3 d v) : sft a (bk v) = - sft (a + 1) v := by
  unfold tr3 at hv
  unfold sft bk
  rcases hv with q | q | q
  · rw [if_neg (by omega : ¬ -v < -900), if_pos (by omega : 900 < -v), if_neg (by omega), if_pos (by omega), if_pos (by omega)]
    omega
  · rw [if_neg (by omega : ¬ -v < -900), if_neg (by omega : ¬ 900 < -v), if_neg (by omega), if_neg (by omega), if_neg (by omega), if_neg (by omega)]
  · rw [if_pos (by omega : -v < -900), if_pos (by omega), if_neg (by omega : ¬ v < -900), if_pos (by omega)]
    omega
theorem sft_bd {a d : Nat} (ha : a ≤ 10) (hd : d ≤ 10) {v : Int} (hv : tr3 d v) : -1000 ≤ sft a v ∧ sft a v ≤ 1000 := by
  unfold tr3 at hv
  unfold sft
  split
  · omega
  · split <;> omega
theorem sft_mx {a d : Nat} (ha : a ≤ 9) (hd : d ≤ 9) {P : Ps} (h : (mvs P).length ≠ 0) : isMx (sft a (val (d + 1) P)) (mvs P) (fun m => - sft (a + 1) (val d (mkM P m))) := by
  obtain ⟨h1, m, hm, h2⟩ := val_mx (d := d) h
  have t := fun m => bk_tr (d := d) (by omega) (val_tr d (mkM P m) (by omega))
  have s := fun m => sft_bk (a := a) (by omega) (by omega) (val_tr d (mkM P m) (by omega))
  refine ⟨fun u hu => ?_, m, hm, ?_⟩
  · show - sft (a + 1) (val d (mkM P u)) ≤ _
    rw [← s u]
    exact sft_mono (by omega) (by omega) (t u) (val_tr (d + 1) P (by omega)) (h1 u hu)
  · show _ = - sft (a + 1) (val d (mkM P m))
    rw [← s m, h2]
/-- what a window lets be known -/
def abS (α β V w : Int) : Prop := (α < V → V < β → w = V) ∧ (V ≤ α → w ≤ α) ∧ (β ≤ V → β ≤ w)
theorem abS.rf {α β V : Int} : abS α β V V := ⟨fun _ _ => rfl, fun h => h, fun h => h⟩
/-- the loop over the moves -/
def abI (α β : Int) (x : Nat → Int) (L : List Nat) (j : Nat) (w : Int) : Prop := α ≤ w ∧ (w < β → ∀ t m, t < j → L[t]? = some m → x m ≤ w) ∧ (w = α ∨ (∃ m ∈ L, x m = w) ∨ (β ≤ w ∧ ∃ m ∈ L, β ≤ x m))
theorem abI.step {α β : Int} {x : Nat → Int} {L : List Nat} {j m : Nat} {w u : Int} (h : abI α β x L j w) (hm : L[j]? = some m) (hw : w < β) (hu : abS (-β) (-w) (- x m) u) : abI α β x L (j + 1) (if w < -u then -u else w) := by
  obtain ⟨h1, h2, h3⟩ := h
  obtain ⟨u1, u2, u3⟩ := hu
  have hmem : m ∈ L := List.mem_of_getElem? hm
  by_cases a : x m ≤ w
  · have := u3 (by omega)
    rw [if_neg (by omega)]
    refine ⟨h1, fun hb t y ht hy => ?_, h3⟩
    by_cases q : t = j
    · rw [q, hm] at hy; cases hy; exact a
    · exact h2 hb t y (by omega) hy
  · by_cases b : β ≤ x m
    · have := u2 (by omega)
      rw [if_pos (by omega)]
      exact ⟨by omega, fun hb => absurd hb (by omega), Or.inr (Or.inr ⟨by omega, m, hmem, b⟩)⟩
    · have := u1 (by omega) (by omega)
      have e : -u = x m := by omega
      rw [if_pos (by omega), e]
      refine ⟨by omega, fun hb t y ht hy => ?_, Or.inr (Or.inl ⟨m, hmem, rfl⟩)⟩
      by_cases q : t = j
      · rw [q, hm] at hy; cases hy; exact Int.le_refl _
      · have := h2 hw t y (by omega) hy
        omega
theorem abI.fin {α β V : Int} {x : Nat → Int} {L : List Nat} {j : Nat} {w : Int} (hab : α < β) (h : abI α β x L j w) (hV : isMx V L x) (he : L.length ≤ j ∨ β ≤ w) : abS α β V w := by
  obtain ⟨h1, h2, h3⟩ := h
  obtain ⟨v1, m, hm, v2⟩ := hV
  have up : w < β → V ≤ w := fun hb => by
    rcases he with q | q
    · obtain ⟨t, ht, e⟩ := List.mem_iff_getElem.mp hm
      rw [v2]
      exact h2 hb t m (by omega) (by rw [List.getElem?_eq_getElem ht, e])
    · omega
  refine ⟨fun a b => ?_, fun a => ?_, fun a => ?_⟩
  · rcases h3 with q | ⟨y, hy, q⟩ | ⟨q, y, hy, q2⟩
    · have := up (by omega); omega
    · have := v1 y hy
      have := up (by omega)
      omega
    · have := v1 y hy; omega
  · rcases h3 with q | ⟨y, hy, q⟩ | ⟨q, y, hy, q2⟩
    · omega
    · have := v1 y hy; omega
    · have := v1 y hy; omega
  · by_cases q : w < β
    · have := up q; omega
    · omega
