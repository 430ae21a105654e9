/-! THE MEMORY: ints, longs, references by cell and place, and the shapes of the cells. A reference is a cell's number; cells below 16 are not the program's own. -/
abbrev zM : Type := (Nat → Nat → Int32) × (Nat → Nat → Int64) × (Nat → Nat → Option Nat) × List (Nat × Nat)
def z2 {α : Type} (f : Nat → Nat → α) (a j : Nat) (v : α) : Nat → Nat → α := fun b i => if b = a then (if i = j then v else f b i) else f b i
def zsI (M : zM) (a j : Nat) (v : Int32) : zM := (z2 M.1 a j v, M.2)
def zsJ (M : zM) (a j : Nat) (v : Int64) : zM := (M.1, z2 M.2.1 a j v, M.2.2)
def zsR (M : zM) (a j : Nat) (v : Option Nat) : zM := (M.1, M.2.1, z2 M.2.2.1 a j v, M.2.2.2)
def zNew (M : zM) (sh : Nat × Nat) : zM :=
  (fun b i => if b = M.2.2.2.length then 0 else M.1 b i, fun b i => if b = M.2.2.2.length then 0 else M.2.1 b i, fun b i => if b = M.2.2.2.length then none else M.2.2.1 b i, M.2.2.2 ++ [sh])
def zsh (M : zM) (a : Nat) : Option (Nat × Nat) := M.2.2.2[a]?
/-- the world's own numbers: where the program's cells begin, the cells that are not its own, the classes and slots, the classes of arrays, what is known of the rest -/
abbrev zG : Type := Nat × (Nat → Nat) × va_G × (Nat → ClassId) × (State → Heap → Prop)
def zad (G : zG) (k : Nat) : Nat := if k < 16 then G.2.1 k else G.1 + (k - 16)
def zup (G : zG) (v : Value) : Value := match v with
  | .ref k => .ref (zad G k)
  | w => w
def zty : Nat → Nat → FieldType := fun ci => match ci with
  | 0 => tyX0 | 1 => tyX1 | 2 => tyX2 | 3 => tyX3 | 4 => tyX4 | 5 => tyX5 | 6 => tyX6 | 7 => tyX7 | 8 => tyX8 | 9 => tyX9 | 10 => tyX10 | 11 => tyX11 | 12 => tyX12 | _ => tyX13
def zN (ci : Nat) : Nat := (vwCl.getD ci ("", fun _ => ("", "", "", false), 0)).2.2
def zfv (G : zG) (M : zM) (a : Nat) (ty : FieldType) (j : Nat) : Value := match ty with
  | .long => .long (M.2.1 a j)
  | .object _ => va_rf ((M.2.2.1 a j).map (zad G))
  | .array _ => va_rf ((M.2.2.1 a j).map (zad G))
  | _ => .int (M.1 a j)
def zfs (G : zG) (M : zM) (a ci : Nat) : List Value := (List.range (zN ci)).map (fun j => zfv G M a (zty ci j) j)
def zent (G : zG) (M : zM) (a : Nat) (sh : Nat × Nat) : va_E := match sh.1 with
  | 0 => .inr (sh.2, zfs G M a sh.2)
  | 1 => .inl (G.2.2.2.1 1, sh.2, .inl (M.1 a))
  | 2 => .inl (G.2.2.2.1 2, sh.2, .inr (.inl (M.2.1 a)))
  | 3 => .inl (G.2.2.2.1 3, sh.2, .inl (M.1 a))
  | 4 => .inl (G.2.2.2.1 4, sh.2, .inl (M.1 a))
  | 5 => .inl (G.2.2.2.1 5, sh.2, .inl (M.1 a))
  | _ => .inl (G.2.2.2.1 6, sh.2, .inr (.inr (.inr (.inr (fun j => (M.2.2.1 a j).map (zad G))))))
def ztys (G : zG) : List (ClassId × FieldType) := [(G.2.2.2.1 1, .int), (G.2.2.2.1 2, .long), (G.2.2.2.1 3, .byte), (G.2.2.2.1 4, .char), (G.2.2.2.1 5, .boolean), (G.2.2.2.1 6, .object RX2)]
def zA (G : zG) : Nat → Prop := fun q => G.1 ≤ q
/-- the heap holds the memory -/
def zP (G : zG) (M : zM) (H : Heap) : Prop := 16 ≤ M.2.2.2.length ∧ H.size = G.1 + (M.2.2.2.length - 16) ∧ ∀ (k : Nat) (sh : Nat × Nat), M.2.2.2[k]? = some sh → sh.1 < 7 → 16 ≤ k ∧ va_at G.2.2.1 vwCl (zad G k, zent G M k sh) H
/-- what holds at a method's entry, beside the memory -/
def zEnv (G : zG) (s : State) : Prop := va_K G.2.2.1 vwCl (ztys G) s ∧ G.1 ≤ s.heap.size ∧ ∀ (U : State) (H : Heap), s.WarmedH U.vm → (∀ q : Nat, q < G.1 → H[q]? = s.heap[q]?) → G.2.2.2.2 U H
theorem z_wrefl (s : State) : s.WarmedH s.vm := ⟨rfl, rfl, fun d k hk => ⟨k, hk, rfl, rfl, fun i => Or.inl rfl, Or.inl ⟨rfl, rfl⟩⟩⟩
theorem zEnv.step {G : zG} {s U : State} (h : zEnv G s) (hW : s.WarmedH U.vm) (hq : ∀ q : Nat, q < G.1 → U.heap[q]? = s.heap[q]?) (hs : G.1 ≤ U.heap.size) : zEnv G U :=
  ⟨va_K.moved hW.alike h.1, hs, fun U2 H2 h1 h2 => h.2.2 U2 H2 (State.WarmedH.trans hW h1) (fun q hl => (h2 q hl).trans (hq q hl))⟩
theorem zad_inj {G : zG} {a b : Nat} (ha : 16 ≤ a) (hb : 16 ≤ b) (h : zad G a = zad G b) : a = b := by
  unfold zad at h
  rw [if_neg (by omega), if_neg (by omega)] at h
  omega
theorem zad_ge {G : zG} {a : Nat} (ha : 16 ≤ a) : G.1 ≤ zad G a := by
  unfold zad
  rw [if_neg (by omega)]
  omega
theorem z2_same {α : Type} (f : Nat → Nat → α) (a j : Nat) (v : α) : z2 f a j v a = fun i => if i = j then v else f a i := by
  funext i
  simp [z2]
theorem z2_off {α : Type} (f : Nat → Nat → α) {a b : Nat} (j : Nat) (v : α) (h : b ≠ a) : z2 f a j v b = f b := by
  funext i
  simp [z2, h]
theorem zup_cat (G : zG) (v : Value) : (zup G v).category = v.category := by
  cases v <;> rfl
theorem zup_cats (G : zG) (st : List Value) : ((st.map (zup G)).map fun v => v.category) = st.map fun v => v.category := by
  rw [List.map_map]
  exact List.map_congr_left (fun v _ => zup_cat G v)
/-- a cell that is not written keeps its picture -/
theorem zent_congr {G : zG} {M N : zM} {a : Nat} (sh : Nat × Nat) (h1 : M.1 a = N.1 a) (h2 : M.2.1 a = N.2.1 a) (h3 : M.2.2.1 a = N.2.2.1 a) : zent G M a sh = zent G N a sh := by
  obtain ⟨c, n⟩ := sh
  have e : ∀ ci, zfs G M a ci = zfs G N a ci := by
    intro ci
    unfold zfs
    refine List.map_congr_left (fun j _ => ?_)
    unfold zfv
    rw [h1, h2, h3]
  unfold zent
  rw [h1, h2, h3, e]
/-- one cell is written -/
theorem zP.put {G : zG} {M N : zM} {H H1 : Heap} {a : Nat} {sh : Nat × Nat} (hP : zP G M H) (ha : M.2.2.2[a]? = some sh) (hk : sh.1 < 7) (hS : N.2.2.2 = M.2.2.2) (h1 : ∀ b, b ≠ a → N.1 b = M.1 b) (h2 : ∀ b, b ≠ a → N.2.1 b = M.2.1 b) (h3 : ∀ b, b ≠ a → N.2.2.1 b = M.2.2.1 b)
    (he : va_at G.2.2.1 vwCl (zad G a, zent G N a sh) H1) (hz : H1.size = H.size) (hq : ∀ q : Nat, q ≠ zad G a → H1[q]? = H[q]?) : zP G N H1 := by
  obtain ⟨p1, p2, p3⟩ := hP
  refine ⟨by rw [hS]; exact p1, by rw [hz, hS]; exact p2, fun k sh' hk' hl => ?_⟩
  rw [hS] at hk'
  obtain ⟨g1, g2⟩ := p3 k sh' hk' hl
  refine ⟨g1, ?_⟩
  by_cases e : k = a
  · subst e
    rw [ha] at hk'
    cases hk'
    exact he
  · rw [zent_congr sh' (h1 k e) (h2 k e) (h3 k e)]
    exact g2.kept (hq _ (fun h => e (zad_inj g1 (p3 a sh ha hk).1 h)))
/-- one cell is new -/
theorem zP.new {G : zG} {M : zM} {H H1 : Heap} {sh : Nat × Nat} (hP : zP G M H) (he : va_at G.2.2.1 vwCl (H.size, zent G (zNew M sh) M.2.2.2.length sh) H1) (hz : H1.size = H.size + 1) (hq : ∀ q : Nat, q < H.size → H1[q]? = H[q]?) : zP G (zNew M sh) H1 := by
  obtain ⟨p1, p2, p3⟩ := hP
  have hl : (zNew M sh).2.2.2.length = M.2.2.2.length + 1 := by simp [zNew]
  refine ⟨by rw [hl]; omega, by rw [hz, p2, hl]; omega, fun k sh' hk' hl' => ?_⟩
  have hk2 : (M.2.2.2 ++ [sh])[k]? = some sh' := hk'
  by_cases e : k < M.2.2.2.length
  · rw [List.getElem?_append_left e] at hk2
    obtain ⟨g1, g2⟩ := p3 k sh' hk2 hl'
    refine ⟨g1, ?_⟩
    rw [zent_congr (N := M) sh' (by funext i; simp [zNew]; omega) (by funext i; simp [zNew]; omega) (by funext i; simp [zNew]; omega)]
    exact g2.kept (hq _ g2.lt)
  · rw [List.getElem?_append_right (by omega)] at hk2
    have hz0 : k - M.2.2.2.length < 1 := (List.getElem?_eq_some_iff.mp hk2).1
    have hke : k = M.2.2.2.length := by omega
    subst hke
    rw [Nat.sub_self] at hk2
    cases hk2
    refine ⟨p1, ?_⟩
    have : zad G M.2.2.2.length = H.size := by
      unfold zad
      rw [if_neg (by omega), p2]
    rw [this]
    exact he
/-- cells that nobody knows come behind (an exception's) -/
def zJunk (M : zM) (n : Nat) : zM := (M.1, M.2.1, M.2.2.1, M.2.2.2 ++ List.replicate n (7, 0))
theorem zP.junk {G : zG} {M : zM} {H H1 : Heap} (hP : zP G M H) (hz : H.size ≤ H1.size) (hq : ∀ q : Nat, q < H.size → H1[q]? = H[q]?) : zP G (zJunk M (H1.size - H.size)) H1 := by
  obtain ⟨p1, p2, p3⟩ := hP
  have hl : (zJunk M (H1.size - H.size)).2.2.2.length = M.2.2.2.length + (H1.size - H.size) := by simp [zJunk]
  refine ⟨by rw [hl]; omega, by rw [hl]; omega, fun k sh hk hl' => ?_⟩
  have hk2 : (M.2.2.2 ++ List.replicate (H1.size - H.size) (7, 0))[k]? = some sh := hk
  by_cases e : k < M.2.2.2.length
  · rw [List.getElem?_append_left e] at hk2
    obtain ⟨g1, g2⟩ := p3 k sh hk2 hl'
    exact ⟨g1, by rw [zent_congr (M := zJunk M (H1.size - H.size)) (N := M) sh rfl rfl rfl]; exact g2.kept (hq _ g2.lt)⟩
  · rw [List.getElem?_append_right (by omega)] at hk2
    have := List.eq_of_mem_replicate (List.mem_of_getElem? hk2)
    subst this
    exact absurd hl' (by decide)
/-! THE LOCALS, by place -/
def zlow (x : Option Value) : Option Value := match x with
  | some (.long _) => none
  | some (.double _) => none
  | y => y
def zset1 : List (Option Value) → Nat → Value → List (Option Value)
  | [], _, _ => []
  | _ :: t, 0, v => some v :: t
  | x :: t, 1, v => zlow x :: zset1 t 0 v
  | x :: t, n + 2, v => x :: zset1 t (n + 1) v
def zset2 : List (Option Value) → Nat → Value → List (Option Value)
  | [], _, _ => []
  | [_], 0, _ => [none]
  | _ :: _ :: t, 0, v => some v :: none :: t
  | x :: t, 1, v => zlow x :: zset2 t 0 v
  | x :: t, n + 2, v => x :: zset2 t (n + 1) v
def zL (G : zG) (ls : Array Slot) (nL : Nat) (lv : List (Option Value)) : Prop := ls.size = nL ∧ lv_wf ls ∧ lv.length = nL ∧ ∀ (i : Nat) (v : Value), lv[i]? = some (some v) → ls[i]? = some (.val (zup G v))
theorem zset1_len (lv : List (Option Value)) (i : Nat) (v : Value) : (zset1 lv i v).length = lv.length := by
  induction lv generalizing i with
  | nil => simp [zset1]
  | cons x t ih => match i with
    | 0 => simp [zset1]
    | 1 => simp [zset1, ih]
    | n + 2 => simp [zset1, ih]
theorem zset2_len (lv : List (Option Value)) (i : Nat) (v : Value) : (zset2 lv i v).length = lv.length := by
  induction lv generalizing i with
  | nil => simp [zset2]
  | cons x t ih => match t, i with
    | [], 0 => simp [zset2]
    | _ :: t, 0 => simp [zset2]
    | [], 1 => simp [zset2]
    | y :: t, 1 => simp [zset2, ih]
    | [], n + 2 => simp [zset2]
    | y :: t, n + 2 => simp [zset2, ih]
theorem zlow_some {x : Option Value} {v : Value} (h : zlow x = some v) : x = some v ∧ v.category = 1 := by
  match x, h with
  | some (.int _), h => cases h; exact ⟨rfl, rfl⟩
  | some (.float _), h => cases h; exact ⟨rfl, rfl⟩
  | some (.ref _), h => cases h; exact ⟨rfl, rfl⟩
  | some .null, h => cases h; exact ⟨rfl, rfl⟩
  | some (.long _), h => cases h
  | some (.double _), h => cases h
  | some (.retAddr _), h => cases h; exact ⟨rfl, rfl⟩
  | none, h => cases h
theorem zset1_at (lv : List (Option Value)) (i : Nat) (v : Value) (j : Nat) (w : Value) (h : (zset1 lv i v)[j]? = some (some w)) : (j = i ∧ w = v) ∨ (j ≠ i ∧ lv[j]? = some (some w) ∧ ¬ (j + 1 = i ∧ w.category = 2)) := by
  induction lv generalizing i j with
  | nil => simp [zset1] at h
  | cons x t ih => match i, j with
    | 0, 0 => simp [zset1] at h; exact Or.inl ⟨rfl, h.symm⟩
    | 0, j + 1 => simp [zset1] at h; exact Or.inr ⟨by omega, by simpa using h, by omega⟩
    | 1, 0 =>
      simp [zset1] at h
      obtain ⟨h1, h2⟩ := zlow_some h
      exact Or.inr ⟨by omega, by simp [h1], by omega⟩
    | 1, j + 1 =>
      simp only [zset1, List.getElem?_cons_succ] at h
      rcases ih 0 j h with ⟨a, b⟩ | ⟨a, b, c⟩
      · exact Or.inl ⟨by omega, b⟩
      · exact Or.inr ⟨by omega, by simpa using b, by omega⟩
    | n + 2, 0 => simp [zset1] at h; exact Or.inr ⟨by omega, by simp [h], by omega⟩
    | n + 2, j + 1 =>
      simp only [zset1, List.getElem?_cons_succ] at h
      rcases ih (n + 1) j h with ⟨a, b⟩ | ⟨a, b, c⟩
      · exact Or.inl ⟨by omega, b⟩
      · exact Or.inr ⟨by omega, by simpa using b, by omega⟩
theorem zset2_at (lv : List (Option Value)) (i : Nat) (v : Value) (j : Nat) (w : Value) (h : (zset2 lv i v)[j]? = some (some w)) : (j = i ∧ w = v) ∨ (j ≠ i ∧ j ≠ i + 1 ∧ lv[j]? = some (some w) ∧ ¬ (j + 1 = i ∧ w.category = 2)) := by
  induction lv generalizing i j with
  | nil => simp [zset2] at h
  | cons x t ih => match t, i, j with
    | [], 0, 0 => simp [zset2] at h
    | [], 0, j + 1 => simp [zset2] at h
    | y :: t, 0, 0 => simp [zset2] at h; exact Or.inl ⟨rfl, h.symm⟩
    | y :: t, 0, 1 => simp [zset2] at h
    | y :: t, 0, j + 2 => simp [zset2] at h; exact Or.inr ⟨by omega, by omega, by simpa using h, by omega⟩
    | t, 1, 0 =>
      have h' : zlow x = some w := by
        cases t <;> simpa [zset2] using h
      obtain ⟨h1, h2⟩ := zlow_some h'
      exact Or.inr ⟨by omega, by omega, by simp [h1], by omega⟩
    | t, 1, j + 1 =>
      have h' : (zset2 t 0 v)[j]? = some (some w) := by
        cases t <;> simpa [zset2] using h
      rcases ih 0 j h' with ⟨a, b⟩ | ⟨a, b, c, d⟩
      · exact Or.inl ⟨by omega, b⟩
      · exact Or.inr ⟨by omega, by omega, by simpa using c, by omega⟩
    | t, n + 2, 0 =>
      have h' : x = some w := by
        cases t <;> simpa [zset2] using h
      exact Or.inr ⟨by omega, by omega, by simp [h'], by omega⟩
    | t, n + 2, j + 1 =>
      have h' : (zset2 t (n + 1) v)[j]? = some (some w) := by
        cases t <;> simpa [zset2] using h
      rcases ih (n + 1) j h' with ⟨a, b⟩ | ⟨a, b, c, d⟩
      · exact Or.inl ⟨by omega, b⟩
      · exact Or.inr ⟨by omega, by omega, by simpa using c, by omega⟩
def zprs (G : zG) (lv : List (Option Value)) : List (Nat × Value) := (List.range lv.length).filterMap (fun i => match lv[i]? with
  | some (some v) => some (i, zup G v)
  | _ => none)
theorem zprs_mem {G : zG} {lv : List (Option Value)} {i : Nat} {v : Value} (h : lv[i]? = some (some v)) : (i, zup G v) ∈ zprs G lv := by
  refine List.mem_filterMap.mpr ⟨i, List.mem_range.mpr (List.getElem?_eq_some_iff.mp h).1, ?_⟩
  rw [h]
theorem zprs_of {G : zG} {lv : List (Option Value)} {q : Nat × Value} (h : q ∈ zprs G lv) : ∃ v, lv[q.1]? = some (some v) ∧ q.2 = zup G v := by
  obtain ⟨i, -, h2⟩ := List.mem_filterMap.mp h
  cases hi : lv[i]? with
  | none => rw [hi] at h2; cases h2
  | some o => cases o with
    | none => rw [hi] at h2; cases h2
    | some v =>
      rw [hi] at h2
      cases h2
      exact ⟨v, hi, rfl⟩
theorem zL.has {G : zG} {ls : Array Slot} {nL : Nat} {lv : List (Option Value)} (h : zL G ls nL lv) : lv_has ls nL (zprs G lv) := ⟨h.1, h.2.1, fun q hq => by
  obtain ⟨v, h1, h2⟩ := zprs_of hq
  rw [h2]
  exact h.2.2.2 _ _ h1⟩
theorem zL.set1 {G : zG} {ls ls' : Array Slot} {nL i : Nat} {lv : List (Option Value)} {v : Value} (h : zL G ls nL lv) (h' : lv_has ls' nL ((i, zup G v) :: (zprs G lv).filter (fun q => !(q.1 == i) && !(q.1 + 1 == i && q.2.category == 2)))) : zL G ls' nL (zset1 lv i v) := by
  refine ⟨h'.1, h'.2.1, by rw [zset1_len]; exact h.2.2.1, fun j w hj => ?_⟩
  rcases zset1_at lv i v j w hj with ⟨rfl, rfl⟩ | ⟨h1, h2, h3⟩
  · exact h'.2.2 _ List.mem_cons_self
  · refine h'.2.2 (j, zup G w) (List.mem_cons_of_mem _ (List.mem_filter.mpr ⟨zprs_mem h2, ?_⟩))
    simp only [zup_cat]
    simp [h1]
    omega
theorem zL.set2 {G : zG} {ls ls' : Array Slot} {nL i : Nat} {lv : List (Option Value)} {v : Value} (h : zL G ls nL lv) (h' : lv_has ls' nL ((i, zup G v) :: (zprs G lv).filter (fun q => !(q.1 == i) && (!(q.1 == i + 1) && !(q.1 + 1 == i && q.2.category == 2))))) : zL G ls' nL (zset2 lv i v) := by
  refine ⟨h'.1, h'.2.1, by rw [zset2_len]; exact h.2.2.1, fun j w hj => ?_⟩
  rcases zset2_at lv i v j w hj with ⟨rfl, rfl⟩ | ⟨h1, h2, h3, h4⟩
  · exact h'.2.2 _ List.mem_cons_self
  · refine h'.2.2 (j, zup G w) (List.mem_cons_of_mem _ (List.mem_filter.mpr ⟨zprs_mem h3, ?_⟩))
    simp only [zup_cat]
    simp [h1, h2]
    omega
