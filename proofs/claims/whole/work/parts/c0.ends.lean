/-! ENDINGS: a king and one man (kind k on p, its king on s) against a king (on w) -/
def opn (s a b : Nat) : Prop := ∀ i : Nat, 1 ≤ i → i < stn a b → sqA a b i ≠ s
/-- the man attacks a square; only its own king stands in the way -/
def at5 (k s p q : Nat) : Prop := if k = 1 then aI (dF p q) = 1 ∧ dR p q = 1 else if k = 2 then knG p q else p ≠ q ∧ slides k p q ∧ opn s p q
def pos5 (k s p w : Nat) (sm : Bool) : Prop := s ≠ p ∧ s ≠ w ∧ p ≠ w ∧ ¬ kiG s w ∧ (k = 1 → p / 8 ≠ 0 ∧ p / 8 ≠ 7) ∧ (sm = true → ¬ at5 k s p w)
/-- the king alone can go to t -/
def wmv (k s p t : Nat) : Prop := (t = p ∧ ¬ kiG s t) ∨ pos5 k s p t true
/-- the man can go to t -/
def mmv (k s p w t : Nat) : Prop := t ≠ s ∧ t ≠ w ∧ (if k = 1 then (t = p + 8 ∨ (p / 8 = 1 ∧ t = p + 16 ∧ p + 8 ≠ s ∧ p + 8 ≠ w)) else if k = 2 then knG p t else p ≠ t ∧ slides k p t ∧ opn s p t ∧ opn w p t)
def mate5 (k s p w : Nat) : Prop := pos5 k s p w false ∧ at5 k s p w ∧ ∀ t, t < 64 → kiG w t → ¬ wmv k s p t
/-- some move of the strong side leads into X, or what its pawn becomes into Y -/
def smv (k : Nat) (X Y : Nat → Nat → Nat → Prop) (s p w : Nat) : Prop := (∃ t, t < 64 ∧ kiG s t ∧ X t p w) ∨ (∃ t, t < 64 ∧ mmv k s p w t ∧ X s t w) ∨ (k = 1 ∧ p / 8 = 6 ∧ Y s (p + 8) w)
/-- the king alone can move, and only into Z -/
def wst (k : Nat) (Z : Nat → Nat → Nat → Prop) (s p w : Nat) : Prop := pos5 k s p w false ∧ (∃ t, t < 64 ∧ kiG w t ∧ wmv k s p t) ∧ ∀ t, t < 64 → kiG w t → wmv k s p t → Z s p t
/-- the king alone, to move, is mated within 2 n half moves -/
def Wc (k : Nat) (O : Nat → Nat → Nat → Nat → Prop) : Nat → Nat → Nat → Nat → Prop
  | 0 => mate5 k
  | n + 1 => fun s p w => Wc k O n s p w ∨ wst k (fun s p t => pos5 k s p t true ∧ smv k (Wc k O n) (O n) s p t) s p w
/-- the strong side, to move, mates within 2 n + 1 half moves -/
def Sc (k : Nat) (O : Nat → Nat → Nat → Nat → Prop) (n s p w : Nat) : Prop := pos5 k s p w true ∧ smv k (Wc k O n) (O n) s p w
theorem Wc_s {k : Nat} {O : Nat → Nat → Nat → Nat → Prop} {n s p w : Nat} : Wc k O (n + 1) s p w ↔ Wc k O n s p w ∨ wst k (Sc k O n) s p w := Iff.rfl
/-- no pawn becomes anything -/
def O0 : Nat → Nat → Nat → Nat → Prop := fun _ _ _ _ => False
/-- what a pawn becomes: queen or rook -/
def O1 : Nat → Nat → Nat → Nat → Prop := fun n s t w => Wc 5 O0 n s t w ∨ Wc 4 O0 n s t w
def Ok (k : Nat) : Nat → Nat → Nat → Nat → Prop := if k = 1 then O1 else O0
theorem Wc_pos {k : Nat} {O : Nat → Nat → Nat → Nat → Prop} : ∀ {n s p w : Nat}, Wc k O n s p w → pos5 k s p w false
  | 0, _, _, _, h => h.1
  | n + 1, s, p, w, h => h.elim (fun q => Wc_pos (n := n) q) (fun q => q.1)
theorem smv_mono {k : Nat} {X X2 Y Y2 : Nat → Nat → Nat → Prop} (hX : ∀ s p w, X s p w → X2 s p w) (hY : ∀ s p w, Y s p w → Y2 s p w) {s p w : Nat} (h : smv k X Y s p w) : smv k X2 Y2 s p w := by
  rcases h with ⟨t, a, b, c⟩ | ⟨t, a, b, c⟩ | ⟨a, b, c⟩
  · exact Or.inl ⟨t, a, b, hX _ _ _ c⟩
  · exact Or.inr (Or.inl ⟨t, a, b, hX _ _ _ c⟩)
  · exact Or.inr (Or.inr ⟨a, b, hY _ _ _ c⟩)
theorem Wc_le {k : Nat} {O : Nat → Nat → Nat → Nat → Prop} {n : Nat} : ∀ {j s p w : Nat}, Wc k O n s p w → Wc k O (n + j) s p w
  | 0, _, _, _, h => h
  | j + 1, s, p, w, h => Or.inl (Wc_le (j := j) h)
theorem Wc_mono {k : Nat} {O : Nat → Nat → Nat → Nat → Prop} {n m : Nat} (hnm : n ≤ m) {s p w : Nat} (h : Wc k O n s p w) : Wc k O m s p w := by
  have := Wc_le (j := m - n) h
  rw [show n + (m - n) = m by omega] at this
  exact this
/-- later ways of the pawn are no fewer -/
def Omon (O : Nat → Nat → Nat → Nat → Prop) : Prop := ∀ n m, n ≤ m → ∀ s p w, O n s p w → O m s p w
theorem O0_mon : Omon O0 := fun _ _ _ _ _ _ h => h
theorem O1_mon : Omon O1 := fun n m h s p w q => q.elim (fun a => Or.inl (Wc_mono h a)) (fun a => Or.inr (Wc_mono h a))
theorem Ok_mon (k : Nat) : Omon (Ok k) := by
  unfold Ok
  split
  · exact O1_mon
  · exact O0_mon
theorem Sc_mono {k : Nat} {O : Nat → Nat → Nat → Nat → Prop} (hO : Omon O) {n m : Nat} (hnm : n ≤ m) {s p w : Nat} (h : Sc k O n s p w) : Sc k O m s p w :=
  ⟨h.1, smv_mono (fun _ _ _ q => Wc_mono hnm q) (fun _ _ _ q => hO n m hnm _ _ _ q) h.2⟩
/-- where nothing is new once, nothing is new later -/
theorem Wc_stop {k : Nat} {O : Nat → Nat → Nat → Nat → Prop} {n : Nat} (hW : ∀ s p w, s < 64 → p < 64 → w < 64 → Wc k O (n + 1) s p w → Wc k O n s p w) (hO : ∀ m, n ≤ m → ∀ s p w, s < 64 → p < 64 → w < 64 → O m s p w → O n s p w) : ∀ j s p w, s < 64 → p < 64 → w < 64 → Wc k O (n + j) s p w → Wc k O n s p w := by
  intro j
  induction j with
  | zero => intro s p w _ _ _ h; exact h
  | succ j ih =>
    intro s p w hs hp hw h
    rcases h with h | h
    · exact ih s p w hs hp hw h
    · refine hW s p w hs hp hw (Or.inr ⟨h.1, h.2.1, fun t ht hk hm => ?_⟩)
      obtain ⟨q1, q2⟩ := h.2.2 t ht hk hm
      refine ⟨q1, ?_⟩
      rcases q2 with ⟨t2, a, b, c⟩ | ⟨t2, a, b, c⟩ | ⟨a, b, c⟩
      · exact Or.inl ⟨t2, a, b, ih t2 p t a hp ht c⟩
      · exact Or.inr (Or.inl ⟨t2, a, b, ih s t2 t hs a ht c⟩)
      · exact Or.inr (Or.inr ⟨a, b, hO (n + j) (by omega) s (p + 8) t hs (by omega) ht c⟩)
theorem Sc_stop {k : Nat} {O : Nat → Nat → Nat → Nat → Prop} {n : Nat} (hW : ∀ s p w, s < 64 → p < 64 → w < 64 → Wc k O (n + 1) s p w → Wc k O n s p w) (hO : ∀ m, n ≤ m → ∀ s p w, s < 64 → p < 64 → w < 64 → O m s p w → O n s p w) (j : Nat) {s p w : Nat} (hs : s < 64) (hp : p < 64) (hw : w < 64) (h : Sc k O (n + j) s p w) : Sc k O n s p w := by
  refine ⟨h.1, ?_⟩
  rcases h.2 with ⟨t2, a, b, c⟩ | ⟨t2, a, b, c⟩ | ⟨a, b, c⟩
  · exact Or.inl ⟨t2, a, b, Wc_stop hW hO j t2 p w a hp hw c⟩
  · exact Or.inr (Or.inl ⟨t2, a, b, Wc_stop hW hO j s t2 w hs a hw c⟩)
  · exact Or.inr (Or.inr ⟨a, b, hO (n + j) (by omega) s (p + 8) w hs (by omega) hw c⟩)
/-- without mates nothing is ever lost -/
theorem Wc_none {k : Nat} (h : ∀ s p w, s < 64 → p < 64 → w < 64 → ¬ mate5 k s p w) : ∀ n s p w, s < 64 → p < 64 → w < 64 → ¬ Wc k O0 n s p w := by
  intro n
  induction n with
  | zero => intro s p w hs hp hw; exact h s p w hs hp hw
  | succ n ih =>
    intro s p w hs hp hw q
    rcases q with q | q
    · exact ih s p w hs hp hw q
    · obtain ⟨t, ht, hk, hm⟩ := q.2.1
      obtain ⟨q1, q2⟩ := q.2.2 t ht hk hm
      rcases q2 with ⟨t2, a, b, c⟩ | ⟨t2, a, b, c⟩ | ⟨a, b, c⟩
      · exact ih t2 p t a hp ht c
      · exact ih s t2 t hs a ht c
      · exact c
