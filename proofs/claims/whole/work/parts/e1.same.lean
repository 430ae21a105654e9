/-! TURNS OF THE BOARD: nothing is won or lost by them -/
/-- what else a pawn asks of a turn -/
def Tpn (g : Nat → Nat) : Prop := (∀ a b, a < 64 → b < 64 → aI (dF (g a) (g b)) = aI (dF a b) ∧ dR (g a) (g b) = dR a b) ∧ (∀ q, q < 64 → g q / 8 = q / 8) ∧ ∀ q, q + 8 < 64 → g (q + 8) = g q + 8
def Tk (g : Nat → Nat) (k : Nat) : Prop := Trn g ∧ (k = 1 → Tpn g)
theorem Trn.ij {g : Nat → Nat} (h : Trn g) {a b : Nat} (ha : a < 64) (hb : b < 64) : g a = g b ↔ a = b := Trn.inj h.1 h.2.1 ha hb
theorem Trn.ex {g : Nat → Nat} (h : Trn g) {F : Nat → Prop} : (∃ t, t < 64 ∧ F t) ↔ ∃ t, t < 64 ∧ F (g t) :=
  ⟨fun ⟨t, a, b⟩ => ⟨g t, h.1 t a, by rw [h.2.1 t a]; exact b⟩, fun ⟨t, a, b⟩ => ⟨g t, h.1 t a, b⟩⟩
theorem at5_g {g : Nat → Nat} {k : Nat} (h : Tk g k) {s p q : Nat} (hs : s < 64) (hp : p < 64) (hq : q < 64) : at5 k (g s) (g p) (g q) ↔ at5 k s p q := by
  unfold at5
  by_cases k1 : k = 1
  · rw [if_pos k1, if_pos k1, ((h.2 k1).1 p q hp hq).1, ((h.2 k1).1 p q hp hq).2]
  · rw [if_neg k1, if_neg k1]
    by_cases k2 : k = 2
    · rw [if_pos k2, if_pos k2, h.1.2.2.2.1 p q hp hq]
    · rw [if_neg k2, if_neg k2, ne_eq, h.1.ij hp hq, h.1.2.2.2.2.1 k p q hp hq]
      exact and_congr_right (fun a => and_congr_right (fun b => h.1.2.2.2.2.2 k s p q hs hp hq a b))
theorem pos5_g {g : Nat → Nat} {k : Nat} (h : Tk g k) {s p w : Nat} (hs : s < 64) (hp : p < 64) (hw : w < 64) (sm : Bool) : pos5 k (g s) (g p) (g w) sm ↔ pos5 k s p w sm := by
  unfold pos5
  rw [ne_eq, ne_eq, ne_eq, h.1.ij hs hp, h.1.ij hs hw, h.1.ij hp hw, h.1.2.2.1 s w hs hw, at5_g h hs hp hw]
  refine and_congr_right (fun _ => and_congr_right (fun _ => and_congr_right (fun _ => and_congr_right (fun _ => and_congr_left (fun _ => ?_)))))
  exact ⟨fun a k1 => by have := a k1; rw [(h.2 k1).2.1 p hp] at this; exact this, fun a k1 => by rw [(h.2 k1).2.1 p hp]; exact a k1⟩
theorem wmv_g {g : Nat → Nat} {k : Nat} (h : Tk g k) {s p t : Nat} (hs : s < 64) (hp : p < 64) (ht : t < 64) : wmv k (g s) (g p) (g t) ↔ wmv k s p t := by
  unfold wmv
  rw [h.1.ij ht hp, h.1.2.2.1 s t hs ht, pos5_g h hs hp ht]
theorem up_g {g : Nat → Nat} (h : Trn g) (h1 : Tpn g) {p t : Nat} (hp : p < 64) (ht : t < 64) : g t = g p + 8 ↔ t = p + 8 := by
  by_cases z : p + 8 < 64
  · rw [← h1.2.2 p z, h.ij ht z]
  · have a := h1.2.1 p hp
    have b := h.1 t ht
    constructor <;> intro e <;> omega
theorem mmv_g {g : Nat → Nat} {k : Nat} (h : Tk g k) {s p w t : Nat} (hs : s < 64) (hp : p < 64) (hw : w < 64) (ht : t < 64) : mmv k (g s) (g p) (g w) (g t) ↔ mmv k s p w t := by
  unfold mmv
  rw [ne_eq, ne_eq, h.1.ij ht hs, h.1.ij ht hw]
  refine and_congr_right (fun _ => and_congr_right (fun _ => ?_))
  by_cases k1 : k = 1
  · have h1 := h.2 k1
    rw [if_pos k1, if_pos k1, up_g h.1 h1 hp ht, h1.2.1 p hp]
    refine or_congr Iff.rfl (and_congr_right (fun r1 => ?_))
    have e1 := h1.2.2 p (by omega)
    have e2 := h1.2.2 (p + 8) (by omega)
    rw [show g p + 16 = g (p + 8 + 8) by omega, ← e1, h.1.ij ht (by omega), ne_eq, ne_eq, h.1.ij (by omega) hs, h.1.ij (by omega) hw]
  · rw [if_neg k1, if_neg k1]
    by_cases k2 : k = 2
    · rw [if_pos k2, if_pos k2, h.1.2.2.2.1 p t hp ht]
    · rw [if_neg k2, if_neg k2, ne_eq, h.1.ij hp ht, h.1.2.2.2.2.1 k p t hp ht]
      exact and_congr_right (fun a => and_congr_right (fun b => and_congr (h.1.2.2.2.2.2 k s p t hs hp ht a b) (h.1.2.2.2.2.2 k w p t hw hp ht a b)))
def Inv3 (g : Nat → Nat) (X : Nat → Nat → Nat → Prop) : Prop := ∀ s p w, s < 64 → p < 64 → w < 64 → (X (g s) (g p) (g w) ↔ X s p w)
theorem mate5_g {g : Nat → Nat} {k : Nat} (h : Tk g k) : Inv3 g (mate5 k) := fun s p w hs hp hw => by
  unfold mate5
  rw [pos5_g h hs hp hw, at5_g h hs hp hw]
  refine and_congr_right (fun _ => and_congr_right (fun _ => ?_))
  constructor
  · intro a t ht hk hm
    exact a (g t) (h.1.1 t ht) ((h.1.2.2.1 w t hw ht).mpr hk) ((wmv_g h hs hp ht).mpr hm)
  · intro a t ht hk hm
    have e := h.1.2.1 t ht
    have l := h.1.1 t ht
    rw [← e] at hk hm
    exact a (g t) l ((h.1.2.2.1 w _ hw l).mp hk) ((wmv_g h hs hp l).mp hm)
theorem smv_g {g : Nat → Nat} {k : Nat} (h : Tk g k) {X Y : Nat → Nat → Nat → Prop} (hX : Inv3 g X) (hY : k = 1 → Inv3 g Y) : Inv3 g (smv k X Y) := fun s p w hs hp hw => by
  unfold smv
  refine or_congr ?_ (or_congr ?_ ?_)
  · rw [h.1.ex]
    refine exists_congr (fun t => and_congr_right (fun ht => ?_))
    rw [h.1.2.2.1 s t hs ht, hX t p w ht hp hw]
  · rw [h.1.ex]
    refine exists_congr (fun t => and_congr_right (fun ht => ?_))
    rw [mmv_g h hs hp hw ht, hX s t w hs ht hw]
  · refine and_congr_right (fun k1 => ?_)
    rw [(h.2 k1).2.1 p hp]
    refine and_congr_right (fun r6 => ?_)
    rw [← (h.2 k1).2.2 p (by omega), hY k1 s (p + 8) w hs (by omega) hw]
theorem wst_g {g : Nat → Nat} {k : Nat} (h : Tk g k) {Z : Nat → Nat → Nat → Prop} (hZ : Inv3 g Z) : Inv3 g (wst k Z) := fun s p w hs hp hw => by
  unfold wst
  rw [pos5_g h hs hp hw]
  refine and_congr_right (fun _ => and_congr ?_ ?_)
  · rw [h.1.ex]
    refine exists_congr (fun t => and_congr_right (fun ht => ?_))
    rw [h.1.2.2.1 w t hw ht, wmv_g h hs hp ht]
  · constructor
    · intro a t ht hk hm
      exact (hZ s p t hs hp ht).mp (a (g t) (h.1.1 t ht) ((h.1.2.2.1 w t hw ht).mpr hk) ((wmv_g h hs hp ht).mpr hm))
    · intro a t ht hk hm
      have e := h.1.2.1 t ht
      have l := h.1.1 t ht
      rw [← e] at hk hm ⊢
      exact (hZ s p _ hs hp l).mpr (a (g t) l ((h.1.2.2.1 w _ hw l).mp hk) ((wmv_g h hs hp l).mp hm))
theorem Wc_g {g : Nat → Nat} {k : Nat} (h : Tk g k) {O : Nat → Nat → Nat → Nat → Prop} (hO : k = 1 → ∀ n, Inv3 g (O n)) : ∀ n, Inv3 g (Wc k O n)
  | 0 => mate5_g h
  | n + 1 => fun s p w hs hp hw => by
    have ih := Wc_g h hO n
    have hS : Inv3 g (fun s p t => pos5 k s p t true ∧ smv k (Wc k O n) (O n) s p t) := fun s p t hs hp ht => and_congr (pos5_g h hs hp ht true) (smv_g h ih (fun k1 => hO k1 n) s p t hs hp ht)
    exact or_congr (ih s p w hs hp hw) (wst_g h hS s p w hs hp hw)
theorem Ok_g {g : Nat → Nat} {k : Nat} (h : Tk g k) (n : Nat) : k = 1 → Inv3 g (Ok k n) := fun k1 => by
  unfold Ok
  rw [if_pos k1]
  intro s p w hs hp hw
  exact or_congr (Wc_g (k := 5) ⟨h.1, fun q => absurd q (by decide)⟩ (fun q => absurd q (by decide)) n s p w hs hp hw) (Wc_g (k := 4) ⟨h.1, fun q => absurd q (by decide)⟩ (fun q => absurd q (by decide)) n s p w hs hp hw)
theorem Wk_g {g : Nat → Nat} {k : Nat} (h : Tk g k) (n : Nat) : Inv3 g (Wc k (Ok k) n) := Wc_g h (fun k1 n => Ok_g h n k1) n
theorem Sk_g {g : Nat → Nat} {k : Nat} (h : Tk g k) (n : Nat) : Inv3 g (Sc k (Ok k) n) := fun s p w hs hp hw => and_congr (pos5_g h hs hp hw true) (smv_g h (Wk_g h n) (Ok_g h n) s p w hs hp hw)
theorem tA_pn : Tpn tA := by
  have c8 : ∀ q, q < 64 → tA q % 8 = 7 - q % 8 ∧ tA q / 8 = q / 8 ∧ tA q < 64 := fun q h => by unfold tA; omega
  refine ⟨fun a b ha hb => ⟨?_, ?_⟩, fun q h => (c8 q h).2.1, fun q h => by unfold tA; omega⟩
  · rw [show dF (tA a) (tA b) = - dF a b by unfold dF; rw [(c8 a ha).1, (c8 b hb).1]; omega, aI_neg]
  · unfold dR; rw [(c8 a ha).2.1, (c8 b hb).2.1]
/-- the reference's eight turns -/
def trn (i q : Nat) : Nat := if i / 4 % 2 = 0 then 8 * (if i / 2 % 2 = 0 then q / 8 else 7 - q / 8) + (if i % 2 = 0 then q % 8 else 7 - q % 8) else 8 * (if i % 2 = 0 then q % 8 else 7 - q % 8) + (if i / 2 % 2 = 0 then q / 8 else 7 - q / 8)
def trC (i q : Nat) : Nat := (fun x => if i / 4 % 2 = 0 then x else tC x) ((fun x => if i / 2 % 2 = 0 then x else tB x) ((fun x => if i % 2 = 0 then x else tA x) q))
theorem trn_C : (List.range 8).all (fun i => (List.range 64).all (fun q => decide (trn i q = trC i q) && decide (trn i q < 64))) = true := by decide +kernel
theorem trn_of {i q : Nat} (hi : i < 8) (hq : q < 64) : trn i q = trC i q ∧ trn i q < 64 := by
  have h := List.all_eq_true.mp (List.all_eq_true.mp trn_C i (List.mem_range.mpr hi)) q (List.mem_range.mpr hq)
  simp only [Bool.and_eq_true, decide_eq_true_eq] at h
  exact h
theorem Inv3_if {g : Nat → Nat} {X : Nat → Nat → Nat → Prop} (hX : Inv3 g X) (c : Prop) [Decidable c] : Inv3 (fun x => if c then x else g x) X := fun s p w hs hp hw => by
  by_cases h : c
  · simp only [if_pos h]
  · simp only [if_neg h]; exact hX s p w hs hp hw
theorem trn_inv {X : Nat → Nat → Nat → Prop} (hA : Inv3 tA X) (hB : Inv3 tB X) (hC : Inv3 tC X) {i : Nat} (hi : i < 8) : Inv3 (trn i) X := fun s p w hs hp hw => by
  have lt : ∀ {g : Nat → Nat}, Trn g → ∀ (c : Prop) [Decidable c] {q : Nat}, q < 64 → (if c then q else g q) < 64 := fun h c _ q hq => by
    split
    · exact hq
    · exact h.1 q hq
  rw [(trn_of hi hs).1, (trn_of hi hp).1, (trn_of hi hw).1]
  unfold trC
  rw [Inv3_if hC (i / 4 % 2 = 0) _ _ _ (lt tB_Trn _ (lt tA_Trn _ hs)) (lt tB_Trn _ (lt tA_Trn _ hp)) (lt tB_Trn _ (lt tA_Trn _ hw)), Inv3_if hB (i / 2 % 2 = 0) _ _ _ (lt tA_Trn _ hs) (lt tA_Trn _ hp) (lt tA_Trn _ hw), Inv3_if hA (i % 2 = 0) _ _ _ hs hp hw]
