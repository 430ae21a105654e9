/-! THE CLASS'S READER: numbers, what keeps a position from being right -/
theorem dg_pos (T : Nat → Nat) (e : Nat) : ∀ k p v, p ≤ (dg T e k p v).1 ∧ (dg T e k p v).1 ≤ p + k
  | 0, p, v => by unfold dg; exact ⟨Nat.le_refl _, Nat.le_refl _⟩
  | k + 1, p, v => by
    unfold dg
    split
    · have := dg_pos T e k (p + 1) (10 * v + (pk T e p - 48)); omega
    · show p ≤ p ∧ p ≤ p + (k + 1); omega
theorem dg_stop (T : Nat → Nat) (e : Nat) : ∀ k p v j, (dg T e k p v).1 < p + k → dg T e (k + j) p v = dg T e k p v
  | 0, p, v, j, h => by
    have : (dg T e 0 p v).1 = p := rfl
    omega
  | k + 1, p, v, j, h => by
    rw [show k + 1 + j = (k + j) + 1 by omega]
    unfold dg at h ⊢
    by_cases q : 48 ≤ pk T e p ∧ pk T e p ≤ 57
    · rw [if_pos q] at h ⊢
      rw [if_pos q]
      exact dg_stop T e k (p + 1) _ j (by omega)
    · rw [if_neg q, if_neg q]
theorem dg_mono (T : Nat → Nat) (e : Nat) : ∀ k p v j, (dg T e k p v).1 ≤ (dg T e (k + j) p v).1
  | 0, p, v, j => (dg_pos T e (0 + j) p v).1
  | k + 1, p, v, j => by
    rw [show k + 1 + j = (k + j) + 1 by omega]
    unfold dg
    by_cases q : 48 ≤ pk T e p ∧ pk T e p ≤ 57
    · rw [if_pos q, if_pos q]
      exact dg_mono T e k (p + 1) _ j
    · rw [if_neg q, if_neg q]
      exact Nat.le_refl _
theorem dg_low (T : Nat → Nat) (e : Nat) : ∀ k p v, v * 10 ^ ((dg T e k p v).1 - p) ≤ (dg T e k p v).2
  | 0, p, v => by
    unfold dg
    show v * 10 ^ (p - p) ≤ v
    rw [Nat.sub_self, Nat.pow_zero]; omega
  | k + 1, p, v => by
    unfold dg
    by_cases q : 48 ≤ pk T e p ∧ pk T e p ≤ 57
    · rw [if_pos q]
      have h := dg_low T e k (p + 1) (10 * v + (pk T e p - 48))
      have hp := (dg_pos T e k (p + 1) (10 * v + (pk T e p - 48))).1
      generalize dg T e k (p + 1) (10 * v + (pk T e p - 48)) = x at h hp ⊢
      have e1 : x.1 - p = (x.1 - (p + 1)) + 1 := by omega
      rw [e1, Nat.pow_succ]
      have h2 : 10 * v * 10 ^ (x.1 - (p + 1)) ≤ (10 * v + (pk T e p - 48)) * 10 ^ (x.1 - (p + 1)) := Nat.mul_le_mul_right _ (by omega)
      have h3 : v * (10 ^ (x.1 - (p + 1)) * 10) = 10 * v * 10 ^ (x.1 - (p + 1)) := by
        rw [Nat.mul_comm (10 ^ _) 10, ← Nat.mul_assoc, Nat.mul_comm v 10]
      omega
    · rw [if_neg q]
      show v * 10 ^ (p - p) ≤ v
      rw [Nat.sub_self, Nat.pow_zero]; omega
theorem dg_hi (T : Nat → Nat) (e : Nat) (k p v : Nat) : (dg T e k p v).2 < 10 ^ ((dg T e k p v).1 - p) * (v + 1) := by
  obtain ⟨j, -, h2, h3⟩ := dg_bd (T := T) (e := e) k p v
  rw [show (dg T e k p v).1 - p = j by omega]
  exact h3
/-- a number without a 0 ahead: the five digits that the class reads at most, against those of the document -/
theorem nm_cmp {T : Nat → Nat} {e most p : Nat} (hm : most = 3 ∨ most = 4) (h49 : 49 ≤ pk T e p) (h57 : pk T e p ≤ 57) : ((dg T e 5 p 0).2 ≤ 10 ^ most - 1 → nmS T e most p = some (dg T e 5 p 0)) ∧ (¬ (dg T e 5 p 0).2 ≤ 10 ^ most - 1 → nmS T e most p = none) := by
  have hpos := dg_pos T e (most + 1) p 0
  have hfirst : p + 1 ≤ (dg T e (most + 1) p 0).1 := by
    unfold dg
    rw [if_pos ⟨by omega, h57⟩]
    exact (dg_pos T e most (p + 1) _).1
  have hlow : 10 ^ ((dg T e 5 p 0).1 - p - 1) ≤ (dg T e 5 p 0).2 := by
    have e1 : dg T e 5 p 0 = dg T e 4 (p + 1) (10 * 0 + (pk T e p - 48)) := by
      rw [dg, if_pos ⟨by omega, h57⟩]
    rw [e1]
    have := dg_low T e 4 (p + 1) (10 * 0 + (pk T e p - 48))
    have h1 : 1 * 10 ^ ((dg T e 4 (p + 1) (10 * 0 + (pk T e p - 48))).1 - (p + 1)) ≤ (10 * 0 + (pk T e p - 48)) * 10 ^ ((dg T e 4 (p + 1) (10 * 0 + (pk T e p - 48))).1 - (p + 1)) := Nat.mul_le_mul_right _ (by omega)
    rw [Nat.sub_sub]
    omega
  by_cases q : (dg T e (most + 1) p 0).1 < p + (most + 1)
  · have hs : dg T e 5 p 0 = dg T e (most + 1) p 0 := by
      have := dg_stop T e (most + 1) p 0 (4 - most) q
      rw [show most + 1 + (4 - most) = 5 by omega] at this
      exact this
    have hn : nmS T e most p = some (dg T e 5 p 0) := by
      unfold nmS
      rw [if_neg (by omega), hs]
    refine ⟨fun _ => hn, fun z => absurd ?_ z⟩
    have hh := dg_hi T e 5 p 0
    have h2 : 10 ^ ((dg T e 5 p 0).1 - p) ≤ 10 ^ most := Nat.pow_le_pow_right (by decide) (by rw [hs]; omega)
    omega
  · have hn : nmS T e most p = none := by
      unfold nmS
      rw [if_pos (Or.inr (Or.inl (by omega)))]
    have hmn := dg_mono T e (most + 1) p 0 (4 - most)
    rw [show most + 1 + (4 - most) = 5 by omega] at hmn
    have h2 : 10 ^ most ≤ 10 ^ ((dg T e 5 p 0).1 - p - 1) := Nat.pow_le_pow_right (by decide) (by omega)
    have h3 : 0 < 10 ^ most := Nat.pow_pos (by decide)
    exact ⟨fun z => by omega, fun _ => hn⟩
set_option maxHeartbeats 4000000 in
theorem c_readNumberC {mc ms : Nat} {M : zM} {g : Nat} (hW : zWd M g) {T : Nat → Nat} (hT : ∀ i, T i < 256) {e p0 : Nat} (h0 : cAt M T e p0) (hp0 : p0 < 2 ^ 19) {most mx : Nat} (hm : most = 3 ∧ mx = 999 ∨ most = 4 ∧ mx = 9999) {Q : zQt}
    (q1 : ∀ p v N, nmS T e most p0 = some (p, v) → cRn M N g [] → cAt N T e p → p ≤ p0 + 5 → v < 100000 → Q (some (.int (nI v))) N)
    (q0 : ∀ N p r, nmS T e most p0 = none → cRn M N g [] → cAt N T e p → (r = (-1 : Int32) ∨ r = 0 ∧ ¬ pk T e p = 32) → Q (some (.int r)) N) : wX6_readNumber mc ms [.ref 27, .int (nI mx)] M Q := by
  refine ⟨⟨Nat.le_of_ble_eq_true rfl, rfl⟩, fun X l0 l4 l67 l77 => ?_⟩
  have hg := hW.2
  have hmx : mx = 10 ^ most - 1 ∧ (most = 3 ∨ most = 4) := by
    rcases hm with ⟨a, b⟩ | ⟨a, b⟩ <;> rw [a, b] <;> decide
  have hc := pk_256 hT e p0
  have dig : ∀ p, 48 ≤ pk T e p ∧ pk T e p ≤ 57 → nI (pk T e p) - (48 : Int32) = nI (pk T e p - 48) := fun p h => pk_sub (b := 48) h.1
  -- behind the first digit, which is not 0
  have loop : ∀ (n k v : Nat) (N : zM), k + n = 5 → 1 ≤ k → 1 ≤ v → v < 10 ^ k → cRn M N g [] → cAt N T e (p0 + k) → dg T e 5 p0 0 = dg T e n (p0 + k) v → 49 ≤ pk T e p0 → pk T e p0 ≤ 57 → X 4 0 0 [.ref 27, .int (nI mx), .int (nI v), .int (nI k)] [] N := by
    have f67 : ∀ (p v : Nat) (N : zM), v < 100000 → p ≤ p0 + 5 → cRn M N g [] → cAt N T e p → dg T e 5 p0 0 = (p, v) → 49 ≤ pk T e p0 → pk T e p0 ≤ 57 → X 67 0 0 [.int (nI mx), .int (nI v)] [] N := by
      intro p v N hv hp fr aN hd h49 h57
      have WN := fr.1.wd hW
      have ev := nI_leI (a := v) (b := mx) (by omega) (by omega)
      obtain ⟨c1, c2⟩ := nm_cmp (T := T) (e := e) (p := p0) hmx.2 h49 h57
      rw [hd, ← hmx.1] at c1 c2
      refine l67 _ _ _ _ _ ⟨rfl, vX6_readNumber_67 WN ⟨fun w => l77 _ _ _ _ _ ⟨rfl, vX6_readNumber_77 WN (q1 p v N (c1 (ev.mp w)) fr aN hp hv)⟩, fun w => l77 _ _ _ _ _ ⟨rfl, vX6_readNumber_77 WN (q0 N p (-1) (c2 (fun z => w (ev.mpr z))) fr aN (Or.inl rfl))⟩⟩⟩
    intro n
    induction n with
    | zero =>
      intro k v N hk hk1 hv hv2 fr aN hd h49 h57
      obtain rfl : k = 5 := by omega
      have WN := fr.1.wd hW
      refine l4 _ _ _ _ _ ⟨rfl, vX6_readNumber_4 WN ⟨fun _ => f67 (p0 + 5) v N (by omega) (by omega) fr aN hd h49 h57, fun w => absurd (by decide) w⟩⟩
    | succ n ih =>
      intro k v N hk hk1 hv hv2 fr aN hd h49 h57
      have WN := fr.1.wd hW
      have hv5 : v < 100000 := Nat.lt_of_lt_of_le hv2 (Nat.pow_le_pow_right (n := 10) (by decide) (show k ≤ 5 by omega))
      have hcp := pk_256 hT e (p0 + k)
      refine l4 _ _ _ _ _ ⟨rfl, vX6_readNumber_4 WN ⟨fun w => absurd ((nI_leI (a := 5) (b := k) (by decide) (by omega)).mp w) (by omega), fun _ => ⟨fun w => absurd w (nI_ne0 (by omega) (by omega)), fun _ => ?_⟩⟩⟩
      have e48 := nI_ltI (a := pk T e (p0 + k)) (b := 48) (by omega) (by decide)
      have e57 := nI_leI (a := pk T e (p0 + k)) (b := 57) (by omega) (by decide)
      have hstop : ¬ (48 ≤ pk T e (p0 + k) ∧ pk T e (p0 + k) ≤ 57) → dg T e 5 p0 0 = (p0 + k, v) := fun z => by
        rw [hd, dg, if_neg z]
      refine c_signR WN hT aN (vkX6_readNumber_17 WN ⟨fun w => f67 (p0 + k) v N hv5 (by omega) fr aN (hstop (fun z => by have := e48.mp w; omega)) h49 h57, fun w => ⟨fun w2 => fun y ey M58 e58 => ?_, fun w2 => f67 (p0 + k) v N hv5 (by omega) fr aN (hstop (fun z => w2 (e57.mpr z.2))) h49 h57⟩⟩)
      have hdg : 48 ≤ pk T e (p0 + k) ∧ pk T e (p0 + k) ≤ 57 := ⟨by have : ¬ pk T e (p0 + k) < 48 := fun z => w (e48.mpr z); omega, e57.mp w2⟩
      rw [if_neg (nI_pos (by omega)), dig _ hdg, show nI v * (10 : Int32) = nI (v * 10) from pk_mul v 10, nI_add] at ey
      rw [aN.2.2.1, nI_1] at e58
      rw [ey, nI_1, show v * 10 + (pk T e (p0 + k) - 48) = 10 * v + (pk T e (p0 + k) - 48) by omega]
      refine ih (k + 1) (10 * v + (pk T e (p0 + k) - 48)) M58 (by omega) (by omega) (by omega) (by rw [Nat.pow_succ]; omega) (by rw [e58]; exact fr.tr (cRn.go hg)) (by rw [e58]; exact aN.go (by omega)) ?_ h49 h57
      rw [hd, dg, if_pos hdg]
      rfl
  have f67n : ∀ (p : Nat) (N : zM) (r : Int32), nmS T e most p0 = none → cRn M N g [] → cAt N T e p → r ≤ nI mx → (r = (-1 : Int32) ∨ r = 0 ∧ ¬ pk T e p = 32) → X 67 0 0 [.int (nI mx), .int r] [] N := by
    intro p N r hn fr aN hr hrr
    have WN := fr.1.wd hW
    exact l67 _ _ _ _ _ ⟨rfl, vX6_readNumber_67 WN ⟨fun _ => l77 _ _ _ _ _ ⟨rfl, vX6_readNumber_77 WN (q0 N p r hn fr aN hrr)⟩, fun w => absurd hr w⟩⟩
  have m1le : (-1 : Int32) ≤ nI mx := by
    rw [iI_nat mx, show (-1 : Int32) = iI (-1) from by decide]
    exact (iI_le (by omega) (by omega) (by omega) (by omega)).mpr (by omega)
  refine l0 _ _ _ _ _ ⟨rfl, vX6_readNumber_0 hW (l4 _ _ _ _ _ ⟨rfl, vX6_readNumber_4 hW ⟨fun w => absurd w (by decide), fun _ => ⟨fun w => absurd w (by decide), fun _ => ?_⟩⟩⟩)⟩
  have e48 := nI_ltI (a := pk T e p0) (b := 48) (by omega) (by decide)
  have e57 := nI_leI (a := pk T e p0) (b := 57) (by omega) (by decide)
  have hnone : ¬ (48 ≤ pk T e p0 ∧ pk T e p0 ≤ 57) → nmS T e most p0 = none := fun z => by
    unfold nmS
    have : (dg T e (most + 1) p0 0).1 = p0 := by rw [dg, if_neg z]
    rw [if_pos (Or.inl this)]
  refine c_signR hW hT h0 (vkX6_readNumber_17 hW ⟨fun w => f67n p0 M (-1) (hnone (fun z => by have := e48.mp w; omega)) cRn.rf h0 m1le (Or.inl rfl), fun w => ⟨fun w2 => fun y ey M58 e58 => ?_, fun w2 => f67n p0 M (-1) (hnone (fun z => w2 (e57.mpr z.2))) cRn.rf h0 m1le (Or.inl rfl)⟩⟩)
  have hdg : 48 ≤ pk T e p0 ∧ pk T e p0 ≤ 57 := ⟨by have : ¬ pk T e p0 < 48 := fun z => w (e48.mpr z); omega, e57.mp w2⟩
  rw [if_pos (by decide), dig _ hdg, show (0 : Int32) * (10 : Int32) = nI 0 from by decide, nI_add, Nat.zero_add] at ey
  rw [h0.2.2.1, nI_1] at e58
  have fr : cRn M M58 g [] := by rw [e58]; exact cRn.go hg
  have aN : cAt M58 T e (p0 + 1) := by rw [e58]; exact h0.go (by omega)
  have WN := fr.1.wd hW
  rw [ey]
  by_cases q : pk T e p0 = 48
  · rw [q]
    have hd1 : dg T e (most + 1) p0 0 = dg T e most (p0 + 1) 0 := by rw [dg, if_pos hdg, q]
    refine l4 _ _ _ _ _ ⟨rfl, vX6_readNumber_4 WN ⟨fun w => absurd w (by decide), fun _ => ⟨fun _ => ?_, fun w => absurd (by decide) w⟩⟩⟩
    obtain ⟨k, hk⟩ : ∃ k, most = k + 1 := ⟨most - 1, by omega⟩
    by_cases z : 48 ≤ pk T e (p0 + 1) ∧ pk T e (p0 + 1) ≤ 57
    · refine f67n (p0 + 1) M58 _ ?_ fr aN ?_ (Or.inr ⟨by decide, by omega⟩)
      · unfold nmS
        have : p0 + 2 ≤ (dg T e (most + 1) p0 0).1 := by
          rw [hd1, hk, dg, if_pos z]
          exact (dg_pos T e k (p0 + 1 + 1) _).1
        rw [if_pos (Or.inr (Or.inr ⟨by omega, q⟩))]
      · exact nI_le (a := 0) (by omega) (by omega)
    · have hn : nmS T e most p0 = some (p0 + 1, 0) := by
        have : dg T e (most + 1) p0 0 = (p0 + 1, 0) := by rw [hd1, hk, dg, if_neg z]
        unfold nmS
        rw [this, if_neg]
        show ¬ (p0 + 1 = p0 ∨ most < p0 + 1 - p0 ∨ 1 < p0 + 1 - p0 ∧ pk T e p0 = 48)
        omega
      have e0 : (nI (48 - 48)) ≤ nI mx := nI_le (by omega) (by omega)
      exact l67 _ _ _ _ _ ⟨rfl, vX6_readNumber_67 WN ⟨fun _ => l77 _ _ _ _ _ ⟨rfl, vX6_readNumber_77 WN (q1 (p0 + 1) 0 M58 hn fr aN (by omega) (by omega))⟩, fun w => absurd e0 w⟩⟩
  · refine loop 4 1 (pk T e p0 - 48) M58 (by omega) (by omega) (by omega) (by omega) fr aN ?_ (by omega) hdg.2
    rw [dg, if_pos hdg, Nat.mul_zero, Nat.zero_add]
