/-! THE REFERENCE'S find: isLike, find -/
abbrev bec (T : Nat → Nat) (form a n : Nat) : Prop := form = 4 ∧ isO (T (a + n - 1))
def lsq (T : Nat → Nat) (form a n : Nat) : Nat := if bec T form a n then a + n - 1 - 2 else a + n - 1 - 1
abbrev lmn (P : Ps) (T : Nat → Nat) (m form a : Nat) : Prop := if form = 3 then kd (P.1 (m % 64)) ≠ 1 ∧ ltr (kd (P.1 (m % 64))) = T a else kd (P.1 (m % 64)) = 1
abbrev lkS (P : Ps) (T : Nat → Nat) (m form a n : Nat) : Prop := if form < 3 ∨ 0 < cstl P m then cstl P m = form else
  lmn P T m form a ∧ (if 0 < m / 4096 then ltr (m / 4096) else 0) = (if bec T form a n then T (a + n - 1) else 0) ∧ m / 64 % 64 = (T (lsq T form a n) - 97) + 8 * (T (lsq T form a n + 1) - 49)
/-- what a form tells of the square -/
theorem fm_sq {T : Nat → Nat} {a n : Nat} (h : 3 ≤ fmS T a n) : 2 ≤ n ∧ (bec T (fmS T a n) a n → 3 ≤ n) ∧ isF (T (lsq T (fmS T a n) a n)) ∧ isR (T (lsq T (fmS T a n) a n + 1)) := by
  unfold fmS at h ⊢
  by_cases hc : caS T a n
  · rw [if_pos hc] at h
    split at h <;> omega
  rw [if_neg hc] at h ⊢
  by_cases hm : 0 < n ∧ (T a = 75 ∨ isO (T a))
  · rw [if_pos hm] at h ⊢
    by_cases hf : mfS T (a + 1) (a + n)
    · rw [if_pos hf]
      obtain ⟨f1, f2, f3, f4⟩ := hf
      have nb : ¬ bec T 3 a n := fun q => absurd q.1 (by decide)
      unfold lsq
      rw [if_neg nb]
      refine ⟨by omega, fun q => absurd q nb, ?_, ?_⟩
      · rw [show a + n - 1 - 1 = a + n - 2 by omega]; exact f2
      · rw [show a + n - 1 - 1 + 1 = a + n - 1 by omega]; exact f3
    · rw [if_neg hf] at h
      omega
  · rw [if_neg hm] at h ⊢
    by_cases hp : pfS T a (a + n)
    · rw [if_pos hp]
      obtain ⟨f1, f2, f3⟩ := hp
      have hle : a ≤ pw1 T a (a + n) := by unfold pw1; split <;> omega
      generalize pw1 T a (a + n) = p at f1 f2 f3 hle
      unfold pw2 at f1
      unfold lsq
      by_cases hb : a + n - p = 3 ∧ isO (T (a + n - 1))
      · rw [if_pos hb] at f1
        have hbe : bec T 4 a n := ⟨rfl, hb.2⟩
        rw [if_pos hbe]
        refine ⟨by omega, fun _ => by omega, ?_, ?_⟩
        · rw [show a + n - 1 - 2 = p by omega]; exact f2
        · rw [show a + n - 1 - 2 + 1 = p + 1 by omega]; exact f3
      · rw [if_neg hb] at f1
        have hnb : ¬ bec T 4 a n := by
          rintro ⟨_, q⟩
          rw [show a + n - 1 = p + 1 by omega] at q
          unfold isR at f3
          rcases q with q | q | q | q <;> omega
        rw [if_neg hnb]
        refine ⟨by omega, fun q => absurd q hnb, ?_, ?_⟩
        · rw [show a + n - 1 - 1 = p by omega]; exact f2
        · rw [show a + n - 1 - 1 + 1 = p + 1 by omega]; exact f3
    · rw [if_neg hp] at h
      omega
theorem ltr_lt (m : Nat) : ltr m < 256 := by
  unfold ltr
  split
  · split <;> omega
  · split
    · split <;> omega
    · split
      · split <;> omega
      · split
        · split <;> omega
        · split <;> split <;> omega
set_option maxHeartbeats 8000000 in
theorem c_isLike {mc ms : Nat} {M : zM} (hW : zFix M) {T : Nat → Nat} {e : Nat} (hT : rTx M T e) {P : Ps} (hP : rPs M 0 P) {m : Nat} (hm : m < 2 ^ 30) {form a n : Nat} (hfm : form = fmS T a n) (hf0 : form ≤ 4) (hb : a + n ≤ 8199) {Q : zQt} (q1 : lkS P T m form a n → Q (some (.int 1)) M) (q0 : ¬ lkS P T m form a n → Q (some (.int 0)) M) : wX13_isLike mc ms [.ref 55, .int (nI m), .int (nI form), .int (nI a), .int (nI n)] M Q := by
  refine ⟨⟨Nat.le_of_ble_eq_true rfl, rfl⟩, fun X l0 l17 l28 l72 l73 l91 l121 l136 l158 l182 l220 l221 => ?_⟩
  have tl : ∀ i, i < 8200 → T i < 256 := fun i hi => (hT.2.2 i hi).2
  have ha : m % 64 < 64 := Nat.mod_lt _ (by decide)
  have hb64 : m / 64 % 64 < 64 := Nat.mod_lt _ (by decide)
  obtain ⟨hB, hB12⟩ := hP.1 (m % 64) ha
  rw [Nat.zero_add] at hB
  have hk : kd (P.1 (m % 64)) ≤ 12 := by unfold kd; split <;> omega
  have hc2 : cstl P m ≤ 2 := by unfold cstl; split <;> (try split) <;> omega
  have e3 := nI_ltI (a := form) (b := 3) (by omega) (by decide)
  have ec := nI_leI (a := cstl P m) (b := 0) (by omega) (by decide)
  have ecf := nI_eq (a := cstl P m) (b := form) (by omega) (by omega)
  have f17 : (form < 3 ∨ 0 < cstl P m) → X 17 0 0 [.int (nI form), .int (nI (cstl P m))] [] M := by
    intro h
    have hr : lkS P T m form a n ↔ cstl P m = form := by unfold lkS; rw [if_pos h]
    exact l17 _ _ _ _ _ ⟨rfl, vX13_isLike_17 hW ⟨fun y => l28 _ _ _ _ _ ⟨rfl, vX13_isLike_28 hW ⟨rfl, q1 (hr.mpr (ecf.mp y))⟩⟩, fun y => l28 _ _ _ _ _ ⟨rfl, vX13_isLike_28 hW ⟨rfl, q0 (fun q => y (ecf.mpr (hr.mp q)))⟩⟩⟩⟩
  refine l0 _ _ _ _ _ ⟨rfl, vX13_isLike_0 hW (c_castling hW hP hm (vkX13_isLike_5 hW ⟨fun y => f17 (Or.inl (e3.mp y)), fun y => ⟨fun z => c_fromOf hW (by omega) (vkX13_isLike_37 hW ?_), fun z => f17 (Or.inr ?_)⟩⟩))⟩
  rotate_left
  · have : ¬ cstl P m ≤ 0 := fun q => z (ec.mpr q)
    omega
  have hno : ¬ (form < 3 ∨ 0 < cstl P m) := by
    have := ec.mp z
    have : ¬ form < 3 := fun q => y (e3.mpr q)
    omega
  have hr : lkS P T m form a n ↔ lmn P T m form a ∧ (if 0 < m / 4096 then ltr (m / 4096) else 0) = (if bec T form a n then T (a + n - 1) else 0) ∧ m / 64 % 64 = (T (lsq T form a n) - 97) + 8 * (T (lsq T form a n + 1) - 49) := by
    unfold lkS; rw [if_neg hno]
  obtain ⟨hn2, hn3, hsF, hsR⟩ := fm_sq (T := T) (a := a) (n := n) (by rw [← hfm]; omega)
  rw [← hfm] at hn3 hsF hsR
  have f220 : ¬ lkS P T m form a n → X 220 0 0 [] [] M := fun h => l220 _ _ _ _ _ ⟨rfl, vX13_isLike_220 hW (l221 _ _ _ _ _ ⟨rfl, vX13_isLike_221 hW ⟨rfl, q0 h⟩⟩)⟩
  have hsq : lsq T form a n + 1 < a + n := by
    unfold lsq
    split
    · have := hn3 (by assumption)
      omega
    · omega
  have f182 : ∀ v w, v = (if bec T form a n then T (a + n - 1) else 0) → w = (if 0 < m / 4096 then ltr (m / 4096) else 0) → lmn P T m form a → X 182 0 0 [.ref 55, .int (nI m), .int (nI (lsq T form a n))] [.int (nI v), .int (nI w)] M := by
    intro v w hv hw hmn
    have hv2 : v < 256 := by
      rw [hv]; split
      · exact tl _ (by omega)
      · omega
    have hw2 : w < 256 := by
      rw [hw]; split
      · exact ltr_lt _
      · omega
    have ew := nI_eq (a := w) (b := v) (by omega) (by omega)
    refine l182 _ _ _ _ _ ⟨rfl, vX13_isLike_182 hW ⟨fun x => c_toOf hW (by omega) (vkX13_isLike_189 hW (c_sign hW hT (by omega) (vkX13_isLike_195 hW ?_))), fun x => f220 (fun h => x (ew.mpr (by rw [hv, hw]; exact (hr.mp h).2.1)))⟩⟩
    rw [show nI (lsq T form a n) + (1 : Int32) = nI (lsq T form a n + 1) from nI_1 _]
    refine c_sign hW hT (by omega) (vkX13_isLike_208 hW ?_)
    have t1 := tl (lsq T form a n) (by omega)
    have t2 := tl (lsq T form a n + 1) (by omega)
    rw [show nI (T (lsq T form a n)) - (97 : Int32) = nI (T (lsq T form a n) - 97) from pk_sub (a := T (lsq T form a n)) (b := 97) (by have := hsF.1; omega), show nI (T (lsq T form a n + 1)) - (49 : Int32) = nI (T (lsq T form a n + 1) - 49) from pk_sub (a := T (lsq T form a n + 1)) (b := 49) (by have := hsR.1; omega), show (8 : Int32) * nI (T (lsq T form a n + 1) - 49) = nI (8 * (T (lsq T form a n + 1) - 49)) from pk_mul 8 _, nI_add]
    have es := nI_eq (a := m / 64 % 64) (b := T (lsq T form a n) - 97 + 8 * (T (lsq T form a n + 1) - 49)) (by omega) (by omega)
    exact ⟨fun u => l221 _ _ _ _ _ ⟨rfl, vX13_isLike_221 hW ⟨rfl, q1 (hr.mpr ⟨hmn, by rw [← hv, ← hw]; exact ew.mp x, es.mp u⟩)⟩⟩, fun u => f220 (fun h => u (es.mpr (hr.mp h).2.2))⟩
  have f136 : ∀ b b8 : Bool, (b = true ↔ lmn P T m form a) → (b8 = true ↔ bec T form a n) → X 136 0 0 [.ref 55, .int (nI m), .int (nI (a + n - 1)), .int (bI b8), .int (nI (lsq T form a n))] [.int (bI b)] M := by
    intro b b8 hbm hb8
    have f158 : ∀ w, w = (if 0 < m / 4096 then ltr (m / 4096) else 0) → X 158 0 0 [.ref 55, .int (nI m), .int (nI (a + n - 1)), .int (bI b8), .int (nI (lsq T form a n)), .int (bI b)] [.int (nI w)] M := by
      intro w hw
      refine l158 _ _ _ _ _ ⟨rfl, vX13_isLike_158 hW ⟨fun x => f220 (fun h => ?_), fun x => ⟨fun u => f182 0 w ?_ hw (hbm.mp (bI_n.mp x)), fun u => c_sign hW hT (by omega) (vkX13_isLike_178 hW (f182 _ w ?_ hw (hbm.mp (bI_n.mp x))))⟩⟩⟩
      · rw [bI_0, hbm.mpr (hr.mp h).1] at x
        exact absurd x (by decide)
      · rw [if_neg (fun q => by rw [bI_0, hb8.mpr q] at u; exact absurd u (by decide))]
      · rw [if_pos (hb8.mp (bI_n.mp u))]
    refine l136 _ _ _ _ _ ⟨rfl, vX13_isLike_136 hW ?_⟩
    rw [show nI m / (4096 : Int32) = nI (m / 4096) from pk_div (by omega) (by decide) (by decide)]
    have e0 := nI_leI (a := m / 4096) (b := 0) (by omega) (by decide)
    refine ⟨fun x => f158 0 ?_, fun x => c_letter hW _ (by omega) (vkX13_isLike_154 hW (f158 _ ?_))⟩
    · rw [if_neg (by have := e0.mp x; omega)]
    · have : ¬ m / 4096 ≤ 0 := fun q => x (e0.mpr q)
      rw [if_pos (by omega)]
  have f121 : ∀ b8 : Bool, ¬ lmn P T m form a → (b8 = true ↔ bec T form a n) → X 121 0 0 [.ref 55, .int (nI m), .int (nI (a + n - 1)), .int (bI b8), .int (nI (lsq T form a n))] [] M := fun b8 h hb8 => l121 _ _ _ _ _ ⟨rfl, vX13_isLike_121 hW (f136 false b8 ⟨fun q => absurd q (by decide), fun q => absurd q h⟩ hb8)⟩
  have f91 : ∀ b8 : Bool, (b8 = true ↔ bec T form a n) → X 91 0 0 [.ref 55, .int (nI m), .int (nI form), .int (nI a), .int (nI (kd (P.1 (m % 64)))), .int (nI (a + n - 1)), .int (bI b8)] [.int (nI (lsq T form a n))] M := by
    intro b8 hb8
    have f3 := nI_eq (a := form) (b := 3) (by omega) (by decide)
    have k1 := nI_eq (a := kd (P.1 (m % 64))) (b := 1) (by omega) (by decide)
    have ea := tl a (by omega)
    have el := ltr_lt (kd (P.1 (m % 64)))
    have lt := nI_eq (a := ltr (kd (P.1 (m % 64)))) (b := T a) (by omega) (by omega)
    refine l91 _ _ _ _ _ ⟨rfl, vX13_isLike_91 hW ⟨fun x => ⟨fun u => f121 b8 ?_ hb8, fun u => c_letter hW _ (by omega) (vkX13_isLike_109 hW (c_sign hW hT (by omega) (vkX13_isLike_114 hW ⟨fun w => f136 true b8 ⟨fun _ => ?_, fun _ => rfl⟩ hb8, fun w => f121 b8 ?_ hb8⟩)))⟩, fun x => ⟨fun u => f136 true b8 ⟨fun _ => ?_, fun _ => rfl⟩ hb8, fun u => f136 false b8 ⟨fun q => absurd q (by decide), fun q => ?_⟩ hb8⟩⟩⟩
    · unfold lmn; rw [if_pos (f3.mp x)]
      exact fun q => q.1 (k1.mp u)
    · unfold lmn; rw [if_pos (f3.mp x)]
      exact ⟨fun q => u (k1.mpr q), lt.mp w⟩
    · unfold lmn; rw [if_pos (f3.mp x)]
      exact fun q => w (lt.mpr q.2)
    · unfold lmn; rw [if_neg (fun q => x (f3.mpr q))]
      exact k1.mp u
    · unfold lmn at q; rw [if_neg (fun q => x (f3.mpr q))] at q
      exact absurd (k1.mpr q) u
  have f73 : ∀ b8 : Bool, (b8 = true ↔ bec T form a n) → X 73 0 0 [.ref 55, .int (nI m), .int (nI form), .int (nI a), .int (nI (kd (P.1 (m % 64)))), .int (nI (a + n - 1))] [.int (bI b8)] M := by
    intro b8 hb8
    have z := f91 b8 hb8
    refine l73 _ _ _ _ _ ⟨rfl, vX13_isLike_73 hW ⟨fun x => ?_, fun x => ?_⟩⟩
    · rw [show nI (a + n - 1) - (1 : Int32) = nI (a + n - 1 - 1) from pk_sub (a := a + n - 1) (b := 1) (by omega)]
      unfold lsq at z
      rw [if_neg (fun q => by rw [bI_0, hb8.mpr q] at x; exact absurd x (by decide))] at z
      exact z
    · have hbe := hb8.mp (bI_n.mp x)
      have := hn3 hbe
      rw [show nI (a + n - 1) - (2 : Int32) = nI (a + n - 1 - 2) from pk_sub (a := a + n - 1) (b := 2) (by omega)]
      unfold lsq at z
      rw [if_pos hbe] at z
      exact z
  have f72 : ¬ bec T form a n → X 72 0 0 [.ref 55, .int (nI m), .int (nI form), .int (nI a), .int (nI (kd (P.1 (m % 64)))), .int (nI (a + n - 1))] [] M := fun h => l72 _ _ _ _ _ ⟨rfl, vX13_isLike_72 hW (f73 false ⟨fun q => absurd q (by decide), fun q => absurd q h⟩)⟩
  rw [nI_clamp (by omega), hB]
  refine ⟨vp_in_nI (by omega) (by omega), c_kindOf hW _ (by omega) (vkX13_isLike_41 hW ?_)⟩
  rw [nI_add, show nI (a + n) - (1 : Int32) = nI (a + n - 1) from pk_sub (a := a + n) (b := 1) (by omega)]
  have f4 := nI_eq (a := form) (b := 4) (by omega) (by decide)
  have tl1 := tl (a + n - 1) (by omega)
  exact ⟨fun x => c_sign hW hT (by omega) (vkX13_isLike_62 hW (c_isOfficer hW _ (by omega) (fun u => vkX13_isLike_65 hW ⟨fun w => absurd w (by decide), fun _ => f73 true ⟨fun _ => ⟨f4.mp x, u⟩, fun _ => rfl⟩⟩) (fun u => vkX13_isLike_65 hW ⟨fun _ => f72 (fun q => u q.2), fun w => absurd rfl w⟩))), fun x => f72 (fun q => x (f4.mpr q.1))⟩
