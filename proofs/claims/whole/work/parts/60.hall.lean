/-! THE HALL: one state that the reference and the class both stand for; tape and submit of the reference -/
abbrev Ah : Type := (Nat → Nat) × Nat × Bool × Gm × Nat × Int × Nat
abbrev aT (A : Ah) : Nat → Nat := A.1
abbrev aN (A : Ah) : Nat := A.2.1
abbrev aTh (A : Ah) : Bool := A.2.2.1
abbrev aG (A : Ah) : Gm := A.2.2.2.1
abbrev aFa (A : Ah) : Nat := A.2.2.2.2.1
abbrev aFm (A : Ah) : Int := A.2.2.2.2.2.1
abbrev aTk (A : Ah) : Nat := A.2.2.2.2.2.2
/-- what holds of the state -/
def aOk (A : Ah) : Prop := (∀ i, aT A i < 256) ∧ (aN A ≤ 8160 ∧ aN A % 20 = 0) ∧ (aTh A = true → gmOk (aG A)) ∧ aFa A ≤ 24 ∧ (-1 ≤ aFm A ∧ aFm A < 601) ∧ aTk A < 2 ^ 20
/-- the reference's memory stands for the state -/
def rRef (M : zM) (A : Ah) : Prop := zFix M ∧ M.1 55 2 = nI (aN A) ∧ (∀ i, i < 8200 → M.1 56 i = sb (aT A i)) ∧ M.1 55 7 = bI (aTh A) ∧ M.1 55 3 = nI (aFa A) ∧ M.1 55 4 = iI (aFm A) ∧ M.1 55 5 = nI (aTk A) ∧ ∃ g, g ≤ 1 ∧ M.1 55 6 = nI g ∧ (aTh A = true → rGm M g (aG A).1 (aG A).2.1 (aG A).2.2)
/-- all that the reference's calls write beside the tables of endings -/
abbrev rCs : List Nat := [55, 56, 57, 58, 59, 60, 61, 62, 63, 64, 65, 66, 67, 68, 69, 70]
/-- a byte of a number: as the reference takes it, and as the class does -/
theorem bv_byte (x : BitVec 32) (s : Nat) (hs : s ≤ 24) : (x.sshiftRight s).setWidth 8 = (BitVec.ofNat 32 (x.toNat / 2 ^ s % 256)).setWidth 8 := by
  apply BitVec.eq_of_getLsbD_eq
  intro i hi
  rw [BitVec.getLsbD_setWidth, BitVec.getLsbD_setWidth, BitVec.getLsbD_sshiftRight, BitVec.getLsbD_ofNat]
  have h1 : Nat.testBit (x.toNat / 2 ^ s % 256) i = Nat.testBit x.toNat (i + s) := by
    rw [show (256 : Nat) = 2 ^ 8 from rfl, Nat.testBit_mod_two_pow, Nat.testBit_div_two_pow]
    simp [hi]
  rw [h1]
  have h2 : x.getLsbD (i + s) = x.toNat.testBit (i + s) := rfl
  simp [hi, show s + i < 32 by omega, show i < 32 by omega, show ¬ 32 ≤ i by omega, Nat.add_comm]
  rfl
theorem rb_sb (x : Int32) (k : Nat) (hk : k < 4) : rb x k = sb (tb x k) := by
  unfold rb sb tb
  apply Int32.toBitVec_inj.mp
  have e : ((8 : Int32) * nI (3 - k)) &&& 31 = nI (24 - 8 * k) := by
    rcases (show k = 0 ∨ k = 1 ∨ k = 2 ∨ k = 3 by omega) with q | q | q | q <;> subst q <;> decide
  rw [e]
  have h := bv_byte x.toBitVec (24 - 8 * k) (by omega)
  have e3 : (x >>> nI (24 - 8 * k)).toBitVec = x.toBitVec.sshiftRight (24 - 8 * k) := by
    rcases (show k = 0 ∨ k = 1 ∨ k = 2 ∨ k = 3 by omega) with q | q | q | q <;> subst q <;> rfl
  simp only [Int8.toBitVec_toInt32, Int32.toBitVec_toInt8]
  have sx : ∀ y : BitVec 32, BitVec.signExtend 8 y = y.setWidth 8 := fun y => BitVec.signExtend_eq_setWidth_of_le y (by decide)
  rw [sx, sx, e3, h]
  rfl
/-- five numbers on the tape -/
def tpS (T : Nat → Nat) (n : Nat) (a b c d e : Int32) : Nat → Nat := fun i => if n ≤ i ∧ i < n + 20 then tb5 (x5 a b c d e) (i - n) else T i
def tapeA (A : Ah) (a b c d e : Int32) : Ah := (tpS (aT A) (aN A) a b c d e, aN A + 20, A.2.2)
set_option maxHeartbeats 4000000 in
theorem r_tape {mc ms : Nat} {M : zM} {A : Ah} (hR : rRef M A) (hA : aN A ≤ 8160) (a b c d e : Int32) {Q : zQt} (hq : ∀ N, zSm rCs M N → N.1 55 0 = 0 → rRef N (tapeA A a b c d e) → Q (some (.int 1)) N) : wX13_tape mc ms [.ref 55, .int a, .int b, .int c, .int d, .int e] M Q := by
  obtain ⟨hW, hn, hT, h7, h3, h4, h5, g, hg1, hg, hG⟩ := hR
  refine ⟨⟨Nat.le_of_ble_eq_true rfl, rfl⟩, fun X l0 => ?_⟩
  refine l0 _ _ _ _ _ ⟨rfl, vX13_tape_0 hW (fun M2 hM2 => ?_)⟩
  have s2 : zSm [55, 56] M M2 := by rw [hM2]; exact zSm.I (by decide)
  have n2 : M2.1 55 2 = nI (aN A) := by rw [hM2, zsI_n (by decide)]; exact hn
  have t2 : ∀ i, M2.1 56 i = M.1 56 i := fun i => by rw [hM2, zsI_o (by decide)]
  have v2 : ∀ j, j ≠ 0 → M2.1 55 j = M.1 55 j := fun j hj => by rw [hM2, zsI_n hj]
  have z2 : M2.1 55 0 = 0 := by rw [hM2, zsI_s]
  rw [n2]
  have el := nI_ltI (a := aN A) (b := 8180) (by omega) (by decide)
  refine ⟨fun _ => ?_, fun q => absurd (el.mpr (by omega)) q⟩
  obtain ⟨n, en⟩ : ∃ n, n = aN A := ⟨_, rfl⟩
  rw [← en] at n2 hA
  refine c_four (s2.fix hW) a n n2 (by omega) (fun K1 k1 j1 i1 => vkX13_tape_22 ((s2.tr k1).fix hW) ?_)
  refine c_four ((s2.tr k1).fix hW) b (n + 4) (by rw [j1, if_pos rfl]) (by omega) (fun K2 k2 j2 i2 => vkX13_tape_27 (((s2.tr k1).tr k2).fix hW) ?_)
  refine c_four (((s2.tr k1).tr k2).fix hW) c (n + 4 + 4) (by rw [j2, if_pos rfl]) (by omega) (fun K3 k3 j3 i3 => vkX13_tape_32 ((((s2.tr k1).tr k2).tr k3).fix hW) ?_)
  refine c_four ((((s2.tr k1).tr k2).tr k3).fix hW) d (n + 4 + 4 + 4) (by rw [j3, if_pos rfl]) (by omega) (fun K4 k4 j4 i4 => vkX13_tape_38 (((((s2.tr k1).tr k2).tr k3).tr k4).fix hW) ?_)
  refine c_four (((((s2.tr k1).tr k2).tr k3).tr k4).fix hW) e (n + 4 + 4 + 4 + 4) (by rw [j4, if_pos rfl]) (by omega) (fun K5 k5 j5 i5 => vkX13_tape_44 ((((((s2.tr k1).tr k2).tr k3).tr k4).tr k5).fix hW) ?_)
  have sa := ((((s2.tr k1).tr k2).tr k3).tr k4).tr k5
  have ja : ∀ j, j ≠ 0 → j ≠ 2 → K5.1 55 j = M.1 55 j := fun j h0 h2 => by rw [j5, if_neg h2, j4, if_neg h2, j3, if_neg h2, j2, if_neg h2, j1, if_neg h2, v2 j h0]
  refine hq K5 (sa.mono (by decide)) (by rw [j5, if_neg (by decide), j4, if_neg (by decide), j3, if_neg (by decide), j2, if_neg (by decide), j1, if_neg (by decide), z2]) ⟨sa.fix hW, ?_, fun i hi => ?_, ?_, ?_, ?_, ?_, g, hg1, ?_, fun h => rGm_sm sa (fun b b1 b2 w => by
    simp only [List.mem_cons, List.mem_nil_iff, or_false] at w
    omega) (hG h)⟩
  · rw [j5, if_pos rfl]
    show nI (n + 4 + 4 + 4 + 4 + 4) = nI (aN A + 20)
    rw [← en]
  · show K5.1 56 i = sb (tpS (aT A) (aN A) a b c d e i)
    rw [← en, i5, i4, i3, i2, i1, t2, hT i hi]
    unfold tpS tb5
    by_cases q : n ≤ i ∧ i < n + 20
    · rw [if_pos q]
      rcases (show i < n + 4 ∨ n + 4 ≤ i ∧ i < n + 8 ∨ n + 8 ≤ i ∧ i < n + 12 ∨ n + 12 ≤ i ∧ i < n + 16 ∨ n + 16 ≤ i by omega) with w | w | w | w | w
      · rw [if_neg (by omega), if_neg (by omega), if_neg (by omega), if_neg (by omega), if_pos (by omega), rb_sb _ _ (by omega), show (i - n) / 4 = 0 by omega, show (i - n) % 4 = i - n by omega]
        rfl
      · rw [if_neg (by omega), if_neg (by omega), if_neg (by omega), if_pos (by omega), rb_sb _ _ (by omega), show (i - n) / 4 = 1 by omega, show (i - n) % 4 = i - (n + 4) by omega]
        rfl
      · rw [if_neg (by omega), if_neg (by omega), if_pos (by omega), rb_sb _ _ (by omega), show (i - n) / 4 = 2 by omega, show (i - n) % 4 = i - (n + 4 + 4) by omega]
        rfl
      · rw [if_neg (by omega), if_pos (by omega), rb_sb _ _ (by omega), show (i - n) / 4 = 3 by omega, show (i - n) % 4 = i - (n + 4 + 4 + 4) by omega]
        rfl
      · rw [if_pos (by omega), rb_sb _ _ (by omega), show (i - n) / 4 = 4 by omega, show (i - n) % 4 = i - (n + 4 + 4 + 4 + 4) by omega]
        rfl
    · rw [if_neg q, if_neg (by omega), if_neg (by omega), if_neg (by omega), if_neg (by omega), if_neg (by omega)]
  · rw [ja 7 (by decide) (by decide)]; exact h7
  · rw [ja 3 (by decide) (by decide)]; exact h3
  · rw [ja 4 (by decide) (by decide)]; exact h4
  · rw [ja 5 (by decide) (by decide)]; exact h5
  · rw [ja 6 (by decide) (by decide)]; exact hg
/-- what submit makes of the state -/
noncomputable def refA (A : Ah) (k : Nat) (m : Int) : Int × Ah := (-1, (aT A, 0, aTh A, aG A, k, m, aTk A))
noncomputable def subG (A : Ah) (e : Nat) (x : Nat × Nat × Ps) : Int × Ah := 
  if x.1 ≠ 0 then refA A x.1 (-1) else if rcF x.2.2 ≠ 0 then refA A (rcF x.2.2) (-1) else
    if 0 < (rmS (aT A) e e x.2.1 (1, fun _ => x.2.2, fun _ => -1)).1 then refA A (rmS (aT A) e e x.2.1 (1, fun _ => x.2.2, fun _ => -1)).1 ((rmS (aT A) e e x.2.1 (1, fun _ => x.2.2, fun _ => -1)).2.1 - 1 : Nat)
    else (((rmS (aT A) e e x.2.1 (1, fun _ => x.2.2, fun _ => -1)).2.1 - 1 : Nat), (aT A, 0, true, (rmS (aT A) e e x.2.1 (1, fun _ => x.2.2, fun _ => -1)).2, 0, -1, aTk A + 1))
def subE (A : Ah) (k : Nat) : Nat := if aN A = 0 then 0 else aN A - 20 + k
noncomputable def subA (A : Ah) (k : Nat) : Int × Ah := subG A (subE A k) (fdS (aT A) (subE A k) 0)
