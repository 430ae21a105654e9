/-! LAYER 2. The memory: what a write leaves, what a method may change -/
theorem zsI_at (M : zM) (a j : Nat) (v : Int32) (b i : Nat) : (zsI M a j v).1 b i = if b = a ∧ i = j then v else M.1 b i := by
  show z2 M.1 a j v b i = _
  unfold z2
  by_cases h : b = a
  · by_cases h2 : i = j
    · rw [if_pos h, if_pos h2, if_pos ⟨h, h2⟩]
    · rw [if_pos h, if_neg h2, if_neg (fun q => h2 q.2)]
  · rw [if_neg h, if_neg (fun q => h q.1)]
theorem zsJ_at (M : zM) (a j : Nat) (v : Int64) (b i : Nat) : (zsJ M a j v).2.1 b i = if b = a ∧ i = j then v else M.2.1 b i := by
  show z2 M.2.1 a j v b i = _
  unfold z2
  by_cases h : b = a
  · by_cases h2 : i = j
    · rw [if_pos h, if_pos h2, if_pos ⟨h, h2⟩]
    · rw [if_pos h, if_neg h2, if_neg (fun q => h2 q.2)]
  · rw [if_neg h, if_neg (fun q => h q.1)]
theorem zsI_row (M : zM) (a j : Nat) (v : Int32) : (zsI M a j v).1 a = fun i => if i = j then v else M.1 a i := z2_same _ _ _ _
theorem zsJ_row (M : zM) (a j : Nat) (v : Int64) : (zsJ M a j v).2.1 a = fun i => if i = j then v else M.2.1 a i := z2_same _ _ _ _
/-- only these cells' ints and longs have changed; references and shapes stand -/
def zSm (L : List Nat) (M N : zM) : Prop := N.2.2 = M.2.2 ∧ ∀ b, b ∉ L → N.1 b = M.1 b ∧ N.2.1 b = M.2.1 b
theorem zSm.rf {L : List Nat} {M : zM} : zSm L M M := ⟨rfl, fun _ _ => ⟨rfl, rfl⟩⟩
theorem zSm.I {L : List Nat} {M : zM} {a j : Nat} {v : Int32} (h : a ∈ L) : zSm L M (zsI M a j v) := ⟨rfl, fun b hb => ⟨z2_off _ _ _ (fun e => hb (e ▸ h)), rfl⟩⟩
theorem zSm.J {L : List Nat} {M : zM} {a j : Nat} {v : Int64} (h : a ∈ L) : zSm L M (zsJ M a j v) := ⟨rfl, fun b hb => ⟨rfl, z2_off _ _ _ (fun e => hb (e ▸ h))⟩⟩
theorem zSm.tr {L : List Nat} {M N K : zM} (h1 : zSm L M N) (h2 : zSm L N K) : zSm L M K := ⟨h2.1.trans h1.1, fun b hb => ⟨((h2.2 b hb).1).trans (h1.2 b hb).1, ((h2.2 b hb).2).trans (h1.2 b hb).2⟩⟩
theorem zSm.mono {L K : List Nat} {M N : zM} (h : zSm L M N) (hL : ∀ b ∈ L, b ∈ K) : zSm K M N := ⟨h.1, fun b hb => h.2 b (fun q => hb (hL b q))⟩
theorem zSm.fix {L : List Nat} {M N : zM} (h : zSm L M N) (hF : zFix M) : zFix N := by
  unfold zFix at hF ⊢
  rw [h.1]
  exact hF
theorem zSm.wd {L : List Nat} {M N : zM} {g : Nat} (h : zSm L M N) (hW : zWd M g) : zWd N g := ⟨h.fix hW.1, hW.2⟩
theorem zSm.i {L : List Nat} {M N : zM} (h : zSm L M N) {b : Nat} (hb : b ∉ L) : N.1 b = M.1 b := (h.2 b hb).1
theorem zSm.j {L : List Nat} {M N : zM} (h : zSm L M N) {b : Nat} (hb : b ∉ L) : N.2.1 b = M.2.1 b := (h.2 b hb).2
/-! bytes of a number -/
/-- byte k (0 the highest) of a number -/
def tb (n : Int32) (k : Nat) : Nat := n.toBitVec.toNat / 2 ^ (24 - 8 * k) % 256
theorem tb_lt (n : Int32) (k : Nat) : tb n k < 256 := Nat.mod_lt _ (by decide)
/-- what the class puts on its tape -/
theorem tb_char (n : Int32) (k : Nat) (hk : k < 4) : vp_nar .char ((((((n.toUInt32 >>> (((24 : Int32) - ((8 : Int32) * nI k)).toUInt32 &&& Int32.toUInt32 31)).toInt32) &&& (255 : Int32)).toUInt32 % 65536).toInt32)) = nI (tb n k) := by
  have hs : (((24 : Int32) - ((8 : Int32) * nI k)).toUInt32 &&& Int32.toUInt32 31).toBitVec.toNat % 32 = 24 - 8 * k := by
    rcases (show k = 0 ∨ k = 1 ∨ k = 2 ∨ k = 3 by omega) with rfl | rfl | rfl | rfl <;> decide
  have h1 := pk_ushr n ((24 : Int32) - ((8 : Int32) * nI k)) (24 - 8 * k) (by
    rcases (show k = 0 ∨ k = 1 ∨ k = 2 ∨ k = 3 by omega) with rfl | rfl | rfl | rfl <;> decide)
  rw [pk_and _ (m := 255) 8 (by decide), h1]
  have h2 : n.toBitVec.toNat / 2 ^ (24 - 8 * k) % 2 ^ 8 = tb n k := rfl
  rw [h2, pk_char, pk_tn (by have := tb_lt n k; omega), Nat.mod_eq_of_lt (by have := tb_lt n k; omega)]
  have h3 := (pk_charN (q := tb n k) (by have := tb_lt n k; omega)).1
  unfold vp_nar
  rw [h3]
