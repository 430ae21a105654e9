/-! FRAMES; THE HELPERS' CONTRACTS -/
theorem cFr.x {M N : zM} (h : cFr M N) (hN : zFix N) : xFr cCs M N := by
  refine ⟨hN, fun b sh hb => by unfold zsh at hb ⊢; rw [h.1]; exact hb, by rw [h.1]; exact Nat.le_refl _, fun b hb _ => ⟨(h.2.2 b hb).1, (h.2.2 b hb).2, ?_⟩⟩
  funext j
  exact h.2.1 b j (fun q => hb (by rw [q.1]; decide))
theorem ex_x {M : zM} (hW : zFix M) (n : Nat) : xFr [] M (zEx M n) := by
  refine ⟨⟨fun k sh hk => ?_, hW.2⟩, fun b sh hb => ?_, ?_, fun b _ _ => ⟨rfl, rfl, rfl⟩⟩
  · have h1 := hW.1 k sh hk
    show (M.2.2.2 ++ _)[k]? = _
    rw [List.getElem?_append_left (List.getElem?_eq_some_iff.mp h1).1]
    exact h1
  · unfold zsh at hb ⊢
    show (M.2.2.2 ++ _)[b]? = _
    rw [List.getElem?_append_left (List.getElem?_eq_some_iff.mp hb).1]
    exact hb
  · show M.2.2.2.length ≤ (M.2.2.2 ++ _).length
    rw [List.length_append]; omega
def ot (M : zM) (y : Int64) : zM := zsJ M 81 (0 : Int32).toNatClampNeg y
theorem ot_x {M : zM} (hW : zFix M) (y : Int64) : xFr [81] M (ot M y) := xFr.of (L := [81]) (zSm.J (by decide)) (fun b h => h) hW
theorem ot_s {M : zM} {y : Int64} : (ot M y).2.1 81 (0 : Int32).toNatClampNeg = y := zsJ_s
theorem t_R {C : List Nat} {M N : zM} {A : Ah} {kn : Nat → Bool} (hW : zFix M) (f : xFr C M N) (hC : ∀ b ∈ C, b < 55 ∨ 75 < b ∧ b < 82) (h : rRef M A ∧ eKn M kn) : rRef N A ∧ eKn N kn := by
  refine ⟨h.1.fr f (fun b hb => by have := hC b hb; omega), h.2.fr hW f ⟨fun b hb => by have := hC b hb; omega, ?_, ?_, ?_, ?_, ?_⟩⟩ <;> (intro q; have := hC _ q; omega)
theorem t_C {C : List Nat} {M N : zM} {A : Ah} {kn : Nat → Bool} (f : xFr C M N) (hC : ∀ b ∈ C, 55 ≤ b ∧ b < 82) (h : cHal M A ∧ cKn M kn) : cHal N A ∧ cKn N kn := by
  have hW := h.1.1
  refine ⟨h.1.fr f ⟨fun q => by have := hC _ q; omega, fun q => by have := hC _ q; omega, fun b b1 b2 q => by have := hC _ q; omega⟩ (fun g hg _ _ hG => hG.fr ⟨hW, hg⟩ f (fun b hb => by have := hC b hb; omega)), h.2.fr hW f ⟨fun b hb => (hC b hb).2, fun q => by have := hC _ q; omega⟩⟩
theorem t_K {C : List Nat} {M N : zM} {kn : Nat → Bool} (hW : zFix M) (f : xFr C M N) (hC : ∀ b ∈ C, b < 82 ∧ b ≠ 34) (h : cKn M kn) : cKn N kn := h.fr hW f ⟨fun b hb => (hC b hb).1, fun q => (hC _ q).2 rfl⟩
theorem t_o {C : List Nat} {M N : zM} (hW : zFix M) (f : xFr C M N) (hC : 81 ∉ C) : N.2.1 81 = M.2.1 81 := (f.i2 hW hC (by decide)).2.1
theorem c_thrown {mc ms : Nat} {M : zM} (hW : zFix M) {Q : zQt} (hq : Q (some (.int (M.1 55 0))) M) : wX13_thrown mc ms [.ref 55] M Q :=
  ⟨⟨Nat.le_of_ble_eq_true rfl, rfl⟩, fun X l0 => l0 _ _ _ _ _ ⟨rfl, vX13_thrown_0 hW hq⟩⟩
theorem lg_self (x : Int64) : lg_cmp x x = 0 := by
  unfold lg_cmp
  rw [if_neg (by simp), if_pos rfl]
theorem i32_ex (x : Int32) : ∃ z : Int, i32 z ∧ x = iI z := ⟨x.toInt, ⟨x.le_toInt, x.toInt_lt⟩, (Int32.ofInt_toInt x).symm⟩
theorem kt_legalMove {mc ms : Nat} {M : zM} {A : Ah} (hK : cHal M A) (hO : aOk A) {z : Int} (hz : i32 z) (hL : inL A z) {Q : zQt} {EX : zEt} (hq : Q (some (.int (nI (mvAt (aG A) z)))) M) : wtX11_legalMove mc ms [.ref 16, .int (iI z)] M Q EX := by
  refine ⟨⟨Nat.le_of_ble_eq_true rfl, rfl⟩, fun X l0 => ?_⟩
  have hW := hK.wd
  refine l0 _ _ _ _ _ ⟨rfl, vtX11_legalMove_0 hW (c_hasPlace hK hO hz (fun _ => vktX11_legalMove_5 hW ⟨fun w => absurd w (by decide), fun _ => ?_⟩) (fun h => absurd hL h))⟩
  obtain ⟨g, hg, h6, Wg, gG, oG⟩ := hK.game hO hL.1
  have hLen := Gd_len oG.last.1
  obtain ⟨hmem, hget⟩ := mvAt_mem (G := aG A) hL.2.1 hL.2.2
  have h1 := hL.2.1
  have h2 := hL.2.2
  refine ⟨g, h6, fgs_0 Wg, g + 7, 384, fgr_0_2 Wg, fgs_7 Wg, ?_⟩
  rw [iz_nat h1, nI_clamp (by omega), gG.2.1.2 z.toNat _ hget]
  exact ⟨vp_in_nI (by omega) (by omega), hq⟩
theorem kt_historyOf {mc ms : Nat} {M : zM} {A : Ah} (hK : cHal M A) (hO : aOk A) {z w : Int} (hz : i32 z) (hw : i32 w) (hH : inH A z w) {Q : zQt} {EX : zEt} (hq : Q (some (.int (hsV (aG A) z.toNat w.toNat))) M) : wtX11_historyOf mc ms [.ref 16, .int (iI z), .int (iI w)] M Q EX := by
  refine ⟨⟨Nat.le_of_ble_eq_true rfl, rfl⟩, fun X l0 l32 => ?_⟩
  have hW := hK.wd
  obtain ⟨ht, z0, zl, w0, w8⟩ := hH
  obtain ⟨g, hg, h6, Wg, gG, oG⟩ := hK.game hO ht
  have h601 := oG.2.1
  have n0 := iz_lt hz (n := 0) (by decide)
  have nl := iz_ge hz (n := (aG A).1) (by omega)
  have m0 := iz_lt hw (n := 0) (by decide)
  have m8 := iz_lt hw (n := 8) (by decide)
  refine l0 _ _ _ _ _ ⟨rfl, vtX11_historyOf_0 hW ⟨fun u => absurd u (nth_8 hK ht), fun _ => ⟨fun u => absurd (n0.mp u) (by omega), fun _ => ⟨g, h6, fgs_0 Wg, ?_⟩⟩⟩⟩
  rw [gG.2.2.1]
  refine ⟨fun u => absurd (nl.mp u) (by omega), fun _ => ⟨fun u => absurd (m0.mp u) (by omega), fun _ => ⟨fun _ => ⟨g, h6, fgs_0 Wg, g + 8, 4808, fgr_0_5 Wg, fgs_8 Wg, ?_⟩, fun u => absurd (m8.mpr (by omega)) u⟩⟩⟩
  rw [iz_nat z0, iz_nat w0, show nI z.toNat * (8 : Int32) = nI (8 * z.toNat) from by rw [Nat.mul_comm 8 _]; exact pk_mul _ 8, nI_add, nI_clamp (by omega), (gG.2.2.2.2.1 z.toNat (by omega)).1 w.toNat (by omega)]
  exact ⟨vp_in_nI (by omega) (by omega), hq⟩
theorem hk_submit {mc ms u v : Nat} {X : Nat → zV} {Q : zQt} {M : zM} {lv : List (Option Value)} {y : Int32} (hW : zFix M) (hq : Q (some (.int 0)) (ot M (Int32.toInt64 y))) : kL_submit_7 mc ms X Q u v lv [.int y, .int 0, .ref 81] M := ⟨1, fxs_81 hW, by unfold vp_in; decide, hq⟩
theorem hk_proceed {mc ms u v : Nat} {X : Nat → zV} {Q : zQt} {M : zM} {lv : List (Option Value)} {y : Int32} (hW : zFix M) (hq : Q (some (.int 0)) (ot M (Int32.toInt64 y))) : kL_proceed_7 mc ms X Q u v lv [.int y, .int 0, .ref 81] M := ⟨1, fxs_81 hW, by unfold vp_in; decide, hq⟩
theorem hk_legalMove {mc ms u v : Nat} {X : Nat → zV} {Q : zQt} {M : zM} {lv : List (Option Value)} {y : Int32} (hW : zFix M) (hq : Q (some (.int 0)) (ot M (Int32.toInt64 y))) : kL_legalMove_7 mc ms X Q u v lv [.int y, .int 0, .ref 81] M := ⟨1, fxs_81 hW, by unfold vp_in; decide, hq⟩
theorem hk_spelling {mc ms u v : Nat} {X : Nat → zV} {Q : zQt} {M : zM} {lv : List (Option Value)} {y : Int64} (hW : zFix M) (hq : Q (some (.int 0)) (ot M y)) : kL_spelling_7 mc ms X Q u v lv [.long y, .int 0, .ref 81] M := ⟨1, fxs_81 hW, by unfold vp_in; decide, hq⟩
theorem hk_linesTo {mc ms u v : Nat} {X : Nat → zV} {Q : zQt} {M : zM} {lv : List (Option Value)} {y : Int64} (hW : zFix M) (hq : Q (some (.int 0)) (ot M y)) : kL_linesTo_7 mc ms X Q u v lv [.long y, .int 0, .ref 81] M := ⟨1, fxs_81 hW, by unfold vp_in; decide, hq⟩
theorem hk_valueAt {mc ms u v : Nat} {X : Nat → zV} {Q : zQt} {M : zM} {lv : List (Option Value)} {y : Int32} (hW : zFix M) (hq : Q (some (.int 0)) (ot M (Int32.toInt64 y))) : kL_valueAt_7 mc ms X Q u v lv [.int y, .int 0, .ref 81] M := ⟨1, fxs_81 hW, by unfold vp_in; decide, hq⟩
theorem hk_bestAt {mc ms u v : Nat} {X : Nat → zV} {Q : zQt} {M : zM} {lv : List (Option Value)} {y : Int32} (hW : zFix M) (hq : Q (some (.int 0)) (ot M (Int32.toInt64 y))) : kL_bestAt_7 mc ms X Q u v lv [.int y, .int 0, .ref 81] M := ⟨1, fxs_81 hW, by unfold vp_in; decide, hq⟩
theorem hk_distanceToMate {mc ms u v : Nat} {X : Nat → zV} {Q : zQt} {M : zM} {lv : List (Option Value)} {y : Int32} (hW : zFix M) (hq : Q (some (.int 0)) (ot M (Int32.toInt64 y))) : kL_distanceToMate_6 mc ms X Q u v lv [.int y, .int 0, .ref 81] M := ⟨1, fxs_81 hW, by unfold vp_in; decide, hq⟩
theorem hk_matingMove {mc ms u v : Nat} {X : Nat → zV} {Q : zQt} {M : zM} {lv : List (Option Value)} {y : Int32} (hW : zFix M) (hq : Q (some (.int 0)) (ot M (Int32.toInt64 y))) : kL_matingMove_6 mc ms X Q u v lv [.int y, .int 0, .ref 81] M := ⟨1, fxs_81 hW, by unfold vp_in; decide, hq⟩
theorem hk_historyOf {mc ms u v : Nat} {X : Nat → zV} {Q : zQt} {M : zM} {lv : List (Option Value)} {y : Int32} (hW : zFix M) (hq : Q (some (.int 0)) (ot M (Int32.toInt64 y))) : kL_historyOf_8 mc ms X Q u v lv [.int y, .int 0, .ref 81] M := ⟨1, fxs_81 hW, by unfold vp_in; decide, hq⟩
theorem q_submit {mc ms : Nat} (hc : 1 ≤ mc) (hs : 6 ≤ ms) {M : zM} {A : Ah} (hK : cHal M A) (hO : aOk A) {z : Int} (hz : i32 z) {Q : zQt} (qn : ∀ k N, z = (k : Nat) → 1 ≤ k → k ≤ 20 → cFr M N → cHal N (subA A k).2 → Q (some (.int 0)) (ot N (iI (subA A k).1).toInt64)) (qx : (z < 1 ∨ 20 < z) → ∀ n, Q (some (.int 1)) (zEx M n)) : wL_submit mc ms [.ref 16, .int (iI z), .ref 81] M Q := by
  refine ⟨⟨Nat.le_of_ble_eq_true rfl, rfl⟩, fun X l0 => l0 _ _ _ _ _ ⟨rfl, ⟨Nat.le_of_ble_eq_true rfl, rfl, fxs_16 hK.1, mc, ms, by omega, by omega, ?_⟩⟩⟩
  by_cases q : z < 1 ∨ 20 < z
  · exact Or.inr (t_submit hc hs hK hz q (fun n => ⟨1, by simp, qx q n⟩))
  · refine Or.inl ?_
    rw [iz_nat (z := z) (by omega)]
    exact k_submit hK hO (k := z.toNat) (by omega) (by omega) (fun N f hN => hk_submit hN.1 (qn z.toNat N (by omega) (by omega) (by omega) f hN))
theorem q_proceed {mc ms : Nat} (hc : 1 ≤ mc) (hs : 6 ≤ ms) {M : zM} {A : Ah} (hK : cHal M A) (hO : aOk A) {z : Int} (hz : i32 z) {Q : zQt} (qn : ∀ N, (proA A z).1 = 0 → cFr M N → cHal N (proA A z).2.2 → Q (some (.int 0)) (ot N (nI (proA A z).2.1).toInt64)) (qx : ∀ k n, (proA A z).1 = k → k ≠ 0 → k ≤ 2 → (proA A z).2.2 = A → Q (some (.int (nI k))) (zEx M n)) : wL_proceed mc ms [.ref 16, .int (iI z), .ref 81] M Q := by
  refine ⟨⟨Nat.le_of_ble_eq_true rfl, rfl⟩, fun X l0 => l0 _ _ _ _ _ ⟨rfl, ⟨Nat.le_of_ble_eq_true rfl, rfl, fxs_16 hK.1, mc, ms, by omega, by omega, ?_⟩⟩⟩
  have key : (proA A z).1 = 0 ∨ ((proA A z).1 = 1 ∧ (proA A z).2.2 = A) ∨ ((proA A z).1 = 2 ∧ (proA A z).2.2 = A) := by
    unfold proA
    split
    · exact Or.inr (Or.inl ⟨rfl, rfl⟩)
    · split
      · exact Or.inr (Or.inr ⟨rfl, rfl⟩)
      · exact Or.inl rfl
  rcases key with q | q | q
  · exact Or.inl (k_proceed hK hO hz q (fun N f hN => hk_proceed hN.1 (qn N q f hN)))
  · exact Or.inr (t_proceed hc hs hK hO hz (Or.inl ⟨q.1, fun n => ⟨1, by simp, qx 1 n q.1 (by decide) (by decide) q.2⟩⟩))
  · exact Or.inr (t_proceed hc hs hK hO hz (Or.inr ⟨q.1, fun n => ⟨2, by simp, qx 2 n q.1 (by decide) (by decide) q.2⟩⟩))
theorem q_legalMove {mc ms : Nat} (hc : 1 ≤ mc) (hs : 6 ≤ ms) {M : zM} {A : Ah} (hK : cHal M A) (hO : aOk A) {z : Int} (hz : i32 z) {Q : zQt} (qn : inL A z → Q (some (.int 0)) (ot M (nI (mvAt (aG A) z)).toInt64)) (qx : ¬ inL A z → ∀ n, Q (some (.int 1)) (zEx M n)) : wL_legalMove mc ms [.ref 16, .int (iI z), .ref 81] M Q := by
  refine ⟨⟨Nat.le_of_ble_eq_true rfl, rfl⟩, fun X l0 => l0 _ _ _ _ _ ⟨rfl, ⟨Nat.le_of_ble_eq_true rfl, rfl, fxs_16 hK.1, mc, ms, by omega, by omega, ?_⟩⟩⟩
  by_cases q : inL A z
  · exact kt_legalMove hK hO hz q (hk_legalMove hK.1 (qn q))
  · exact t_legalMove hc hs hK hO hz q (fun n => ⟨1, by simp, qx q n⟩)
theorem q_spelling {mc ms : Nat} (hc : 1 ≤ mc) (hs : 6 ≤ ms) {M : zM} {A : Ah} (hK : cHal M A) (hO : aOk A) {z : Int} (hz : i32 z) {Q : zQt} (qn : ∀ N, inL A z → cFr M N → cHal N A → Q (some (.int 0)) (ot N (jN (pk8 (spl (lst (aG A)) (mvAt (aG A) z) ++ sgl (lst (aG A)) (mvAt (aG A) z)) 0 8)))) (qx : ¬ inL A z → ∀ n, Q (some (.int 1)) (zEx M n)) : wL_spelling mc ms [.ref 16, .int (iI z), .ref 81] M Q := by
  refine ⟨⟨Nat.le_of_ble_eq_true rfl, rfl⟩, fun X l0 => l0 _ _ _ _ _ ⟨rfl, ⟨Nat.le_of_ble_eq_true rfl, rfl, fxs_16 hK.1, mc, ms, by omega, by omega, ?_⟩⟩⟩
  by_cases q : inL A z
  · exact Or.inl (k_spelling hK hO hz q (fun N f hN => hk_spelling hN.1 (qn N q f hN)))
  · exact Or.inr (t_spelling hc hs hK hO hz q (fun n => ⟨1, by simp, qx q n⟩))
theorem q_linesTo {mc ms : Nat} (hc : 1 ≤ mc) (hs : 6 ≤ ms) {M : zM} {A : Ah} (hK : cHal M A) (hO : aOk A) {z : Int} (hz : i32 z) {Q : zQt} (qn : ∀ N, (lnA A z).1 = 0 → cFr M N → cHal N A → Q (some (.int 0)) (ot N (jN (lnA A z).2))) (qx : ∀ k n, (lnA A z).1 = k → k ≠ 0 → k ≤ 2 → Q (some (.int (nI k))) (zEx M n)) : wL_linesTo mc ms [.ref 16, .int (iI z), .ref 81] M Q := by
  refine ⟨⟨Nat.le_of_ble_eq_true rfl, rfl⟩, fun X l0 => l0 _ _ _ _ _ ⟨rfl, ⟨Nat.le_of_ble_eq_true rfl, rfl, fxs_16 hK.1, mc, ms, by omega, by omega, ?_⟩⟩⟩
  have key : (lnA A z).1 = 0 ∨ (lnA A z).1 = 1 ∨ (lnA A z).1 = 2 := by
    unfold lnA
    split
    · exact Or.inr (Or.inl rfl)
    · split
      · exact Or.inr (Or.inr rfl)
      · exact Or.inl rfl
  rcases key with q | q | q
  · exact Or.inl (k_linesTo hK hO hz q (fun N f hN => hk_linesTo hN.1 (qn N q f hN)))
  · exact Or.inr (t_linesTo hc hs hK hO hz (Or.inl ⟨q, fun n => ⟨1, by simp, qx 1 n q (by decide) (by decide)⟩⟩))
  · exact Or.inr (t_linesTo hc hs hK hO hz (Or.inr ⟨q, fun n => ⟨2, by simp, qx 2 n q (by decide) (by decide)⟩⟩))
theorem wd_key (A : Ah) (z : Int) : wdA A z = 0 ∨ wdA A z = 1 ∨ wdA A z = 2 := by
  unfold wdA
  split
  · exact Or.inr (Or.inl rfl)
  · split
    · exact Or.inr (Or.inr rfl)
    · exact Or.inl rfl
theorem q_valueAt {mc ms : Nat} (hc : 1 ≤ mc) (hs : 6 ≤ ms) {M : zM} {A : Ah} (hK : cHal M A) (hO : aOk A) {z : Int} (hz : i32 z) {Q : zQt} (qn : ∀ N, wdA A z = 0 → cFr M N → cHal N A → Q (some (.int 0)) (ot N (iI (val z.toNat (lst (aG A)))).toInt64)) (qx : ∀ k n, wdA A z = k → k ≠ 0 → k ≤ 2 → Q (some (.int (nI k))) (zEx M n)) : wL_valueAt mc ms [.ref 16, .int (iI z), .ref 81] M Q := by
  refine ⟨⟨Nat.le_of_ble_eq_true rfl, rfl⟩, fun X l0 => l0 _ _ _ _ _ ⟨rfl, ⟨Nat.le_of_ble_eq_true rfl, rfl, fxs_16 hK.1, mc, ms, by omega, by omega, ?_⟩⟩⟩
  rcases wd_key A z with q | q | q
  · exact Or.inl (k_valueAt hK hO hz q (fun N f hN => hk_valueAt hN.1 (qn N q f hN)))
  · exact Or.inr (t_valueAt hc hs hK hO hz (Or.inl ⟨q, fun n => ⟨1, by simp, qx 1 n q (by decide) (by decide)⟩⟩))
  · exact Or.inr (t_valueAt hc hs hK hO hz (Or.inr ⟨q, fun n => ⟨2, by simp, qx 2 n q (by decide) (by decide)⟩⟩))
theorem q_bestAt {mc ms : Nat} (hc : 1 ≤ mc) (hs : 6 ≤ ms) {M : zM} {A : Ah} (hK : cHal M A) (hO : aOk A) {z : Int} (hz : i32 z) {Q : zQt} (qn : ∀ N, wdA A z = 0 → cFr M N → cHal N A → Q (some (.int 0)) (ot N (iI (bstS z.toNat (lst (aG A)))).toInt64)) (qx : ∀ k n, wdA A z = k → k ≠ 0 → k ≤ 2 → Q (some (.int (nI k))) (zEx M n)) : wL_bestAt mc ms [.ref 16, .int (iI z), .ref 81] M Q := by
  refine ⟨⟨Nat.le_of_ble_eq_true rfl, rfl⟩, fun X l0 => l0 _ _ _ _ _ ⟨rfl, ⟨Nat.le_of_ble_eq_true rfl, rfl, fxs_16 hK.1, mc, ms, by omega, by omega, ?_⟩⟩⟩
  rcases wd_key A z with q | q | q
  · exact Or.inl (k_bestAt hK hO hz q (fun N f hN => hk_bestAt hN.1 (qn N q f hN)))
  · exact Or.inr (t_bestAt hc hs hK hO hz (Or.inl ⟨q, fun n => ⟨1, by simp, qx 1 n q (by decide) (by decide)⟩⟩))
  · exact Or.inr (t_bestAt hc hs hK hO hz (Or.inr ⟨q, fun n => ⟨2, by simp, qx 2 n q (by decide) (by decide)⟩⟩))
theorem q_distanceToMate {mc ms : Nat} (hc : 1 ≤ mc) (hs : 6 ≤ ms) {M : zM} {A : Ah} (hK : cHal M A) (hO : aOk A) {kn : Nat → Bool} (hN : cKn M kn) (hmc : cC kn ≤ mc + cC (knA kn A)) (hms : cD kn ≤ ms + cD (knA kn A)) {Q : zQt} (qn : ∀ N, aTh A = true → xFr cEC M N → cHal N A → cKn N (knA kn A) → Q (some (.int 0)) (ot N (dmA A).2.toInt64)) (qx : aTh A = false → ∀ n, Q (some (.int 1)) (zEx M n)) : wL_distanceToMate mc ms [.ref 16, .ref 81] M Q := by
  refine ⟨⟨Nat.le_of_ble_eq_true rfl, rfl⟩, fun X l0 => l0 _ _ _ _ _ ⟨rfl, ⟨Nat.le_of_ble_eq_true rfl, rfl, fxs_16 hK.1, mc, ms, by omega, by omega, ?_⟩⟩⟩
  rcases th_tf (A := A) with q | q
  · exact Or.inl (k_distanceToMate hK hO q hN hmc hms (fun N f hN hC => hk_distanceToMate hN.1 (qn N q f hN hC)))
  · exact Or.inr (t_distanceToMate hc hs hK q (fun n => ⟨1, by simp, qx q n⟩))
theorem q_matingMove {mc ms : Nat} (hc : 1 ≤ mc) (hs : 6 ≤ ms) {M : zM} {A : Ah} (hK : cHal M A) (hO : aOk A) {kn : Nat → Bool} (hN : cKn M kn) (hmc : cC kn ≤ mc + cC (knA kn A)) (hms : cD kn ≤ ms + cD (knA kn A)) {Q : zQt} (qn : ∀ N, aTh A = true → xFr cEC M N → cHal N A → cKn N (knA kn A) → Q (some (.int 0)) (ot N (mmA A).2.toInt64)) (qx : aTh A = false → ∀ n, Q (some (.int 1)) (zEx M n)) : wL_matingMove mc ms [.ref 16, .ref 81] M Q := by
  refine ⟨⟨Nat.le_of_ble_eq_true rfl, rfl⟩, fun X l0 => l0 _ _ _ _ _ ⟨rfl, ⟨Nat.le_of_ble_eq_true rfl, rfl, fxs_16 hK.1, mc, ms, by omega, by omega, ?_⟩⟩⟩
  rcases th_tf (A := A) with q | q
  · exact Or.inl (k_matingMove hK hO q hN hmc hms (fun N f hN hC => hk_matingMove hN.1 (qn N q f hN hC)))
  · exact Or.inr (t_matingMove hc hs hK q (fun n => ⟨1, by simp, qx q n⟩))
theorem q_historyOf {mc ms : Nat} (hc : 1 ≤ mc) (hs : 6 ≤ ms) {M : zM} {A : Ah} (hK : cHal M A) (hO : aOk A) {z w : Int} (hz : i32 z) (hw : i32 w) {Q : zQt} (qn : inH A z w → Q (some (.int 0)) (ot M (hsV (aG A) z.toNat w.toNat).toInt64)) (qx : ¬ inH A z w → ∀ n, Q (some (.int 1)) (zEx M n)) : wL_historyOf mc ms [.ref 16, .int (iI z), .int (iI w), .ref 81] M Q := by
  refine ⟨⟨Nat.le_of_ble_eq_true rfl, rfl⟩, fun X l0 => l0 _ _ _ _ _ ⟨rfl, ⟨Nat.le_of_ble_eq_true rfl, rfl, fxs_16 hK.1, mc, ms, by omega, by omega, ?_⟩⟩⟩
  by_cases q : inH A z w
  · exact kt_historyOf hK hO hz hw q (hk_historyOf hK.1 (qn q))
  · exact t_historyOf hc hs hK hO hz hw q (fun n => ⟨1, by simp, qx q n⟩)
