/-! THE CLASS'S SPELLER: plain, sign, whole -/
theorem own_kd {P : Ps} (hO : psOk P) {m : Nat} (hm : m ∈ mvs P) : 1 ≤ kd (P.1 (m % 64)) ∧ kd (P.1 (m % 64)) ≤ 6 ∧ P.1 (m % 64) = 6 * P.2.1 + kd (P.1 (m % 64)) := by
  obtain ⟨ha, hb, -, hl, -⟩ := mvs_parts hm
  have h12 := hO.1 _ ha
  have hc := hO.2.1
  have := (own_man h12 hc).mp hl.1.1
  unfold kd
  split
  · rcases (show P.2.1 = 0 ∨ P.2.1 = 1 by omega) with q | q <;> rw [q] at this ⊢ <;> omega
  · rcases (show P.2.1 = 0 ∨ P.2.1 = 1 by omega) with q | q <;> rw [q] at this ⊢ <;> omega
theorem cs_cstl {P : Ps} (hO : psOk P) {m : Nat} (hm : m ∈ mvs P) : csI P (m % 64) (m / 64 % 64) = if cstl P m = 1 then 2 else if cstl P m = 2 then -2 else 0 := by
  obtain ⟨k1, k2, k3⟩ := own_kd hO hm
  have hk : P.1 (m % 64) = 6 + 6 * P.2.1 ↔ kd (P.1 (m % 64)) = 6 := by omega
  unfold csI cstl
  by_cases q : kd (P.1 (m % 64)) = 6
  · by_cases u : m / 64 % 64 = m % 64 + 2
    · rw [if_pos ⟨hk.mpr q, by omega⟩, if_pos (⟨q, u⟩ : _ ∧ _), if_pos rfl]
      omega
    · by_cases v : m % 64 = m / 64 % 64 + 2
      · rw [if_pos ⟨hk.mpr q, by omega⟩, if_neg (fun z : _ ∧ _ => u z.2), if_pos (⟨q, v⟩ : _ ∧ _), if_neg (by omega), if_pos rfl]
        omega
      · rw [if_neg (fun z : _ ∧ _ => by omega), if_neg (fun z : _ ∧ _ => u z.2), if_neg (fun z : _ ∧ _ => v z.2), if_neg (by omega), if_neg (by omega)]
  · rw [if_neg (fun z : _ ∧ _ => q (hk.mp z.1)), if_neg (fun z : _ ∧ _ => q z.1), if_neg (fun z : _ ∧ _ => q z.1), if_neg (by omega), if_neg (by omega)]
theorem pr_kd {P : Ps} (hO : psOk P) {m : Nat} (hm : m ∈ mvs P) (h : ¬ kd (P.1 (m % 64)) = 1) : m / 4096 = 0 := by
  have hK := mvs_mvK hm
  by_cases q : m / 4096 = 0
  · exact q
  · have := (pr_pawn hO hK q).1
    obtain ⟨k1, k2, k3⟩ := own_kd hO hm
    omega
theorem tx3 : (206916562224 : Int64) = jN (tx (casL 5)) ∧ (3157296 : Int64) = jN (tx (casL 3)) := by decide +kernel
set_option maxHeartbeats 4000000 in
theorem c_plain {mc ms : Nat} {M : zM} {g : Nat} (hW : zWd M g) {P : Ps} (hG : Gd P) (hP : bPs M g P) (hL : gLs M g P) {i m : Nat} (hi : (mvs P)[i]? = some m) {Q : zQt} (hq : Q (some (.long (jN (tx (spl P m))))) M) : wX9_plain mc ms [.ref 25, .ref g, .int (nI i)] M Q := by
  refine ⟨⟨Nat.le_of_ble_eq_true rfl, rfl⟩, fun X l0 l70 l103 l129 l149 l170 l186 l240 => ?_⟩
  have hO := hG.1
  have hc := hO.2.1
  have hLen := Gd_len hG
  have hmem := List.mem_of_getElem? hi
  have hil : i < (mvs P).length := (List.getElem?_eq_some_iff.mp hi).1
  have hml := mvs_lt hmem
  obtain ⟨ha, hb, hp5, -, -⟩ := mvs_parts hmem
  have hprk := pr_kd hO hmem
  have hK := mvs_mvK hmem
  obtain ⟨k1, k2, k3⟩ := own_kd hO hmem
  have hcs := cs_cstl hO hmem
  have hpr2 : m / 4096 ≠ 0 → 2 ≤ m / 4096 := fun h => (pr_pawn hO hK h).2.1
  obtain ⟨a, ea⟩ : ∃ a, a = m % 64 := ⟨_, rfl⟩
  obtain ⟨b, eb⟩ : ∃ b, b = m / 64 % 64 := ⟨_, rfl⟩
  obtain ⟨pr, ep⟩ : ∃ pr, pr = m / 4096 := ⟨_, rfl⟩
  have hspl : spl P m = if cstl P m = 1 then casL 3 else if cstl P m = 2 then casL 5 else if kd (P.1 a) = 1 then (if a % 8 = b % 8 then [] else [97 + a % 8, 120]) ++ [97 + b % 8, 49 + b / 8] ++ (if 0 < pr then [ltr pr] else []) else [ltr (kd (P.1 a))] ++ orgL P m ++ (if 0 < P.1 b then [120] else []) ++ [97 + b % 8, 49 + b / 8] := by
    rw [ea, eb, ep]; rfl
  rw [← ea] at ha k1 k2 k3 hcs hprk
  rw [← eb] at hb hcs
  rw [← ep] at hp5 hprk hpr2
  have hBa := hP.1.1 a ha
  have hBb := hP.1.1 b hb
  have eFb : (97 : Int32) + (nI b &&& (7 : Int32)) = nI (97 + b % 8) := by rw [and7 hb]; exact nI_add 97 _
  have eRb : (49 : Int32) + (nI b / (8 : Int32)) = nI (49 + b / 8) := by rw [show nI b / (8 : Int32) = nI (b / 8) from pk_div (by omega) (by decide) (by decide)]; exact nI_add 49 _
  have e120 : (120 : Int64) = (nI 120).toInt64 := by decide
  have eF : (97 : Int32) + (nI a &&& (7 : Int32)) = nI (97 + a % 8) := by rw [and7 ha]; exact nI_add 97 _
  have f240 : ∀ y : Int64, y = jN (tx (spl P m)) → X 240 0 0 [] [.long y] M := fun y hy => l240 _ _ _ _ _ ⟨rfl, vX9_plain_240 hW (by rw [hy]; exact hq)⟩
  have epz := nI_eq (a := pr) (b := 0) (by omega) (by decide)
  have f186 : ∀ L : List Nat, spl P m = L ++ [97 + b % 8, 49 + b / 8] ++ (if 0 < pr then [ltr pr] else []) → X 186 0 0 [.int (nI b), .int (nI pr), .long (jN (tx L))] [] M := by
    intro L hl
    refine l186 _ _ _ _ _ ⟨rfl, vX9_plain_186 hW ?_⟩
    rw [eFb, eRb, jN_cat _ _ (by omega), jN_cat _ _ (by omega), ← tx_snoc, ← tx_snoc, List.append_assoc, show [97 + b % 8] ++ [49 + b / 8] = [97 + b % 8, 49 + b / 8] from rfl]
    intro y ey
    refine ⟨fun w => f240 _ ?_, fun w => ?_⟩
    · have := epz.mp w
      rw [ey, hl, if_neg (by omega), List.append_nil]
    · have h0 : pr ≠ 0 := fun z => w (epz.mpr z)
      have h2 := hpr2 h0
      refine c_letC (by omega) (by omega) (vkX9_plain_238 hW (f240 _ ?_))
      have := ltr_lt pr
      rw [ey, jN_cat _ _ this, ← tx_snoc, hl, if_pos (by omega)]
  have f170 : ∀ (L : List Nat) (t : Bool), spl P m = L ++ (if t = true then [120] else []) ++ [97 + b % 8, 49 + b / 8] ++ (if 0 < pr then [ltr pr] else []) → X 170 0 0 [.int (nI b), .int (nI pr), .int (bI t), .long (jN (tx L))] [] M := by
    intro L t hl
    refine l170 _ _ _ _ _ ⟨rfl, vX9_plain_170 hW ?_⟩
    rw [e120, jN_cat _ _ (by omega), ← tx_snoc]
    refine ⟨fun w => f186 L ?_, fun w => fun y ey => ?_⟩
    · rw [hl, bI_0.mp w]; simp
    · rw [ey]
      refine f186 (L ++ [120]) ?_
      rw [hl, bI_n.mp w]; simp
  refine l0 _ _ _ _ _ ⟨rfl, vX9_plain_0 hW ?_⟩
  rw [nI_clamp (by omega), hL.2 i m hi, mv_from hml, mv_to hml, mv_pr hml, ← ea, ← eb, ← ep]
  refine ⟨vp_in_nI (by omega) (by omega), fun y14 e14 => ⟨vp_in_nI (by omega) (by omega), fun y28 e28 => ⟨vp_in_nI (by omega) (by omega), fun y39 e39 => ?_⟩⟩⟩
  rw [e14, e28, e39]
  refine c_castleStep hW hc hP.1 hP.2.1 ha hb (vkX9_plain_49 hW ?_)
  rw [hcs]
  by_cases c1 : cstl P m = 1
  · rw [if_pos c1]
    refine ⟨fun w => absurd w (by decide), fun _ => ⟨fun w => absurd w (by decide), fun _ => l70 _ _ _ _ _ ⟨rfl, vX9_plain_70 hW ?_⟩⟩⟩
    rw [hspl, if_pos c1] at hq
    rw [tx3.2]
    exact hq
  by_cases c2 : cstl P m = 2
  · rw [if_neg c1, if_pos c2]
    refine ⟨fun w => absurd w (by decide), fun _ => ⟨fun _ => l70 _ _ _ _ _ ⟨rfl, vX9_plain_70 hW ?_⟩, fun w => absurd (by decide) w⟩⟩
    rw [hspl, if_neg c1, if_pos c2] at hq
    rw [tx3.1]
    exact hq
  rw [if_neg c1, if_neg c2]
  rw [if_neg c1, if_neg c2] at hspl
  refine ⟨fun _ => ?_, fun w => absurd rfl w⟩
  rw [nI_clamp (by omega), nI_clamp (by omega), hBa.1, hBb.1, hP.2.1, show (6 : Int32) * nI P.2.1 = nI (6 * P.2.1) from pk_mul 6 _, pk_sub (by omega), show P.1 a - 6 * P.2.1 = kd (P.1 a) by omega]
  refine ⟨vp_in_nI (by omega) (by omega), fun y86 e86 => ⟨vp_in_nI (by omega) (by omega), ?_⟩⟩
  subst e86
  have eb0 := nI_eq (a := P.1 b) (b := 0) (by omega) (by decide)
  have f103 : ∀ t : Bool, (t = true ↔ 0 < P.1 b) → X 103 0 0 [.ref 25, .ref g, .int (nI i), .int (nI a), .int (nI b), .int (nI pr), .int (nI (kd (P.1 a)))] [.int (bI t)] M := by
    intro t ht
    refine l103 _ _ _ _ _ ⟨rfl, vX9_plain_103 hW ?_⟩
    rw [and7 ha, and7 hb]
    have ek := nI_eq (a := kd (P.1 a)) (b := 1) (by omega) (by decide)
    have ef := nI_eq (a := a % 8) (b := b % 8) (by omega) (by omega)
    refine ⟨fun w => ?_, fun w => ?_⟩
    · have hk1 := ek.mp w
      rw [if_pos hk1] at hspl
      refine ⟨fun w2 => ?_, fun w2 => ?_⟩
      · refine l129 _ _ _ _ _ ⟨rfl, vX9_plain_129 hW ⟨fun _ => l149 _ _ _ _ _ ⟨rfl, vX9_plain_149 hW ?_⟩, fun z => absurd rfl z⟩⟩
        have := f170 [] false (by rw [hspl, if_pos (ef.mp w2)]; simp)
        exact this
      · refine l129 _ _ _ _ _ ⟨rfl, vX9_plain_129 hW ⟨fun z => absurd z (by decide), fun _ => l149 _ _ _ _ _ ⟨rfl, vX9_plain_149 hW ?_⟩⟩⟩
        rw [eF, i64_nat (by omega)]
        have := f170 [97 + a % 8] true (by rw [hspl, if_neg (fun z => w2 (ef.mpr z))]; simp)
        have et : tx [97 + a % 8] = 97 + a % 8 := by unfold tx; simp
        rw [et] at this
        exact this
    · have hk1 : ¬ kd (P.1 a) = 1 := fun z => w (ek.mpr z)
      rw [if_neg hk1] at hspl
      have hp0 := hprk hk1
      refine c_letC (by omega) (by omega) (vkX9_plain_164 hW ?_)
      have hlt := ltr_lt (kd (P.1 a))
      rw [i64_nat (by omega)]
      refine c_origin hW hG hP hL hi (vkX9_plain_168 hW ?_)
      refine f170 (ltr (kd (P.1 a)) :: orgL P m) t ?_
      rw [hspl, hp0]
      by_cases z : 0 < P.1 b
      · rw [if_pos z, if_pos (ht.mpr z)]; simp
      · rw [if_neg z, if_neg (fun u => z (ht.mp u))]; simp
  exact ⟨fun w => f103 false ⟨fun z => absurd z (by decide), fun z => absurd (eb0.mp w) (by omega)⟩, fun w => f103 true ⟨fun _ => by have : P.1 b ≠ 0 := fun z => w (eb0.mpr z); omega, fun _ => rfl⟩⟩
/-- the sign behind a move; 0 if there is none -/
noncomputable def sgN (P : Ps) (m : Nat) : Nat := if chB (mkM P m) = true then (if (mvs (mkM P m)).length = 0 then 35 else 43) else 0
theorem sgN_sgl (P : Ps) (m : Nat) : sgl P m = if sgN P m = 0 then [] else [sgN P m] := by
  unfold sgl sgN
  by_cases q : chB (mkM P m) = true
  · rw [if_pos q, if_pos q]
    by_cases h : hasM (mkM P m)
    · rw [if_pos h, if_neg (hasM_mvs.mp h)]
      rfl
    · have : (mvs (mkM P m)).length = 0 := by
        by_cases z : (mvs (mkM P m)).length = 0
        · exact z
        · exact absurd (hasM_mvs.mpr z) h
      rw [if_neg h, if_pos this]
      rfl
  · rw [if_neg q, if_neg q]
    rfl
/-- what trying a move leaves as it was -/
def sgC (M N : zM) (g k : Nat) : Prop := zSm [g + 1, g + 2, g + 3, g + 4, g + 5, g + 6, 26] M N ∧ ∀ i, i < k → N.1 (g + 5) i = M.1 (g + 5) i
set_option maxHeartbeats 4000000 in
theorem c_signC {mc ms : Nat} {M : zM} {g : Nat} (hW : zWd M g) (hC : cOk M) {P : Ps} (hG : Gd P) {k n : Nat} (hPC : psC n P) (hn : n < 1990) (hk : k ≤ 600) (hS : sSt M g P k) {m : Nat} (hm : m ∈ mvs P) {Q : zQt} (hq : ∀ N, sgC M N g k → sSt N g P k → Q (some (.int (nI (sgN P m)))) N) : wX9_sign mc ms [.ref 25, .ref g, .int (nI m)] M Q := by
  refine ⟨⟨Nat.le_of_ble_eq_true rfl, rfl⟩, fun X l0 l43 l44 => ?_⟩
  have hg := hW.2
  refine l0 _ _ _ _ _ ⟨rfl, vX9_sign_0 hW (c_makeM hW hS hG hPC (by omega) (by omega) hm (fun K sm sv so => ?_))⟩
  have WK := sm.wd hW
  have CK : cOk K := hC.sm sm (fun b b1 b2 q => by simp at q; omega)
  have hG1 : Gd (mkM P m) := Gd_mk hG hPC (by omega) (mvs_mvK hm)
  have hLen := Gd_len hG1
  have f44 : ∀ N s, sgC M N g k → sSv N g P m k → s = sgN P m → X 44 0 0 [.ref g, .int (nI m), .int (nI s)] [] N := by
    intro N s fr sN hs
    have WN := fr.1.wd hW
    refine l44 _ _ _ _ _ ⟨rfl, vX9_sign_44 WN (c_unmakeM WN sN hG hPC (by omega) (by omega) hm (fun L smL sL => vkX9_sign_52 (smL.wd WN) ?_))⟩
    rw [hs]
    exact hq L ⟨fr.1.tr (smL.mono (by simp)), fun i hi => by rw [smL.i (by simp)]; exact fr.2 i hi⟩ sL
  have frK : sgC M K g k := ⟨sm.mono (by simp), so⟩
  refine vkX9_sign_10 WK (c_inCheck WK CK sv.1.1 hG1.1.2.1 sv.1.2.1 (gd_king hG1) (fun z => vkX9_sign_17 WK ⟨fun w => absurd w (by decide), fun _ => ?_⟩) (fun z => vkX9_sign_17 WK ⟨fun _ => f44 K 0 frK sv ?_, fun w => absurd rfl w⟩))
  · refine c_fillC WK CK hG1 sv.1 (x := 26) (xn := 384) (at_ := 0) (most := 1) (fxs_26 WK.1) (by omega) (fun b b1 b2 => by omega) (fun b b1 b2 => by omega) (by omega) (by omega) (by omega) (fun N L smN hT hL hrow hro => ?_)
    have WN := smN.wd WK
    have frN : sgC M N g k := ⟨frK.1.tr (smN.mono (by simp)), fun i hi => by rw [smN.i (by simp; omega)]; exact frK.2 i hi⟩
    have svN : sSv N g P m k := ⟨bPs.sm smN (fun b b1 b2 q => by simp at q; omega) sv.1, by rw [smN.i (by simp; omega)]; exact sv.2.1, by rw [smN.i (by simp; omega)]; exact sv.2.2⟩
    have hLl : L.length ≤ (mvs (mkM P m)).length := by obtain ⟨T, hT⟩ := hT; rw [← hT, List.length_append]; omega
    have hz : L.length = 0 ↔ (mvs (mkM P m)).length = 0 := by
      constructor
      · intro z
        rcases hL with q | q
        · rw [← q]; exact z
        · omega
      · intro z; omega
    have ez := nI_eq (a := L.length) (b := 0) (by omega) (by decide)
    refine vkX9_sign_33 WN ⟨fun w => l43 _ _ _ _ _ ⟨rfl, vX9_sign_43 WN (f44 N 35 frN svN ?_)⟩, fun w => l43 _ _ _ _ _ ⟨rfl, vX9_sign_43 WN (f44 N 43 frN svN ?_)⟩⟩
    · unfold sgN
      rw [if_pos (chB_t.mpr z), if_pos (hz.mp (ez.mp w))]
    · unfold sgN
      rw [if_pos (chB_t.mpr z), if_neg (fun u => w (ez.mpr (hz.mpr u)))]
  · unfold sgN
    rw [if_neg (by rw [chB_f.mpr z]; decide)]
