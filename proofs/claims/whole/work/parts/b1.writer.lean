/-! THE CLASS'S RECORD WRITER -/
def wOut (M : zM) (L : List Nat) : Prop := M.1 29 1 = nI L.length ∧ ∀ k v, L[k]? = some v → M.1 30 k = nI v
theorem nar_c {c : Nat} (hc : c < 256) : vp_nar .char (nI c) = nI c := Value.int.inj (pk_charN (q := c) (by omega)).1
theorem ch_n {n : Nat} (h : n < 65536) : ((nI n).toUInt32 % 65536).toInt32 = nI n := by
  rw [pk_char, pk_tn (by omega), Nat.mod_eq_of_lt h]
theorem wOut.sm {L : List Nat} {M N : zM} (h : zSm L M N) (hL : 29 ∉ L ∧ 30 ∉ L) {K : List Nat} (hO : wOut M K) : wOut N K := ⟨by rw [h.i hL.1]; exact hO.1, fun k v hk => by rw [h.i hL.2]; exact hO.2 k v hk⟩
theorem c_putW {mc ms : Nat} {M : zM} {g : Nat} (hW : zWd M g) {L : List Nat} (hL : wOut M L) (hl : L.length < 104) {c : Nat} (hc : c < 256) {Q : zQt} (hq : ∀ N, zSm [29, 30] M N → wOut N (L ++ [c]) → Q none N) : wX7_put mc ms [.ref 29, .int (nI c)] M Q := by
  refine ⟨⟨Nat.le_of_ble_eq_true rfl, rfl⟩, fun X l0 l29 => ?_⟩
  refine l0 _ _ _ _ _ ⟨rfl, vX7_put_0 hW ?_⟩
  rw [hL.1, nI_clamp (by omega), nar_c hc]
  refine ⟨fun w => absurd ((nI_leI (a := 104) (b := L.length) (by decide) (by omega)).mp w) (by omega), fun _ => ⟨vp_in_nI (by omega) (by omega), fun M18 e18 M26 e26 => ?_⟩⟩
  have a18 : M18.1 29 1 = nI L.length := by rw [e18, zsI_o (by omega)]; exact hL.1
  rw [a18, nI_1] at e26
  have s26 : zSm [29, 30] M M26 := by rw [e26, e18]; exact (zSm.I (by simp)).tr (zSm.I (by simp))
  refine l29 _ _ _ _ _ ⟨rfl, vX7_put_29 (s26.wd hW) (hq M26 s26 ⟨?_, fun k v hk => ?_⟩)⟩
  · rw [e26, zsI_s, List.length_append]; rfl
  · rw [e26, zsI_o (by omega), e18, zsI_at]
    by_cases q : k = L.length
    · rw [if_pos ⟨rfl, q⟩]
      rw [q, List.getElem?_append_right (Nat.le_refl _), Nat.sub_self] at hk
      cases hk
      rfl
    · have hkl : k < (L ++ [c]).length := (List.getElem?_eq_some_iff.mp hk).1
      rw [List.length_append] at hkl
      have hkl2 : k < L.length := by
        have : [c].length = 1 := rfl
        omega
      rw [if_neg (fun z => q z.2)]
      rw [List.getElem?_append_left hkl2] at hk
      exact hL.2 k v hk
theorem c_putEmpty {mc ms : Nat} {M : zM} {g : Nat} (hW : zWd M g) {L : List Nat} (hL : wOut M L) (hl : L.length < 104) {e : Nat} (he : e ≤ 8) {Q : zQt} (hq : ∀ N, zSm [29, 30] M N → wOut N (L ++ (if 0 < e then [48 + e] else [])) → Q none N) : wX7_putEmpty mc ms [.ref 29, .int (nI e)] M Q := by
  refine ⟨⟨Nat.le_of_ble_eq_true rfl, rfl⟩, fun X l0 l13 => ?_⟩
  have f13 : ∀ N, zSm [29, 30] M N → wOut N (L ++ (if 0 < e then [48 + e] else [])) → X 13 0 0 [] [] N := fun N s h => l13 _ _ _ _ _ ⟨rfl, vX7_putEmpty_13 (s.wd hW) (hq N s h)⟩
  refine l0 _ _ _ _ _ ⟨rfl, vX7_putEmpty_0 hW ?_⟩
  have e0 := nI_leI (a := e) (b := 0) (by omega) (by decide)
  refine ⟨fun w => f13 M zSm.rf (by rw [if_neg (by have := e0.mp w; omega), List.append_nil]; exact hL), fun w => ?_⟩
  have hpos : 0 < e := by have : ¬ e ≤ 0 := fun z => w (e0.mpr z); omega
  rw [show (48 : Int32) + nI e = nI (48 + e) from nI_add 48 e, ch_n (by omega)]
  refine c_putW hW hL hl (by omega) (fun N s h => vkX7_putEmpty_13 (s.wd hW) (f13 N s ?_))
  rw [if_pos hpos]
  exact h
set_option maxHeartbeats 4000000 in
theorem c_writeRank {mc ms : Nat} {M : zM} {g : Nat} (hW : zWd M g) {P : Ps} (hP : bPs M g P) {L : List Nat} (hL : wOut M L) (hl : L.length + 9 ≤ 104) {rank : Nat} (hr : rank < 8) {Q : zQt} (hq : ∀ N, zSm [29, 30] M N → wOut N (L ++ rkO P.1 rank 8 0 0) → Q none N) : wX7_writeRank mc ms [.ref 29, .ref (g + 1), .int (nI (8 * rank))] M Q := by
  refine ⟨⟨Nat.le_of_ble_eq_true rfl, rfl⟩, fun X l0 l5 l52 => ?_⟩
  have hg := hW.2
  obtain ⟨R, eR⟩ : ∃ R, R = rkO P.1 rank 8 0 0 := ⟨_, rfl⟩
  rw [← eR] at hq
  have loop : ∀ (r f e : Nat) (L2 : List Nat) (N : zM), f + r = 8 → e ≤ f → (L2.length ≤ L.length + f ∧ (0 < e → L2.length + 1 ≤ L.length + f)) → zSm [29, 30] M N → wOut N L2 → L2 ++ rkO P.1 rank r f e = L ++ R → X 5 0 0 [.ref 29, .ref (g + 1), .int (nI (8 * rank)), .int (nI e), .int (nI (8 * rank + f))] [] N := by
    intro r
    induction r with
    | zero =>
      intro f e L2 N hf he hl2 sN oN hR
      have WN := sN.wd hW
      refine l5 _ _ _ _ _ ⟨rfl, vX7_writeRank_5 WN ?_⟩
      rw [show nI (8 * rank) + (8 : Int32) = nI (8 * rank + 8) from nI_add _ 8]
      refine ⟨fun _ => ?_, fun w => absurd ((nI_leI (a := 8 * rank + 8) (b := 8 * rank + f) (by omega) (by omega)).mpr (by omega)) w⟩
      refine c_putEmpty WN oN (by omega) (by omega) (fun K sK oK => vkX7_writeRank_63 (sK.wd WN) (hq K (sN.tr sK) ?_))
      rw [← hR]
      exact oK
    | succ r ih =>
      intro f e L2 N hf he hl2 sN oN hR
      have WN := sN.wd hW
      have hb := hP.1.1 (8 * rank + f) (by omega)
      have hm : N.1 (g + 2) (8 * rank + f) = nI (P.1 (8 * rank + f)) := by rw [sN.i (by simp; omega)]; exact hb.1
      have e0 := nI_eq (a := P.1 (8 * rank + f)) (b := 0) (by omega) (by decide)
      refine l5 _ _ _ _ _ ⟨rfl, vX7_writeRank_5 WN ?_⟩
      rw [show nI (8 * rank) + (8 : Int32) = nI (8 * rank + 8) from nI_add _ 8, nI_clamp (by omega), hm]
      refine ⟨fun w => absurd ((nI_leI (a := 8 * rank + 8) (b := 8 * rank + f) (by omega) (by omega)).mp w) (by omega), fun _ => ⟨vp_in_nI (by omega) (by omega), fun y ey => ?_⟩⟩
      rw [ey]
      unfold rkO at hR
      refine ⟨fun w => ?_, fun w => ?_⟩
      · rw [if_neg (by have := e0.mp w; omega)] at hR
        refine l52 _ _ _ _ _ ⟨rfl, vX7_writeRank_52 WN ?_⟩
        rw [nI_1, nI_1]
        exact ih (f + 1) (e + 1) L2 N (by omega) (by omega) ⟨by omega, fun _ => by omega⟩ sN oN hR
      · have hpos : 0 < P.1 (8 * rank + f) := by have : ¬ P.1 (8 * rank + f) = 0 := fun z => w (e0.mpr z); omega
        rw [if_pos hpos] at hR
        refine c_putEmpty WN oN (by omega) (by omega) (fun K sK oK => vkX7_writeRank_39 (sK.wd WN) (c_letC (by omega) hb.2 (vkX7_writeRank_49 (sK.wd WN) ?_)))
        have hle : (L2 ++ (if 0 < e then [48 + e] else [])).length ≤ L.length + f := by
          rw [List.length_append]
          by_cases z : 0 < e
          · rw [if_pos z]
            have := hl2.2 z
            show L2.length + 1 ≤ _
            omega
          · rw [if_neg z]
            show L2.length + 0 ≤ _
            omega
        refine c_putW (sK.wd WN) oK (by omega) (ltr_lt _) (fun J sJ oJ => vkX7_writeRank_52 (sJ.wd (sK.wd WN)) ?_)
        refine l52 _ _ _ _ _ ⟨rfl, vX7_writeRank_52 (sJ.wd (sK.wd WN)) ?_⟩
        rw [nI_1]
        refine ih (f + 1) 0 _ J (by omega) (by omega) ⟨?_, fun z => absurd z (by omega)⟩ ((sN.tr sK).tr sJ) oJ ?_
        · rw [List.length_append]
          have : [ltr (P.1 (8 * rank + f))].length = 1 := rfl
          omega
        · rw [← hR]
          simp
  refine l0 _ _ _ _ _ ⟨rfl, vX7_writeRank_0 hW ?_⟩
  exact loop 8 0 0 L M rfl (Nat.le_refl _) ⟨by omega, fun z => absurd z (by omega)⟩ zSm.rf hL (by rw [eR])
/-- the digits, as the class finds them -/
def dcR (v : Nat) : Nat → Bool → List Nat
  | 0, _ => []
  | k + 1, ah => (if ah = true ∧ v / 10 ^ k % 10 = 0 ∧ 0 < k then [] else [48 + v / 10 ^ k % 10]) ++ dcR v k (ah && decide (v / 10 ^ k % 10 = 0) && decide (0 < k))
theorem dcR_f (v k : Nat) : dcR v (k + 1) false = [48 + v / 10 ^ k % 10] ++ dcR v k false := by
  show (if false = true ∧ v / 10 ^ k % 10 = 0 ∧ 0 < k then [] else [48 + v / 10 ^ k % 10]) ++ dcR v k (false && decide (v / 10 ^ k % 10 = 0) && decide (0 < k)) = _
  rw [if_neg (fun z => absurd z.1 (by decide))]
  rfl
theorem dcR_z {v k : Nat} (h : v / 10 ^ k % 10 = 0) (hk : 0 < k) : dcR v (k + 1) true = dcR v k true := by
  show (if true = true ∧ v / 10 ^ k % 10 = 0 ∧ 0 < k then [] else [48 + v / 10 ^ k % 10]) ++ dcR v k (true && decide (v / 10 ^ k % 10 = 0) && decide (0 < k)) = _
  rw [if_pos ⟨rfl, h, hk⟩, decide_eq_true h, decide_eq_true hk]
  rfl
theorem dcR_n {v k : Nat} (h : ¬ (v / 10 ^ k % 10 = 0 ∧ 0 < k)) : dcR v (k + 1) true = [48 + v / 10 ^ k % 10] ++ dcR v k false := by
  show (if true = true ∧ v / 10 ^ k % 10 = 0 ∧ 0 < k then [] else [48 + v / 10 ^ k % 10]) ++ dcR v k (true && decide (v / 10 ^ k % 10 = 0) && decide (0 < k)) = _
  rw [if_neg (fun z => h z.2)]
  congr 2
  by_cases q : v / 10 ^ k % 10 = 0
  · rw [decide_eq_true q, decide_eq_false (fun z => h ⟨q, z⟩)]; rfl
  · rw [decide_eq_false q]; rfl
theorem dcR_L {v : Nat} (hv : v < 100000) : dcR v 5 true = dcL v := by
  have p0 : v / 10 ^ 0 % 10 = v % 10 := by rw [Nat.pow_zero, Nat.div_one]
  have p1 : v / 10 ^ 1 % 10 = v / 10 % 10 := by rw [Nat.pow_one]
  unfold dcL
  by_cases c1 : v < 10
  · rw [if_pos c1, dcR_z (k := 4) (by omega) (by omega), dcR_z (k := 3) (by omega) (by omega), dcR_z (k := 2) (by omega) (by omega), dcR_z (k := 1) (by omega) (by omega), dcR_n (k := 0) (by omega), p0, Nat.mod_eq_of_lt c1]
    rfl
  rw [if_neg c1]
  by_cases c2 : v < 100
  · rw [if_pos c2, dcR_z (k := 4) (by omega) (by omega), dcR_z (k := 3) (by omega) (by omega), dcR_z (k := 2) (by omega) (by omega), dcR_n (k := 1) (by omega), dcR_f v 0, p1, p0]
    rfl
  rw [if_neg c2]
  by_cases c3 : v < 1000
  · rw [if_pos c3, dcR_z (k := 4) (by omega) (by omega), dcR_z (k := 3) (by omega) (by omega), dcR_n (k := 2) (by omega), dcR_f v 1, dcR_f v 0, p1, p0]
    rfl
  rw [if_neg c3]
  by_cases c4 : v < 10000
  · rw [if_pos c4, dcR_z (k := 4) (by omega) (by omega), dcR_n (k := 3) (by omega), dcR_f v 2, dcR_f v 1, dcR_f v 0, p1, p0]
    rfl
  rw [if_neg c4, dcR_n (k := 4) (by omega), dcR_f v 3, dcR_f v 2, dcR_f v 1, dcR_f v 0, p1, p0]
  rfl
set_option maxHeartbeats 4000000 in
theorem c_putNumberW {mc ms : Nat} {M : zM} {g : Nat} (hW : zWd M g) {L : List Nat} (hL : wOut M L) (hl : L.length + 5 ≤ 104) {v : Nat} (hv : v < 100000) {Q : zQt} (hq : ∀ N, zSm [29, 30] M N → wOut N (L ++ dcL v) → Q none N) : wX7_putNumber mc ms [.ref 29, .int (nI v)] M Q := by
  refine ⟨⟨Nat.le_of_ble_eq_true rfl, rfl⟩, fun X l0 l6 l36 l37 l52 => ?_⟩
  rw [← dcR_L hv] at hq
  have loop : ∀ (k : Nat) (ah : Bool) (L2 : List Nat) (N : zM), k ≤ 5 → L2.length + k ≤ L.length + 5 → zSm [29, 30] M N → wOut N L2 → L2 ++ dcR v k ah = L ++ dcR v 5 true → X 6 0 0 [.ref 29, .int (nI v), .int (bI ah), .int (nI (10 ^ k / 10))] [] N := by
    intro k
    induction k with
    | zero =>
      intro ah L2 N hk hl2 sN oN hR
      have WN := sN.wd hW
      refine l6 _ _ _ _ _ ⟨rfl, vX7_putNumber_6 WN ⟨fun _ => hq N sN ?_, fun w => absurd (by decide) w⟩⟩
      rw [← hR]
      show wOut N (L2 ++ [])
      rw [List.append_nil]; exact oN
    | succ k ih =>
      intro ah L2 N hk hl2 sN oN hR
      have WN := sN.wd hW
      have hpk : 10 ^ (k + 1) / 10 = 10 ^ k := by rw [Nat.pow_succ]; exact Nat.mul_div_cancel _ (by decide)
      have hp1 : 0 < 10 ^ k := Nat.pow_pos (by decide)
      have hp2 : 10 ^ k ≤ 10 ^ 4 := Nat.pow_le_pow_right (by decide) (by omega)
      obtain ⟨d, ed⟩ : ∃ d, d = v / 10 ^ k % 10 := ⟨_, rfl⟩
      rw [hpk]
      have f52 : ∀ (ah2 : Bool) (L3 : List Nat) (K : zM), L3.length + k ≤ L.length + 5 → zSm [29, 30] M K → wOut K L3 → L3 ++ dcR v k ah2 = L ++ dcR v 5 true → X 52 0 0 [.ref 29, .int (nI v), .int (bI ah2), .int (nI (10 ^ k))] [] K := by
        intro ah2 L3 K hl3 sK oK hRK
        refine l52 _ _ _ _ _ ⟨rfl, vX7_putNumber_52 (sK.wd hW) ?_⟩
        rw [show nI (10 ^ k) / (10 : Int32) = nI (10 ^ k / 10) from pk_div (by omega) (by decide) (by decide)]
        exact ih ah2 L3 K (by omega) hl3 sK oK hRK
      have hd10 : d < 10 := by rw [ed]; exact Nat.mod_lt _ (by decide)
      have f36 : ¬ (ah = true ∧ d = 0 ∧ 0 < k) → X 36 0 0 [.ref 29, .int (nI v), .int (nI (10 ^ k)), .int (nI d)] [] N := by
        intro hn
        refine l36 _ _ _ _ _ ⟨rfl, vX7_putNumber_36 WN (l37 _ _ _ _ _ ⟨rfl, vX7_putNumber_37 WN ⟨fun _ => ?_, fun z => absurd rfl z⟩⟩)⟩
        rw [show (48 : Int32) + nI d = nI (48 + d) from nI_add 48 d, ch_n (by omega)]
        refine c_putW WN oN (by omega) (by omega) (fun K sK oK => vkX7_putNumber_52 (sK.wd WN) ?_)
        refine f52 false (L2 ++ [48 + d]) K (by rw [List.length_append]; show L2.length + 1 + k ≤ _; omega) (sN.tr sK) oK ?_
        rw [← hR]
        show _ = L2 ++ ((if ah = true ∧ v / 10 ^ k % 10 = 0 ∧ 0 < k then [] else [48 + v / 10 ^ k % 10]) ++ dcR v k (ah && decide (v / 10 ^ k % 10 = 0) && decide (0 < k)))
        rw [← ed, if_neg hn, List.append_assoc]
        congr 3
        cases ah with
        | false => rfl
        | true =>
          by_cases q : d = 0
          · rw [decide_eq_true q, decide_eq_false (fun z => hn ⟨rfl, q, z⟩)]; rfl
          · rw [decide_eq_false q]; rfl
      refine l6 _ _ _ _ _ ⟨rfl, vX7_putNumber_6 WN ⟨fun w => absurd w (nI_nle hp1 (by omega)), fun _ => ⟨nI_ne0 hp1 (by omega), ?_⟩⟩⟩
      have hvp : v / 10 ^ k < 2 ^ 31 := Nat.lt_of_le_of_lt (Nat.div_le_self _ _) (by omega)
      rw [show nI v / nI (10 ^ k) = nI (v / 10 ^ k) from pk_div (by omega) hp1 (by omega), show nI (v / 10 ^ k) - nI (v / 10 ^ k) / (10 : Int32) * (10 : Int32) = nI (v / 10 ^ k % 10) from pk_rem (d := 10) hvp (by decide) (by decide), ← ed]
      intro y ey
      rw [ey]
      have ed0 := nI_eq (a := d) (b := 0) (by omega) (by decide)
      have e1 := nI_leI (a := 10 ^ k) (b := 1) (by omega) (by decide)
      have hk1 : 10 ^ k ≤ 1 ↔ ¬ 0 < k := by
        constructor
        · intro z z2
          have : 10 ^ 1 ≤ 10 ^ k := Nat.pow_le_pow_right (by decide) z2
          omega
        · intro z
          rw [show k = 0 by omega]; decide
      refine ⟨fun w => f36 (fun z => by rw [z.1] at w; exact absurd w (by decide)), fun w => ⟨fun w2 => ⟨fun w3 => f36 (fun z => hk1.mp (e1.mp w3) z.2.2), fun w3 => ?_⟩, fun w2 => f36 (fun z => w2 (ed0.mpr z.2.1))⟩⟩
      have hk0 : 0 < k := by
        by_cases z : 0 < k
        · exact z
        · exact absurd (e1.mpr (hk1.mpr z)) w3
      have hah : ah = true := bI_n.mp w
      refine l37 _ _ _ _ _ ⟨rfl, vX7_putNumber_37 WN ⟨fun z => absurd z (by decide), fun _ => ?_⟩⟩
      refine f52 true L2 N (by omega) sN oN ?_
      rw [← hR, hah, dcR_z (by rw [← ed]; exact ed0.mp w2) hk0]
  refine l0 _ _ _ _ _ ⟨rfl, vX7_putNumber_0 hW ?_⟩
  exact loop 5 true L M (Nat.le_refl _) (by omega) zSm.rf hL rfl
