/-! THE REFERENCE'S SPELLING -/
/-- what was put together -/
def rOut (M : zM) (L : List Nat) : Prop := M.1 55 24 = nI L.length ∧ ∀ k v, L[k]? = some v → M.1 70 k = nI v
/-- only what was put together has changed -/
def soF (M N : zM) : Prop := zSm [55, 70] M N ∧ ∀ j, j ≠ 24 → N.1 55 j = M.1 55 j
theorem soF.rf {M : zM} : soF M M := ⟨zSm.rf, fun _ _ => rfl⟩
theorem soF.tr {M N K : zM} (h : soF M N) (h2 : soF N K) : soF M K := ⟨h.1.tr h2.1, fun j hj => (h2.2 j hj).trans (h.2 j hj)⟩
theorem soF.sh {M N : zM} (h : soF M N) {P : Ps} (hS : rSh M P) : rSh N P := by
  refine ⟨rPs_off (q := 69) (fun i _ => by rw [h.1.i (by decide)]) (by omega) hS.1, fun k v hk => by rw [h.1.i (by decide)]; exact hS.2.1 k v hk, by rw [h.1.i (by decide)]; exact hS.2.2⟩
theorem c_say {mc ms : Nat} {M : zM} (hW : zFix M) {L : List Nat} (hL : rOut M L) (hl : L.length < 100) (v : Nat) {Q : zQt} (hq : ∀ N, soF M N → rOut N (L ++ [v]) → Q none N) : wX13_say mc ms [.ref 55, .int (nI v)] M Q := by
  refine ⟨⟨Nat.le_of_ble_eq_true rfl, rfl⟩, fun X l0 => ?_⟩
  refine l0 _ _ _ _ _ ⟨rfl, vX13_say_0 hW ?_⟩
  rw [hL.1, nI_clamp (by omega)]
  refine ⟨vp_in_nI (by omega) (by omega), fun N1 h1 N2 h2 => hq N2 ?_ ?_⟩
  · refine ⟨?_, fun j hj => ?_⟩
    · rw [h2, h1]
      exact (zSm.I (by decide)).tr (zSm.I (by decide))
    · rw [h2, zsI_n hj, h1, zsI_o (by decide)]
  · have e55 : N1.1 55 24 = nI L.length := by rw [h1, zsI_o (by decide)]; exact hL.1
    rw [e55] at h2
    refine ⟨?_, fun k u hk => ?_⟩
    · rw [h2, zsI_s, List.length_append, List.length_singleton]
      exact nI_1 _
    · rw [h2, zsI_o (by decide), h1, zsI_at]
      rw [List.getElem?_append] at hk
      by_cases hkl : k < L.length
      · rw [if_pos hkl] at hk
        rw [if_neg (by omega)]
        exact hL.2 k u hk
      · rw [if_neg hkl] at hk
        by_cases hk0 : k - L.length = 0
        · rw [hk0] at hk
          simp at hk
          rw [if_pos ⟨rfl, by omega⟩, hk]
        · rw [List.getElem?_eq_none (by simp; omega)] at hk
          exact absurd hk (by simp)
theorem c_saySquare {mc ms : Nat} {M : zM} (hW : zFix M) {L : List Nat} (hL : rOut M L) (hl : L.length < 90) {s : Nat} (hs : s < 64) {Q : zQt} (hq : ∀ N, soF M N → rOut N (L ++ [97 + s % 8, 49 + s / 8]) → Q none N) : wX13_saySquare mc ms [.ref 55, .int (nI s)] M Q := by
  refine ⟨⟨Nat.le_of_ble_eq_true rfl, rfl⟩, fun X l0 => ?_⟩
  refine l0 _ _ _ _ _ ⟨rfl, vX13_saySquare_0 hW ?_⟩
  rw [show nI s - nI s / (8 : Int32) * (8 : Int32) = nI (s % 8) from nI_mod (by omega) (by decide) (by decide), show (97 : Int32) + nI (s % 8) = nI (97 + s % 8) from nI_add 97 _]
  refine c_say hW hL (by omega) _ (fun N hN hL2 => ?_)
  have hWN := hN.1.fix hW
  refine vkX13_saySquare_11 hWN ?_
  rw [show nI s / (8 : Int32) = nI (s / 8) from pk_div (by omega) (by decide) (by decide), show (49 : Int32) + nI (s / 8) = nI (49 + s / 8) from nI_add 49 _]
  refine c_say hWN hL2 (by rw [List.length_append, List.length_singleton]; omega) _ (fun K hK hL3 => ?_)
  refine vkX13_saySquare_22 (hK.1.fix hWN) (hq K (hN.tr hK) ?_)
  rw [List.append_assoc] at hL3
  exact hL3
def cstl (P : Ps) (m : Nat) : Nat := if kd (P.1 (m % 64)) = 6 ∧ m / 64 % 64 = m % 64 + 2 then 1 else if kd (P.1 (m % 64)) = 6 ∧ m % 64 = m / 64 % 64 + 2 then 2 else 0
theorem sub2 {a b : Nat} (ha : a < 64) (hb : b < 64) : nI b - nI a = 2 ↔ b = a + 2 := by
  rw [iI_nat, iI_nat, iI_sub]
  have : iI ((b : Int) - a) = iI 2 ↔ (b : Int) - a = 2 := iI_eq (by omega) (by omega) (by decide) (by decide)
  rw [show (2 : Int32) = iI 2 from rfl, this]
  omega
set_option maxHeartbeats 4000000 in
theorem c_castling {mc ms : Nat} {M : zM} (hW : zFix M) {P : Ps} (hP : rPs M 0 P) {m : Nat} (hm : m < 2 ^ 30) {Q : zQt} (hq : Q (some (.int (nI (cstl P m)))) M) : wX13_castling mc ms [.ref 55, .int (nI m)] M Q := by
  refine ⟨⟨Nat.le_of_ble_eq_true rfl, rfl⟩, fun X l0 l22 l44 l65 l66 => ?_⟩
  have ha : m % 64 < 64 := Nat.mod_lt _ (by decide)
  have hb : m / 64 % 64 < 64 := Nat.mod_lt _ (by decide)
  obtain ⟨hB, hB12⟩ := hP.1 (m % 64) ha
  rw [Nat.zero_add] at hB
  have hk : kd (P.1 (m % 64)) < 2 ^ 31 := by unfold kd; split <;> omega
  have f66 : ∀ v, cstl P m = v → X 66 0 0 [] [.int (nI v)] M := fun v h => l66 _ _ _ _ _ ⟨rfl, vX13_castling_66 hW (by rw [← h]; exact hq)⟩
  have f65 : cstl P m = 0 → X 65 0 0 [] [] M := fun h => l65 _ _ _ _ _ ⟨rfl, vX13_castling_65 hW (f66 0 h)⟩
  have f44 : ∀ b : Bool, (b = true ↔ kd (P.1 (m % 64)) = 6) → ¬ (kd (P.1 (m % 64)) = 6 ∧ m / 64 % 64 = m % 64 + 2) → X 44 0 0 [.int (nI m), .int (bI b)] [] M := by
    intro b hb' hno
    have hS : cstl P m = if kd (P.1 (m % 64)) = 6 ∧ m % 64 = m / 64 % 64 + 2 then 2 else 0 := by unfold cstl; rw [if_neg hno]
    refine l44 _ _ _ _ _ ⟨rfl, vX13_castling_44 hW ⟨fun a => f65 ?_, fun a => c_fromOf hW (by omega) (vkX13_castling_52 hW (c_toOf hW (by omega) (vkX13_castling_56 hW ⟨fun c => f66 2 ?_, fun c => f65 ?_⟩)))⟩⟩
    · rw [hS, if_neg]
      rintro ⟨z, _⟩
      rw [bI_0, hb'.mpr z] at a
      exact absurd a (by decide)
    · rw [hS, if_pos ⟨hb'.mp (bI_n.mp a), (sub2 hb ha).mp c⟩]
    · rw [hS, if_neg (fun z => c ((sub2 hb ha).mpr z.2))]
  have f22 : ∀ b : Bool, (b = true ↔ kd (P.1 (m % 64)) = 6) → X 22 0 0 [.int (nI m)] [.int (bI b)] M := by
    intro b hb'
    refine l22 _ _ _ _ _ ⟨rfl, vX13_castling_22 hW ⟨fun a => f44 b hb' ?_, fun a => c_toOf hW (by omega) (vkX13_castling_31 hW (c_fromOf hW (by omega) (vkX13_castling_35 hW ⟨fun c => f66 1 ?_, fun c => f44 b hb' ?_⟩)))⟩⟩
    · rintro ⟨z, _⟩
      rw [bI_0, hb'.mpr z] at a
      exact absurd a (by decide)
    · unfold cstl
      rw [if_pos ⟨hb'.mp (bI_n.mp a), (sub2 ha hb).mp c⟩]
    · exact fun z => c ((sub2 ha hb).mpr z.2)
  refine l0 _ _ _ _ _ ⟨rfl, vX13_castling_0 hW (c_fromOf hW (by omega) (vkX13_castling_8 hW ?_))⟩
  rw [nI_clamp (by omega), hB]
  refine ⟨vp_in_nI (by omega) (by omega), c_kindOf hW _ (by omega) (vkX13_castling_12 hW ⟨fun a => f22 true ?_, fun a => f22 false ?_⟩)⟩
  · exact ⟨fun _ => (nI_eq (a := kd (P.1 (m % 64))) (b := 6) hk (by decide)).mp a, fun _ => rfl⟩
  · exact ⟨fun z => absurd z (by decide), fun z => absurd ((nI_eq (a := kd (P.1 (m % 64))) (b := 6) hk (by decide)).mpr z) a⟩
def rvP (P : Ps) (m w o : Nat) : Prop := (o % 64 ≠ m % 64 ∧ o / 64 % 64 = m / 64 % 64 ∧ P.1 (o % 64) = P.1 (m % 64)) ∧ (w = 0 ∨ w = 1 ∧ o % 64 % 8 = m % 64 % 8 ∨ w = 2 ∧ o % 64 / 8 = m % 64 / 8)
noncomputable def rvN (P : Ps) (m w o : Nat) : Nat := @ite _ (rvP P m w o) (Classical.propDecidable _) 1 0
noncomputable def rvs (P : Ps) (m w : Nat) : Nat := ((mvs P).map (rvN P m w)).sum
theorem rvN_le (P : Ps) (m w o : Nat) : rvN P m w o ≤ 1 := by unfold rvN; split <;> omega
set_option maxHeartbeats 4000000 in
theorem c_rivals {mc ms : Nat} {M : zM} (hW : zFix M) {P : Ps} (hS : rSh M P) (hL : (mvs P).length ≤ 330) {m w : Nat} (hm : m < 2 ^ 30) (hw : w ≤ 2) {Q : zQt} (hq : Q (some (.int (nI (rvs P m w)))) M) : wX13_rivals mc ms [.ref 55, .int (nI m), .int (nI w)] M Q := by
  refine ⟨⟨Nat.le_of_ble_eq_true rfl, rfl⟩, fun X l0 l11 l79 l80 l110 l128 l132 l133 => ?_⟩
  obtain ⟨hP, hl, hz⟩ := hS
  have kb : ∀ s, s < 64 → M.1 65 s = nI (P.1 s) ∧ P.1 s ≤ 12 := by
    intro s hs
    have := hP.1 s hs
    rwa [Nat.zero_add] at this
  have ha : m % 64 < 64 := Nat.mod_lt _ (by decide)
  have hb : m / 64 % 64 < 64 := Nat.mod_lt _ (by decide)
  have loop : ∀ (n k t : Nat), k + n = (mvs P).length → t ≤ k → t + (((mvs P).drop k).map (rvN P m w)).sum = rvs P m w → X 11 0 0 [.ref 55, .int (nI m), .int (nI w), .int (nI t), .int (nI (m % 64)), .int (nI k)] [] M := by
    intro n
    induction n with
    | zero =>
      intro k t hk ht h
      refine l11 _ _ _ _ _ ⟨rfl, vX13_rivals_11 hW ?_⟩
      rw [show (0 : Int32).toNatClampNeg = 0 from rfl, hz]
      have e := nI_leI (a := (mvs P).length) (b := k) (by omega) (by omega)
      refine ⟨fun _ => ?_, fun d => absurd (e.mpr (by omega)) d⟩
      rw [List.drop_eq_nil_of_le (by omega)] at h
      rw [← h] at hq
      exact hq
    | succ n ih =>
      intro k t hk ht h
      have hkl : k < (mvs P).length := by omega
      have e := nI_leI (a := (mvs P).length) (b := k) (by omega) (by omega)
      have hm' : (mvs P)[k]? = some (mvs P)[k] := List.getElem?_eq_getElem hkl
      have hv := hl k _ hm'
      have hlt := mvs_lt (List.getElem_mem hkl)
      rw [List.drop_eq_getElem_cons hkl, List.map_cons, List.sum_cons] at h
      generalize (mvs P)[k] = o at hm' hv hlt h
      have hoa : o % 64 < 64 := Nat.mod_lt _ (by decide)
      have hob : o / 64 % 64 < 64 := Nat.mod_lt _ (by decide)
      obtain ⟨b1, b2⟩ := kb _ ha
      obtain ⟨c1, c2⟩ := kb _ hoa
      have f133 : ∀ v, v = rvN P m w o → X 133 0 0 [.ref 55, .int (nI m), .int (nI w), .int (nI (m % 64)), .int (nI k)] [.int (nI v), .int (nI t)] M := by
        intro v hv'
        have := rvN_le P m w o
        refine l133 _ _ _ _ _ ⟨rfl, vX13_rivals_133 hW ?_⟩
        rw [nI_add, nI_1]
        exact ih (k + 1) (t + v) (by omega) (by omega) (by rw [hv']; omega)
      have f128 : rvP P m w o → X 128 0 0 [.ref 55, .int (nI m), .int (nI w), .int (nI (m % 64)), .int (nI k)] [.int (nI t)] M := fun h => l128 _ _ _ _ _ ⟨rfl, vX13_rivals_128 hW (f133 1 (by unfold rvN; rw [if_pos h]))⟩
      have f132 : ¬ rvP P m w o → X 132 0 0 [.ref 55, .int (nI m), .int (nI w), .int (nI (m % 64)), .int (nI k)] [.int (nI t)] M := fun h => l132 _ _ _ _ _ ⟨rfl, vX13_rivals_132 hW (f133 0 (by unfold rvN; rw [if_neg h]))⟩
      have w0 := nI_eq (a := w) (b := 0) (by omega) (by decide)
      have w1 := nI_eq (a := w) (b := 1) (by omega) (by decide)
      have w2 := nI_eq (a := w) (b := 2) (by omega) (by decide)
      have mf : ∀ a : Nat, a < 64 → nI a - nI a / (8 : Int32) * (8 : Int32) = nI (a % 8) := fun a h => nI_mod (by omega) (by decide) (by decide)
      have mr : ∀ a : Nat, a < 64 → nI a / (8 : Int32) = nI (a / 8) := fun a h => pk_div (by omega) (by decide) (by decide)
      have ef := nI_eq (a := o % 64 % 8) (b := m % 64 % 8) (by omega) (by omega)
      have er := nI_eq (a := o % 64 / 8) (b := m % 64 / 8) (by omega) (by omega)
      have f80 : ∀ b : Bool, (b = true ↔ o % 64 ≠ m % 64 ∧ o / 64 % 64 = m / 64 % 64 ∧ P.1 (o % 64) = P.1 (m % 64)) → X 80 0 0 [.ref 55, .int (nI m), .int (nI w), .int (nI t), .int (nI (m % 64)), .int (nI k), .int (nI (o % 64))] [.int (bI b)] M := by
        intro b hb'
        have f110 : b = true → w ≠ 0 → ¬ (w = 1 ∧ o % 64 % 8 = m % 64 % 8) → X 110 0 0 [.ref 55, .int (nI m), .int (nI w), .int (nI (m % 64)), .int (nI k), .int (nI (o % 64))] [.int (nI t)] M := by
          intro hb1 hw0 hw1
          refine l110 _ _ _ _ _ ⟨rfl, vX13_rivals_110 hW ?_⟩
          rw [mr _ ha, mr _ hoa]
          refine ⟨fun a => ⟨fun c => f128 ⟨hb'.mp hb1, Or.inr (Or.inr ⟨w2.mp a, er.mp c⟩)⟩, fun c => f132 ?_⟩, fun a => f132 ?_⟩
          · rintro ⟨_, q | q | q⟩
            · exact hw0 q
            · exact hw1 q
            · exact c (er.mpr q.2)
          · rintro ⟨_, q | q | q⟩
            · exact hw0 q
            · exact hw1 q
            · exact a (w2.mpr q.1)
        refine l80 _ _ _ _ _ ⟨rfl, vX13_rivals_80 hW ?_⟩
        rw [mf _ ha, mf _ hoa]
        refine ⟨fun a => f132 ?_, fun a => ⟨fun c => f128 ⟨hb'.mp (bI_n.mp a), Or.inl (w0.mp c)⟩, fun c => ⟨fun d => ⟨fun g => f128 ⟨hb'.mp (bI_n.mp a), Or.inr (Or.inl ⟨w1.mp d, ef.mp g⟩)⟩, fun g => f110 (bI_n.mp a) (fun q => c (w0.mpr q)) (fun q => g (ef.mpr q.2))⟩, fun d => f110 (bI_n.mp a) (fun q => c (w0.mpr q)) (fun q => d (w1.mpr q.1))⟩⟩⟩
        rintro ⟨z, _⟩
        rw [bI_0, hb'.mpr z] at a
        exact absurd a (by decide)
      have f79 : ¬ (o % 64 ≠ m % 64 ∧ o / 64 % 64 = m / 64 % 64 ∧ P.1 (o % 64) = P.1 (m % 64)) → X 79 0 0 [.ref 55, .int (nI m), .int (nI w), .int (nI t), .int (nI (m % 64)), .int (nI k), .int (nI (o % 64))] [] M := fun h => l79 _ _ _ _ _ ⟨rfl, vX13_rivals_79 hW (f80 false ⟨fun z => absurd z (by decide), fun z => absurd z h⟩)⟩
      have e1 := nI_eq (a := o % 64) (b := m % 64) (by omega) (by omega)
      have e2 := nI_eq (a := o / 64 % 64) (b := m / 64 % 64) (by omega) (by omega)
      have e3 := nI_eq (a := P.1 (o % 64)) (b := P.1 (m % 64)) (by omega) (by omega)
      refine l11 _ _ _ _ _ ⟨rfl, vX13_rivals_11 hW ?_⟩
      rw [show (0 : Int32).toNatClampNeg = 0 from rfl, hz, nI_clamp (by omega), hv]
      refine ⟨fun d => absurd (e.mp d) (by omega), fun _ => ⟨vp_in_nI (by omega) (by omega), c_fromOf hW (by omega) (vkX13_rivals_32 hW ⟨fun a => f79 (fun z => z.1 (e1.mp a)), fun a => ?_⟩)⟩⟩
      rw [nI_clamp (by omega), hv]
      refine ⟨vp_in_nI (by omega) (by omega), c_toOf hW (by omega) (vkX13_rivals_51 hW (c_toOf hW (by omega) (vkX13_rivals_55 hW ⟨fun c => ?_, fun c => f79 (fun z => c (e2.mpr z.2.1))⟩)))⟩
      rw [nI_clamp (by omega), nI_clamp (by omega), b1, c1]
      exact ⟨vp_in_nI (by omega) (by omega), vp_in_nI (by omega) (by omega), fun d => f80 true ⟨fun _ => ⟨fun q => a (e1.mpr q), e2.mp c, e3.mp d⟩, fun _ => rfl⟩, fun d => f79 (fun z => d (e3.mpr z.2.2))⟩
  refine l0 _ _ _ _ _ ⟨rfl, vX13_rivals_0 hW (c_fromOf hW (by omega) (vkX13_rivals_6 hW ?_))⟩
  exact loop (mvs P).length 0 0 (by omega) (Nat.le_refl 0) (by rw [Nat.zero_add]; rfl)
