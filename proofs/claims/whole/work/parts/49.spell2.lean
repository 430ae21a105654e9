/-! THE REFERENCE'S SPELLING: sayMan, spell, saySign, isText -/
noncomputable def orgL (P : Ps) (m : Nat) : List Nat := if 0 < rvs P m 0 then (if rvs P m 1 = 0 ∨ ¬ rvs P m 2 = 0 then [97 + m % 64 % 8] else []) ++ (if rvs P m 1 = 0 then [] else [49 + m % 64 / 8]) else []
noncomputable def smL (P : Ps) (m : Nat) : List Nat := [ltr (kd (P.1 (m % 64)))] ++ orgL P m ++ (if 0 < P.1 (m / 64 % 64) then [120] else []) ++ [97 + m / 64 % 64 % 8, 49 + m / 64 % 64 / 8]
theorem orgL_len (P : Ps) (m : Nat) : (orgL P m).length ≤ 2 := by
  unfold orgL
  split
  · split <;> split <;> simp
  · simp
theorem smL_len (P : Ps) (m : Nat) : (smL P m).length ≤ 6 := by
  unfold smL
  have := orgL_len P m
  split <;> simp <;> omega
theorem rvs_le (P : Ps) (m w : Nat) : rvs P m w ≤ (mvs P).length := by
  unfold rvs
  have : ∀ L : List Nat, (L.map (rvN P m w)).sum ≤ L.length := by
    intro L
    induction L with
    | nil => simp
    | cons x t ih =>
      have := rvN_le P m w x
      simp only [List.map_cons, List.sum_cons, List.length_cons]
      omega
  exact this _
set_option maxHeartbeats 4000000 in
theorem c_sayMan {mc ms : Nat} {M : zM} (hW : zFix M) {P : Ps} (hS : rSh M P) (hL : (mvs P).length ≤ 330) (hO : rOut M []) {m : Nat} (hm : m < 2 ^ 30) {Q : zQt} (hq : ∀ N, soF M N → rOut N (smL P m) → Q none N) : wX13_sayMan mc ms [.ref 55, .int (nI m)] M Q := by
  refine ⟨⟨Nat.le_of_ble_eq_true rfl, rfl⟩, fun X l0 l44 l59 l70 l81 l96 l114 => ?_⟩
  have ha : m % 64 < 64 := Nat.mod_lt _ (by decide)
  have hb : m / 64 % 64 < 64 := Nat.mod_lt _ (by decide)
  have kb : ∀ N, soF M N → ∀ s, s < 64 → N.1 65 s = nI (P.1 s) ∧ P.1 s ≤ 12 := by
    intro N hN s hs
    have := (hN.sh hS).1.1 s hs
    rwa [Nat.zero_add] at this
  have r0 := rvs_le P m 0
  have r1 := rvs_le P m 1
  have r2 := rvs_le P m 2
  have f114 : ∀ N, soF M N → rOut N ([ltr (kd (P.1 (m % 64)))] ++ orgL P m ++ (if 0 < P.1 (m / 64 % 64) then [120] else [])) → X 114 0 0 [.ref 55, .int (nI m)] [] N := by
    intro N hN hO
    have hWN := hN.1.fix hW
    have hol := orgL_len P m
    refine l114 _ _ _ _ _ ⟨rfl, vX13_sayMan_114 hWN (c_toOf hWN (by omega) (vkX13_sayMan_119 hWN ?_))⟩
    refine c_saySquare hWN hO ?_ hb (fun K hK hO2 => vkX13_sayMan_122 (hK.1.fix hWN) (hq K (hN.tr hK) hO2))
    split <;> simp <;> omega
  have f96 : ∀ N, soF M N → rOut N ([ltr (kd (P.1 (m % 64)))] ++ orgL P m) → X 96 0 0 [.ref 55, .int (nI m)] [] N := by
    intro N hN hO
    have hWN := hN.1.fix hW
    have hol := orgL_len P m
    obtain ⟨b1, b2⟩ := kb N hN _ hb
    refine l96 _ _ _ _ _ ⟨rfl, vX13_sayMan_96 hWN (c_toOf hWN (by omega) (vkX13_sayMan_104 hWN ?_))⟩
    rw [nI_clamp (by omega), b1]
    have e := nI_leI (a := P.1 (m / 64 % 64)) (b := 0) (by omega) (by decide)
    refine ⟨vp_in_nI (by omega) (by omega), fun a => f114 N hN ?_, fun a => ?_⟩
    · rw [if_neg (by have := e.mp a; omega), List.append_nil]
      exact hO
    · have a' : ¬ P.1 (m / 64 % 64) ≤ 0 := fun q => a (e.mpr q)
      refine c_say hWN hO (by simp; omega) 120 (fun K hK hO2 => ?_)
      refine vkX13_sayMan_114 (hK.1.fix hWN) (f114 K (hN.tr hK) ?_)
      rw [if_pos (by omega)]
      exact hO2
  refine l0 _ _ _ _ _ ⟨rfl, vX13_sayMan_0 hW (c_fromOf hW (by omega) (vkX13_sayMan_4 hW ?_))⟩
  obtain ⟨b1, b2⟩ := kb M soF.rf _ ha
  rw [nI_clamp (by omega), b1]
  refine ⟨vp_in_nI (by omega) (by omega), c_kindOf hW _ (by omega) (vkX13_sayMan_15 hW (c_letter hW _ (by unfold kd; split <;> omega) (vkX13_sayMan_18 hW ?_)))⟩
  refine c_say hW hO (by decide) _ (fun N hN hON => ?_)
  rw [List.nil_append] at hON
  have hWN := hN.1.fix hW
  have hSN := hN.sh hS
  have e0 := nI_leI (a := rvs P m 0) (b := 0) (by omega) (by decide)
  have e1 := nI_eq (a := rvs P m 1) (b := 0) (by omega) (by decide)
  have e2 := nI_eq (a := rvs P m 2) (b := 0) (by omega) (by decide)
  refine vkX13_sayMan_21 hWN (c_rivals hWN hSN hL hm (w := 0) (by omega) (vkX13_sayMan_27 hWN ⟨fun a => f96 N hN ?_, fun a => ?_⟩))
  · have := e0.mp a
    have eo : orgL P m = [] := by unfold orgL; rw [if_neg (by omega)]
    rw [eo, List.append_nil]
    exact hON
  have hr0 : 0 < rvs P m 0 := by
    have : ¬ rvs P m 0 ≤ 0 := fun q => a (e0.mpr q)
    omega
  have eo : orgL P m = (if rvs P m 1 = 0 ∨ ¬ rvs P m 2 = 0 then [97 + m % 64 % 8] else []) ++ (if rvs P m 1 = 0 then [] else [49 + m % 64 / 8]) := by unfold orgL; rw [if_pos hr0]
  have f81 : ∀ (f : Bool) (K : zM), (f = true ↔ rvs P m 1 = 0) → soF M K → rOut K ([ltr (kd (P.1 (m % 64)))] ++ (if rvs P m 1 = 0 ∨ ¬ rvs P m 2 = 0 then [97 + m % 64 % 8] else [])) → X 81 0 0 [.ref 55, .int (nI m), .int (nI (m % 64)), .int (bI f)] [] K := by
    intro f K hf hK hO2
    have hWK := hK.1.fix hW
    refine l81 _ _ _ _ _ ⟨rfl, vX13_sayMan_81 hWK ⟨fun c => ?_, fun c => f96 K hK ?_⟩⟩
    · rw [show nI (m % 64) / (8 : Int32) = nI (m % 64 / 8) from pk_div (by omega) (by decide) (by decide), show (49 : Int32) + nI (m % 64 / 8) = nI (49 + m % 64 / 8) from nI_add 49 _]
      refine c_say hWK hO2 (by split <;> simp) _ (fun Z hZ hO3 => ?_)
      refine vkX13_sayMan_96 (hZ.1.fix hWK) (f96 Z (hK.tr hZ) ?_)
      rw [eo, if_neg (c := rvs P m 1 = 0) (fun z => by rw [bI_0, hf.mpr z] at c; exact absurd c (by decide)), ← List.append_assoc]
      exact hO3
    · rw [eo, if_pos (c := rvs P m 1 = 0) (hf.mp (bI_n.mp c)), List.append_nil]
      exact hO2
  have f70 : ∀ (f : Bool), (f = true ↔ rvs P m 1 = 0) → (rvs P m 1 = 0 ∨ ¬ rvs P m 2 = 0) → X 70 0 0 [.ref 55, .int (nI m), .int (nI (m % 64)), .int (bI f)] [] N := by
    intro f hf hc
    refine l70 _ _ _ _ _ ⟨rfl, vX13_sayMan_70 hWN ?_⟩
    rw [show nI (m % 64) - nI (m % 64) / (8 : Int32) * (8 : Int32) = nI (m % 64 % 8) from nI_mod (by omega) (by decide) (by decide), show (97 : Int32) + nI (m % 64 % 8) = nI (97 + m % 64 % 8) from nI_add 97 _]
    refine c_say hWN hON (by simp) _ (fun K hK hO2 => ?_)
    refine vkX13_sayMan_81 (hK.1.fix hWN) (f81 f K hf (hN.tr hK) ?_)
    rw [if_pos hc]
    exact hO2
  have f59 : ∀ (f r : Bool), (f = true ↔ rvs P m 1 = 0) → (r = true ↔ rvs P m 2 = 0) → X 59 0 0 [.ref 55, .int (nI m), .int (nI (m % 64)), .int (bI f)] [.int (bI r)] N := by
    intro f r hf hr
    refine l59 _ _ _ _ _ ⟨rfl, vX13_sayMan_59 hWN ⟨fun c => ⟨fun d => f70 f hf (Or.inr ?_), fun d => f81 f N hf hN ?_⟩, fun c => f70 f hf (Or.inl (hf.mp (bI_n.mp c)))⟩⟩
    · intro z
      rw [bI_0, hr.mpr z] at d
      exact absurd d (by decide)
    · rw [if_neg]
      · rw [List.append_nil]
        exact hON
      · rintro (z | z)
        · rw [bI_0, hf.mpr z] at c
          exact absurd c (by decide)
        · exact z (hr.mp (bI_n.mp d))
  have f44 : ∀ (f : Bool), (f = true ↔ rvs P m 1 = 0) → X 44 0 0 [.ref 55, .int (nI m), .int (nI (m % 64))] [.int (bI f)] N := by
    intro f hf
    refine l44 _ _ _ _ _ ⟨rfl, vX13_sayMan_44 hWN (c_rivals hWN hSN hL hm (w := 2) (by omega) (vkX13_sayMan_51 hWN ⟨fun c => f59 f true hf ⟨fun _ => e2.mp c, fun _ => rfl⟩, fun c => f59 f false hf ⟨fun z => absurd z (by decide), fun z => absurd (e2.mpr z) c⟩⟩))⟩
  exact c_rivals hWN hSN hL hm (w := 1) (by omega) (vkX13_sayMan_36 hWN ⟨fun c => f44 true ⟨fun _ => e1.mp c, fun _ => rfl⟩, fun c => f44 false ⟨fun z => absurd z (by decide), fun z => absurd (e1.mpr z) c⟩⟩)
/-- the spelling of a castling -/
def casL (n : Nat) : List Nat := (List.range n).map (fun k => if k % 2 = 0 then 48 else 45)
noncomputable def spl (P : Ps) (m : Nat) : List Nat := if cstl P m = 1 then casL 3 else if cstl P m = 2 then casL 5 else if kd (P.1 (m % 64)) = 1 then (if m % 64 % 8 = m / 64 % 64 % 8 then [] else [97 + m % 64 % 8, 120]) ++ [97 + m / 64 % 64 % 8, 49 + m / 64 % 64 / 8] ++ (if 0 < m / 4096 then [ltr (m / 4096)] else []) else smL P m
theorem spl_len (P : Ps) (m : Nat) : (spl P m).length ≤ 6 := by
  unfold spl
  have := smL_len P m
  split
  · simp [casL]
  · split
    · simp [casL]
    · split
      · split <;> split <;> simp
      · exact this
set_option maxHeartbeats 4000000 in
theorem c_spell {mc ms : Nat} {M : zM} (hW : zFix M) {P : Ps} (hS : rSh M P) (hL : (mvs P).length ≤ 330) {m : Nat} (hm : m < 2 ^ 30) {Q : zQt} (hq : ∀ N, soF M N → rOut N (spl P m) → Q none N) : wX13_spell mc ms [.ref 55, .int (nI m)] M Q := by
  refine ⟨⟨Nat.le_of_ble_eq_true rfl, rfl⟩, fun X l0 l30 l43 l61 l114 l147 => ?_⟩
  have ha : m % 64 < 64 := Nat.mod_lt _ (by decide)
  have hb : m / 64 % 64 < 64 := Nat.mod_lt _ (by decide)
  have f147 : ∀ N, soF M N → rOut N (spl P m) → X 147 0 0 [] [] N := fun N hN hO => l147 _ _ _ _ _ ⟨rfl, vX13_spell_147 (hN.1.fix hW) (hq N hN hO)⟩
  refine l0 _ _ _ _ _ ⟨rfl, vX13_spell_0 hW (fun N hN' => ?_)⟩
  have hN : soF M N := by rw [hN']; exact ⟨zSm.I (by decide), fun j hj => zsI_n hj⟩
  have hO : rOut N [] := ⟨by rw [hN', zsI_s]; rfl, fun k v h => by simp at h⟩
  have hWN := hN.1.fix hW
  have hSN := hN.sh hS
  refine c_fromOf hWN (by omega) (vkX13_spell_9 hWN (c_toOf hWN (by omega) (vkX13_spell_14 hWN (c_castling hWN hSN.1 hm (vkX13_spell_20 hWN ?_)))))
  have hc2 : cstl P m ≤ 2 := by unfold cstl; split <;> (try split) <;> omega
  have ec := nI_leI (a := cstl P m) (b := 0) (by omega) (by decide)
  obtain ⟨b1, b2⟩ := hSN.1.1 (m % 64) ha
  rw [Nat.zero_add] at b1
  refine ⟨fun a => ?_, fun a => ?_⟩
  · have hc0 : cstl P m = 0 := by have := ec.mp a; omega
    rw [nI_clamp (by omega), b1]
    have hk : kd (P.1 (m % 64)) < 2 ^ 31 := by unfold kd; split <;> omega
    have ek := nI_eq (a := kd (P.1 (m % 64))) (b := 1) hk (by decide)
    refine ⟨vp_in_nI (by omega) (by omega), c_kindOf hWN _ (by omega) (vkX13_spell_82 hWN ⟨fun c => ?_, fun c => ?_⟩)⟩
    · have hS1 : spl P m = (if m % 64 % 8 = m / 64 % 64 % 8 then [] else [97 + m % 64 % 8, 120]) ++ [97 + m / 64 % 64 % 8, 49 + m / 64 % 64 / 8] ++ (if 0 < m / 4096 then [ltr (m / 4096)] else []) := by
        unfold spl; rw [if_neg (by omega), if_neg (by omega), if_pos (ek.mp c)]
      have f114 : ∀ K, soF M K → rOut K (if m % 64 % 8 = m / 64 % 64 % 8 then [] else [97 + m % 64 % 8, 120]) → X 114 0 0 [.ref 55, .int (nI m), .int (nI (m / 64 % 64))] [] K := by
        intro K hK hO2
        have hWK := hK.1.fix hW
        refine l114 _ _ _ _ _ ⟨rfl, vX13_spell_114 hWK (c_saySquare hWK hO2 (by split <;> simp) hb (fun Z hZ hO3 => ?_))⟩
        have hWZ := hZ.1.fix hWK
        refine vkX13_spell_119 hWZ ?_
        rw [show nI m / (4096 : Int32) = nI (m / 4096) from pk_div (by omega) (by decide) (by decide)]
        have e0 := nI_leI (a := m / 4096) (b := 0) (by omega) (by decide)
        refine ⟨fun d => f147 Z (hK.tr hZ) ?_, fun d => c_letter hWZ _ (by omega) (vkX13_spell_136 hWZ (c_say hWZ hO3 (by split <;> simp) _ (fun Y hY hO4 => vkX13_spell_139 (hY.1.fix hWZ) (f147 Y ((hK.tr hZ).tr hY) ?_))))⟩
        · rw [hS1, if_neg (c := 0 < m / 4096) (by have := e0.mp d; omega), List.append_nil]
          exact hO3
        · have d' : ¬ m / 4096 ≤ 0 := fun q => d (e0.mpr q)
          rw [hS1, if_pos (c := 0 < m / 4096) (by omega)]
          exact hO4
      rw [show nI (m % 64) - nI (m % 64) / (8 : Int32) * (8 : Int32) = nI (m % 64 % 8) from nI_mod (by omega) (by decide) (by decide), show nI (m / 64 % 64) - nI (m / 64 % 64) / (8 : Int32) * (8 : Int32) = nI (m / 64 % 64 % 8) from nI_mod (by omega) (by decide) (by decide), show (97 : Int32) + nI (m % 64 % 8) = nI (97 + m % 64 % 8) from nI_add 97 _]
      have ef := nI_eq (a := m % 64 % 8) (b := m / 64 % 64 % 8) (by omega) (by omega)
      refine ⟨fun d => f114 N hN ?_, fun d => c_say hWN hO (by simp) _ (fun K hK hO2 => vkX13_spell_108 (hK.1.fix hWN) (c_say (hK.1.fix hWN) hO2 (by simp) 120 (fun Z hZ hO3 => vkX13_spell_114 (hZ.1.fix (hK.1.fix hWN)) (f114 Z ((hN.tr hK).tr hZ) ?_))))⟩
      · rw [if_pos (ef.mp d)]
        exact hO
      · rw [if_neg (fun q => d (ef.mpr q))]
        exact hO3
    · have hS1 : spl P m = smL P m := by
        unfold spl; rw [if_neg (by omega), if_neg (by omega), if_neg (fun q => c (ek.mpr q))]
      exact c_sayMan hWN hSN hL hO hm (fun K hK hO2 => vkX13_spell_147 (hK.1.fix hWN) (f147 K (hN.tr hK) (by rw [hS1]; exact hO2)))
  · have hc0 : 0 < cstl P m := by
      have : ¬ cstl P m ≤ 0 := fun q => a (ec.mpr q)
      omega
    have e1 := nI_eq (a := cstl P m) (b := 1) (by omega) (by decide)
    obtain ⟨n, hn⟩ : ∃ n, n = if cstl P m = 1 then 3 else 5 := ⟨_, rfl⟩
    have hn5 : n ≤ 5 := by rw [hn]; split <;> omega
    have hS1 : spl P m = casL n := by
      unfold spl
      by_cases c : cstl P m = 1
      · rw [if_pos c, hn, if_pos c]
      · rw [if_neg c, if_pos (by omega), hn, if_neg c]
    have loop : ∀ (r k : Nat) (K : zM), k + r = n → soF M K → rOut K (casL k) → X 30 0 0 [.ref 55, .int (nI (cstl P m)), .int (nI k)] [] K := by
      intro r
      induction r with
      | zero =>
        intro k K hk hK hO2
        have hWK := hK.1.fix hW
        have f43 : ∀ v, v = n → X 43 0 0 [.ref 55, .int (nI (cstl P m)), .int (nI k)] [.int (nI v), .int (nI k)] K := by
          intro v hv
          refine l43 _ _ _ _ _ ⟨rfl, vX13_spell_43 hWK ⟨fun _ => f147 K hK ?_, fun d => absurd ((nI_leI (a := v) (b := k) (by omega) (by omega)).mpr (by omega)) d⟩⟩
          rw [hS1, ← show k = n by omega]
          exact hO2
        exact l30 _ _ _ _ _ ⟨rfl, vX13_spell_30 hWK ⟨fun c => f43 3 (by rw [hn, if_pos (e1.mp c)]), fun c => f43 5 (by rw [hn, if_neg (fun q => c (e1.mpr q))])⟩⟩
      | succ r ih =>
        intro k K hk hK hO2
        have hWK := hK.1.fix hW
        have hlen : (casL k).length < 100 := by simp [casL]; omega
        have f61 : ∀ v, v = (if k % 2 = 0 then 48 else 45) → X 61 0 0 [.ref 55, .int (nI (cstl P m)), .int (nI k)] [.int (nI v), .ref 55] K := by
          intro v hv
          refine l61 _ _ _ _ _ ⟨rfl, vX13_spell_61 hWK (c_say hWK hO2 hlen v (fun Z hZ hO3 => vkX13_spell_64 (hZ.1.fix hWK) ?_))⟩
          rw [nI_1]
          refine ih (k + 1) Z (by omega) (hK.tr hZ) ?_
          unfold casL
          rw [List.range_succ, List.map_append, List.map_singleton, ← hv]
          exact hO3
        have f43 : ∀ v, v = n → X 43 0 0 [.ref 55, .int (nI (cstl P m)), .int (nI k)] [.int (nI v), .int (nI k)] K := by
          intro v hv
          refine l43 _ _ _ _ _ ⟨rfl, vX13_spell_43 hWK ⟨fun d => absurd ((nI_leI (a := v) (b := k) (by omega) (by omega)).mp d) (by omega), fun _ => ?_⟩⟩
          rw [show nI k - nI k / (2 : Int32) * (2 : Int32) = nI (k % 2) from nI_mod (by omega) (by decide) (by decide)]
          have e2 := nI_eq (a := k % 2) (b := 0) (by omega) (by decide)
          exact ⟨fun c => f61 48 (by rw [if_pos (e2.mp c)]), fun c => f61 45 (by rw [if_neg (fun q => c (e2.mpr q))])⟩
        exact l30 _ _ _ _ _ ⟨rfl, vX13_spell_30 hWK ⟨fun c => f43 3 (by rw [hn, if_pos (e1.mp c)]), fun c => f43 5 (by rw [hn, if_neg (fun q => c (e1.mpr q))])⟩⟩
    exact loop n 0 N (by omega) hN hO
