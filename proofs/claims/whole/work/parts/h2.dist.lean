/-! THE CLASS'S ENDINGS: the distance of a position -/
def cC (kn : Nat → Bool) : Nat := (if kn 1 = true then 0 else 8) + (if kn 4 = true then 0 else 8) + (if kn 5 = true then 0 else 8)
def cD (kn : Nat → Bool) : Nat := (if kn 1 = true then 0 else 65548) + (if kn 4 = true then 0 else 65548) + (if kn 5 = true then 0 else 65548)
theorem cKn.con {M : zM} {kn kn2 : Nat → Bool} (h : ∀ j, (j = 1 ∨ j = 4 ∨ j = 5) → kn j = kn2 j) (g : cKn M kn) : cKn M kn2 := fun k kk => by rw [← h k kk]; exact g k kk
theorem cC_con {kn kn2 : Nat → Bool} (h : ∀ j, (j = 1 ∨ j = 4 ∨ j = 5) → kn j = kn2 j) : cC kn = cC kn2 ∧ cD kn = cD kn2 := by
  unfold cC cD
  rw [h 1 (by omega), h 4 (by omega), h 5 (by omega)]
  exact ⟨rfl, rfl⟩
theorem cC_set {kn : Nat → Bool} {k : Nat} (kk : k = 1 ∨ k = 4 ∨ k = 5) : cC kn = cC (fun j => if j = k then true else kn j) + (if kn k = true then 0 else 8) ∧ cD kn = cD (fun j => if j = k then true else kn j) + (if kn k = true then 0 else 65548) := by
  rcases kk with e | e | e <;> subst e <;> simp [cC, cD] <;> omega
/-- the number of men, and of a side's -/
theorem men_3 {B : Nat → Nat} (h6 : hm B 6 = 1) (h12 : hm B 12 = 1) : mnS B = 2 + (oL B 64).length := by
  unfold mnS oL
  rw [← cn_filter (p := oB B)]
  unfold hm at h6 h12
  have : cn (fun s => if 0 < B s then 1 else 0) 64 = cn (fun s => ((if B s = 6 then 1 else 0) + (if B s = 12 then 1 else 0)) + (if oB B s = true then 1 else 0)) 64 := cn_congr 64 (fun s _ => by
    unfold oB
    by_cases a : B s = 0
    · simp [a]
    · by_cases b : B s = 6
      · simp [b]
      · by_cases c : B s = 12
        · simp [c]
        · simp [a, b, c]
          try omega)
  rw [this, cn_add, cn_add, h6, h12]
theorem camp_0 {B : Nat → Nat} {q : Nat} (h6 : hm B 6 = 1) (hq : oL B 64 = [q]) : cn (fun s => if sdI (B s) = 0 then 1 else 0) 64 = 1 + (if B q < 7 then 1 else 0) := by
  have e : cn (fun s => if sdI (B s) = 0 then 1 else 0) 64 = cn (fun s => (if B s = 6 then 1 else 0) + (if (decide (B s < 7) && oB B s) = true then 1 else 0)) 64 := cn_congr 64 (fun s _ => by
    unfold oB sdI
    by_cases a : B s = 0
    · simp [a]
    · by_cases b : B s = 6
      · simp [b]
      · by_cases c : B s < 7
        · simp [a, b, c]
          try omega
        · simp [a, b, c]
          try omega)
  unfold hm at h6
  rw [e, cn_add, h6, cn_filter (p := fun s => decide (B s < 7) && oB B s), ← List.filter_filter]
  have : (List.range 64).filter (fun a => oB B a) = [q] := hq
  rw [this]
  by_cases z : B q < 7
  · simp [z]
  · simp [z]
theorem man_q {B : Nat → Nat} {q c : Nat} {x y : Int64} (hc : c ≤ 1) (hB : ∀ s, s < 64 → B s ≤ 12) (hq : oL B 64 = [q]) (hs : sdI (B q) = c) (hx : ∀ s, s < 64 → (bt x s = true ↔ sdI (B s) = c)) (hy : ∀ s, s < 64 → (bt y s = true ↔ B s = 6 + 6 * c)) : sqs (x &&& (y ^^^ (-1))) = [q] := by
  have e : sqs (x &&& (y ^^^ (-1))) = (List.range 64).filter (fun s => decide (sdI (B s) = c) && oB B s) := by
    unfold sqs
    refine List.filter_congr (fun s hs => ?_)
    have hs := List.mem_range.mp hs
    have b12 := hB s hs
    refine Bool.eq_iff_iff.mpr ?_
    rw [bt_and, bt_not _ hs, Bool.and_eq_true, Bool.not_eq_true', ← Bool.not_eq_true, hx s hs, hy s hs, Bool.and_eq_true, decide_eq_true_eq]
    refine and_congr_right (fun h => ?_)
    have o := (own_man b12 hc).mp h
    unfold oB
    have c01 : c = 0 ∨ c = 1 := by omega
    rcases c01 with z | z <;> subst z <;> simp <;> omega
  rw [e, ← List.filter_filter]
  have : (List.range 64).filter (fun a => oB B a) = [q] := hq
  rw [this]
  simp [hs]
theorem cOk.fr {C : List Nat} {M K : zM} (hW : zFix M) (hC : cOk M) (f : xFr C M K) (h : ∀ b, 18 ≤ b → b ≤ 23 → b ∉ C) : cOk K := by
  have l82 := fix_len hW
  have j : ∀ b, 18 ≤ b → b ≤ 23 → K.2.1 b = M.2.1 b := fun b h1 h2 => (f.2.2.2 b (h b h1 h2) (Or.inl (by omega))).2.1
  unfold cOk cRay at hC ⊢
  rw [j 18 (by omega) (by omega), j 19 (by omega) (by omega), j 20 (by omega) (by omega), j 21 (by omega) (by omega), j 22 (by omega) (by omega), j 23 (by omega) (by omega)]
  exact hC
theorem bPs.fr {C : List Nat} {M K : zM} {g : Nat} (hW : zWd M g) {P : Ps} (hP : bPs M g P) (f : xFr C M K) (h : ∀ b ∈ C, b < g + 1 ∨ g + 4 < b) : bPs K g P := by
  have l82 := fix_len hW.1
  have q : bPs (M.1, M.2.1, K.2.2) g P := hP
  refine bPs.sm f.sm (fun b b1 b2 w => ?_) q
  rw [List.mem_append, List.mem_range'_1] at w
  rcases w with w | w
  · have := h b w; omega
  · rcases hW.2 with e | e <;> omega
set_option maxHeartbeats 4000000 in
theorem c_distC {mc ms : Nat} {M : zM} {g : Nat} (hW : zWd M g) (hC : cOk M) {kn : Nat → Bool} (hK : cKn M kn) {P : Ps} (hG : Gd P) (hP : bPs M g P) (hmc : cC kn ≤ mc + cC (knE kn P)) (hms : cD kn ≤ ms + cD (knE kn P)) {Q : zQt} (hq : ∀ K, xFr [34] M K → cKn K (knE kn P) → Q (some (.int (dsV P))) K) : wX3_distance mc ms [.ref 33, .ref (g + 1)] M Q := by
  refine ⟨⟨Nat.le_of_ble_eq_true rfl, rfl⟩, fun X l0 l15 l35 l88 l106 l122 l174 => ?_⟩
  have l82 := fix_len hW.1
  have g3 : g = 35 ∨ g = 45 := hW.2
  have f15 : eKd P = 0 → ∀ u v, X 15 u v [] [] M := fun h u v => by
    have := hq M (xFr.rf hW.1) (by rw [knE_0 h]; exact hK)
    rw [dsV_n h hG] at this
    exact l15 _ _ _ _ _ ⟨rfl, this⟩
  have pr := hG.1.2.2.1
  have r5 : M.1 (g + 1) 5 = nI P.2.2.1 := hP.2.2.1
  refine l0 _ _ _ _ _ ⟨rfl, ⟨fgs_1 hW, ⟨fun z => ?_, fun z => ?_⟩⟩⟩
  case refine_2 =>
    refine f15 ?_ _ _
    have z : ¬ P.2.2.1 = 0 := fun q => z (by show M.1 (g + 1) 5 = 0; rw [r5, q]; rfl)
    unfold eKd
    split
    · rw [if_neg z]
    · rfl
  have r0 : P.2.2.1 = 0 := (nI_eq (b := 0) (by omega) (by decide)).mp (r5.symm.trans z)
  refine ⟨Nat.le_of_ble_eq_true rfl, rfl, fgs_1 hW, 0, 0, Nat.zero_le _, Nat.zero_le _, c_manyMen hW hP.1 ?_⟩
  rw [men_3 hG.2.1.1 hG.2.1.2]
  have ol := oL_len P.1 64
  refine ⟨fun z => ?_, fun z => ?_⟩
  case refine_2 =>
    refine f15 ?_ _ _
    have z : ¬ (oL P.1 64).length = 1 := fun q => z (by rw [q]; rfl)
    unfold eKd
    split
    · rename_i q e; rw [e] at z; exact absurd rfl z
    · rfl
  have z : 2 + (oL P.1 64).length = 3 := (nI_eq (b := 3) (by omega) (by decide)).mp z
  obtain ⟨q, eq⟩ : ∃ q, oL P.1 64 = [q] := List.length_eq_one_iff.mp (by omega)
  have hqm : q < 64 ∧ oB P.1 q = true := by
    have : q ∈ oL P.1 64 := by rw [eq]; simp
    unfold oL at this
    rw [List.mem_filter, List.mem_range] at this
    exact this
  have b12 := hG.1.1 q hqm.1
  have ko := (oB_kd b12).mp hqm.2
  have k6 : P.1 q ≠ 6 ∧ P.1 q ≠ 12 := ⟨fun e => ko.2 ((kd_6 b12).mpr (Or.inl e)), fun e => ko.2 ((kd_6 b12).mpr (Or.inr e))⟩
  obtain ⟨c, hc⟩ : ∃ c, c = if P.1 q < 7 then 0 else 1 := ⟨_, rfl⟩
  have c01 : (P.1 q < 7 ∧ c = 0) ∨ (7 ≤ P.1 q ∧ c = 1) := by
    by_cases h : P.1 q < 7
    · rw [if_pos h] at hc; exact Or.inl ⟨h, hc⟩
    · rw [if_neg h] at hc; exact Or.inr ⟨by omega, hc⟩
  obtain ⟨k, hk⟩ : ∃ k, k = P.1 q - 6 * c := ⟨_, rfl⟩
  have k15 : 1 ≤ k ∧ k ≤ 5 := by rcases c01 with ⟨a, b⟩ | ⟨a, b⟩ <;> omega
  have kdk : kd (P.1 q) = k := by unfold kd; rcases c01 with ⟨a, b⟩ | ⟨a, b⟩ <;> split <;> omega
  have ek : eKd P = k := by unfold eKd; rw [eq]; show (if P.2.2.1 = 0 then kd (P.1 q) else 0) = k; rw [if_pos r0, kdk]
  have kE : ∀ j, knE kn P j = (kn j || ndd k j) := fun j => by rw [knE_n (by omega), ek]
  have sd : sdI (P.1 q) = (c : Int) := by
    unfold sdI
    rw [if_neg ko.1]
    rcases c01 with ⟨a, b⟩ | ⟨a, b⟩
    · rw [if_neg (by omega), b]; rfl
    · rw [if_pos a, b]; rfl
  obtain ⟨ha, hb, hka, hkb⟩ := kPl_Gd hG
  obtain ⟨a, ea⟩ : ∃ a, a = kq P.1 0 64 := ⟨_, rfl⟩
  obtain ⟨b, eb⟩ : ∃ b, b = kq P.1 1 64 := ⟨_, rfl⟩
  rw [← ea] at ha hka
  rw [← eb] at hb hkb
  have dof : ∀ v, dOf P a b v → v = dsV P := fun v h => dsV_of (by rw [← ea, ← eb]; exact h)
  -- the table is there
  have f106 : ∀ (u v : Nat) (K : zM) (kn2 : Nat → Bool), (k = 1 ∨ k = 4 ∨ k = 5) → (k = 1 → kn2 4 = true ∧ kn2 5 = true) → xFr [34] M K → cKn K kn2 → (∀ j, (j = 1 ∨ j = 4 ∨ j = 5) → (if j = k then true else kn2 j) = knE kn P j) → u + cC kn2 ≤ mc + cC (knE kn P) → v + cD kn2 ≤ ms + cD (knE kn P) → X 106 u v [.ref 33, .ref (g + 1), .int (nI c), .int (nI q), .int (nI k)] [] K := by
    intro u v K kn2 kk hb2 fK cK hfin hu hv
    have WK : zWd K g := ⟨fK.1, hW.2⟩
    have us := cC_set (kn := kn2) kk
    have uf := cC_con hfin
    refine l106 _ _ _ _ _ ⟨rfl, ⟨Nat.le_of_ble_eq_true rfl, rfl, fxs_33 fK.1, (if kn2 k = true then 0 else 8), (if kn2 k = true then 0 else 65548), by omega, by omega, ?_⟩⟩
    refine c_prepare WK (hC.fr hW.1 fK (fun b h1 h2 q => by simp at q; omega)) cK kk hb2 (fun z => by rw [z]; exact ⟨Nat.le_refl _, Nat.le_refl _⟩) (fun K2 f2 c2 => ?_)
    obtain ⟨u2, hu2⟩ : ∃ u2, u2 = u + (if kn2 k = true then 0 else 8) := ⟨_, rfl⟩
    obtain ⟨v2, hv2⟩ : ∃ v2, v2 = v + (if kn2 k = true then 0 else 65548) := ⟨_, rfl⟩
    rw [← hu2, ← hv2]
    have um : u2 ≤ mc := by omega
    have vm : v2 ≤ ms := by omega
    have F2 := fK.tr f2
    have C2 := c2.con hfin
    have W2 : zWd K2 g := ⟨f2.1, hW.2⟩
    have P2 : bPs K2 g P := hP.fr hW F2 (fun b h => by simp at h; omega)
    obtain ⟨e, e1, e2⟩ := (C2 k kk).2 (by rw [kE]; unfold ndd; simp)
    obtain ⟨t, ht⟩ : ∃ t, t = if c = 0 then 0 else 56 := ⟨_, rfl⟩
    obtain ⟨x1, hx1⟩ : ∃ x1, x1 = if c = 0 then a else b := ⟨_, rfl⟩
    obtain ⟨x2, hx2⟩ : ∃ x2, x2 = if c = 0 then b else a := ⟨_, rfl⟩
    have xt : ∀ y, y < 64 → nI y ^^^ nI t = nI (if c = 0 then y else y ^^^ 56) ∧ (if c = 0 then y else y ^^^ 56) < 64 := fun y hy => by
      rcases c01 with ⟨_, h⟩ | ⟨_, h⟩
      · rw [ht, h, if_pos rfl, if_pos rfl]
        exact ⟨Int32.xor_zero, hy⟩
      · rw [ht, h, if_neg (by decide), if_neg (by decide)]
        exact nI_56 hy
    have hx1l : x1 < 64 := by rw [hx1]; split <;> assumption
    have hx2l : x2 < 64 := by rw [hx2]; split <;> assumption
    have kn1 : kq P.1 c 64 = x1 := by rcases c01 with ⟨_, h⟩ | ⟨_, h⟩ <;> rw [hx1, h] <;> first | exact ea.symm | exact eb.symm
    have kn2' : kq P.1 (1 - c) 64 = x2 := by rcases c01 with ⟨_, h⟩ | ⟨_, h⟩ <;> rw [hx2, h] <;> first | exact eb.symm | exact ea.symm
    have hm1 : ∀ c', c' ≤ 1 → hm P.1 (6 + 6 * c') = 1 := fun c' h => by
      have : c' = 0 ∨ c' = 1 := by omega
      rcases this with z | z <;> rw [z]
      · exact hG.2.1.1
      · exact hG.2.1.2
    have cc : c ≤ 1 := by omega
    have f174 : ∀ sm : Bool, (sm = true ↔ P.2.1 = c) → X 174 u2 v2 [] [.int (bI sm), .int (nI (if c = 0 then x2 else x2 ^^^ 56)), .int (nI (64 * (if c = 0 then q else q ^^^ 56) + (if c = 0 then x1 else x1 ^^^ 56))), .ref e] K2 := by
      intro sm hsm
      refine l174 _ _ _ _ _ ⟨rfl, ⟨Nat.le_of_ble_eq_true rfl, rfl, e2.1.1, 0, 0, um, vm, ?_⟩⟩
      have kr : kR K2 e k 100 sm noT := by cases sm; exact e2.2.2.2.1; exact e2.2.2.1
      refine c_read W2 k15.1 k15.2 e2.1 kr (xt x1 hx1l).2 (xt q hqm.1).2 (xt x2 hx2l).2 (fun v hv => ?_)
      have hd : dOf P a b v := by
        unfold dOf
        rw [eq]
        show if P.2.2.1 = 0 then _ else _
        rw [if_pos r0]
        rcases c01 with ⟨h1, h2⟩ | ⟨h1, h2⟩
        · rw [if_pos h1]
          rw [hx1, hx2, h2] at hv
          simp only [if_pos] at hv
          rw [show decide (P.2.1 = 0) = sm from bool_iff (P := P.2.1 = 0) (by simp) (by rw [hsm, h2])]
          rw [show P.1 q = k by omega]
          exact hv
        · rw [if_neg (by omega)]
          rw [hx1, hx2, h2] at hv
          simp only [if_neg (show ¬ (1 : Nat) = 0 by decide)] at hv
          rw [show decide (P.2.1 = 1) = sm from bool_iff (P := P.2.1 = 1) (by simp) (by rw [hsm, h2])]
          rw [show P.1 q - 6 = k by omega]
          exact hv
      rw [dof v hd]
      exact hq K2 F2 C2
    have f122 : X 122 u2 v2 [.ref 33, .ref (g + 1), .int (nI c), .int (nI q), .int (nI k)] [.int (nI t)] K2 := by
      refine l122 _ _ _ _ _ ⟨rfl, ⟨Nat.le_of_ble_eq_true rfl, rfl, fgs_1 W2, 0, 0, um, vm, ?_⟩⟩
      refine c_kingOf W2 P2.1 cc (hm1 c cc) ?_
      rw [kn1]
      refine ⟨fxs_33 W2.1, 34, fxr_33_1 W2.1, ⟨6, fxs_34 W2.1, vp_in_nI (by omega) (by omega), e, ?_, ⟨Nat.le_of_ble_eq_true rfl, rfl, fgs_1 W2, 0, 0, um, vm, ?_⟩⟩⟩
      · rw [nI_clamp (by omega)]; exact e1
      · have e3 : (1 : Int32) - nI c = nI (1 - c) := pk_sub (a := 1) (b := c) (by omega)
        show wX0_kingOf 0 0 [.ref (g + 1), .int ((1 : Int32) - nI c)] K2 _
        rw [e3]
        refine c_kingOf W2 P2.1 (by omega) (hm1 _ (by omega)) ?_
        rw [kn2']
        have e4 : (nI q ^^^ nI t) * (64 : Int32) + (nI x1 ^^^ nI t) = nI (64 * (if c = 0 then q else q ^^^ 56) + (if c = 0 then x1 else x1 ^^^ 56)) := by
          rw [(xt q hqm.1).1, (xt x1 hx1l).1, show nI (if c = 0 then q else q ^^^ 56) * (64 : Int32) = nI ((if c = 0 then q else q ^^^ 56) * 64) from pk_mul _ 64, nI_add, Nat.mul_comm]
        have s4 : K2.1 (g + 1) 4 = nI P.2.1 := P2.2.1
        have g1 : K2.1 (g + 1) 4 = nI c → X 174 u2 v2 [] [.int 1, .int (nI x2 ^^^ nI t), .int ((nI q ^^^ nI t) * (64 : Int32) + (nI x1 ^^^ nI t)), .ref e] K2 := fun h => by
          rw [e4, (xt x2 hx2l).1]
          rw [s4] at h
          exact f174 true ⟨fun _ => (nI_eq (by have := hG.1.2.1; omega) (by omega)).mp h, fun _ => rfl⟩
        have g0 : ¬ K2.1 (g + 1) 4 = nI c → X 174 u2 v2 [] [.int 0, .int (nI x2 ^^^ nI t), .int ((nI q ^^^ nI t) * (64 : Int32) + (nI x1 ^^^ nI t)), .ref e] K2 := fun h => by
          rw [e4, (xt x2 hx2l).1]
          rw [s4] at h
          exact f174 false ⟨fun h => absurd h (by decide), fun h2 => absurd (by rw [h2]) h⟩
        exact ⟨fgs_1 W2, ⟨g1, g0⟩⟩
    refine ⟨fun z => ?_, fun z => ?_⟩
    · have z : c = 0 := (nI_eq (b := 0) (by omega) (by decide)).mp z
      rw [ht, if_pos z] at f122
      exact f122
    · have z : ¬ c = 0 := fun h => z (by rw [h]; rfl)
      rw [ht, if_neg z] at f122
      exact f122
  have f88 : (k = 2 ∨ k = 3) → X 88 0 0 [] [] M := fun h => by
    have hd : dOf P a b (-1) := by
      unfold dOf
      rw [eq]
      show if P.2.2.1 = 0 then _ else _
      rw [if_pos r0]
      rcases c01 with ⟨h1, h2⟩ | ⟨h1, h2⟩
      · rw [if_pos h1]
        exact Or.inr ⟨fun d _ => no_23t (by omega) ha hqm.1 hb, rfl⟩
      · rw [if_neg (by omega)]
        exact Or.inr ⟨fun d _ => no_23t (by omega) (nI_56 hb).2 (nI_56 hqm.1).2 (nI_56 ha).2, rfl⟩
    have e0 : ∀ j, (j = 1 ∨ j = 4 ∨ j = 5) → kn j = knE kn P j := fun j jj => by
      rw [kE]
      unfold ndd
      rw [show decide (j = k) = false by simp; omega, show decide (k = 1) = false by simp; omega]
      simp
    have := hq M (xFr.rf hW.1) (hK.con e0)
    rw [← dof _ hd] at this
    exact l88 _ _ _ _ _ ⟨rfl, this⟩
  have f35 : X 35 0 0 [.ref 33, .ref (g + 1)] [.int (nI c)] M := by
    have vc2 : vp_in (nI c) 2 := vp_in_nI (by omega) (by omega)
    have ccl : (nI c).toNatClampNeg = c := nI_clamp (by omega)
    have e6 : (6 : Int32) + (6 : Int32) * nI c = nI (6 + 6 * c) := by
      rw [show (6 : Int32) * nI c = nI (6 * c) from pk_mul 6 c]; exact nI_add 6 _
    have v13 : vp_in ((6 : Int32) + (6 : Int32) * nI c) 13 := by rw [e6]; exact vp_in_nI (by omega) (by omega)
    have sq : sqs (M.2.1 (g + 4) (nI c).toNatClampNeg &&& (M.2.1 (g + 3) ((6 : Int32) + (6 : Int32) * nI c).toNatClampNeg ^^^ (-1))) = [q] := by
      rw [ccl, e6, nI_clamp (by omega)]
      exact man_q (by omega) hG.1.1 eq sd (fun s hs => hP.1.2.2 c s (by omega) hs) (fun s hs => hP.1.2.1 _ s (by omega) (by omega) hs)
    refine l35 _ _ _ _ _ ⟨rfl, ⟨fgs_1 hW, g + 4, fgr_1_3 hW, ⟨2, fgs_4 hW, vc2, ⟨fgs_1 hW, g + 3, fgr_1_2 hW, ⟨13, fgs_3 hW, v13, ⟨Nat.le_of_ble_eq_true rfl, rfl, 0, 0, Nat.zero_le _, Nat.zero_le _, c_lowest hW sq ?_⟩⟩⟩⟩⟩⟩
    have m1 : M.1 (g + 2) (nI q).toNatClampNeg = nI (P.1 q) := by rw [nI_clamp (by omega)]; exact (hP.1.1 q hqm.1).1
    have ek2 : M.1 (g + 2) (nI q).toNatClampNeg - (6 : Int32) * nI c = nI k := by
      rw [m1, show (6 : Int32) * nI c = nI (6 * c) from pk_mul 6 c, hk]
      exact pk_sub (by rcases c01 with ⟨a, b⟩ | ⟨a, b⟩ <;> omega)
    have kI : ∀ n : Nat, n < 2 ^ 31 → (M.1 (g + 2) (nI q).toNatClampNeg - (6 : Int32) * nI c = nI n ↔ k = n) := fun n hn => by rw [ek2]; exact nI_eq (by omega) hn
    have go : ∀ (u v : Nat) (K : zM) (kn2 : Nat → Bool), (k = 1 ∨ k = 4 ∨ k = 5) → (k = 1 → kn2 4 = true ∧ kn2 5 = true) → xFr [34] M K → cKn K kn2 → (∀ j, (j = 1 ∨ j = 4 ∨ j = 5) → (if j = k then true else kn2 j) = knE kn P j) → u + cC kn2 ≤ mc + cC (knE kn P) → v + cD kn2 ≤ ms + cD (knE kn P) → X 106 u v [.ref 33, .ref (g + 1), .int (nI c), .int (nI q), .int (M.1 (g + 2) (nI q).toNatClampNeg - (6 : Int32) * nI c)] [] K := fun u v K kn2 h1 h2 h3 h4 h5 h6 h7 => by
      rw [ek2]; exact f106 u v K kn2 h1 h2 h3 h4 h5 h6 h7
    refine ⟨fgs_1 hW, g + 2, fgr_1_1 hW, ⟨64, fgs_2 hW, vp_in_nI hqm.1 (by omega), ⟨fun y => f88 (Or.inl ((kI 2 (by decide)).mp y)), fun y2 => ⟨fun y => f88 (Or.inr ((kI 3 (by decide)).mp y)), fun y3 => ⟨fun y => ?_, fun y => ?_⟩⟩⟩⟩⟩
    · have k1 : k = 1 := (kI 1 (by decide)).mp y
      obtain ⟨kn5, h5⟩ : ∃ kn5 : Nat → Bool, kn5 = fun j => if j = 5 then true else kn j := ⟨_, rfl⟩
      obtain ⟨kn4, h4⟩ : ∃ kn4 : Nat → Bool, kn4 = fun j => if j = 4 then true else kn5 j := ⟨_, rfl⟩
      have u5 := cC_set (kn := kn) (k := 5) (by omega)
      rw [← h5] at u5
      have u4 := cC_set (kn := kn5) (k := 4) (by omega)
      rw [← h4] at u4
      have u1 := cC_set (kn := kn4) (k := 1) (by omega)
      have hfin : ∀ j, (j = 1 ∨ j = 4 ∨ j = 5) → (if j = k then true else kn4 j) = knE kn P j := fun j jj => by
        rw [kE, h4, h5, k1]
        unfold ndd
        rcases jj with z | z | z <;> rw [z] <;> simp
      have uf := cC_con hfin
      rw [k1] at uf
      refine ⟨Nat.le_of_ble_eq_true rfl, rfl, fxs_33 hW.1, (if kn 5 = true then 0 else 8), (if kn 5 = true then 0 else 65548), by omega, by omega, ?_⟩
      refine c_prepare hW hC hK (k := 5) (by omega) (fun h => absurd h (by decide)) (fun z => by rw [z]; exact ⟨Nat.le_refl _, Nat.le_refl _⟩) (fun K1 f1 c1 => ?_)
      rw [← h5] at c1
      refine ⟨Nat.le_of_ble_eq_true rfl, rfl, fxs_33 f1.1, (if kn5 4 = true then 0 else 8), (if kn5 4 = true then 0 else 65548), by omega, by omega, ?_⟩
      refine c_prepare ⟨f1.1, hW.2⟩ (hC.fr hW.1 f1 (fun b h1 h2 q => by simp at q; omega)) c1 (k := 4) (by omega) (fun h => absurd h (by decide)) (fun z => by rw [z]; exact ⟨Nat.le_refl _, Nat.le_refl _⟩) (fun K2 f2 c2 => ?_)
      rw [← h4] at c2
      exact go _ _ K2 kn4 (Or.inl k1) (fun _ => ⟨by rw [h4]; rfl, by rw [h4, h5]; rfl⟩) (f1.tr f2) c2 hfin (by omega) (by omega)
    · have kk : k = 4 ∨ k = 5 := by
        have a1 : k ≠ 2 := fun h => y2 ((kI 2 (by decide)).mpr h)
        have a2 : k ≠ 3 := fun h => y3 ((kI 3 (by decide)).mpr h)
        have a3 : k ≠ 1 := fun h => y ((kI 1 (by decide)).mpr h)
        omega
      refine go 0 0 M kn (by omega) (fun h => absurd h (by omega)) (xFr.rf hW.1) hK (fun j jj => ?_) (by omega) (by omega)
      rw [kE]
      unfold ndd
      rw [show decide (k = 1) = false by simp; omega]
      by_cases z : j = k
      · simp [z]
      · simp [z]
  refine ⟨fgs_1 hW, g + 4, fgr_1_3 hW, ⟨2, fgs_4 hW, vp_in_nI (n := 0) (by omega) (by omega), ⟨Nat.le_of_ble_eq_true rfl, rfl, 0, 0, Nat.zero_le _, Nat.zero_le _, ?_⟩⟩⟩
  have bc : pcN 64 (nn (M.2.1 (g + 4) 0)) = 1 + (if P.1 q < 7 then 1 else 0) := by
    rw [pc_sqs, sqs_cn (f := fun s => if sdI (P.1 s) = 0 then 1 else 0) (fun s hs => ?_), camp_0 hG.2.1.1 eq]
    have := hP.1.2.2 0 s (by omega) hs
    by_cases z : sdI (P.1 s) = 0
    · rw [if_pos z, if_pos (this.mpr z)]
    · rw [if_neg z, if_neg (fun h => z (this.mp h))]
  refine c_bitCount (M.2.1 (g + 4) 0) ?_
  rw [bc]
  rcases c01 with ⟨h1, h2⟩ | ⟨h1, h2⟩
  · rw [if_pos h1]
    rw [h2] at f35
    exact ⟨fun _ => f35, fun z => absurd rfl z⟩
  · rw [if_neg (by omega)]
    rw [h2] at f35
    exact ⟨fun z => absurd z (by decide), fun _ => f35⟩
