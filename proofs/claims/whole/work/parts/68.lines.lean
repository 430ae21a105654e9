/-! THE REFERENCE'S linesTo -/
noncomputable def lnS : Nat → Ps → Nat
  | 0, _ => 1
  | d + 1, P => ((mvs P).map (fun m => lnS d (mkM P m))).sum
theorem lnS_1 (P : Ps) : lnS 1 P = (mvs P).length := by
  show ((mvs P).map (fun m => 1)).sum = _
  induction mvs P with
  | nil => rfl
  | cons a t ih =>
    simp at ih ⊢
    omega
theorem jN_add (a b : Nat) (hb : b < 2 ^ 31) : jN a + (nI b).toInt64 = jN (a + b) := by
  have e : (nI b).toInt64 = jN b := by
    apply Int64.toInt_inj.mp
    rw [Int32.toInt_toInt64]
    have h1 : (nI b).toInt = b := iI_toInt (z := b) (by omega) (by omega)
    have h2 : (jN b).toInt = b := by
      show (Int64.ofNat b).toInt = b
      rw [Int64.toInt_ofNat_of_lt (by omega)]
    rw [h1, h2]
  rw [e]
  exact (Int64.ofNat_add a b).symm
/-- what stands on the levels up to y is as it was -/
def lvF (y : Nat) (M N : zM) : Prop := zSm [65, 66, 67, 68, 69] M N ∧ (∀ i, i < 69 * y + 69 → N.1 65 i = M.1 65 i) ∧ (∀ i, i < 330 * y + 330 → N.1 66 i = M.1 66 i) ∧ (∀ i, i ≤ y → N.1 67 i = M.1 67 i) ∧ (∀ i, i < y → N.1 68 i = M.1 68 i) ∧ ∀ i, i < y → N.1 69 i = M.1 69 i
theorem lvF.rf {y : Nat} {M : zM} : lvF y M M := ⟨zSm.rf, fun _ _ => rfl, fun _ _ => rfl, fun _ _ => rfl, fun _ _ => rfl, fun _ _ => rfl⟩
theorem lvF.tr {y : Nat} {M N K : zM} (h : lvF y M N) (h2 : lvF y N K) : lvF y M K :=
  ⟨h.1.tr h2.1, fun i hi => (h2.2.1 i hi).trans (h.2.1 i hi), fun i hi => (h2.2.2.1 i hi).trans (h.2.2.1 i hi), fun i hi => (h2.2.2.2.1 i hi).trans (h.2.2.2.1 i hi), fun i hi => (h2.2.2.2.2.1 i hi).trans (h.2.2.2.2.1 i hi), fun i hi => (h2.2.2.2.2.2 i hi).trans (h.2.2.2.2.2 i hi)⟩
theorem lvF.low {y z : Nat} {M N : zM} (h : lvF z M N) (hy : y ≤ z) : lvF y M N :=
  ⟨h.1, fun i hi => h.2.1 i (by omega), fun i hi => h.2.2.1 i (by omega), fun i hi => h.2.2.2.1 i (by omega), fun i hi => h.2.2.2.2.1 i (by omega), fun i hi => h.2.2.2.2.2 i (by omega)⟩
/-- level y bears P and its list -/
def lvS (N : zM) (y : Nat) (P : Ps) : Prop := rPs N (69 * y) P ∧ (∀ k v, (mvs P)[k]? = some v → N.1 66 (330 * y + k) = nI v) ∧ N.1 67 y = nI (mvs P).length
theorem rPs_same {M N : zM} {p : Nat} {P : Ps} (h : ∀ i, p ≤ i → i < p + 69 → N.1 65 i = M.1 65 i) (hP : rPs M p P) : rPs N p P := by
  obtain ⟨a, b⟩ := rPs_iff.mp hP
  exact rPs_iff.mpr ⟨fun k hk => by rw [h (p + k) (by omega) (by omega)]; exact a k hk, b⟩
theorem lvF.sh {y : Nat} {M N : zM} (h : lvF y M N) {P : Ps} (hL : (mvs P).length ≤ 330) (hS : lvS M y P) : lvS N y P := by
  refine ⟨rPs_same (fun i _ hi => h.2.1 i (by omega)) hS.1, fun k v hk => ?_, by rw [h.2.2.2.1 y (Nat.le_refl _)]; exact hS.2.2⟩
  have : k < (mvs P).length := by
    by_cases q : k < (mvs P).length
    · exact q
    · rw [List.getElem?_eq_none (by omega)] at hk; exact absurd hk (by simp)
  rw [h.2.2.1 _ (by omega)]
  exact hS.2.1 k v hk
theorem drop_sum {f : Nat → Nat} {L : List Nat} {k : Nat} (h : k < L.length) : ((L.drop k).map f).sum = f L[k] + ((L.drop (k + 1)).map f).sum := by
  rw [List.drop_eq_getElem_cons h, List.map_cons, List.sum_cons]
set_option maxHeartbeats 8000000 in
theorem lines_walk {mc ms : Nat} {X : Nat → zV} {Q : zQt} (l78 : zin 5 [0, 1, 2, 4] (aX13_linesTo_78 mc ms X Q) X 78) {d : Nat} (hd : d ≤ 3) {n : Nat} : ∀ (r y : Nat) (P : Ps) (N : zM) (sum k : Nat), y + r + 1 = d → n < 2 ^ 18 → zFix N → Gd P → psC (n + y) P → lvS N y P → N.1 68 y = nI k → k ≤ (mvs P).length → (r = 0 → k = 0) → (∀ N', lvF y N N' → X 78 0 0 [.ref 55, .int (nI d), .long (jN (sum + (((mvs P).drop k).map (fun m => lnS r (mkM P m))).sum)), .int (nI y + (-1))] [] N') → X 78 0 0 [.ref 55, .int (nI d), .long (jN sum), .int (nI y)] [] N := by
  intro r
  induction r with
  | zero =>
    intro y P N sum k hy hn hW hG hC hS h68 hk hk0 cont
    have hL := Gd_len hG
    have ey := nI_ltI (a := y) (b := 0) (by omega) (by decide)
    have ed : nI d - (1 : Int32) = nI (d - 1) := pk_sub (a := d) (b := 1) (by omega)
    refine l78 _ _ _ _ _ ⟨rfl, vX13_linesTo_78 hW ⟨fun q => absurd (ey.mp q) (by omega), fun _ => ?_⟩⟩
    rw [ed, nI_clamp (by omega), hS.2.2]
    have e1 := nI_eq (a := y) (b := d - 1) (by omega) (by omega)
    refine ⟨fun _ => ⟨vp_in_nI (by omega) (by omega), fun v hv => ?_⟩, fun q => absurd (e1.mpr (by omega)) q⟩
    rw [hv, jN_add _ _ (by omega)]
    have z := cont N lvF.rf
    have e2 : (((mvs P).drop k).map (fun m => lnS 0 (mkM P m))).sum = (mvs P).length := by
      rw [hk0 rfl, List.drop_zero]
      exact lnS_1 P
    rw [e2] at z
    exact z
  | succ r ihr =>
    intro y P N sum k hy hn hW hG hC hS h68 hk hk0 cont
    have hL := Gd_len hG
    have ey := nI_ltI (a := y) (b := 0) (by omega) (by decide)
    have ed : nI d - (1 : Int32) = nI (d - 1) := pk_sub (a := d) (b := 1) (by omega)
    have e1 := nI_eq (a := y) (b := d - 1) (by omega) (by omega)
    have inner : ∀ (t k sum : Nat) (N : zM), k + t = (mvs P).length → zFix N → lvS N y P → N.1 68 y = nI k → (∀ N', lvF y N N' → X 78 0 0 [.ref 55, .int (nI d), .long (jN (sum + (((mvs P).drop k).map (fun m => lnS (r + 1) (mkM P m))).sum)), .int (nI y + (-1))] [] N') → X 78 0 0 [.ref 55, .int (nI d), .long (jN sum), .int (nI y)] [] N := by
      intro t
      induction t with
      | zero =>
        intro k sum N hk hW hS h68 cont
        refine l78 _ _ _ _ _ ⟨rfl, vX13_linesTo_78 hW ⟨fun q => absurd (ey.mp q) (by omega), fun _ => ?_⟩⟩
        rw [ed, nI_clamp (by omega), hS.2.2, h68]
        refine ⟨fun q => absurd (e1.mp q) (by omega), fun _ => ⟨vp_in_nI (by omega) (by omega), vp_in_nI (by omega) (by omega), fun _ => ?_, fun q => absurd (congrArg nI (show k = (mvs P).length by omega)) q⟩⟩
        have z := cont N lvF.rf
        rw [List.drop_eq_nil_of_le (by omega)] at z
        exact z
      | succ t iht =>
        intro k sum N hk hW hS h68 cont
        have hkl : k < (mvs P).length := by omega
        have hgk : (mvs P)[k]? = some (mvs P)[k] := List.getElem?_eq_getElem hkl
        have hmem := List.getElem_mem hkl
        have hml := mvs_lt hmem
        have hds := drop_sum (f := fun m => lnS (r + 1) (mkM P m)) hkl
        obtain ⟨m, em⟩ : ∃ m, m = (mvs P)[k] := ⟨_, rfl⟩
        rw [← em] at hgk hmem hml hds
        refine l78 _ _ _ _ _ ⟨rfl, vX13_linesTo_78 hW ⟨fun q => absurd (ey.mp q) (by omega), fun _ => ?_⟩⟩
        rw [ed, nI_clamp (by omega), hS.2.2, h68, show (330 : Int32) * nI y = nI (330 * y) from pk_mul 330 _, show (69 : Int32) * nI y = nI (69 * y) from pk_mul 69 _, nI_add, nI_clamp (by omega), hS.2.1 k m hgk]
        have ek := nI_eq (a := k) (b := (mvs P).length) (by omega) (by omega)
        refine ⟨fun q => absurd (e1.mp q) (by omega), fun _ => ⟨vp_in_nI (by omega) (by omega), vp_in_nI (by omega) (by omega), fun q => absurd (ek.mp q) (by omega), fun _ => ⟨vp_in_nI (by omega) (by omega), vp_in_nI (by omega) (by omega), ?_⟩⟩⟩
        obtain ⟨ha, hb, hpr, hlg, epm⟩ := mvs_parts hmem
        have hFit := Gd_fit hG hC (by omega)
        have hmk := c_make (mc := 0) (ms := 0) hW (p := 69 * y) hS.1 (by omega) ha hb hpr (fun h => cas_home hS.1.2.1.2 hlg.1 h) hFit.1 hFit.2.1 (Q := fun r M1 => kX13_linesTo_159 mc ms X Q 0 0 [some (.ref 55), some (.int (nI d)), some (.long (jN sum)), none, some (.int (nI y))] (r.toList ++ []) M1)
        rw [← epm] at hmk
        refine hmk (fun N1 f1 s1 hP1 => ?_)
        have hP1 : rPs N1 (69 * y + 69) (mkM P m) := hP1
        have hW1 := s1.1.fix hW
        have hG1 : Gd (mkM P m) := Gd_mk hG hC (by omega) (mvs_mvK hmem)
        have hC1 : psC (n + (y + 1)) (mkM P m) := psC_mk hS.1.2.1.2 hC _ _ _
        refine vkX13_linesTo_159 hW1 ?_
        rw [nI_clamp (by omega), show N1.1 68 y = nI k by rw [s1.1.i (by decide)]; exact h68, show nI y + (1 : Int32) = nI (y + 1) from nI_1 y, show nI k + (1 : Int32) = nI (k + 1) from nI_1 k, nI_clamp (by omega)]
        refine ⟨vp_in_nI (by omega) (by omega), vp_in_nI (by omega) (by omega), fun N2 e2 => ⟨vp_in_nI (by omega) (by omega), fun N3 e3 => ?_⟩⟩
        have s3 : zSm [68] N1 N3 := by rw [e3, e2]; exact (zSm.I (by decide)).tr (zSm.I (by decide))
        have hW3 := s3.fix hW1
        have hP3 : rPs N3 (69 * (y + 1)) (mkM P m) := by
          rw [show 69 * (y + 1) = 69 * y + 69 by omega]
          exact rPs_same (fun i _ _ => by rw [s3.i (by decide)]) hP1
        have hL1 := Gd_len hG1
        have hFit1 := Gd_fit hG1 hC1 (by omega)
        refine c_fill hW3 (y := y + 1) (by omega) hP3 hFit1.1 hFit1.2.1 (by omega) (fun N4 h4 => ?_)
        have hW4 := h4.1.fix hW3
        have F4 : lvF y N N4 := by
          refine ⟨((s1.1.mono (by decide)).tr (s3.mono (by decide))).tr (h4.1.mono (by decide)), fun i hi => ?_, fun i hi => ?_, fun i hi => ?_, fun i hi => ?_, fun i hi => ?_⟩
          · rw [h4.2.1 i (by omega), s3.i (by decide), s1.off (by omega)]
          · rw [h4.2.2.2.1 i (by omega), s3.i (by decide), s1.1.i (by decide)]
          · rw [h4.2.2.2.2, if_neg (by omega), s3.i (by decide), s1.1.i (by decide)]
          · rw [h4.1.i (by decide), e3, zsI_n (by omega), e2, zsI_n (by omega), s1.1.i (by decide)]
          · rw [h4.1.i (by decide), s3.i (by decide), s1.1.i (by decide)]
        have n68 : N4.1 68 y = nI (k + 1) := by rw [h4.1.i (by decide), e3, zsI_n (by omega), e2, zsI_s]
        have S4 : lvS N4 (y + 1) (mkM P m) := ⟨rPs_same (fun i hi1 hi2 => h4.2.1 i (by omega)) hP3, fun k v hk => h4.2.2.1 k v hk, by rw [h4.2.2.2.2, if_pos rfl]⟩
        have n68' : N4.1 68 (y + 1) = nI 0 := by rw [h4.1.i (by decide), e3, zsI_s]; rfl
        refine vkX13_linesTo_187 hW4 (ihr (y + 1) (mkM P m) N4 sum 0 (by omega) (by omega) hW4 hG1 hC1 S4 n68' (Nat.zero_le _) (fun _ => rfl) (fun N5 h5 => ?_))
        rw [List.drop_zero, pk_m1]
        have hW5 := h5.1.fix hW4
        have F5 := F4.tr (h5.low (by omega))
        refine iht (k + 1) _ N5 (by omega) hW5 (F5.sh (by omega) hS) (by rw [h5.2.2.2.2.1 y (by omega)]; exact n68) (fun N6 h6 => ?_)
        have z := cont N6 (F5.tr h6)
        rw [hds] at z
        have : lnS (r + 1) (mkM P m) = ((mvs (mkM P m)).map (fun m' => lnS r (mkM (mkM P m) m'))).sum := rfl
        rw [this] at z
        rw [Nat.add_assoc]
        exact z
    exact inner ((mvs P).length - k) k sum N (by omega) hW hS h68 cont
noncomputable def lnA (A : Ah) (z : Int) : Nat × Nat := if aTh A = false then (1, 0) else if z < 0 ∨ dpS (lst (aG A)) < z then (2, 0) else (0, lnS z.toNat (lst (aG A)))
theorem lvF.kp {M N : zM} {y : Nat} (h : lvF y M N) : rKp M N := rKp.of h.1 (by decide)
set_option maxHeartbeats 4000000 in
theorem r_linesTo {mc ms : Nat} {M : zM} {A : Ah} (hR : rRef M A) (hO : aOk A) {z : Int} (hz : i32 z) {Q : zQt} (hq : ∀ N, rKp M N → N.1 55 0 = nI (lnA A z).1 → Q (some (.long (jN (lnA A z).2))) N) : wX13_linesTo mc ms [.ref 55, .int (iI z)] M Q := by
  have hW := hR.1
  refine ⟨⟨Nat.le_of_ble_eq_true rfl, rfl⟩, fun X l0 l24 l29 l65 l78 => ?_⟩
  have f29 : ∀ c, 0 < c → c < 3 → lnA A z = (c, 0) → X 29 0 0 [.ref 55, .int (iI z)] [.int (nI c), .ref 55] M := by
    intro c h0 h3 hv
    rw [hv] at hq
    refine l29 _ _ _ _ _ ⟨rfl, vX13_linesTo_29 hW (fun N e => ?_)⟩
    have n0 : N.1 55 0 = nI c := by rw [e, zsI_s]
    rw [n0]
    exact ⟨fun d => absurd ((nI_leI (a := c) (b := 0) (by omega) (by decide)).mp d) (by omega), fun _ => hq N (by rw [e]; exact rKp.slot (by omega)) n0⟩
  refine l0 _ _ _ _ _ ⟨rfl, vX13_linesTo_0 hW ?_⟩
  rw [hR.2.2.2.1]
  refine ⟨fun d => f29 1 (by decide) (by decide) (by unfold lnA; rw [if_pos (bI_0.mp d)]), fun d => ?_⟩
  have ht := bI_n.mp d
  have hok := hO.2.2.1 ht
  have hd3 := dpS_le (lst (aG A))
  have f24 : (z < 0 ∨ dpS (lst (aG A)) < z) → X 24 0 0 [.ref 55, .int (iI z)] [.ref 55] M := fun h => l24 _ _ _ _ _ ⟨rfl, vX13_linesTo_24 hW (f29 2 (by decide) (by decide) (by unfold lnA; rw [if_neg (by rw [ht]; decide), if_pos h]))⟩
  have ez : iI z < 0 ↔ z < 0 := iz_lt hz (n := 0) (by omega)
  have el := iz_le hz (n := dpS (lst (aG A))) (by omega)
  refine ⟨fun w => f24 (Or.inl (ez.mp w)), fun w => c_deepest hR hO ht (vkX13_linesTo_21 hW ⟨fun y => ?_, fun y => f24 (Or.inr ?_)⟩)⟩
  rotate_left
  · have : ¬ z ≤ dpS (lst (aG A)) := fun q => y (el.mpr q)
    omega
  have z0 : ¬ z < 0 := fun q => w (ez.mpr q)
  have z1 := el.mp y
  have hv : lnA A z = (0, lnS z.toNat (lst (aG A))) := by unfold lnA; rw [if_neg (by rw [ht]; decide), if_neg (by omega)]
  rw [hv] at hq
  rw [iz_nat (by omega)]
  obtain ⟨dd, ed⟩ : ∃ dd, dd = z.toNat := ⟨_, rfl⟩
  rw [← ed] at hq ⊢
  have hd : dd ≤ 3 := by omega
  refine l29 _ _ _ _ _ ⟨rfl, vX13_linesTo_29 hW (fun N e => ?_)⟩
  have n0 : N.1 55 0 = 0 := by rw [e, zsI_s]
  have k : rKp M N := by rw [e]; exact rKp.slot (by omega)
  have hRN := k.ref hR
  rw [n0]
  refine ⟨fun _ => r_show hRN hO ht (fun K hK hS => ?_), fun w => absurd (by decide) w⟩
  have kK : rKp M K := k.tr (rKp.of hK (by decide))
  have hWK := kK.1.fix hW
  have k0 : K.1 55 0 = 0 := by rw [hK.i (by decide)]; exact n0
  have hL := hok.fit.2.2
  have e2 := nI_leI (a := 2) (b := dd) (by decide) (by omega)
  have e0 := nI_eq (a := dd) (b := 0) (by omega) (by decide)
  refine vkX13_linesTo_45 hWK ⟨fun y => ?_, fun y => ⟨fun u => l65 _ _ _ _ _ ⟨rfl, vX13_linesTo_65 hWK ?_⟩, fun u => l65 _ _ _ _ _ ⟨rfl, vX13_linesTo_65 hWK ?_⟩⟩⟩
  · have h2 := e2.mp y
    intro K2 eK2
    have sK2 : zSm [68] K K2 := by rw [eK2]; exact zSm.I (by decide)
    have kK2 : rKp M K2 := kK.tr (rKp.of sK2 (by decide))
    have hW2 := kK2.1.fix hW
    have hS2 : lvS K2 0 (lst (aG A)) := by
      refine ⟨rPs_same (fun i _ _ => by rw [sK2.i (by decide)]) hS.1, fun k v h => ?_, by rw [sK2.i (by decide)]; exact hS.2.2⟩
      rw [sK2.i (by decide), Nat.mul_zero, Nat.zero_add]
      exact hS.2.1 k v h
    have h6 := hok.2.1
    have hwalk := lines_walk l78 hd (n := (aG A).1 - 1) (dd - 1) 0 (lst (aG A)) K2 0 0 (by omega) (by omega) hW2 hok.last.1 hok.last.2 hS2 (by rw [eK2]; exact zsI_s) (Nat.zero_le _) (fun _ => rfl) (fun K3 h3 => ?_)
    · exact hwalk
    · have hW3 := h3.1.fix hW2
      refine l78 _ _ _ _ _ ⟨rfl, vX13_linesTo_78 hW3 ⟨fun _ => ?_, fun q => absurd (by decide) q⟩⟩
      have zz := hq K3 (kK2.tr h3.kp) (by rw [h3.1.i (by decide), sK2.i (by decide)]; exact k0)
      rw [Nat.zero_add, List.drop_zero]
      have : lnS dd (lst (aG A)) = ((mvs (lst (aG A))).map (fun m => lnS (dd - 1) (mkM (lst (aG A)) m))).sum := by
        obtain ⟨d1, e1⟩ : ∃ d1, dd = d1 + 1 := ⟨dd - 1, by omega⟩
        rw [e1]
        rfl
      rw [this] at zz
      exact zz
  · have h0 := e0.mp u
    have zz := hq K kK k0
    rw [h0] at zz
    exact zz
  · have hd1 : dd = 1 := by
      have a1 : ¬ 2 ≤ dd := fun q => y (e2.mpr q)
      have a2 : ¬ dd = 0 := fun q => u (e0.mpr q)
      omega
    have zz := hq K kK k0
    rw [hd1, lnS_1] at zz
    have e3 := jN_add 0 (mvs (lst (aG A))).length (by omega)
    rw [show K.1 67 (0 : Int32).toNatClampNeg = nI (mvs (lst (aG A))).length from hS.2.2]
    have e4 : (nI (mvs (lst (aG A))).length).toInt64 = jN (mvs (lst (aG A))).length := by
      rw [Nat.zero_add] at e3
      rw [← e3]
      show _ = 0 + _
      rw [Int64.zero_add]
    rw [e4]
    exact zz
