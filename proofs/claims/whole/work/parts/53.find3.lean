/-! THE REFERENCE'S find itself -/
theorem spl_lt (P : Ps) (m : Nat) : ∀ x ∈ spl P m, x < 256 := by
  have h8 : ∀ s, 97 + s % 8 < 256 := fun s => by have := Nat.mod_lt s (show 0 < 8 by decide); omega
  have h1 : m % 64 < 64 := Nat.mod_lt _ (by decide)
  have h2 : m / 64 % 64 < 64 := Nat.mod_lt _ (by decide)
  have hc : ∀ n, ∀ x ∈ casL n, x < 256 := by
    intro n x hx
    unfold casL at hx
    obtain ⟨k, _, e⟩ := List.mem_map.mp hx
    rw [← e]
    split <;> omega
  have ho : ∀ x ∈ orgL P m, x < 256 := by
    intro x hx
    unfold orgL at hx
    split at hx
    · rcases List.mem_append.mp hx with q | q
      · split at q
        · rw [List.mem_singleton.mp q]; exact h8 _
        · exact absurd q List.not_mem_nil
      · split at q
        · exact absurd q List.not_mem_nil
        · rw [List.mem_singleton.mp q]; omega
    · exact absurd hx List.not_mem_nil
  have hsq : ∀ x ∈ [97 + m / 64 % 64 % 8, 49 + m / 64 % 64 / 8], x < 256 := by
    intro x hx
    rcases List.mem_cons.mp hx with q | q
    · rw [q]; exact h8 _
    · rw [List.mem_singleton.mp q]; omega
  intro x hx
  unfold spl at hx
  split at hx
  · exact hc _ x hx
  · split at hx
    · exact hc _ x hx
    · split at hx
      · rcases List.mem_append.mp hx with q | q
        · rcases List.mem_append.mp q with q | q
          · split at q
            · exact absurd q List.not_mem_nil
            · rcases List.mem_cons.mp q with q | q
              · rw [q]; exact h8 _
              · rw [List.mem_singleton.mp q]; omega
          · exact hsq x q
        · split at q
          · rw [List.mem_singleton.mp q]; exact ltr_lt _
          · exact absurd q List.not_mem_nil
      · unfold smL at hx
        rcases List.mem_append.mp hx with q | q
        · rcases List.mem_append.mp q with q | q
          · rcases List.mem_append.mp q with q | q
            · rw [List.mem_singleton.mp q]; exact ltr_lt _
            · exact ho x q
          · split at q
            · rw [List.mem_singleton.mp q]; omega
            · exact absurd q List.not_mem_nil
        · exact hsq x q
theorem sgl_lt (P : Ps) (m : Nat) : (sgl P m).length ≤ 1 ∧ ∀ x ∈ sgl P m, x < 256 := by
  unfold sgl
  split
  · split
    · exact ⟨Nat.le_refl _, fun x hx => by rw [List.mem_singleton.mp hx]; omega⟩
    · exact ⟨Nat.le_refl _, fun x hx => by rw [List.mem_singleton.mp hx]; omega⟩
  · exact ⟨Nat.zero_le _, fun x hx => absurd hx List.not_mem_nil⟩
/-- what a word is, looked for among the moves that are left; w: the best that was met -/
noncomputable def fdL (P : Ps) (T : Nat → Nat) (form a bare n : Nat) : List Nat → Nat → Int
  | [], w => -(w : Int)
  | m :: t, w => @ite _ (lkS P T m form a bare) (Classical.propDecidable _) (if spl P m = txt T a bare then (if spl P m ++ sgl P m = txt T a n then (m : Int) else fdL P T form a bare n t 24) else fdL P T form a bare n t (if w = 24 then 24 else 23)) (fdL P T form a bare n t w)
def fnB (T : Nat → Nat) (a n : Nat) : Nat := if 0 < n ∧ (T (a + n - 1) = 43 ∨ T (a + n - 1) = 35) then n - 1 else n
noncomputable def fnS (P : Ps) (T : Nat → Nat) (a n : Nat) : Int := if fmS T a (fnB T a n) = 0 then -21 else fdL P T (fmS T a (fnB T a n)) a (fnB T a n) n (mvs P) 22
theorem fmS_le (T : Nat → Nat) (a n : Nat) : fmS T a n ≤ 4 := by
  unfold fmS
  split
  · split <;> omega
  · split
    · split <;> omega
    · split <;> omega
theorem fnB_le (T : Nat → Nat) (a n : Nat) : fnB T a n ≤ n := by unfold fnB; split <;> omega
set_option maxHeartbeats 8000000 in
theorem c_find {mc ms : Nat} {M : zM} (hW : zFix M) {T : Nat → Nat} {e : Nat} (hT : rTx M T e) {P : Ps} (hS : rSh M P) (hsm : psSm P) (hL : (mvs P).length ≤ 330) {a n : Nat} (hb : a + n ≤ 8199) {Q : zQt} (hq : ∀ N, sgF M N → Q (some (.int (iI (fnS P T a n)))) N) : wX13_find mc ms [.ref 55, .int (nI a), .int (nI n)] M Q := by
  refine ⟨⟨Nat.le_of_ble_eq_true rfl, rfl⟩, fun X l0 l32 l36 l37 l49 l75 l149 l184 => ?_⟩
  have tl : ∀ i, i < 8200 → T i < 256 := fun i hi => (hT.2.2 i hi).2
  have hbn := fnB_le T a n
  have hfm := fmS_le T a (fnB T a n)
  have loop : ∀ (r k w : Nat) (N : zM), k + r = (mvs P).length → sgF M N → 22 ≤ w → w ≤ 24 → fdL P T (fmS T a (fnB T a n)) a (fnB T a n) n ((mvs P).drop k) w = fnS P T a n → X 75 0 0 [.ref 55, .int (nI a), .int (nI n), .int (nI (fnB T a n)), .int (nI (fmS T a (fnB T a n))), .int (iI (-(w : Int))), .int (nI k)] [] N := by
    intro r
    induction r with
    | zero =>
      intro k w N hk hN hw1 hw2 hv
      have hWN := hN.1.fix hW
      have hSN := hN.sh hS
      refine l75 _ _ _ _ _ ⟨rfl, vX13_find_75 hWN ?_⟩
      rw [show N.1 67 (0 : Int32).toNatClampNeg = nI (mvs P).length from hSN.2.2]
      refine ⟨fun _ => ?_, fun d => absurd ((nI_leI (a := (mvs P).length) (b := k) (by omega) (by omega)).mpr (by omega)) d⟩
      rw [List.drop_eq_nil_of_le (by omega)] at hv
      have hv : -(w : Int) = fnS P T a n := hv
      rw [hv]
      exact hq N hN
    | succ r ih =>
      intro k w N hk hN hw1 hw2 hv
      have hWN := hN.1.fix hW
      have hSN := hN.sh hS
      have hkl : k < (mvs P).length := by omega
      have hgk : (mvs P)[k]? = some (mvs P)[k] := List.getElem?_eq_getElem hkl
      have hmk := mvs_lt (List.getElem_mem hkl)
      have hmem := List.getElem_mem hkl
      have hd : (mvs P).drop k = (mvs P)[k] :: (mvs P).drop (k + 1) := List.drop_eq_getElem_cons hkl
      rw [hd] at hv
      revert hmem hmk hgk
      generalize (mvs P)[k] = m at hv
      intro hgk hmk hmem
      have hval : ∀ N', sgF M N' → N'.1 66 k = nI m := fun N' h' => (h'.sh hS).2.1 k m hgk
      have f184 : ∀ (w' : Nat) (N' : zM), sgF M N' → 22 ≤ w' → w' ≤ 24 → fdL P T (fmS T a (fnB T a n)) a (fnB T a n) n ((mvs P).drop (k + 1)) w' = fnS P T a n → X 184 0 0 [.ref 55, .int (nI a), .int (nI n), .int (nI (fnB T a n)), .int (nI (fmS T a (fnB T a n))), .int (iI (-(w' : Int))), .int (nI k)] [] N' := by
        intro w' N' hN' h1 h2 hv'
        refine l184 _ _ _ _ _ ⟨rfl, vX13_find_184 (hN'.1.fix hW) ?_⟩
        rw [nI_1]
        exact ih (k + 1) w' N' (by omega) hN' h1 h2 hv'
      have f149 : ∀ (b : Bool) (w' : Nat) (N' : zM), sgF M N' → rOut N' (spl P m) → 22 ≤ w' → w' ≤ 24 → lkS P T m (fmS T a (fnB T a n)) a (fnB T a n) → (b = true ↔ spl P m = txt T a (fnB T a n)) → (b = true → w' = 24) → (b = false → w' = if w = 24 then 24 else 23) → X 149 0 0 [.ref 55, .int (nI a), .int (nI n), .int (nI (fnB T a n)), .int (nI (fmS T a (fnB T a n))), .int (nI k), .int (bI b)] [.int (iI (-(w' : Int)))] N' := by
        intro b w' N' hN' hO h1 h2 hlk hbb hbt hbf
        have hWN' := hN'.1.fix hW
        have hv' : (if spl P m = txt T a (fnB T a n) then (if spl P m ++ sgl P m = txt T a n then (m : Int) else fdL P T (fmS T a (fnB T a n)) a (fnB T a n) n ((mvs P).drop (k + 1)) 24) else fdL P T (fmS T a (fnB T a n)) a (fnB T a n) n ((mvs P).drop (k + 1)) (if w = 24 then 24 else 23)) = fnS P T a n := by
          rw [← hv]
          conv => rhs; unfold fdL
          rw [if_pos hlk]
        refine l149 _ _ _ _ _ ⟨rfl, vX13_find_149 hWN' ⟨fun z => ?_, fun z => ?_⟩⟩
        · have hb0 := bI_0.mp z
          refine f184 w' N' hN' h1 h2 ?_
          rw [if_neg (fun q => by rw [hbb.mpr q] at hb0; exact absurd hb0 (by decide))] at hv'
          rw [hbf hb0]
          exact hv'
        · have hb1 := bI_n.mp z
          have hw24 := hbt hb1
          rw [if_pos (hbb.mp hb1)] at hv'
          rw [nI_clamp (by omega), hval N' hN']
          have hl6 := spl_len P m
          refine ⟨vp_in_nI (by omega) (by omega), c_saySign hWN' (hN'.sh hS) hsm hO (by omega) hmem (fun K hK hOK => ?_)⟩
          have hMK := hN'.tr hK
          have hWK := hMK.1.fix hW
          have hsl := sgl_lt P m
          refine vkX13_find_167 hWK (c_isText hWK (hMK.tx hT) hOK (by rw [List.length_append]; omega) (fun x hx => by
            rcases List.mem_append.mp hx with q | q
            · have := spl_lt P m x q; omega
            · have := hsl.2 x q; omega) (by omega) (fun h => ?_) (fun h => ?_))
          · refine vkX13_find_173 hWK ⟨fun d => absurd d (by decide), fun _ => ?_⟩
            rw [nI_clamp (by omega), hval K hMK]
            rw [if_pos h] at hv'
            refine ⟨vp_in_nI (by omega) (by omega), ?_⟩
            rw [iI_nat, hv']
            exact hq K hMK
          · refine vkX13_find_173 hWK ⟨fun _ => f184 w' K hMK h1 h2 ?_, fun d => absurd rfl d⟩
            rw [if_neg h] at hv'
            rw [hw24]
            exact hv'
      refine l75 _ _ _ _ _ ⟨rfl, vX13_find_75 hWN ?_⟩
      rw [show N.1 67 (0 : Int32).toNatClampNeg = nI (mvs P).length from hSN.2.2]
      refine ⟨fun d => absurd ((nI_leI (a := (mvs P).length) (b := k) (by omega) (by omega)).mp d) (by omega), fun _ => ?_⟩
      rw [nI_clamp (by omega), hval N hN]
      refine ⟨vp_in_nI (by omega) (by omega), c_isLike hWN (hN.tx hT) hSN.1 (by omega) rfl hfm (by omega) (fun h => ?_) (fun h => ?_)⟩
      · refine vkX13_find_102 hWN ⟨fun d => absurd d (by decide), fun _ => ?_⟩
        rw [nI_clamp (by omega), hval N hN]
        refine ⟨vp_in_nI (by omega) (by omega), c_spell hWN hSN hL (by omega) (fun N1 hN1 hO1 => ?_)⟩
        have hM1 := hN.tr hN1.sg
        have hW1 := hM1.1.fix hW
        have hl6 := spl_len P m
        refine vkX13_find_116 hW1 (c_isText hW1 (hM1.tx hT) hO1 (by omega) (fun x hx => by have := spl_lt P m x hx; omega) (by omega) (fun h1 => ?_) (fun h1 => ?_))
        · refine vkX13_find_123 hW1 ⟨fun d => absurd d (by decide), fun _ => f149 true 24 N1 hM1 hO1 (by omega) (by omega) h ⟨fun _ => h1, fun _ => rfl⟩ (fun _ => rfl) (fun q => absurd q (by decide))⟩
        · refine vkX13_find_123 hW1 ⟨fun _ => ⟨fun d => f149 false 24 N1 hM1 hO1 (by omega) (by omega) h ⟨fun q => absurd q (by decide), fun q => absurd q h1⟩ (fun _ => rfl) (fun _ => ?_), fun d => f149 false 23 N1 hM1 hO1 (by omega) (by omega) h ⟨fun q => absurd q (by decide), fun q => absurd q h1⟩ (fun q => absurd q (by decide)) (fun _ => ?_)⟩, fun d => absurd rfl d⟩
          · have : w = 24 := by
              have := (iI_eq (a := -(w : Int)) (b := -24) (by omega) (by omega) (by omega) (by omega)).mp (d.trans (by decide : (-24 : Int32) = iI (-24)))
              omega
            rw [if_pos this]
          · rw [if_neg]
            intro q
            rw [q] at d
            exact d rfl
      · refine vkX13_find_102 hWN ⟨fun _ => f184 w N hN hw1 hw2 ?_, fun d => absurd rfl d⟩
        rw [← hv]
        conv => rhs; unfold fdL
        rw [if_neg h]
  have f49 : X 49 0 0 [.ref 55, .int (nI a), .int (nI n)] [.int (nI (fnB T a n))] M := by
    refine l49 _ _ _ _ _ ⟨rfl, vX13_find_49 hW (c_form hW hT (by omega) (vkX13_find_58 hW ⟨fun d => ?_, fun d => ?_⟩))⟩
    · have h0 := (nI_eq (a := fmS T a (fnB T a n)) (b := 0) (by omega) (by decide)).mp d
      have : fnS P T a n = -21 := by unfold fnS; rw [if_pos h0]
      have z := hq M sgF.rf
      rw [this] at z
      exact z
    · refine loop (mvs P).length 0 22 M (by omega) sgF.rf (by omega) (by omega) ?_
      rw [List.drop_zero]
      unfold fnS
      rw [if_neg (fun q => d ((nI_eq (a := fmS T a (fnB T a n)) (b := 0) (by omega) (by decide)).mpr q))]
  have f32 : 0 < n → (T (a + n - 1) = 43 ∨ T (a + n - 1) = 35) → X 32 0 0 [.ref 55, .int (nI a), .int (nI n)] [] M := by
    intro h0 h
    refine l32 _ _ _ _ _ ⟨rfl, vX13_find_32 hW (l37 _ _ _ _ _ ⟨rfl, vX13_find_37 hW ⟨fun d => absurd d (by decide), fun _ => ?_⟩⟩)⟩
    rw [show nI n - (1 : Int32) = nI (n - 1) from pk_sub (a := n) (b := 1) (by omega)]
    have : fnB T a n = n - 1 := by unfold fnB; rw [if_pos ⟨h0, h⟩]
    rw [← this]
    exact f49
  have f36 : ¬ (0 < n ∧ (T (a + n - 1) = 43 ∨ T (a + n - 1) = 35)) → X 36 0 0 [.ref 55, .int (nI a), .int (nI n)] [] M := by
    intro h
    refine l36 _ _ _ _ _ ⟨rfl, vX13_find_36 hW (l37 _ _ _ _ _ ⟨rfl, vX13_find_37 hW ⟨fun _ => ?_, fun d => absurd rfl d⟩⟩)⟩
    have : fnB T a n = n := by unfold fnB; rw [if_neg h]
    have z := f49
    rw [this] at z
    exact z
  have en := nI_leI (a := n) (b := 0) (by omega) (by decide)
  refine l0 _ _ _ _ _ ⟨rfl, vX13_find_0 hW ⟨fun d => f36 (fun q => by have := en.mp d; omega), fun d => ?_⟩⟩
  have h0 : 0 < n := by
    have : ¬ n ≤ 0 := fun q => d (en.mpr q)
    omega
  have hx : nI a + nI n - (1 : Int32) = nI (a + n - 1) := by rw [nI_add]; exact pk_sub (a := a + n) (b := 1) (by omega)
  rw [hx]
  have t := tl (a + n - 1) (by omega)
  have e43 := nI_eq (a := T (a + n - 1)) (b := 43) (by omega) (by decide)
  have e35 := nI_eq (a := T (a + n - 1)) (b := 35) (by omega) (by decide)
  refine c_sign hW hT (by omega) (vkX13_find_13 hW ⟨fun d1 => f32 h0 (Or.inl (e43.mp d1)), fun d1 => ?_⟩)
  rw [hx]
  exact c_sign hW hT (by omega) (vkX13_find_27 hW ⟨fun d2 => f32 h0 (Or.inr (e35.mp d2)), fun d2 => f36 (fun q => by
    rcases q.2 with q | q
    · exact d1 (e43.mpr q)
    · exact d2 (e35.mpr q))⟩)
