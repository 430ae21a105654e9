/-! THE REFERENCE'S find: which legal move a word spells -/
def txt (T : Nat → Nat) (a n : Nat) : List Nat := (List.range n).map (fun k => T (a + k))
theorem txt_eq {T : Nat → Nat} {a n : Nat} {L : List Nat} : L = txt T a n ↔ L.length = n ∧ ∀ t, t < n → L[t]? = some (T (a + t)) := by
  constructor
  · intro h
    rw [h]
    refine ⟨by simp [txt], fun t ht => ?_⟩
    unfold txt
    rw [List.getElem?_map, List.getElem?_range ht]
    rfl
  · rintro ⟨h1, h2⟩
    apply List.ext_getElem?
    intro i
    by_cases hi : i < n
    · rw [h2 i hi]
      unfold txt
      rw [List.getElem?_map, List.getElem?_range hi]
      rfl
    · rw [List.getElem?_eq_none (by omega), List.getElem?_eq_none (by simp [txt]; omega)]
set_option maxHeartbeats 4000000 in
theorem c_isText {mc ms : Nat} {M : zM} (hW : zFix M) {T : Nat → Nat} {e : Nat} (hT : rTx M T e) {L : List Nat} (hL : rOut M L) (hLl : L.length ≤ 100) (hLb : ∀ x ∈ L, x < 2 ^ 30) {a n : Nat} (hb : a + n ≤ 8200) {Q : zQt} (q1 : L = txt T a n → Q (some (.int 1)) M) (q0 : ¬ L = txt T a n → Q (some (.int 0)) M) : wX13_isText mc ms [.ref 55, .int (nI a), .int (nI n)] M Q := by
  refine ⟨⟨Nat.le_of_ble_eq_true rfl, rfl⟩, fun X l0 l13 l17 l55 l62 => ?_⟩
  have f62 : ∀ b : Bool, (b = true ↔ L = txt T a n) → X 62 0 0 [.int (bI b)] [] M := by
    intro b hb'
    refine l62 _ _ _ _ _ ⟨rfl, vX13_isText_62 hW ?_⟩
    cases b with
    | true => exact ⟨rfl, q1 (hb'.mp rfl)⟩
    | false => exact ⟨rfl, q0 (fun q => absurd (hb'.mpr q) (by decide))⟩
  have loop : ∀ (r k : Nat) (b : Bool), k + r = n → (b = true ↔ L.length = n ∧ ∀ t, t < k → L[t]? = some (T (a + t))) → X 17 0 0 [.ref 55, .int (nI a), .int (nI n), .int (bI b), .int (nI k)] [] M := by
    intro r
    induction r with
    | zero =>
      intro k b hk h
      obtain rfl : k = n := by omega
      exact l17 _ _ _ _ _ ⟨rfl, vX13_isText_17 hW ⟨fun _ => f62 b (h.trans txt_eq.symm), fun d => absurd ((nI_leI (a := k) (b := k) (by omega) (by omega)).mpr (Nat.le_refl _)) d⟩⟩
    | succ r ih =>
      intro k b hk h
      refine l17 _ _ _ _ _ ⟨rfl, vX13_isText_17 hW ⟨fun d => absurd ((nI_leI (a := n) (b := k) (by omega) (by omega)).mp d) (by omega), fun _ => ⟨fun w => f62 b ⟨fun q => ?_, fun q => ?_⟩, fun w => ?_⟩⟩⟩
      · rw [bI_0.mp w] at q
        exact absurd q (by decide)
      · have z := txt_eq.mp q
        exact h.mpr ⟨z.1, fun t ht => z.2 t (by omega)⟩
      · obtain ⟨z1, z2⟩ := h.mp (bI_n.mp w)
        have f55 : ∀ b' : Bool, (b' = true ↔ L.length = n ∧ ∀ t, t < k + 1 → L[t]? = some (T (a + t))) → X 55 0 0 [.ref 55, .int (nI a), .int (nI n), .int (nI k)] [.int (bI b')] M := by
          intro b' h'
          refine l55 _ _ _ _ _ ⟨rfl, vX13_isText_55 hW ?_⟩
          rw [nI_1]
          exact ih (k + 1) b' (by omega) h'
        have hkl : k < L.length := by omega
        have hgk : L[k]? = some L[k] := List.getElem?_eq_getElem hkl
        have hv := hL.2 k _ hgk
        have hbd := hLb _ (List.getElem_mem hkl)
        obtain ⟨t1, t2⟩ := hT.2.2 (a + k) (by omega)
        rw [nI_add, nI_clamp (by omega), nI_clamp (by omega), hv, t1, sb_and _ t2]
        have ee := nI_eq (a := L[k]) (b := T (a + k)) (by omega) (by omega)
        refine ⟨vp_in_nI (by omega) (by omega), vp_in_nI (by omega) (by omega), fun y => f55 true ⟨fun _ => ⟨z1, fun t ht => ?_⟩, fun _ => rfl⟩, fun y => f55 false ⟨fun q => absurd q (by decide), fun q => ?_⟩⟩
        · rcases (show t < k ∨ t = k by omega) with q | q
          · exact z2 t q
          · rw [q, hgk, ee.mp y]
        · have := q.2 k (by omega)
          rw [hgk] at this
          exact absurd (ee.mpr (Option.some.inj this)) y
  have f13 : ∀ b : Bool, (b = true ↔ L.length = n) → X 13 0 0 [.ref 55, .int (nI a), .int (nI n)] [.int (bI b)] M := by
    intro b hb'
    refine l13 _ _ _ _ _ ⟨rfl, vX13_isText_13 hW (loop n 0 b (by omega) ?_)⟩
    rw [hb']
    exact ⟨fun q => ⟨q, fun t ht => absurd ht (by omega)⟩, fun q => q.1⟩
  refine l0 _ _ _ _ _ ⟨rfl, vX13_isText_0 hW ?_⟩
  rw [hL.1]
  have en := nI_eq (a := L.length) (b := n) (by omega) (by omega)
  exact ⟨fun y => f13 true ⟨fun _ => en.mp y, fun _ => rfl⟩, fun y => f13 false ⟨fun q => absurd q (by decide), fun q => absurd (en.mpr q) y⟩⟩
/-- the position behind a move of a list -/
noncomputable def mkM (P : Ps) (m : Nat) : Ps := mkP P (m % 64) (m / 64 % 64) (m / 4096)
noncomputable def sgl (P : Ps) (m : Nat) : List Nat := if chB (mkM P m) = true then @ite _ (hasM (mkM P m)) (Classical.propDecidable _) [43] [35] else []
/-- what was put together, and boards behind the first, have changed -/
def sgF (M N : zM) : Prop := zSm [55, 65, 70] M N ∧ (∀ j, j ≠ 24 → N.1 55 j = M.1 55 j) ∧ ∀ i, i < 69 → N.1 65 i = M.1 65 i
theorem sgF.rf {M : zM} : sgF M M := ⟨zSm.rf, fun _ _ => rfl, fun _ _ => rfl⟩
theorem sgF.tr {M N K : zM} (h : sgF M N) (h2 : sgF N K) : sgF M K := ⟨h.1.tr h2.1, fun j hj => (h2.2.1 j hj).trans (h.2.1 j hj), fun i hi => (h2.2.2 i hi).trans (h.2.2 i hi)⟩
theorem soF.sg {M N : zM} (h : soF M N) : sgF M N := ⟨h.1.mono (by decide), h.2, fun i _ => by rw [h.1.i (by decide)]⟩
theorem sgF.sh {M N : zM} (h : sgF M N) {P : Ps} (hS : rSh M P) : rSh N P :=
  ⟨rPs_off (q := 69) (fun i hi => h.2.2 i hi) (by omega) hS.1, fun k v hk => by rw [h.1.i (by decide)]; exact hS.2.1 k v hk, by rw [h.1.i (by decide)]; exact hS.2.2⟩
theorem sgF.tx {M N : zM} (h : sgF M N) {T : Nat → Nat} {e : Nat} (hT : rTx M T e) : rTx N T e :=
  ⟨by rw [h.2.1 22 (by decide)]; exact hT.1, hT.2.1, fun i hi => by rw [h.1.i (by decide)]; exact hT.2.2 i hi⟩
/-- clock and number are small -/
def psSm (P : Ps) : Prop := P.2.2.2.2.1 < 2 ^ 29 ∧ P.2.2.2.2.2 < 2 ^ 29
theorem mkP_sm {P : Ps} (hs : P.2.1 ≤ 1) (h : psSm P) (a b pr : Nat) : (mkP P a b pr).2.2.2.2.1 + 1 < 2 ^ 30 ∧ (mkP P a b pr).2.2.2.2.2 + 1 < 2 ^ 30 := by
  obtain ⟨h1, h2⟩ := h
  constructor
  · show (if (pwn P a || tks P a b) = true then 0 else P.2.2.2.2.1 + 1) + 1 < 2 ^ 30
    split <;> omega
  · show P.2.2.2.2.2 + P.2.1 + 1 < 2 ^ 30
    omega
theorem mvs_parts {P : Ps} {m : Nat} (h : m ∈ mvs P) : m % 64 < 64 ∧ m / 64 % 64 < 64 ∧ m / 4096 ≤ 5 ∧ lgl P (m % 64) (m / 64 % 64) ∧ m = m % 64 + 64 * (m / 64 % 64) + 4096 * (m / 4096) := by
  obtain ⟨a, b, k, ha, hb, hl, e, hk⟩ := mem_mvs h
  have h1 : m % 64 = a := by omega
  have h2 : m / 64 % 64 = b := by omega
  have h3 : m / 4096 = k := by omega
  rw [h1, h2, h3]
  exact ⟨ha, hb, by omega, hl, e⟩
set_option maxHeartbeats 4000000 in
theorem c_saySign {mc ms : Nat} {M : zM} (hW : zFix M) {P : Ps} (hS : rSh M P) (hsm : psSm P) {L : List Nat} (hO : rOut M L) (hl : L.length < 90) {m : Nat} (hm : m ∈ mvs P) {Q : zQt} (hq : ∀ N, sgF M N → rOut N (L ++ sgl P m) → Q none N) : wX13_saySign mc ms [.ref 55, .int (nI m)] M Q := by
  refine ⟨⟨Nat.le_of_ble_eq_true rfl, rfl⟩, fun X l0 l39 l42 => ?_⟩
  have f42 : ∀ N, sgF M N → rOut N (L ++ sgl P m) → X 42 0 0 [] [] N := fun N hN h => l42 _ _ _ _ _ ⟨rfl, vX13_saySign_42 (hN.1.fix hW) (hq N hN h)⟩
  obtain ⟨ha, hb, hk, hlg, em⟩ := mvs_parts hm
  have hs1 := hS.1.2.1.2
  have hsm2 := mkP_sm hs1 hsm (m % 64) (m / 64 % 64) (m / 4096)
  refine l0 _ _ _ _ _ ⟨rfl, vX13_saySign_0 hW ?_⟩
  have hmk := c_make (mc := 0) (ms := 0) hW (p := 0) hS.1 (by omega) ha hb hk (fun h => cas_home hs1 hlg.1 h) (by have := hsm.1; omega) (by have := hsm.2; omega) (Q := fun r M1 => kX13_saySign_6 mc ms X Q 0 0 [some (.ref 55), some (.int (nI m))] (r.toList ++ []) M1)
  rw [← em] at hmk
  refine hmk (fun N f hs hN => ?_)
  have hN : rPs N 69 (mkM P m) := hN
  have hWN := hs.1.fix hW
  have fN : sgF M N := ⟨hs.1.mono (by decide), fun j _ => by rw [hs.1.i (by decide)], fun i hi => hs.off (by omega)⟩
  have hON : rOut N L := ⟨by rw [hs.1.i (by decide)]; exact hO.1, fun k v hk => by rw [hs.1.i (by decide)]; exact hO.2 k v hk⟩
  refine vkX13_saySign_6 hWN ?_
  rw [show (133 : Int32).toNatClampNeg = 133 from rfl, show N.1 65 133 = nI (mkM P m).2.1 from hN.2.1.1]
  refine c_isChecked hWN (p := 69) hN.1 (by omega) hN.2.1.2 (fun h => ?_) (fun h => ?_)
  · refine vkX13_saySign_20 hWN ⟨fun d => absurd d (by decide), fun _ => ?_⟩
    have f39 : ∀ v K, scr N K (69 * 1 + 69) → sgl P m = [v] → X 39 0 0 [] [.int (nI v), .ref 55] K := by
      intro v K hK hv
      have hWK := hK.1.fix hWN
      have fK : sgF M K := fN.tr ⟨hK.1.mono (by decide), fun j _ => by rw [hK.1.i (by decide)], fun i hi => hK.2 i (by omega)⟩
      have hOK : rOut K L := ⟨by rw [hK.1.i (by decide)]; exact hON.1, fun k v hk => by rw [hK.1.i (by decide)]; exact hON.2 k v hk⟩
      refine l39 _ _ _ _ _ ⟨rfl, vX13_saySign_39 hWK (c_say hWK hOK (by omega) v (fun Z hZ hO2 => vkX13_saySign_42 (hZ.1.fix hWK) (f42 Z (fK.tr hZ.sg) ?_)))⟩
      rw [hv]
      exact hO2
    refine c_hasMove hWN (y := 1) (by omega) hN hsm2.1 hsm2.2 (fun K hK hh => ?_) (fun K hK hh => ?_)
    · refine vkX13_saySign_29 (hK.1.fix hWN) ⟨fun d => absurd d (by decide), fun _ => f39 43 K hK ?_⟩
      unfold sgl
      rw [if_pos (chB_t.mpr h), if_pos hh]
    · refine vkX13_saySign_29 (hK.1.fix hWN) ⟨fun _ => f39 35 K hK ?_, fun d => absurd rfl d⟩
      unfold sgl
      rw [if_pos (chB_t.mpr h), if_neg hh]
  · refine vkX13_saySign_20 hWN ⟨fun _ => f42 N fN ?_, fun d => absurd rfl d⟩
    have : sgl P m = [] := by unfold sgl; rw [if_neg (fun q => h (chB_t.mp q))]
    rw [this, List.append_nil]
    exact hON
