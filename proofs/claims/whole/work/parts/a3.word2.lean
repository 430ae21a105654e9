/-! THE CLASS'S WORDS: pawns, the whole -/
/-- where the square of a pawn's word ends -/
def pwE (T : Nat → Nat) (e : Nat) : Nat := if isO (T (e - 1)) then e - 1 else e
abbrev pwS (T : Nat → Nat) (s e : Nat) : Prop := tgS T s (pwE T e) ∧ (pwE T e - 2 = s ∨ pwE T e - 2 = s + 2 ∧ isF (T s) ∧ T (s + 1) = 120)
theorem pw_pf {T : Nat → Nat} {s e : Nat} (hse : s < e) : pwS T s e ↔ pfS T s e := by
  unfold pwS pfS tgS
  by_cases ho : isO (T (e - 1))
  · have hE : pwE T e = e - 1 := if_pos ho
    rw [hE]
    have hnr : ¬ isR (T (e - 1)) := fun z => by
      unfold isR at z
      rcases ho with q | q | q | q <;> omega
    constructor
    · rintro ⟨⟨a1, a2, a3⟩, b | ⟨b1, b2, b3⟩⟩
      · have hp : pw1 T s e = s := by
          unfold pw1
          rw [if_neg]
          rintro ⟨c1, c2, c3⟩
          rw [show e - 1 - 1 = s + 1 by omega] at a3
          unfold isR at a3
          omega
        have hq : pw2 T s e = e - 1 := by unfold pw2; rw [if_pos ⟨by omega, ho⟩]
        rw [hp, hq]
        exact ⟨by omega, by rw [show s = e - 1 - 2 by omega]; exact a2, by rw [show s + 1 = e - 1 - 1 by omega]; exact a3⟩
      · have hp : pw1 T s e = s + 2 := by unfold pw1; rw [if_pos ⟨by omega, b2, b3⟩]
        have hq : pw2 T (s + 2) e = e - 1 := by unfold pw2; rw [if_pos ⟨by omega, ho⟩]
        rw [hp, hq]
        exact ⟨by omega, by rw [show s + 2 = e - 1 - 2 by omega]; exact a2, by rw [show s + 2 + 1 = e - 1 - 1 by omega]; exact a3⟩
    · rintro ⟨a1, a2, a3⟩
      by_cases hp : 2 < e - s ∧ isF (T s) ∧ T (s + 1) = 120
      · have h1 : pw1 T s e = s + 2 := by unfold pw1; rw [if_pos hp]
        rw [h1] at a1 a2 a3
        unfold pw2 at a1
        by_cases hq : e - (s + 2) = 3 ∧ isO (T (e - 1))
        · rw [if_pos hq] at a1
          exact ⟨⟨by omega, by rw [show e - 1 - 2 = s + 2 by omega]; exact a2, by rw [show e - 1 - 1 = s + 2 + 1 by omega]; exact a3⟩, Or.inr ⟨by omega, hp.2.1, hp.2.2⟩⟩
        · rw [if_neg hq] at a1
          exfalso
          rw [show s + 2 + 1 = e - 1 by omega] at a3
          exact hnr a3
      · have h1 : pw1 T s e = s := by unfold pw1; rw [if_neg hp]
        rw [h1] at a1 a2 a3
        unfold pw2 at a1
        by_cases hq : e - s = 3 ∧ isO (T (e - 1))
        · rw [if_pos hq] at a1
          exact ⟨⟨by omega, by rw [show e - 1 - 2 = s by omega]; exact a2, by rw [show e - 1 - 1 = s + 1 by omega]; exact a3⟩, Or.inl (by omega)⟩
        · rw [if_neg hq] at a1
          exfalso
          rw [show s + 1 = e - 1 by omega] at a3
          exact hnr a3
  · have hE : pwE T e = e := if_neg ho
    rw [hE]
    have hq : ∀ p, pw2 T p e = e := fun p => by unfold pw2; rw [if_neg (fun z => ho z.2)]
    constructor
    · rintro ⟨⟨a1, a2, a3⟩, b | ⟨b1, b2, b3⟩⟩
      · have hp : pw1 T s e = s := by unfold pw1; rw [if_neg (by omega)]
        rw [hp, hq]
        exact ⟨by omega, by rw [show s = e - 2 by omega]; exact a2, by rw [show s + 1 = e - 1 by omega]; exact a3⟩
      · have hp : pw1 T s e = s + 2 := by unfold pw1; rw [if_pos ⟨by omega, b2, b3⟩]
        rw [hp, hq]
        exact ⟨by omega, by rw [show s + 2 = e - 2 by omega]; exact a2, by rw [show s + 2 + 1 = e - 1 by omega]; exact a3⟩
    · rintro ⟨a1, a2, a3⟩
      rw [hq] at a1
      by_cases hp : 2 < e - s ∧ isF (T s) ∧ T (s + 1) = 120
      · have h1 : pw1 T s e = s + 2 := by unfold pw1; rw [if_pos hp]
        rw [h1] at a1 a2 a3
        exact ⟨⟨by omega, by rw [show e - 2 = s + 2 by omega]; exact a2, by rw [show e - 1 = s + 2 + 1 by omega]; exact a3⟩, Or.inr ⟨by omega, hp.2.1, hp.2.2⟩⟩
      · have h1 : pw1 T s e = s := by unfold pw1; rw [if_neg hp]
        rw [h1] at a1 a2 a3
        exact ⟨⟨by omega, by rw [show e - 2 = s by omega]; exact a2, by rw [show e - 1 = s + 1 by omega]; exact a3⟩, Or.inl (by omega)⟩
set_option maxHeartbeats 4000000 in
theorem c_readPawn {mc ms : Nat} {M : zM} {g : Nat} (hW : zWd M g) {T : Nat → Nat} (hT : ∀ i, T i < 256) (hM : cTp M T) {s e : Nat} (hse : s < e) (he : e ≤ 8180) {Q : zQt} (q1 : ∀ N j, pwS T s e → wFr M N [0, 1, 2] → N.1 28 0 = nI 1 → N.1 28 1 = nI (tgV T (pwE T e)) → N.1 28 2 = nI j → j ≤ 5 → (isO (T (e - 1)) → 2 ≤ j ∧ ltr j = T (e - 1)) → (¬ isO (T (e - 1)) → j = 0) → Q (some (.int 1)) N) (q0 : ∀ N, ¬ pwS T s e → wFr M N [0, 1, 2] → Q (some (.int 0)) N) : wX10_readPawn mc ms [.ref 28, .ref 24, .int (nI s), .int (nI e)] M Q := by
  refine ⟨⟨Nat.le_of_ble_eq_true rfl, rfl⟩, fun X l0 l33 l34 l48 l63 l116 l120 l121 => ?_⟩
  refine l0 _ _ _ _ _ ⟨rfl, vX10_readPawn_0 hW (fun M2 e2 => ?_)⟩
  have fr2 : wFr M M2 [0, 1, 2] := by rw [e2]; exact wFr.rf.I (by simp)
  have W2 := fr2.1.wd hW
  have T2 : cTp M2 T := hM.sm fr2.1 (by simp)
  have m20 : M2.1 28 0 = nI 1 := by rw [e2, zsI_s]; rfl
  rw [show nI e - (1 : Int32) = nI (e - 1) from pk_sub (b := 1) (by omega), nI_clamp (by omega), T2 _ (by omega)]
  have hbd := ix_bd (T (e - 1))
  have h25 := ix_25 (T (e - 1))
  have hstop : s ≤ pwE T e ∧ pwE T e ≤ e := by unfold pwE; split <;> omega
  -- behind the letter
  have f63 : ∀ j, j ≤ 5 → (isO (T (e - 1)) → 2 ≤ j ∧ ltr j = T (e - 1)) → (¬ isO (T (e - 1)) → j = 0) → X 63 0 0 [.ref 28, .ref 24, .int (nI s)] [.int (nI (pwE T e))] (zsI M2 28 2 (nI j)) := by
    intro j hj j1 j2
    obtain ⟨K, eK⟩ : ∃ K, K = zsI M2 28 2 (nI j) := ⟨_, rfl⟩
    rw [← eK]
    have frK : wFr M K [0, 1, 2] := by rw [eK]; exact fr2.I (by simp)
    have WK := frK.1.wd hW
    have TK : cTp K T := hM.sm frK.1 (by simp)
    refine l63 _ _ _ _ _ ⟨rfl, vX10_readPawn_63 WK ?_⟩
    refine c_readTarget WK hT TK (s := s) (e := pwE T e) hstop.1 (by omega) (fun ht => vkX10_readPawn_73 ((frK.I (v := nI (tgV T (pwE T e))) (j := 1) (by simp)).1.wd hW) ⟨fun z => absurd z (by decide), fun _ => ?_⟩) (fun ht => vkX10_readPawn_73 WK ⟨fun _ => q0 K (fun z => ht z.1) frK, fun z => absurd rfl z⟩)
    obtain ⟨N, eN⟩ : ∃ N, N = zsI K 28 1 (nI (tgV T (pwE T e))) := ⟨_, rfl⟩
    rw [← eN]
    have frN : wFr M N [0, 1, 2] := by rw [eN]; exact frK.I (by simp)
    have WN := frN.1.wd hW
    have TN : cTp N T := hM.sm frN.1 (by simp)
    have h2 := ht.1
    have f116 : pwS T s e → X 116 0 0 [] [] N := by
      intro h
      refine l116 _ _ _ _ _ ⟨rfl, vX10_readPawn_116 WN (l121 _ _ _ _ _ ⟨rfl, vX10_readPawn_121 WN ⟨rfl, q1 N j h frN ?_ ?_ ?_ hj j1 j2⟩⟩)⟩
      · rw [eN, zsI_n (by omega), eK, zsI_n (by omega)]; exact m20
      · rw [eN, zsI_s]
      · rw [eN, zsI_n (by omega), eK, zsI_s]
    have f120 : ¬ pwS T s e → X 120 0 0 [] [] N := fun h => l120 _ _ _ _ _ ⟨rfl, vX10_readPawn_120 WN (l121 _ _ _ _ _ ⟨rfl, vX10_readPawn_121 WN ⟨rfl, q0 N h frN⟩⟩)⟩
    rw [show nI (pwE T e) - (2 : Int32) = nI (pwE T e - 2) from pk_sub (b := 2) (by omega), pk_sub (a := pwE T e - 2) (b := s) (by omega), nI_clamp (by omega), TN _ (by omega)]
    have a0 := nI_eq (a := pwE T e - 2 - s) (b := 0) (by omega) (by decide)
    have a2 := nI_eq (a := pwE T e - 2 - s) (b := 2) (by omega) (by decide)
    refine ⟨fun w => f116 ⟨ht, Or.inl (by have := a0.mp w; omega)⟩, fun w => ⟨fun w2 => ⟨vp_in_nI (by omega) (by omega), c_isFileC WN _ (hT _) (fun hf => vkX10_readPawn_103 WN ⟨fun z => absurd z (by decide), fun _ => ?_⟩) (fun hf => vkX10_readPawn_103 WN ⟨fun _ => f120 (fun z => ?_), fun z => absurd rfl z⟩)⟩, fun w2 => f120 (fun z => ?_)⟩⟩
    · have h22 := a2.mp w2
      have hT1 := hT (s + 1)
      rw [show nI s + (1 : Int32) = nI (s + 1) from nI_1 s, nI_clamp (by omega), TN _ (by omega)]
      have ex := nI_eq (a := T (s + 1)) (b := 120) (by omega) (by decide)
      refine ⟨vp_in_nI (by omega) (by omega), fun w3 => f116 ⟨ht, Or.inr ⟨by omega, hf, ex.mp w3⟩⟩, fun w3 => f120 (fun z => ?_)⟩
      rcases z.2 with y | y
      · omega
      · exact w3 (ex.mpr y.2.2)
    · have h22 := a2.mp w2
      rcases z.2 with y | y
      · omega
      · exact hf y.2.1
    · have b0 : ¬ pwE T e - 2 - s = 0 := fun y => w (a0.mpr y)
      have b2 : ¬ pwE T e - 2 - s = 2 := fun y => w2 (a2.mpr y)
      rcases z.2 with y | y
      · omega
      · omega
  have f48n : ¬ isO (T (e - 1)) → ∀ x4 : Int32, X 33 0 0 [.ref 28, .ref 24, .int (nI s), .int (nI e), .int x4] [] M2 := by
    intro h x4
    refine l33 _ _ _ _ _ ⟨rfl, vX10_readPawn_33 W2 (l34 _ _ _ _ _ ⟨rfl, vX10_readPawn_34 W2 ⟨fun _ => l48 _ _ _ _ _ ⟨rfl, vX10_readPawn_48 W2 (fun M48 e48 => ⟨fun _ => ?_, fun z => absurd rfl z⟩)⟩, fun z => absurd rfl z⟩⟩)⟩
    have := f63 0 (by omega) (fun z => absurd z h) (fun _ => rfl)
    rw [show pwE T e = e from if_neg h] at this
    rw [e48]
    exact this
  refine ⟨vp_in_nI (by omega) (by omega), c_indexOf (hT _) (vkX10_readPawn_15 W2 ?_)⟩
  have i2 := iI_lt (a := ixL (T (e - 1))) (b := 2) (by omega) (by omega) (by omega) (by omega)
  have i5 := iI_lt (a := 5) (b := ixL (T (e - 1))) (by omega) (by omega) (by omega) (by omega)
  refine ⟨fun w => f48n (fun z => ?_) _, fun w => ⟨fun w2 => f48n (fun z => ?_) _, fun w2 => ?_⟩⟩
  · have := i2.mp w; have := (h25.mpr z).1; omega
  · have := i5.mp w2; have := (h25.mpr z).2; omega
  have hk : 2 ≤ ixL (T (e - 1)) ∧ ixL (T (e - 1)) ≤ 5 := by
    have a1 : ¬ ixL (T (e - 1)) < 2 := fun z => w (i2.mpr z)
    have a2 : ¬ 5 < ixL (T (e - 1)) := fun z => w2 (i5.mpr z)
    omega
  have hO := h25.mp hk
  refine l34 _ _ _ _ _ ⟨rfl, vX10_readPawn_34 W2 ⟨fun z => absurd z (by decide), fun _ => l48 _ _ _ _ _ ⟨rfl, vX10_readPawn_48 W2 (fun M48 e48 => ⟨fun z => absurd z (by decide), fun _ => ?_⟩)⟩⟩⟩
  have := f63 (ixL (T (e - 1))).toNat (by omega) (fun _ => ⟨by omega, (ix_ltr (by omega)).1⟩) (fun z => absurd hO z)
  rw [show pwE T e = e - 1 from if_pos hO] at this
  rw [e48, iz_nat (by omega), show nI e - (1 : Int32) = nI (e - 1) from pk_sub (b := 1) (by omega)]
  exact this
/-! the whole word -/
theorem fm_0 (T : Nat → Nat) (a : Nat) : fmS T a 0 = 0 := by
  by_cases h : fmS T a 0 = 0
  · exact h
  · exact absurd (fm_head h).1 (by omega)
theorem fm_long {T : Nat → Nat} {a n : Nat} (h : 7 ≤ n) : fmS T a n = 0 := by
  unfold fmS
  rw [if_neg (fun z => by have := z.1; omega)]
  have hm : ¬ mfS T (a + 1) (a + n) := by
    rintro ⟨-, -, -, z⟩
    have m1 : ∀ p q, mf1 T p q ≤ p + 1 := fun p q => by unfold mf1; split <;> omega
    have m2 : ∀ p q, mf2 T p q ≤ p + 1 := fun p q => by unfold mf2; split <;> omega
    have m3 : ∀ p q, mf3 T p q ≤ p + 1 := fun p q => by unfold mf3; split <;> omega
    have := m3 (mf2 T (mf1 T (a + 1) (a + n - 2)) (a + n - 2)) (a + n - 2)
    have := m2 (mf1 T (a + 1) (a + n - 2)) (a + n - 2)
    have := m1 (a + 1) (a + n - 2)
    omega
  have hp : ¬ pfS T a (a + n) := by
    rintro ⟨z, -, -⟩
    have p1 : pw1 T a (a + n) ≤ a + 2 := by unfold pw1; split <;> omega
    have p2 : a + n - 1 ≤ pw2 T (pw1 T a (a + n)) (a + n) := by unfold pw2; split <;> omega
    omega
  rw [if_neg hm, if_neg hp]
  split <;> rfl
def sgW (T : Nat → Nat) (a n : Nat) : Nat := if fnB T a n < n then T (a + n - 1) else 0
/-- bytes of the word read so far -/
theorem txt_snoc (T : Nat → Nat) (a k : Nat) : txt T a (k + 1) = txt T a k ++ [T (a + k)] := by
  unfold txt
  rw [List.range_succ, List.map_append]
  rfl
set_option maxHeartbeats 8000000 in
theorem c_readWord {mc ms : Nat} {M : zM} {g : Nat} (hW : zWd M g) {T : Nat → Nat} (hT : ∀ i, T i < 256) (hM : cTp M T) {a n : Nat} (he : a + n ≤ 8180) {Q : zQt} (q1 : ∀ N, fmS T a (fnB T a n) ≠ 0 → zSm [28] M N → wSt N T a (fnB T a n) (fmS T a (fnB T a n)) → N.1 28 5 = nI (sgW T a n) → n ≤ 7 → Q (some (.int 1)) N) (q0 : ∀ N, fmS T a (fnB T a n) = 0 → zSm [28] M N → Q (some (.int 0)) N) : wX10_read mc ms [.ref 28, .ref 24, .int (nI a), .int (nI (a + n))] M Q := by
  refine ⟨⟨Nat.le_of_ble_eq_true rfl, rfl⟩, fun X l0 l13 l37 l43 l60 l70 l151 l155 l156 => ?_⟩
  have hbn := fnB_le T a n
  have f13 : fmS T a (fnB T a n) = 0 → X 13 0 0 [] [] M := fun h => l13 _ _ _ _ _ ⟨rfl, vX10_read_13 hW (q0 M h zSm.rf)⟩
  have hb1 : n ≤ fnB T a n + 1 := by unfold fnB; split <;> omega
  -- the rest, once sign and end are known
  obtain ⟨b, eb⟩ : ∃ b, b = fnB T a n := ⟨_, rfl⟩
  rw [← eb] at hbn hb1 f13
  have rest : n ≤ 7 → 0 < n → ∀ K, zSm [28] M K → K.1 28 5 = nI (sgW T a n) → X 60 0 0 [.ref 28, .ref 24, .int (nI a)] [.int (nI (a + b))] K := by
    intro hn hn0 K sK k5
    have WK := sK.wd hW
    refine l60 _ _ _ _ _ ⟨rfl, vX10_read_60 WK (fun M64 e64 => ?_)⟩
    have s64 : zSm [28] M M64 := by rw [e64]; exact sK.tr (zSm.J (by simp))
    have fin : ∀ L, zSm [28] M L → L.1 28 5 = nI (sgW T a n) → L.2.1 28 4 = jN (tx (txt T a b)) → wX10_readCastle 0 0 [.ref 24, .int (nI a), .int (nI (a + b))] L (fun r M1 => kX10_read_108 mc ms X Q 0 0 [some (.ref 28), some (.ref 24), some (.int (nI a)), none, none, some (.int (nI (a + b))), some (.int (nI (a + b)))] (r.toList ++ [.ref 28]) M1) := by
      intro L sL l5 l4
      have WL := sL.wd hW
      have TL : cTp L T := hM.sm sL (by simp)
      refine c_readCastle WL hT TL (by omega) (vkX10_read_108 WL (fun M108 e108 M113 e113 => ?_))
      have s113 : zSm [28] M M113 := by rw [e113, e108]; exact (sL.tr (zSm.I (by simp))).tr (zSm.I (by simp))
      have W113 := s113.wd hW
      have T113 : cTp M113 T := hM.sm s113 (by simp)
      have h3 : M113.1 28 3 = iI (if caS T a b then (if b = 3 then 2 else -2) else 0) := by rw [e113, zsI_n (by omega), e108, zsI_s]
      have h2 : M113.1 28 2 = nI 0 := by rw [e113, zsI_s]; rfl
      have h5 : M113.1 28 5 = nI (sgW T a n) := by rw [e113, zsI_n (by omega), e108, zsI_n (by omega)]; exact l5
      have h4 : M113.2.1 28 4 = jN (tx (txt T a b)) := by rw [e113, e108]; exact l4
      have f155 : ∀ N, fmS T a b = 0 → zSm [28] M N → X 155 0 0 [] [] N := fun N h sN => l155 _ _ _ _ _ ⟨rfl, vX10_read_155 (sN.wd hW) (l156 _ _ _ _ _ ⟨rfl, vX10_read_156 (sN.wd hW) ⟨rfl, q0 N (by rw [← eb]; exact h) sN⟩⟩)⟩
      have f151 : ∀ N, fmS T a b ≠ 0 → zSm [28] M N → wSt N T a b (fmS T a b) → N.1 28 5 = nI (sgW T a n) → X 151 0 0 [] [] N := fun N h sN hw n5 => l151 _ _ _ _ _ ⟨rfl, vX10_read_151 (sN.wd hW) (l156 _ _ _ _ _ ⟨rfl, vX10_read_156 (sN.wd hW) ⟨rfl, q1 N (by rw [← eb]; exact h) sN (by rw [← eb]; exact hw) n5 hn⟩⟩)⟩
      rw [h3]
      by_cases hca : caS T a b
      · rw [if_pos hca]
        have hfm : fmS T a b = if b = 3 then 1 else 2 := by unfold fmS; rw [if_pos hca]
        have hne : ¬ iI (if b = 3 then 2 else -2) = 0 := by split <;> decide
        refine ⟨fun w => absurd w hne, fun _ => f151 M113 (by rw [hfm]; split <;> omega) s113 ⟨?_, h4, fun z => ?_⟩ h5⟩
        · rw [h3, if_pos hca, hfm]
          unfold wdC
          by_cases q : b = 3
          · rw [if_pos q, if_pos q, if_pos rfl]
          · rw [if_neg q, if_neg q, if_neg (by omega), if_pos rfl]
        · rw [hfm] at z; split at z <;> omega
      rw [if_neg hca]
      refine ⟨fun _ => ?_, fun w => absurd rfl w⟩
      have hfm : fmS T a b = if 0 < b ∧ (T a = 75 ∨ isO (T a)) then (if mfS T (a + 1) (a + b) then 3 else 0) else if pfS T a (a + b) then 4 else 0 := by unfold fmS; rw [if_neg hca]
      have eab := nI_leI (a := a + b) (b := a) (by omega) (by omega)
      refine ⟨fun w => f155 M113 ?_ s113, fun w => ?_⟩
      · have : b = 0 := by have := eab.mp w; omega
        rw [this]; exact fm_0 T a
      have hb0 : 0 < b := by have : ¬ a + b ≤ a := fun z => w (eab.mpr z); omega
      have h3z : M113.1 28 3 = iI (wdC 3) ∧ M113.1 28 3 = iI (wdC 4) := by rw [h3, if_neg hca]; exact ⟨rfl, rfl⟩
      refine c_readMan W113 hT T113 (s := a) (e := a + b) (by omega) (by omega) (fun N hy frN n0 n1 => vkX10_read_137 (frN.1.wd W113) ⟨fun z => absurd z (by decide), fun _ => ?_⟩) (fun N hy frN => vkX10_read_137 (frN.1.wd W113) ⟨fun _ => ?_, fun z => absurd rfl z⟩)
      · have hf3 : fmS T a b = 3 := by rw [hfm, if_pos ⟨hb0, hy.1⟩, if_pos hy.2]
        have hix := (ix_26 (T a)).mpr hy.1
        refine f151 N (by omega) (s113.tr frN.1) ?_ (by rw [frN.2.1 5 (by simp)]; exact h5)
        rw [hf3]
        have nb : ¬ bec T 3 a b := fun z => absurd z.1 (by decide)
        have hl : lsq T 3 a b = a + b - 2 := by unfold lsq; rw [if_neg nb]; omega
        have h2b := hy.2.1
        refine ⟨by rw [frN.2.1 3 (by simp)]; exact h3z.1, by rw [frN.2.2]; exact h4, fun _ => ⟨?_, ⟨(ixL (T a)).toNat, by rw [n0, iz_nat (by omega)], by omega, fun _ => ⟨by omega, (ix_ltr (by omega)).1⟩, fun z => absurd z (by decide)⟩, ⟨0, by rw [frN.2.1 2 (by simp)]; exact h2, by omega, fun z => absurd z nb, fun _ => rfl⟩⟩⟩
        rw [n1, hl, show a + b - 2 + 1 = a + b - 1 by omega]
      · have TN : cTp N T := T113.sm frN.1 (by simp)
        have WN := frN.1.wd W113
        refine c_readPawn WN hT TN (s := a) (e := a + b) (by omega) (by omega) (fun K j hp frK k0 k1 k2 hj j1 j2 => vkX10_read_148 (frK.1.wd WN) ⟨fun z => absurd z (by decide), fun _ => ?_⟩) (fun K hp frK => vkX10_read_148 (frK.1.wd WN) ⟨fun _ => f155 K ?_ ((s113.tr frN.1).tr frK.1), fun z => absurd rfl z⟩)
        · have hp0 := hp
          rw [pw_pf (by omega)] at hp
          have hnm : ¬ (0 < b ∧ (T a = 75 ∨ isO (T a))) := by
            rintro ⟨-, z⟩
            have hfa : isF (T a) := by
              rcases hp0.2 with y | y
              · have := hp0.1.2.1
                rw [y] at this
                exact this
              · exact y.2.1
            unfold isF at hfa
            rcases z with z | z | z | z | z <;> omega
          have hf4 : fmS T a b = 4 := by rw [hfm, if_neg hnm, if_pos hp]
          refine f151 K (by omega) ((s113.tr frN.1).tr frK.1) ?_ (by rw [frK.2.1 5 (by simp), frN.2.1 5 (by simp)]; exact h5)
          rw [hf4]
          have hbe : bec T 4 a b ↔ isO (T (a + b - 1)) := ⟨fun z => z.2, fun z => ⟨rfl, z⟩⟩
          have h2s := hp0.1.1
          have hl : lsq T 4 a b = pwE T (a + b) - 2 := by
            unfold lsq pwE
            by_cases z : isO (T (a + b - 1))
            · rw [if_pos (hbe.mpr z), if_pos z]
            · rw [if_neg (fun y => z (hbe.mp y)), if_neg z]; omega
          refine ⟨by rw [frK.2.1 3 (by simp), frN.2.1 3 (by simp)]; exact h3z.2, by rw [frK.2.2, frN.2.2]; exact h4, fun _ => ⟨?_, ⟨1, k0, by omega, fun z => absurd z (by decide), fun _ => rfl⟩, ⟨j, k2, hj, fun z => j1 (hbe.mp z), fun z => j2 (fun y => z (hbe.mpr y))⟩⟩⟩
          rw [k1, hl, show pwE T (a + b) - 2 + 1 = pwE T (a + b) - 1 by omega]
        · rw [hfm]
          rw [pw_pf (by omega)] at hp
          by_cases z : 0 < b ∧ (T a = 75 ∨ isO (T a))
          · rw [if_pos z, if_neg (fun y => hy ⟨z.2, y⟩)]
          · rw [if_neg z, if_neg hp]
    have loop : ∀ (r k : Nat) (L : zM), k + r = b → zSm [28] M L → L.1 28 5 = nI (sgW T a n) → L.2.1 28 4 = jN (tx (txt T a k)) → X 70 0 0 [.ref 28, .ref 24, .int (nI a), .int (nI (a + b)), .int (nI (a + k))] [] L := by
      intro r
      induction r with
      | zero =>
        intro k L hk sL l5 l4
        obtain rfl : k = b := by omega
        refine l70 _ _ _ _ _ ⟨rfl, vX10_read_70 (sL.wd hW) ⟨fun _ => fin L sL l5 l4, fun w => absurd ((nI_leI (a := a + k) (b := a + k) (by omega) (by omega)).mpr (Nat.le_refl _)) w⟩⟩
      | succ r ih =>
        intro k L hk sL l5 l4
        have TL : cTp L T := hM.sm sL (by simp)
        refine l70 _ _ _ _ _ ⟨rfl, vX10_read_70 (sL.wd hW) ?_⟩
        rw [nI_clamp (by omega), TL _ (by omega), l4, jN_cat _ _ (hT _), ← tx_snoc, ← txt_snoc, nI_1]
        refine ⟨fun w => absurd ((nI_leI (a := a + b) (b := a + k) (by omega) (by omega)).mp w) (by omega), fun _ => ⟨vp_in_nI (by omega) (by omega), fun M91 e91 => ?_⟩⟩
        refine ih (k + 1) M91 (by omega) (by rw [e91]; exact sL.tr (zSm.J (by simp))) (by rw [e91]; exact l5) (by rw [e91, zsJ_s])
    have := loop b 0 M64 (by omega) s64 (by rw [e64]; exact k5) (by rw [e64, zsJ_s]; rfl)
    exact this
  refine l0 _ _ _ _ _ ⟨rfl, vX10_read_0 hW ?_⟩
  have e0 := nI_leI (a := a + n) (b := a) (by omega) (by omega)
  refine ⟨fun w => f13 ?_, fun w => ?_⟩
  · have : b = 0 := by have := e0.mp w; omega
    rw [this]; exact fm_0 T a
  have hn0 : 0 < n := by have : ¬ a + n ≤ a := fun z => w (e0.mpr z); omega
  rw [pk_sub (a := a + n) (b := a) (by omega), show a + n - a = n by omega, show nI (a + n) - (1 : Int32) = nI (a + n - 1) from pk_sub (b := 1) (by omega), nI_clamp (by omega), hM _ (by omega)]
  have e7 := nI_leI (a := n) (b := 7) (by omega) (by decide)
  refine ⟨fun w7 => ⟨vp_in_nI (by omega) (by omega), fun y ey => ?_⟩, fun w7 => f13 ?_⟩
  rotate_left
  · have : ¬ n ≤ 7 := fun z => w7 (e7.mpr z)
    exact fm_long (by omega)
  have hn7 := e7.mp w7
  have hTl := hT (a + n - 1)
  have e43 := nI_eq (a := T (a + n - 1)) (b := 43) (by omega) (by decide)
  have e35 := nI_eq (a := T (a + n - 1)) (b := 35) (by omega) (by decide)
  have f43 : ∀ x, x = sgW T a n → X 43 0 0 [.ref 28, .ref 24, .int (nI a), .int (nI (a + n))] [.int (nI x), .ref 28] M := by
    intro x hx
    refine l43 _ _ _ _ _ ⟨rfl, vX10_read_43 hW (fun M43 e43' => ?_)⟩
    have s43 : zSm [28] M M43 := by rw [e43']; exact zSm.I (by simp)
    have h5 : M43.1 28 5 = nI (sgW T a n) := by rw [e43', zsI_s, hx]
    rw [h5, show nI (a + n) - (1 : Int32) = nI (a + n - 1) from pk_sub (b := 1) (by omega)]
    have hs : sgW T a n = 0 ↔ b = n := by
      unfold sgW
      rw [← eb]
      by_cases q : b < n
      · rw [if_pos q]
        have : T (a + n - 1) ≠ 0 := by
          rw [eb] at q
          unfold fnB at q
          by_cases z : 0 < n ∧ (T (a + n - 1) = 43 ∨ T (a + n - 1) = 35)
          · omega
          · rw [if_neg z] at q; omega
        exact ⟨fun z => absurd z this, fun z => by omega⟩
      · rw [if_neg q]
        exact ⟨fun _ => by omega, fun _ => rfl⟩
    have hsl : sgW T a n < 256 := by unfold sgW; split <;> omega
    have ez := nI_eq (a := sgW T a n) (b := 0) (by omega) (by decide)
    refine ⟨fun z => ?_, fun z => ?_⟩
    · have := hs.mp (ez.mp z)
      have r := rest hn7 hn0 M43 s43 h5
      rw [this] at r
      exact r
    · have : ¬ b = n := fun y => z (ez.mpr (hs.mpr y))
      have r := rest hn7 hn0 M43 s43 h5
      rw [show a + b = a + n - 1 by omega] at r
      exact r
  have f37 : (T (a + n - 1) = 43 ∨ T (a + n - 1) = 35) → X 37 0 0 [.ref 28, .ref 24, .int (nI a), .int (nI (a + n)), .int (nI (T (a + n - 1)))] [.ref 28] M := by
    intro h
    refine l37 _ _ _ _ _ ⟨rfl, vX10_read_37 hW (f43 _ ?_)⟩
    unfold sgW fnB
    rw [if_pos (⟨hn0, h⟩ : _ ∧ _), if_pos (by omega)]
  rw [ey]
  refine ⟨fun z => f37 (Or.inl (e43.mp z)), fun z => ⟨fun z2 => f37 (Or.inr (e35.mp z2)), fun z2 => f43 0 ?_⟩⟩
  unfold sgW fnB
  rw [if_neg (fun y : _ ∧ _ => y.2.elim (fun u => z (e43.mpr u)) (fun u => z2 (e35.mpr u))), if_neg (by omega)]
