/-! THE CLASS'S WORDS -/
/-- the class's tape bears the bytes -/
def cTp (M : zM) (T : Nat → Nat) : Prop := ∀ i, i < 8180 → M.1 24 i = nI (T i)
theorem cTp.sm {L : List Nat} {M N : zM} {T : Nat → Nat} (h : zSm L M N) (hL : 24 ∉ L) (hT : cTp M T) : cTp N T := fun i hi => by rw [h.i hL]; exact hT i hi
theorem mOf_ltr (c : Nat) : mOf c ≠ 0 → ltr (mOf c) = c ∧ mOf c ≤ 12 := by
  have loop : ∀ n, n ≤ 13 → mOfN c n ≠ 0 → ltr (mOfN c n) = c ∧ mOfN c n ≤ 12 := by
    intro n
    induction n with
    | zero => intro _ h; exact absurd rfl h
    | succ n ih =>
      intro hn h
      unfold mOfN at h ⊢
      by_cases q : ltr n = c ∧ 0 < n
      · rw [if_pos q]; exact ⟨q.1, by omega⟩
      · rw [if_neg q] at h ⊢
        exact ih (by omega) h
  exact loop 13 (Nat.le_refl _)
theorem ix_bd (c : Nat) : -1 ≤ ixL c ∧ ixL c ≤ 12 := by
  rw [ixL_eq]
  split
  · omega
  · split
    · omega
    · rename_i h
      have := (mOf_ltr c h).2
      omega
theorem ix_ltr {c : Nat} (h : 1 ≤ ixL c) : ltr (ixL c).toNat = c ∧ mOf c = (ixL c).toNat := by
  have e := ixL_eq c
  by_cases q : c = 32
  · rw [if_pos q] at e; omega
  rw [if_neg q] at e
  by_cases q2 : mOf c = 0
  · rw [if_pos q2] at e; omega
  rw [if_neg q2] at e
  have e2 : (ixL c).toNat = mOf c := by omega
  rw [e2]
  exact ⟨(mOf_ltr c q2).1, rfl⟩
theorem ix_26 (c : Nat) : (2 ≤ ixL c ∧ ixL c ≤ 6) ↔ (c = 75 ∨ isO c) := by
  constructor
  · rintro ⟨h1, h2⟩
    have h := (ix_ltr (c := c) (by omega)).1
    have t : ∀ k, k ≤ 6 → 2 ≤ k → (ltr k = 75 ∨ isO (ltr k)) := by decide
    have := t (ixL c).toNat (by omega) (by omega)
    rw [h] at this
    exact this
  · intro h
    rcases h with q | q | q | q | q <;> rw [q] <;> decide +kernel
theorem ix_25 (c : Nat) : (2 ≤ ixL c ∧ ixL c ≤ 5) ↔ isO c := by
  constructor
  · rintro ⟨h1, h2⟩
    have h := (ix_ltr (c := c) (by omega)).1
    have t : ∀ k, k ≤ 5 → 2 ≤ k → isO (ltr k) := by decide
    have := t (ixL c).toNat (by omega) (by omega)
    rw [h] at this
    exact this
  · intro h
    rcases h with q | q | q | q <;> rw [q] <;> decide +kernel
theorem c_isFileC {mc ms : Nat} {M : zM} {g : Nat} (hW : zWd M g) (c : Nat) (hc : c < 256) {Q : zQt} (q1 : isF c → Q (some (.int 1)) M) (q0 : ¬ isF c → Q (some (.int 0)) M) : wX10_isFile mc ms [.int (nI c)] M Q := by
  refine ⟨⟨Nat.le_of_ble_eq_true rfl, rfl⟩, fun X l0 l16 l17 => ?_⟩
  have f16 : ¬ isF c → X 16 0 0 [] [] M := fun h => l16 _ _ _ _ _ ⟨rfl, vX10_isFile_16 hW (l17 _ _ _ _ _ ⟨rfl, vX10_isFile_17 hW ⟨rfl, q0 h⟩⟩)⟩
  have e1 := nI_ltI (a := c) (b := 97) (by omega) (by decide)
  have e2 := nI_ltI (a := 104) (b := c) (by decide) (by omega)
  refine l0 _ _ _ _ _ ⟨rfl, vX10_isFile_0 hW ⟨fun w => f16 (fun z => ?_), fun w => ⟨fun w2 => f16 (fun z => ?_), fun w2 => l17 _ _ _ _ _ ⟨rfl, vX10_isFile_17 hW ⟨rfl, q1 ?_⟩⟩⟩⟩⟩
  · have := e1.mp w; have := z.1; omega
  · have := e2.mp w2; have := z.2; omega
  · have a : ¬ c < 97 := fun z => w (e1.mpr z)
    have b : ¬ 104 < c := fun z => w2 (e2.mpr z)
    exact ⟨by omega, by omega⟩
theorem c_isRankC {mc ms : Nat} {M : zM} {g : Nat} (hW : zWd M g) (c : Nat) (hc : c < 256) {Q : zQt} (q1 : isR c → Q (some (.int 1)) M) (q0 : ¬ isR c → Q (some (.int 0)) M) : wX10_isRank mc ms [.int (nI c)] M Q := by
  refine ⟨⟨Nat.le_of_ble_eq_true rfl, rfl⟩, fun X l0 l16 l17 => ?_⟩
  have f16 : ¬ isR c → X 16 0 0 [] [] M := fun h => l16 _ _ _ _ _ ⟨rfl, vX10_isRank_16 hW (l17 _ _ _ _ _ ⟨rfl, vX10_isRank_17 hW ⟨rfl, q0 h⟩⟩)⟩
  have e1 := nI_ltI (a := c) (b := 49) (by omega) (by decide)
  have e2 := nI_ltI (a := 56) (b := c) (by decide) (by omega)
  refine l0 _ _ _ _ _ ⟨rfl, vX10_isRank_0 hW ⟨fun w => f16 (fun z => ?_), fun w => ⟨fun w2 => f16 (fun z => ?_), fun w2 => l17 _ _ _ _ _ ⟨rfl, vX10_isRank_17 hW ⟨rfl, q1 ?_⟩⟩⟩⟩⟩
  · have := e1.mp w; have := z.1; omega
  · have := e2.mp w2; have := z.2; omega
  · have a : ¬ c < 49 := fun z => w (e1.mpr z)
    have b : ¬ 56 < c := fun z => w2 (e2.mpr z)
    exact ⟨by omega, by omega⟩
/-- a file and a rank stand ahead of an end -/
abbrev tgS (T : Nat → Nat) (s e : Nat) : Prop := s + 2 ≤ e ∧ isF (T (e - 2)) ∧ isR (T (e - 1))
abbrev tgV (T : Nat → Nat) (e : Nat) : Nat := (T (e - 2) - 97) + 8 * (T (e - 1) - 49)
set_option maxHeartbeats 4000000 in
theorem c_readTarget {mc ms : Nat} {M : zM} {g : Nat} (hW : zWd M g) {T : Nat → Nat} (hT : ∀ i, T i < 256) (hM : cTp M T) {s e : Nat} (hse : s ≤ e) (he : e ≤ 8180) {Q : zQt} (q1 : tgS T s e → Q (some (.int 1)) (zsI M 28 1 (nI (tgV T e)))) (q0 : ¬ tgS T s e → Q (some (.int 0)) M) : wX10_readTarget mc ms [.ref 28, .ref 24, .int (nI s), .int (nI e)] M Q := by
  refine ⟨⟨Nat.le_of_ble_eq_true rfl, rfl⟩, fun X l0 l29 => ?_⟩
  have f29 : ¬ tgS T s e → X 29 0 0 [] [] M := fun h => l29 _ _ _ _ _ ⟨rfl, vX10_readTarget_29 hW (q0 h)⟩
  refine l0 _ _ _ _ _ ⟨rfl, vX10_readTarget_0 hW ?_⟩
  rw [pk_sub hse]
  have e2 := nI_ltI (a := e - s) (b := 2) (by omega) (by decide)
  refine ⟨fun w => f29 (fun z => by have := e2.mp w; have := z.1; omega), fun w => ?_⟩
  have h2 : s + 2 ≤ e := by
    have : ¬ e - s < 2 := fun z => w (e2.mpr z)
    omega
  rw [show nI e - (2 : Int32) = nI (e - 2) from pk_sub (b := 2) (by omega), nI_clamp (by omega), hM _ (by omega)]
  refine ⟨vp_in_nI (by omega) (by omega), c_isFileC hW _ (hT _) (fun hf => vkX10_readTarget_15 hW ⟨fun z => absurd z (by decide), fun _ => ?_⟩) (fun hf => vkX10_readTarget_15 hW ⟨fun _ => f29 (fun z => hf z.2.1), fun z => absurd rfl z⟩)⟩
  rw [show nI e - (1 : Int32) = nI (e - 1) from pk_sub (b := 1) (by omega), nI_clamp (by omega), hM _ (by omega)]
  refine ⟨vp_in_nI (by omega) (by omega), c_isRankC hW _ (hT _) (fun hr => vkX10_readTarget_26 hW ⟨fun z => absurd z (by decide), fun _ => ?_⟩) (fun hr => vkX10_readTarget_26 hW ⟨fun _ => f29 (fun z => hr z.2.2), fun z => absurd rfl z⟩)⟩
  rw [show nI e - (1 : Int32) = nI (e - 1) from pk_sub (b := 1) (by omega), show nI e - (2 : Int32) = nI (e - 2) from pk_sub (b := 2) (by omega), nI_clamp (by omega), nI_clamp (by omega), hM _ (by omega), hM _ (by omega)]
  have hf1 := hf.1
  have hr1 := hr.1
  rw [show nI (T (e - 1)) - (49 : Int32) = nI (T (e - 1) - 49) from pk_sub (b := 49) hr1, show nI (T (e - 2)) - (97 : Int32) = nI (T (e - 2) - 97) from pk_sub (b := 97) hf1, show nI (T (e - 1) - 49) * (8 : Int32) = nI ((T (e - 1) - 49) * 8) from pk_mul _ 8, nI_add]
  refine ⟨vp_in_nI (by omega) (by omega), vp_in_nI (by omega) (by omega), fun M52 e52 => ?_⟩
  rw [e52, show (T (e - 1) - 49) * 8 + (T (e - 2) - 97) = tgV T e by unfold tgV; omega]
  exact q1 ⟨h2, hf, hr⟩
set_option maxHeartbeats 4000000 in
theorem c_readCastle {mc ms : Nat} {M : zM} {g : Nat} (hW : zWd M g) {T : Nat → Nat} (hT : ∀ i, T i < 256) (hM : cTp M T) {s n : Nat} (he : s + n ≤ 8180) {Q : zQt} (hq : Q (some (.int (iI (if caS T s n then (if n = 3 then 2 else -2) else 0)))) M) : wX10_readCastle mc ms [.ref 24, .int (nI s), .int (nI (s + n))] M Q := by
  refine ⟨⟨Nat.le_of_ble_eq_true rfl, rfl⟩, fun X l0 l2 l25 l60 => ?_⟩
  have f60 : ∀ x : Int32, x = iI (if caS T s n then (if n = 3 then 2 else -2) else 0) → X 60 0 0 [] [.int x] M := fun x hx => l60 _ _ _ _ _ ⟨rfl, vX10_readCastle_60 hW (by rw [hx]; exact hq)⟩
  have loop : ∀ (r k : Nat), k + r = n → (∀ j, j < k → T (s + j) = (if j % 2 = 0 then 48 else 45)) → X 2 0 0 [.ref 24, .int (nI s), .int (nI (s + n)), .int (nI (s + k))] [] M := by
    intro r
    induction r with
    | zero =>
      intro k hk ha
      obtain rfl : k = n := by omega
      refine l2 _ _ _ _ _ ⟨rfl, vX10_readCastle_2 hW ?_⟩
      rw [pk_sub (a := s + k) (b := s) (by omega), show s + k - s = k by omega]
      have e3 := nI_eq (a := k) (b := 3) (by omega) (by decide)
      have e5 := nI_eq (a := k) (b := 5) (by omega) (by decide)
      refine ⟨fun _ => ⟨fun w => f60 _ ?_, fun w => ⟨fun w2 => f60 _ ?_, fun w2 => f60 _ ?_⟩⟩, fun w => absurd ((nI_leI (a := s + k) (b := s + k) (by omega) (by omega)).mpr (Nat.le_refl _)) w⟩
      · have h3 := e3.mp w
        rw [if_pos ⟨Or.inl h3, ha⟩, if_pos h3]; rfl
      · have h5 := e5.mp w2
        rw [if_pos ⟨Or.inr h5, ha⟩, if_neg (by omega)]; rfl
      · have h3 : ¬ k = 3 := fun z => w (e3.mpr z)
        have h5 : ¬ k = 5 := fun z => w2 (e5.mpr z)
        rw [if_neg (fun z => by have := z.1; omega)]; rfl
    | succ r ih =>
      intro k hk ha
      refine l2 _ _ _ _ _ ⟨rfl, vX10_readCastle_2 hW ?_⟩
      rw [pk_sub (a := s + k) (b := s) (by omega), show s + k - s = k by omega, show nI k - nI k / (2 : Int32) * (2 : Int32) = nI (k % 2) from pk_rem (d := 2) (by omega) (by decide) (by decide), nI_clamp (by omega), hM _ (by omega)]
      have e0 := nI_eq (a := k % 2) (b := 0) (by omega) (by decide)
      have hTk := hT (s + k)
      have f25 : ∀ c, c = (if k % 2 = 0 then 48 else 45) → X 25 0 0 [.ref 24, .int (nI s), .int (nI (s + n)), .int (nI (s + k))] [.int (nI c), .int (nI (T (s + k)))] M := by
        intro c hc
        have hc2 : c < 256 := by rw [hc]; split <;> omega
        have ec := nI_eq (a := T (s + k)) (b := c) (by omega) (by omega)
        refine l25 _ _ _ _ _ ⟨rfl, vX10_readCastle_25 hW ⟨fun w => ?_, fun w => ?_⟩⟩
        · rw [nI_1]
          refine ih (k + 1) (by omega) (fun j hj => ?_)
          by_cases q : j = k
          · rw [q, ec.mp w, hc]
          · exact ha j (by omega)
        · rw [if_neg (fun z => w (ec.mpr (by rw [hc]; exact z.2 k (by omega))))] at hq
          exact hq
      refine ⟨fun w => absurd ((nI_leI (a := s + n) (b := s + k) (by omega) (by omega)).mp w) (by omega), fun _ => ⟨vp_in_nI (by omega) (by omega), fun w => f25 48 (by rw [if_pos (e0.mp w)]), fun w => f25 45 (by rw [if_neg (fun z => w (e0.mpr z))])⟩⟩
  refine l0 _ _ _ _ _ ⟨rfl, vX10_readCastle_0 hW ?_⟩
  exact loop n 0 (by omega) (fun j hj => absurd hj (Nat.not_lt_zero _))
/-- slots of the word but these are as they were -/
def wFr (M N : zM) (S : List Nat) : Prop := zSm [28] M N ∧ (∀ j, j ∉ S → N.1 28 j = M.1 28 j) ∧ N.2.1 28 = M.2.1 28
theorem wFr.I {M N : zM} {S : List Nat} (h : wFr M N S) {j : Nat} {v : Int32} (hj : j ∈ S) : wFr M (zsI N 28 j v) S :=
  ⟨h.1.tr (zSm.I (by simp)), fun i hi => by rw [zsI_n (fun z => hi (by rw [z]; exact hj))]; exact h.2.1 i hi, h.2.2⟩
theorem wFr.rf {M : zM} {S : List Nat} : wFr M M S := ⟨zSm.rf, fun _ _ => rfl, rfl⟩
set_option maxHeartbeats 4000000 in
theorem c_readMan {mc ms : Nat} {M : zM} {g : Nat} (hW : zWd M g) {T : Nat → Nat} (hT : ∀ i, T i < 256) (hM : cTp M T) {s e : Nat} (hse : s < e) (he : e ≤ 8180) {Q : zQt} (q1 : ∀ N, (T s = 75 ∨ isO (T s)) ∧ mfS T (s + 1) e → wFr M N [0, 1] → N.1 28 0 = iI (ixL (T s)) → N.1 28 1 = nI (tgV T e) → Q (some (.int 1)) N) (q0 : ∀ N, ¬ ((T s = 75 ∨ isO (T s)) ∧ mfS T (s + 1) e) → wFr M N [0, 1] → Q (some (.int 0)) N) : wX10_readMan mc ms [.ref 28, .ref 24, .int (nI s), .int (nI e)] M Q := by
  refine ⟨⟨Nat.le_of_ble_eq_true rfl, rfl⟩, fun X l0 l41 l73 l93 l112 l124 => ?_⟩
  have hbd := ix_bd (T s)
  have f41 : ∀ N, ¬ ((T s = 75 ∨ isO (T s)) ∧ mfS T (s + 1) e) → wFr M N [0, 1] → X 41 0 0 [] [] N := fun N h fr => l41 _ _ _ _ _ ⟨rfl, vX10_readMan_41 (fr.1.wd hW) (q0 N h fr)⟩
  refine l0 _ _ _ _ _ ⟨rfl, vX10_readMan_0 hW ?_⟩
  rw [nI_clamp (by omega), hM _ (by omega)]
  refine ⟨vp_in_nI (by omega) (by omega), c_indexOf (hT _) (vkX10_readMan_9 hW (fun M9 e9 => ?_))⟩
  have fr9 : wFr M M9 [0, 1] := by rw [e9]; exact wFr.rf.I (by simp)
  have W9 := fr9.1.wd hW
  have h9 : M9.1 28 0 = iI (ixL (T s)) := by rw [e9, zsI_s]
  rw [h9]
  have i2 := iI_lt (a := ixL (T s)) (b := 2) (by omega) (by omega) (by omega) (by omega)
  have i6 := iI_lt (a := 6) (b := ixL (T s)) (by omega) (by omega) (by omega) (by omega)
  have h26 := ix_26 (T s)
  refine ⟨fun w => f41 M9 (fun z => ?_) fr9, fun w => ⟨fun w2 => f41 M9 (fun z => ?_) fr9, fun w2 => ?_⟩⟩
  · have := i2.mp w; have := (h26.mpr z.1).1; omega
  · have := i6.mp w2; have := (h26.mpr z.1).2; omega
  have hk : 2 ≤ ixL (T s) ∧ ixL (T s) ≤ 6 := by
    have a1 : ¬ ixL (T s) < 2 := fun z => w (i2.mpr z)
    have a2 : ¬ 6 < ixL (T s) := fun z => w2 (i6.mpr z)
    omega
  have hO := h26.mp hk
  rw [show nI s + (1 : Int32) = nI (s + 1) from nI_1 s]
  have M9T : cTp M9 T := hM.sm fr9.1 (by simp)
  refine c_readTarget W9 hT M9T (s := s + 1) (e := e) (by omega) he (fun ht => vkX10_readMan_38 ((fr9.I (v := nI (tgV T e)) (j := 1) (by simp)).1.wd hW) ⟨fun z => absurd z (by decide), fun _ => ?_⟩) (fun ht => vkX10_readMan_38 W9 ⟨fun _ => f41 M9 (fun z => ht ⟨z.2.1, z.2.2.1, z.2.2.2.1⟩) fr9, fun z => absurd rfl z⟩)
  obtain ⟨N, eN⟩ : ∃ N, N = zsI M9 28 1 (nI (tgV T e)) := ⟨_, rfl⟩
  rw [← eN]
  have frN : wFr M N [0, 1] := by rw [eN]; exact fr9.I (by simp)
  have WN := frN.1.wd hW
  have NT : cTp N T := hM.sm frN.1 (by simp)
  have n0 : N.1 28 0 = iI (ixL (T s)) := by rw [eN, zsI_n (by omega)]; exact h9
  have n1 : N.1 28 1 = nI (tgV T e) := by rw [eN, zsI_s]
  have h2 := ht.1
  have f124 : ∀ b : Bool, (b = true ↔ mfS T (s + 1) e) → X 124 0 0 [] [.int (bI b)] N := by
    intro b hb
    refine l124 _ _ _ _ _ ⟨rfl, vX10_readMan_124 WN ?_⟩
    cases b with
    | true => exact ⟨rfl, q1 N ⟨hO, hb.mp rfl⟩ frN n0 n1⟩
    | false => exact ⟨rfl, q0 N (fun z => absurd (hb.mpr z.2) (by decide)) frN⟩
  obtain ⟨z, ez⟩ : ∃ z, z = e - 2 := ⟨_, rfl⟩
  have hmf : mfS T (s + 1) e ↔ mf3 T (mf2 T (mf1 T (s + 1) z) z) z = z := by
    rw [ez]
    exact ⟨fun h => h.2.2.2, fun h => ⟨ht.1, ht.2.1, ht.2.2, h⟩⟩
  have f112 : ∀ p, p < 8190 → (p = z ↔ mfS T (s + 1) e) → X 112 0 0 [.int (nI p), .int (nI z)] [] N := by
    intro p hp h
    have ep := nI_eq (a := p) (b := z) (by omega) (by omega)
    exact l112 _ _ _ _ _ ⟨rfl, vX10_readMan_112 WN ⟨fun w => f124 true ⟨fun _ => h.mp (ep.mp w), fun _ => rfl⟩, fun w => f124 false ⟨fun u => absurd u (by decide), fun u => absurd (ep.mpr (h.mpr u)) w⟩⟩⟩
  have f93 : ∀ p, p < 8185 → (mf3 T p z = z ↔ mfS T (s + 1) e) → X 93 0 0 [.ref 24, .int (nI p), .int (nI z)] [] N := by
    intro p hp h
    refine l93 _ _ _ _ _ ⟨rfl, vX10_readMan_93 WN ?_⟩
    have el := nI_leI (a := z) (b := p) (by omega) (by omega)
    refine ⟨fun w => f112 p (by omega) ?_, fun w => ?_⟩
    · rw [← h]; unfold mf3; rw [if_neg (fun u => by have := el.mp w; omega), Nat.add_zero]
    · have hpz : p < z := by have : ¬ z ≤ p := fun u => w (el.mpr u); omega
      have hTp := hT p
      rw [nI_clamp (by omega), NT _ (by omega), nI_1]
      have ex := nI_eq (a := T p) (b := 120) (by omega) (by decide)
      refine ⟨vp_in_nI (by omega) (by omega), fun w2 => f112 (p + 1) (by omega) ?_, fun w2 => f112 p (by omega) ?_⟩
      · rw [← h]; unfold mf3; rw [if_pos ⟨hpz, ex.mp w2⟩]
      · rw [← h]; unfold mf3; rw [if_neg (fun u => w2 (ex.mpr u.2)), Nat.add_zero]
  have f73 : ∀ p, p < 8183 → (mf3 T (mf2 T p z) z = z ↔ mfS T (s + 1) e) → X 73 0 0 [.ref 24, .int (nI p), .int (nI z)] [] N := by
    intro p hp h
    refine l73 _ _ _ _ _ ⟨rfl, vX10_readMan_73 WN ?_⟩
    have el := nI_leI (a := z) (b := p) (by omega) (by omega)
    refine ⟨fun w => f93 p (by omega) ?_, fun w => ?_⟩
    · rw [← h]; unfold mf2; rw [if_neg (fun u => by have := el.mp w; omega), Nat.add_zero]
    · have hpz : p < z := by have : ¬ z ≤ p := fun u => w (el.mpr u); omega
      rw [nI_clamp (by omega), NT _ (by omega)]
      refine ⟨vp_in_nI (by omega) (by omega), c_isRankC WN _ (hT _) (fun hr => vkX10_readMan_87 WN ⟨fun u => absurd u (by decide), fun _ => ?_⟩) (fun hr => vkX10_readMan_87 WN ⟨fun _ => f93 p (by omega) ?_, fun u => absurd rfl u⟩)⟩
      · rw [nI_1]
        refine f93 (p + 1) (by omega) ?_
        rw [← h]; unfold mf2; rw [if_pos ⟨hpz, hr⟩]
      · rw [← h]; unfold mf2; rw [if_neg (fun u => hr u.2), Nat.add_zero]
  rw [show nI s + (1 : Int32) = nI (s + 1) from nI_1 s, show nI e - (2 : Int32) = nI z from by rw [ez]; exact pk_sub (b := 2) (by omega), nI_clamp (by omega), NT _ (by omega)]
  have el := nI_leI (a := z) (b := s + 1) (by omega) (by omega)
  refine ⟨fun w => f73 (s + 1) (by omega) ?_, fun w => ⟨vp_in_nI (by omega) (by omega), c_isFileC WN _ (hT _) (fun hf => vkX10_readMan_67 WN ⟨fun u => absurd u (by decide), fun _ => ?_⟩) (fun hf => vkX10_readMan_67 WN ⟨fun _ => f73 (s + 1) (by omega) ?_, fun u => absurd rfl u⟩)⟩⟩
  · rw [hmf]
    have : mf1 T (s + 1) z = s + 1 := by unfold mf1; rw [if_neg (fun u => by have := el.mp w; omega)]
    rw [this]
  · have hpz : s + 1 < z := by have : ¬ z ≤ s + 1 := fun u => w (el.mpr u); omega
    rw [nI_1]
    refine f73 (s + 1 + 1) (by omega) ?_
    rw [hmf]
    have : mf1 T (s + 1) z = s + 1 + 1 := by unfold mf1; rw [if_pos ⟨hpz, hf⟩]
    rw [this]
  · rw [hmf]
    have : mf1 T (s + 1) z = s + 1 := by unfold mf1; rw [if_neg (fun u => hf u.2)]
    rw [this]
