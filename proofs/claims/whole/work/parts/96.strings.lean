/-! STRINGS: charAt and indexOf of the two strings -/
theorem zrm0 : zrm [] := Nat.zero_le _
theorem c_isLatin1 {mc ms : Nat} {M : zM} {a : Nat} (ha : a = 5 ∨ a = 6) {Q : zQt} (hq : Q (some (.int 1)) M) : wJ0_isLatin1_aae02 mc ms [.ref a] M Q := by
  refine ⟨⟨Nat.le_of_ble_eq_true rfl, rfl⟩, fun X l0 l17 l18 => ?_⟩
  refine l0 _ _ _ _ _ ⟨rfl, ?_⟩
  show ((1 : Int32) = 0 → X 17 0 0 [] [] M) ∧ (¬ (1 : Int32) = 0 → (a = 5 ∨ a = 6) ∧ ((0 : Int32) = 0 → X 18 0 0 [] [.int 1] M) ∧ (¬ (0 : Int32) = 0 → X 17 0 0 [] [] M))
  exact ⟨fun w => absurd w (by decide), fun _ => ⟨ha, fun _ => l18 _ _ _ _ _ ⟨rfl, (show _ ∧ _ from ⟨rfl, hq⟩)⟩, fun w => absurd rfl w⟩⟩
theorem c_chk3 {mc ms : Nat} {M : zM} {i n : Nat} (hi : i < n) (hn : n < 2 ^ 31) {v : Value} (hv : v = .null ∨ v = .ref 9) {Q : zQt} (hq : Q (some (.int (nI i))) M) : wJ3_checkIndex_8e157 mc ms [.int (nI i), .int (nI n), v] M Q := by
  have e0 : ¬ nI i < (0 : Int32) := nI_pos (by omega)
  have e1 : nI i < nI n := nI_lt hi hn
  rcases hv with rfl | rfl
  · refine ⟨⟨Nat.le_of_ble_eq_true rfl, rfl⟩, fun X l0 l9 => ?_⟩
    refine l0 _ _ _ _ _ ⟨rfl, ?_⟩
    show (nI i < (0 : Int32) → X 9 0 0 [.int (nI i), .int (nI n), .null] [] M) ∧ (¬ nI i < (0 : Int32) → (nI i < nI n → Q (some (.int (nI i))) M) ∧ (¬ nI i < nI n → X 9 0 0 [.int (nI i), .int (nI n), .null] [] M))
    exact ⟨fun w => absurd w e0, fun _ => ⟨fun _ => hq, fun w => absurd e1 w⟩⟩
  · refine ⟨⟨Nat.le_of_ble_eq_true rfl, rfl⟩, fun X l0 l9 => ?_⟩
    refine l0 _ _ _ _ _ ⟨rfl, ?_⟩
    show (nI i < (0 : Int32) → X 9 0 0 [.int (nI i), .int (nI n), .ref 9] [] M) ∧ (¬ nI i < (0 : Int32) → (nI i < nI n → Q (some (.int (nI i))) M) ∧ (¬ nI i < nI n → X 9 0 0 [.int (nI i), .int (nI n), .ref 9] [] M))
    exact ⟨fun w => absurd w e0, fun _ => ⟨fun _ => hq, fun w => absurd e1 w⟩⟩
theorem c_chk0 {mc ms : Nat} {M : zM} {i n : Nat} (hi : i < n) (hn : n < 2 ^ 31) {Q : zQt} (hq : Q none M) : wJ0_checkIndex_df160 mc ms [.int (nI i), .int (nI n)] M Q := by
  refine ⟨⟨Nat.le_of_ble_eq_true rfl, rfl⟩, fun X l0 => ?_⟩
  refine l0 _ _ _ _ _ ⟨rfl, ?_⟩
  show (zrm [] ∧ 3 = 3 ∧ ∃ kc ks, 0 + kc ≤ mc ∧ 0 + ks ≤ ms ∧ wJ3_checkIndex_8e157 kc ks [.int (nI i), .int (nI n), .null] M (fun r M' => kJ0_checkIndex_df160_8 mc ms X Q (0 + kc) (0 + ks) [some (.int (nI i)), some (.int (nI n))] (r.toList ++ []) M')) ∧ (zrm [] ∧ 3 = 3 ∧ ∃ kc ks, 0 + kc ≤ mc ∧ 0 + ks ≤ ms ∧ wJ3_checkIndex_8e157 kc ks [.int (nI i), .int (nI n), .ref 9] M (fun r M' => kJ0_checkIndex_df160_8 mc ms X Q (0 + kc) (0 + ks) [some (.int (nI i)), some (.int (nI n))] (r.toList ++ []) M'))
  exact ⟨⟨zrm0, rfl, 0, 0, by omega, by omega, c_chk3 hi hn (Or.inl rfl) hq⟩, ⟨zrm0, rfl, 0, 0, by omega, by omega, c_chk3 hi hn (Or.inr rfl) hq⟩⟩
def sLen (a : Nat) : Nat := zslen.getD a 0
def sByt (a i : Nat) : Int32 := (zsbyt.getD a []).getD i 0
theorem sByt_ok : ∀ a, a < 2 → ∀ i, i < sLen a → ((sByt a i &&& (255 : Int32)).toUInt32 % 65536).toInt32 = sByt a i ∧ narrow .char (.int (sByt a i)) = .int (sByt a i) := by decide +kernel
theorem c_charAt1 {mc ms : Nat} {M : zM} {a i : Nat} (ha : a < 2) (hi : i < sLen a) {Q : zQt} (hq : Q (some (.int (sByt a i))) M) : wJ1_charAt_3b067 mc ms [.ref (7 + a), .int (nI i)] M Q := by
  have hn : sLen a < 2 ^ 31 := by
    have : ∀ a, a < 2 → sLen a < 2 ^ 31 := by decide
    exact this a ha
  have hb := sByt_ok a ha i hi
  have hc : (nI i).toNatClampNeg = i := nI_clamp (by omega)
  have h78 : 7 + a = 7 ∨ 7 + a = 8 := by omega
  refine ⟨⟨Nat.le_of_ble_eq_true rfl, rfl⟩, fun X l0 => ?_⟩
  refine l0 _ _ _ _ _ ⟨rfl, ?_⟩
  show (7 + a = 7 ∨ 7 + a = 8) ∧ zrm [] ∧ 2 = 2 ∧ ∃ kc ks, 0 + kc ≤ mc ∧ 0 + ks ≤ ms ∧ wJ0_checkIndex_df160 kc ks [.int (nI i), .int (nI (zslen.getD (7 + a - 7) 0))] M (fun r M' => kJ1_charAt_3b067_6 mc ms X Q (0 + kc) (0 + ks) [some (.ref (7 + a)), some (.int (nI i))] (r.toList ++ []) M')
  refine ⟨h78, zrm0, rfl, 0, 0, by omega, by omega, ?_⟩
  have ea : 7 + a - 7 = a := by omega
  rw [ea]
  refine c_chk0 hi hn ?_
  show (7 + a = 7 ∨ 7 + a = 8) ∧ vp_in (nI i) (zslen.getD (7 + a - 7) 0) ∧ narrow .char (.int ((((zsbyt.getD (7 + a - 7) []).getD (nI i).toNatClampNeg 0) &&& (255 : Int32)).toUInt32 % 65536).toInt32) = .int ((((zsbyt.getD (7 + a - 7) []).getD (nI i).toNatClampNeg 0) &&& (255 : Int32)).toUInt32 % 65536).toInt32 ∧ Q (some (.int ((((zsbyt.getD (7 + a - 7) []).getD (nI i).toNatClampNeg 0) &&& (255 : Int32)).toUInt32 % 65536).toInt32)) M
  rw [ea, hc, show (zsbyt.getD a []).getD i 0 = sByt a i from rfl, hb.1]
  exact ⟨h78, vp_in_nI hi hn, hb.2, hq⟩
theorem c_charAt {mc ms : Nat} {M : zM} {a i : Nat} (ha : a < 2) (hi : i < sLen a) {Q : zQt} (hq : Q (some (.int (sByt a i))) M) : wJ0_charAt_5068e mc ms [.ref (5 + a), .int (nI i)] M Q := by
  have h56 : 5 + a = 5 ∨ 5 + a = 6 := by omega
  have hb := sByt_ok a ha i hi
  refine ⟨⟨Nat.le_of_ble_eq_true rfl, rfl⟩, fun X l0 => ?_⟩
  refine l0 _ _ _ _ _ ⟨rfl, ?_⟩
  show zrm [] ∧ 0 = 0 ∧ (5 + a = 5 ∨ 5 + a = 6) ∧ ∃ kc ks, 0 + kc ≤ mc ∧ 0 + ks ≤ ms ∧ wJ0_isLatin1_aae02 kc ks [.ref (5 + a)] M (fun r M' => kJ0_charAt_5068e_4 mc ms X Q (0 + kc) (0 + ks) [some (.ref (5 + a)), some (.int (nI i))] (r.toList ++ []) M')
  refine ⟨zrm0, rfl, h56, 0, 0, by omega, by omega, c_isLatin1 h56 ?_⟩
  show ((1 : Int32) = 0 → _) ∧ (¬ (1 : Int32) = 0 → (5 + a = 5 ∨ 5 + a = 6) ∧ zrm [] ∧ 2 = 2 ∧ ∃ kc ks, 0 + 0 + kc ≤ mc ∧ 0 + 0 + ks ≤ ms ∧ wJ1_charAt_3b067 kc ks [.ref (5 + a + 2), .int (nI i)] M (fun r M' => kJ0_charAt_5068e_15 mc ms X Q (0 + 0 + kc) (0 + 0 + ks) [some (.ref (5 + a)), some (.int (nI i))] (r.toList ++ []) M'))
  refine ⟨fun w => absurd w (by decide), fun _ => ⟨h56, zrm0, rfl, 0, 0, by omega, by omega, ?_⟩⟩
  rw [show 5 + a + 2 = 7 + a by omega]
  exact c_charAt1 ha hi (show _ ∧ _ from ⟨hb.2, hq⟩)
/-- a man's letter -/
theorem c_letC {mc ms : Nat} {M : zM} {m : Nat} (h1 : 1 ≤ m) (hm : m ≤ 12) {Q : zQt} (hq : Q (some (.int (nI (ltr m)))) M) : wJ0_charAt_5068e mc ms [.ref 5, .int (nI m)] M Q := by
  refine c_charAt (a := 0) (by omega) (show m < 13 by omega) ?_
  have : ∀ m, 1 ≤ m → m ≤ 12 → sByt 0 m = nI (ltr m) := by
    have h : ∀ m, m ≤ 12 → 1 ≤ m → sByt 0 m = nI (ltr m) := by decide
    exact fun m a b => h m b a
  rw [this m h1 hm]
  exact hq
theorem c_rtC {mc ms : Nat} {M : zM} {k : Nat} (hk : k < 4) {Q : zQt} (hq : Q (some (.int (nI (rtL k)))) M) : wJ0_charAt_5068e mc ms [.ref 6, .int (nI k)] M Q := by
  refine c_charAt (a := 1) (by omega) (show k < 4 from hk) ?_
  have : ∀ m, m < 4 → sByt 1 m = nI (rtL m) := by decide
  rw [this k hk]
  exact hq
/-! indexOf, of the men's letters -/
theorem c_canEncode {mc ms : Nat} {M : zM} {c : Nat} (hc : c < 256) {Q : zQt} (hq : Q (some (.int 1)) M) : wJ1_canEncode_9a6ad mc ms [.int (nI c)] M Q := by
  refine ⟨⟨Nat.le_of_ble_eq_true rfl, rfl⟩, fun X l0 l15 l16 => ?_⟩
  refine l0 _ _ _ _ _ ⟨rfl, ?_⟩
  show (nI c < (0 : Int32) → X 15 0 0 [] [] M) ∧ (¬ nI c < (0 : Int32) → ((255 : Int32) < nI c → X 15 0 0 [] [] M) ∧ (¬ (255 : Int32) < nI c → X 16 0 0 [] [.int 1] M))
  refine ⟨fun w => absurd w (nI_pos (by omega)), fun _ => ⟨fun w => absurd ((nI_ltI (a := 255) (b := c) (by decide) (by omega)).mp w) (by omega), fun _ => l16 _ _ _ _ _ ⟨rfl, (show _ ∧ _ from ⟨rfl, hq⟩)⟩⟩⟩
/-- the place of a sign among the letters, from k on -/
def ixF (c : Nat) : Nat → Nat → Int
  | 0, _ => -1
  | r + 1, k => if (if k = 0 then 32 else ltr k) = c then (k : Int) else ixF c r (k + 1)
def ixL (c : Nat) : Int := ixF c 13 0
theorem ixL_eq (c : Nat) : ixL c = if c = 32 then 0 else if mOf c = 0 then -1 else (mOf c : Int) := by
  have cs : ∀ d, d ∈ [32, 80, 78, 66, 82, 81, 75, 112, 110, 98, 114, 113, 107] → ixL d = if d = 32 then 0 else if mOf d = 0 then -1 else (mOf d : Int) := by decide +kernel
  by_cases h : c ∈ [32, 80, 78, 66, 82, 81, 75, 112, 110, 98, 114, 113, 107]
  · exact cs c h
  · simp only [List.mem_cons, List.not_mem_nil, or_false, not_or] at h
    obtain ⟨h0, h1, h2, h3, h4, h5, h6, h7, h8, h9, h10, h11, h12⟩ := h
    have l1 : ltr 1 = 80 := rfl
    have l2 : ltr 2 = 78 := rfl
    have l3 : ltr 3 = 66 := rfl
    have l4 : ltr 4 = 82 := rfl
    have l5 : ltr 5 = 81 := rfl
    have l6 : ltr 6 = 75 := rfl
    have l7 : ltr 7 = 112 := rfl
    have l8 : ltr 8 = 110 := rfl
    have l9 : ltr 9 = 98 := rfl
    have l10 : ltr 10 = 114 := rfl
    have l11 : ltr 11 = 113 := rfl
    have l12 : ltr 12 = 107 := rfl
    have e1 : ixL c = -1 := by
      have f : ∀ k, k < 13 → ¬ (if k = 0 then 32 else ltr k) = c := by
        intro k hk
        rcases (show k = 0 ∨ k = 1 ∨ k = 2 ∨ k = 3 ∨ k = 4 ∨ k = 5 ∨ k = 6 ∨ k = 7 ∨ k = 8 ∨ k = 9 ∨ k = 10 ∨ k = 11 ∨ k = 12 by omega) with q | q | q | q | q | q | q | q | q | q | q | q | q <;> rw [q] <;> intro z
        · exact h0 z.symm
        · exact h1 (z.symm.trans rfl)
        · exact h2 (z.symm.trans rfl)
        · exact h3 (z.symm.trans rfl)
        · exact h4 (z.symm.trans rfl)
        · exact h5 (z.symm.trans rfl)
        · exact h6 (z.symm.trans rfl)
        · exact h7 (z.symm.trans rfl)
        · exact h8 (z.symm.trans rfl)
        · exact h9 (z.symm.trans rfl)
        · exact h10 (z.symm.trans rfl)
        · exact h11 (z.symm.trans rfl)
        · exact h12 (z.symm.trans rfl)
      have g : ∀ r k, k + r ≤ 13 → ixF c r k = -1 := by
        intro r
        induction r with
        | zero => intro k _; rfl
        | succ r ih =>
          intro k hk
          unfold ixF
          rw [if_neg (f k (by omega))]
          exact ih (k + 1) (by omega)
      exact g 13 0 (by omega)
    have e2 : mOf c = 0 := by
      have f : ∀ k, k < 13 → ¬ (ltr k = c ∧ 0 < k) := by
        intro k hk
        rcases (show k = 0 ∨ k = 1 ∨ k = 2 ∨ k = 3 ∨ k = 4 ∨ k = 5 ∨ k = 6 ∨ k = 7 ∨ k = 8 ∨ k = 9 ∨ k = 10 ∨ k = 11 ∨ k = 12 by omega) with q | q | q | q | q | q | q | q | q | q | q | q | q <;> rw [q] <;> rintro ⟨z, z0⟩
        · omega
        · exact h1 (z.symm.trans l1)
        · exact h2 (z.symm.trans l2)
        · exact h3 (z.symm.trans l3)
        · exact h4 (z.symm.trans l4)
        · exact h5 (z.symm.trans l5)
        · exact h6 (z.symm.trans l6)
        · exact h7 (z.symm.trans l7)
        · exact h8 (z.symm.trans l8)
        · exact h9 (z.symm.trans l9)
        · exact h10 (z.symm.trans l10)
        · exact h11 (z.symm.trans l11)
        · exact h12 (z.symm.trans l12)
      have g : ∀ n, n ≤ 13 → mOfN c n = 0 := by
        intro n
        induction n with
        | zero => intro _; rfl
        | succ n ih =>
          intro hn
          unfold mOfN
          rw [if_neg (f n (by omega))]
          exact ih (by omega)
      exact g 13 (by omega)
    rw [e1, e2, if_neg h0, if_pos rfl]
theorem sB_ltr : ∀ k, k < 13 → sByt 0 k = nI (if k = 0 then 32 else ltr k) ∧ (if k = 0 then 32 else ltr k) < 128 := by decide
theorem i8_val : ∀ c, c < 256 → (nI c).toInt8.toInt32 = iI (if c < 128 then (c : Int) else (c : Int) - 256) := by decide +kernel
theorem i8_eq {x : Nat} (hx : x < 128) {c : Nat} (hc : c < 256) : nI x = (nI c).toInt8.toInt32 ↔ x = c := by
  rw [i8_val c hc, iI_nat x, iI_eq (by omega) (by omega) (by split <;> omega) (by split <;> omega)]
  split <;> omega
set_option maxHeartbeats 4000000 in
theorem c_ixChar {mc ms : Nat} {M : zM} {c : Nat} (hc : c < 256) {Q : zQt} (hq : Q (some (.int (iI (ixL c)))) M) : wJ1_indexOfChar_4cfef mc ms [.ref 7, .int (nI c), .int (nI 0), .int (nI 13)] M Q := by
  refine ⟨⟨Nat.le_of_ble_eq_true rfl, rfl⟩, fun X l0 l7 => ?_⟩
  have loop : ∀ (r k : Nat), k + r = 13 → ixF c r k = ixL c → X 7 0 0 [.ref 7, .int (nI 13), .int ((nI c).toInt8.toInt32), .int (nI k)] [] M := by
    intro r
    induction r with
    | zero =>
      intro k hk hv
      refine l7 _ _ _ _ _ ⟨rfl, ?_⟩
      show (nI 13 ≤ nI k → Q (some (.int (-1))) M) ∧ (¬ nI 13 ≤ nI k → _)
      refine ⟨fun _ => ?_, fun w => absurd ((nI_leI (a := 13) (b := k) (by omega) (by omega)).mpr (by omega)) w⟩
      rw [← hv] at hq
      exact hq
    | succ r ih =>
      intro k hk hv
      have h := sB_ltr k (by omega)
      have hcl : (nI k).toNatClampNeg = k := nI_clamp (by omega)
      have h8 := i8_eq h.2 hc
      refine l7 _ _ _ _ _ ⟨rfl, ?_⟩
      show (nI 13 ≤ nI k → Q (some (.int (-1))) M) ∧ (¬ nI 13 ≤ nI k → (7 = 7 ∨ 7 = 8) ∧ vp_in (nI k) 13 ∧ ((zsbyt.getD 0 []).getD (nI k).toNatClampNeg 0 = (nI c).toInt8.toInt32 → Q (some (.int (nI k))) M) ∧ (¬ (zsbyt.getD 0 []).getD (nI k).toNatClampNeg 0 = (nI c).toInt8.toInt32 → X 7 0 0 [.ref 7, .int (nI 13), .int ((nI c).toInt8.toInt32), .int (nI k + 1)] [] M))
      rw [hcl, show (zsbyt.getD 0 []).getD k 0 = sByt 0 k from rfl, h.1]
      unfold ixF at hv
      refine ⟨fun w => absurd ((nI_leI (a := 13) (b := k) (by omega) (by omega)).mp w) (by omega), fun _ => ⟨Or.inl rfl, vp_in_nI (by omega) (by omega), fun w => ?_, fun w => ?_⟩⟩
      · rw [if_pos (h8.mp w)] at hv
        rw [← hv] at hq
        exact hq
      · rw [if_neg (fun z => w (h8.mpr z))] at hv
        rw [nI_1]
        exact ih (k + 1) (by omega) hv
  refine l0 _ _ _ _ _ ⟨rfl, ?_⟩
  show X 7 0 0 [.ref 7, .int (nI 13), .int ((nI c).toInt8.toInt32), .int (nI 0)] [] M
  exact loop 13 0 rfl rfl
theorem c_ix1 {mc ms : Nat} {M : zM} {c : Nat} (hc : c < 256) {Q : zQt} (hq : Q (some (.int (iI (ixL c)))) M) : wJ1_indexOf_4cfef mc ms [.ref 7, .int (nI c), .int (nI 0), .int (nI 13)] M Q := by
  refine ⟨⟨Nat.le_of_ble_eq_true rfl, rfl⟩, fun X l0 => ?_⟩
  refine l0 _ _ _ _ _ ⟨rfl, ?_⟩
  show zrm [] ∧ 1 = 1 ∧ ∃ kc ks, 0 + kc ≤ mc ∧ 0 + ks ≤ ms ∧ wJ1_canEncode_9a6ad kc ks [.int (nI c)] M (fun r M' => kJ1_indexOf_4cfef_4 mc ms X Q (0 + kc) (0 + ks) [some (.ref 7), some (.int (nI c)), some (.int (nI 0)), some (.int (nI 13))] (r.toList ++ []) M')
  refine ⟨zrm0, rfl, 0, 0, by omega, by omega, c_canEncode hc ?_⟩
  show ((1 : Int32) = 0 → _) ∧ (¬ (1 : Int32) = 0 → zrm [] ∧ (7 = 7 ∨ 7 = 8) ∧ zrm [] ∧ ((0 : Int32) < 13 → zrm [] ∧ 4 = 4 ∧ ∃ kc ks, 0 + 0 + kc ≤ mc ∧ 0 + 0 + ks ≤ ms ∧ wJ1_indexOfChar_4cfef kc ks [.ref 7, .int (nI c), .int (nI 0), .int (nI 13)] M (fun r M' => kJ1_indexOf_4cfef_36 mc ms X Q (0 + 0 + kc) (0 + 0 + ks) [some (.ref 7), some (.int (nI c)), some (.int (nI 0)), some (.int (nI 13))] (r.toList ++ []) M')) ∧ (¬ (0 : Int32) < 13 → _))
  exact ⟨fun w => absurd w (by decide), fun _ => ⟨zrm0, Or.inl rfl, zrm0, fun _ => ⟨zrm0, rfl, 0, 0, by omega, by omega, c_ixChar hc hq⟩, fun w => absurd (by decide) w⟩⟩
theorem c_coder {mc ms : Nat} {M : zM} {Q : zQt} (hq : Q (some (.int 0)) M) : wJ0_coder_7d493 mc ms [.ref 5] M Q := by
  refine ⟨⟨Nat.le_of_ble_eq_true rfl, rfl⟩, fun X l0 l14 => ?_⟩
  refine l0 _ _ _ _ _ ⟨rfl, ?_⟩
  show ((1 : Int32) = 0 → X 14 0 0 [] [.int 1] M) ∧ (¬ (1 : Int32) = 0 → (5 = 5 ∨ 5 = 6) ∧ X 14 0 0 [] [.int 0] M)
  exact ⟨fun w => absurd w (by decide), fun _ => ⟨Or.inl rfl, l14 _ _ _ _ _ ⟨rfl, (show _ ∧ _ from ⟨rfl, hq⟩)⟩⟩⟩
theorem c_length {mc ms : Nat} {M : zM} {Q : zQt} (hq : Q (some (.int (nI 13))) M) : wJ0_length_8abf5 mc ms [.ref 5] M Q := by
  refine ⟨⟨Nat.le_of_ble_eq_true rfl, rfl⟩, fun X l0 => ?_⟩
  refine l0 _ _ _ _ _ ⟨rfl, ?_⟩
  show (5 = 5 ∨ 5 = 6) ∧ (7 = 7 ∨ 7 = 8) ∧ zrm [.int 13] ∧ 0 = 0 ∧ (5 = 5 ∨ 5 = 6) ∧ ∃ kc ks, 0 + kc ≤ mc ∧ 0 + ks ≤ ms ∧ wJ0_coder_7d493 kc ks [.ref 5] M (fun r M' => kJ0_length_8abf5_9 mc ms X Q (0 + kc) (0 + ks) [some (.ref 5)] (r.toList ++ [.int 13]) M')
  exact ⟨Or.inl rfl, Or.inl rfl, Nat.le_of_ble_eq_true rfl, rfl, Or.inl rfl, 0, 0, by omega, by omega, c_coder hq⟩
theorem k_ix20 {mc ms u v : Nat} {M : zM} {X : Nat → zV} {Q : zQt} {lv : List (Option Value)} {x : Int32} (h : X 36 u v [] [.int x] M) : kJ0_indexOf_7cf53_20 mc ms X Q u v lv [.int x] M := h
theorem k_ix17 {mc ms : Nat} {M : zM} {X : Nat → zV} {Q : zQt} {c : Nat} {lv : List (Option Value)} (h : wJ1_indexOf_4cfef 0 0 [.ref 7, .int (nI c), .int (nI 0), .int (nI 13)] M (fun r M' => kJ0_indexOf_7cf53_20 mc ms X Q 0 0 lv (r.toList ++ []) M')) : kJ0_indexOf_7cf53_17 mc ms X Q 0 0 lv [.int (nI 13), .int (nI 0), .int (nI c), .ref 7] M :=
  ⟨zrm0, rfl, 0, 0, Nat.zero_le _, Nat.zero_le _, h⟩
theorem k_ix4 {mc ms : Nat} {M : zM} {X : Nat → zV} {Q : zQt} {c : Nat} (h : wJ0_length_8abf5 0 0 [.ref 5] M (fun r M' => kJ0_indexOf_7cf53_17 mc ms X Q 0 0 [some (.ref 5), some (.int (nI c)), some (.int (nI 0))] (r.toList ++ [.int (nI 0), .int (nI c), .ref 7]) M')) : kJ0_indexOf_7cf53_4 mc ms X Q 0 0 [some (.ref 5), some (.int (nI c)), some (.int (nI 0))] [.int 1] M :=
  ⟨fun w => absurd w (by decide), fun _ => ⟨Or.inl rfl, Nat.le_of_ble_eq_true rfl, rfl, Or.inl rfl, 0, 0, Nat.zero_le _, Nat.zero_le _, h⟩⟩
theorem k_ix0 {mc ms : Nat} {M : zM} {c : Nat} {X : Nat → zV} {Q : zQt} (h4 : kJ0_indexOf_7cf53_4 mc ms X Q 0 0 [some (.ref 5), some (.int (nI c)), some (.int (nI 0))] [.int 1] M) : aJ0_indexOf_7cf53_0 mc ms X Q 0 0 [some (.ref 5), some (.int (nI c)), some (.int (nI 0))] [] M :=
  ⟨zrm0, rfl, Or.inl rfl, 0, 0, Nat.zero_le _, Nat.zero_le _, c_isLatin1 (Or.inl rfl) h4⟩
theorem k_ix36 {mc ms : Nat} {M : zM} {X : Nat → zV} {Q : zQt} {x : Int32} (hq : Q (some (.int x)) M) : aJ0_indexOf_7cf53_36 mc ms X Q 0 0 [none, none, none] [.int x] M := hq
theorem c_ix2x {mc ms : Nat} {M : zM} {c : Nat} {x : Int32} (h1 : ∀ {Q : zQt}, Q (some (.int x)) M → wJ1_indexOf_4cfef 0 0 [.ref 7, .int (nI c), .int (nI 0), .int (nI 13)] M Q) {Q : zQt} (hq : Q (some (.int x)) M) : wJ0_indexOf_7cf53 mc ms [.ref 5, .int (nI c), .int (nI 0)] M Q := by
  refine ⟨⟨Nat.le_of_ble_eq_true rfl, rfl⟩, fun X l0 l36 => ?_⟩
  refine l0 _ _ _ _ _ ⟨rfl, k_ix0 (k_ix4 (c_length (k_ix17 (h1 (k_ix20 ?_)))))⟩
  exact l36 _ _ _ _ _ ⟨rfl, k_ix36 hq⟩
theorem c_ix2 {mc ms : Nat} {M : zM} {c : Nat} (hc : c < 256) {Q : zQt} (hq : Q (some (.int (iI (ixL c)))) M) : wJ0_indexOf_7cf53 mc ms [.ref 5, .int (nI c), .int (nI 0)] M Q := c_ix2x (x := iI (ixL c)) (fun h => c_ix1 hc h) hq
/-- the place of a sign in the row of the men's letters -/
theorem c_indexOf {mc ms : Nat} {M : zM} {c : Nat} (hc : c < 256) {Q : zQt} (hq : Q (some (.int (iI (ixL c)))) M) : wJ0_indexOf_0f7a4 mc ms [.ref 5, .int (nI c)] M Q := by
  refine ⟨⟨Nat.le_of_ble_eq_true rfl, rfl⟩, fun X l0 => ?_⟩
  refine l0 _ _ _ _ _ ⟨rfl, ?_⟩
  show zrm [] ∧ 2 = 2 ∧ (5 = 5 ∨ 5 = 6) ∧ ∃ kc ks, 0 + kc ≤ mc ∧ 0 + ks ≤ ms ∧ wJ0_indexOf_7cf53 kc ks [.ref 5, .int (nI c), .int (nI 0)] M (fun r M' => kJ0_indexOf_0f7a4_6 mc ms X Q (0 + kc) (0 + ks) [some (.ref 5), some (.int (nI c))] (r.toList ++ []) M')
  exact ⟨zrm0, rfl, Or.inl rfl, 0, 0, by omega, by omega, c_ix2 hc hq⟩
