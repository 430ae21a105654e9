/-! CONSTRUCTORS: the reference -/
def rM : List (Nat × Nat × Nat) := [(55, 25, 71), (71, 16, 80), (71, 15, 79), (71, 14, 78), (71, 13, 77), (71, 12, 76), (71, 10, 75), (71, 9, 74), (71, 3, 73), (71, 2, 72), (55, 23, 70), (55, 20, 69), (55, 19, 68), (55, 18, 67), (55, 17, 66), (55, 16, 65), (55, 15, 64), (55, 14, 63), (55, 13, 62), (55, 12, 61), (55, 11, 60), (55, 10, 59), (55, 9, 58), (55, 8, 57), (55, 1, 56)] ++ rH
/-- class and reference as they are made -/
def bothS (K0 K : zM) : Prop := K.2.2.2 = zsh0.take 81 ∧ (∀ b j, K.2.2.1 b j = rfL rM b j) ∧ (∀ b, b < 55 → K.1 b = K0.1 b ∧ K.2.1 b = K0.2.1 b) ∧ (∀ b i, 55 ≤ b → b < 81 → b ≠ 74 → b ≠ 75 → K.1 b i = itL [(71, 1, 64), (71, 0, 8), (55, 4, -1)] b i) ∧ eTb K
set_option maxHeartbeats 4000000 in
theorem c_model {K0 : zM} (hS : hallS K0) {x : Int32} {Q : zQt} (hq : ∀ K, bothS K0 K → Q none K) : wX13_init 40 120000 [.ref 55, .int x] (zNew K0 (0, 13)) Q := by
  have h0 : hZ 55 K0 K0 55 rH [] := ⟨hS.1, hS.2.1, fun b i h1 h2 => absurd h1 (by omega), fun _ _ => ⟨rfl, rfl⟩, by decide, by decide⟩
  have h : hZ 55 K0 (zNew K0 (0, 13)) 56 rH [] := h0.new rfl rfl rfl
  refine ⟨⟨Nat.le_of_ble_eq_true rfl, rfl⟩, fun X l0 => l0 _ _ _ _ _ ⟨rfl, ⟨Nat.le_of_ble_eq_true rfl, ?_⟩⟩⟩
  refine A_na h (sz := 8200) (by decide +kernel) (by decide +kernel) (by decide +kernel) rfl rfl rfl rfl (by decide) (by decide +kernel) (by decide +kernel) (fun K h => ?_)
  refine A_pi h rfl (by decide) (by decide) (fun K h => ?_)
  refine A_na h (sz := 82938) (by decide +kernel) (by decide +kernel) (by decide +kernel) rfl rfl rfl rfl (by decide) (by decide +kernel) (by decide +kernel) (fun K h => ?_)
  refine A_na h (sz := 2) (by decide +kernel) (by decide +kernel) (by decide +kernel) rfl rfl rfl rfl (by decide) (by decide +kernel) (by decide +kernel) (fun K h => ?_)
  refine A_na h (sz := 1202) (by decide +kernel) (by decide +kernel) (by decide +kernel) rfl rfl rfl rfl (by decide) (by decide +kernel) (by decide +kernel) (fun K h => ?_)
  refine A_na h (sz := 1202) (by decide +kernel) (by decide +kernel) (by decide +kernel) rfl rfl rfl rfl (by decide) (by decide +kernel) (by decide +kernel) (fun K h => ?_)
  refine A_na h (sz := 1202) (by decide +kernel) (by decide +kernel) (by decide +kernel) rfl rfl rfl rfl (by decide) (by decide +kernel) (by decide +kernel) (fun K h => ?_)
  refine A_na h (sz := 1202) (by decide +kernel) (by decide +kernel) (by decide +kernel) rfl rfl rfl rfl (by decide) (by decide +kernel) (by decide +kernel) (fun K h => ?_)
  refine A_na h (sz := 1202) (by decide +kernel) (by decide +kernel) (by decide +kernel) rfl rfl rfl rfl (by decide) (by decide +kernel) (by decide +kernel) (fun K h => ?_)
  refine A_na h (sz := 1202) (by decide +kernel) (by decide +kernel) (by decide +kernel) rfl rfl rfl rfl (by decide) (by decide +kernel) (by decide +kernel) (fun K h => ?_)
  refine A_na h (sz := 414) (by decide +kernel) (by decide +kernel) (by decide +kernel) rfl rfl rfl rfl (by decide) (by decide +kernel) (by decide +kernel) (fun K h => ?_)
  refine A_na h (sz := 1980) (by decide +kernel) (by decide +kernel) (by decide +kernel) rfl rfl rfl rfl (by decide) (by decide +kernel) (by decide +kernel) (fun K h => ?_)
  refine A_na h (sz := 6) (by decide +kernel) (by decide +kernel) (by decide +kernel) rfl rfl rfl rfl (by decide) (by decide +kernel) (by decide +kernel) (fun K h => ?_)
  refine A_na h (sz := 6) (by decide +kernel) (by decide +kernel) (by decide +kernel) rfl rfl rfl rfl (by decide) (by decide +kernel) (by decide +kernel) (fun K h => ?_)
  refine A_na h (sz := 6) (by decide +kernel) (by decide +kernel) (by decide +kernel) rfl rfl rfl rfl (by decide) (by decide +kernel) (by decide +kernel) (fun K h => ?_)
  refine A_na h (sz := 100) (by decide +kernel) (by decide +kernel) (by decide +kernel) rfl rfl rfl rfl (by decide) (by decide +kernel) (by decide +kernel) (fun K h => ?_)
  refine A_new h rfl rfl rfl (by decide +kernel) (by decide +kernel) (fun K h => ?_)
  refine ⟨Nat.le_of_ble_eq_true rfl, rfl, 9, 1000, (by decide +kernel), (by decide +kernel), ?_⟩
  refine ⟨⟨Nat.le_of_ble_eq_true rfl, rfl⟩, fun X l0 => l0 _ _ _ _ _ ⟨rfl, ⟨Nat.le_of_ble_eq_true rfl, ?_⟩⟩⟩
  refine A_pi h rfl (by decide) (by decide) (fun K h => ?_)
  refine A_pi h rfl (by decide) (by decide) (fun K h => ?_)
  refine A_na h (sz := 6) (by decide +kernel) (by decide +kernel) (by decide +kernel) rfl rfl rfl rfl (by decide) (by decide +kernel) (by decide +kernel) (fun K h => ?_)
  refine A_na h (sz := 6) (by decide +kernel) (by decide +kernel) (by decide +kernel) rfl rfl rfl rfl (by decide) (by decide +kernel) (by decide +kernel) (fun K h => ?_)
  refine A_na h (sz := 512) (by decide +kernel) (by decide +kernel) (by decide +kernel) rfl rfl rfl rfl (by decide) (by decide +kernel) (by decide +kernel) (fun K h => ?_)
  refine A_na h (sz := 128) (by decide +kernel) (by decide +kernel) (by decide +kernel) rfl rfl rfl rfl (by decide) (by decide +kernel) (by decide +kernel) (fun K h => ?_)
  refine A_na h (sz := 64) (by decide +kernel) (by decide +kernel) (by decide +kernel) rfl rfl rfl rfl (by decide) (by decide +kernel) (by decide +kernel) (fun K h => ?_)
  refine A_na h (sz := 64) (by decide +kernel) (by decide +kernel) (by decide +kernel) rfl rfl rfl rfl (by decide) (by decide +kernel) (by decide +kernel) (fun K h => ?_)
  refine A_na h (sz := 64) (by decide +kernel) (by decide +kernel) (by decide +kernel) rfl rfl rfl rfl (by decide) (by decide +kernel) (by decide +kernel) (fun K h => ?_)
  refine A_na h (sz := 64) (by decide +kernel) (by decide +kernel) (by decide +kernel) rfl rfl rfl rfl (by decide) (by decide +kernel) (by decide +kernel) (fun K h => ?_)
  refine A_na h (sz := 64) (by decide +kernel) (by decide +kernel) (by decide +kernel) rfl rfl rfl rfl (by decide) (by decide +kernel) (by decide +kernel) (fun K h => ?_)
  refine ⟨Nat.le_of_ble_eq_true rfl, rfl, h.sh rfl (by decide), 0, 0, (by decide +kernel), (by decide +kernel), e_turn ⟨h.sh rfl (by decide), h.sh rfl (by decide), h.sh rfl (by decide), by rw [h.2.1]; rfl, by rw [h.2.1]; rfl⟩ (fun K2 s2 t2 => ?_)⟩
  have h55 : zsh K2 55 = some (0, 13) := by
    have := h.sh (e := 55) rfl (by decide)
    unfold zsh at this ⊢
    rw [s2.1]; exact this
  refine ⟨h55, hq _ ⟨?_, fun b j => ?_, fun b hb => ?_, fun b i hb hb2 n74 n75 => ?_, t2⟩⟩
  · show K2.2.2.2 = _
    rw [s2.1]; exact h.1
  · have := (h.rR 55 25 71).2.1 b j
    show (zsR K2 55 25 (some 71)).2.2.1 b j = _
    have e : (zsR K2 55 25 (some 71)).2.2.1 = (zsR K 55 25 (some 71)).2.2.1 := by
      show z2 K2.2.2.1 55 25 (some 71) = z2 K.2.2.1 55 25 (some 71)
      rw [s2.1]
    rw [e]; exact this
  · have := h.2.2.2.1 b hb
    refine ⟨?_, ?_⟩
    · show K2.1 b = _
      rw [s2.i (by simp; omega)]; exact this.1
    · show K2.2.1 b = _
      rw [s2.j (by simp; omega)]; exact this.2
  · show K2.1 b i = _
    rw [s2.i (by simp; omega)]
    exact h.2.2.1 b i hb hb2
theorem zrf_ok : zrf0.all (fun t => decide (rfL rM t.1 t.2.1 = some t.2.2)) = true := by decide +kernel
def A0 : Ah := (fun _ => 0, 0, false, (0, fun _ => (fun _ => 0, 0, 0, 0, 0, 0), fun _ => 0), 0, -1, 0)
theorem aOk_0 : aOk A0 := ⟨fun i => by show (0 : Nat) < 256; omega, ⟨by decide, by decide⟩, fun h => absurd h (by decide), by decide, ⟨by decide, by decide⟩, by decide⟩
/-- where the law's loop begins -/
theorem start_ok {K0 K : zM} (hS : hallS K0) (hB : bothS K0 K) : zFix (zNew K (2, 1)) ∧ cHal (zNew K (2, 1)) A0 ∧ rRef (zNew K (2, 1)) A0 ∧ eKn (zNew K (2, 1)) (fun _ => false) ∧ cKn (zNew K (2, 1)) (fun _ => false) ∧ (zNew K (2, 1)).2.2.2.length = 82 := by
  obtain ⟨b1, b2, b3, b4, b5⟩ := hB
  obtain ⟨s1, s2, s3, s4, s5, s6, s7, s8, s9⟩ := hS
  have len : K.2.2.2.length = 81 := by rw [b1, List.length_take, zsh0_len]; rfl
  obtain ⟨F, hF⟩ : ∃ F, F = zNew K (2, 1) := ⟨_, rfl⟩
  rw [← hF]
  have f1 : F.2.2.2 = zsh0 := by
    rw [hF]
    show K.2.2.2 ++ [(2, 1)] = _
    rw [b1]; rfl
  have fo : ∀ b, b ≠ 81 → F.1 b = K.1 b ∧ F.2.1 b = K.2.1 b ∧ F.2.2.1 b = K.2.2.1 b := fun b hb => by
    rw [hF]
    refine ⟨?_, ?_, ?_⟩ <;> funext i
    · show (if b = K.2.2.2.length then 0 else K.1 b i) = _
      rw [len, if_neg hb]
    · show (if b = K.2.2.2.length then 0 else K.2.1 b i) = _
      rw [len, if_neg hb]
    · show (if b = K.2.2.2.length then none else K.2.2.1 b i) = _
      rw [len, if_neg hb]
  have fr : ∀ b j, b ≠ 81 → F.2.2.1 b j = rfL rM b j := fun b j hb => by rw [(fo b hb).2.2]; exact b2 b j
  have fix : zFix F := by
    refine ⟨fun k sh q => by rw [f1]; exact q, fun t ht => ?_⟩
    have q := of_decide_eq_true (List.all_eq_true.mp zrf_ok t ht)
    have q2 := List.all_eq_true.mp zrx_no t ht
    by_cases z : t.1 = 81
    · exfalso
      have : zrf0.all (fun t => t.1 != 81) = true := by decide +kernel
      have := List.all_eq_true.mp this t ht
      rw [z] at this
      exact absurd this (by decide)
    · rw [fr _ _ z]; exact q
  have c55 : ∀ b, b < 55 → F.1 b = K0.1 b ∧ F.2.1 b = K0.2.1 b := fun b hb => ⟨by rw [(fo b (by omega)).1]; exact (b3 b hb).1, by rw [(fo b (by omega)).2.1]; exact (b3 b hb).2⟩
  have r55 : ∀ b i, 55 ≤ b → b < 81 → b ≠ 74 → b ≠ 75 → F.1 b i = itL [(71, 1, 64), (71, 0, 8), (55, 4, -1)] b i := fun b i h1 h2 h3 h4 => by rw [(fo b (by omega)).1]; exact b4 b i h1 h2 h3 h4
  refine ⟨fix, ⟨fix, ?_, fun i _ => ?_, ?_, ?_, ?_, ?_, ?_, 35, Or.inl rfl, by rw [fr _ _ (by decide)]; rfl, by rw [fr _ _ (by decide)]; rfl, fun h => absurd h (by decide)⟩, ⟨fix, ?_, fun i _ => ?_, ?_, ?_, ?_, ?_, 0, by decide, ?_, fun h => absurd h (by decide)⟩, ⟨?_, fun k k1 k5 => ⟨?_, fun h => absurd h Bool.false_ne_true⟩⟩, fun k kk => ⟨fun _ => ?_, fun h => absurd h Bool.false_ne_true⟩, by rw [f1]; exact zsh0_len⟩
  · unfold cOk cRay at s3 ⊢
    rw [(c55 18 (by decide)).2, (c55 19 (by decide)).2, (c55 20 (by decide)).2, (c55 21 (by decide)).2, (c55 22 (by decide)).2, (c55 23 (by decide)).2]
    exact s3
  · rw [(c55 24 (by decide)).1, s4]; rfl
  · rw [(c55 16 (by decide)).1, s6]; rfl
  · rw [(c55 16 (by decide)).1, s5]; rfl
  · rw [(c55 16 (by decide)).1, s7]; rfl
  · rw [(c55 16 (by decide)).1, s8]; decide
  · rw [(c55 16 (by decide)).1, s9]; rfl
  · rw [r55 _ _ (by decide) (by decide) (by decide) (by decide)]; rfl
  · rw [r55 _ _ (by decide) (by decide) (by decide) (by decide)]
    show itL [(71, 1, 64), (71, 0, 8), (55, 4, -1)] 56 i = sb 0
    unfold itL
    rw [if_neg (by omega)]
    unfold itL
    rw [if_neg (by omega)]
    unfold itL
    rw [if_neg (by omega)]
    unfold itL
    decide
  · rw [r55 _ _ (by decide) (by decide) (by decide) (by decide)]; rfl
  · rw [r55 _ _ (by decide) (by decide) (by decide) (by decide)]; rfl
  · rw [r55 _ _ (by decide) (by decide) (by decide) (by decide)]; decide
  · rw [r55 _ _ (by decide) (by decide) (by decide) (by decide)]; rfl
  · rw [r55 _ _ (by decide) (by decide) (by decide) (by decide)]; rfl
  · unfold eTb at b5 ⊢
    rw [(fo 74 (by decide)).1, (fo 75 (by decide)).1]
    exact b5
  · rw [r55 _ _ (by decide) (by decide) (by decide) (by decide)]
    have ck : k = 1 ∨ k = 2 ∨ k = 3 ∨ k = 4 ∨ k = 5 := by omega
    rcases ck with e | e | e | e | e <;> subst e <;> rfl
  · rw [fr _ _ (by decide)]
    rcases kk with e | e | e <;> subst e <;> rfl
