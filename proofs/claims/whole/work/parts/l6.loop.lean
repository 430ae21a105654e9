/-! THE LAW'S LOOP AND ITS START -/
theorem c_cell {L : Nat} {xs : Nat → Int32} {mc ms : Nat} {M : zM} (hL : L < 2 ^ 31) {Q : zQt} (hq : ∀ x, Q (some (.int x)) M) : wL_cell L xs mc ms [.ref 10, .int 0] M Q := by
  refine ⟨⟨Nat.le_of_ble_eq_true rfl, rfl⟩, fun X l0 l13 => ?_⟩
  have f : ∀ x, X 13 0 0 [] [.int x] M := fun x => l13 _ _ _ _ _ ⟨rfl, hq x⟩
  refine l0 _ _ _ _ _ ⟨rfl, ⟨rfl, fun _ => f _, fun w => ⟨rfl, ?_, f _⟩⟩⟩
  have : ¬ nI L ≤ nI 0 := w
  rw [nI_leI hL (by decide)] at this
  exact vp_in_nI (n := 0) (by omega) hL
theorem law_33 {L : Nat} (hL : L ≤ 385) {xs : Nat → Int32} {X : Nat → zV} (l33 : zin 8 [0, 1, 2, 3, 4] (aL_law_33 L xs 600128 7301064 X) X 33) (l254 : zin 8 [0, 1, 2, 3, 4] (aL_law_254 L xs 600128 7301064 X) X 254) (l310 : zin 8 [0, 1, 2, 3, 4] (aL_law_310 L xs 600128 7301064 X) X 310) (l392 : zin 8 [0, 1, 2, 3, 4] (aL_law_392 L xs 600128 7301064 X) X 392) (l447 : zin 8 [0, 1, 2, 3, 4] (aL_law_447 L xs 600128 7301064 X) X 447) (l553 : zin 8 [0, 1, 2, 3, 4] (aL_law_553 L xs 600128 7301064 X) X 553) (l609 : zin 8 [0, 1, 2, 3, 4] (aL_law_609 L xs 600128 7301064 X) X 609) (l665 : zin 8 [0, 1, 2, 3, 4] (aL_law_665 L xs 600128 7301064 X) X 665) (l709 : zin 8 [0, 1, 2, 3, 4] (aL_law_709 L xs 600128 7301064 X) X 709) (l753 : zin 8 [0, 1, 2, 3, 4] (aL_law_753 L xs 600128 7301064 X) X 753) (l821 : zin 8 [0, 1, 2, 3, 4] (aL_law_821 L xs 600128 7301064 X) X 821) (l849 : zin 8 [0, 1, 2, 3, 4] (aL_law_849 L xs 600128 7301064 X) X 849) :
    ∀ (r j u v : Nat) (M : zM) (A : Ah) (kn : Nat → Bool), j + r = 64 → J4 M A kn A kn → aJ A j → u + (uC kn + cC kn) ≤ 200 + j → v + (vC kn + cD kn) ≤ 1200000 + 6 * j → X 33 u v [.ref 10, .ref 16, .ref 55, .ref 81, .int (nI (1 + 6 * j))] [] M := by
  intro r
  have cond : ∀ j, j ≤ 64 → ¬ (Int32.ofNat L - (6 : Int32)) < nI (1 + 6 * j) → 1 + 6 * j + 6 ≤ L := by
    intro j hj w
    by_cases q : 1 + 6 * j + 6 ≤ L
    · exact q
    · exfalso
      apply w
      have e : Int32.ofNat L - (6 : Int32) = iI ((L : Int) - 6) := by
        have e1 : Int32.ofNat L = iI (L : Int) := iI_nat L
        rw [e1]
        exact iI_sub _ 6
      rw [e, iI_nat]
      exact (iI_lt (by omega) (by omega) (by omega) (by omega)).mpr (by omega)
  induction r with
  | zero =>
    intro j u v M A kn hr h4 hJ hu hv
    refine l33 _ _ _ _ _ ⟨rfl, vL_law_33 h4.w ⟨fun _ => trivial, fun w => absurd (cond j (by omega) w) (by omega)⟩⟩
  | succ r ih =>
    intro j u v M A kn hr h4 hJ hu hv
    have hX : lwX X (nI (1 + 6 * j)) (200 + j + 1) (1200000 + 6 * j + 6) (j + 1) := by
      intro u v M A kn h4 hJ hu hv
      refine l849 _ _ _ _ _ ⟨rfl, vL_law_849 h4.w ?_⟩
      have := ih (j + 1) u v M A kn (by omega) h4 hJ (by omega) (by omega)
      rw [show 1 + 6 * (j + 1) = (1 + 6 * j) + 6 by omega, ← nI_add] at this
      exact this
    refine l33 _ _ _ _ _ ⟨rfl, vL_law_33 h4.w ⟨fun _ => trivial, fun w => ?_⟩⟩
    have hl := cond j (by omega) w
    have pv : ∀ i : Nat, i < 6 → vp_in (nI (1 + 6 * j) + nI i) L := fun i hi => by
      rw [nI_add]
      exact vp_in_nI (by omega) (by omega)
    have hH : lwH L X (nI (1 + 6 * j)) u v (200 + j + 1) (1200000 + 6 * j + 6) j M A kn := ⟨h4, hJ, by omega, by omega, by omega, ⟨by omega, by omega⟩, ⟨pv 1 (by decide), pv 2 (by decide), pv 3 (by decide), pv 4 (by decide), pv 5 (by decide)⟩, hX⟩
    exact ⟨vp_in_nI (by omega) (by omega), fun _ => hX u v M A kn h4 (hJ.mono (by omega)) (by omega) (by omega), fun _ => cs_tape hH, fun _ => cs_submit l254 hH, fun _ => cs_proceed l310 hH, fun _ => cs_retreat hH, fun _ => cs_legalMany hH, fun _ => cs_legalMove l392 hH, fun _ => cs_spelling l447 hH, fun _ => cs_recordAt hH, fun _ => cs_manOn hH, fun _ => cs_linesTo l553 hH, fun _ => cs_valueAt l609 hH, fun _ => cs_bestAt l665 hH, fun _ => cs_distanceToMate l709 hH, fun _ => cs_matingMove l753 hH, fun _ => cs_historyOf l821 hH, fun _ => cs_status hH⟩
theorem law_ok {L : Nat} (hL : L ≤ 385) (xs : Nat → Int32) : wL_law L xs 600128 7301064 [.ref 10] m0 := by
  refine ⟨⟨Nat.le_of_ble_eq_true rfl, rfl⟩, fun X l0 l33 l254 l310 l392 l447 l553 l609 l665 l709 l753 l821 l849 => ?_⟩
  have loop := law_33 hL l33 l254 l310 l392 l447 l553 l609 l665 l709 l753 l821 l849
  have hL2 : L < 2 ^ 31 := by omega
  refine l0 _ _ _ _ _ ⟨rfl, ?_⟩
  refine ⟨Nat.le_of_ble_eq_true rfl, Nat.le_of_ble_eq_true rfl, Nat.le_of_ble_eq_true rfl, rfl, 0, 0, Nat.le_of_ble_eq_true rfl, Nat.le_of_ble_eq_true rfl, c_cell hL2 (fun x => ?_)⟩
  refine ⟨Nat.le_of_ble_eq_true rfl, rfl, 60, 60000, Nat.le_of_ble_eq_true rfl, Nat.le_of_ble_eq_true rfl, c_hall (fun K0 hS => ?_)⟩
  have len0 : K0.2.2.2.length = 55 := by rw [hS.1, List.length_take, zsh0_len]; rfl
  refine ⟨Nat.le_of_ble_eq_true rfl, Nat.le_of_ble_eq_true rfl, ?_⟩
  rw [len0]
  refine ⟨Nat.le_of_ble_eq_true rfl, rfl, 0, 0, Nat.le_of_ble_eq_true rfl, Nat.le_of_ble_eq_true rfl, c_cell hL2 (fun x => ?_)⟩
  refine ⟨Nat.le_of_ble_eq_true rfl, rfl, 40, 120000, Nat.le_of_ble_eq_true rfl, Nat.le_of_ble_eq_true rfl, c_model hS (fun K hB => ?_)⟩
  have len1 : K.2.2.2.length = 81 := by rw [hB.1, List.length_take, zsh0_len]; rfl
  refine ⟨by decide, Nat.le_of_ble_eq_true rfl, Nat.le_of_ble_eq_true rfl, Nat.le_of_ble_eq_true rfl, ?_⟩
  rw [len1]
  obtain ⟨w1, w2, w3, w4, w5, w6⟩ := start_ok hS hB
  exact loop 64 0 _ _ (zNew K (2, 1)) A0 (fun _ => false) rfl ⟨⟨w2, w5⟩, w3, w4⟩ ⟨aOk_0, Nat.le_refl _, Nat.le_refl _⟩ (Nat.le_of_ble_eq_true rfl) (Nat.le_of_ble_eq_true rfl)
