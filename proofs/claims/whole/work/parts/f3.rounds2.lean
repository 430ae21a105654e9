/-! THE REFERENCE'S ENDINGS: a kind of man is worked out, the method -/
theorem ofNat_nI (n : Nat) : Int32.ofNat n = nI n := rfl
set_option maxHeartbeats 4000000 in
theorem e_rounds {mc ms : Nat} {M : zM} (hW : zFix M) {kn : Nat → Bool} (hK : eKn M kn) {k : Nat} (k1 : 1 ≤ k) (k5 : k ≤ 5) {g : Int} (g1 : -1 ≤ g) (g2 : g < 58) (ho : k = 1 → ∀ j, 2 ≤ j → j ≤ 5 → kn j = true ∧ ∀ s p w sm d, s < 64 → p < 64 → w < 64 → isD j s p w sm d → (d : Int) ≤ g) (hrm : kn k = false → 1 ≤ mc ∧ 8192 * kSz k ≤ ms) {Q : zQt} (hq : ∀ K, xFr eKC M K → eKn K (fun j => if j = k then true else kn j) → Q none K) : wX12_rounds mc ms [.ref 71, .int (nI k), .int (iI g)] M Q := by
  refine ⟨⟨Nat.le_of_ble_eq_true rfl, rfl⟩, fun X l0 l35 l65 l79 l110 l124 l147 => ?_⟩
  have l82 := fix_len hW
  have ksz := kSz_le k
  have v6' : vp_in (nI k) 6 := vp_in_nI (by omega) (by omega)
  have kc : (nI k).toNatClampNeg = k := nI_clamp (by omega)
  obtain ⟨r, hr⟩ : ∃ r, r = M.2.2.2.length := ⟨_, rfl⟩
  -- the rounds
  have loop : ∀ (u v : Nat), u ≤ mc → v ≤ ms → ∀ (n d i : Nat) (K : zM), d + n = 61 → rL M K k d i → rG k d i → X 65 u v [.ref 71, .int (nI k), .int (iI g), .ref r, .int (nI i), .int (nI d)] [] K := by
    intro u v hu hv n
    have fin : ∀ (d i : Nat) (K : zM), d ≤ 61 → rL M K k d i → rG k d i → 2 ≤ i → g + 2 < d → X 65 u v [.ref 71, .int (nI k), .int (iI g), .ref r, .int (nI i), .int (nI d)] [] K := by
      intro d i K hd hL hG i2 hg
      have hi := hG.1
      have hnn : ∀ e, d ≤ e → nDa k e := fun e he => isD_quiet (e := d - 2) k1 k5 (hG.2.2 _ (by omega) (by omega)) (hG.2.2 _ (by omega) (by omega)) (fun e1 j s p w sm d' j2 j5 hs hp hw q => by
        have := (ho e1 j j2 j5).2 s p w sm d' hs hp hw q
        omega) e (by omega)
      have f147 : ∀ K2, xFr eKC M K2 → eKn K2 (fun j => if j = k then true else kn j) → X 147 u v [] [] K2 := fun K2 a b => l147 _ _ _ _ _ ⟨rfl, hq K2 a b⟩
      have hWK := hL.1
      have e73 : K.1 73 (nI k).toNatClampNeg = iI ((d : Int) - 1 - i) := by rw [kc, hL.2.2.2.2.2.2.2 k, if_pos rfl]
      refine l65 _ _ _ _ _ ⟨rfl, ⟨fun c => absurd ((nI_ltI (b := 2) (by omega) (by decide)).mp c) (by omega), fun _ => ⟨fun _ => ?_, fun c => ?_⟩⟩⟩
      · refine ⟨fxs_71 hWK, 73, fxr_71_3 hWK, ⟨6, fxs_73 hWK, v6', ?_⟩⟩
        refine ⟨fun c => ?_, fun c => ?_⟩
        · have c : (0 : Int32) ≤ K.1 73 (nI k).toNatClampNeg := c
          rw [e73] at c
          have := (iI_le (a := 0) (b := (d : Int) - 1 - i) (by omega) (by omega) (by omega) (by omega)).mp c
          obtain ⟨a, b⟩ := hL.done hW hK k1 k5 (by omega) hG hnn (Or.inl ⟨by omega, rfl⟩)
          exact f147 K a b
        · have c : ¬ (0 : Int32) ≤ K.1 73 (nI k).toNatClampNeg := c
          rw [e73] at c
          have : ¬ (0 : Int) ≤ (d : Int) - 1 - i := fun q => c ((iI_le (a := 0) (b := (d : Int) - 1 - i) (by omega) (by omega) (by omega) (by omega)).mpr q)
          refine ⟨Nat.le_of_ble_eq_true rfl, rfl, fxs_71 hWK, 0, 0, hu, hv, ?_⟩
          refine e_keep hWK k1 k5 (o := none) (fun K2 h2 => ?_)
          obtain ⟨a, b⟩ := hL.done hW hK k1 k5 (by omega) hG hnn (Or.inr ⟨by omega, h2⟩)
          exact f147 K2 a b
      · refine absurd ?_ c
        show iI g + (2 : Int32) < nI d
        rw [show iI g + (2 : Int32) = iI (g + 2) from iI_add g 2]
        exact (iI_lt (a := g + 2) (b := (d : Int)) (by omega) (by omega) (by omega) (by omega)).mpr hg
    have rnd : ∀ (d i : Nat) (K : zM), d < 61 → rL M K k d i → rG k d i → (∀ (i2 : Nat) (K2 : zM), rL M K2 k (d + 1) i2 → rG k (d + 1) i2 → X 65 u v [.ref 71, .int (nI k), .int (iI g), .ref r, .int (nI i2), .int (nI (d + 1))] [] K2) → X 79 u v [.ref 71, .int (nI k), .int (iI g), .ref r, .int (nI i), .int (nI d)] [] K := by
      intro d i K hd hL hG nx
      have hi := hG.1
      have hWK := hL.1
      have hsm : decide (d % 2 = 1) = true ↔ d % 2 = 1 := by simp
      refine l79 _ _ _ _ _ ⟨rfl, ⟨Nat.le_of_ble_eq_true rfl, rfl, fxs_71 hWK, 0, 0, hu, hv, ?_⟩⟩
      refine e_round hWK hL.2.1 k1 k5 (by omega) hsm (by rw [hr]; exact hL.2.2.1) (fun e1 j j2 j5 => ?_) (fun K2 b s2 hI2 hf => ?_)
      · obtain ⟨hj, -⟩ := ho e1 j j2 j5
        obtain ⟨b1, b2, bg, b3, b4, -⟩ := (hK.2 j (by omega) j5).2 hj
        have n71 : ¬ (71 = 71 ∧ slt j = slt k) := fun q => by
          have := slt_inj (by omega) j5 k1 k5 q.2
          omega
        have r71 : K.2.2.1 71 (slt j) = M.2.2.1 71 (slt j) := hL.2.2.2.2.2.1 71 _ (by omega) n71
        have shp : ∀ b sh, zsh M b = some sh → zsh K b = some sh := fun b sh q => by
          unfold zsh at q ⊢
          rw [hL.2.2.2.1, List.getElem?_append_left (List.getElem?_eq_some_iff.mp q).1]
          exact q
        have rows : ∀ r, 82 ≤ r → r < M.2.2.2.length → K.1 r = M.1 r := fun r hr hl => (hL.2.2.2.2.1 r (by omega) (by simp [eKC]; omega)).1
        have nr : K.2.2.1 71 (slt j) ≠ some r := fun q => by
          rw [r71] at q
          rcases b1 with ⟨a, _⟩ | ⟨r2, a, b, _⟩
          · rw [a] at q; exact absurd q (by simp)
          · rw [a] at q
            have := (List.getElem?_eq_some_iff.mp b).1
            have := Option.some.inj q
            omega
        have bb : ∀ sm, eRd M j sm 100 := fun sm => by cases sm; exact b2; exact b1
        exact ⟨(bb _).fr hW r71 shp rows, nr⟩
      · have hs2 : zSm (M.2.2.2.length :: eC) K K2 := by rw [← hr]; exact s2
        have hI3 : rI K2 M.2.2.2.length k d (decide (d % 2 = 1)) 262144 := by rw [← hr]; exact hI2
        have hW2 := s2.fix hWK
        have f110 : ∀ (v6 : Int32) (i2 : Nat), v6 = iI (((d + 1 : Nat) : Int) - 1 - i2) → (b = true → i2 = 0) → (b = false → i2 = i + 1) → X 110 u v [.ref 71, .int (nI k), .int (iI g), .ref r, .int (nI i), .int (nI d), .int (bI b)] [.int v6, .int (nI k), .ref 73] K2 := by
          intro v6 i2 hv6 hb1 hb0
          have hL3 := hL.step hW k5 hs2 hI3 hv6
          have hG3 := rG_s hsm hG hf
          have ei : (if b = true then 0 else i + 1) = i2 := by
            cases b
            · rw [if_neg (by decide), hb0 rfl]
            · rw [if_pos rfl, hb1 rfl]
          rw [ei] at hG3
          have f124 : X 124 u v [.ref 71, .int (nI k), .int (iI g), .ref r, .int (nI d)] [.int (nI i2)] (zsI K2 73 (nI k).toNatClampNeg v6) := by
            rw [kc]
            refine l124 _ _ _ _ _ ⟨rfl, ?_⟩
            have q := nx i2 _ hL3 hG3
            rw [← show nI d + (1 : Int32) = nI (d + 1) from nI_add _ 1] at q
            exact q
          refine l110 _ _ _ _ _ ⟨rfl, ⟨6, fxs_73 hW2, v6', ⟨fun c => ?_, fun c => ?_⟩⟩⟩
          · have c := bI_0.mp c
            have := hb0 c
            subst this
            rw [← show nI i + (1 : Int32) = nI (i + 1) from nI_add _ 1] at f124
            exact f124
          · have c := bI_n.mp c
            have := hb1 c
            subst this
            exact f124
        refine ⟨fxs_71 hW2, 73, fxr_71_3 hW2, ⟨fun c => ⟨fxs_71 hW2, 73, fxr_71_3 hW2, ⟨6, fxs_73 hW2, v6', ?_⟩⟩, fun c => ?_⟩⟩
        · have c := bI_0.mp c
          refine f110 _ (i + 1) ?_ (fun q => absurd (c.symm.trans q) (by decide)) (fun _ => rfl)
          show K2.1 73 (nI k).toNatClampNeg = _
          have n73 : 73 ∉ M.2.2.2.length :: eC := fun q => by
            rcases List.mem_cons.mp q with e | e
            · omega
            · exact absurd e (by decide)
          rw [kc, hs2.i n73, hL.2.2.2.2.2.2.2 k, if_pos rfl]
          congr 1
          omega
        · have c := bI_n.mp c
          refine f110 _ 0 ?_ (fun _ => rfl) (fun q => absurd (q.symm.trans c) (by decide))
          show iI (d : Int) = _
          congr 1
          omega
    induction n with
    | zero =>
      intro d i K hd hL hG
      have i2 := rG_2 k1 k5 hG (by omega)
      exact fin d i K (by omega) hL hG i2 (by omega)
    | succ n ih =>
      intro d i K hd hL hG
      have hi := hG.1
      have nx := rnd d i K (by omega) hL hG (fun i2 K2 a b => ih (d + 1) i2 K2 (by omega) a b)
      by_cases i2 : 2 ≤ i
      · by_cases hg : g + 2 < d
        · exact fin d i K (by omega) hL hG i2 hg
        · refine l65 _ _ _ _ _ ⟨rfl, ⟨fun _ => nx, fun _ => ⟨fun c => ?_, fun _ => nx⟩⟩⟩
          have c : iI g + (2 : Int32) < nI d := c
          rw [show iI g + (2 : Int32) = iI (g + 2) from iI_add g 2] at c
          exact absurd ((iI_lt (a := g + 2) (b := (d : Int)) (by omega) (by omega) (by omega) (by omega)).mp c) hg
      · refine l65 _ _ _ _ _ ⟨rfl, ⟨fun _ => nx, fun c => absurd ((nI_ltI (b := 2) (by omega) (by decide)).mpr (by omega)) c⟩⟩
  -- known already
  have h72 := (hK.2 k k1 k5).1
  refine l0 _ _ _ _ _ ⟨rfl, ⟨fxs_71 hW, 72, fxr_71_2 hW, ⟨6, fxs_72 hW, v6', ⟨fun c => ?_, fun c => ?_⟩⟩⟩⟩
  case refine_2 =>
    have c : ¬ M.1 72 (nI k).toNatClampNeg = 0 := c
    rw [kc, h72] at c
    have kk := bI_n.mp c
    refine hq M (xFr.rf hW) ⟨hK.1, fun j j1 j5 => ?_⟩
    show M.1 72 j = bI (if j = k then true else kn j) ∧ ((if j = k then true else kn j) = true → eDone M j)
    by_cases e : j = k
    · subst e
      rw [if_pos rfl]
      exact ⟨by rw [h72, kk], fun _ => (hK.2 j j1 j5).2 kk⟩
    · rw [if_neg e]
      exact hK.2 j j1 j5
  have c : M.1 72 (nI k).toNatClampNeg = 0 := c
  rw [kc, h72] at c
  have kk := bI_0.mp c
  obtain ⟨mc1, ms1⟩ := hrm kk
  obtain ⟨M2, e2⟩ : ∃ M2, M2 = zsI (zsI M 72 (nI k).toNatClampNeg (vp_nar .boolean 1)) 73 (nI k).toNatClampNeg (-1) := ⟨_, rfl⟩
  have W2 : zFix M2 := by rw [e2]; exact hW
  have s2 : zSm [72, 73] M M2 := by rw [e2]; exact (zSm.I (by decide)).tr (zSm.I (by decide))
  have T2 : eTb M2 := by
    unfold eTb
    rw [s2.i (b := 74) (by decide), s2.i (b := 75) (by decide)]
    exact hK.1
  refine ⟨fxs_71 hW, 72, fxr_71_2 hW, ⟨6, fxs_72 hW, v6', ⟨fxs_71 (M := zsI M 72 (nI k).toNatClampNeg (vp_nar .boolean 1)) hW, 73, fxr_71_3 (M := zsI M 72 (nI k).toNatClampNeg (vp_nar .boolean 1)) hW, ⟨6, fxs_73 (M := zsI M 72 (nI k).toNatClampNeg (vp_nar .boolean 1)) hW, v6', ?_⟩⟩⟩⟩
  refine ⟨Nat.le_of_ble_eq_true rfl, rfl, fxs_71 (M := zsI (zsI M 72 (nI k).toNatClampNeg (vp_nar .boolean 1)) 73 (nI k).toNatClampNeg (-1)) hW, 0, 0, Nat.zero_le _, Nat.zero_le _, ?_⟩
  show wX12_newRow 0 0 [.ref 71, .int (nI k)] (zsI (zsI M 72 (nI k).toNatClampNeg (vp_nar .boolean 1)) 73 (nI k).toNatClampNeg (-1)) _
  rw [← e2]
  refine e_newRow W2 T2 k5 ?_
  have cl : (nI (8192 * kSz k)).toNatClampNeg = 8192 * kSz k := nI_clamp (by omega)
  have len2 : M2.2.2.2.length = r := by rw [s2.1, hr]
  refine ⟨fun q => absurd ((nI_ltI (b := 0) (by omega) (by decide)).mp q) (by omega), by rw [cl]; omega, by omega, by rw [cl]; omega, ?_⟩
  rw [cl, len2]
  obtain ⟨M3, e3⟩ : ∃ M3, M3 = zNew M2 (3, 8192 * kSz k) := ⟨_, rfl⟩
  rw [← e3]
  have sh3 : zsh M3 r = some (3, 8192 * kSz k) := by
    rw [e3, ← len2]
    show (M2.2.2.2 ++ [_])[_]? = _
    rw [List.getElem?_append_right (Nat.le_refl _), Nat.sub_self]
    rfl
  have s3 : M3.2.2.2 = M.2.2.2 ++ [(3, 8192 * kSz k)] := by
    rw [e3]
    show M2.2.2.2 ++ _ = _
    rw [s2.1]
  have i3 : ∀ b, b ≠ r → M3.1 b = M2.1 b ∧ M3.2.1 b = M2.2.1 b ∧ M3.2.2.1 b = M2.2.2.1 b := fun b hb => by
    rw [e3]
    refine ⟨funext (fun i => ?_), funext (fun i => ?_), funext (fun i => ?_)⟩ <;> exact if_neg (by rw [len2]; exact hb)
  have shp3 : ∀ b sh, zsh M b = some sh → zsh M3 b = some sh := fun b sh q => by
    unfold zsh at q ⊢
    rw [s3, List.getElem?_append_left (List.getElem?_eq_some_iff.mp q).1]
    exact q
  have W3 : zFix M3 := fix_x hW shp3 (fun b j hb _ => by rw [(i3 b (by omega)).2.2, s2.1])
  have hu : 0 + 0 + 1 ≤ mc := by omega
  have hv : 0 + 0 + 8192 * kSz k ≤ ms := by omega
  show X 35 (0 + 0 + 1) (0 + 0 + 8192 * kSz k) [.ref 71, .int (nI k), .int (iI g), .ref r, .int (nI 0)] [] M3
  -- the new row is filled
  have fill : ∀ (n j : Nat) (K : zM), j + n = 8192 * kSz k → zSm [r] M3 K → (∀ i, i < j → K.1 r i = -1) → X 35 (0 + 0 + 1) (0 + 0 + 8192 * kSz k) [.ref 71, .int (nI k), .int (iI g), .ref r, .int (nI j)] [] K := by
    intro n
    induction n with
    | zero =>
      intro j K hj sK hf
      have WK := sK.fix W3
      have shK : zsh K r = some (3, 8192 * kSz k) := by unfold zsh; rw [sK.1]; exact sh3
      refine l35 _ _ _ _ _ ⟨rfl, ⟨3, 8192 * kSz k, shK, by decide, by decide, ⟨fun _ => ?_, fun c => ?_⟩⟩⟩
      · refine ⟨Nat.le_of_ble_eq_true rfl, rfl, fxs_71 WK, 0, 0, hu, hv, ?_⟩
        refine e_keep WK k1 k5 (o := some r) (fun K2 h2 => ?_)
        refine loop _ _ hu hv 61 0 0 K2 rfl ?_ (rG_0 k)
        have shp2 : ∀ b sh, zsh K b = some sh → zsh K2 b = some sh := fun b sh q => by
          unfold zsh at q ⊢
          rw [h2.2.2.1]
          exact q
        have n71 : ∀ b j, ¬ (b = 71 ∧ j = slt k) → K2.2.2.1 b j = K.2.2.1 b j := fun b j q => by rw [h2.2.2.2, if_neg (fun z => q ⟨z.1, z.2.1⟩)]
        have s4 : ∀ b, b ≠ r → b ∉ [72, 73] → K2.1 b = M.1 b ∧ K2.2.1 b = M.2.1 b := fun b hb hc => by
          have nr : b ∉ [r] := by simpa using hb
          refine ⟨?_, ?_⟩
          · rw [h2.1, sK.i nr, (i3 b hb).1, s2.i hc]
          · rw [h2.2.1, sK.j nr, (i3 b hb).2.1, s2.j hc]
        refine ⟨fix_x WK shp2 (fun b j hb hx => n71 b j (fun q => hx (Or.inl ⟨q.1, ?_⟩))), ?_, ?_, ?_, ?_, ?_, ?_, ?_⟩
        · have q := q.2
          unfold slt at q
          split at q
          · omega
          · split at q
            · omega
            · split at q
              · omega
              · split at q <;> omega
        · unfold eTb
          rw [(s4 74 (by omega) (by decide)).1, (s4 75 (by omega) (by decide)).1]
          exact hK.1
        · have e1 : ∀ i, i < 8192 * kSz k → K2.1 r i = -1 := fun i hi => by rw [h2.1]; exact hf i (by omega)
          rw [← hr]
          refine ⟨shp2 _ _ shK, by rw [h2.2.2.2, if_pos ⟨rfl, rfl, k5⟩], fun s p w hs hp hw _ => ?_, fun s p w hs hp hw _ => ?_⟩
          · rw [e1 _ (plc_lt hs hp hw)]
            exact Or.inr ⟨fun e he => absurd he (by omega), rfl⟩
          · rw [e1 _ (plc_lt hs hp hw), if_neg (by omega)]
            exact Or.inr ⟨fun e he => absurd he (by omega), rfl⟩
        · rw [h2.2.2.1, sK.1, s3]
        · intro b hb hc
          exact s4 b (by omega) (fun q => hc (by simp at q; simp [eKC]; omega))
        · intro b j hb hj
          rw [n71 b j hj, sK.1, (i3 b (by omega)).2.2, s2.1]
        · intro j
          have nr : 72 ∉ [r] := by simp; omega
          rw [h2.1, sK.i nr, (i3 72 (by omega)).1, e2, zsI_c (b := 72) (by decide), zsI_at, kc]
          by_cases e : j = k
          · rw [if_pos ⟨rfl, e⟩, if_pos e]; rfl
          · rw [if_neg (fun q => e q.2), if_neg e]
        · intro j
          have nr : 73 ∉ [r] := by simp; omega
          rw [h2.1, sK.i nr, (i3 73 (by omega)).1, e2, zsI_at, kc]
          by_cases e : j = k
          · rw [if_pos ⟨rfl, e⟩, if_pos e]; rfl
          · rw [if_neg (fun q => e q.2), if_neg e, zsI_c (b := 73) (by decide)]
      · refine absurd ?_ c
        rw [show j = 8192 * kSz k by omega]
        exact Int32.le_refl _
    | succ n ih =>
      intro j K hj sK hf
      have WK := sK.fix W3
      have shK : zsh K r = some (3, 8192 * kSz k) := by unfold zsh; rw [sK.1]; exact sh3
      refine l35 _ _ _ _ _ ⟨rfl, ⟨3, 8192 * kSz k, shK, by decide, by decide, ⟨fun c => ?_, fun _ => ?_⟩⟩⟩
      · exact absurd ((nI_leI (a := 8192 * kSz k) (b := j) (by omega) (by omega)).mp c) (by omega)
      · refine ⟨8192 * kSz k, shK, vp_in_nI (by omega) (by omega), ?_⟩
        have q := ih (j + 1) (zsI K r (nI j).toNatClampNeg (vp_nar .byte (-1))) (by omega) (sK.tr (zSm.I (by simp))) (fun i hi => by
          rw [zsI_at, nI_clamp (by omega)]
          by_cases e : i = j
          · rw [if_pos ⟨rfl, e⟩]; decide
          · rw [if_neg (fun q => e q.2)]; exact hf i (by omega))
        rw [← show nI j + (1 : Int32) = nI (j + 1) from nI_add _ 1] at q
        exact q
  exact fill (8192 * kSz k) 0 M3 (by omega) zSm.rf (fun i hi => absurd hi (by omega))
