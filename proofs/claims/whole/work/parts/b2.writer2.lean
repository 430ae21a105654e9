/-! THE CLASS'S RECORD WRITER: the whole record -/
theorem bPs.w {M N : zM} {g : Nat} {P : Ps} (hg : g = 35 ∨ g = 45) (h : zSm [29, 30] M N) (hP : bPs M g P) : bPs N g P := bPs.sm h (fun b b1 b2 q => by simp at q; omega) hP
theorem dcL_pos (v : Nat) : 1 ≤ (dcL v).length := by
  unfold dcL
  split
  · simp
  · split
    · simp
    · split
      · simp
      · split <;> simp
theorem epO_pos (P : Ps) : 1 ≤ (epO P).length := by
  unfold epO
  split <;> simp
set_option maxHeartbeats 8000000 in
theorem c_write {mc ms : Nat} {M : zM} {g : Nat} (hW : zWd M g) {P : Ps} (hO : psOk P) (hP : bPs M g P) (hc : P.2.2.2.2.1 < 100000) (hn : P.2.2.2.2.2 < 100000) {Q : zQt} (hq : ∀ N, zSm [29, 30] M N → wOut N (recL P) → Q none N) : wX7_write mc ms [.ref 29, .ref (g + 1)] M Q := by
  refine ⟨⟨Nat.le_of_ble_eq_true rfl, rfl⟩, fun X l0 l8 l33 l57 l68 l94 l113 l163 l166 => ?_⟩
  have hg := hW.2
  have hside := hO.2.1
  have hrt := hO.2.2.1
  have hf8 := hO.2.2.2.1
  obtain ⟨R, eR⟩ : ∃ R, R = recL P := ⟨_, rfl⟩
  have hlen := recL_len P
  rw [← eR] at hq hlen
  -- from the place behind the passing file on
  have f166 : ∀ (L : List Nat) (N : zM), zSm [29, 30] M N → wOut N L → L ++ ([32] ++ (dcL P.2.2.2.2.1 ++ ([32] ++ dcL P.2.2.2.2.2))) = R → X 166 0 0 [.ref 29, .ref (g + 1)] [] N := by
    intro L N sN oN hR
    have hl : L.length + (1 + ((dcL P.2.2.2.2.1).length + (1 + (dcL P.2.2.2.2.2).length))) = R.length := by
      rw [← hR]; simp; omega
    have d3 := dcL_pos P.2.2.2.2.2
    have d1 := dcL_len P.2.2.2.2.1
    have d2 := dcL_len P.2.2.2.2.2
    have WN := sN.wd hW
    refine l166 _ _ _ _ _ ⟨rfl, vX7_write_166 WN (c_putW (c := 32) WN oN (by omega) (by decide) (fun N1 s1 o1 => vkX7_write_172 (s1.wd WN) ?_))⟩
    have sA := sN.tr s1
    have WA := sA.wd hW
    have hPA := hP.w hg sA
    rw [hPA.2.2.2.2.1]
    refine c_putNumberW WA o1 (by rw [List.length_append]; show L.length + 1 + 5 ≤ 104; omega) hc (fun N2 s2 o2 => vkX7_write_180 (s2.wd WA) ?_)
    have sB := sA.tr s2
    have WB := sB.wd hW
    refine c_putW (c := 32) WB o2 (by rw [List.length_append, List.length_append]; show L.length + 1 + _ < 104; omega) (by decide) (fun N3 s3 o3 => vkX7_write_186 (s3.wd WB) ?_)
    have sC := sB.tr s3
    have WC := sC.wd hW
    have hPC := hP.w hg sC
    rw [hPC.2.2.2.2.2.1]
    refine c_putNumberW WC o3 (by rw [List.length_append, List.length_append, List.length_append]; show L.length + 1 + _ + 1 + 5 ≤ 104; omega) hn (fun N4 s4 o4 => vkX7_write_194 (s4.wd WC) (hq N4 (sC.tr s4) ?_))
    rw [← hR]
    have : L ++ [32] ++ dcL P.2.2.2.2.1 ++ [32] ++ dcL P.2.2.2.2.2 = L ++ ([32] ++ (dcL P.2.2.2.2.1 ++ ([32] ++ dcL P.2.2.2.2.2))) := by simp
    rw [← this]
    exact o4
  have f113 : ∀ (L : List Nat) (N : zM), zSm [29, 30] M N → wOut N L → L ++ ([32] ++ (epO P ++ ([32] ++ (dcL P.2.2.2.2.1 ++ ([32] ++ dcL P.2.2.2.2.2))))) = R → X 113 0 0 [.ref 29, .ref (g + 1)] [] N := by
    intro L N sN oN hR
    have hl : L.length + (1 + ((epO P).length + (1 + ((dcL P.2.2.2.2.1).length + (1 + (dcL P.2.2.2.2.2).length))))) = R.length := by
      rw [← hR]; simp; omega
    have WN := sN.wd hW
    refine l113 _ _ _ _ _ ⟨rfl, vX7_write_113 WN (c_putW (c := 32) WN oN (by omega) (by decide) (fun N1 s1 o1 => vkX7_write_119 (s1.wd WN) ?_))⟩
    have sA := sN.tr s1
    have WA := sA.wd hW
    have hPA := hP.w hg sA
    rw [hPA.2.2.2.1]
    by_cases hf : P.2.2.2.1 < 8
    · have hep : epO P = [97 + P.2.2.2.1, if P.2.1 = 0 then 54 else 51] := by unfold epO; rw [if_pos hf]
      have hel : (epO P).length = 2 := by rw [hep]; rfl
      have ep : pI P.2.2.2.1 = nI P.2.2.2.1 := by unfold pI; rw [if_pos hf]
      have en : ¬ nI P.2.2.2.1 = (-1 : Int32) := by
        have : ∀ f, f < 8 → ¬ nI f = (-1 : Int32) := by decide
        exact this _ hf
      rw [ep, show (97 : Int32) + nI P.2.2.2.1 = nI (97 + P.2.2.2.1) from nI_add 97 _, ch_n (by omega)]
      refine ⟨fun z => absurd z en, fun _ => c_putW WA o1 (by rw [List.length_append]; show L.length + 1 < 104; omega) (by omega) (fun N2 s2 o2 => vkX7_write_148 (s2.wd WA) ?_)⟩
      have sB := sA.tr s2
      have WB := sB.wd hW
      have hPB := hP.w hg sB
      rw [hPB.2.1]
      have es := nI_eq (a := P.2.1) (b := 0) (by omega) (by decide)
      have f163 : ∀ c, c = (if P.2.1 = 0 then 54 else 51) → X 163 0 0 [.ref 29, .ref (g + 1)] [.int (nI c), .ref 29] N2 := by
        intro c hcc
        have hc256 : c < 256 := by rw [hcc]; split <;> omega
        refine l163 _ _ _ _ _ ⟨rfl, vX7_write_163 WB (c_putW WB o2 (by rw [List.length_append, List.length_append]; show L.length + 1 + 1 < 104; omega) hc256 (fun N3 s3 o3 => vkX7_write_166 (s3.wd WB) ?_))⟩
        refine f166 _ N3 (sB.tr s3) o3 ?_
        rw [← hR, hep, hcc]
        simp
      exact ⟨fun z => f163 54 (by rw [if_pos (es.mp z)]), fun z => f163 51 (by rw [if_neg (fun y => z (es.mpr y))])⟩
    · have hep : epO P = [45] := by unfold epO; rw [if_neg hf]
      have hel : (epO P).length = 1 := by rw [hep]; rfl
      have e : pI P.2.2.2.1 = -1 := by unfold pI; rw [if_neg hf]
      refine ⟨fun _ => c_putW (c := 45) WA o1 (by rw [List.length_append]; show L.length + 1 < 104; omega) (by decide) (fun N2 s2 o2 => vkX7_write_133 (s2.wd WA) ?_), fun z => absurd e z⟩
      refine f166 _ N2 (sA.tr s2) o2 ?_
      rw [← hR, hep]
      simp
  obtain ⟨S3, eS3⟩ : ∃ S3, S3 = [32] ++ (epO P ++ ([32] ++ (dcL P.2.2.2.2.1 ++ ([32] ++ dcL P.2.2.2.2.2)))) := ⟨_, rfl⟩
  rw [← eS3] at f113
  have rights : ∀ (j k : Nat) (L : List Nat) (N : zM), k + j = 4 → zSm [29, 30] M N → wOut N L → L ++ (rtO P.2.2.1 j ++ S3) = R → X 68 0 0 [.ref 29, .ref (g + 1), .int (nI k)] [] N := by
    intro j
    induction j with
    | zero =>
      intro k L N hk sN oN hR
      obtain rfl : k = 4 := by omega
      have WN := sN.wd hW
      have hPN := hP.w hg sN
      have er := nI_eq (a := P.2.2.1) (b := 0) (by omega) (by decide)
      have hl : L.length + ((rtO P.2.2.1 0).length + S3.length) = R.length := by rw [← hR]; simp
      have h0 : 0 < S3.length := by rw [eS3]; simp
      refine l68 _ _ _ _ _ ⟨rfl, vX7_write_68 WN ⟨fun _ => ?_, fun w => absurd (by decide) w⟩⟩
      rw [hPN.2.2.1]
      unfold rtO at hR
      refine ⟨fun w => ?_, fun w => ?_⟩
      · rw [if_pos (er.mp w)] at hR
        refine c_putW (c := 45) WN oN (by omega) (by decide) (fun N1 s1 o1 => vkX7_write_113 (s1.wd WN) (f113 _ N1 (sN.tr s1) o1 ?_))
        rw [← hR]; simp
      · rw [if_neg (fun z => w (er.mpr z))] at hR
        exact f113 L N sN oN (by rw [← hR]; simp)
    | succ j ih =>
      intro k L N hk sN oN hR
      have WN := sN.wd hW
      have hPN := hP.w hg sN
      have hb := shr16 P.2.2.1 hrt k (by omega)
      have hk3 : 3 - j = k := by omega
      unfold rtO at hR
      rw [hk3] at hR
      have f94 : ∀ (L2 : List Nat) (K : zM), zSm [29, 30] M K → wOut K L2 → L2 ++ (rtO P.2.2.1 j ++ S3) = R → X 94 0 0 [.ref 29, .ref (g + 1), .int (nI k)] [] K := by
        intro L2 K sK oK hRK
        refine l94 _ _ _ _ _ ⟨rfl, vX7_write_94 (sK.wd hW) ?_⟩
        rw [nI_1]
        exact ih (k + 1) L2 K (by omega) sK oK hRK
      refine l68 _ _ _ _ _ ⟨rfl, vX7_write_68 WN ⟨fun w => absurd ((nI_leI (a := 4) (b := k) (by decide) (by omega)).mp w) (by omega), fun _ => ?_⟩⟩
      rw [hPN.2.2.1]
      refine ⟨fun w => ?_, fun w => ?_⟩
      · rw [if_neg (by have := hb.mp w; omega)] at hR
        exact f94 L N sN oN (by rw [← hR]; simp)
      · have h1 : P.2.2.1 / 2 ^ k % 2 = 1 := by
          have : ¬ P.2.2.1 / 2 ^ k % 2 = 0 := fun z => w (hb.mpr z)
          omega
        rw [if_pos h1] at hR
        have hl : L.length + (1 + ((rtO P.2.2.1 j).length + S3.length)) = R.length := by rw [← hR]; simp; omega
        have hrl : rtL k < 256 := by unfold rtL; split <;> (try split) <;> (try split) <;> omega
        refine c_rtC (by omega) (vkX7_write_91 WN (c_putW WN oN (by omega) hrl (fun N1 s1 o1 => vkX7_write_94 (s1.wd WN) (f94 _ N1 (sN.tr s1) o1 ?_))))
        rw [← hR]; simp
  obtain ⟨S2, eS2⟩ : ∃ S2, S2 = rtO P.2.2.1 4 ++ S3 := ⟨_, rfl⟩
  have hRall : R = rksO P.1 8 ++ ([if P.2.1 = 0 then 119 else 98] ++ ([32] ++ S2)) := by
    rw [eR, eS2, eS3]
    rfl
  have f57 : ∀ (L : List Nat) (c : Nat) (N : zM), c < 256 → zSm [29, 30] M N → wOut N L → L ++ ([c] ++ ([32] ++ S2)) = R → X 57 0 0 [.ref 29, .ref (g + 1)] [.int (nI c), .ref 29] N := by
    intro L c N hcc sN oN hR
    have hl : L.length + (1 + (1 + S2.length)) = R.length := by rw [← hR]; simp; omega
    have WN := sN.wd hW
    refine l57 _ _ _ _ _ ⟨rfl, vX7_write_57 WN (c_putW WN oN (by omega) hcc (fun N1 s1 o1 => vkX7_write_60 (s1.wd WN) ?_))⟩
    have sA := sN.tr s1
    have WA := sA.wd hW
    refine c_putW (c := 32) WA o1 (by rw [List.length_append]; show L.length + 1 < 104; omega) (by decide) (fun N2 s2 o2 => vkX7_write_66 (s2.wd WA) ?_)
    refine rights 4 0 _ N2 (by omega) (sA.tr s2) o2 ?_
    rw [← hR, eS2]; simp
  have ranks : ∀ (n : Nat) (L : List Nat) (N : zM), n ≤ 8 → zSm [29, 30] M N → wOut N L → L ++ (rksO P.1 n ++ ([if P.2.1 = 0 then 119 else 98] ++ ([32] ++ S2))) = R → X 8 0 0 [.ref 29, .ref (g + 1), .int (nI n + (-1))] [] N := by
    intro n
    induction n with
    | zero =>
      intro L N hn sN oN hR
      have WN := sN.wd hW
      have hPN := hP.w hg sN
      have es := nI_eq (a := P.2.1) (b := 0) (by omega) (by decide)
      refine l8 _ _ _ _ _ ⟨rfl, vX7_write_8 WN ⟨fun _ => ?_, fun w => absurd (by decide) w⟩⟩
      rw [hPN.2.1]
      unfold rksO at hR
      refine ⟨fun z => f57 L 119 N (by omega) sN oN ?_, fun z => f57 L 98 N (by omega) sN oN ?_⟩
      · rw [if_pos (es.mp z)] at hR; exact hR
      · rw [if_neg (fun y => z (es.mpr y))] at hR; exact hR
    | succ n ih =>
      intro L N hn sN oN hR
      have WN := sN.wd hW
      have hPN := hP.w hg sN
      unfold rksO at hR
      have hrk := rkO_len P.1 n 8 0 0
      rw [if_neg (by omega)] at hrk
      have hl : L.length + ((rkO P.1 n 8 0 0).length + (1 + ((rksO P.1 n).length + (1 + (1 + S2.length))))) = R.length := by rw [← hR]; simp; omega
      have h3 : 6 ≤ S2.length := by
        rw [eS2, eS3]
        have d1 := dcL_pos P.2.2.2.2.1
        have d2 := dcL_pos P.2.2.2.2.2
        have d3 := epO_pos P
        simp
        omega
      rw [pk_m1]
      have hl2 : L.length + 9 ≤ 104 := by omega
      refine l8 _ _ _ _ _ ⟨rfl, vX7_write_8 WN ⟨fun w => absurd w (nI_pos (by omega)), fun _ => ?_⟩⟩
      rw [show nI n * (8 : Int32) = nI (8 * n) from by rw [Nat.mul_comm 8 _]; exact pk_mul _ 8]
      refine c_writeRank WN hPN oN hl2 (by omega) (fun N1 s1 o1 => vkX7_write_21 (s1.wd WN) ?_)
      have sA := sN.tr s1
      have WA := sA.wd hW
      have e0 := nI_leI (a := n) (b := 0) (by omega) (by decide)
      have f33 : ∀ c, c = (if 0 < n then 47 else 32) → X 33 0 0 [.ref 29, .ref (g + 1), .int (nI n)] [.int (nI c), .ref 29] N1 := by
        intro c hcc
        have hc256 : c < 256 := by rw [hcc]; split <;> omega
        refine l33 _ _ _ _ _ ⟨rfl, vX7_write_33 WA (c_putW WA o1 (by rw [List.length_append]; omega) hc256 (fun N2 s2 o2 => vkX7_write_36 (s2.wd WA) ?_))⟩
        refine ih _ N2 (by omega) (sA.tr s2) o2 ?_
        rw [← hR, hcc]; simp
      exact ⟨fun z => f33 32 (by rw [if_neg (by have := e0.mp z; omega)]), fun z => f33 47 (by rw [if_pos (by have : ¬ n ≤ 0 := fun y => z (e0.mpr y); omega)])⟩
  refine l0 _ _ _ _ _ ⟨rfl, vX7_write_0 hW (fun M2 e2 => ?_)⟩
  have s2 : zSm [29, 30] M M2 := by rw [e2]; exact zSm.I (by simp)
  have := ranks 8 [] M2 (by omega) s2 ⟨by rw [e2, zsI_s]; rfl, fun k v hk => by simp at hk⟩ (by rw [hRall]; rfl)
  exact this
