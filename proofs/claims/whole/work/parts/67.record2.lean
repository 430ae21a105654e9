/-! sayRecord, recordAt -/
def rksO (B : Nat → Nat) : Nat → List Nat
  | 0 => []
  | r + 1 => rkO B r 8 0 0 ++ ([if 0 < r then 47 else 32] ++ rksO B r)
theorem rksO_len (B : Nat → Nat) : ∀ r, (rksO B r).length ≤ 9 * r
  | 0 => Nat.le_refl _
  | r + 1 => by
    unfold rksO
    have h1 := rkO_len B r 8 0 0
    have h2 := rksO_len B r
    rw [if_neg (by omega)] at h1
    simp
    omega
def rtO (r : Nat) : Nat → List Nat
  | 0 => if r = 0 then [45] else []
  | j + 1 => (if r / 2 ^ (3 - j) % 2 = 1 then [rtL (3 - j)] else []) ++ rtO r j
theorem rtO_len (r : Nat) : ∀ j, (rtO r j).length ≤ j + (if r = 0 then 1 else 0)
  | 0 => by unfold rtO; split <;> simp
  | j + 1 => by
    unfold rtO
    have := rtO_len r j
    split <;> simp <;> omega
def epO (P : Ps) : List Nat := if P.2.2.2.1 < 8 then [97 + P.2.2.2.1, if P.2.1 = 0 then 54 else 51] else [45]
def recL (P : Ps) : List Nat := rksO P.1 8 ++ ([if P.2.1 = 0 then 119 else 98] ++ ([32] ++ (rtO P.2.2.1 4 ++ ([32] ++ (epO P ++ ([32] ++ (dcL P.2.2.2.2.1 ++ ([32] ++ dcL P.2.2.2.2.2))))))))
theorem shr_bit : ∀ r, r < 16 → ∀ k, k < 4 → ((nI r >>> (nI k &&& 31)) &&& 1 = 1 ↔ r / 2 ^ k % 2 = 1) := by decide +kernel
theorem rtL_eq : ∀ k, k < 4 → rtL k = (if k = 0 then 75 else if k = 1 then 81 else if k = 2 then 107 else 113) := by decide
set_option maxHeartbeats 8000000 in
theorem c_sayRecord {mc ms : Nat} {M : zM} (hW : zFix M) {P : Ps} (hP : rPs M 0 P) (hc : P.2.2.2.2.1 < 100000) (hn : P.2.2.2.2.2 < 100000) {Q : zQt} (hq : ∀ N, soF M N → rOut N (recL P) → Q none N) : wX13_sayRecord mc ms [.ref 55] M Q := by
  refine ⟨⟨Nat.le_of_ble_eq_true rfl, rfl⟩, fun X l0 l8 l29 l56 l67 l119 l122 l144 l201 l204 => ?_⟩
  obtain ⟨-, ⟨-, s1⟩, ⟨-, r16⟩, ⟨-, p8⟩, -, -⟩ := id hP
  have at64 : ∀ N, soF M N → N.1 65 (64 : Int32).toNatClampNeg = nI P.2.1 := fun N h => (h.ps hP).2.1.1
  have at65 : ∀ N, soF M N → N.1 65 (65 : Int32).toNatClampNeg = nI P.2.2.1 := fun N h => (h.ps hP).2.2.1.1
  have at66 : ∀ N, soF M N → N.1 65 (66 : Int32).toNatClampNeg = pI P.2.2.2.1 := fun N h => (h.ps hP).2.2.2.1.1
  have at67 : ∀ N, soF M N → N.1 65 (67 : Int32).toNatClampNeg = nI P.2.2.2.2.1 := fun N h => (h.ps hP).2.2.2.2.1.1
  have at68 : ∀ N, soF M N → N.1 65 (68 : Int32).toNatClampNeg = nI P.2.2.2.2.2 := fun N h => (h.ps hP).2.2.2.2.2.1
  have f204 : ∀ N K, soF M N → rOut N K → K.length < 88 → K ++ ([32] ++ (dcL P.2.2.2.2.1 ++ ([32] ++ dcL P.2.2.2.2.2))) = recL P → X 204 0 0 [.ref 55] [] N := by
    intro N K hN hO hk hv
    have hWN := hN.1.fix hW
    refine l204 _ _ _ _ _ ⟨rfl, vX13_sayRecord_204 hWN (c_say hWN hO (by omega) 32 (fun N1 h1 o1 => vkX13_sayRecord_210 (h1.1.fix hWN) ?_))⟩
    have hM1 := hN.tr h1
    have hW1 := hM1.1.fix hW
    have dl := dcL_len P.2.2.2.2.1
    rw [at67 N1 hM1]
    refine c_sayNumber hW1 o1 (by simp; omega) hc (fun N2 h2 o2 => vkX13_sayRecord_221 (h2.1.fix hW1) ?_)
    have hM2 := hM1.tr h2
    have hW2 := hM2.1.fix hW
    refine c_say hW2 o2 (by simp; omega) 32 (fun N3 h3 o3 => vkX13_sayRecord_227 (h3.1.fix hW2) ?_)
    have hM3 := hM2.tr h3
    have hW3 := hM3.1.fix hW
    rw [at68 N3 hM3]
    refine c_sayNumber hW3 o3 (by simp; omega) hn (fun N4 h4 o4 => vkX13_sayRecord_238 (h4.1.fix hW3) (hq N4 (hM3.tr h4) ?_))
    rw [← hv]
    simpa [List.append_assoc] using o4
  have f144 : ∀ N K, soF M N → rOut N K → K.length < 85 → K ++ ([32] ++ (epO P ++ ([32] ++ (dcL P.2.2.2.2.1 ++ ([32] ++ dcL P.2.2.2.2.2))))) = recL P → X 144 0 0 [.ref 55] [] N := by
    intro N K hN hO hk hv
    have hWN := hN.1.fix hW
    refine l144 _ _ _ _ _ ⟨rfl, vX13_sayRecord_144 hWN (c_say hWN hO (by omega) 32 (fun N1 h1 o1 => vkX13_sayRecord_150 (h1.1.fix hWN) ?_))⟩
    have hM1 := hN.tr h1
    have hW1 := hM1.1.fix hW
    rw [at66 N1 hM1]
    by_cases hp : P.2.2.2.1 < 8
    · have ep : pI P.2.2.2.1 = nI P.2.2.2.1 := by unfold pI; rw [if_pos hp]
      have eE : epO P = [97 + P.2.2.2.1, if P.2.1 = 0 then 54 else 51] := by unfold epO; rw [if_pos hp]
      rw [ep]
      have e0 := nI_leI (a := 0) (b := P.2.2.2.1) (by decide) (by omega)
      refine ⟨fun _ => ?_, fun d => absurd (e0.mpr (by omega)) d⟩
      rw [show (97 : Int32) + nI P.2.2.2.1 = nI (97 + P.2.2.2.1) from nI_add 97 _]
      refine c_say hW1 o1 (by simp; omega) _ (fun N2 h2 o2 => vkX13_sayRecord_183 (h2.1.fix hW1) ?_)
      have hM2 := hM1.tr h2
      have hW2 := hM2.1.fix hW
      rw [at64 N2 hM2]
      have es := nI_eq (a := P.2.1) (b := 0) (by omega) (by decide)
      have f201 : ∀ v, v = (if P.2.1 = 0 then 54 else 51) → X 201 0 0 [.ref 55] [.int (nI v), .ref 55] N2 := by
        intro v hvv
        refine l201 _ _ _ _ _ ⟨rfl, vX13_sayRecord_201 hW2 (c_say hW2 o2 (by simp; omega) v (fun N3 h3 o3 => vkX13_sayRecord_204 (h3.1.fix hW2) (f204 N3 _ (hM2.tr h3) o3 (by simp; omega) ?_)))⟩
        rw [← hv, eE, hvv]
        simp [List.append_assoc]
      exact ⟨fun d => f201 54 (by rw [if_pos (es.mp d)]), fun d => f201 51 (by rw [if_neg (fun q => d (es.mpr q))])⟩
    · have ep : pI P.2.2.2.1 = -1 := by unfold pI; rw [if_neg hp]
      have eE : epO P = [45] := by unfold epO; rw [if_neg hp]
      rw [ep]
      refine ⟨fun d => absurd d (by decide), fun _ => c_say hW1 o1 (by simp; omega) 45 (fun N2 h2 o2 => vkX13_sayRecord_166 (h2.1.fix hW1) (f204 N2 _ (hM1.tr h2) o2 (by simp; omega) ?_))⟩
      rw [← hv, eE]
      simp [List.append_assoc]
  have rloop : ∀ (j k : Nat) (N : zM) (K : List Nat), k + j = 4 → soF M N → rOut N K → K.length + j < 84 → K ++ (rtO P.2.2.1 j ++ ([32] ++ (epO P ++ ([32] ++ (dcL P.2.2.2.2.1 ++ ([32] ++ dcL P.2.2.2.2.2)))))) = recL P → X 67 0 0 [.ref 55, .int (nI k)] [] N := by
    intro j
    induction j with
    | zero =>
      intro k N K hk hN hO hl hv
      obtain rfl : k = 4 := by omega
      have hWN := hN.1.fix hW
      refine l67 _ _ _ _ _ ⟨rfl, vX13_sayRecord_67 hWN ?_⟩
      rw [at65 N hN]
      have e0 := nI_eq (a := P.2.2.1) (b := 0) (by omega) (by decide)
      refine ⟨fun _ => ⟨fun d => c_say hWN hO (by omega) 45 (fun N1 h1 o1 => vkX13_sayRecord_144 (h1.1.fix hWN) (f144 N1 _ (hN.tr h1) o1 (by simp; omega) ?_)), fun d => f144 N K hN hO (by omega) ?_⟩, fun d => absurd (by decide) d⟩
      · rw [← hv]
        unfold rtO
        rw [if_pos (e0.mp d)]
        simp [List.append_assoc]
      · rw [← hv]
        unfold rtO
        rw [if_neg (fun q => d (e0.mpr q))]
        simp
    | succ j ih =>
      intro k N K hk hN hO hl hv
      have hWN := hN.1.fix hW
      have hk3 : 3 - j = k := by omega
      have f122 : ∀ N' K', soF M N' → rOut N' K' → K'.length + j < 84 → K' = K ++ (if P.2.2.1 / 2 ^ k % 2 = 1 then [rtL k] else []) → X 122 0 0 [.ref 55, .int (nI k)] [] N' := by
        intro N' K' hN' hO' hl' he
        refine l122 _ _ _ _ _ ⟨rfl, vX13_sayRecord_122 (hN'.1.fix hW) ?_⟩
        rw [nI_1]
        refine ih (k + 1) N' K' (by omega) hN' hO' hl' ?_
        rw [he, ← hv]
        conv => rhs; unfold rtO
        rw [hk3, List.append_assoc, List.append_assoc]
      have f119 : ∀ v, v = rtL k → P.2.2.1 / 2 ^ k % 2 = 1 → X 119 0 0 [.ref 55, .int (nI k)] [.int (nI v), .ref 55] N := by
        intro v hvv hb
        refine l119 _ _ _ _ _ ⟨rfl, vX13_sayRecord_119 hWN (c_say hWN hO (by omega) v (fun N1 h1 o1 => vkX13_sayRecord_122 (h1.1.fix hWN) (f122 N1 _ (hN.tr h1) o1 (by simp; omega) ?_)))⟩
        rw [if_pos hb, hvv]
      refine l67 _ _ _ _ _ ⟨rfl, vX13_sayRecord_67 hWN ?_⟩
      rw [at65 N hN]
      have eb := shr_bit P.2.2.1 r16 k (by omega)
      have e4 := nI_leI (a := 4) (b := k) (by decide) (by omega)
      have k0 := nI_eq (a := k) (b := 0) (by omega) (by decide)
      have k1 := nI_eq (a := k) (b := 1) (by omega) (by decide)
      have k2 := nI_eq (a := k) (b := 2) (by omega) (by decide)
      have hrt := rtL_eq k (by omega)
      refine ⟨fun d => absurd (e4.mp d) (by omega), fun _ => ⟨fun d => ?_, fun d => f122 N K hN hO (by omega) ?_⟩⟩
      · have hb := eb.mp d
        refine ⟨fun y => f119 75 ?_ hb, fun y => ⟨fun u => f119 81 ?_ hb, fun u => ⟨fun w => f119 107 ?_ hb, fun w => f119 113 ?_ hb⟩⟩⟩
        · rw [hrt, if_pos (k0.mp y)]
        · rw [hrt, if_neg (fun q => y (k0.mpr q)), if_pos (k1.mp u)]
        · rw [hrt, if_neg (fun q => y (k0.mpr q)), if_neg (fun q => u (k1.mpr q)), if_pos (k2.mp w)]
        · rw [hrt, if_neg (fun q => y (k0.mpr q)), if_neg (fun q => u (k1.mpr q)), if_neg (fun q => w (k2.mpr q))]
      · rw [if_neg (fun q => d (eb.mpr q)), List.append_nil]
  have f56 : ∀ N K v, v = (if P.2.1 = 0 then 119 else 98) → soF M N → rOut N K → K.length < 75 → K ++ ([if P.2.1 = 0 then 119 else 98] ++ ([32] ++ (rtO P.2.2.1 4 ++ ([32] ++ (epO P ++ ([32] ++ (dcL P.2.2.2.2.1 ++ ([32] ++ dcL P.2.2.2.2.2)))))))) = recL P → X 56 0 0 [.ref 55] [.int (nI v), .ref 55] N := by
    intro N K v hvv hN hO hl hv
    have hWN := hN.1.fix hW
    refine l56 _ _ _ _ _ ⟨rfl, vX13_sayRecord_56 hWN (c_say hWN hO (by omega) v (fun N1 h1 o1 => vkX13_sayRecord_59 (h1.1.fix hWN) (c_say (h1.1.fix hWN) o1 (by simp; omega) 32 (fun N2 h2 o2 => vkX13_sayRecord_65 (h2.1.fix (h1.1.fix hWN)) (rloop 4 0 N2 _ rfl ((hN.tr h1).tr h2) o2 (by simp; omega) ?_)))))⟩
    rw [← hv, hvv]
    simp [List.append_assoc]
  have bloop : ∀ (r : Nat) (N : zM) (K : List Nat), r ≤ 8 → soF M N → rOut N K → K.length + 9 * r ≤ 72 → K ++ (rksO P.1 r ++ ([if P.2.1 = 0 then 119 else 98] ++ ([32] ++ (rtO P.2.2.1 4 ++ ([32] ++ (epO P ++ ([32] ++ (dcL P.2.2.2.2.1 ++ ([32] ++ dcL P.2.2.2.2.2))))))))) = recL P → X 8 0 0 [.ref 55, .int (nI r + (-1))] [] N := by
    intro r
    induction r with
    | zero =>
      intro N K hr hN hO hl hv
      have hWN := hN.1.fix hW
      refine l8 _ _ _ _ _ ⟨rfl, vX13_sayRecord_8 hWN ⟨fun _ => ?_, fun d => absurd (by decide) d⟩⟩
      rw [at64 N hN]
      have es := nI_eq (a := P.2.1) (b := 0) (by omega) (by decide)
      have hv' : K ++ ([if P.2.1 = 0 then 119 else 98] ++ ([32] ++ (rtO P.2.2.1 4 ++ ([32] ++ (epO P ++ ([32] ++ (dcL P.2.2.2.2.1 ++ ([32] ++ dcL P.2.2.2.2.2)))))))) = recL P := hv
      exact ⟨fun d => f56 N K 119 (by rw [if_pos (es.mp d)]) hN hO (by omega) hv', fun d => f56 N K 98 (by rw [if_neg (fun q => d (es.mpr q))]) hN hO (by omega) hv'⟩
    | succ r ih =>
      intro N K hr hN hO hl hv
      have hWN := hN.1.fix hW
      rw [pk_m1]
      have e0 := nI_ltI (a := r) (b := 0) (by omega) (by decide)
      have hkl := rkO_len P.1 r 8 0 0
      rw [if_neg (by omega)] at hkl
      refine l8 _ _ _ _ _ ⟨rfl, vX13_sayRecord_8 hWN ⟨fun d => absurd (e0.mp d) (by omega), fun _ => c_sayRank hWN (hN.ps hP) hO (by omega) (by omega) (fun N1 h1 o1 => vkX13_sayRecord_17 (h1.1.fix hWN) ?_)⟩⟩
      have hM1 := hN.tr h1
      have hW1 := hM1.1.fix hW
      have er := nI_leI (a := r) (b := 0) (by omega) (by decide)
      have f29 : ∀ v, v = (if 0 < r then 47 else 32) → X 29 0 0 [.ref 55, .int (nI r)] [.int (nI v), .ref 55] N1 := by
        intro v hvv
        refine l29 _ _ _ _ _ ⟨rfl, vX13_sayRecord_29 hW1 (c_say hW1 o1 (by simp; omega) v (fun N2 h2 o2 => vkX13_sayRecord_32 (h2.1.fix hW1) (ih N2 _ (by omega) (hM1.tr h2) o2 (by simp; omega) ?_)))⟩
        rw [← hv, hvv]
        conv => rhs; unfold rksO
        simp only [List.append_assoc]
      refine ⟨fun d => f29 32 ?_, fun d => f29 47 ?_⟩
      · rw [if_neg (by have := er.mp d; omega)]
      · rw [if_pos (by
          have : ¬ r ≤ 0 := fun q => d (er.mpr q)
          omega)]
  refine l0 _ _ _ _ _ ⟨rfl, vX13_sayRecord_0 hW (fun N e => ?_)⟩
  have hN : soF M N := by rw [e]; exact ⟨zSm.I (by decide), fun j hj => zsI_n hj⟩
  have hO : rOut N [] := ⟨by rw [e, zsI_s]; rfl, fun k v h => by simp at h⟩
  have z := bloop 8 N [] (Nat.le_refl _) hN hO (by decide) rfl
  rw [pk_m1] at z
  exact z
theorem epO_len (P : Ps) : (epO P).length ≤ 2 := by
  unfold epO
  split <;> simp
theorem recL_len (P : Ps) : (recL P).length ≤ 100 := by
  unfold recL
  have h0 := epO_len P
  have h1 := rksO_len P.1 8
  have h2 := rtO_len P.2.2.1 4
  have h3 := dcL_len P.2.2.2.2.1
  have h4 := dcL_len P.2.2.2.2.2
  have h5 : (rtO P.2.2.1 4).length ≤ 5 := by split at h2 <;> omega
  simp
  omega
theorem dcL_lt (v : Nat) : ∀ x ∈ dcL v, x < 256 := by
  have h : ∀ n, 48 + n % 10 < 256 := fun n => by have := Nat.mod_lt n (show 0 < 10 by decide); omega
  intro x hx
  unfold dcL at hx
  split at hx
  · rw [List.mem_singleton.mp hx]; omega
  split at hx
  · simp at hx
    rcases hx with q | q <;> rw [q] <;> exact h _
  split at hx
  · simp at hx
    rcases hx with q | q | q <;> rw [q] <;> exact h _
  split at hx
  · simp at hx
    rcases hx with q | q | q | q <;> rw [q] <;> exact h _
  · simp at hx
    rcases hx with q | q | q | q | q <;> rw [q] <;> exact h _
theorem rkO_lt (B : Nat → Nat) (rank : Nat) : ∀ r f e, e + r ≤ 100 → ∀ x ∈ rkO B rank r f e, x < 256
  | 0, f, e, h, x, hx => by
    unfold rkO at hx
    split at hx
    · rw [List.mem_singleton.mp hx]; omega
    · exact absurd hx List.not_mem_nil
  | r + 1, f, e, h, x, hx => by
    unfold rkO at hx
    split at hx
    · rcases List.mem_append.mp hx with q | q
      · split at q
        · rw [List.mem_singleton.mp q]; omega
        · exact absurd q List.not_mem_nil
      · rcases List.mem_append.mp q with q | q
        · rw [List.mem_singleton.mp q]; exact ltr_lt _
        · exact rkO_lt B rank r (f + 1) 0 (by omega) x q
    · exact rkO_lt B rank r (f + 1) (e + 1) (by omega) x hx
theorem rksO_lt (B : Nat → Nat) : ∀ r, ∀ x ∈ rksO B r, x < 256
  | 0, x, hx => absurd hx List.not_mem_nil
  | r + 1, x, hx => by
    unfold rksO at hx
    rcases List.mem_append.mp hx with q | q
    · exact rkO_lt B r 8 0 0 (by omega) x q
    · rcases List.mem_append.mp q with q | q
      · rw [List.mem_singleton.mp q]; split <;> omega
      · exact rksO_lt B r x q
theorem rtO_lt (r : Nat) : ∀ j, ∀ x ∈ rtO r j, x < 256
  | 0, x, hx => by
    unfold rtO at hx
    split at hx
    · rw [List.mem_singleton.mp hx]; omega
    · exact absurd hx List.not_mem_nil
  | j + 1, x, hx => by
    unfold rtO at hx
    rcases List.mem_append.mp hx with q | q
    · split at q
      · rw [List.mem_singleton.mp q]
        unfold rtL
        split
        · omega
        split
        · omega
        split <;> omega
      · exact absurd q List.not_mem_nil
    · exact rtO_lt r j x q
theorem recL_lt {P : Ps} (x : Nat) (hx : x ∈ recL P) : x < 256 := by
  unfold recL at hx
  simp only [List.mem_append, List.mem_singleton] at hx
  rcases hx with q | q | q | q | q | q | q | q | q | q
  · exact rksO_lt _ _ x q
  · rw [q]; split <;> omega
  · omega
  · exact rtO_lt _ _ x q
  · omega
  · unfold epO at q
    split at q
    · simp at q
      rcases q with q | q
      · omega
      · rw [q]; split <;> omega
    · rw [List.mem_singleton.mp q]; omega
  · omega
  · exact dcL_lt _ x q
  · omega
  · exact dcL_lt _ x q
noncomputable def rcA (A : Ah) (z : Int) : Nat := if aTh A = false ∨ z < 0 ∨ 20 < z then 0 else pk8 (recL (lst (aG A))) (8 * z.toNat) 8
set_option maxHeartbeats 4000000 in
theorem r_recordAt {mc ms : Nat} {M : zM} {A : Ah} (hR : rRef M A) (hO : aOk A) {z : Int} (hz : i32 z) {Q : zQt} (hq : ∀ N, rKp M N → N.1 55 0 = 0 → Q (some (.long (jN (rcA A z)))) N) : wX13_recordAt mc ms [.ref 55, .int (iI z)] M Q := by
  have hW := hR.1
  refine ⟨⟨Nat.le_of_ble_eq_true rfl, rfl⟩, fun X l0 l22 => ?_⟩
  refine l0 _ _ _ _ _ ⟨rfl, vX13_recordAt_0 hW (fun N e => ?_)⟩
  have n0 : N.1 55 0 = 0 := by rw [e, zsI_s]
  have k : rKp M N := by rw [e]; exact rKp.slot (by omega)
  have hRN := k.ref hR
  have f22 : (aTh A = false ∨ z < 0 ∨ 20 < z) → X 22 0 0 [] [] N := by
    intro h
    have z2 := hq N k n0
    unfold rcA at z2
    rw [if_pos h] at z2
    exact l22 _ _ _ _ _ ⟨rfl, vX13_recordAt_22 hRN.1 z2⟩
  rw [hRN.2.2.2.1]
  have ez : iI z < 0 ↔ z < 0 := iz_lt hz (n := 0) (by omega)
  have el : iI z ≤ 20 ↔ z ≤ 20 := iz_le hz (n := 20) (by omega)
  refine ⟨fun d => f22 (Or.inl (bI_0.mp d)), fun d => ⟨fun w => f22 (Or.inr (Or.inl (ez.mp w))), fun w => ⟨fun y => ?_, fun y => f22 (Or.inr (Or.inr ?_))⟩⟩⟩
  · have ht := bI_n.mp d
    have z0 : ¬ z < 0 := fun q => w (ez.mpr q)
    have z1 := el.mp y
    have hok := hO.2.2.1 ht
    have hC := hok.last.2
    have h6 := hok.2.1
    refine r_show hRN hO ht (fun K hK hS => ?_)
    have kK : rKp M K := k.tr (rKp.of hK (by decide))
    have hWK := kK.1.fix hW
    refine vkX13_recordAt_28 hWK (c_sayRecord hWK hS.1 (by have := hC.1; omega) (by have := hC.2; omega) (fun K2 h2 o2 => ?_))
    have hW2 := h2.1.fix hWK
    refine vkX13_recordAt_32 hW2 ?_
    rw [iz_nat (by omega), show (8 : Int32) * nI z.toNat = nI (8 * z.toNat) from pk_mul 8 _]
    refine c_packed hW2 o2 (recL_len _) recL_lt (by omega) (vkX13_recordAt_40 hW2 ?_)
    have z2 := hq K2 (kK.tr h2.sg.kp) (by rw [h2.2 0 (by decide), hK.i (by decide)]; exact n0)
    unfold rcA at z2
    rw [if_neg] at z2
    · exact z2
    · rintro (q | q | q)
      · rw [ht] at q; exact absurd q (by decide)
      · omega
      · omega
  · have : ¬ z ≤ 20 := fun q => y (el.mpr q)
    omega
