/-! THE REFERENCE'S recordAt -/
def dcL (v : Nat) : List Nat := if v < 10 then [48 + v] else if v < 100 then [48 + v / 10 % 10, 48 + v % 10] else if v < 1000 then [48 + v / 100 % 10, 48 + v / 10 % 10, 48 + v % 10] else if v < 10000 then [48 + v / 1000 % 10, 48 + v / 100 % 10, 48 + v / 10 % 10, 48 + v % 10] else [48 + v / 10000 % 10, 48 + v / 1000 % 10, 48 + v / 100 % 10, 48 + v / 10 % 10, 48 + v % 10]
theorem dcL_len (v : Nat) : (dcL v).length ≤ 5 := by
  unfold dcL
  split
  · simp
  split
  · simp
  split
  · simp
  split
  · simp
  · simp
theorem soF.ps {M N : zM} (h : soF M N) {P : Ps} {p : Nat} (hP : rPs M p P) : rPs N p P := by
  unfold rPs rBd at hP ⊢
  rw [h.1.i (by decide)]
  exact hP
set_option maxHeartbeats 4000000 in
theorem c_sayNumber {mc ms : Nat} {M : zM} (hW : zFix M) {L : List Nat} (hL : rOut M L) (hl : L.length < 95) {v : Nat} (hv : v < 100000) {Q : zQt} (hq : ∀ N, soF M N → rOut N (L ++ dcL v) → Q none N) : wX13_sayNumber mc ms [.ref 55, .int (nI v)] M Q := by
  refine ⟨⟨Nat.le_of_ble_eq_true rfl, rfl⟩, fun X l0 l2 l20 => ?_⟩
  have f20z : ∀ N K, soF M N → rOut N K → K = L ++ dcL v → X 20 0 0 [.ref 55, .int (nI v), .int (nI 0)] [] N := by
    intro N K hN hO e
    refine l20 _ _ _ _ _ ⟨rfl, vX13_sayNumber_20 (hN.1.fix hW) ⟨fun _ => hq N hN (by rw [← e]; exact hO), fun d => absurd (by decide) d⟩⟩
  have step : ∀ (u u' : Nat) (N : zM) (K : List Nat), 0 < u → u < 100000 → u / 10 = u' → soF M N → rOut N K → K.length < 100 → (∀ N', soF M N' → rOut N' (K ++ [48 + v / u % 10]) → X 20 0 0 [.ref 55, .int (nI v), .int (nI u')] [] N') → X 20 0 0 [.ref 55, .int (nI v), .int (nI u)] [] N := by
    intro u u' N K hu hu2 hu' hN hO hK hnext
    have hWN := hN.1.fix hW
    have e0 := nI_leI (a := u) (b := 0) (by omega) (by decide)
    refine l20 _ _ _ _ _ ⟨rfl, vX13_sayNumber_20 hWN ⟨fun d => absurd (e0.mp d) (by omega), fun _ => ⟨fun d => ?_, ?_⟩⟩⟩
    · have := (nI_eq (a := u) (b := 0) (by omega) (by decide)).mp d
      omega
    · have hq2 : v / u < 100000 := Nat.lt_of_le_of_lt (Nat.div_le_self _ _) hv
      rw [show nI v / nI u = nI (v / u) from pk_div (by omega) hu (by omega), show nI (v / u) - nI (v / u) / (10 : Int32) * (10 : Int32) = nI (v / u % 10) from nI_mod (by omega) (by decide) (by decide), show (48 : Int32) + nI (v / u % 10) = nI (48 + v / u % 10) from nI_add 48 _]
      refine c_say hWN hO hK _ (fun N' hN' hO' => vkX13_sayNumber_37 (hN'.1.fix hWN) ?_)
      rw [show nI u / (10 : Int32) = nI (u / 10) from pk_div (by omega) (by decide) (by decide), hu']
      exact hnext N' (hN.tr hN') hO'
  have s1 : ∀ N K, soF M N → rOut N K → K.length < 100 → K ++ [48 + v % 10] = L ++ dcL v → X 20 0 0 [.ref 55, .int (nI v), .int (nI 1)] [] N := fun N K hN hO hK e => step 1 0 N K (by decide) (by decide) rfl hN hO hK (fun N' hN' hO' => f20z N' _ hN' hO' (by rw [Nat.div_one]; exact e))
  have s2 : ∀ N K, soF M N → rOut N K → K.length < 99 → K ++ [48 + v / 10 % 10, 48 + v % 10] = L ++ dcL v → X 20 0 0 [.ref 55, .int (nI v), .int (nI 10)] [] N := fun N K hN hO hK e => step 10 1 N K (by decide) (by decide) rfl hN hO (by omega) (fun N' hN' hO' => s1 N' _ hN' hO' (by simp; omega) (by rw [List.append_assoc]; exact e))
  have s3 : ∀ N K, soF M N → rOut N K → K.length < 98 → K ++ [48 + v / 100 % 10, 48 + v / 10 % 10, 48 + v % 10] = L ++ dcL v → X 20 0 0 [.ref 55, .int (nI v), .int (nI 100)] [] N := fun N K hN hO hK e => step 100 10 N K (by decide) (by decide) rfl hN hO (by omega) (fun N' hN' hO' => s2 N' _ hN' hO' (by simp; omega) (by rw [List.append_assoc]; exact e))
  have s4 : ∀ N K, soF M N → rOut N K → K.length < 97 → K ++ [48 + v / 1000 % 10, 48 + v / 100 % 10, 48 + v / 10 % 10, 48 + v % 10] = L ++ dcL v → X 20 0 0 [.ref 55, .int (nI v), .int (nI 1000)] [] N := fun N K hN hO hK e => step 1000 100 N K (by decide) (by decide) rfl hN hO (by omega) (fun N' hN' hO' => s3 N' _ hN' hO' (by simp; omega) (by rw [List.append_assoc]; exact e))
  have s5 : ∀ N K, soF M N → rOut N K → K.length < 96 → K ++ [48 + v / 10000 % 10, 48 + v / 1000 % 10, 48 + v / 100 % 10, 48 + v / 10 % 10, 48 + v % 10] = L ++ dcL v → X 20 0 0 [.ref 55, .int (nI v), .int (nI 10000)] [] N := fun N K hN hO hK e => step 10000 1000 N K (by decide) (by decide) rfl hN hO (by omega) (fun N' hN' hO' => s4 N' _ hN' hO' (by simp; omega) (by rw [List.append_assoc]; exact e))
  have g : ∀ (u : Nat), 0 < u → u ≤ 10000 → (v / u ≤ 9 → X 20 0 0 [.ref 55, .int (nI v), .int (nI u)] [] M) → (¬ v / u ≤ 9 → X 2 0 0 [.ref 55, .int (nI v), .int (nI (u * 10))] [] M) → X 2 0 0 [.ref 55, .int (nI v), .int (nI u)] [] M := by
    intro u hu hu2 a b
    have hq2 : v / u < 100000 := Nat.lt_of_le_of_lt (Nat.div_le_self _ _) hv
    refine l2 _ _ _ _ _ ⟨rfl, vX13_sayNumber_2 hW ⟨fun d => ?_, ?_⟩⟩
    · have := (nI_eq (a := u) (b := 0) (by omega) (by decide)).mp d
      omega
    · rw [show nI v / nI u = nI (v / u) from pk_div (by omega) hu (by omega), show nI u * (10 : Int32) = nI (u * 10) from pk_mul u 10]
      have e9 := nI_leI (a := v / u) (b := 9) (by omega) (by decide)
      exact ⟨fun d => a (e9.mp d), fun d => b (fun q => d (e9.mpr q))⟩
  refine l0 _ _ _ _ _ ⟨rfl, vX13_sayNumber_0 hW ?_⟩
  refine g 1 (by decide) (by decide) (fun h => s1 M L soF.rf hL (by omega) ?_) (fun h1 => g 10 (by decide) (by decide) (fun h => s2 M L soF.rf hL (by omega) ?_) (fun h2 => g 100 (by decide) (by decide) (fun h => s3 M L soF.rf hL (by omega) ?_) (fun h3 => g 1000 (by decide) (by decide) (fun h => s4 M L soF.rf hL (by omega) ?_) (fun h4 => g 10000 (by decide) (by decide) (fun h => s5 M L soF.rf hL (by omega) ?_) (fun h5 => absurd ?_ h5)))))
  · congr 1
    unfold dcL
    rw [if_pos (by omega), Nat.mod_eq_of_lt (by omega)]
  · congr 1
    unfold dcL
    rw [if_neg (by omega), if_pos (by omega)]
  · congr 1
    unfold dcL
    rw [if_neg (by omega), if_neg (by omega), if_pos (by omega)]
  · congr 1
    unfold dcL
    rw [if_neg (by omega), if_neg (by omega), if_neg (by omega), if_pos (by omega)]
  · congr 1
    unfold dcL
    rw [if_neg (by omega), if_neg (by omega), if_neg (by omega), if_neg (by omega)]
  · omega
/-- a rank's signs -/
def rkO (B : Nat → Nat) (rank : Nat) : Nat → Nat → Nat → List Nat
  | 0, _, e => if 0 < e then [48 + e] else []
  | r + 1, f, e => if 0 < B (8 * rank + f) then (if 0 < e then [48 + e] else []) ++ ([ltr (B (8 * rank + f))] ++ rkO B rank r (f + 1) 0) else rkO B rank r (f + 1) (e + 1)
theorem rkO_len (B : Nat → Nat) (rank : Nat) : ∀ r f e, (rkO B rank r f e).length ≤ r + (if 0 < e then 1 else 0)
  | 0, f, e => by
    unfold rkO
    split <;> simp
  | r + 1, f, e => by
    unfold rkO
    split
    · have := rkO_len B rank r (f + 1) 0
      rw [if_neg (by omega)] at this
      split <;> simp <;> omega
    · have := rkO_len B rank r (f + 1) (e + 1)
      rw [if_pos (by omega)] at this
      split <;> omega
set_option maxHeartbeats 4000000 in
theorem c_sayRank {mc ms : Nat} {M : zM} (hW : zFix M) {P : Ps} (hP : rPs M 0 P) {L : List Nat} (hL : rOut M L) (hl : L.length < 90) {rank : Nat} (hr : rank < 8) {Q : zQt} (hq : ∀ N, soF M N → rOut N (L ++ rkO P.1 rank 8 0 0) → Q none N) : wX13_sayRank mc ms [.ref 55, .int (nI rank)] M Q := by
  refine ⟨⟨Nat.le_of_ble_eq_true rfl, rfl⟩, fun X l0 l4 l40 l54 l66 l85 => ?_⟩
  have f85 : ∀ N K, soF M N → rOut N K → K = L ++ rkO P.1 rank 8 0 0 → X 85 0 0 [] [] N := fun N K hN hO e => l85 _ _ _ _ _ ⟨rfl, vX13_sayRank_85 (hN.1.fix hW) (hq N hN (by rw [← e]; exact hO))⟩
  have loop : ∀ (r f e : Nat) (N : zM) (K : List Nat), f + r = 8 → e ≤ f → soF M N → rOut N K → K.length + r + (if 0 < e then 1 else 0) < 100 → K ++ rkO P.1 rank r f e = L ++ rkO P.1 rank 8 0 0 → X 4 0 0 [.ref 55, .int (nI rank), .int (nI e), .int (nI f)] [] N := by
    intro r
    induction r with
    | zero =>
      intro f e N K hf he hN hO hk hv
      obtain rfl : f = 8 := by omega
      have hWN := hN.1.fix hW
      have e0 := nI_leI (a := e) (b := 0) (by omega) (by decide)
      refine l4 _ _ _ _ _ ⟨rfl, vX13_sayRank_4 hWN ⟨fun _ => ⟨fun d => f85 N K hN hO ?_, fun d => ?_⟩, fun d => absurd (by decide) d⟩⟩
      · have := e0.mp d
        rw [← hv]
        unfold rkO
        rw [if_neg (by omega), List.append_nil]
      · have : ¬ e ≤ 0 := fun q => d (e0.mpr q)
        rw [show (48 : Int32) + nI e = nI (48 + e) from nI_add 48 _]
        refine c_say hWN hO (by omega) _ (fun N' hN' hO' => vkX13_sayRank_85 (hN'.1.fix hWN) (f85 N' _ (hN.tr hN') hO' ?_))
        rw [← hv]
        unfold rkO
        rw [if_pos (by omega)]
    | succ r ih =>
      intro f e N K hf he hN hO hk hv
      have hWN := hN.1.fix hW
      obtain ⟨b1, b12⟩ := (hN.ps hP).1 (8 * rank + f) (by omega)
      rw [Nat.zero_add] at b1
      have em := nI_leI (a := P.1 (8 * rank + f)) (b := 0) (by omega) (by decide)
      have e0 := nI_leI (a := e) (b := 0) (by omega) (by decide)
      have e8 := nI_leI (a := 8) (b := f) (by decide) (by omega)
      have f66 : ∀ (e' : Nat) (N' : zM) (K' : List Nat), e' ≤ f + 1 → soF M N' → rOut N' K' → K'.length + r + (if 0 < e' then 1 else 0) < 100 → K' ++ rkO P.1 rank r (f + 1) e' = L ++ rkO P.1 rank 8 0 0 → X 66 0 0 [.ref 55, .int (nI rank), .int (nI f)] [.int (nI e')] N' := by
        intro e' N' K' he' hN' hO' hk' hv'
        refine l66 _ _ _ _ _ ⟨rfl, vX13_sayRank_66 (hN'.1.fix hW) ?_⟩
        rw [nI_1]
        exact ih (f + 1) e' N' K' (by omega) he' hN' hO' hk' hv'
      have f40 : ∀ (N' : zM) (K' : List Nat), soF M N' → rOut N' K' → K'.length + (r + 1) < 100 → (0 < P.1 (8 * rank + f) → K' = K ++ (if 0 < e then [48 + e] else [])) → (¬ 0 < P.1 (8 * rank + f) → K' = K) → X 40 0 0 [.ref 55, .int (nI rank), .int (nI e), .int (nI f), .int (nI (P.1 (8 * rank + f)))] [] N' := by
        intro N' K' hN' hO' hk' hy hn
        have hWN' := hN'.1.fix hW
        refine l40 _ _ _ _ _ ⟨rfl, vX13_sayRank_40 hWN' ⟨fun d => ?_, fun d => ?_⟩⟩
        · have h0 := em.mp d
          refine l54 _ _ _ _ _ ⟨rfl, vX13_sayRank_54 hWN' ⟨fun _ => ?_, fun w => absurd d w⟩⟩
          rw [show nI e + (1 : Int32) = nI (e + 1) from nI_1 e]
          refine f66 (e + 1) N' K' (by omega) hN' hO' (by rw [if_pos (by omega)]; omega) ?_
          rw [hn (by omega), ← hv]
          conv => rhs; unfold rkO
          rw [if_neg (by omega)]
        · have h0 : 0 < P.1 (8 * rank + f) := by
            have : ¬ P.1 (8 * rank + f) ≤ 0 := fun q => d (em.mpr q)
            omega
          refine c_letter hWN' _ (by omega) (vkX13_sayRank_51 hWN' (c_say hWN' hO' (by omega) _ (fun N2 hN2 hO2 => vkX13_sayRank_54 (hN2.1.fix hWN') (l54 _ _ _ _ _ ⟨rfl, vX13_sayRank_54 (hN2.1.fix hWN') ⟨fun w => absurd w d, fun _ => ?_⟩⟩))))
          refine f66 0 N2 _ (by omega) (hN'.tr hN2) hO2 (by rw [if_neg (by omega), List.length_append]; simp; omega) ?_
          rw [hy h0, ← hv]
          conv => rhs; unfold rkO
          rw [if_pos h0, List.append_assoc, List.append_assoc]
      refine l4 _ _ _ _ _ ⟨rfl, vX13_sayRank_4 hWN ⟨fun d => absurd (e8.mp d) (by omega), fun _ => ?_⟩⟩
      rw [show (8 : Int32) * nI rank = nI (8 * rank) from pk_mul 8 _, nI_add, nI_clamp (by omega)]
      refine ⟨vp_in_nI (by omega) (by omega), fun y ey => ?_⟩
      rw [b1] at ey
      subst ey
      refine ⟨fun d => f40 N K hN hO (by omega) (fun q => by have := em.mp d; omega) (fun _ => rfl), fun d => ⟨fun d2 => f40 N K hN hO (by omega) (fun _ => ?_) (fun _ => rfl), fun d2 => ?_⟩⟩
      · have := e0.mp d2
        rw [if_neg (by omega), List.append_nil]
      · have h0 : 0 < P.1 (8 * rank + f) := by
          have : ¬ P.1 (8 * rank + f) ≤ 0 := fun q => d (em.mpr q)
          omega
        have he0 : 0 < e := by
          have : ¬ e ≤ 0 := fun q => d2 (e0.mpr q)
          omega
        rw [if_pos he0] at hk
        rw [show (48 : Int32) + nI e = nI (48 + e) from nI_add 48 _]
        refine c_say hWN hO (by omega) _ (fun N' hN' hO' => vkX13_sayRank_40 (hN'.1.fix hWN) (f40 N' _ (hN.tr hN') hO' (by simp; omega) (fun _ => ?_) (fun q => absurd h0 q)))
        rw [if_pos he0]
  exact l0 _ _ _ _ _ ⟨rfl, vX13_sayRank_0 hW (loop 8 0 0 M L rfl (Nat.le_refl _) soF.rf hL (by rw [if_neg (by omega)]; omega) rfl)⟩
