/-! THE REFERENCE'S ENDINGS: what a question needs is worked out -/
def uC (kn : Nat → Bool) : Nat := (if kn 1 = true then 0 else 1) + (if kn 2 = true then 0 else 1) + (if kn 3 = true then 0 else 1) + (if kn 4 = true then 0 else 1) + (if kn 5 = true then 0 else 1)
def vC (kn : Nat → Bool) : Nat := (if kn 1 = true then 0 else 262144) + (if kn 2 = true then 0 else 81920) + (if kn 3 = true then 0 else 81920) + (if kn 4 = true then 0 else 81920) + (if kn 5 = true then 0 else 81920)
theorem eKn.congr {M : zM} {kn kn2 : Nat → Bool} (h : ∀ j, 1 ≤ j → j ≤ 5 → kn j = kn2 j) (g : eKn M kn) : eKn M kn2 := ⟨g.1, fun j a b => by rw [← h j a b]; exact g.2 j a b⟩
theorem uC_congr {kn kn2 : Nat → Bool} (h : ∀ j, 1 ≤ j → j ≤ 5 → kn j = kn2 j) : uC kn = uC kn2 ∧ vC kn = vC kn2 := by
  unfold uC vC
  rw [h 1 (by omega) (by omega), h 2 (by omega) (by omega), h 3 (by omega) (by omega), h 4 (by omega) (by omega), h 5 (by omega) (by omega)]
  exact ⟨rfl, rfl⟩
theorem uC_set {kn : Nat → Bool} {k : Nat} (k1 : 1 ≤ k) (k5 : k ≤ 5) : uC kn = uC (fun j => if j = k then true else kn j) + (if kn k = true then 0 else 1) ∧ vC kn = vC (fun j => if j = k then true else kn j) + (if kn k = true then 0 else 8192 * kSz k) := by
  have ck : k = 1 ∨ k = 2 ∨ k = 3 ∨ k = 4 ∨ k = 5 := by omega
  rcases ck with e | e | e | e | e <;> subst e <;> simp [uC, vC, kSz] <;> omega
def ndd (k j : Nat) : Bool := decide (j = k) || (decide (k = 1) && (decide (2 ≤ j) && decide (j ≤ 5)))
theorem uC_le {kn kn2 : Nat → Bool} (h : ∀ j, 1 ≤ j → j ≤ 5 → kn j = true → kn2 j = true) : uC kn2 ≤ uC kn ∧ vC kn2 ≤ vC kn := by
  have key : ∀ (a b : Bool) (c : Nat), (a = true → b = true) → (if b = true then 0 else c) ≤ (if a = true then 0 else c) := fun a b c h => by
    cases a <;> cases b <;> simp at h ⊢
  have h1 := fun c => key _ _ c (h 1 (by omega) (by omega))
  have h2 := fun c => key _ _ c (h 2 (by omega) (by omega))
  have h3 := fun c => key _ _ c (h 3 (by omega) (by omega))
  have h4 := fun c => key _ _ c (h 4 (by omega) (by omega))
  have h5 := fun c => key _ _ c (h 5 (by omega) (by omega))
  exact ⟨Nat.add_le_add (Nat.add_le_add (Nat.add_le_add (Nat.add_le_add (h1 _) (h2 _)) (h3 _)) (h4 _)) (h5 _), Nat.add_le_add (Nat.add_le_add (Nat.add_le_add (Nat.add_le_add (h1 _) (h2 _)) (h3 _)) (h4 _)) (h5 _)⟩
set_option maxHeartbeats 4000000 in
theorem e_work {mc ms : Nat} {M : zM} (hW : zFix M) {kn : Nat → Bool} (hK : eKn M kn) {k : Nat} (k1 : 1 ≤ k) (k5 : k ≤ 5) {kf : Nat → Bool} (hkf : kf = fun j => kn j || ndd k j) (hmc : uC kn ≤ mc + uC kf) (hms : vC kn ≤ ms + vC kf) {Q : zQt} (hq : ∀ K, xFr eKC M K → eKn K kf → Q none K) : wX12_work mc ms [.ref 71, .int (nI k)] M Q := by
  refine ⟨⟨Nat.le_of_ble_eq_true rfl, rfl⟩, fun X l0 l12 l13 l24 l53 l71 => ?_⟩
  obtain ⟨lo, hlo⟩ : ∃ lo, lo = if k = 1 then 2 else k := ⟨_, rfl⟩
  obtain ⟨hi, hhi⟩ : ∃ hi, hi = if k = 1 then 5 else k := ⟨_, rfl⟩
  have lb : 2 ≤ lo ∧ lo ≤ hi ∧ hi ≤ 5 := by
    rw [hlo, hhi]
    by_cases e : k = 1
    · rw [if_pos e, if_pos e]; omega
    · rw [if_neg e, if_neg e]; omega
  obtain ⟨lb1, lb2, lb3⟩ := lb
  have f71 : ∀ (u v : Nat) (K : zM), xFr eKC M K → eKn K kf → X 71 u v [] [] K := fun u v K a b => l71 _ _ _ _ _ ⟨rfl, hq K a b⟩
  have kmon : ∀ x j, 1 ≤ j → j ≤ 5 → x ≤ hi + 1 → (kn j || (decide (lo ≤ j) && decide (j < x))) = true → kf j = true := by
    intro x j j1 j5 hx h
    rw [hkf]
    show (kn j || ndd k j) = true
    rw [Bool.or_eq_true] at h ⊢
    rcases h with h | h
    · exact Or.inl h
    · rw [Bool.and_eq_true] at h
      have h1 := of_decide_eq_true h.1
      have h2 := of_decide_eq_true h.2
      right
      unfold ndd
      by_cases e : k = 1
      · rw [if_pos e] at hlo hhi
        simp [e]; omega
      · rw [if_neg e] at hlo hhi
        simp; omega
  have loop : ∀ (n x u v : Nat) (b : Int) (K : zM), x + n = hi + 1 → lo ≤ x → xFr eKC M K → eKn K (fun j => kn j || (decide (lo ≤ j) && decide (j < x))) → u + uC (fun j => kn j || (decide (lo ≤ j) && decide (j < x))) ≤ mc + uC kf → v + vC (fun j => kn j || (decide (lo ≤ j) && decide (j < x))) ≤ ms + vC kf → -1 ≤ b → b < 58 → (∀ j s p w sm d, lo ≤ j → j < x → s < 64 → p < 64 → w < 64 → isD j s p w sm d → (d : Int) ≤ b) → X 13 u v [.ref 71, .int (nI k), .int (iI b), .int (nI x)] [] K := by
    intro n
    induction n with
    | zero =>
      intro x u v b K hx hlx hF hE hu hv b1 b2 hb
      have WK := hF.1
      have f24 : X 24 u v [.ref 71, .int (nI k), .int (iI b), .int (nI x)] [.int (nI hi), .int (nI x)] K := by
        refine l24 _ _ _ _ _ ⟨rfl, ⟨fun _ => ⟨fun c => ?_, fun c => ?_⟩, fun c => absurd ((nI_ltI (by omega) (by omega)).mpr (by omega)) c⟩⟩
        · have e : k = 1 := (nI_eq (b := 1) (by omega) (by decide)).mp c
          have hlo2 : lo = 2 := by rw [hlo, if_pos e]
          have hhi5 : hi = 5 := by rw [hhi, if_pos e]
          have x6 : x = 6 := by omega
          have fin : ∀ j, 1 ≤ j → j ≤ 5 → (if j = 1 then true else (kn j || (decide (lo ≤ j) && decide (j < x)))) = kf j := fun j j1 j5 => by
            rw [hkf]
            show _ = (kn j || ndd k j)
            by_cases j1 : j = 1
            · rw [if_pos j1, show ndd k j = true by unfold ndd; simp [e, j1]]; simp
            · rw [if_neg j1, show (decide (lo ≤ j) && decide (j < x)) = true by simp; omega, show ndd k j = true by unfold ndd; simp [e]; omega]
          have us := uC_set (kn := fun j => kn j || (decide (lo ≤ j) && decide (j < x))) (k := 1) (by omega) (by omega)
          have uf := uC_congr fin
          have e1 : (kn 1 || (decide (lo ≤ 1) && decide (1 < x))) = kn 1 := by rw [hlo2]; simp
          simp only [e1] at us
          refine ⟨Nat.le_of_ble_eq_true rfl, rfl, fxs_71 WK, (if kn 1 = true then 0 else 1), (if kn 1 = true then 0 else 8192 * kSz 1), by omega, by omega, ?_⟩
          refine e_rounds WK hE (k := 1) (by omega) (by omega) b1 b2 (fun _ j j2 j5 => ⟨by show (kn j || _) = true; rw [show (decide (lo ≤ j) && decide (j < x)) = true by simp; omega]; simp, fun s p w sm d hs hp hw q => hb j s p w sm d (by omega) (by omega) hs hp hw q⟩) (fun z => ?_) (fun K2 F2 E2 => ?_)
          · have z : kn 1 = false := by rw [← e1]; exact z
            rw [z, if_neg (by decide), if_neg (by decide)]
            exact ⟨Nat.le_refl _, Nat.le_refl _⟩
          · exact f71 _ _ K2 (hF.tr F2) (E2.congr fin)
        · have e : k ≠ 1 := fun e => c (by rw [e]; rfl)
          have hlk : lo = k := by rw [hlo, if_neg e]
          have hhk : hi = k := by rw [hhi, if_neg e]
          refine f71 _ _ K hF (hE.congr (fun j j1 j5 => ?_))
          rw [hkf]
          show _ = (kn j || ndd k j)
          congr 1
          unfold ndd
          have : x = k + 1 := by omega
          rw [hlk, this, decide_eq_false e, Bool.false_and, Bool.or_false]
          by_cases ej : j = k
          · simp [ej]
          · rw [decide_eq_false ej]
            simp
            omega
      refine l13 _ _ _ _ _ ⟨rfl, ⟨fun c => ?_, fun c => ?_⟩⟩
      · have e : k = 1 := (nI_eq (b := 1) (by omega) (by decide)).mp c
        rw [hhi, if_pos e] at f24
        exact f24
      · have e : k ≠ 1 := fun e => c (by rw [e]; rfl)
        rw [hhi, if_neg e] at f24
        exact f24
    | succ n ih =>
      intro x u v b K hx hlx hF hE hu hv b1 b2 hb
      have WK := hF.1
      have f24 : X 24 u v [.ref 71, .int (nI k), .int (iI b), .int (nI x)] [.int (nI hi), .int (nI x)] K := by
        refine l24 _ _ _ _ _ ⟨rfl, ⟨fun c => absurd ((nI_ltI (by omega) (by omega)).mp c) (by omega), fun _ => ?_⟩⟩
        have fin : ∀ j, 1 ≤ j → j ≤ 5 → (if j = x then true else (kn j || (decide (lo ≤ j) && decide (j < x)))) = (kn j || (decide (lo ≤ j) && decide (j < x + 1))) := fun j j1 j5 => by
          by_cases e : j = x
          · rw [if_pos e, e, decide_eq_true hlx, decide_eq_true (by omega : x < x + 1)]; simp
          · rw [if_neg e, show decide (j < x + 1) = decide (j < x) from by
              by_cases z : j < x
              · rw [decide_eq_true z, decide_eq_true (by omega)]
              · rw [decide_eq_false z, decide_eq_false (by omega)]]
        have us := uC_set (kn := fun j => kn j || (decide (lo ≤ j) && decide (j < x))) (k := x) (by omega) (by omega)
        have uf := uC_congr fin
        have ul := uC_le (kn := fun j => kn j || (decide (lo ≤ j) && decide (j < x + 1))) (kn2 := kf) (fun j j1 j5 => kmon (x + 1) j j1 j5 (by omega))
        obtain ⟨cu, hcu⟩ : ∃ cu, cu = (if (kn x || (decide (lo ≤ x) && decide (x < x))) = true then 0 else 1) := ⟨_, rfl⟩
        obtain ⟨cv, hcv⟩ : ∃ cv, cv = (if (kn x || (decide (lo ≤ x) && decide (x < x))) = true then 0 else 8192 * kSz x) := ⟨_, rfl⟩
        rw [← hcu, ← hcv] at us
        refine ⟨Nat.le_of_ble_eq_true rfl, rfl, fxs_71 WK, cu, cv, by omega, by omega, ?_⟩
        refine e_rounds WK hE (k := x) (g := -1) (by omega) (by omega) (by omega) (by omega) (fun e => absurd e (by omega)) (fun z => ?_) (fun K2 F2 E2 => ?_)
        · rw [hcu, hcv, z, if_neg (by decide), if_neg (by decide)]
          exact ⟨Nat.le_refl _, Nat.le_refl _⟩
        · have W2 := F2.1
          have E3 := E2.congr fin
          obtain ⟨-, -, g, g1, g2, g3, g4⟩ := (E2.2 x (by omega) (by omega)).2 (by simp)
          have xc : (nI x).toNatClampNeg = x := nI_clamp (by omega)
          have v6 : vp_in (nI x) 6 := vp_in_nI (by omega) (by omega)
          have nx : ∀ b' : Int, b ≤ b' → g ≤ b' → b' < 58 → X 53 (u + cu) (v + cv) [.ref 71, .int (nI k), .int (nI x)] [.int (iI b')] K2 := fun b' h1 h2 h3 => by
            refine l53 _ _ _ _ _ ⟨rfl, ?_⟩
            have q := ih (x + 1) (u + cu) (v + cv) b' K2 (by omega) (by omega) (hF.tr F2) E3 (by omega) (by omega) (by omega) h3 (fun j s p w sm d h4 h5 hs hp hw hD => by
              by_cases e : j = x
              · rw [e] at hD
                have := g4 s p w sm d hs hp hw hD
                omega
              · have := hb j s p w sm d h4 (by omega) hs hp hw hD
                omega)
            rw [← show nI x + (1 : Int32) = nI (x + 1) from nI_add _ 1] at q
            exact q
          have e73 : K2.1 73 (nI x).toNatClampNeg = iI g := by rw [xc]; exact g3
          refine ⟨fxs_71 W2, 73, fxr_71_3 W2, ⟨6, fxs_73 W2, v6, ⟨fun c => ?_, fun c => ⟨fxs_71 W2, 73, fxr_71_3 W2, ⟨6, fxs_73 W2, v6, ?_⟩⟩⟩⟩⟩
          · have c : K2.1 73 (nI x).toNatClampNeg ≤ iI b := c
            rw [e73, iI_le (by omega) (by omega) (by omega) (by omega)] at c
            exact nx b (by omega) c b2
          · have c : ¬ K2.1 73 (nI x).toNatClampNeg ≤ iI b := c
            rw [e73, iI_le (by omega) (by omega) (by omega) (by omega)] at c
            have q := nx g (by omega) (by omega) g2
            rw [← e73] at q
            exact q
      refine l13 _ _ _ _ _ ⟨rfl, ⟨fun c => ?_, fun c => ?_⟩⟩
      · have e : k = 1 := (nI_eq (b := 1) (by omega) (by decide)).mp c
        rw [hhi, if_pos e] at f24
        exact f24
      · have e : k ≠ 1 := fun e => c (by rw [e]; rfl)
        rw [hhi, if_neg e] at f24
        exact f24
  have start : ∀ (x : Nat), x = lo → X 12 0 0 [.ref 71, .int (nI k), .int (iI (-1))] [.int (nI x)] M := fun x ex => by
    subst ex
    have c0 : ∀ j, 1 ≤ j → j ≤ 5 → kn j = (kn j || (decide (x ≤ j) && decide (j < x))) := fun j _ _ => by
      rw [show (decide (x ≤ j) && decide (j < x)) = false by simp, Bool.or_false]
    have uc := uC_congr c0
    exact l12 _ _ _ _ _ ⟨rfl, loop (hi + 1 - x) x 0 0 (-1) M (by omega) (Nat.le_refl _) (xFr.rf hW) (hK.congr c0) (by omega) (by omega) (by omega) (by omega) (fun j s p w sm d h1 h2 => absurd h2 (by omega))⟩
  refine l0 _ _ _ _ _ ⟨rfl, ⟨fun c => ?_, fun c => ?_⟩⟩
  · have e : k = 1 := (nI_eq (b := 1) (by omega) (by decide)).mp c
    exact start 2 (by rw [hlo, if_pos e])
  · have e : k ≠ 1 := fun e => c (by rw [e]; rfl)
    exact start k (by rw [hlo, if_neg e])
theorem nkX12_distanceOf_5 {mc ms : Nat} {X : Nat → zV} {Q : zQt} {M : zM} {x1 x2 x3 x4 x5 : Int32} (h : X 30 0 0 [] [.int (-1)] M) : kX12_distanceOf_5 mc ms X Q 0 0 [some (.ref 71), some (.int x1), some (.int x2), some (.int x3), some (.int x4), some (.int x5), none] [.null] M := h
theorem e_distanceOf {mc ms : Nat} {M : zM} (hW : zFix M) (hT : eTb M) {k s p w : Nat} {sm : Bool} (k1 : 1 ≤ k) (k5 : k ≤ 5) (hs : s < 64) (hp : p < 64) (hw : w < 64) (hR : eRd M k sm 100) {Q : zQt} (hq : ∀ v, eV k s p w sm 100 v → Q (some (.int v)) M) : wX12_distanceOf mc ms [.ref 71, .int (nI k), .int (nI s), .int (nI p), .int (nI w), .int (bI sm)] M Q := by
  refine ⟨⟨Nat.le_of_ble_eq_true rfl, rfl⟩, fun X l0 l30 => ?_⟩
  have f30 : ∀ v, eV k s p w sm 100 v → X 30 0 0 [] [.int v] M := fun v h => l30 _ _ _ _ _ ⟨rfl, vX12_distanceOf_30 hW (hq v h)⟩
  refine l0 _ _ _ _ _ ⟨rfl, vX12_distanceOf_0 hW (e_rowOf hW k5 ?_)⟩
  rcases hR with ⟨e, hno⟩ | ⟨r, e, hsh, hv⟩
  · rw [e]
    exact nkX12_distanceOf_5 (f30 (-1) (Or.inr ⟨fun d hd => hno s p w d hs hp hw hd, rfl⟩))
  · rw [e]
    refine vkX12_distanceOf_5 hW hsh ?_
    refine e_place hW hT k5 hs hp hw ?_
    refine vkX12_distanceOf_29 hW hsh hsh ?_
    have lt := plc_lt (k := k) (sm := sm) hs hp hw
    have := kSz_le k
    rw [nI_clamp (by omega)]
    exact ⟨vp_in_nI lt (by omega), f30 _ (hv _ _ _ hs hp hw)⟩
