/-! make, proved -/
theorem crn_c {mc ms : Nat} {M : zM} (hW : zFix M) {s : Nat} (hs : s < 64) {Q : zQt} (hq : Q (some (.int (nI (crn s)))) M) : wX13_cornerRight mc ms [.int (nI s)] M Q := c_cornerRight hW hs hq
theorem mkB_le {P : Ps} {a b pr : Nat} (hB : ∀ s, s < 64 → P.1 s ≤ 12) (ha : a < 64) (hc : P.2.1 ≤ 1) (hpr : pr ≤ 5) (s : Nat) (hs : s < 64) : mkB P a b pr s ≤ 12 := by
  have h1 := hB a ha
  have h2 := hB s hs
  unfold mkB
  (repeat' split) <;> omega
set_option maxHeartbeats 8000000 in
theorem c_make {mc ms : Nat} {M : zM} (hW : zFix M) {p : Nat} {P : Ps} (hP : rPs M p P) (hp : p + 138 ≤ 414) {a b pr : Nat} (ha : a < 64) (hb : b < 64) (hpr : pr ≤ 5) (hk : cas P a b = true → a = 4 ∨ a = 60) (hcl : P.2.2.2.2.1 + 1 < 2 ^ 30) (hnm : P.2.2.2.2.2 + 1 < 2 ^ 30) {Q : zQt} (hq : ∀ N f, sl M (p + 69) N f → rPs N (p + 69) (mkP P a b pr) → Q none N) : wX13_make mc ms [.ref 55, .int (nI p), .int (nI (a + 64 * b + 4096 * pr))] M Q := by
  have hP0 := hP
  obtain ⟨hB, ⟨hS, hS1⟩, ⟨hR, hR16⟩, -, ⟨hC, hC30⟩, hN, hN30⟩ := hP
  obtain ⟨q, hqd⟩ : ∃ q, q = p + 69 := ⟨_, rfl⟩
  rw [← hqd] at hq
  obtain ⟨hBa, hBam⟩ := hB a ha
  obtain ⟨hBb, hBbm⟩ := hB b hb
  have hle := mkB_le (b := b) (pr := pr) (fun s hs => (hB s hs).2) ha hS1 hpr
  have hmr : mkR P a b < 16 := by
    have h1 := (wo_and P.2.2.1 hR16 (3 * 4 ^ P.2.1) (by rcases (show P.2.1 = 0 ∨ P.2.1 = 1 by omega) with e | e <;> rw [e] <;> decide)).2
    unfold mkR
    refine (wo_and _ (wo_and _ ?_ _ (crn_lt a)).2 _ (crn_lt b)).2
    split
    · exact h1
    · exact hR16
  refine ⟨⟨Nat.le_of_ble_eq_true rfl, rfl⟩, fun X l0 l52 l74 l75 l102 l103 l122 l127 l132 l207 l237 l240 l266 l290 l330 l380 l381 l415 l432 l433 l472 l489 l490 l511 l520 l540 l555 => ?_⟩
  -- the end: clock, number, side
  have f555 : ∀ (N : zM) (f : Nat → Int32) (s0 : Int32), sl M q N f → (∀ s, s < 64 → f s = nI (mkB P a b pr s)) → f 65 = nI (mkR P a b) → f 66 = pI (mkP P a b pr).2.2.2.1 → s0 = nI (mkP P a b pr).2.2.2.2.1 → X 555 0 0 [.ref 55, .int (nI p), .int (nI q), .int (nI P.2.1)] [.int s0, .int (nI (q + 67)), .ref 65] N := by
    intro N f s0 hs h1 h2 h3 h4
    refine l555 _ _ _ _ _ ⟨rfl, vX13_make_555 (hs.1.fix hW) ?_⟩
    rw [show nI p + (68 : Int32) = nI (p + 68) from nI_add p 68, show nI q + (68 : Int32) = nI (q + 68) from nI_add q 68, show nI q + (64 : Int32) = nI (q + 64) from nI_add q 64, nI_clamp (by omega), nI_clamp (by omega), nI_clamp (by omega), nI_clamp (by omega), show (1 : Int32) - nI P.2.1 = nI (1 - P.2.1) from pk_sub (a := 1) hS1]
    refine ⟨vp_in_nI (by omega) (by omega), fun M1 e1 => ⟨vp_in_nI (by omega) (by omega), vp_in_nI (by omega) (by omega), fun M2 e2 => ⟨vp_in_nI (by omega) (by omega), fun M3 e3 => ?_⟩⟩⟩
    have s1 : sl M q M1 (upd f 67 s0) := by rw [e1]; exact hs.put (by omega) _
    have r1 : M1.1 65 (p + 68) = nI P.2.2.2.2.2 := by rw [s1.off (by omega)]; exact hN
    rw [r1, nI_add] at e2
    have s2 : sl M q M2 (upd (upd f 67 s0) 68 (nI (P.2.2.2.2.2 + P.2.1))) := by rw [e2]; exact s1.put (by omega) _
    have s3 : sl M q M3 (upd (upd (upd f 67 s0) 68 (nI (P.2.2.2.2.2 + P.2.1))) 64 (nI (1 - P.2.1))) := by rw [e3]; exact s2.put (by omega) _
    refine hq M3 _ s3 ⟨fun s hs64 => ⟨?_, hle s hs64⟩, ⟨?_, ?_⟩, ⟨?_, hmr⟩, ⟨?_, ?_⟩, ⟨?_, ?_⟩, ?_, ?_⟩
    · rw [s3.at (by omega), pk_un (by omega), pk_un (by omega), pk_un (by omega)]; exact h1 s hs64
    · rw [s3.at (by omega), pk_us]; rfl
    · show 1 - P.2.1 ≤ 1; omega
    · rw [s3.at (by omega), pk_un (by omega), pk_un (by omega), pk_un (by omega)]; exact h2
    · rw [s3.at (by omega), pk_un (by omega), pk_un (by omega), pk_un (by omega)]; exact h3
    · show (if (lft P a b pr || rgt P a b pr) = true then b % 8 else 8) ≤ 8
      split <;> omega
    · rw [s3.at (by omega), pk_un (by omega), pk_un (by omega), pk_us]; exact h4
    · show (if (pwn P a || tks P a b) = true then 0 else P.2.2.2.2.1 + 1) < 2 ^ 30
      split <;> omega
    · rw [s3.at (by omega), pk_un (by omega), pk_us]; rfl
    · show P.2.2.2.2.2 + P.2.1 < 2 ^ 30; omega
  have f540 : ∀ (N : zM) (f : Nat → Int32), sl M q N f → (∀ s, s < 64 → f s = nI (mkB P a b pr s)) → f 65 = nI (mkR P a b) → f 66 = pI (mkP P a b pr).2.2.2.1 → (pwn P a || tks P a b) = true → X 540 0 0 [.ref 55, .int (nI p), .int (nI q), .int (nI P.2.1)] [.int (nI (q + 67)), .ref 65] N := by
    intro N f hs h1 h2 h3 h4
    refine l540 _ _ _ _ _ ⟨rfl, vX13_make_540 (hs.1.fix hW) (f555 N f 0 hs h1 h2 h3 ?_)⟩
    show (0 : Int32) = nI (if (pwn P a || tks P a b) = true then 0 else P.2.2.2.2.1 + 1)
    rw [if_pos h4]; rfl
  have f520 : ∀ (N : zM) (f : Nat → Int32) (s0 : Int32), sl M q N f → (∀ s, s < 64 → f s = nI (mkB P a b pr s)) → f 65 = nI (mkR P a b) → s0 = pI (mkP P a b pr).2.2.2.1 → X 520 0 0 [.ref 55, .int (nI p), .int (nI q), .int (nI P.2.1), .int (bI (pwn P a)), .int (bI (tks P a b))] [.int s0, .int (nI (q + 66)), .ref 65] N := by
    intro N f s0 hs h1 h2 h3
    refine l520 _ _ _ _ _ ⟨rfl, vX13_make_520 (hs.1.fix hW) ?_⟩
    rw [nI_clamp (by omega), show nI p + (67 : Int32) = nI (p + 67) from nI_add p 67, show nI q + (67 : Int32) = nI (q + 67) from nI_add q 67, nI_clamp (by omega)]
    refine ⟨vp_in_nI (by omega) (by omega), fun M1 e1 => ?_⟩
    have s1 : sl M q M1 (upd f 66 s0) := by rw [e1]; exact hs.put (by omega) _
    have g1 : ∀ s, s < 64 → (upd f 66 s0) s = nI (mkB P a b pr s) := fun s hs64 => by rw [pk_un (by omega)]; exact h1 s hs64
    have g2 : (upd f 66 s0) 65 = nI (mkR P a b) := by rw [pk_un (by omega)]; exact h2
    have g3 : (upd f 66 s0) 66 = pI (mkP P a b pr).2.2.2.1 := by rw [pk_us]; exact h3
    refine ⟨fun d => ⟨fun d2 => ⟨vp_in_nI (by omega) (by omega), ?_⟩, fun d2 => f540 M1 _ s1 g1 g2 g3 ?_⟩, fun d => f540 M1 _ s1 g1 g2 g3 ?_⟩
    · refine f555 M1 _ _ s1 g1 g2 g3 ?_
      rw [s1.off (by omega), hC, nI_1]
      show _ = nI (if (pwn P a || tks P a b) = true then 0 else P.2.2.2.2.1 + 1)
      rw [if_neg (by rw [bI_0.mp d, bI_0.mp d2]; decide)]
    · rw [bI_n.mp d2, Bool.or_true]
    · rw [bI_n.mp d, Bool.true_or]
  -- where the pawn may be taken in passing
  have f490 : ∀ (N : zM) (f : Nat → Int32), sl M q N f → (∀ s, s < 64 → f s = nI (mkB P a b pr s)) → f 65 = nI (mkR P a b) → ∀ z : Int32, z = bI (rgt P a b pr) → X 490 0 0 [.ref 55, .int (nI p), .int (nI b), .int (nI q), .int (nI P.2.1), .int (bI (pwn P a)), .int (bI (tks P a b)), .int (bI (lft P a b pr))] [.int z] N := by
    intro N f hs h1 h2 z hz
    have f511 : (lft P a b pr || rgt P a b pr) = true → X 511 0 0 [.ref 55, .int (nI p), .int (nI b), .int (nI q), .int (nI P.2.1), .int (bI (pwn P a)), .int (bI (tks P a b))] [.int (nI (q + 66)), .ref 65] N := by
      intro h
      refine l511 _ _ _ _ _ ⟨rfl, vX13_make_511 (hs.1.fix hW) (f520 N f _ hs h1 h2 ?_)⟩
      rw [show nI b - nI b / (8 : Int32) * (8 : Int32) = nI (b % 8) from pk_rem (d := 8) (by omega) (by decide) (by decide)]
      show _ = pI (if (lft P a b pr || rgt P a b pr) = true then b % 8 else 8)
      rw [if_pos h]
      unfold pI
      rw [if_pos (by omega)]
    refine l490 _ _ _ _ _ ⟨rfl, vX13_make_490 (hs.1.fix hW) ?_⟩
    rw [show nI q + (66 : Int32) = nI (q + 66) from nI_add q 66]
    refine ⟨fun d => ⟨fun d2 => f520 N f _ hs h1 h2 ?_, fun d2 => f511 ?_⟩, fun d => f511 ?_⟩
    · show _ = pI (if (lft P a b pr || rgt P a b pr) = true then b % 8 else 8)
      rw [hz] at d2
      rw [if_neg (by rw [bI_0.mp d, bI_0.mp d2]; decide)]
      rfl
    · rw [hz] at d2
      rw [bI_n.mp d2, Bool.or_true]
    · rw [bI_n.mp d, Bool.true_or]
  have f489 : ∀ (N : zM) (f : Nat → Int32), sl M q N f → (∀ s, s < 64 → f s = nI (mkB P a b pr s)) → f 65 = nI (mkR P a b) → rgt P a b pr = false → X 489 0 0 [.ref 55, .int (nI p), .int (nI b), .int (nI q), .int (nI P.2.1), .int (bI (pwn P a)), .int (bI (tks P a b)), .int (bI (lft P a b pr))] [] N := fun N f hs h1 h2 h => l489 _ _ _ _ _ ⟨rfl, vX13_make_489 (hs.1.fix hW) (f490 N f hs h1 h2 0 (by rw [h]; rfl))⟩
  have e7 : (7 : Int32) - ((6 : Int32) * nI P.2.1) = nI (7 - 6 * P.2.1) := by
    rw [show (6 : Int32) * nI P.2.1 = nI (6 * P.2.1) from pk_mul 6 _]
    exact pk_sub (a := 7) (by omega)
  have eb8 : nI b - nI b / (8 : Int32) * (8 : Int32) = nI (b % 8) := pk_rem (d := 8) (by omega) (by decide) (by decide)
  have f433 : ∀ (N : zM) (f : Nat → Int32), sl M q N f → (∀ s, s < 64 → f s = nI (mkB P a b pr s)) → f 65 = nI (mkR P a b) → ∀ z : Int32, z = bI (lft P a b pr) → X 433 0 0 [.ref 55, .int (nI p), .int (nI b), .int (nI q), .int (nI P.2.1), .int (bI (pwn P a)), .int (bI (tks P a b)), .int (bI (two P a b))] [.int z] N := by
    intro N f hs h1 h2 z hz
    subst hz
    refine l433 _ _ _ _ _ ⟨rfl, vX13_make_433 (hs.1.fix hW) ?_⟩
    rw [eb8]
    have e77 : (7 : Int32) ≤ nI (b % 8) ↔ 7 ≤ b % 8 := nI_leI (a := 7) (by decide) (by omega)
    refine ⟨fun d => f489 N f hs h1 h2 (by unfold rgt; rw [bI_0.mp d]; rfl), fun d => ⟨fun d2 => f489 N f hs h1 h2 ?_, fun d2 => ?_⟩⟩
    · unfold rgt
      have : decide (b % 8 < 7) = false := decide_eq_false (by have := e77.mp d2; omega)
      rw [this, Bool.and_false, Bool.false_and]
    · have h7 : b % 8 < 7 := by
        rcases Nat.lt_or_ge (b % 8) 7 with r | r
        · exact r
        · exact absurd (e77.mpr r) d2
      have h63 : b + 1 < 64 := by omega
      refine ⟨fun d3 => absurd ((nI_leI (a := 63) (by decide) (by omega)).mp d3) (by omega), fun _ => ?_⟩
      rw [show nI b + (1 : Int32) = nI (b + 1) from nI_1 b]
      refine l472 _ _ _ _ _ ⟨rfl, vX13_make_472 (hs.1.fix hW) ?_⟩
      rw [nI_add, nI_clamp (by omega), hs.at (by omega), h1 (b + 1) h63, e7]
      have em : nI (mkB P a b pr (b + 1)) = nI (7 - 6 * P.2.1) ↔ mkB P a b pr (b + 1) = 7 - 6 * P.2.1 := nI_eq (by have := hle (b + 1) h63; omega) (by omega)
      have hr : rgt P a b pr = decide (mkB P a b pr (b + 1) = 7 - 6 * P.2.1) := by
        unfold rgt
        rw [bI_n.mp d, decide_eq_true h7, Bool.true_and, Bool.true_and]
      exact ⟨vp_in_nI (by omega) (by omega), fun d4 => f490 N f hs h1 h2 1 (by rw [hr, decide_eq_true (em.mp d4)]; rfl), fun d4 => f489 N f hs h1 h2 (by rw [hr]; exact decide_eq_false (fun r => d4 (em.mpr r)))⟩
  have f432 : ∀ (N : zM) (f : Nat → Int32), sl M q N f → (∀ s, s < 64 → f s = nI (mkB P a b pr s)) → f 65 = nI (mkR P a b) → lft P a b pr = false → X 432 0 0 [.ref 55, .int (nI p), .int (nI b), .int (nI q), .int (nI P.2.1), .int (bI (pwn P a)), .int (bI (tks P a b)), .int (bI (two P a b))] [] N := fun N f hs h1 h2 h => l432 _ _ _ _ _ ⟨rfl, vX13_make_432 (hs.1.fix hW) (f433 N f hs h1 h2 0 (by rw [h]; rfl))⟩
  have f381 : ∀ (N : zM) (f : Nat → Int32), sl M q N f → (∀ s, s < 64 → f s = nI (mkB P a b pr s)) → f 65 = nI (mkR P a b) → ∀ z : Int32, z = bI (two P a b) → X 381 0 0 [.ref 55, .int (nI p), .int (nI b), .int (nI q), .int (nI P.2.1), .int (bI (pwn P a)), .int (bI (tks P a b))] [.int z] N := by
    intro N f hs h1 h2 z hz
    subst hz
    refine l381 _ _ _ _ _ ⟨rfl, vX13_make_381 (hs.1.fix hW) ?_⟩
    rw [eb8]
    have e0 : nI (b % 8) ≤ 0 ↔ b % 8 ≤ 0 := nI_leI (b := 0) (by omega) (by decide)
    refine ⟨fun d => f432 N f hs h1 h2 (by unfold lft; rw [bI_0.mp d]; rfl), fun d => ⟨fun d2 => f432 N f hs h1 h2 ?_, fun d2 => ?_⟩⟩
    · unfold lft
      have : decide (0 < b % 8) = false := decide_eq_false (by have := e0.mp d2; omega)
      rw [this, Bool.and_false, Bool.false_and]
    · have h0 : 0 < b % 8 := by
        rcases Nat.eq_zero_or_pos (b % 8) with r | r
        · exact absurd (e0.mpr (by omega)) d2
        · exact r
      have hb0 : 0 < b := by omega
      refine ⟨fun d3 => absurd ((nI_leI (b := 0) (by omega) (by decide)).mp d3) (by omega), fun _ => ?_⟩
      rw [show nI b - (1 : Int32) = nI (b - 1) from pk_sub (b := 1) hb0]
      refine l415 _ _ _ _ _ ⟨rfl, vX13_make_415 (hs.1.fix hW) ?_⟩
      rw [nI_add, nI_clamp (by omega), hs.at (by omega), h1 (b - 1) (by omega), e7]
      have em : nI (mkB P a b pr (b - 1)) = nI (7 - 6 * P.2.1) ↔ mkB P a b pr (b - 1) = 7 - 6 * P.2.1 := nI_eq (by have := hle (b - 1) (by omega); omega) (by omega)
      have hr : lft P a b pr = decide (mkB P a b pr (b - 1) = 7 - 6 * P.2.1) := by
        unfold lft
        rw [bI_n.mp d, decide_eq_true h0, Bool.true_and, Bool.true_and]
      exact ⟨vp_in_nI (by omega) (by omega), fun d4 => f433 N f hs h1 h2 1 (by rw [hr, decide_eq_true (em.mp d4)]; rfl), fun d4 => f432 N f hs h1 h2 (by rw [hr]; exact decide_eq_false (fun r => d4 (em.mpr r)))⟩
  have f380 : ∀ (N : zM) (f : Nat → Int32), sl M q N f → (∀ s, s < 64 → f s = nI (mkB P a b pr s)) → f 65 = nI (mkR P a b) → two P a b = false → X 380 0 0 [.ref 55, .int (nI p), .int (nI b), .int (nI q), .int (nI P.2.1), .int (bI (pwn P a)), .int (bI (tks P a b))] [] N := fun N f hs h1 h2 h => l380 _ _ _ _ _ ⟨rfl, vX13_make_380 (hs.1.fix hW) (f381 N f hs h1 h2 0 (by rw [h]; rfl))⟩
  -- rights
  have f330 : ∀ (N : zM) (f : Nat → Int32), sl M q N f → (∀ s, s < 64 → f s = nI (mkB P a b pr s)) → ∀ r : Nat, r < 16 → wo (wo r (crn a)) (crn b) = mkR P a b → X 330 0 0 [.ref 55, .int (nI p), .int (nI a), .int (nI b), .int (nI q), .int (nI P.2.1), .int (bI (pwn P a)), .int (bI (tks P a b))] [.int (nI r)] N := by
    intro N f hs h1 r hr hmk
    refine l330 _ _ _ _ _ ⟨rfl, vX13_make_330 (hs.1.fix hW) (crn_c (hs.1.fix hW) ha ?_)⟩
    refine vkX13_make_347 (hs.1.fix hW) (crn_c (hs.1.fix hW) hb ?_)
    refine vkX13_make_355 (hs.1.fix hW) ?_
    have w1 := wo_and r hr (crn a) (crn_lt a)
    rw [w1.1, (wo_and _ w1.2 (crn b) (crn_lt b)).1, hmk, show nI q + (65 : Int32) = nI (q + 65) from nI_add q 65, nI_clamp (by omega)]
    refine ⟨vp_in_nI (by omega) (by omega), fun M1 e1 => ?_⟩
    have s1 : sl M q M1 (upd f 65 (nI (mkR P a b))) := by rw [e1]; exact hs.put (by omega) _
    have g1 : ∀ s, s < 64 → (upd f 65 (nI (mkR P a b))) s = nI (mkB P a b pr s) := fun s hs64 => by rw [pk_un (by omega)]; exact h1 s hs64
    have g2 : (upd f 65 (nI (mkR P a b))) 65 = nI (mkR P a b) := pk_us
    refine ⟨fun d => f380 M1 _ s1 g1 g2 (by unfold two; rw [bI_0.mp d]; rfl), fun d => ?_⟩
    rw [iI_nat, iI_nat, iI_sub]
    refine c_amount (s1.1.fix hW) _ (by omega) (by omega) ?_
    have e16 : iI (aI ((a : Int) - b)) = (16 : Int32) ↔ (a + 16 = b ∨ b + 16 = a) := by
      rw [← abs_2 (k := 16) (by decide)]
      exact iI_eq (b := 16) (by unfold aI; split <;> omega) (by unfold aI; split <;> omega) (by decide) (by decide)
    have ht : two P a b = (decide (a + 16 = b) || decide (b + 16 = a)) := by
      unfold two
      rw [bI_n.mp d, Bool.true_and]
    refine vkX13_make_371 (s1.1.fix hW) ⟨fun d2 => f381 M1 _ s1 g1 g2 1 ?_, fun d2 => f380 M1 _ s1 g1 g2 ?_⟩
    · have : two P a b = true := by
        rw [ht]
        rcases e16.mp d2 with r | r
        · rw [decide_eq_true r, Bool.true_or]
        · rw [decide_eq_true r, Bool.or_true]
      rw [this]; rfl
    · rw [ht]
      have n1 : ¬ a + 16 = b := fun r => d2 (e16.mpr (Or.inl r))
      have n2 : ¬ b + 16 = a := fun r => d2 (e16.mpr (Or.inr r))
      rw [decide_eq_false n1, decide_eq_false n2]; rfl
  have f290 : ∀ (N : zM) (f : Nat → Int32), sl M q N f → (∀ s, s < 64 → f s = nI (mkB P a b pr s)) → X 290 0 0 [.ref 55, .int (nI p), .int (nI a), .int (nI b), .int (nI q), .int (nI P.2.1), .int (nI (P.1 a)), .int (bI (pwn P a)), .int (bI (tks P a b))] [] N := by
    intro N f hs h1
    refine l290 _ _ _ _ _ ⟨rfl, vX13_make_290 (hs.1.fix hW) (c_kindOf (hs.1.fix hW) _ (by omega) ?_)⟩
    have kl := kd_le hBam
    have e6 : nI (kd (P.1 a)) = (6 : Int32) ↔ kd (P.1 a) = 6 := nI_eq (b := 6) (by omega) (by decide)
    refine vkX13_make_295 (hs.1.fix hW) ?_
    rw [show nI p + (65 : Int32) = nI (p + 65) from nI_add p 65, nI_clamp (by omega), hs.off (by omega), hR]
    have hw3 : (3 : Int32) <<< (((2 : Int32) * nI P.2.1) &&& 31) = nI (3 * 4 ^ P.2.1) := by
      rcases (show P.2.1 = 0 ∨ P.2.1 = 1 by omega) with e | e <;> rw [e] <;> decide
    have w3 := wo_and P.2.2.1 hR16 (3 * 4 ^ P.2.1) (by rcases (show P.2.1 = 0 ∨ P.2.1 = 1 by omega) with e | e <;> rw [e] <;> decide)
    rw [hw3, w3.1]
    refine ⟨fun d => ⟨vp_in_nI (by omega) (by omega), f330 N f hs h1 _ w3.2 ?_⟩, fun d => ⟨vp_in_nI (by omega) (by omega), f330 N f hs h1 _ hR16 ?_⟩⟩
    · unfold mkR
      rw [if_pos (e6.mp d)]
    · unfold mkR
      rw [if_neg (fun r => d (e6.mpr r))]
  -- the board
  have f240 : ∀ (N : zM) (f : Nat → Int32), sl M q N f → (∀ s, s < 64 → f s = nI (if psg P a b = true ∧ s = (if P.2.1 = 0 then b - 8 else b + 8) then 0 else if s = b then (if pr = 0 then P.1 a else pr + 6 * P.2.1) else if s = a then 0 else P.1 s)) → X 240 0 0 [.ref 55, .int (nI p), .int (nI a), .int (nI b), .int (nI q), .int (nI P.2.1), .int (nI (P.1 a)), .int (bI (pwn P a)), .int (bI (cas P a b)), .int (bI (tks P a b))] [] N := by
    intro N f hs h1
    refine l240 _ _ _ _ _ ⟨rfl, vX13_make_240 (hs.1.fix hW) ⟨fun d => f290 N f hs (fun s hs64 => ?_), fun d => ?_⟩⟩
    · have hm : mkB P a b pr s = (if psg P a b = true ∧ s = (if P.2.1 = 0 then b - 8 else b + 8) then 0 else if s = b then (if pr = 0 then P.1 a else pr + 6 * P.2.1) else if s = a then 0 else P.1 s) := by
        unfold mkB
        rw [if_neg (fun r => by rw [bI_0.mp d] at r; exact absurd r.1 (by decide)), if_neg (fun r => by rw [bI_0.mp d] at r; exact absurd r.1 (by decide))]
      rw [hm]
      exact h1 s hs64
    · have hca := bI_n.mp d
      have ha4 := hk hca
      have hab : a + 2 = b ∨ b + 2 = a := by
        unfold cas at hca
        simp only [Bool.and_eq_true, Bool.or_eq_true, decide_eq_true_eq] at hca
        exact hca.2
      have f266 : ∀ r : Nat, r = (if a < b then a + 3 else a - 4) → X 266 0 0 [.ref 55, .int (nI p), .int (nI a), .int (nI b), .int (nI q), .int (nI P.2.1), .int (nI (P.1 a)), .int (bI (pwn P a)), .int (bI (tks P a b))] [.int (nI r), .int (nI q), .ref 65] N := by
        intro r hr
        have hr64 : r < 64 := by split at hr <;> omega
        refine l266 _ _ _ _ _ ⟨rfl, vX13_make_266 (hs.1.fix hW) ?_⟩
        rw [nI_add q r, nI_clamp (by omega), nI_add a b, show nI (a + b) / (2 : Int32) = nI ((a + b) / 2) from pk_div (d := 2) (by omega) (by decide) (by decide), nI_add, nI_clamp (by omega), show (6 : Int32) * nI P.2.1 = nI (6 * P.2.1) from pk_mul 6 _, show (4 : Int32) + nI (6 * P.2.1) = nI (4 + 6 * P.2.1) from nI_add 4 _]
        refine ⟨vp_in_nI (by omega) (by omega), fun M1 e1 => ⟨vp_in_nI (by omega) (by omega), fun M2 e2 => ?_⟩⟩
        have s1 : sl M q M1 (upd f r 0) := by rw [e1]; exact hs.put (by omega) _
        have s2 : sl M q M2 (upd (upd f r 0) ((a + b) / 2) (nI (4 + 6 * P.2.1))) := by rw [e2]; exact s1.put (by omega) _
        refine f290 M2 _ s2 (fun s hs64 => ?_)
        unfold mkB
        by_cases hx : s = (a + b) / 2
        · rw [if_pos ⟨hca, hx⟩, hx, pk_us]
        · rw [if_neg (fun t => hx t.2), pk_un hx]
          by_cases hy : s = r
          · rw [if_pos ⟨hca, by rw [hy, hr]⟩, hy, pk_us]; rfl
          · rw [if_neg (fun t => hy (by rw [hr]; exact t.2)), pk_un hy]
            exact h1 s hs64
      refine ⟨fun d2 => ?_, fun d2 => ?_⟩
      · have := (nI_leI (by omega) (by omega)).mp d2
        rw [show nI a - (4 : Int32) = nI (a - 4) from pk_sub (b := 4) (by omega)]
        exact f266 _ (by rw [if_neg (by omega)])
      · have : ¬ b ≤ a := fun r => d2 ((nI_leI (by omega) (by omega)).mpr r)
        rw [show nI a + (3 : Int32) = nI (a + 3) from nI_add a 3]
        exact f266 _ (by rw [if_pos (by omega)])
  have f207 : ∀ (N : zM) (f : Nat → Int32) (v : Nat), sl M q N f → (∀ s, s < 64 → f s = nI (if s = a then 0 else P.1 s)) → v = (if pr = 0 then P.1 a else pr + 6 * P.2.1) → X 207 0 0 [.ref 55, .int (nI p), .int (nI a), .int (nI b), .int (nI q), .int (nI P.2.1), .int (nI (P.1 a)), .int (bI (pwn P a)), .int (bI (psg P a b)), .int (bI (cas P a b)), .int (bI (tks P a b))] [.int (nI v), .int (nI (q + b)), .ref 65] N := by
    intro N f v hs h1 hv
    refine l207 _ _ _ _ _ ⟨rfl, vX13_make_207 (hs.1.fix hW) ?_⟩
    rw [nI_clamp (by omega)]
    refine ⟨vp_in_nI (by omega) (by omega), fun M1 e1 => ?_⟩
    have s1 : sl M q M1 (upd f b (nI v)) := by rw [e1]; exact hs.put (by omega) _
    have g1 : ∀ s, s < 64 → (upd f b (nI v)) s = nI (if s = b then (if pr = 0 then P.1 a else pr + 6 * P.2.1) else if s = a then 0 else P.1 s) := by
      intro s hs64
      by_cases hx : s = b
      · rw [if_pos hx, hx, pk_us, hv]
      · rw [if_neg hx, pk_un hx]
        exact h1 s hs64
    refine ⟨fun d => f240 M1 _ s1 (fun s hs64 => ?_), fun d => ?_⟩
    · rw [if_neg (fun r => by rw [bI_0.mp d] at r; exact absurd r.1 (by decide))]
      exact g1 s hs64
    · have hps := bI_n.mp d
      have htp : tip P a b := by
        unfold psg at hps
        rw [Bool.and_eq_true] at hps
        exact tipB_t.mp hps.2
      have hbr : (P.2.1 = 0 → 40 ≤ b ∧ b < 48) ∧ (¬ P.2.1 = 0 → 16 ≤ b ∧ b < 24) := by
        have h3 := htp.2.2.1
        unfold psq at h3
        constructor
        · intro e
          rw [if_pos e] at h3
          split at h3 <;> omega
        · intro e
          rw [if_neg e] at h3
          split at h3 <;> omega
      have f237 : ∀ r : Nat, r = (if P.2.1 = 0 then b - 8 else b + 8) → r < 64 → X 237 0 0 [.ref 55, .int (nI p), .int (nI a), .int (nI b), .int (nI q), .int (nI P.2.1), .int (nI (P.1 a)), .int (bI (pwn P a)), .int (bI (cas P a b)), .int (bI (tks P a b))] [.int (nI r), .int (nI q), .ref 65] M1 := by
        intro r hr hr64
        refine l237 _ _ _ _ _ ⟨rfl, vX13_make_237 (s1.1.fix hW) ?_⟩
        rw [nI_add, nI_clamp (by omega)]
        refine ⟨vp_in_nI (by omega) (by omega), fun M2 e2 => ?_⟩
        have s2 : sl M q M2 (upd (upd f b (nI v)) r 0) := by rw [e2]; exact s1.put (by omega) _
        refine f240 M2 _ s2 (fun s hs64 => ?_)
        by_cases hx : s = r
        · rw [if_pos ⟨hps, by rw [hx, hr]⟩, hx, pk_us]; rfl
        · rw [if_neg (fun t => hx (by rw [hr]; exact t.2)), pk_un hx]
          exact g1 s hs64
      have es : nI P.2.1 = 0 ↔ P.2.1 = 0 := nI_eq (b := 0) (by omega) (by decide)
      refine ⟨fun d2 => ?_, fun d2 => ?_⟩
      · have := hbr.1 (es.mp d2)
        rw [show nI b - (8 : Int32) = nI (b - 8) from pk_sub (b := 8) (by omega)]
        exact f237 _ (by rw [if_pos (es.mp d2)]) (by omega)
      · have := hbr.2 (fun r => d2 (es.mpr r))
        rw [show nI b + (8 : Int32) = nI (b + 8) from nI_add b 8]
        exact f237 _ (by rw [if_neg (fun r => d2 (es.mpr r))]) (by omega)
  -- the copy
  have f132 : ∀ (n k : Nat) (N : zM) (f : Nat → Int32), k + n = 69 → sl M q N f → (∀ j, j < k → f j = M.1 65 (p + j)) → X 132 0 0 [.ref 55, .int (nI p), .int (nI (a + 64 * b + 4096 * pr)), .int (nI a), .int (nI b), .int (nI q), .int (nI P.2.1), .int (nI (P.1 a)), .int (bI (pwn P a)), .int (bI (psg P a b)), .int (bI (cas P a b)), .int (bI (tks P a b)), .int (nI k)] [] N := by
    intro n
    induction n with
    | zero =>
      intro k N f hkn hs h1
      obtain rfl : k = 69 := by omega
      refine l132 _ _ _ _ _ ⟨rfl, vX13_make_132 (hs.1.fix hW) ⟨fun _ => ?_, fun d => absurd (by decide) d⟩⟩
      rw [nI_add q a, nI_clamp (by omega), nI_add q b, show nI (a + 64 * b + 4096 * pr) / (4096 : Int32) = nI ((a + 64 * b + 4096 * pr) / 4096) from pk_div (d := 4096) (by omega) (by decide) (by decide), show (a + 64 * b + 4096 * pr) / 4096 = pr by omega]
      refine ⟨vp_in_nI (by omega) (by omega), fun M1 e1 => ?_⟩
      have s1 : sl M q M1 (upd f a 0) := by rw [e1]; exact hs.put (by omega) _
      have g1 : ∀ s, s < 64 → (upd f a 0) s = nI (if s = a then 0 else P.1 s) := by
        intro s hs64
        by_cases hx : s = a
        · rw [if_pos hx, hx, pk_us]; rfl
        · rw [if_neg hx, pk_un hx, h1 s (by omega)]
          exact (hB s hs64).1
      have e0 : nI pr ≤ 0 ↔ pr ≤ 0 := nI_leI (b := 0) (by omega) (by decide)
      refine ⟨fun d => f207 M1 _ (P.1 a) s1 g1 (by rw [if_pos (by have := e0.mp d; omega)]), fun d => ?_⟩
      rw [show (6 : Int32) * nI P.2.1 = nI (6 * P.2.1) from pk_mul 6 _, nI_add]
      refine f207 M1 _ (pr + 6 * P.2.1) s1 g1 ?_
      rw [if_neg (fun r => d (e0.mpr (by omega)))]
    | succ n ih =>
      intro k N f hkn hs h1
      refine l132 _ _ _ _ _ ⟨rfl, vX13_make_132 (hs.1.fix hW) ⟨fun d => absurd d (nI_ge (a := k) (b := 69) (by omega) (by decide)), fun _ => ?_⟩⟩
      rw [nI_add p k, nI_add q k, nI_clamp (by omega), nI_clamp (by omega), nI_1, hs.off (by omega)]
      refine ⟨vp_in_nI (by omega) (by omega), vp_in_nI (by omega) (by omega), fun M1 e1 => ?_⟩
      have s1 : sl M q M1 (upd f k (M.1 65 (p + k))) := by rw [e1]; exact hs.put (by omega) _
      refine ih (k + 1) M1 _ (by omega) s1 (fun j hj => ?_)
      by_cases hx : j = k
      · rw [hx, pk_us]
      · rw [pk_un hx]
        exact h1 j (by omega)
  have f127 : ∀ z : Int32, z = bI (tks P a b) → X 127 0 0 [.ref 55, .int (nI p), .int (nI (a + 64 * b + 4096 * pr)), .int (nI a), .int (nI b), .int (nI q), .int (nI P.2.1), .int (nI (P.1 a)), .int (bI (pwn P a)), .int (bI (psg P a b)), .int (bI (cas P a b))] [.int z] M := by
    intro z hz
    subst hz
    exact l127 _ _ _ _ _ ⟨rfl, vX13_make_127 hW (f132 69 0 M (fun j => M.1 65 (q + j)) rfl ⟨zSm.rf, fun i => by
      by_cases h : q ≤ i ∧ i < q + 69
      · rw [if_pos h]
        show M.1 65 i = M.1 65 (q + (i - q))
        rw [show q + (i - q) = i by omega]
      · rw [if_neg h]⟩ (fun j hj => absurd hj (by omega)))⟩
  have f122 : tks P a b = true → X 122 0 0 [.ref 55, .int (nI p), .int (nI (a + 64 * b + 4096 * pr)), .int (nI a), .int (nI b), .int (nI q), .int (nI P.2.1), .int (nI (P.1 a)), .int (bI (pwn P a)), .int (bI (psg P a b)), .int (bI (cas P a b))] [] M := fun h => l122 _ _ _ _ _ ⟨rfl, vX13_make_122 hW (f127 1 (by rw [h]; rfl))⟩
  have f103 : ∀ z : Int32, z = bI (cas P a b) → X 103 0 0 [.ref 55, .int (nI p), .int (nI (a + 64 * b + 4096 * pr)), .int (nI a), .int (nI b), .int (nI q), .int (nI P.2.1), .int (nI (P.1 a)), .int (bI (pwn P a)), .int (bI (psg P a b))] [.int z] M := by
    intro z hz
    subst hz
    refine l103 _ _ _ _ _ ⟨rfl, vX13_make_103 hW ⟨fun d => ?_, fun d => f122 (by unfold tks; rw [bI_n.mp d, Bool.true_or])⟩⟩
    rw [nI_add, nI_clamp (by omega), hBb]
    have e0 : nI (P.1 b) ≤ 0 ↔ P.1 b ≤ 0 := nI_leI (b := 0) (by omega) (by decide)
    refine ⟨vp_in_nI (by omega) (by omega), fun d2 => f127 0 ?_, fun d2 => f122 ?_⟩
    · unfold tks
      rw [bI_0.mp d, decide_eq_false (by have := e0.mp d2; omega)]; rfl
    · unfold tks
      rw [decide_eq_true (by
        rcases Nat.eq_zero_or_pos (P.1 b) with r | r
        · exact absurd (e0.mpr (by omega)) d2
        · exact r), Bool.or_true]
  have f102 : cas P a b = false → X 102 0 0 [.ref 55, .int (nI p), .int (nI (a + 64 * b + 4096 * pr)), .int (nI a), .int (nI b), .int (nI q), .int (nI P.2.1), .int (nI (P.1 a)), .int (bI (pwn P a)), .int (bI (psg P a b))] [] M := fun h => l102 _ _ _ _ _ ⟨rfl, vX13_make_102 hW (f103 0 (by rw [h]; rfl))⟩
  have kl := kd_le hBam
  have f75 : ∀ z : Int32, z = bI (psg P a b) → X 75 0 0 [.ref 55, .int (nI p), .int (nI (a + 64 * b + 4096 * pr)), .int (nI a), .int (nI b), .int (nI q), .int (nI P.2.1), .int (nI (P.1 a)), .int (bI (pwn P a))] [.int z] M := by
    intro z hz
    subst hz
    refine l75 _ _ _ _ _ ⟨rfl, vX13_make_75 hW (c_kindOf hW _ (by omega) ?_)⟩
    have e6 : nI (kd (P.1 a)) = (6 : Int32) ↔ kd (P.1 a) = 6 := nI_eq (b := 6) (by omega) (by decide)
    refine vkX13_make_82 hW ⟨fun d => ?_, fun d => f102 (by unfold cas; rw [decide_eq_false (fun r => d (e6.mpr r))]; rfl)⟩
    rw [iI_nat a, iI_nat b, iI_sub]
    refine c_amount hW _ (by omega) (by omega) ?_
    have e2 : iI (aI ((a : Int) - b)) = (2 : Int32) ↔ (a + 2 = b ∨ b + 2 = a) := by
      rw [← abs_2 (k := 2) (by decide)]
      exact iI_eq (b := 2) (by unfold aI; split <;> omega) (by unfold aI; split <;> omega) (by decide) (by decide)
    have hca : cas P a b = (decide (a + 2 = b) || decide (b + 2 = a)) := by
      unfold cas
      rw [decide_eq_true (e6.mp d), Bool.true_and]
    refine vkX13_make_94 hW ⟨fun d2 => f103 1 ?_, fun d2 => f102 ?_⟩
    · have : cas P a b = true := by
        rw [hca]
        rcases e2.mp d2 with r | r
        · rw [decide_eq_true r, Bool.true_or]
        · rw [decide_eq_true r, Bool.or_true]
      rw [this]; rfl
    · rw [hca, decide_eq_false (fun r => d2 (e2.mpr (Or.inl r))), decide_eq_false (fun r => d2 (e2.mpr (Or.inr r)))]; rfl
  have f74 : psg P a b = false → X 74 0 0 [.ref 55, .int (nI p), .int (nI (a + 64 * b + 4096 * pr)), .int (nI a), .int (nI b), .int (nI q), .int (nI P.2.1), .int (nI (P.1 a)), .int (bI (pwn P a))] [] M := fun h => l74 _ _ _ _ _ ⟨rfl, vX13_make_74 hW (f75 0 (by rw [h]; rfl))⟩
  have f52 : ∀ z : Int32, z = bI (pwn P a) → X 52 0 0 [.ref 55, .int (nI p), .int (nI (a + 64 * b + 4096 * pr)), .int (nI a), .int (nI b), .int (nI q), .int (nI P.2.1), .int (nI (P.1 a))] [.int z] M := by
    intro z hz
    subst hz
    refine l52 _ _ _ _ _ ⟨rfl, vX13_make_52 hW ⟨fun d => f74 (by unfold psg; rw [bI_0.mp d]; rfl), fun d => ?_⟩⟩
    refine c_takesInPassing hW hP0 (by omega) ha hb (fun t => ?_) (fun t => ?_)
    · refine vkX13_make_67 hW ⟨fun y => absurd y (by decide), fun _ => f75 1 ?_⟩
      unfold psg
      rw [bI_n.mp d, tipB_t.mpr t]; rfl
    · refine vkX13_make_67 hW ⟨fun _ => f74 ?_, fun y => absurd rfl y⟩
      unfold psg
      have : tipB P a b = false := by
        cases h : tipB P a b with
        | false => rfl
        | true => exact absurd (tipB_t.mp h) t
      rw [this, Bool.and_false]
  refine l0 _ _ _ _ _ ⟨rfl, vX13_make_0 hW (c_fromOf hW (by omega) ?_)⟩
  rw [show (a + 64 * b + 4096 * pr) % 64 = a by omega]
  refine vkX13_make_4 hW (c_toOf hW (by omega) ?_)
  rw [show (a + 64 * b + 4096 * pr) / 64 % 64 = b by omega]
  refine vkX13_make_9 hW ?_
  rw [show nI p + (64 : Int32) = nI (p + 64) from nI_add p 64, nI_clamp (by omega), hS, nI_add p a, nI_clamp (by omega), hBa, show nI p + (69 : Int32) = nI (p + 69) from nI_add p 69, ← hqd]
  refine ⟨vp_in_nI (by omega) (by omega), fun y26 e26 => ⟨vp_in_nI (by omega) (by omega), fun y36 e36 => ?_⟩⟩
  subst e26
  subst e36
  refine c_kindOf hW _ (by omega) ?_
  have e1 : nI (kd (P.1 a)) = (1 : Int32) ↔ kd (P.1 a) = 1 := nI_eq (b := 1) (by omega) (by decide)
  refine vkX13_make_43 hW ⟨fun d => f52 1 ?_, fun d => f52 0 ?_⟩
  · unfold pwn
    rw [decide_eq_true (e1.mp d)]; rfl
  · unfold pwn
    rw [decide_eq_false (fun r => d (e1.mpr r))]; rfl
