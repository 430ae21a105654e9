/-! THE TAPES -/
theorem c_putNumber {mc ms : Nat} {M : zM} {g : Nat} (hW : zWd M g) (x1 : Int32) (p : Nat) (hp : p + 4 ≤ 8180) {Q : zQt} (hq : ∀ N, zSm [24] M N → (∀ i, N.1 24 i = if p ≤ i ∧ i < p + 4 then nI (tb x1 (i - p)) else M.1 24 i) → Q none N) : wX11_putNumber mc ms [.ref 16, .int x1, .int (nI p)] M Q := by
  refine ⟨⟨Nat.le_of_ble_eq_true rfl, rfl⟩, fun X h0 h2 => ?_⟩
  have loop : ∀ (n k : Nat) (N : zM), k + n = 4 → zSm [24] M N → (∀ i, N.1 24 i = if p ≤ i ∧ i < p + k then nI (tb x1 (i - p)) else M.1 24 i) → X 2 0 0 [.ref 16, .int x1, .int (nI p), .int (nI k)] [] N := by
    intro n
    induction n with
    | zero =>
      intro k N hk hs hN
      obtain rfl : k = 4 := by omega
      exact h2 _ _ _ _ _ ⟨rfl, vX11_putNumber_2 (hs.wd hW) ⟨fun _ => hq N hs hN, fun c => absurd (by decide) c⟩⟩
    | succ n ih =>
      intro k N hk hs hN
      have hk4 : k < 4 := by omega
      refine h2 _ _ _ _ _ ⟨rfl, vX11_putNumber_2 (hs.wd hW) ⟨fun c => absurd c (nI_ge (a := k) (b := 4) hk4 (by decide)), fun _ => ?_⟩⟩
      rw [nI_add, tb_char x1 k hk4, nI_clamp (by omega), nI_1]
      refine ⟨vp_in_nI (by omega) (by omega), fun M28 e28 => ?_⟩
      subst e28
      refine ih (k + 1) _ (by omega) (hs.tr (zSm.I (by decide))) (fun i => ?_)
      rw [zsI_at]
      by_cases h1 : i = p + k
      · rw [if_pos ⟨rfl, h1⟩, if_pos (by omega), show i - p = k by omega]
      · rw [if_neg (fun q => h1 q.2), hN i]
        by_cases h2 : p ≤ i ∧ i < p + k
        · rw [if_pos h2, if_pos (by omega)]
        · rw [if_neg h2, if_neg (by omega)]
  refine h0 _ _ _ _ _ ⟨rfl, vX11_putNumber_0 hW ?_⟩
  exact loop 4 0 M rfl zSm.rf (fun i => by rw [if_neg (by omega)])
/-- the twenty bytes of five numbers -/
def tb5 (x : Nat → Int32) (j : Nat) : Nat := tb (x (j / 4)) (j % 4)
def x5 (a b c d e : Int32) : Nat → Int32 := fun q => match q with
  | 0 => a
  | 1 => b
  | 2 => c
  | 3 => d
  | _ => e
theorem c_tape {mc ms : Nat} {M : zM} {g : Nat} (hW : zWd M g) (a b c d e : Int32) (n : Nat) (hn : M.1 16 9 = nI n) (hp : n + 20 ≤ 8180) {Q : zQt} (hq : ∀ N, zSm [16, 24] M N → (∀ j, N.1 16 j = if j = 9 then nI (n + 20) else M.1 16 j) → (∀ i, N.1 24 i = if n ≤ i ∧ i < n + 20 then nI (tb5 (x5 a b c d e) (i - n)) else M.1 24 i) → Q (some (.int 1)) N) : wX11_tape mc ms [.ref 16, .int a, .int b, .int c, .int d, .int e] M Q := by
  refine ⟨⟨Nat.le_of_ble_eq_true rfl, rfl⟩, fun X h0 => ?_⟩
  refine h0 _ _ _ _ _ ⟨rfl, vX11_tape_0 hW ?_⟩
  rw [hn, show nI n + (20 : Int32) = nI (n + 20) from nI_add n 20]
  refine ⟨fun _ => ?_, fun c => absurd (nI_le hp (by omega)) c⟩
  refine c_putNumber hW a n (by omega) (fun N1 s1 e1 => ?_)
  have g1 : N1.1 16 9 = nI n := by rw [s1.i (by decide)]; exact hn
  refine vkX11_tape_24 (s1.wd hW) ?_
  rw [g1, show nI n + (4 : Int32) = nI (n + 4) from nI_add n 4]
  refine c_putNumber (s1.wd hW) b (n + 4) (by omega) (fun N2 s2 e2 => ?_)
  have g2 : N2.1 16 9 = nI n := by rw [s2.i (by decide)]; exact g1
  refine vkX11_tape_35 (s2.wd (s1.wd hW)) ?_
  rw [g2, show nI n + (8 : Int32) = nI (n + 8) from nI_add n 8]
  refine c_putNumber (s2.wd (s1.wd hW)) c (n + 8) (by omega) (fun N3 s3 e3 => ?_)
  have g3 : N3.1 16 9 = nI n := by rw [s3.i (by decide)]; exact g2
  have w3 := s3.wd (s2.wd (s1.wd hW))
  refine vkX11_tape_47 w3 ?_
  rw [g3, show nI n + (12 : Int32) = nI (n + 12) from nI_add n 12]
  refine c_putNumber w3 d (n + 12) (by omega) (fun N4 s4 e4 => ?_)
  have g4 : N4.1 16 9 = nI n := by rw [s4.i (by decide)]; exact g3
  have w4 := s4.wd w3
  refine vkX11_tape_60 w4 ?_
  rw [g4, show nI n + (16 : Int32) = nI (n + 16) from nI_add n 16]
  refine c_putNumber w4 e (n + 16) (by omega) (fun N5 s5 e5 => ?_)
  have g5 : N5.1 16 9 = nI n := by rw [s5.i (by decide)]; exact g4
  have w5 := s5.wd w4
  refine vkX11_tape_73 w5 (fun M81 e81 => ?_)
  rw [g5, show nI n + (20 : Int32) = nI (n + 20) from nI_add n 20] at e81
  subst e81
  have sA : zSm [24] M N5 := (((s1.tr s2).tr s3).tr s4).tr s5
  refine hq _ ((sA.mono (by decide)).tr (zSm.I (by decide))) (fun j => ?_) (fun i => ?_)
  · rw [zsI_at, sA.i (by decide)]
    by_cases h : j = 9
    · rw [if_pos ⟨rfl, h⟩, if_pos h]
    · rw [if_neg (fun q => h q.2), if_neg h]
  · rw [zsI_at, if_neg (fun q => absurd q.1 (by decide)), e5, e4, e3, e2, e1]
    by_cases hi : n ≤ i ∧ i < n + 20
    · rw [if_pos hi]
      unfold tb5
      rcases (show (i - n) / 4 = 0 ∨ (i - n) / 4 = 1 ∨ (i - n) / 4 = 2 ∨ (i - n) / 4 = 3 ∨ (i - n) / 4 = 4 by omega) with q | q | q | q | q
      · rw [if_neg (by omega), if_neg (by omega), if_neg (by omega), if_neg (by omega), if_pos (by omega), q, show (i - n) % 4 = i - n by omega]; rfl
      · rw [if_neg (by omega), if_neg (by omega), if_neg (by omega), if_pos (by omega), q, show (i - n) % 4 = i - (n + 4) by omega]; rfl
      · rw [if_neg (by omega), if_neg (by omega), if_pos (by omega), q, show (i - n) % 4 = i - (n + 8) by omega]; rfl
      · rw [if_neg (by omega), if_pos (by omega), q, show (i - n) % 4 = i - (n + 12) by omega]; rfl
      · rw [if_pos (by omega), q, show (i - n) % 4 = i - (n + 16) by omega]; rfl
    · rw [if_neg hi, if_neg (by omega), if_neg (by omega), if_neg (by omega), if_neg (by omega), if_neg (by omega)]
/-! the reference's -/
/-- byte k of a number, as a byte row keeps it -/
def rb (n : Int32) (k : Nat) : Int32 := (n >>> (((8 : Int32) * nI (3 - k)) &&& 31)).toInt8.toInt32
theorem rb_nar (x : Int32) : vp_nar .byte x.toInt8.toInt32 = x.toInt8.toInt32 := pk_vb x
theorem c_four {mc ms : Nat} {M : zM} (hW : zFix M) (x1 : Int32) (p : Nat) (hn : M.1 55 2 = nI p) (hp : p + 4 ≤ 8200) {Q : zQt} (hq : ∀ N, zSm [55, 56] M N → (∀ j, N.1 55 j = if j = 2 then nI (p + 4) else M.1 55 j) → (∀ i, N.1 56 i = if p ≤ i ∧ i < p + 4 then rb x1 (i - p) else M.1 56 i) → Q none N) : wX13_four mc ms [.ref 55, .int x1] M Q := by
  refine ⟨⟨Nat.le_of_ble_eq_true rfl, rfl⟩, fun X h0 h2 => ?_⟩
  have loop : ∀ (n k : Nat) (N : zM), k + n = 4 → zSm [55, 56] M N → (∀ j, N.1 55 j = if j = 2 then nI (p + k) else M.1 55 j) → (∀ i, N.1 56 i = if p ≤ i ∧ i < p + k then rb x1 (i - p) else M.1 56 i) → X 2 0 0 [.ref 55, .int x1, .int (nI n + (-1))] [] N := by
    intro n
    induction n with
    | zero =>
      intro k N hk hs hN hN2
      obtain rfl : k = 4 := by omega
      exact h2 _ _ _ _ _ ⟨rfl, vX13_four_2 (hs.fix hW) ⟨fun _ => hq N hs hN hN2, fun c => absurd (by decide) c⟩⟩
    | succ n ih =>
      intro k N hk hs hN hN2
      rw [pk_m1]
      refine h2 _ _ _ _ _ ⟨rfl, vX13_four_2 (hs.fix hW) ⟨fun c => absurd c (nI_pos (by omega)), fun _ => ?_⟩⟩
      have h55 : N.1 55 2 = nI (p + k) := by rw [hN, if_pos rfl]
      rw [h55, rb_nar, nI_clamp (by omega)]
      refine ⟨vp_in_nI (by omega) (by omega), fun M21 e21 M29 e29 => ?_⟩
      have h21 : M21.1 55 2 = nI (p + k) := by rw [e21, zsI_at, if_neg (fun q => absurd q.1 (by decide)), h55]
      rw [h21, nI_1] at e29
      subst e29
      subst e21
      refine ih (k + 1) _ (by omega) ((hs.tr (zSm.I (by decide))).tr (zSm.I (by decide))) (fun j => ?_) (fun i => ?_)
      · rw [zsI_at]
        by_cases h : j = 2
        · rw [if_pos ⟨rfl, h⟩, if_pos h]; rfl
        · rw [if_neg (fun q => h q.2), if_neg h, zsI_at, if_neg (fun q => absurd q.1 (by decide)), hN, if_neg h]
      · rw [zsI_at, if_neg (fun q => absurd q.1 (by decide)), zsI_at]
        by_cases h1 : i = p + k
        · rw [if_pos ⟨rfl, h1⟩, if_pos (by omega), show i - p = k by omega]
          unfold rb
          rw [show 3 - k = n by omega]
        · rw [if_neg (fun q => h1 q.2), hN2]
          by_cases h2 : p ≤ i ∧ i < p + k
          · rw [if_pos h2, if_pos (by omega)]
          · rw [if_neg h2, if_neg (by omega)]
  refine h0 _ _ _ _ _ ⟨rfl, vX13_four_0 hW ?_⟩
  exact loop 4 0 M rfl zSm.rf (fun j => by by_cases h : j = 2 <;> simp [h, hn]) (fun i => by rw [if_neg (by omega)])
