/-! LEGAL MOVES: the reference's isLegal, hasMove, fill -/
def lgl (P : Ps) (a b : Nat) : Prop := gos P a b ∧ ¬ chk (mkB P a b 0) P.2.1
/-- only the board at place q of the row of those looked ahead to has changed -/
def scr (M N : zM) (q : Nat) : Prop := zSm [65] M N ∧ ∀ i, ¬ (q ≤ i ∧ i < q + 69) → N.1 65 i = M.1 65 i
theorem scr.rf {M : zM} {q : Nat} : scr M M q := ⟨zSm.rf, fun _ _ => rfl⟩
theorem scr.tr {M N K : zM} {q : Nat} (h : scr M N q) (h2 : scr N K q) : scr M K q := ⟨h.1.tr h2.1, fun i hi => (h2.2 i hi).trans (h.2 i hi)⟩
theorem sl.scr {M N : zM} {q : Nat} {f : Nat → Int32} (h : sl M q N f) : scr M N q := ⟨h.1, fun i hi => by rw [h.2, if_neg hi]⟩
theorem rPs_off {M N : zM} {p q : Nat} {P : Ps} (hq : ∀ i, i < q → N.1 65 i = M.1 65 i) (hpq : p + 69 ≤ q) (h : rPs M p P) : rPs N p P := by
  obtain ⟨h1, ⟨h2, h2'⟩, ⟨h3, h3'⟩, ⟨h4, h4'⟩, ⟨h5, h5'⟩, h6, h6'⟩ := h
  exact ⟨fun s hs => ⟨by rw [hq _ (by omega)]; exact (h1 s hs).1, (h1 s hs).2⟩, ⟨by rw [hq _ (by omega)]; exact h2, h2'⟩, ⟨by rw [hq _ (by omega)]; exact h3, h3'⟩, ⟨by rw [hq _ (by omega)]; exact h4, h4'⟩, ⟨by rw [hq _ (by omega)]; exact h5, h5'⟩, by rw [hq _ (by omega)]; exact h6, h6'⟩
theorem cas_home {P : Ps} {a b : Nat} (hc : P.2.1 ≤ 1) (h : gos P a b) (hk : cas P a b = true) : a = 4 ∨ a = 60 := by
  unfold cas at hk
  simp only [Bool.and_eq_true, Bool.or_eq_true, decide_eq_true_eq] at hk
  obtain ⟨k6, hab⟩ := hk
  rcases h.2.2.2.2 (by rw [k6]; decide) with q | q
  · exfalso
    have := q.2.2.2.2.1 k6
    unfold aI dF dR at this
    obtain ⟨h1, h2⟩ := this
    split at h1 <;> split at h2 <;> omega
  · have := q.2.1
    omega
set_option maxHeartbeats 4000000 in
theorem c_isLegal {mc ms : Nat} {M : zM} (hW : zFix M) {p : Nat} {P : Ps} (hP : rPs M p P) (hp : p + 138 ≤ 414) {a b : Nat} (ha : a < 64) (hb : b < 64) (hcl : P.2.2.2.2.1 + 1 < 2 ^ 30) (hnm : P.2.2.2.2.2 + 1 < 2 ^ 30) {Q : zQt} (q1 : ∀ N, scr M N (p + 69) → lgl P a b → Q (some (.int 1)) N) (q0 : ∀ N, scr M N (p + 69) → ¬ lgl P a b → Q (some (.int 0)) N) : wX13_isLegal mc ms [.ref 55, .int (nI p), .int (nI a), .int (nI b)] M Q := by
  refine ⟨⟨Nat.le_of_ble_eq_true rfl, rfl⟩, fun X l0 l48 => ?_⟩
  refine l0 _ _ _ _ _ ⟨rfl, vX13_isLegal_0 hW (c_goes hW hP (by omega) ha hb (fun hg => ?_) (fun hg => ?_))⟩
  · refine vkX13_isLegal_7 hW ⟨fun d => absurd d (by decide), fun _ => ?_⟩
    rw [show (64 : Int32) * nI b = nI (64 * b) from pk_mul 64 b, nI_add, show a + 64 * b = a + 64 * b + 4096 * 0 by omega]
    refine c_make hW hP hp ha hb (by omega) (fun h => cas_home hP.2.1.2 hg h) hcl hnm (fun N f hs hN => ?_)
    have hWN := hs.1.fix hW
    refine vkX13_isLegal_23 hWN ?_
    rw [show nI p + (64 : Int32) = nI (p + 64) from nI_add p 64, nI_clamp (by omega), hs.off (by omega), hP.2.1.1, show nI p + (69 : Int32) = nI (p + 69) from nI_add p 69]
    refine ⟨vp_in_nI (by omega) (by omega), c_isChecked hWN hN.1 (by omega) hP.2.1.2 (fun h => ?_) (fun h => ?_)⟩
    · refine vkX13_isLegal_40 hWN ⟨fun d => absurd d (by decide), fun _ => ?_⟩
      exact l48 _ _ _ _ _ ⟨rfl, vX13_isLegal_48 hWN ⟨rfl, q0 N hs.scr (fun q => q.2 h)⟩⟩
    · refine vkX13_isLegal_40 hWN ⟨fun _ => ?_, fun d => absurd rfl d⟩
      exact l48 _ _ _ _ _ ⟨rfl, vX13_isLegal_48 hWN ⟨rfl, q1 N hs.scr ⟨hg, h⟩⟩⟩
  · exact vkX13_isLegal_7 hW ⟨fun _ => q0 M scr.rf (fun q => hg q.1), fun d => absurd rfl d⟩
/-- some legal move is there -/
def hasM (P : Ps) : Prop := ∃ a b, a < 64 ∧ b < 64 ∧ lgl P a b
set_option maxHeartbeats 4000000 in
theorem c_hasMove {mc ms : Nat} {M : zM} (hW : zFix M) {y : Nat} (hy : y ≤ 4) {P : Ps} (hP : rPs M (69 * y) P) (hcl : P.2.2.2.2.1 + 1 < 2 ^ 30) (hnm : P.2.2.2.2.2 + 1 < 2 ^ 30) {Q : zQt} (q1 : ∀ N, scr M N (69 * y + 69) → hasM P → Q (some (.int 1)) N) (q0 : ∀ N, scr M N (69 * y + 69) → ¬ hasM P → Q (some (.int 0)) N) : wX13_hasMove mc ms [.ref 55, .int (nI y)] M Q := by
  refine ⟨⟨Nat.le_of_ble_eq_true rfl, rfl⟩, fun X l0 l7 l16 l65 => ?_⟩
  have wd : ∀ N, scr M N (69 * y + 69) → zFix N ∧ rPs N (69 * y) P := fun N hs => ⟨hs.1.fix hW, rPs_off (q := 69 * y + 69) (fun i hi => hs.2 i (by omega)) (by omega) hP⟩
  have outer : ∀ (n i : Nat) (N : zM), i + n = 64 → scr M N (69 * y + 69) → (∀ a b, a < i → b < 64 → ¬ lgl P a b) → X 7 0 0 [.ref 55, .int (nI (69 * y)), .int (nI i)] [] N := by
    intro n
    induction n with
    | zero =>
      intro i N hi hs hno
      obtain rfl : i = 64 := by omega
      refine l7 _ _ _ _ _ ⟨rfl, vX13_hasMove_7 (wd N hs).1 ⟨fun _ => q0 N hs ?_, fun d => absurd (by decide) d⟩⟩
      rintro ⟨a, b, ha, hb, h⟩
      exact hno a b ha hb h
    | succ n ih =>
      intro i N hi hs hno
      have hi64 : i < 64 := by omega
      have f65 : ∀ N, scr M N (69 * y + 69) → (∀ b, b < 64 → ¬ lgl P i b) → X 65 0 0 [.ref 55, .int (nI (69 * y)), .int (nI i)] [] N := by
        intro N hs h
        refine l65 _ _ _ _ _ ⟨rfl, vX13_hasMove_65 (wd N hs).1 ?_⟩
        rw [nI_1]
        refine ih (i + 1) N (by omega) hs (fun a b ha hb => ?_)
        rcases (show a < i ∨ a = i by omega) with q | q
        · exact hno a b q hb
        · rw [q]; exact h b hb
      have inner : ∀ (n j : Nat) (N : zM), j + n = 64 → scr M N (69 * y + 69) → (∀ b, b < j → ¬ lgl P i b) → X 16 0 0 [.ref 55, .int (nI (69 * y)), .int (nI i), .int (nI j)] [] N := by
        intro n
        induction n with
        | zero =>
          intro j N hj hs h
          obtain rfl : j = 64 := by omega
          exact l16 _ _ _ _ _ ⟨rfl, vX13_hasMove_16 (wd N hs).1 ⟨fun _ => f65 N hs h, fun d => absurd (by decide) d⟩⟩
        | succ n ih2 =>
          intro j N hj hs h
          obtain ⟨hWN, hPN⟩ := wd N hs
          have hj64 : j < 64 := by omega
          obtain ⟨hBi, hBm⟩ := hPN.1 i hi64
          refine l16 _ _ _ _ _ ⟨rfl, vX13_hasMove_16 hWN ⟨fun d => absurd d (nI_ge (a := j) (b := 64) hj64 (by decide)), fun _ => ?_⟩⟩
          rw [nI_add, nI_clamp (by omega), hBi]
          refine ⟨vp_in_nI (by omega) (by omega), c_sideOf hWN _ (by omega) ?_⟩
          refine vkX13_hasMove_34 hWN ?_
          rw [show nI (69 * y) + (64 : Int32) = nI (69 * y + 64) from nI_add _ 64, nI_clamp (by omega), hPN.2.1.1]
          have sb := sdI_bd (P.1 i)
          have hS1 := hPN.2.1.2
          have e : iI (sdI (P.1 i)) = nI P.2.1 ↔ sdI (P.1 i) = P.2.1 := by rw [iI_nat]; exact iI_eq (by omega) (by omega) (by omega) (by omega)
          refine ⟨vp_in_nI (by omega) (by omega), fun d => ?_, fun d => f65 N hs (fun b _ q => d (e.mpr q.1.1))⟩
          refine c_isLegal hWN hPN (by omega) hi64 hj64 hcl hnm (fun K hk hl => ?_) (fun K hk hl => ?_)
          · exact vkX13_hasMove_54 (wd K (hs.tr hk)).1 ⟨fun z => absurd z (by decide), fun _ => q1 K (hs.tr hk) ⟨i, j, hi64, hj64, hl⟩⟩
          · refine vkX13_hasMove_54 (wd K (hs.tr hk)).1 ⟨fun _ => ?_, fun z => absurd rfl z⟩
            rw [nI_1]
            refine ih2 (j + 1) K (by omega) (hs.tr hk) (fun b hb => ?_)
            rcases (show b < j ∨ b = j by omega) with q | q
            · exact h b q
            · rw [q]; exact hl
      exact l7 _ _ _ _ _ ⟨rfl, vX13_hasMove_7 (wd N hs).1 ⟨fun d => absurd d (nI_ge (a := i) (b := 64) hi64 (by decide)), fun _ => inner 64 0 N rfl hs (fun b hb => absurd hb (by omega))⟩⟩
  refine l0 _ _ _ _ _ ⟨rfl, vX13_hasMove_0 hW ?_⟩
  rw [show (69 : Int32) * nI y = nI (69 * y) from pk_mul 69 y]
  exact outer 64 0 M rfl scr.rf (fun a b ha => absurd ha (by omega))
