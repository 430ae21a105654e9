/-! THE REFERENCE'S show, add, play -/
theorem rSh_of {M N : zM} {P : Ps} (h : fld M N 0 (mvs P)) (hP : rPs M 0 P) : rSh N P := by
  refine ⟨rPs_off (q := 69) (fun i hi => h.2.1 i (by omega)) (by omega) hP, fun k v hk => ?_, ?_⟩
  · have := h.2.2.1 k v hk
    rwa [Nat.mul_zero, Nat.zero_add] at this
  · rw [h.2.2.2.2 0, if_pos rfl]
/-- clock and number can still be counted on -/
def psFit (P : Ps) : Prop := P.2.2.2.2.1 + 1 < 2 ^ 30 ∧ P.2.2.2.2.2 + 1 < 2 ^ 30 ∧ (mvs P).length ≤ 330
set_option maxHeartbeats 4000000 in
theorem c_show {mc ms : Nat} {M : zM} (hW : zFix M) {g n : Nat} (hg : M.1 55 6 = nI g) (hg1 : g ≤ 1) (hm : M.1 58 g = nI (n + 1)) (hn : n < 601) {P : Ps} (hP : ∀ k, k < 69 → M.1 57 (69 * (601 * g + n) + k) = psI P k) (hO : psOk P) (hF : psFit P) {Q : zQt} (hq : ∀ N, zSm [65, 66, 67] M N → rSh N P → Q none N) : wX13_show mc ms [.ref 55] M Q := by
  refine ⟨⟨Nat.le_of_ble_eq_true rfl, rfl⟩, fun X l0 l22 => ?_⟩
  have loop : ∀ (r k : Nat) (N : zM), k + r = 69 → zSm [65] M N → (∀ t, t < k → N.1 65 t = psI P t) → X 22 0 0 [.ref 55, .int (nI (69 * (601 * g + n))), .int (nI k)] [] N := by
    intro r
    induction r with
    | zero =>
      intro k N hk hs h
      obtain rfl : k = 69 := by omega
      have hWN := hs.fix hW
      have hPN : rPs N 0 P := rPs_iff.mpr ⟨fun k hk => by rw [Nat.zero_add]; exact h k hk, hO⟩
      refine l22 _ _ _ _ _ ⟨rfl, vX13_show_22 hWN ⟨fun _ => ?_, fun d => absurd (by decide) d⟩⟩
      refine c_fill hWN (y := 0) (by omega) hPN hF.1 hF.2.1 hF.2.2 (fun K hK => ?_)
      exact vkX13_show_53 (hK.1.fix hWN) (hq K ((hs.mono (by decide)).tr hK.1) (rSh_of hK hPN))
    | succ r ih =>
      intro k N hk hs h
      have hk69 : k < 69 := by omega
      have hWN := hs.fix hW
      refine l22 _ _ _ _ _ ⟨rfl, vX13_show_22 hWN ⟨fun d => absurd d (nI_ge (a := k) (b := 69) hk69 (by decide)), fun _ => ?_⟩⟩
      rw [nI_add, nI_clamp (by omega), nI_clamp (by omega), hs.i (by decide), hP k hk69]
      refine ⟨vp_in_nI (by omega) (by omega), vp_in_nI (by omega) (by omega), fun K hK => ?_⟩
      rw [nI_1]
      refine ih (k + 1) K (by omega) (by rw [hK]; exact hs.tr (zSm.I (by decide))) (fun t ht => ?_)
      rw [hK, zsI_at]
      by_cases e : t = k
      · rw [if_pos ⟨rfl, e⟩, e]
      · rw [if_neg (fun q => e q.2), h t (by omega)]
  refine l0 _ _ _ _ _ ⟨rfl, vX13_show_0 hW (c_base hW hg ?_)⟩
  refine vkX13_show_6 hW ?_
  rw [hg, nI_clamp (by omega), hm, nI_add, show nI (601 * g + (n + 1)) - (1 : Int32) = nI (601 * g + n) from pk_sub (a := 601 * g + (n + 1)) (b := 1) (by omega), show (69 : Int32) * nI (601 * g + n) = nI (69 * (601 * g + n)) from pk_mul 69 _]
  refine ⟨vp_in_nI (by omega) (by omega), fun y hy => ?_⟩
  rw [hy]
  exact loop 69 0 M rfl zSm.rf (fun t ht => absurd ht (by omega))
theorem c_verdict {mc ms : Nat} {M : zM} (hW : zFix M) {g n v : Nat} (hg : M.1 55 6 = nI g) (hg1 : g ≤ 1) (hm : M.1 58 g = nI (n + 1)) (hn : n < 601) (hv : M.1 64 (601 * g + n) = nI v) {Q : zQt} (hq : Q (some (.int (nI v))) M) : wX13_verdict mc ms [.ref 55] M Q := by
  refine ⟨⟨Nat.le_of_ble_eq_true rfl, rfl⟩, fun X l0 => ?_⟩
  refine l0 _ _ _ _ _ ⟨rfl, vX13_verdict_0 hW (c_base hW hg ?_)⟩
  refine vkX13_verdict_8 hW ?_
  rw [hg, nI_clamp (by omega), hm, nI_add, show nI (601 * g + (n + 1)) - (1 : Int32) = nI (601 * g + n) from pk_sub (a := 601 * g + (n + 1)) (b := 1) (by omega), nI_clamp (by omega), hv]
  exact ⟨vp_in_nI (by omega) (by omega), vp_in_nI (by omega) (by omega), hq⟩
theorem c_hasEnded {mc ms : Nat} {M : zM} (hW : zFix M) {g n v : Nat} (hg : M.1 55 6 = nI g) (hg1 : g ≤ 1) (hm : M.1 58 g = nI (n + 1)) (hn : n < 601) (hv : M.1 64 (601 * g + n) = nI v) (hv9 : v < 9) {Q : zQt} (q1 : 0 < v ∧ v < 6 → Q (some (.int 1)) M) (q0 : ¬ (0 < v ∧ v < 6) → Q (some (.int 0)) M) : wX13_hasEnded mc ms [.ref 55] M Q := by
  refine ⟨⟨Nat.le_of_ble_eq_true rfl, rfl⟩, fun X l0 l20 l21 => ?_⟩
  have f20 : ¬ (0 < v ∧ v < 6) → X 20 0 0 [] [] M := fun h => l20 _ _ _ _ _ ⟨rfl, vX13_hasEnded_20 hW (l21 _ _ _ _ _ ⟨rfl, vX13_hasEnded_21 hW ⟨rfl, q0 h⟩⟩)⟩
  have e0 := nI_leI (a := v) (b := 0) (by omega) (by decide)
  have e6 := nI_leI (a := 6) (b := v) (by decide) (by omega)
  refine l0 _ _ _ _ _ ⟨rfl, vX13_hasEnded_0 hW (c_verdict hW hg hg1 hm hn hv ?_)⟩
  refine vkX13_hasEnded_4 hW ⟨fun a => f20 (by have := e0.mp a; omega), fun a => c_verdict hW hg hg1 hm hn hv ?_⟩
  refine vkX13_hasEnded_11 hW ⟨fun b => f20 (by have := e6.mp b; omega), fun b => ?_⟩
  have h1 : ¬ v ≤ 0 := fun q => a (e0.mpr q)
  have h2 : ¬ 6 ≤ v := fun q => b (e6.mpr q)
  exact l21 _ _ _ _ _ ⟨rfl, vX13_hasEnded_21 hW ⟨rfl, q1 ⟨by omega, by omega⟩⟩⟩
/-- the row's entry p: a position, the move that led to it, its count -/
def rEnt (M : zM) (p : Nat) (P : Ps) (m : Int32) (c : Nat) : Prop := (∀ k, k < 69 → M.1 57 (69 * p + k) = psI P k) ∧ M.1 59 p = m ∧ M.1 60 p = nI (mvs P).length ∧ M.1 61 p = bI (chB P) ∧ M.1 62 p = pI (pfl P) ∧ M.1 63 p = nI c ∧ M.1 64 p = nI (vdt P c)
/-- game g: n positions -/
def rGm (M : zM) (g n : Nat) (ps : Nat → Ps) (mv : Nat → Int32) : Prop := M.1 58 g = nI n ∧ ∀ i, i < n → rEnt M (601 * g + i) (ps i) (mv i) (cnt ps i) ∧ psOk (ps i) ∧ psFit (ps i)
def updP (ps : Nat → Ps) (n : Nat) (P : Ps) : Nat → Ps := fun i => if i = n then P else ps i
theorem updP_s {ps : Nat → Ps} {n : Nat} {P : Ps} : updP ps n P n = P := if_pos rfl
theorem updP_n {ps : Nat → Ps} {n : Nat} {P : Ps} {i : Nat} (h : i ≠ n) : updP ps n P i = ps i := if_neg h
theorem cn_congr {f h : Nat → Nat} : ∀ n, (∀ i, i < n → f i = h i) → cn f n = cn h n
  | 0, _ => rfl
  | n + 1, e => by
    show cn f n + f n = cn h n + h n
    rw [cn_congr n (fun i hi => e i (by omega)), e n (by omega)]
theorem cnt_congr {ps qs : Nat → Ps} {i : Nat} (h : ∀ j, j ≤ i → ps j = qs j) : cnt ps i = cnt qs i := by
  unfold cnt
  exact cn_congr _ (fun j hj => by rw [h i (by omega), h j (by omega)])
theorem sameN_le (P R : Ps) : sameN P R ≤ 1 := by unfold sameN; split <;> omega
theorem cnt_le (ps : Nat → Ps) (i : Nat) : cnt ps i ≤ i + 1 := cn_le (fun j => sameN_le _ _) _
theorem vdt_lt (P : Ps) (c : Nat) : vdt P c < 9 := by
  unfold vdt
  split
  · split <;> omega
  · split
    · omega
    · split
      · omega
      · split
        · omega
        · split <;> split <;> omega
/-- outside of entry p of game g nothing of the games has changed -/
def gFr (M N : zM) (g p : Nat) : Prop := zSm [57, 58, 59, 60, 61, 62, 63, 64, 65, 66, 67] M N ∧ (∀ i, ¬ (69 * p ≤ i ∧ i < 69 * p + 69) → N.1 57 i = M.1 57 i) ∧ (∀ i, i ≠ g → N.1 58 i = M.1 58 i) ∧ ∀ i, i ≠ p → N.1 59 i = M.1 59 i ∧ N.1 60 i = M.1 60 i ∧ N.1 61 i = M.1 61 i ∧ N.1 62 i = M.1 62 i ∧ N.1 63 i = M.1 63 i ∧ N.1 64 i = M.1 64 i
theorem gFr.ent {M N : zM} {g p : Nat} (h : gFr M N g p) {q : Nat} (hq : q ≠ p) {P : Ps} {m : Int32} {c : Nat} (he : rEnt M q P m c) : rEnt N q P m c := by
  obtain ⟨h0, h1, h2, h3⟩ := h
  obtain ⟨e0, e1, e2, e3, e4, e5, e6⟩ := he
  obtain ⟨f1, f2, f3, f4, f5, f6⟩ := h3 q hq
  exact ⟨fun k hk => by rw [h1 _ (by omega)]; exact e0 k hk, by rw [f1]; exact e1, by rw [f2]; exact e2, by rw [f3]; exact e3, by rw [f4]; exact e4, by rw [f5]; exact e5, by rw [f6]; exact e6⟩
theorem gFr.other {M N : zM} {g n : Nat} (h : gFr M N g (601 * g + n)) (hg : g ≤ 1) (hn : n < 601) {g' k : Nat} (hg' : g' ≤ 1) (hne : g' ≠ g) (hk : k ≤ 601) {ps : Nat → Ps} {mv : Nat → Int32} (hG : rGm M g' k ps mv) : rGm N g' k ps mv :=
  ⟨by rw [h.2.2.1 g' hne]; exact hG.1, fun i hi => ⟨h.ent (by omega) (hG.2 i hi).1, (hG.2 i hi).2⟩⟩
set_option maxHeartbeats 8000000 in
theorem c_add {mc ms : Nat} {M : zM} (hW : zFix M) {g n : Nat} (hg : M.1 55 6 = nI g) (hg1 : g ≤ 1) (hn : n < 601) {ps : Nat → Ps} {mv : Nat → Int32} (hG : rGm M g n ps mv) {P : Ps} (hP : rPs M 0 P) (hF : psFit P) {m : Int32} {Q : zQt} (hq : ∀ N, gFr M N g (601 * g + n) → rGm N g (n + 1) (updP ps n P) (upd mv n m) → rSh N P → Q none N) : wX13_add mc ms [.ref 55, .int m] M Q := by
  refine ⟨⟨Nat.le_of_ble_eq_true rfl, rfl⟩, fun X l0 l20 l101 l131 l154 => ?_⟩
  obtain ⟨hPI, hO⟩ := rPs_iff.mp hP
  obtain ⟨p, hp⟩ : ∃ p, p = 601 * g + n := ⟨_, rfl⟩
  have hp2 : p < 1202 := by omega
  have loop : ∀ (r k : Nat) (N : zM), k + r = 69 → zSm [57] M N → (∀ i, ¬ (69 * p ≤ i ∧ i < 69 * p + 69) → N.1 57 i = M.1 57 i) → (∀ t, t < k → N.1 57 (69 * p + t) = psI P t) → X 20 0 0 [.ref 55, .int m, .int (nI n), .int (nI p), .int (nI k)] [] N := by
    intro r
    induction r with
    | zero =>
      intro k N hk hs ho h
      obtain rfl : k = 69 := by omega
      have hWN := hs.fix hW
      have hPN : rPs N 0 P := rPs_iff.mpr ⟨fun k hk => by rw [hs.i (by decide)]; exact hPI k hk, hO⟩
      refine l20 _ _ _ _ _ ⟨rfl, vX13_add_20 hWN ⟨fun _ => ?_, fun d => absurd (by decide) d⟩⟩
      refine c_fill hWN (y := 0) (by omega) hPN hF.1 hF.2.1 hF.2.2 (fun K hK => ?_)
      have hWK := hK.1.fix hWN
      have hSK := rSh_of hK hPN
      have ek : ∀ c, c ∉ [65, 66, 67] → c ∉ [57] → K.1 c = M.1 c := fun c h1 h2 => (hK.1.i h1).trans (hs.i h2)
      refine vkX13_add_57 hWK ?_
      rw [nI_clamp (by omega)]
      refine ⟨vp_in_nI (by omega) (by omega), fun K1 hK1 => ⟨vp_in_nI (by omega) (by omega), fun K2 hK2 => ?_⟩⟩
      have s1 : zSm [59, 60, 61, 62, 63, 64, 58] K K1 := by rw [hK1]; exact zSm.I (by decide)
      have s2 : zSm [59, 60, 61, 62, 63, 64, 58] K K2 := s1.tr (by rw [hK2]; exact zSm.I (by decide))
      have sh : ∀ L, zSm [59, 60, 61, 62, 63, 64, 58] K L → rSh L P := fun L hL => ⟨rPs_iff.mpr ⟨fun k hk => by rw [hL.i (by decide)]; exact (rPs_iff.mp hSK.1).1 k hk, hO⟩, fun k v hk => by rw [hL.i (by decide)]; exact hSK.2.1 k v hk, by rw [hL.i (by decide)]; exact hSK.2.2⟩
      have hsz : K1.1 67 0 = nI (mvs P).length := (sh K1 s1).2.2
      have hW2 := s2.fix hWK
      have h2 := sh K2 s2
      rw [show (0 : Int32).toNatClampNeg = 0 from rfl, hsz] at hK2
      rw [show (64 : Int32).toNatClampNeg = 64 from rfl, show K2.1 65 64 = nI P.2.1 from h2.1.2.1.1]
      have f101 : X 101 0 0 [.ref 55, .int (nI n), .int (nI p)] [.int (bI (chB P)), .int (nI p), .ref 61] K2 := by
        refine l101 _ _ _ _ _ ⟨rfl, vX13_add_101 hW2 ?_⟩
        rw [nI_clamp (by omega)]
        refine ⟨vp_in_nI (by omega) (by omega), fun K3 hK3 => ?_⟩
        have s3 : zSm [59, 60, 61, 62, 63, 64, 58] K K3 := s2.tr (by rw [hK3]; exact zSm.I (by decide))
        have hW3 := s3.fix hWK
        refine c_passingFile hW3 (sh K3 s3) hF.2.2 ?_
        refine vkX13_add_111 hW3 ?_
        rw [nI_clamp (by omega)]
        refine ⟨vp_in_nI (by omega) (by omega), fun K4 hK4 => ?_⟩
        have s4 : zSm [59, 60, 61, 62, 63, 64, 58] K K4 := s3.tr (by rw [hK4]; exact zSm.I (by decide))
        have g4 : K4.1 55 6 = nI g := by rw [s4.i (by decide), ek 55 (by decide) (by decide)]; exact hg
        have m4 : K4.1 58 g = nI n := by rw [hK4, zsI_o (by decide), hK3, zsI_o (by decide), hK2, zsI_o (by decide), hK1, zsI_o (by decide), ek 58 (by decide) (by decide)]; exact hG.1
        rw [g4, nI_clamp (by omega), m4, show nI n + (1 : Int32) = nI (n + 1) from nI_1 n]
        refine ⟨vp_in_nI (by omega) (by omega), vp_in_nI (by omega) (by omega), fun K5 hK5 => ?_⟩
        have s5 : zSm [59, 60, 61, 62, 63, 64, 58] K K5 := s4.tr (by rw [hK5]; exact zSm.I (by decide))
        have hW5 := s5.fix hWK
        have g5 : K5.1 55 6 = nI g := by rw [s5.i (by decide), ek 55 (by decide) (by decide)]; exact hg
        have b5 : K5.1 57 = N.1 57 := by rw [s5.i (by decide), hK.1.i (by decide)]
        have c62 : ∀ i, K5.1 62 i = if i = p then pI (pfl P) else M.1 62 i := by
          intro i
          rw [hK5, zsI_o (by decide), hK4, zsI_at]
          by_cases e : i = p
          · rw [if_pos ⟨rfl, e⟩, if_pos e]
          · rw [if_neg (fun q => e q.2), if_neg e, hK3, zsI_o (by decide), hK2, zsI_o (by decide), hK1, zsI_o (by decide), ek 62 (by decide) (by decide)]
        have pos : ∀ j, j ≤ n → (∀ k, k < 69 → K5.1 57 (69 * (601 * g + j) + k) = psI (updP ps n P j) k) ∧ K5.1 62 (601 * g + j) = pI (pfl (updP ps n P j)) := by
          intro j hj
          by_cases e : j = n
          · rw [e, updP_s, ← hp]
            refine ⟨fun k hk => by rw [b5]; exact h k hk, by rw [c62, if_pos rfl]⟩
          · rw [updP_n e]
            refine ⟨fun k hk => by rw [b5, ho _ (by omega)]; exact (hG.2 j (by omega)).1.1 k hk, by rw [c62, if_neg (by omega)]; exact (hG.2 j (by omega)).1.2.2.2.2.1⟩
        have fin : ∀ (r j : Nat), j + r = n + 1 → X 131 0 0 [.ref 55, .int (nI n), .int (nI p), .int (nI (cn (fun j => sameN P (updP ps n P j)) j)), .int (nI j)] [] K5 := by
          intro r
          induction r with
          | zero =>
            intro j hj
            obtain rfl : j = n + 1 := by omega
            have ec : cn (fun j => sameN P (updP ps n P j)) (n + 1) = cnt (updP ps n P) n := by unfold cnt; rw [updP_s]
            have hcl := cnt_le (updP ps n P) n
            rw [ec]
            refine l131 _ _ _ _ _ ⟨rfl, vX13_add_131 hW5 ⟨fun _ => ?_, fun d => absurd ((nI_ltI (a := n) (b := n + 1) (by omega) (by omega)).mpr (by omega)) d⟩⟩
            rw [nI_clamp (by omega)]
            refine ⟨vp_in_nI (by omega) (by omega), fun K6 hK6 => ?_⟩
            have s6 : zSm [59, 60, 61, 62, 63, 64, 58] K K6 := s5.tr (by rw [hK6]; exact zSm.I (by decide))
            refine c_verdictOf (s6.fix hWK) (sh K6 s6) hF.2.2 (by omega) ?_
            refine vkX13_add_182 (s6.fix hWK) ?_
            rw [nI_clamp (by omega)]
            refine ⟨vp_in_nI (by omega) (by omega), fun K7 hK7 => ?_⟩
            have s7 : zSm [59, 60, 61, 62, 63, 64, 58] K K7 := s6.tr (by rw [hK7]; exact zSm.I (by decide))
            have b7 : K7.1 57 = N.1 57 := by rw [s7.i (by decide), hK.1.i (by decide)]
            have r59 : ∀ i, K7.1 59 i = if i = p then m else M.1 59 i := by
              intro i
              rw [hK7, zsI_o (by decide), hK6, zsI_o (by decide), hK5, zsI_o (by decide), hK4, zsI_o (by decide), hK3, zsI_o (by decide), hK2, zsI_o (by decide), hK1, zsI_at]
              by_cases e : i = p
              · rw [if_pos ⟨rfl, e⟩, if_pos e]
              · rw [if_neg (fun q => e q.2), if_neg e, ek 59 (by decide) (by decide)]
            have r60 : ∀ i, K7.1 60 i = if i = p then nI (mvs P).length else M.1 60 i := by
              intro i
              rw [hK7, zsI_o (by decide), hK6, zsI_o (by decide), hK5, zsI_o (by decide), hK4, zsI_o (by decide), hK3, zsI_o (by decide), hK2, zsI_at]
              by_cases e : i = p
              · rw [if_pos ⟨rfl, e⟩, if_pos e]
              · rw [if_neg (fun q => e q.2), if_neg e, hK1, zsI_o (by decide), ek 60 (by decide) (by decide)]
            have r61 : ∀ i, K7.1 61 i = if i = p then bI (chB P) else M.1 61 i := by
              intro i
              rw [hK7, zsI_o (by decide), hK6, zsI_o (by decide), hK5, zsI_o (by decide), hK4, zsI_o (by decide), hK3, zsI_at]
              by_cases e : i = p
              · rw [if_pos ⟨rfl, e⟩, if_pos e]
              · rw [if_neg (fun q => e q.2), if_neg e, hK2, zsI_o (by decide), hK1, zsI_o (by decide), ek 61 (by decide) (by decide)]
            have r62 : ∀ i, K7.1 62 i = if i = p then pI (pfl P) else M.1 62 i := by
              intro i
              rw [hK7, zsI_o (by decide), hK6, zsI_o (by decide)]
              exact c62 i
            have r63 : ∀ i, K7.1 63 i = if i = p then nI (cnt (updP ps n P) n) else M.1 63 i := by
              intro i
              rw [hK7, zsI_o (by decide), hK6, zsI_at]
              by_cases e : i = p
              · rw [if_pos ⟨rfl, e⟩, if_pos e]
              · rw [if_neg (fun q => e q.2), if_neg e, hK5, zsI_o (by decide), hK4, zsI_o (by decide), hK3, zsI_o (by decide), hK2, zsI_o (by decide), hK1, zsI_o (by decide), ek 63 (by decide) (by decide)]
            have r64 : ∀ i, K7.1 64 i = if i = p then nI (vdt P (cnt (updP ps n P) n)) else M.1 64 i := by
              intro i
              rw [hK7, zsI_at]
              by_cases e : i = p
              · rw [if_pos ⟨rfl, e⟩, if_pos e]
              · rw [if_neg (fun q => e q.2), if_neg e, hK6, zsI_o (by decide), hK5, zsI_o (by decide), hK4, zsI_o (by decide), hK3, zsI_o (by decide), hK2, zsI_o (by decide), hK1, zsI_o (by decide), ek 64 (by decide) (by decide)]
            have r58 : ∀ i, K7.1 58 i = if i = g then nI (n + 1) else M.1 58 i := by
              intro i
              rw [hK7, zsI_o (by decide), hK6, zsI_o (by decide), hK5, zsI_at]
              by_cases e : i = g
              · rw [if_pos ⟨rfl, e⟩, if_pos e]
              · rw [if_neg (fun q => e q.2), if_neg e, hK4, zsI_o (by decide), hK3, zsI_o (by decide), hK2, zsI_o (by decide), hK1, zsI_o (by decide), ek 58 (by decide) (by decide)]
            have fr : gFr M K7 g (601 * g + n) := by
              rw [← hp]
              refine ⟨((hs.mono (by decide)).tr (hK.1.mono (by decide))).tr (s7.mono (by decide)), fun i hi => by rw [b7]; exact ho i hi, fun i hi => by rw [r58, if_neg hi], fun i hi => ?_⟩
              rw [r59, r60, r61, r62, r63, r64]
              simp only [if_neg hi]
              exact ⟨trivial, trivial, trivial, trivial, trivial, trivial⟩
            refine hq K7 fr ⟨by rw [r58, if_pos rfl], fun i hi => ?_⟩ (sh K7 s7)
            by_cases e : i = n
            · rw [e, updP_s, pk_us, ← hp]
              exact ⟨⟨fun k hk => by rw [b7]; exact h k hk, by rw [r59, if_pos rfl], by rw [r60, if_pos rfl], by rw [r61, if_pos rfl], by rw [r62, if_pos rfl], by rw [r63, if_pos rfl], by rw [r64, if_pos rfl]⟩, hO, hF⟩
            · rw [updP_n e, pk_un e, cnt_congr (qs := ps) (fun j hj => updP_n (by omega))]
              exact ⟨fr.ent (by omega) (hG.2 i (by omega)).1, (hG.2 i (by omega)).2⟩
          | succ r ih =>
            intro j hj
            have f154 : ∀ e, e = sameN P (updP ps n P j) → X 154 0 0 [.ref 55, .int (nI n), .int (nI p), .int (nI j)] [.int (nI e), .int (nI (cn (fun j => sameN P (updP ps n P j)) j))] K5 := by
              intro e he
              refine l154 _ _ _ _ _ ⟨rfl, vX13_add_154 hW5 ?_⟩
              rw [nI_1, nI_add, he]
              exact ih (j + 1) (by omega)
            refine l131 _ _ _ _ _ ⟨rfl, vX13_add_131 hW5 ⟨fun d => absurd ((nI_ltI (a := n) (b := j) (by omega) (by omega)).mp d) (by omega), fun _ => ?_⟩⟩
            have pn := pos n (Nat.le_refl n)
            rw [updP_s] at pn
            have pj := pos j (by omega)
            refine c_isSame hW5 g5 hg1 hn (by omega) pn.1 pj.1 pn.2 pj.2 (fun hh => ?_) (fun hh => ?_)
            · refine vkX13_add_146 hW5 ⟨fun d => absurd d (by decide), fun _ => f154 1 ?_⟩
              unfold sameN; rw [if_pos hh]
            · refine vkX13_add_146 hW5 ⟨fun _ => f154 0 ?_, fun d => absurd rfl d⟩
              unfold sameN; rw [if_neg hh]
        exact fin (n + 1) 0 (by omega)
      refine c_isChecked hW2 (p := 0) h2.1.1 (by omega) hO.2.1 (fun hc => ?_) (fun hc => ?_)
      · refine vkX13_add_93 hW2 ⟨fun d => absurd d (by decide), fun _ => ?_⟩
        rw [chB_t.mpr hc] at f101
        exact f101
      · refine vkX13_add_93 hW2 ⟨fun _ => ?_, fun d => absurd rfl d⟩
        rw [chB_f.mpr hc] at f101
        exact f101
    | succ r ih =>
      intro k N hk hs ho h
      have hk69 : k < 69 := by omega
      have hWN := hs.fix hW
      refine l20 _ _ _ _ _ ⟨rfl, vX13_add_20 hWN ⟨fun d => absurd d (nI_ge (a := k) (b := 69) hk69 (by decide)), fun _ => ?_⟩⟩
      rw [show (69 : Int32) * nI p = nI (69 * p) from pk_mul 69 p, nI_add, nI_clamp (by omega), nI_clamp (by omega)]
      refine ⟨vp_in_nI (by omega) (by omega), vp_in_nI (by omega) (by omega), fun K hK => ?_⟩
      rw [nI_1]
      have ev : N.1 65 k = psI P k := by
        rw [hs.i (by decide)]
        have := hPI k hk69
        rwa [Nat.zero_add] at this
      rw [ev] at hK
      refine ih (k + 1) K (by omega) (by rw [hK]; exact hs.tr (zSm.I (by decide))) (fun i hi => by rw [hK, zsI_n (by omega)]; exact ho i hi) (fun t ht => ?_)
      rw [hK, zsI_at]
      by_cases e : t = k
      · rw [if_pos ⟨rfl, by omega⟩, e]
      · rw [if_neg (fun q => e (by omega)), h t (by omega)]
  refine l0 _ _ _ _ _ ⟨rfl, vX13_add_0 hW ?_⟩
  rw [hg, nI_clamp (by omega)]
  refine ⟨vp_in_nI (by omega) (by omega), fun y hy => c_base hW hg ?_⟩
  refine vkX13_add_14 hW ?_
  rw [hy, hG.1, nI_add, ← hp]
  exact loop 69 0 M rfl zSm.rf (fun i _ => rfl) (fun t ht => absurd ht (by omega))
set_option maxHeartbeats 4000000 in
theorem c_play {mc ms : Nat} {M : zM} (hW : zFix M) {g n : Nat} (hg : M.1 55 6 = nI g) (hg1 : g ≤ 1) (hn : n < 601) {ps : Nat → Ps} {mv : Nat → Int32} (hG : rGm M g n ps mv) {P : Ps} (hP : rPs M 0 P) (hF : psFit P) {a b pr : Nat} (ha : a < 64) (hb : b < 64) (hpr : pr ≤ 5) (hk : cas P a b = true → a = 4 ∨ a = 60) (hF2 : psFit (mkP P a b pr)) {Q : zQt} (hq : ∀ N, gFr M N g (601 * g + n) → rGm N g (n + 1) (updP ps n (mkP P a b pr)) (upd mv n (nI (a + 64 * b + 4096 * pr))) → rSh N (mkP P a b pr) → Q none N) : wX13_play mc ms [.ref 55, .int (nI (a + 64 * b + 4096 * pr))] M Q := by
  refine ⟨⟨Nat.le_of_ble_eq_true rfl, rfl⟩, fun X l0 l8 => ?_⟩
  refine l0 _ _ _ _ _ ⟨rfl, vX13_play_0 hW (c_make hW (p := 0) hP (by omega) ha hb hpr hk hF.1 hF.2.1 (fun N f hs hN => ?_))⟩
  have hWN := hs.1.fix hW
  refine vkX13_play_6 hWN ?_
  obtain ⟨hNI, hNO⟩ := rPs_iff.mp hN
  have loop : ∀ (r k : Nat) (K : zM), k + r = 69 → zSm [65] M K → (∀ t, t < k → K.1 65 t = psI (mkP P a b pr) t) → (∀ t, t < 69 → K.1 65 (69 + t) = psI (mkP P a b pr) t) → X 8 0 0 [.ref 55, .int (nI (a + 64 * b + 4096 * pr)), .int (nI k)] [] K := by
    intro r
    induction r with
    | zero =>
      intro k K hkr hs2 h h2
      obtain rfl : k = 69 := by omega
      have hWK := hs2.fix hW
      have hPK : rPs K 0 (mkP P a b pr) := rPs_iff.mpr ⟨fun k hk => by rw [Nat.zero_add]; exact h k hk, hNO⟩
      have hGK : rGm K g n ps mv := by
        refine ⟨by rw [hs2.i (by decide)]; exact hG.1, fun i hi => ⟨?_, (hG.2 i hi).2⟩⟩
        obtain ⟨e0, e1, e2, e3, e4, e5, e6⟩ := (hG.2 i hi).1
        exact ⟨fun k hk => by rw [hs2.i (by decide)]; exact e0 k hk, by rw [hs2.i (by decide)]; exact e1, by rw [hs2.i (by decide)]; exact e2, by rw [hs2.i (by decide)]; exact e3, by rw [hs2.i (by decide)]; exact e4, by rw [hs2.i (by decide)]; exact e5, by rw [hs2.i (by decide)]; exact e6⟩
      refine l8 _ _ _ _ _ ⟨rfl, vX13_play_8 hWK ⟨fun _ => ?_, fun d => absurd (by decide) d⟩⟩
      refine c_add hWK (by rw [hs2.i (by decide)]; exact hg) hg1 hn hGK hPK hF2 (fun L fr hL hsh => ?_)
      refine vkX13_play_40 (fr.1.fix hWK) (hq L ?_ hL hsh)
      refine ⟨(hs2.mono (by decide)).tr fr.1, fun i hi => by rw [fr.2.1 i hi, hs2.i (by decide)], fun i hi => by rw [fr.2.2.1 i hi, hs2.i (by decide)], fun i hi => ?_⟩
      obtain ⟨z1, z2, z3, z4, z5, z6⟩ := fr.2.2.2 i hi
      rw [hs2.i (by decide)] at z1 z2 z3 z4 z5 z6
      exact ⟨z1, z2, z3, z4, z5, z6⟩
    | succ r ih =>
      intro k K hkr hs2 h h2
      have hk69 : k < 69 := by omega
      have hWK := hs2.fix hW
      refine l8 _ _ _ _ _ ⟨rfl, vX13_play_8 hWK ⟨fun d => absurd d (nI_ge (a := k) (b := 69) hk69 (by decide)), fun _ => ?_⟩⟩
      rw [show (69 : Int32) + nI k = nI (69 + k) from nI_add 69 k, nI_clamp (by omega), nI_clamp (by omega), h2 k hk69]
      refine ⟨vp_in_nI (by omega) (by omega), vp_in_nI (by omega) (by omega), fun L hL => ?_⟩
      rw [nI_1]
      refine ih (k + 1) L (by omega) (by rw [hL]; exact hs2.tr (zSm.I (by decide))) (fun t ht => ?_) (fun t ht => ?_)
      · rw [hL, zsI_at]
        by_cases e : t = k
        · rw [if_pos ⟨rfl, e⟩, e]
        · rw [if_neg (fun q => e q.2), h t (by omega)]
      · rw [hL, zsI_n (by omega)]
        exact h2 t ht
  exact loop 69 0 N rfl hs.1 (fun t ht => absurd ht (by omega)) (fun t ht => hNI t ht)
