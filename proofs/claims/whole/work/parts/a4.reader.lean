/-! THE CLASS'S READER: signs, the board cleared, ranks -/
def cAt (M : zM) (T : Nat → Nat) (e p : Nat) : Prop := cTp M T ∧ M.1 27 4 = nI e ∧ M.1 27 3 = nI p ∧ e ≤ 8180 ∧ p < 2 ^ 20
theorem pk_256 {T : Nat → Nat} (hT : ∀ i, T i < 256) (e p : Nat) : pk T e p < 256 := by
  unfold pk
  split
  · exact hT p
  · omega
theorem nar_char : ∀ c, c < 256 → narrow .char (.int (nI c)) = .int (nI c) := fun c hc => (pk_charN (q := c) (by omega)).1
theorem c_signR {mc ms : Nat} {M : zM} {g : Nat} (hW : zWd M g) {T : Nat → Nat} (hT : ∀ i, T i < 256) {e p : Nat} (h : cAt M T e p) {Q : zQt} (hq : Q (some (.int (nI (pk T e p)))) M) : wX6_sign mc ms [.ref 27] M Q := by
  refine ⟨⟨Nat.le_of_ble_eq_true rfl, rfl⟩, fun X l0 l24 => ?_⟩
  obtain ⟨h1, h2, h3, h4, h5⟩ := h
  have f24 : ∀ c, c = pk T e p → X 24 0 0 [] [.int (nI c)] M := fun c hc => l24 _ _ _ _ _ ⟨rfl, vX6_sign_24 hW ⟨nar_char c (by rw [hc]; exact pk_256 hT e p), by rw [hc]; exact hq⟩⟩
  refine l0 _ _ _ _ _ ⟨rfl, vX6_sign_0 hW ?_⟩
  rw [h2, h3]
  have el := nI_leI (a := e) (b := p) (by omega) (by omega)
  refine ⟨fun w => f24 0 ?_, fun w => ?_⟩
  · unfold pk; rw [if_neg (by have := el.mp w; omega)]
  · have hp : p < e := by have : ¬ e ≤ p := fun z => w (el.mpr z); omega
    rw [nI_clamp (by omega), h1 p (by omega)]
    refine ⟨vp_in_nI (by omega) (by omega), f24 (T p) ?_⟩
    unfold pk; rw [if_pos hp]
/-- the reader goes on -/
theorem cAt.go {M : zM} {T : Nat → Nat} {e p q : Nat} (h : cAt M T e p) (hq : q < 2 ^ 20) : cAt (zsI M 27 3 (nI q)) T e q :=
  ⟨fun i hi => by rw [zsI_o (by omega)]; exact h.1 i hi, by rw [zsI_n (by omega)]; exact h.2.1, by rw [zsI_s], h.2.2.2.1, hq⟩
theorem cAt.sm {L : List Nat} {M N : zM} {T : Nat → Nat} {e p : Nat} (h : zSm L M N) (hL : 24 ∉ L ∧ 27 ∉ L) (hA : cAt M T e p) : cAt N T e p :=
  ⟨hA.1.sm h hL.1, by rw [h.i hL.2]; exact hA.2.1, by rw [h.i hL.2]; exact hA.2.2.1, hA.2.2.2⟩
theorem c_skip {mc ms : Nat} {M : zM} {g : Nat} (hW : zWd M g) {T : Nat → Nat} (hT : ∀ i, T i < 256) {e p : Nat} (h : cAt M T e p) {Q : zQt} (q1 : pk T e p = 32 → Q (some (.int 1)) (zsI M 27 3 (nI (p + 1)))) (q0 : ¬ pk T e p = 32 → Q (some (.int 0)) M) : wX6_skipBlank mc ms [.ref 27] M Q := by
  refine ⟨⟨Nat.le_of_ble_eq_true rfl, rfl⟩, fun X l0 => ?_⟩
  have hp := pk_256 hT e p
  have e32 := nI_eq (a := pk T e p) (b := 32) (by omega) (by decide)
  refine l0 _ _ _ _ _ ⟨rfl, vX6_skipBlank_0 hW (c_signR hW hT h (vkX6_skipBlank_4 hW ⟨fun w => fun M18 e18 => ?_, fun w => q0 (fun z => w (e32.mpr z))⟩))⟩
  rw [e18, h.2.2.1, nI_1]
  exact q1 (e32.mp w)
/-! Arrays.fill -/
theorem c_fillI {mc ms : Nat} {M : zM} {x n : Nat} (hx : zsh M x = some (1, n)) (hn : n < 2 ^ 31) (v : Int32) {Q : zQt} (hq : ∀ N, zSm [x] M N → (∀ i, i < n → N.1 x i = v) → N.2.1 x = M.2.1 x → Q none N) : wJ7_fill_53178 mc ms [.ref x, .int v] M Q := by
  refine ⟨⟨Nat.le_of_ble_eq_true rfl, rfl⟩, fun X l0 l5 => ?_⟩
  have loop : ∀ (r k : Nat) (N : zM), k + r = n → zSm [x] M N → (∀ i, i < k → N.1 x i = v) → N.2.1 x = M.2.1 x → X 5 0 0 [.ref x, .int v, .int (nI k), .int (nI n)] [] N := by
    intro r
    induction r with
    | zero =>
      intro k N hk sN hN hj
      obtain rfl : k = n := by omega
      exact l5 _ _ _ _ _ ⟨rfl, vJ7_fill_53178_5 (by rw [zsh_sm sN]; exact hx) ⟨fun _ => hq N sN hN hj, fun w => absurd ((nI_leI (a := k) (b := k) hn hn).mpr (Nat.le_refl _)) w⟩⟩
    | succ r ih =>
      intro k N hk sN hN hj
      refine l5 _ _ _ _ _ ⟨rfl, vJ7_fill_53178_5 (by rw [zsh_sm sN]; exact hx) ?_⟩
      rw [nI_clamp (by omega), nI_1]
      refine ⟨fun w => absurd ((nI_leI (a := n) (b := k) hn (by omega)).mp w) (by omega), fun _ => ⟨vp_in_nI (by omega) hn, fun K eK => ih (k + 1) K (by omega) (by rw [eK]; exact sN.tr (zSm.I (by simp))) (fun i hi => ?_) (by rw [eK]; exact hj)⟩⟩
      by_cases q : i = k
      · rw [q, eK, zsI_s]
      · rw [eK, zsI_n q]; exact hN i (by omega)
  exact l0 _ _ _ _ _ ⟨rfl, vJ7_fill_53178_0 hx (loop n 0 M (by omega) zSm.rf (fun i hi => absurd hi (Nat.not_lt_zero _)) rfl)⟩
theorem c_fillJ {mc ms : Nat} {M : zM} {x n : Nat} (hx : zsh M x = some (2, n)) (hn : n < 2 ^ 31) (v : Int64) {Q : zQt} (hq : ∀ N, zSm [x] M N → (∀ i, i < n → N.2.1 x i = v) → N.1 x = M.1 x → Q none N) : wJ7_fill_d0a16 mc ms [.ref x, .long v] M Q := by
  refine ⟨⟨Nat.le_of_ble_eq_true rfl, rfl⟩, fun X l0 l6 => ?_⟩
  have loop : ∀ (r k : Nat) (N : zM), k + r = n → zSm [x] M N → (∀ i, i < k → N.2.1 x i = v) → N.1 x = M.1 x → X 6 0 0 [.ref x, .long v, .int (nI k), .int (nI n)] [] N := by
    intro r
    induction r with
    | zero =>
      intro k N hk sN hN hj
      obtain rfl : k = n := by omega
      exact l6 _ _ _ _ _ ⟨rfl, vJ7_fill_d0a16_6 (by rw [zsh_sm sN]; exact hx) ⟨fun _ => hq N sN hN hj, fun w => absurd ((nI_leI (a := k) (b := k) hn hn).mpr (Nat.le_refl _)) w⟩⟩
    | succ r ih =>
      intro k N hk sN hN hj
      refine l6 _ _ _ _ _ ⟨rfl, vJ7_fill_d0a16_6 (by rw [zsh_sm sN]; exact hx) ?_⟩
      rw [nI_clamp (by omega), nI_1]
      refine ⟨fun w => absurd ((nI_leI (a := n) (b := k) hn (by omega)).mp w) (by omega), fun _ => ⟨vp_in_nI (by omega) hn, fun K eK => ih (k + 1) K (by omega) (by rw [eK]; exact sN.tr (zSm.J (by simp))) (fun i hi => ?_) (by rw [eK]; exact hj)⟩⟩
      by_cases q : i = k
      · rw [q, eK, zsJ_s]
      · rw [eK, zsJ_n q]; exact hN i (by omega)
  exact l0 _ _ _ _ _ ⟨rfl, vJ7_fill_d0a16_0 hx (loop n 0 M (by omega) zSm.rf (fun i hi => absurd hi (Nat.not_lt_zero _)) rfl)⟩
theorem bal_0 : bal (fun _ => 0) = 0 := by decide
set_option maxHeartbeats 4000000 in
theorem c_clear {mc ms : Nat} {M : zM} {g : Nat} (hW : zWd M g) {Q : zQt} (hq : ∀ N, zSm (bC g) M N → bSB N g (fun _ => 0) → N.1 (g + 1) 4 = nI 0 → N.1 (g + 1) 5 = nI 0 → N.1 (g + 1) 6 = pI 8 → N.1 (g + 1) 7 = nI 0 → N.1 (g + 1) 8 = nI 1 → N.1 (g + 1) 11 = nI 0 → Q none N) : wX0_clear mc ms [.ref (g + 1)] M Q := by
  refine ⟨⟨Nat.le_of_ble_eq_true rfl, rfl⟩, fun X l0 => ?_⟩
  refine l0 _ _ _ _ _ ⟨rfl, vX0_clear_0 hW (c_fillI (fgs_2 hW) (by omega) 0 (fun N1 s1 h1 j1 => ?_))⟩
  have W1 := s1.wd hW
  refine vkX0_clear_8 W1 (c_fillJ (fgs_3 W1) (by omega) 0 (fun N2 s2 h2 j2 => ?_))
  have W2 := s2.wd W1
  refine vkX0_clear_16 W2 (c_fillJ (fgs_4 W2) (by omega) 0 (fun N3 s3 h3 j3 => ?_))
  have W3 := s3.wd W2
  refine vkX0_clear_24 W3 (fun M26 e26 M31 e31 M36 e36 M41 e41 M46 e46 M51 e51 M56 e56 => ?_)
  have sT : zSm [g + 1] N3 M56 := by
    rw [e56, e51, e46, e41, e36, e31, e26]
    exact ((((((zSm.I (by simp)).tr (zSm.I (by simp))).tr (zSm.I (by simp))).tr (zSm.I (by simp))).tr (zSm.I (by simp))).tr (zSm.I (by simp))).tr (zSm.I (by simp))
  have sA : zSm (bC g) M M56 := (((s1.mono (by simp)).tr (s2.mono (by simp))).tr (s3.mono (by simp))).tr (sT.mono (by simp))
  refine hq M56 sA ⟨⟨fun s hs => ⟨?_, Nat.zero_le _⟩, fun m s m1 m2 hs => ?_, fun c s hc hs => ?_⟩, ?_⟩ ?_ ?_ ?_ ?_ ?_ ?_
  · rw [sT.i (by simp), s3.i (by simp), s2.i (by simp), h1 s hs]; rfl
  · rw [sT.j (by simp), s3.j (by simp), h2 m (by omega), bt_0]
    exact ⟨fun z => absurd z (by decide), fun z => by have : (0 : Nat) = m := z; omega⟩
  · rw [sT.j (by simp), h3 c (by omega), bt_0]
    exact ⟨fun z => absurd z (by decide), fun z => absurd z sd_0⟩
  · rw [e56, zsI_n (by omega), e51, zsI_s, bal_0]; rfl
  · rw [e56, zsI_n (by omega), e51, zsI_n (by omega), e46, zsI_n (by omega), e41, zsI_n (by omega), e36, zsI_n (by omega), e31, zsI_n (by omega), e26, zsI_s]; rfl
  · rw [e56, zsI_n (by omega), e51, zsI_n (by omega), e46, zsI_n (by omega), e41, zsI_n (by omega), e36, zsI_n (by omega), e31, zsI_s]; rfl
  · rw [e56, zsI_n (by omega), e51, zsI_n (by omega), e46, zsI_n (by omega), e41, zsI_n (by omega), e36, zsI_s]; rfl
  · rw [e56, zsI_n (by omega), e51, zsI_n (by omega), e46, zsI_n (by omega), e41, zsI_s]; rfl
  · rw [e56, zsI_n (by omega), e51, zsI_n (by omega), e46, zsI_s]; rfl
  · rw [e56, zsI_s]; rfl
theorem bal_congr {B D : Nat → Nat} (h : ∀ s, s < 64 → B s = D s) : bal B = bal D := by
  have loop : ∀ n, n ≤ 64 → balN B n = balN D n := by
    intro n
    induction n with
    | zero => intro _; rfl
    | succ n ih =>
      intro hn
      simp only [balN]
      rw [ih (by omega), h n (by omega)]
  exact loop 64 (Nat.le_refl _)
theorem bSB.congr {M : zM} {g : Nat} {B D : Nat → Nat} (h : ∀ s, s < 64 → B s = D s) (hB : bSB M g B) : bSB M g D := by
  refine ⟨⟨fun s hs => by rw [← h s hs]; exact hB.1.1 s hs, fun m s m1 m2 hs => by rw [← h s hs]; exact hB.1.2.1 m s m1 m2 hs, fun c s hc hs => by rw [← h s hs]; exact hB.1.2.2 c s hc hs⟩, by rw [← bal_congr h]; exact hB.2⟩
/-- while the class reads: the reader's place, the board's rows -/
def cRd (M N : zM) (g : Nat) : Prop := zSm [27, g + 1, g + 2, g + 3, g + 4] M N ∧ (∀ j, j ≠ 3 → N.1 27 j = M.1 27 j)
theorem cRd.rf {M : zM} {g : Nat} : cRd M M g := ⟨zSm.rf, fun _ _ => rfl⟩
theorem cRd.tr {M N K : zM} {g : Nat} (h : cRd M N g) (h2 : cRd N K g) : cRd M K g := ⟨h.1.tr h2.1, fun j hj => (h2.2 j hj).trans (h.2 j hj)⟩
theorem cRd.go {M : zM} {g : Nat} {v : Int32} : cRd M (zsI M 27 3 v) g := ⟨zSm.I (by simp), fun j hj => zsI_n hj⟩
theorem cRd.brd {M N : zM} {g : Nat} (hg : g = 35 ∨ g = 45) (h : zSm (bC g) M N) : cRd M N g := ⟨h.mono (by simp), fun j _ => by rw [h.i (by simp; omega)]⟩
/-- the board's numbers beside its men -/
def bNm (M N : zM) (g : Nat) : Prop := ∀ j, j ≠ 9 → N.1 (g + 1) j = M.1 (g + 1) j
theorem getD_app {A C : List Nat} {i : Nat} (h : i < A.length) : (A ++ C).getD i 0 = A.getD i 0 := by
  rw [List.getD_eq_getElem?_getD, List.getD_eq_getElem?_getD, List.getElem?_append_left h]
theorem getD_rep {A : List Nat} {k i : Nat} (h : A.length ≤ i) : (A ++ List.replicate k 0).getD i 0 = 0 := by
  rw [List.getD_eq_getElem?_getD, List.getElem?_append_right h, List.getElem?_replicate]
  split <;> rfl
theorem getD_out {A : List Nat} {i : Nat} (h : A.length ≤ i) : A.getD i 0 = 0 := by
  rw [List.getD_eq_getElem?_getD, List.getElem?_eq_none h]
  rfl
theorem rkS_8 (T : Nat → Nat) (e n : Nat) (d : Bool) (p : Nat) : rkS T e n 8 d p = some (p, []) := by
  cases n <;> simp [rkS]
theorem ix_man (c : Nat) : (0 < ixL c ↔ 0 < mOf c) ∧ (0 < mOf c → ixL c = (mOf c : Int)) := by
  have e := ixL_eq c
  by_cases q : c = 32
  · rw [if_pos q] at e
    have h0 : mOf 32 = 0 := by decide
    rw [q, h0]
    rw [q] at e
    rw [e]
    exact ⟨⟨fun z => absurd z (by omega), fun z => absurd z (by omega)⟩, fun z => absurd z (by omega)⟩
  rw [if_neg q] at e
  by_cases q2 : mOf c = 0
  · rw [if_pos q2] at e
    rw [e, q2]
    exact ⟨⟨fun z => absurd z (by omega), fun z => absurd z (by omega)⟩, fun z => absurd z (by omega)⟩
  · rw [if_neg q2] at e
    rw [e]
    exact ⟨by omega, fun _ => rfl⟩
/-- the rank's men so far -/
def rkI (T : Nat → Nat) (e : Nat) (B D : Nat → Nat) (r n f p : Nat) (d : Bool) (acc : List Nat) (R : Option (Nat × List Nat)) : Prop := (f ≤ 8 → acc.length = f ∧ (∀ s, s < 64 → D s = if s / 8 = r then acc.getD (s % 8) 0 else B s) ∧ R = (rkS T e n f d p).map (fun x => (x.1, acc ++ x.2))) ∧ (8 < f → R = none)
theorem rkI.man {T : Nat → Nat} {e : Nat} {B D : Nat → Nat} {r n f p : Nat} {d : Bool} {acc : List Nat} {R : Option (Nat × List Nat)} (h : rkI T e B D r (n + 1) f p d acc R) (hf : f < 8) (hr : r < 8) (hm : 0 < mOf (pk T e p)) : D (8 * r + f) = 0 ∧ rkI T e B (ub D (8 * r + f) (mOf (pk T e p))) r n (f + 1) (p + 1) false (acc ++ [mOf (pk T e p)]) R := by
  obtain ⟨h1, h2, h3⟩ := h.1 (by omega)
  have e1 : (8 * r + f) / 8 = r := by omega
  have e2 : (8 * r + f) % 8 = f := by omega
  refine ⟨?_, fun _ => ⟨by rw [List.length_append, h1]; rfl, fun s hs => ?_, ?_⟩, fun z => absurd z (by omega)⟩
  · rw [h2 _ (by omega), if_pos e1, e2]
    exact getD_out (by omega)
  · by_cases q : s = 8 * r + f
    · rw [q, ub_s, if_pos e1, e2, List.getD_eq_getElem?_getD, List.getElem?_append_right (by omega), h1, Nat.sub_self]
      rfl
    · rw [ub_n q, h2 s hs]
      by_cases z : s / 8 = r
      · rw [if_pos z, if_pos z]
        by_cases y : s % 8 < f
        · rw [getD_app (by omega)]
        · rw [getD_out (by omega), getD_out (by rw [List.length_append, h1]; show f + 1 ≤ _; omega)]
      · rw [if_neg z, if_neg z]
  · rw [h3]
    have : rkS T e (n + 1) f d p = (rkS T e n (f + 1) false (p + 1)).map (fun r => (r.1, mOf (pk T e p) :: r.2)) := by
      rw [rkS, if_neg (by omega), if_pos hm]
    rw [this, Option.map_map]
    congr 1
    funext x
    simp
theorem rkI.dig {T : Nat → Nat} {e : Nat} {B D : Nat → Nat} {r n f p : Nat} {d : Bool} {acc : List Nat} {R : Option (Nat × List Nat)} (h : rkI T e B D r (n + 1) f p d acc R) (hf : f < 8) (hm : ¬ 0 < mOf (pk T e p)) (hd : d = false) (h1 : 49 ≤ pk T e p) (h2 : pk T e p ≤ 56) : rkI T e B D r n (f + (pk T e p - 48)) (p + 1) true (acc ++ List.replicate (pk T e p - 48) 0) R := by
  obtain ⟨g1, g2, g3⟩ := h.1 (by omega)
  refine ⟨fun z => ⟨by rw [List.length_append, g1, List.length_replicate], fun s hs => ?_, ?_⟩, fun z => ?_⟩
  · rw [g2 s hs]
    by_cases y : s / 8 = r
    · rw [if_pos y, if_pos y]
      by_cases x : s % 8 < f
      · rw [getD_app (by omega)]
      · rw [getD_rep (by omega), getD_out (by omega)]
    · rw [if_neg y, if_neg y]
  · rw [g3]
    have : rkS T e (n + 1) f d p = (rkS T e n (f + (pk T e p - 48)) true (p + 1)).map (fun r => (r.1, List.replicate (pk T e p - 48) 0 ++ r.2)) := by
      rw [rkS, if_neg (by omega), if_neg hm, if_pos ⟨h1, h2, hd, z⟩]
    rw [this, Option.map_map]
    congr 1
    funext x
    simp
  · rw [g3, rkS, if_neg (by omega), if_neg hm, if_neg (by omega)]
    rfl
theorem rkI.bad {T : Nat → Nat} {e : Nat} {B D : Nat → Nat} {r n f p : Nat} {d : Bool} {acc : List Nat} {R : Option (Nat × List Nat)} (h : rkI T e B D r (n + 1) f p d acc R) (hf : f < 8) (hm : ¬ 0 < mOf (pk T e p)) (hb : ¬ (49 ≤ pk T e p ∧ pk T e p ≤ 56 ∧ d = false)) : R = none := by
  obtain ⟨g1, g2, g3⟩ := h.1 (by omega)
  rw [g3, rkS, if_neg (by omega), if_neg hm, if_neg (fun z => hb ⟨z.1, z.2.1, z.2.2.1⟩)]
  rfl
set_option maxHeartbeats 8000000 in
theorem c_readRankC {mc ms : Nat} {M : zM} {g : Nat} (hW : zWd M g) {T : Nat → Nat} (hT : ∀ i, T i < 256) {e p0 : Nat} (h0 : cAt M T e p0) (hp0 : p0 < 2 ^ 19) {B : Nat → Nat} (hB : bSB M g B) {r : Nat} (hr : r < 8) (hz : ∀ f, f < 8 → B (8 * r + f) = 0) {Q : zQt}
    (q1 : ∀ p row N, rkS T e 8 0 false p0 = some (p, row) → cRd M N g → bNm M N g → cAt N T e p → p ≤ p0 + 8 → bSB N g (fun s => if s / 8 = r then row.getD (s % 8) 0 else B s) → Q (some (.int 1)) N)
    (q0 : ∀ N, rkS T e 8 0 false p0 = none → cRd M N g → bNm M N g → Q (some (.int 0)) N) : wX6_readRank mc ms [.ref 27, .ref (g + 1), .int (nI (8 * r))] M Q := by
  refine ⟨⟨Nat.le_of_ble_eq_true rfl, rfl⟩, fun X l0 l8 l89 l91 l101 l118 l130 => ?_⟩
  have hg := hW.2
  obtain ⟨R, eR⟩ : ∃ R, R = rkS T e 8 0 false p0 := ⟨_, rfl⟩
  rw [← eR] at q1 q0
  have f89 : ∀ N, R = none → cRd M N g → bNm M N g → X 89 0 0 [] [] N := fun N h fr bn => l89 _ _ _ _ _ ⟨rfl, vX6_readRank_89 (fr.1.wd hW) (q0 N h fr bn)⟩
  have f118 : ∀ (n f p : Nat) (d : Bool) (acc : List Nat) (D : Nat → Nat) (N : zM), 8 ≤ f → f < 100 → p ≤ p0 + 8 → cRd M N g → bNm M N g → cAt N T e p → bSB N g D → rkI T e B D r n f p d acc R → X 118 0 0 [.int (nI f)] [] N := by
    intro n f p d acc D N hf hf2 hp fr bn aN bD hI
    have WN := fr.1.wd hW
    have e8 := nI_eq (a := f) (b := 8) (by omega) (by decide)
    refine l118 _ _ _ _ _ ⟨rfl, vX6_readRank_118 WN ⟨fun w => l130 _ _ _ _ _ ⟨rfl, vX6_readRank_130 WN ⟨rfl, ?_⟩⟩, fun w => l130 _ _ _ _ _ ⟨rfl, vX6_readRank_130 WN ⟨rfl, ?_⟩⟩⟩⟩
    · have hf8 := e8.mp w
      subst hf8
      obtain ⟨g1, g2, g3⟩ := hI.1 (Nat.le_refl _)
      rw [rkS_8] at g3
      refine q1 p acc N ?_ fr bn aN hp (bD.congr g2)
      rw [g3]
      simp
    · have hf8 : ¬ f = 8 := fun z => w (e8.mpr z)
      exact q0 N (hI.2 (by omega)) fr bn
  have loop : ∀ (n k f p : Nat) (d : Bool) (acc : List Nat) (D : Nat → Nat) (N : zM), k + n = 8 → k ≤ f → f < 50 → p = p0 + k → cRd M N g → bNm M N g → cAt N T e p → bSB N g D → rkI T e B D r n f p d acc R → X 8 0 0 [.ref 27, .ref (g + 1), .int (nI (8 * r)), .int (bI d), .int (nI f), .int (nI k)] [] N := by
    intro n
    induction n with
    | zero =>
      intro k f p d acc D N hk hkf hf hp fr bn aN bD hI
      have WN := fr.1.wd hW
      refine l8 _ _ _ _ _ ⟨rfl, vX6_readRank_8 WN ⟨fun _ => f118 0 f p d acc D N (by omega) (by omega) (by omega) fr bn aN bD hI, fun w => absurd ((nI_leI (a := 8) (b := k) (by decide) (by omega)).mpr (by omega)) w⟩⟩
    | succ n ih =>
      intro k f p d acc D N hk hkf hf hp fr bn aN bD hI
      have WN := fr.1.wd hW
      have e8 := nI_leI (a := 8) (b := f) (by decide) (by omega)
      refine l8 _ _ _ _ _ ⟨rfl, vX6_readRank_8 WN ⟨fun w => absurd ((nI_leI (a := 8) (b := k) (by decide) (by omega)).mp w) (by omega), fun _ => ⟨fun w => f118 (n + 1) f p d acc D N (e8.mp w) (by omega) (by omega) fr bn aN bD hI, fun w => ?_⟩⟩⟩
      have hf8 : f < 8 := by have : ¬ 8 ≤ f := fun z => w (e8.mpr z); omega
      have hc := pk_256 hT e p
      have hbd := ix_bd (pk T e p)
      have him := ix_man (pk T e p)
      refine c_signR WN hT aN (vkX6_readRank_26 WN (c_indexOf hc (vkX6_readRank_35 WN ?_)))
      have ei := iI_le (a := ixL (pk T e p)) (b := 0) (by omega) (by omega) (by omega) (by omega)
      have next : ∀ (f2 : Nat) (d2 : Bool) (acc2 : List Nat) (D2 : Nat → Nat) (K : zM), k + 1 ≤ f2 → f2 < 50 → cRd M K g → bNm M K g → cAt K T e p → bSB K g D2 → rkI T e B D2 r n f2 (p + 1) d2 acc2 R → X 101 0 0 [.ref 27, .ref (g + 1), .int (nI (8 * r)), .int (nI f2), .int (nI k)] [.int (bI d2)] K := by
        intro f2 d2 acc2 D2 K hkf2 hf2 frK bnK aK bK hIK
        have WK := frK.1.wd hW
        refine l101 _ _ _ _ _ ⟨rfl, vX6_readRank_101 WK (fun M109 e109 => ?_)⟩
        rw [aK.2.2.1, nI_1] at e109
        rw [nI_1]
        refine ih (k + 1) f2 (p + 1) d2 acc2 D2 M109 (by omega) hkf2 hf2 (by omega) ?_ ?_ ?_ ?_ hIK
        · rw [e109]; exact frK.tr cRd.go
        · rw [e109]; exact fun j hj => by rw [zsI_o (by omega)]; exact bnK j hj
        · rw [e109]; exact aK.go (by omega)
        · rw [e109]
          exact ⟨bSt.sm (L := [27]) (zSm.I (by simp)) (fun b b1 b2 q => by simp at q; omega) bK.1, by rw [zsI_o (by omega)]; exact bK.2⟩
      refine ⟨fun w2 => ?_, fun w2 => ?_⟩
      · have hm : ¬ 0 < mOf (pk T e p) := fun z => by have := him.1.mpr z; have := ei.mp w2; omega
        have e49 := nI_ltI (a := pk T e p) (b := 49) (by omega) (by decide)
        have e56 := nI_ltI (a := 56) (b := pk T e p) (by decide) (by omega)
        refine ⟨fun w3 => f89 N (hI.bad hf8 hm (fun z => by have := e49.mp w3; omega)) fr bn, fun w3 => ⟨fun w4 => f89 N (hI.bad hf8 hm (fun z => by have := e56.mp w4; omega)) fr bn, fun w4 => ⟨fun w5 => ?_, fun w5 => f89 N (hI.bad hf8 hm (fun z => w5 (bI_0.mpr z.2.2))) fr bn⟩⟩⟩
        have h49 : 49 ≤ pk T e p := by have : ¬ pk T e p < 49 := fun z => w3 (e49.mpr z); omega
        have h56 : pk T e p ≤ 56 := by have : ¬ 56 < pk T e p := fun z => w4 (e56.mpr z); omega
        rw [show nI (pk T e p) - (48 : Int32) = nI (pk T e p - 48) from pk_sub (b := 48) (by omega), nI_add]
        have ip := iI_lt (a := 0) (b := ixL (pk T e p)) (by omega) (by omega) (by omega) (by omega)
        refine l91 _ _ _ _ _ ⟨rfl, vX6_readRank_91 WN ⟨fun w6 => absurd (ip.mp w6) (by have := ei.mp w2; omega), fun _ => ?_⟩⟩
        exact next (f + (pk T e p - 48)) true (acc ++ List.replicate (pk T e p - 48) 0) D N (by omega) (by omega) fr bn aN bD (hI.dig hf8 hm (bI_0.mp w5) h49 h56)
      · have hpos : 0 < ixL (pk T e p) := by have : ¬ ixL (pk T e p) ≤ 0 := fun z => w2 (ei.mpr z); omega
        have hm := him.1.mp hpos
        have hiv := him.2 hm
        have hm12 := (mOf_ltr (pk T e p) (by omega)).2
        obtain ⟨hD0, hI2⟩ := hI.man hf8 hr hm
        rw [hiv, ← iI_nat, nI_add]
        refine c_put' WN bD (s := 8 * r + f) (m := mOf (pk T e p)) (by omega) hD0 (by omega) hm12 (fun K frK bK => ?_)
        have WK := frK.1.wd WN
        refine vkX6_readRank_52 WK ?_
        rw [nI_1]
        refine l91 _ _ _ _ _ ⟨rfl, vX6_readRank_91 WK ⟨fun _ => ?_, fun w6 => absurd ((nI_ltI (a := 0) (b := mOf (pk T e p)) (by decide) (by omega)).mpr hm) w6⟩⟩
        exact next (f + 1) false (acc ++ [mOf (pk T e p)]) _ K (by omega) (by omega) (fr.tr (cRd.brd hg frK.1)) (fun j hj => by rw [frK.2 j hj]; exact bn j hj) (aN.sm frK.1 ⟨by simp; omega, by simp; omega⟩) bK hI2
  refine l0 _ _ _ _ _ ⟨rfl, vX6_readRank_0 hW ?_⟩
  refine loop 8 0 0 p0 false [] B M (by omega) (by omega) (by omega) (by omega) cRd.rf (fun _ _ => rfl) h0 hB ⟨fun _ => ⟨rfl, fun s hs => ?_, ?_⟩, fun z => absurd z (by omega)⟩
  · by_cases q : s / 8 = r
    · rw [if_pos q]
      have := hz (s % 8) (by omega)
      rw [show 8 * r + s % 8 = s by omega] at this
      rw [this]
      rfl
    · rw [if_neg q]
  · rw [eR]
    cases rkS T e 8 0 false p0 <;> rfl
