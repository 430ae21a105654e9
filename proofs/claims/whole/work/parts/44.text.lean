/-! THE TEXT AS THE REFERENCE READS IT: bytes T, end e, place p -/
def sb (b : Nat) : Int32 := (nI b).toInt8.toInt32
theorem sb_and : ∀ b, b < 256 → sb b &&& 255 = nI b := by decide +kernel
theorem sb_eq : ∀ b, b < 256 → ∀ c ∈ [32, 48], (sb b = nI c ↔ b = c) := by decide +kernel
/-- the byte at a place; 0 behind the end -/
def pk (T : Nat → Nat) (e p : Nat) : Nat := if p < e then T p else 0
def rTx (M : zM) (T : Nat → Nat) (e : Nat) : Prop := M.1 55 22 = nI e ∧ e ≤ 8200 ∧ ∀ i, i < 8200 → M.1 56 i = sb (T i) ∧ T i < 256
def rAt (M : zM) (T : Nat → Nat) (e p : Nat) : Prop := rTx M T e ∧ M.1 55 21 = nI p ∧ p < 2 ^ 20
theorem pkb_lt {M : zM} {T : Nat → Nat} {e p : Nat} (h : rTx M T e) : pk T e p < 256 := by
  unfold pk
  split
  · have := h.2.1
    exact (h.2.2 p (by omega)).2
  · omega
theorem c_peek {mc ms : Nat} {M : zM} (hW : zFix M) {T : Nat → Nat} {e p : Nat} (h : rAt M T e p) {Q : zQt} (hq : Q (some (.int (nI (pk T e p)))) M) : wX13_peek mc ms [.ref 55] M Q := by
  refine ⟨⟨Nat.le_of_ble_eq_true rfl, rfl⟩, fun X l0 l28 => ?_⟩
  obtain ⟨⟨he, he2, hT⟩, hp, hp2⟩ := h
  refine l0 _ _ _ _ _ ⟨rfl, vX13_peek_0 hW ?_⟩
  rw [he, hp, nI_clamp (by omega)]
  have c := nI_leI (a := e) (b := p) (by omega) (by omega)
  refine ⟨fun a => l28 _ _ _ _ _ ⟨rfl, vX13_peek_28 hW ?_⟩, fun a => ?_⟩
  · unfold pk at hq
    rw [if_neg (by have := c.mp a; omega)] at hq
    exact hq
  · have hpe : p < e := by
      have : ¬ e ≤ p := fun q => a (c.mpr q)
      omega
    refine ⟨vp_in_nI (by omega) (by omega), l28 _ _ _ _ _ ⟨rfl, vX13_peek_28 hW ?_⟩⟩
    rw [(hT p (by omega)).1, sb_and _ (hT p (by omega)).2]
    unfold pk at hq
    rw [if_pos hpe] at hq
    exact hq
theorem c_eat {mc ms : Nat} {M : zM} (hW : zFix M) {T : Nat → Nat} {e p : Nat} (h : rAt M T e p) {c : Nat} (hc : c < 256) (hc0 : c ≠ 0) {Q : zQt} (q1 : pk T e p = c → Q (some (.int 1)) (zsI M 55 21 (nI (p + 1)))) (q0 : ¬ pk T e p = c → Q (some (.int 0)) M) : wX13_eat mc ms [.ref 55, .int (nI c)] M Q := by
  refine ⟨⟨Nat.le_of_ble_eq_true rfl, rfl⟩, fun X l0 l19 => ?_⟩
  have hlt := pkb_lt (p := p) h.1
  have f19 : ¬ pk T e p = c → X 19 0 0 [] [] M := fun hn => l19 _ _ _ _ _ ⟨rfl, vX13_eat_19 hW (q0 hn)⟩
  refine l0 _ _ _ _ _ ⟨rfl, vX13_eat_0 hW (c_peek hW h ?_)⟩
  obtain ⟨⟨he, he2, hT⟩, hp, hp2⟩ := h
  refine vkX13_eat_4 hW ?_
  rw [he, hp, show nI p + (1 : Int32) = nI (p + 1) from nI_1 p]
  have e1 := nI_eq (a := pk T e p) (b := c) (by omega) (by omega)
  have e2 := nI_ltI (a := p) (b := e) (by omega) (by omega)
  refine ⟨fun a => ⟨fun b N hN => ?_, fun b => f19 (fun q => ?_)⟩, fun a => f19 (fun q => a (e1.mpr q))⟩
  · rw [hN]; exact q1 (e1.mp a)
  · unfold pk at q
    rw [if_neg (fun z => b (e2.mpr z))] at q
    exact hc0 q.symm
/-- while reading only the place and the board read have changed -/
def rdF (M N : zM) (p : Nat) : Prop := zSm [55, 65] M N ∧ (∀ j, j ≠ 21 → N.1 55 j = M.1 55 j) ∧ N.1 55 21 = nI p ∧ p < 2 ^ 20
theorem rdF.at {M N : zM} {p q : Nat} {T : Nat → Nat} {e : Nat} (h : rdF M N q) (hM : rAt M T e p) : rAt N T e q :=
  ⟨⟨by rw [h.2.1 22 (by decide)]; exact hM.1.1, hM.1.2.1, fun i hi => by rw [h.1.i (by decide)]; exact hM.1.2.2 i hi⟩, h.2.2.1, h.2.2.2⟩
theorem rdF.go {M N : zM} {p q : Nat} (h : rdF M N p) (hq : q < 2 ^ 20) : rdF M (zsI N 55 21 (nI q)) q :=
  ⟨h.1.tr (zSm.I (by decide)), fun j hj => by rw [zsI_n hj]; exact h.2.1 j hj, zsI_s, hq⟩
theorem rdF.put {M N : zM} {p : Nat} (h : rdF M N p) {i : Nat} {v : Int32} : rdF M (zsI N 65 i v) p :=
  ⟨h.1.tr (zSm.I (by decide)), fun j hj => by rw [zsI_o (by decide)]; exact h.2.1 j hj, by rw [zsI_o (by decide)]; exact h.2.2.1, h.2.2.2⟩
theorem rdF.tr {M N K : zM} {p q : Nat} (h : rdF M N p) (h2 : rdF N K q) : rdF M K q :=
  ⟨h.1.tr h2.1, fun j hj => (h2.2.1 j hj).trans (h.2.1 j hj), h2.2.2.1, h2.2.2.2⟩
theorem rdF.rf {M : zM} {T : Nat → Nat} {e p : Nat} (h : rAt M T e p) : rdF M M p := ⟨zSm.rf, fun _ _ => rfl, h.2.1, h.2.2⟩
/-- the letter of a man -/
def ltr (m : Nat) : Nat := (if kd m = 1 then 80 else if kd m = 2 then 78 else if kd m = 3 then 66 else if kd m = 4 then 82 else if kd m = 5 then 81 else 75) + (if m ≤ 6 then 0 else 32)
theorem c_letter {mc ms : Nat} {M : zM} (hW : zFix M) (n : Nat) (hn : n < 2 ^ 31) {Q : zQt} (hq : Q (some (.int (nI (ltr n)))) M) : wX13_letter mc ms [.int (nI n)] M Q := by
  refine ⟨⟨Nat.le_of_ble_eq_true rfl, rfl⟩, fun X l0 l57 l72 => ?_⟩
  have hk : kd n < 2 ^ 31 := by unfold kd; split <;> omega
  have f57 : ∀ v, v + (if n ≤ 6 then 0 else 32) = ltr n → X 57 0 0 [.int (nI n)] [.int (nI v)] M := by
    intro v hv
    have c := nI_leI (a := n) (b := 6) hn (by decide)
    refine l57 _ _ _ _ _ ⟨rfl, vX13_letter_57 hW ⟨fun a => ?_, fun a => ?_⟩⟩
    · rw [if_pos (c.mp a), Nat.add_zero] at hv
      exact l72 _ _ _ _ _ ⟨rfl, vX13_letter_72 hW (by rw [hv]; exact hq)⟩
    · rw [if_neg (fun q => a (c.mpr q))] at hv
      rw [show nI v + (32 : Int32) = nI (v + 32) from nI_add v 32, hv]
      exact l72 _ _ _ _ _ ⟨rfl, vX13_letter_72 hW hq⟩
  refine l0 _ _ _ _ _ ⟨rfl, vX13_letter_0 hW (c_kindOf hW n hn ?_)⟩
  have e := fun k (h : k < 2 ^ 31) => nI_eq (a := kd n) (b := k) hk h
  refine vkX13_letter_4 hW ⟨fun a => f57 80 ?_, fun a => ⟨fun b => f57 78 ?_, fun b => ⟨fun c => f57 66 ?_, fun c => ⟨fun d => f57 82 ?_, fun d => ⟨fun g => f57 81 ?_, fun g => f57 75 ?_⟩⟩⟩⟩⟩
  · unfold ltr; rw [if_pos ((e 1 (by decide)).mp a)]
  · unfold ltr; rw [if_neg (fun q => a ((e 1 (by decide)).mpr q)), if_pos ((e 2 (by decide)).mp b)]
  · unfold ltr; rw [if_neg (fun q => a ((e 1 (by decide)).mpr q)), if_neg (fun q => b ((e 2 (by decide)).mpr q)), if_pos ((e 3 (by decide)).mp c)]
  · unfold ltr; rw [if_neg (fun q => a ((e 1 (by decide)).mpr q)), if_neg (fun q => b ((e 2 (by decide)).mpr q)), if_neg (fun q => c ((e 3 (by decide)).mpr q)), if_pos ((e 4 (by decide)).mp d)]
  · unfold ltr; rw [if_neg (fun q => a ((e 1 (by decide)).mpr q)), if_neg (fun q => b ((e 2 (by decide)).mpr q)), if_neg (fun q => c ((e 3 (by decide)).mpr q)), if_neg (fun q => d ((e 4 (by decide)).mpr q)), if_pos ((e 5 (by decide)).mp g)]
  · unfold ltr; rw [if_neg (fun q => a ((e 1 (by decide)).mpr q)), if_neg (fun q => b ((e 2 (by decide)).mpr q)), if_neg (fun q => c ((e 3 (by decide)).mpr q)), if_neg (fun q => d ((e 4 (by decide)).mpr q)), if_neg (fun q => g ((e 5 (by decide)).mpr q))]
/-- the man of a letter among the first n - 1; 0 if none -/
def mOfN (c : Nat) : Nat → Nat
  | 0 => 0
  | n + 1 => if ltr n = c ∧ 0 < n then n else mOfN c n
def mOf (c : Nat) : Nat := mOfN c 13
theorem mOf_le : ∀ c, c < 256 → mOf c ≤ 12 ∧ (0 < mOf c → ¬ (49 ≤ c ∧ c ≤ 56)) := by decide +kernel
theorem c_manOf {mc ms : Nat} {M : zM} (hW : zFix M) (c : Nat) (hc : c < 2 ^ 31) {Q : zQt} (hq : Q (some (.int (nI (mOf c)))) M) : wX13_manOf mc ms [.int (nI c)] M Q := by
  refine ⟨⟨Nat.le_of_ble_eq_true rfl, rfl⟩, fun X l0 l4 l23 => ?_⟩
  have hl : ∀ m, m < 13 → ltr m < 256 := by decide
  have loop : ∀ (n m : Nat), m + n = 13 → 1 ≤ m → X 4 0 0 [.int (nI c), .int (nI (mOfN c m)), .int (nI m)] [] M := by
    intro n
    induction n with
    | zero =>
      intro m hm h1
      obtain rfl : m = 13 := by omega
      exact l4 _ _ _ _ _ ⟨rfl, vX13_manOf_4 hW ⟨fun _ => hq, fun d => absurd (by decide) d⟩⟩
    | succ n ih =>
      intro m hm h1
      have f23 : ∀ v, v = mOfN c (m + 1) → X 23 0 0 [.int (nI c), .int (nI m)] [.int (nI v)] M := by
        intro v hv
        refine l23 _ _ _ _ _ ⟨rfl, vX13_manOf_23 hW ?_⟩
        rw [nI_1, hv]
        exact ih (m + 1) (by omega) (by omega)
      refine l4 _ _ _ _ _ ⟨rfl, vX13_manOf_4 hW ⟨fun d => absurd d (nI_ge (a := m) (b := 13) (by omega) (by decide)), fun _ => c_letter hW m (by omega) ?_⟩⟩
      have hlm := hl m (by omega)
      have e := nI_eq (a := ltr m) (b := c) (by omega) hc
      refine vkX13_manOf_14 hW ⟨fun a => f23 m ?_, fun a => f23 _ ?_⟩
      · show m = if ltr m = c ∧ 0 < m then m else mOfN c m
        rw [if_pos ⟨e.mp a, by omega⟩]
      · show mOfN c m = if ltr m = c ∧ 0 < m then m else mOfN c m
        rw [if_neg (fun q => a (e.mpr q.1))]
  have z : mOfN c 1 = 0 := by
    show (if ltr 0 = c ∧ 0 < 0 then 0 else 0) = 0
    split <;> rfl
  have h := loop 12 1 rfl (by omega)
  rw [z] at h
  exact l0 _ _ _ _ _ ⟨rfl, vX13_manOf_0 hW h⟩
theorem c_isDigit {mc ms : Nat} {M : zM} (hW : zFix M) (c : Nat) (hc : c < 2 ^ 31) {Q : zQt} (q1 : 48 ≤ c ∧ c ≤ 57 → Q (some (.int 1)) M) (q0 : ¬ (48 ≤ c ∧ c ≤ 57) → Q (some (.int 0)) M) : wX13_isDigit mc ms [.int (nI c)] M Q := by
  refine ⟨⟨Nat.le_of_ble_eq_true rfl, rfl⟩, fun X l0 l16 l17 => ?_⟩
  have e1 := nI_ltI (a := c) (b := 48) hc (by decide)
  have e2 := nI_ltI (a := 57) (b := c) (by decide) hc
  have f16 : ¬ (48 ≤ c ∧ c ≤ 57) → X 16 0 0 [] [] M := fun h => l16 _ _ _ _ _ ⟨rfl, vX13_isDigit_16 hW (l17 _ _ _ _ _ ⟨rfl, vX13_isDigit_17 hW ⟨rfl, q0 h⟩⟩)⟩
  refine l0 _ _ _ _ _ ⟨rfl, vX13_isDigit_0 hW ⟨fun a => f16 (by have := e1.mp a; omega), fun a => ⟨fun b => f16 (by have := e2.mp b; omega), fun b => ?_⟩⟩⟩
  have h1 : ¬ c < 48 := fun q => a (e1.mpr q)
  have h2 : ¬ 57 < c := fun q => b (e2.mpr q)
  exact l17 _ _ _ _ _ ⟨rfl, vX13_isDigit_17 hW ⟨rfl, q1 ⟨by omega, by omega⟩⟩⟩
/-- a rank's men from a file on, at most n signs: where it ends, and the men -/
def rkS (T : Nat → Nat) (e : Nat) : Nat → Nat → Bool → Nat → Option (Nat × List Nat)
  | 0, f, _, p => if f = 8 then some (p, []) else none
  | n + 1, f, d, p => if f = 8 then some (p, []) else if 0 < mOf (pk T e p) then (rkS T e n (f + 1) false (p + 1)).map (fun r => (r.1, mOf (pk T e p) :: r.2))
    else if 49 ≤ pk T e p ∧ pk T e p ≤ 56 ∧ d = false ∧ f + (pk T e p - 48) ≤ 8 then (rkS T e n (f + (pk T e p - 48)) true (p + 1)).map (fun r => (r.1, List.replicate (pk T e p - 48) 0 ++ r.2)) else none
set_option maxHeartbeats 8000000 in
theorem c_readRank {mc ms : Nat} {M : zM} (hW : zFix M) {T : Nat → Nat} {e p0 : Nat} (h0 : rAt M T e p0) (hp0 : p0 < 2 ^ 19) {r : Nat} (hr : r < 8) {Q : zQt} (q1 : ∀ p row N, rkS T e 8 0 false p0 = some (p, row) → rdF M N p → p ≤ p0 + 8 → (∀ i, ¬ (8 * r ≤ i ∧ i < 8 * r + 8) → N.1 65 i = M.1 65 i) → (∀ f, f < 8 → N.1 65 (8 * r + f) = nI (row.getD f 0)) → Q (some (.int 1)) N) (q0 : ∀ p N, rkS T e 8 0 false p0 = none → rdF M N p → Q (some (.int 0)) N) : wX13_readRank mc ms [.ref 55, .int (nI r)] M Q := by
  refine ⟨⟨Nat.le_of_ble_eq_true rfl, rfl⟩, fun X l0 l4 l49 l50 l71 l73 l86 l132 l144 l156 => ?_⟩
  have loop : ∀ (n f : Nat) (d : Bool) (p : Nat) (N : zM), f ≤ 8 → 8 ≤ f + n → rdF M N p → p + n < 2 ^ 20 → (∀ p' row K, rkS T e n f d p = some (p', row) → rdF M K p' → p' ≤ p + n → (∀ i, ¬ (8 * r + f ≤ i ∧ i < 8 * r + 8) → K.1 65 i = N.1 65 i) → (∀ t, f ≤ t → t < 8 → K.1 65 (8 * r + t) = nI (row.getD (t - f) 0)) → Q (some (.int 1)) K) → (∀ p' K, rkS T e n f d p = none → rdF M K p' → Q (some (.int 0)) K) → X 4 0 0 [.ref 55, .int (nI r), .int (nI f), .int (bI d)] [] N := by
    intro n
    induction n with
    | zero =>
      intro f d p N hf hfn hN hp k1 k0
      obtain rfl : f = 8 := by omega
      exact l4 _ _ _ _ _ ⟨rfl, vX13_readRank_4 (hN.1.fix hW) ⟨fun _ => k1 p [] N (by unfold rkS; rw [if_pos rfl]) hN (by omega) (fun _ _ => rfl) (fun t h1 h2 => absurd h2 (by omega)), fun z => absurd (by decide) z⟩⟩
    | succ n ih =>
      intro f d p N hf hfn hN hp k1 k0
      have hWN := hN.1.fix hW
      by_cases hf8 : f = 8
      · obtain rfl := hf8
        exact l4 _ _ _ _ _ ⟨rfl, vX13_readRank_4 hWN ⟨fun _ => k1 p [] N (by unfold rkS; rw [if_pos rfl]) hN (by omega) (fun _ _ => rfl) (fun t h1 h2 => absurd h2 (by omega)), fun z => absurd (by decide) z⟩⟩
      have hf7 : f < 8 := by omega
      have hAt := hN.at h0
      have hc := pkb_lt (p := p) hAt.1
      have hm := mOf_le _ hc
      have hS : rkS T e (n + 1) f d p = if 0 < mOf (pk T e p) then (rkS T e n (f + 1) false (p + 1)).map (fun r => (r.1, mOf (pk T e p) :: r.2))
    else if 49 ≤ pk T e p ∧ pk T e p ≤ 56 ∧ d = false ∧ f + (pk T e p - 48) ≤ 8 then (rkS T e n (f + (pk T e p - 48)) true (p + 1)).map (fun r => (r.1, List.replicate (pk T e p - 48) 0 ++ r.2)) else none := by
        conv => lhs; unfold rkS
        rw [if_neg hf8]
      generalize hgc : pk T e p = c at hc hm hS
      have f71 : rkS T e (n + 1) f d p = none → X 71 0 0 [] [] N := fun h => l71 _ _ _ _ _ ⟨rfl, vX13_readRank_71 hWN (k0 p N h hN)⟩
      -- a man
      have f73m : 0 < mOf c → X 73 0 0 [.ref 55, .int (nI r), .int (nI f), .int (nI (mOf c)), .int (nI 0)] [] N := by
        intro hmc
        rw [if_pos hmc] at hS
        refine l73 _ _ _ _ _ ⟨rfl, vX13_readRank_73 hWN (fun K hK => ?_)⟩
        rw [hN.2.2.1, show nI p + (1 : Int32) = nI (p + 1) from nI_1 p] at hK
        have hKr := hN.go (q := p + 1) (by omega)
        rw [← hK] at hKr
        have e65 : K.1 65 = N.1 65 := by rw [hK]; exact zsI_o (by decide)
        have em := nI_leI (a := mOf c) (b := 0) (by omega) (by decide)
        have hnm : ¬ nI (mOf c) ≤ 0 := fun q => absurd (em.mp q) (by omega)
        refine l86 _ _ _ _ _ ⟨rfl, vX13_readRank_86 (hKr.1.fix hW) ⟨fun _ => ⟨fun a => absurd a hnm, fun _ => ?_⟩, fun a => absurd (by decide) a⟩⟩
        rw [show (8 : Int32) * nI r = nI (8 * r) from pk_mul 8 r, nI_add, nI_clamp (by omega)]
        refine ⟨vp_in_nI (by omega) (by omega), fun L hL => ?_⟩
        have hLr : rdF M L (p + 1) := by rw [hL]; exact hKr.put
        have hWL := hLr.1.fix hW
        refine l132 _ _ _ _ _ ⟨rfl, vX13_readRank_132 hWL ⟨fun a => absurd a hnm, fun _ => ?_⟩⟩
        refine l144 _ _ _ _ _ ⟨rfl, vX13_readRank_144 hWL ⟨fun a => absurd ((nI_eq (a := mOf c) (b := 0) (by omega) (by decide)).mp a) (by omega), fun _ => ?_⟩⟩
        refine l156 _ _ _ _ _ ⟨rfl, vX13_readRank_156 hWL ?_⟩
        rw [show nI f + (1 : Int32) = nI (f + 1) from nI_1 f]
        refine ih (f + 1) false (p + 1) L (by omega) (by omega) hLr (by omega) (fun p' row Z hz hZ hle ho hv => ?_) (fun p' Z hz hZ => k0 p' Z (by rw [hS, hz]; rfl) hZ)
        refine k1 p' (mOf c :: row) Z (by rw [hS, hz]; rfl) hZ (by omega) (fun i hi => ?_) (fun t h1 h2 => ?_)
        · rw [ho i (by omega), hL, zsI_n (by omega), e65]
        · by_cases et : t = f
          · rw [et, ho _ (by omega), hL, zsI_s, Nat.sub_self]; rfl
          · rw [hv t (by omega) h2, show t - f = (t - (f + 1)) + 1 by omega]; rfl
      have f73d : mOf c = 0 → 49 ≤ c → c ≤ 56 → d = false → f + (c - 48) ≤ 8 → X 73 0 0 [.ref 55, .int (nI r), .int (nI f), .int (nI (mOf c)), .int (nI (c - 48))] [] N := by
        intro hmc h49 h56 hd hfc
        rw [if_neg (by omega), if_pos ⟨h49, h56, hd, hfc⟩] at hS
        refine l73 _ _ _ _ _ ⟨rfl, vX13_readRank_73 hWN (fun K hK => ?_)⟩
        rw [hN.2.2.1, show nI p + (1 : Int32) = nI (p + 1) from nI_1 p] at hK
        have hKr := hN.go (q := p + 1) (by omega)
        rw [← hK] at hKr
        have e65 : K.1 65 = N.1 65 := by rw [hK]; exact zsI_o (by decide)
        have zl : ∀ (m k : Nat) (L : zM), k + m = c - 48 → rdF M L (p + 1) → (∀ i, ¬ (8 * r + f ≤ i ∧ i < 8 * r + f + k) → L.1 65 i = N.1 65 i) → (∀ t, t < k → L.1 65 (8 * r + f + t) = 0) → X 86 0 0 [.ref 55, .int (nI r), .int (nI f), .int (nI (mOf c)), .int (nI (c - 48)), .int (nI k)] [] L := by
          intro m
          induction m with
          | zero =>
            intro k L hk hL ho hv
            have hWL := hL.1.fix hW
            obtain rfl : k = c - 48 := by omega
            have em : nI (mOf c) ≤ 0 := by rw [hmc]; decide
            refine l86 _ _ _ _ _ ⟨rfl, vX13_readRank_86 hWL ⟨fun _ => ⟨fun _ => ?_, fun a => absurd em a⟩, fun a => absurd ((nI_leI (a := c - 48) (b := c - 48) (by omega) (by omega)).mpr (Nat.le_refl _)) a⟩⟩
            refine l132 _ _ _ _ _ ⟨rfl, vX13_readRank_132 hWL ⟨fun _ => ?_, fun a => absurd em a⟩⟩
            refine l144 _ _ _ _ _ ⟨rfl, vX13_readRank_144 hWL ⟨fun _ => ?_, fun a => absurd (by rw [hmc]; rfl) a⟩⟩
            refine l156 _ _ _ _ _ ⟨rfl, vX13_readRank_156 hWL ?_⟩
            rw [nI_add]
            refine ih (f + (c - 48)) true (p + 1) L hfc (by omega) hL (by omega) (fun p' row Z hz hZ hle ho2 hv2 => ?_) (fun p' Z hz hZ => k0 p' Z (by rw [hS, hz]; rfl) hZ)
            refine k1 p' (List.replicate (c - 48) 0 ++ row) Z (by rw [hS, hz]; rfl) hZ (by omega) (fun i hi => ?_) (fun t h1 h2 => ?_)
            · rw [ho2 i (by omega), ho i (by omega)]
            · rw [List.getD_eq_getElem?_getD]
              by_cases et : t < f + (c - 48)
              · rw [ho2 _ (by omega), show 8 * r + t = 8 * r + f + (t - f) by omega, hv (t - f) (by omega), List.getElem?_append_left (by rw [List.length_replicate]; omega), List.getElem?_replicate, if_pos (by omega)]
                rfl
              · rw [hv2 t (by omega) h2, List.getElem?_append_right (by rw [List.length_replicate]; omega), List.length_replicate, List.getD_eq_getElem?_getD, Nat.sub_sub]
          | succ m ih2 =>
            intro k L hk hL ho hv
            have hWL := hL.1.fix hW
            refine l86 _ _ _ _ _ ⟨rfl, vX13_readRank_86 hWL ⟨fun a => absurd ((nI_leI (a := c - 48) (b := k) (by omega) (by omega)).mp a) (by omega), fun _ => ?_⟩⟩
            rw [show (8 : Int32) * nI r = nI (8 * r) from pk_mul 8 r, nI_add, nI_add, nI_clamp (by omega)]
            refine ⟨vp_in_nI (by omega) (by omega), fun Z hZ => ?_⟩
            rw [nI_1]
            refine ih2 (k + 1) Z (by omega) (by rw [hZ]; exact hL.put) (fun i hi => ?_) (fun t ht => ?_)
            · rw [hZ, zsI_n (by omega)]
              exact ho i (by omega)
            · by_cases et : t = k
              · rw [hZ, et, zsI_s]
              · rw [hZ, zsI_n (by omega)]
                exact hv t (by omega)
        exact zl (c - 48) 0 K (by omega) hKr (fun i _ => by rw [e65]) (fun t ht => absurd ht (by omega))
      have f50 : ∀ v, v = (if 49 ≤ c ∧ c ≤ 56 ∧ d = false then c - 48 else 0) → X 50 0 0 [.ref 55, .int (nI r), .int (nI f), .int (nI (mOf c))] [.int (nI v)] N := by
        intro v hv
        have hv8 : v ≤ 8 := by rw [hv]; split <;> omega
        have e0 := nI_eq (a := mOf c) (b := 0) (by omega) (by decide)
        have e1 := nI_eq (a := v) (b := 0) (by omega) (by decide)
        refine l50 _ _ _ _ _ ⟨rfl, vX13_readRank_50 hWN ⟨fun a => ⟨fun b => f71 ?_, fun b => ?_⟩, fun a => ?_⟩⟩
        · have ha := e0.mp a
          have hb := e1.mp b
          rw [hS, if_neg (by omega), if_neg]
          rintro ⟨z1, z2, z3, z4⟩
          rw [if_pos ⟨z1, z2, z3⟩] at hv
          omega
        · have ha := e0.mp a
          have hb : v ≠ 0 := fun q => b (e1.mpr q)
          have hcd : 49 ≤ c ∧ c ≤ 56 ∧ d = false := by
            by_cases z : 49 ≤ c ∧ c ≤ 56 ∧ d = false
            · exact z
            · rw [if_neg z] at hv
              exact absurd hv hb
          rw [if_pos hcd] at hv
          rw [nI_add]
          have e8 := nI_leI (a := f + v) (b := 8) (by omega) (by decide)
          refine ⟨fun g => ?_, fun g => f71 ?_⟩
          · rw [hv]
            exact f73d ha hcd.1 hcd.2.1 hcd.2.2 (by have := e8.mp g; omega)
          · rw [hS, if_neg (by omega), if_neg]
            rintro ⟨z1, z2, z3, z4⟩
            exact g (e8.mpr (by omega))
        · have ha : 0 < mOf c := by
            have : ¬ mOf c = 0 := fun q => a (e0.mpr q)
            omega
          have hv0 : v = 0 := by
            rw [hv, if_neg]
            rintro ⟨z1, z2, z3⟩
            exact hm.2 ha ⟨z1, z2⟩
          rw [hv0]
          exact f73m ha
      have f49 : ¬ (49 ≤ c ∧ c ≤ 56 ∧ d = false) → X 49 0 0 [.ref 55, .int (nI r), .int (nI f), .int (nI (mOf c))] [] N := fun h => l49 _ _ _ _ _ ⟨rfl, vX13_readRank_49 hWN (f50 0 (by rw [if_neg h]))⟩
      refine l4 _ _ _ _ _ ⟨rfl, vX13_readRank_4 hWN ⟨fun z => absurd z (nI_ge (a := f) (b := 8) hf7 (by decide)), fun _ => c_peek hWN hAt ?_⟩⟩
      rw [hgc]
      refine vkX13_readRank_14 hWN (c_manOf hWN c (by omega) ?_)
      have e49 := nI_ltI (a := c) (b := 49) (by omega) (by decide)
      have e56 := nI_ltI (a := 56) (b := c) (by decide) (by omega)
      refine vkX13_readRank_21 hWN ⟨fun a => f49 (fun z => ?_), fun a => ⟨fun b => f49 (fun z => ?_), fun b => ⟨fun g => ?_, fun g => f49 (fun z => ?_)⟩⟩⟩
      · have := e49.mp a; omega
      · have := e56.mp b; omega
      · have h1 : ¬ c < 49 := fun q => a (e49.mpr q)
        have h2 : ¬ 56 < c := fun q => b (e56.mpr q)
        rw [show nI c - (48 : Int32) = nI (c - 48) from pk_sub (a := c) (b := 48) (by omega)]
        exact f50 _ (by rw [if_pos ⟨by omega, by omega, bI_0.mp g⟩])
      · rw [z.2.2] at g
        exact g rfl
  refine l0 _ _ _ _ _ ⟨rfl, vX13_readRank_0 hW ?_⟩
  exact loop 8 0 false p0 M (by omega) (by omega) (rdF.rf h0) (by omega) (fun p row N h1 h2 hle h3 h4 => q1 p row N h1 h2 hle (fun i hi => h3 i (by omega)) (fun f hf => by have := h4 f (by omega) hf; rwa [Nat.sub_zero] at this)) (fun p N h1 h2 => q0 p N h1 h2)
