/-! THE REFERENCE'S READING: ranks, rights, passant, numbers -/
def rksS (T : Nat → Nat) (e : Nat) : Nat → Nat → Option (Nat × (Nat → Nat))
  | 0, p => some (p, fun _ => 0)
  | n + 1, p => (rkS T e 8 0 false p).bind fun x => if n = 0 then some (x.1, fun s => x.2.getD s 0) else if pk T e x.1 = 47 then (rksS T e n (x.1 + 1)).map (fun r => (r.1, fun s => if s / 8 = n then x.2.getD (s % 8) 0 else r.2 s)) else none
set_option maxHeartbeats 4000000 in
theorem c_readRanks {mc ms : Nat} {M : zM} (hW : zFix M) {T : Nat → Nat} {e p0 : Nat} (h0 : rAt M T e p0) (hp0 : p0 < 2 ^ 18) {Q : zQt} (q1 : ∀ p B N, rksS T e 8 p0 = some (p, B) → rdF M N p → p ≤ p0 + 72 → (∀ s, s < 64 → N.1 65 s = nI (B s)) → Q (some (.int 1)) N) (q0 : ∀ p N, rksS T e 8 p0 = none → rdF M N p → Q (some (.int 0)) N) : wX13_readRanks mc ms [.ref 55] M Q := by
  refine ⟨⟨Nat.le_of_ble_eq_true rfl, rfl⟩, fun X l0 l5 l34 l38 l39 l46 => ?_⟩
  have bad : ∀ N p z, rdF M N p → rksS T e 8 p0 = none → X 5 0 0 [.ref 55, .int 0, .int z] [] N := by
    intro N p z hN hn
    have f46 : X 46 0 0 [.int 0] [] N := l46 _ _ _ _ _ ⟨rfl, vX13_readRanks_46 (x1 := 0) (hN.1.fix hW) ⟨rfl, q0 p N hn hN⟩⟩
    exact l5 _ _ _ _ _ ⟨rfl, vX13_readRanks_5 (hN.1.fix hW) ⟨fun _ => f46, fun _ => ⟨fun _ => f46, fun a => absurd rfl a⟩⟩⟩
  have loop : ∀ (n p : Nat) (N : zM), n ≤ 8 → rdF M N p → p + 9 * n < 2 ^ 19 → (n = 0 ∨ ∀ x, rksS T e n p = none → x = 0 → rksS T e 8 p0 = none) → (∀ p' B K, rksS T e n p = some (p', B) → rdF M K p' → p' ≤ p + 9 * n → (∀ i, 8 * n ≤ i → K.1 65 i = N.1 65 i) → (∀ s, s < 8 * n → K.1 65 s = nI (B s)) → Q (some (.int 1)) K) → X 5 0 0 [.ref 55, .int 1, .int (nI n + (-1))] [] N := by
    intro n
    induction n with
    | zero =>
      intro p N hn hN hp k0 k1
      have f46 : X 46 0 0 [.int 1] [] N := l46 _ _ _ _ _ ⟨rfl, vX13_readRanks_46 (x1 := 1) (hN.1.fix hW) ⟨rfl, k1 p (fun _ => 0) N rfl hN (by omega) (fun _ _ => rfl) (fun s hs => absurd hs (by omega))⟩⟩
      exact l5 _ _ _ _ _ ⟨rfl, vX13_readRanks_5 (hN.1.fix hW) ⟨fun _ => f46, fun a => absurd (by decide) a⟩⟩
    | succ n ih =>
      intro p N hn hN hp k0 k1
      have k0 : rksS T e (n + 1) p = none → rksS T e 8 p0 = none := by
        rcases k0 with q | q
        · omega
        · exact fun h => q 0 h rfl
      have hWN := hN.1.fix hW
      rw [pk_m1]
      have hS : rksS T e (n + 1) p = (rkS T e 8 0 false p).bind fun x => if n = 0 then some (x.1, fun s => x.2.getD s 0) else if pk T e x.1 = 47 then (rksS T e n (x.1 + 1)).map (fun r => (r.1, fun s => if s / 8 = n then x.2.getD (s % 8) 0 else r.2 s)) else none := by
        conv => lhs; unfold rksS
      have f38 : ∀ K q, rdF M K q → rksS T e (n + 1) p = none → X 38 0 0 [.ref 55, .int (nI n)] [] K := by
        intro K q hK hz
        exact l38 _ _ _ _ _ ⟨rfl, vX13_readRanks_38 (hK.1.fix hW) (l39 _ _ _ _ _ ⟨rfl, vX13_readRanks_39 (hK.1.fix hW) (bad K q _ hK (k0 hz))⟩)⟩
      refine l5 _ _ _ _ _ ⟨rfl, vX13_readRanks_5 hWN ⟨fun a => absurd ((nI_ltI (a := n) (b := 0) (by omega) (by decide)).mp a) (by omega), fun _ => ⟨fun a => absurd a (by decide), fun _ => ?_⟩⟩⟩
      refine c_readRank hWN (hN.at h0) (by omega) (r := n) (by omega) (fun p1 row K hr hK hle ho hv => ?_) (fun p1 K hr hK => ?_)
      · have hKM := hN.tr hK
        have hWK := hKM.1.fix hW
        rw [hr] at hS
        have hS : rksS T e (n + 1) p = if n = 0 then some (p1, fun s => row.getD s 0) else if pk T e p1 = 47 then (rksS T e n (p1 + 1)).map (fun r => (r.1, fun s => if s / 8 = n then row.getD (s % 8) 0 else r.2 s)) else none := hS
        have en := nI_eq (a := n) (b := 0) (by omega) (by decide)
        refine vkX13_readRanks_18 hWK ⟨fun a => absurd a (by decide), fun _ => ⟨fun a => ?_, fun a => ?_⟩⟩
        · have hn0 := en.mp a
          rw [hn0]
          refine l34 _ _ _ _ _ ⟨rfl, vX13_readRanks_34 hWK (l39 _ _ _ _ _ ⟨rfl, vX13_readRanks_39 hWK ?_⟩)⟩
          subst hn0
          rw [if_pos rfl] at hS
          refine ih p1 K (by omega) hKM (by omega) (Or.inl rfl) (fun p' B Z hz hZ hle2 hi hs => ?_)
          obtain ⟨rfl, -⟩ : p1 = p' ∧ _ := by
            have := Option.some.inj hz
            exact ⟨congrArg Prod.fst this, trivial⟩
          refine k1 p1 _ Z hS hZ (by omega) (fun i hi2 => ?_) (fun s hs2 => ?_)
          · rw [hi i (by omega), ho i (by omega)]
          · rw [hi s (by omega)]
            have := hv s (by omega)
            rwa [show 8 * 0 + s = s by omega] at this
        · have hn0 : n ≠ 0 := fun q => a (en.mpr q)
          rw [if_neg hn0] at hS
          refine c_eat hWK (hKM.at h0) (c := 47) (by omega) (by omega) (fun hc => ?_) (fun hc => ?_)
          · rw [if_pos hc] at hS
            have hZ0 := hKM.go (q := p1 + 1) (by omega)
            have hWZ := hZ0.1.fix hW
            refine vkX13_readRanks_31 hWZ ⟨fun a => absurd a (by decide), fun _ => ?_⟩
            refine l34 _ _ _ _ _ ⟨rfl, vX13_readRanks_34 hWZ (l39 _ _ _ _ _ ⟨rfl, vX13_readRanks_39 hWZ ?_⟩)⟩
            refine ih (p1 + 1) _ (by omega) hZ0 (by omega) (Or.inr (fun x hx _ => k0 (by rw [hS, hx]; rfl))) (fun p' B Z hz hZ hle2 hi hs => ?_)
            refine k1 p' _ Z (by rw [hS, hz]; rfl) hZ (by omega) (fun i hi2 => ?_) (fun s hs2 => ?_)
            · rw [hi i (by omega), zsI_o (by decide), ho i (by omega)]
            · show _ = nI (if s / 8 = n then row.getD (s % 8) 0 else B s)
              by_cases hd : s / 8 = n
              · rw [if_pos hd, hi s (by omega), zsI_o (by decide)]
                have := hv (s % 8) (by omega)
                rwa [show 8 * n + s % 8 = s by omega] at this
              · rw [if_neg hd]
                exact hs s (by omega)
          · rw [if_neg hc] at hS
            exact vkX13_readRanks_31 hWK ⟨fun _ => f38 K p1 hKM hS, fun a => absurd rfl a⟩
      · have hKM := hN.tr hK
        rw [hr] at hS
        exact vkX13_readRanks_18 (hKM.1.fix hW) ⟨fun _ => f38 K p1 hKM hS, fun a => absurd rfl a⟩
  refine l0 _ _ _ _ _ ⟨rfl, vX13_readRanks_0 hW ?_⟩
  exact loop 8 p0 M (by omega) (rdF.rf h0) (by omega) (Or.inr (fun _ h _ => h)) (fun p B N h1 h2 hle h3 h4 => q1 p B N h1 h2 (by omega) (fun s hs => h4 s (by omega)))
def rtL (k : Nat) : Nat := if k = 0 then 75 else if k = 1 then 81 else if k = 2 then 107 else 113
/-- the letters of rights, each there or not: n are left -/
def rt4 (T : Nat → Nat) (e : Nat) : Nat → Nat → Nat → Nat × Nat
  | 0, p, r => (p, r)
  | n + 1, p, r => if pk T e p = rtL (3 - n) then rt4 T e n (p + 1) (r + 2 ^ (3 - n)) else rt4 T e n p r
def rgS (T : Nat → Nat) (e p : Nat) : Option (Nat × Nat) := if pk T e p = 45 then some (p + 1, 0) else if 0 < (rt4 T e 4 p 0).2 then some (rt4 T e 4 p 0) else none
theorem shl4 : ∀ k, k < 4 → (1 : Int32) <<< (nI k &&& 31) = nI (2 ^ k) := by decide
set_option maxHeartbeats 4000000 in
theorem c_readRights {mc ms : Nat} {M : zM} (hW : zFix M) {T : Nat → Nat} {e p0 : Nat} (h0 : rAt M T e p0) (hp0 : p0 < 2 ^ 19) {Q : zQt} (q1 : ∀ p r N, rgS T e p0 = some (p, r) → rdF M N p → p ≤ p0 + 4 → r < 16 → N.1 65 65 = nI r → (∀ i, i ≠ 65 → N.1 65 i = M.1 65 i) → Q (some (.int 1)) N) (q0 : ∀ p N, rgS T e p0 = none → rdF M N p → Q (some (.int 0)) N) : wX13_readRights mc ms [.ref 55] M Q := by
  refine ⟨⟨Nat.le_of_ble_eq_true rfl, rfl⟩, fun X l0 l11 l53 l66 l74 l90 l95 => ?_⟩
  have f74 : ∀ (N : zM) (p r : Nat) (b : Bool), rdF M N p → p ≤ p0 + 4 → r < 16 → (∀ i, N.1 65 i = M.1 65 i) → (b = true → r = 0 ∧ rgS T e p0 = some (p, 0)) → (b = false → rgS T e p0 = if 0 < r then some (p, r) else none) → X 74 0 0 [.ref 55, .int (nI r), .int (bI b)] [] N := by
    intro N p r b hN hp hr ho h1 h2
    refine l74 _ _ _ _ _ ⟨rfl, vX13_readRights_74 (hN.1.fix hW) (fun K hK => ?_)⟩
    rw [show (65 : Int32).toNatClampNeg = 65 from rfl] at hK
    have hKr : rdF M K p := by rw [hK]; exact hN.put
    have hWK := hKr.1.fix hW
    have v : K.1 65 65 = nI r := by rw [hK, zsI_s]
    have o : ∀ i, i ≠ 65 → K.1 65 i = M.1 65 i := fun i hi => by rw [hK, zsI_n hi]; exact ho i
    have f90 : rgS T e p0 = some (p, r) → X 90 0 0 [] [] K := fun h => l90 _ _ _ _ _ ⟨rfl, vX13_readRights_90 hWK (l95 _ _ _ _ _ ⟨rfl, vX13_readRights_95 hWK ⟨rfl, q1 p r K h hKr hp hr v o⟩⟩)⟩
    have er := nI_leI (a := r) (b := 0) (by omega) (by decide)
    refine ⟨fun a => ⟨fun c => ?_, fun c => f90 ?_⟩, fun a => f90 ?_⟩
    · have hz := h2 (bI_0.mp a)
      rw [if_neg (by have := er.mp c; omega)] at hz
      exact l95 _ _ _ _ _ ⟨rfl, vX13_readRights_95 hWK ⟨rfl, q0 p K hz hKr⟩⟩
    · have hz := h2 (bI_0.mp a)
      have : ¬ r ≤ 0 := fun q => c (er.mpr q)
      rwa [if_pos (by omega)] at hz
    · obtain ⟨z1, z2⟩ := h1 (bI_n.mp a)
      rw [z1]; exact z2
  have loop : ∀ (n p r : Nat) (N : zM), n ≤ 4 → rdF M N p → p + n ≤ p0 + 4 → r < 2 ^ (4 - n) → (∀ i, N.1 65 i = M.1 65 i) → ¬ pk T e p0 = 45 → rt4 T e 4 p0 0 = rt4 T e n p r → X 11 0 0 [.ref 55, .int (nI r), .int (bI false), .int (nI (4 - n))] [] N := by
    intro n
    induction n with
    | zero =>
      intro p r N hn hN hp hr ho h45 ht
      refine l11 _ _ _ _ _ ⟨rfl, vX13_readRights_11 (hN.1.fix hW) ⟨fun _ => ?_, fun a => absurd (by decide) a⟩⟩
      refine f74 N p r false hN (by omega) (by simpa using hr) ho (fun q => absurd q (by decide)) (fun _ => ?_)
      have ht : rt4 T e 4 p0 0 = (p, r) := ht
      unfold rgS
      rw [if_neg h45, ht]
    | succ n ih =>
      intro p r N hn hN hp hr ho h45 ht
      have hWN := hN.1.fix hW
      have hk4 : 4 - (n + 1) < 4 := by omega
      have h3 : 3 - n = 4 - (n + 1) := by omega
      have ht : rt4 T e 4 p0 0 = if pk T e p = rtL (3 - n) then rt4 T e n (p + 1) (r + 2 ^ (3 - n)) else rt4 T e n p r := ht
      have hr16 : r < 16 := by
        have : 2 ^ (4 - (n + 1)) ≤ 2 ^ 4 := Nat.pow_le_pow_right (by decide) (by omega)
        omega
      have hpw : 2 ^ (4 - n) = 2 ^ (3 - n) + 2 ^ (3 - n) := by
        rw [show 4 - n = (3 - n) + 1 by omega, Nat.pow_succ]; omega
      rw [h3] at hpw ht
      have f66 : ∀ (v p' : Nat) (K : zM), rdF M K p' → p' + n ≤ p0 + 4 → r + v < 2 ^ (4 - n) → (∀ i, K.1 65 i = M.1 65 i) → rt4 T e 4 p0 0 = rt4 T e n p' (r + v) → X 66 0 0 [.ref 55, .int (bI false), .int (nI (4 - (n + 1)))] [.int (nI v), .int (nI r)] K := by
        intro v p' K hK hp' hv hoK hz
        refine l66 _ _ _ _ _ ⟨rfl, vX13_readRights_66 (hK.1.fix hW) ?_⟩
        rw [nI_add, nI_1, show 4 - (n + 1) + 1 = 4 - n by omega]
        exact ih p' (r + v) K (by omega) hK hp' hv hoK h45 hz
      have f53 : ∀ c, c = rtL (4 - (n + 1)) → X 53 0 0 [.ref 55, .int (bI false), .int (nI (4 - (n + 1)))] [.int (nI c), .ref 55, .int (nI r)] N := by
        intro c hc
        have hc2 : c < 256 ∧ c ≠ 0 := by
          rw [hc]; unfold rtL; split
          · omega
          · split
            · omega
            · split <;> omega
        refine l53 _ _ _ _ _ ⟨rfl, vX13_readRights_53 hWN ?_⟩
        refine c_eat hWN (hN.at h0) hc2.1 hc2.2 (fun hy => ?_) (fun hy => ?_)
        · rw [if_pos (by rw [hy, hc])] at ht
          have hg := hN.go (q := p + 1) (by omega)
          refine vkX13_readRights_56 (hg.1.fix hW) ⟨fun a => absurd a (by decide), fun _ => ?_⟩
          rw [shl4 _ hk4]
          exact f66 _ (p + 1) _ hg (by omega) (by rw [hpw]; omega) (fun i => by rw [zsI_o (by decide)]; exact ho i) ht
        · rw [if_neg (by rw [← hc]; exact hy)] at ht
          refine vkX13_readRights_56 hWN ⟨fun _ => ?_, fun a => absurd rfl a⟩
          exact f66 0 p N hN (by omega) (by rw [hpw]; omega) ho ht
      have e := fun k (h : k < 2 ^ 31) => nI_eq (a := 4 - (n + 1)) (b := k) (by omega) h
      refine l11 _ _ _ _ _ ⟨rfl, vX13_readRights_11 hWN ⟨fun a => absurd a (nI_ge (a := 4 - (n + 1)) (b := 4) hk4 (by decide)), fun _ => ⟨fun _ => ⟨fun a => f53 75 ?_, fun a => ⟨fun b => f53 81 ?_, fun b => ⟨fun c => f53 107 ?_, fun c => f53 113 ?_⟩⟩⟩, fun a => absurd rfl a⟩⟩⟩
      · unfold rtL; rw [if_pos ((e 0 (by decide)).mp a)]
      · unfold rtL; rw [if_neg (fun q => a ((e 0 (by decide)).mpr q)), if_pos ((e 1 (by decide)).mp b)]
      · unfold rtL; rw [if_neg (fun q => a ((e 0 (by decide)).mpr q)), if_neg (fun q => b ((e 1 (by decide)).mpr q)), if_pos ((e 2 (by decide)).mp c)]
      · unfold rtL; rw [if_neg (fun q => a ((e 0 (by decide)).mpr q)), if_neg (fun q => b ((e 1 (by decide)).mpr q)), if_neg (fun q => c ((e 2 (by decide)).mpr q))]
  refine l0 _ _ _ _ _ ⟨rfl, vX13_readRights_0 hW ?_⟩
  refine c_eat hW h0 (c := 45) (by omega) (by omega) (fun hy => ?_) (fun hy => ?_)
  · have hg := (rdF.rf h0).go (q := p0 + 1) (by omega)
    have hWg := hg.1.fix hW
    refine vkX13_readRights_8 hWg ?_
    have z := f74 _ (p0 + 1) 0 true hg (by omega) (by omega) (fun i => by rw [zsI_o (by decide)]) (fun _ => ⟨rfl, by unfold rgS; rw [if_pos hy]⟩) (fun q => absurd q (by decide))
    exact l11 _ _ _ _ _ ⟨rfl, vX13_readRights_11 hWg ⟨fun _ => z, fun _ => ⟨fun a => absurd a (by decide), fun _ => z⟩⟩⟩
  · refine vkX13_readRights_8 hW ?_
    exact loop 4 p0 0 M (by omega) (rdF.rf h0) (by omega) (by decide) (fun _ => rfl) hy rfl
def psS (T : Nat → Nat) (e c p : Nat) : Option (Nat × Nat) := if pk T e p = 45 then some (p + 1, 8) else if 97 ≤ pk T e p ∧ pk T e p ≤ 104 ∧ pk T e (p + 1) = (if c = 0 then 54 else 51) then some (p + 2, pk T e p - 97) else none
set_option maxHeartbeats 4000000 in
theorem c_readPassant {mc ms : Nat} {M : zM} (hW : zFix M) {T : Nat → Nat} {e p0 : Nat} (h0 : rAt M T e p0) (hp0 : p0 < 2 ^ 19) {c : Nat} (hc1 : c ≤ 1) (hc : M.1 65 64 = nI c) {Q : zQt} (q1 : ∀ p f N, psS T e c p0 = some (p, f) → rdF M N p → p ≤ p0 + 2 → f ≤ 8 → N.1 65 66 = pI f → (∀ i, i ≠ 66 → N.1 65 i = M.1 65 i) → Q (some (.int 1)) N) (q0 : ∀ p N, psS T e c p0 = none → rdF M N p → Q (some (.int 0)) N) : wX13_readPassant mc ms [.ref 55] M Q := by
  refine ⟨⟨Nat.le_of_ble_eq_true rfl, rfl⟩, fun X l0 l73 l83 l84 => ?_⟩
  have f83 : ∀ N p, psS T e c p0 = none → rdF M N p → X 83 0 0 [] [] N := fun N p h hN => l83 _ _ _ _ _ ⟨rfl, vX13_readPassant_83 (hN.1.fix hW) (l84 _ _ _ _ _ ⟨rfl, vX13_readPassant_84 (hN.1.fix hW) ⟨rfl, q0 p N h hN⟩⟩)⟩
  refine l0 _ _ _ _ _ ⟨rfl, vX13_readPassant_0 hW (fun N hN => ?_)⟩
  rw [show (66 : Int32).toNatClampNeg = 66 from rfl] at hN
  have hNr : rdF M N p0 := by rw [hN]; exact (rdF.rf h0).put
  have hWN := hNr.1.fix hW
  have oN : ∀ i, i ≠ 66 → N.1 65 i = M.1 65 i := fun i hi => by rw [hN, zsI_n hi]
  have vN : N.1 65 66 = pI 8 := by rw [hN, zsI_s]; rfl
  refine c_eat hWN (hNr.at h0) (c := 45) (by omega) (by omega) (fun hy => ?_) (fun hy => ?_)
  · have hg := hNr.go (q := p0 + 1) (by omega)
    refine vkX13_readPassant_14 (hg.1.fix hW) ⟨fun a => absurd a (by decide), fun _ => ?_⟩
    exact q1 (p0 + 1) 8 _ (by unfold psS; rw [if_pos hy]) hg (by omega) (by omega) (by rw [zsI_o (by decide)]; exact vN) (fun i hi => by rw [zsI_o (by decide)]; exact oN i hi)
  · refine vkX13_readPassant_14 hWN ⟨fun _ => c_peek hWN (hNr.at h0) ?_, fun a => absurd rfl a⟩
    have hb := pkb_lt (p := p0) h0.1
    have hS : psS T e c p0 = if 97 ≤ pk T e p0 ∧ pk T e p0 ≤ 104 ∧ pk T e (p0 + 1) = (if c = 0 then 54 else 51) then some (p0 + 2, pk T e p0 - 97) else none := by
      unfold psS; rw [if_neg hy]
    generalize pk T e p0 = b at hb hS
    refine vkX13_readPassant_23 hWN (fun K hK L hL => ?_)
    rw [show (66 : Int32).toNatClampNeg = 66 from rfl] at hL
    rw [hNr.2.2.1, show nI p0 + (1 : Int32) = nI (p0 + 1) from nI_1 p0] at hK
    have hKr : rdF M K (p0 + 1) := by rw [hK]; exact hNr.go (by omega)
    have hLr : rdF M L (p0 + 1) := by rw [hL]; exact hKr.put
    have hWL := hLr.1.fix hW
    have e97 : nI b - (97 : Int32) = iI ((b : Int) - 97) := by rw [iI_nat]; exact iI_sub (b : Int) 97
    rw [e97] at hL ⊢
    have c0 : iI ((b : Int) - 97) < 0 ↔ (b : Int) - 97 < 0 := iI_lt (a := (b : Int) - 97) (b := 0) (by omega) (by omega) (by decide) (by decide)
    have c8 : (8 : Int32) ≤ iI ((b : Int) - 97) ↔ 8 ≤ (b : Int) - 97 := iI_le (a := 8) (b := (b : Int) - 97) (by decide) (by decide) (by omega) (by omega)
    have oL : ∀ i, i ≠ 66 → L.1 65 i = M.1 65 i := fun i hi => by rw [hL, zsI_n hi, hK, zsI_o (by decide)]; exact oN i hi
    have e64 : L.1 65 (64 : Int32).toNatClampNeg = nI c := by
      rw [show (64 : Int32).toNatClampNeg = 64 from rfl, oL 64 (by decide)]; exact hc
    rw [e64]
    refine ⟨fun a => f83 L _ ?_ hLr, fun a => ⟨fun g => f83 L _ ?_ hLr, fun g => ?_⟩⟩
    · have := c0.mp a
      rw [hS, if_neg (by omega)]
    · have := c8.mp g
      rw [hS, if_neg (by omega)]
    · have a' : ¬ (b : Int) - 97 < 0 := fun q => a (c0.mpr q)
      have g' : ¬ 8 ≤ (b : Int) - 97 := fun q => g (c8.mpr q)
      have vL : L.1 65 66 = pI (b - 97) := by
        rw [hL, zsI_s]
        unfold pI
        rw [if_pos (by omega), iI_nat, show ((b - 97 : Nat) : Int) = (b : Int) - 97 by omega]
      have f73 : ∀ v, v = (if c = 0 then 54 else 51) → X 73 0 0 [] [.int (nI v), .ref 55] L := by
        intro v hv
        have hv2 : v < 256 ∧ v ≠ 0 := by rw [hv]; split <;> omega
        refine l73 _ _ _ _ _ ⟨rfl, vX13_readPassant_73 hWL ?_⟩
        refine c_eat hWL (hLr.at h0) hv2.1 hv2.2 (fun hz => ?_) (fun hz => ?_)
        · have hg := hLr.go (q := p0 + 2) (by omega)
          refine vkX13_readPassant_76 (hg.1.fix hW) ⟨fun a => absurd a (by decide), fun _ => ?_⟩
          refine l84 _ _ _ _ _ ⟨rfl, vX13_readPassant_84 (hg.1.fix hW) ⟨rfl, q1 (p0 + 2) (b - 97) _ ?_ hg (by omega) (by omega) ?_ ?_⟩⟩
          · rw [hS, if_pos ⟨by omega, by omega, by rw [hz]; exact hv⟩]
          · rw [zsI_o (by decide)]; exact vL
          · intro i hi
            rw [zsI_o (by decide)]; exact oL i hi
        · refine vkX13_readPassant_76 hWL ⟨fun _ => f83 L _ ?_ hLr, fun a => absurd rfl a⟩
          rw [hS, if_neg]
          rintro ⟨_, _, z⟩
          exact hz (by rw [z]; exact hv.symm)
      have ec := nI_eq (a := c) (b := 0) (by omega) (by decide)
      refine ⟨fun q => f73 54 ?_, fun q => f73 51 ?_⟩
      · rw [if_pos (ec.mp q)]
      · rw [if_neg (fun z => q (ec.mpr z))]
/-- at most k digits from p on: where they end, and their number behind v -/
def dg (T : Nat → Nat) (e : Nat) : Nat → Nat → Nat → Nat × Nat
  | 0, p, v => (p, v)
  | k + 1, p, v => if 48 ≤ pk T e p ∧ pk T e p ≤ 57 then dg T e k (p + 1) (10 * v + (pk T e p - 48)) else (p, v)
def nmS (T : Nat → Nat) (e most p : Nat) : Option (Nat × Nat) := if (dg T e (most + 1) p 0).1 = p ∨ most < (dg T e (most + 1) p 0).1 - p ∨ 1 < (dg T e (most + 1) p 0).1 - p ∧ pk T e p = 48 then none else some (dg T e (most + 1) p 0)
set_option maxHeartbeats 4000000 in
theorem c_readNumber {mc ms : Nat} {M : zM} (hW : zFix M) {T : Nat → Nat} {e p0 : Nat} (h0 : rAt M T e p0) (hp0 : p0 < 2 ^ 19) {most : Nat} (hm : most ≤ 4) {Q : zQt} (q1 : ∀ p v N, nmS T e most p0 = some (p, v) → rdF M N p → p ≤ p0 + 5 → v < 100000 → (∀ i, N.1 65 i = M.1 65 i) → Q (some (.int (nI v))) N) (q0 : ∀ p N, nmS T e most p0 = none → rdF M N p → Q (some (.int (-1))) N) : wX13_readNumber mc ms [.ref 55, .int (nI most)] M Q := by
  refine ⟨⟨Nat.le_of_ble_eq_true rfl, rfl⟩, fun X l0 l7 l53 l89 l93 l94 => ?_⟩
  have f53 : ∀ (p v : Nat) (N : zM), rdF M N p → p0 ≤ p → p ≤ p0 + 5 → v < 100000 → (∀ i, N.1 65 i = M.1 65 i) → dg T e (most + 1) p0 0 = (p, v) → (p0 < p → p0 < e) → X 53 0 0 [.ref 55, .int (nI most), .int (nI p0), .int (nI v)] [] N := by
    intro p v N hN hp hp5 hv ho hd hpe
    have hWN := hN.1.fix hW
    have hS : nmS T e most p0 = if p = p0 ∨ most < p - p0 ∨ 1 < p - p0 ∧ pk T e p0 = 48 then none else some (p, v) := by
      unfold nmS; rw [hd]
    have f89 : nmS T e most p0 = none → X 89 0 0 [] [] N := fun h => l89 _ _ _ _ _ ⟨rfl, vX13_readNumber_89 hWN (l94 _ _ _ _ _ ⟨rfl, vX13_readNumber_94 hWN (q0 p N h hN)⟩)⟩
    have f93 : nmS T e most p0 = some (p, v) → X 93 0 0 [.int (nI v)] [] N := fun h => l93 _ _ _ _ _ ⟨rfl, vX13_readNumber_93 hWN (l94 _ _ _ _ _ ⟨rfl, vX13_readNumber_94 hWN (q1 p v N h hN hp5 hv ho)⟩)⟩
    refine l53 _ _ _ _ _ ⟨rfl, vX13_readNumber_53 hWN ?_⟩
    rw [hN.2.2.1, pk_sub hp, nI_clamp (by omega)]
    have z0 := nI_eq (a := p - p0) (b := 0) (by omega) (by decide)
    have zm := nI_ltI (a := most) (b := p - p0) (by omega) (by omega)
    have z1 := nI_leI (a := p - p0) (b := 1) (by omega) (by decide)
    refine ⟨fun a => f89 ?_, fun a => ⟨fun b => f89 ?_, fun b => ⟨fun c => f93 ?_, fun c => ?_⟩⟩⟩
    · have := z0.mp a
      rw [hS, if_pos (Or.inl (by omega))]
    · rw [hS, if_pos (Or.inr (Or.inl (zm.mp b)))]
    · have h1 : ¬ p - p0 = 0 := fun q => a (z0.mpr q)
      have h2 : ¬ most < p - p0 := fun q => b (zm.mpr q)
      have h3 := z1.mp c
      rw [hS, if_neg (by omega)]
    · have h1 : ¬ p - p0 = 0 := fun q => a (z0.mpr q)
      have h2 : ¬ most < p - p0 := fun q => b (zm.mpr q)
      have h3 : ¬ p - p0 ≤ 1 := fun q => c (z1.mpr q)
      have hpe := hpe (by omega)
      have hT := h0.1.2.2 p0 (by have := h0.1.2.1; omega)
      have epk : pk T e p0 = T p0 := by unfold pk; rw [if_pos hpe]
      have e48 := sb_eq (T p0) hT.2 48 (by decide)
      have e56 : N.1 56 p0 = sb (T p0) := by rw [hN.1.i (by decide)]; exact hT.1
      rw [e56]
      refine ⟨vp_in_nI (by have := h0.1.2.1; omega) (by omega), fun d => f89 ?_, fun d => f93 ?_⟩
      · rw [hS, if_pos (Or.inr (Or.inr ⟨by omega, by rw [epk]; exact e48.mp d⟩))]
      · rw [hS, if_neg]
        rintro (q | q | q)
        · omega
        · omega
        · exact d (e48.mpr (by rw [← epk]; exact q.2))
  have loop : ∀ (k p v : Nat) (N : zM), p + k = p0 + most + 1 → rdF M N p → p0 ≤ p → v < 10 ^ (p - p0) → (∀ i, N.1 65 i = M.1 65 i) → dg T e (most + 1) p0 0 = dg T e k p v → (p0 < p → p0 < e) → X 7 0 0 [.ref 55, .int (nI most), .int (nI p0), .int (nI v)] [] N := by
    intro k
    induction k with
    | zero =>
      intro p v N hk hN hp hv ho hd hpe
      have hWN := hN.1.fix hW
      have hv5 : v < 100000 := by
        have : 10 ^ (p - p0) ≤ 10 ^ 5 := Nat.pow_le_pow_right (by decide) (by omega)
        omega
      have z := f53 p v N hN hp (by omega) hv5 ho hd hpe
      have hb := pkb_lt (p := p) h0.1
      refine l7 _ _ _ _ _ ⟨rfl, vX13_readNumber_7 hWN (c_peek hWN (hN.at h0) ?_)⟩
      refine vkX13_readNumber_11 hWN (c_isDigit hWN _ (by omega) (fun h => ?_) (fun h => ?_))
      · refine vkX13_readNumber_14 hWN ?_
        rw [hN.2.2.1, pk_sub hp]
        have zm := nI_ltI (a := most) (b := p - p0) (by omega) (by omega)
        exact ⟨fun a => absurd a (by decide), fun _ => ⟨fun _ => z, fun b => absurd (zm.mpr (by omega)) b⟩⟩
      · exact vkX13_readNumber_14 hWN ⟨fun _ => z, fun a => absurd rfl a⟩
    | succ k ih =>
      intro p v N hk hN hp hv ho hd hpe
      have hWN := hN.1.fix hW
      have hv5 : v < 100000 := by
        have : 10 ^ (p - p0) ≤ 10 ^ 5 := Nat.pow_le_pow_right (by decide) (by omega)
        omega
      have hd : dg T e (most + 1) p0 0 = if 48 ≤ pk T e p ∧ pk T e p ≤ 57 then dg T e k (p + 1) (10 * v + (pk T e p - 48)) else (p, v) := hd
      have hb := pkb_lt (p := p) h0.1
      have hpe2 : 48 ≤ pk T e p → p < e := by
        intro h
        unfold pk at h
        by_cases c : p < e
        · exact c
        · rw [if_neg c] at h
          omega
      generalize hgb : pk T e p = b at hb hd hpe2
      refine l7 _ _ _ _ _ ⟨rfl, vX13_readNumber_7 hWN (c_peek hWN (hN.at h0) ?_)⟩
      rw [hgb]
      refine vkX13_readNumber_11 hWN (c_isDigit hWN _ (by omega) (fun h => ?_) (fun h => ?_))
      · rw [if_pos h] at hd
        refine vkX13_readNumber_14 hWN ?_
        rw [hN.2.2.1, pk_sub hp]
        have zm := nI_ltI (a := most) (b := p - p0) (by omega) (by omega)
        refine ⟨fun a => absurd a (by decide), fun _ => ⟨fun b => absurd (zm.mp b) (by omega), fun _ => c_peek hWN (hN.at h0) ?_⟩⟩
        rw [hgb]
        refine vkX13_readNumber_35 hWN (fun K hK => ?_)
        rw [hN.2.2.1, show nI p + (1 : Int32) = nI (p + 1) from nI_1 p] at hK
        have hKr : rdF M K (p + 1) := by rw [hK]; exact hN.go (by omega)
        rw [show (10 : Int32) * nI v = nI (10 * v) from pk_mul 10 v, nI_add, show nI (10 * v + b) - (48 : Int32) = nI (10 * v + b - 48) from pk_sub (a := 10 * v + b) (b := 48) (by omega), show 10 * v + b - 48 = 10 * v + (b - 48) by omega]
        refine ih (p + 1) (10 * v + (b - 48)) K (by omega) hKr (by omega) ?_ (fun i => by rw [hK, zsI_o (by decide)]; exact ho i) hd (fun _ => ?_)
        · rw [show p + 1 - p0 = (p - p0) + 1 by omega, Nat.pow_succ]
          omega
        · have := hpe2 h.1
          by_cases c : p0 < p
          · exact hpe c
          · omega
      · rw [if_neg h] at hd
        exact vkX13_readNumber_14 hWN ⟨fun _ => f53 p v N hN hp (by omega) hv5 ho hd hpe, fun a => absurd rfl a⟩
  refine l0 _ _ _ _ _ ⟨rfl, vX13_readNumber_0 hW ?_⟩
  rw [h0.2.1]
  exact loop (most + 1) p0 0 M (by omega) (rdF.rf h0) (by omega) (Nat.pow_pos (by decide)) (fun _ => rfl) rfl (fun q => absurd q (by omega))
