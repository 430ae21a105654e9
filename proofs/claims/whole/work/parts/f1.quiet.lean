/-! THE REFERENCE'S ENDINGS: two quiet rounds end the search -/
def nDa (k e : Nat) : Prop := ∀ s p w sm, s < 64 → p < 64 → w < 64 → ¬ isD k s p w sm e
theorem isD_par {k s p w d : Nat} {sm : Bool} (h : isD k s p w sm d) : sm = true ↔ d % 2 = 1 := by
  cases sm
  · obtain ⟨n, e, _, _⟩ := isD_f.mp h
    exact ⟨fun q => absurd q (by decide), fun q => by omega⟩
  · obtain ⟨n, e, _, _⟩ := isD_t.mp h
    exact ⟨fun _ => by omega, fun _ => rfl⟩
theorem bool_iff {a b : Bool} {P : Prop} (h : a = true ↔ P) (g : b = true ↔ P) : a = b := by
  cases a <;> cases b
  · rfl
  · exact (h.mpr (g.mp rfl))
  · exact (g.mpr (h.mp rfl)).symm
  · rfl
theorem fnd_none {k d : Nat} {sm : Bool} (hsm : sm = true ↔ d % 2 = 1) (h : fnd k d sm 262144 false) : nDa k d := by
  intro s p w sm2 hs hp hw q
  have e : sm2 = sm := bool_iff (isD_par q) hsm
  rw [e] at q
  have q2 := (isD_trn hs hp hw sm d).mpr q
  obtain ⟨t8, _, tk, _, _⟩ := tIx_of (k := k) hs
  have a := (trn_of t8 hs).2
  have b := (trn_of t8 hp).2
  have c := (trn_of t8 hw).2
  exact absurd (h.mpr ⟨_, _, _, a, b, c, tk, by omega, q2⟩) (by decide)
theorem fnd_some {k d : Nat} {sm : Bool} (h : fnd k d sm 262144 true) : ∃ s p w, s < 64 ∧ p < 64 ∧ w < 64 ∧ isD k s p w sm d := by
  obtain ⟨s, p, w, a, b, c, _, _, e⟩ := h.mp rfl
  exact ⟨s, p, w, a, b, c, e⟩
theorem stM_bd {k s p w : Nat} {m : Nat × Nat × Nat × Nat × Nat} (hs : s < 64) (hp : p < 64) (hw : w < 64) (hP : k = 1 → p / 8 ≠ 0 ∧ p / 8 ≠ 7) (h : stM k s p w m) : (m.2.1 = k ∨ (k = 1 ∧ 2 ≤ m.2.1 ∧ m.2.1 ≤ 5)) ∧ m.2.2.1 < 64 ∧ m.2.2.2.1 < 64 ∧ m.2.2.2.2 < 64 := by
  rcases h with ⟨t, a, b, _, e⟩ | ⟨z2, h⟩ | ⟨z2, t, a, b, e⟩
  · subst e; exact ⟨Or.inl rfl, a, hp, hw⟩
  · have hp8 := hP z2
    rcases h with ⟨_, _, _, e⟩ | ⟨r1, _, _, _, _, e⟩ | ⟨r6, _, _, j, a, b, e⟩
    · subst e; exact ⟨Or.inl z2.symm, hs, by show p + 8 < 64; omega, hw⟩
    · subst e; exact ⟨Or.inl z2.symm, hs, by show p + 16 < 64; omega, hw⟩
    · subst e; exact ⟨Or.inr ⟨z2, a, b⟩, hs, by show p + 8 < 64; omega, hw⟩
  · subst e; exact ⟨Or.inl rfl, hs, a, hw⟩
theorem isD_quiet {k e : Nat} (k1 : 1 ≤ k) (k5 : k ≤ 5) (h0 : nDa k e) (h1 : nDa k (e + 1)) (ho : k = 1 → ∀ j s p w sm d, 2 ≤ j → j ≤ 5 → s < 64 → p < 64 → w < 64 → isD j s p w sm d → d < e + 1) : ∀ d, e ≤ d → nDa k d := by
  intro d
  induction d using Nat.strongRecOn with
  | ind d ih =>
    intro hd s p w sm hs hp hw q
    by_cases z0 : d = e
    · subst z0; exact h0 s p w sm hs hp hw q
    by_cases z1 : d = e + 1
    · subst z1; exact h1 s p w sm hs hp hw q
    have hP := isD_pos q
    cases sm with
    | true =>
      obtain ⟨n, en, hS, hno⟩ := isD_t.mp q
      obtain ⟨m, hm, hD⟩ := (rd_S k1 k5 hs hp hw hP hno).mp hS
      have bd := stM_bd hs hp hw hP.2.2.2.2.1 hm
      rcases bd.1 with e1 | ⟨a, b, c⟩
      · rw [e1] at hD
        exact ih (2 * n) (by omega) (by omega) _ _ _ _ bd.2.1 bd.2.2.1 bd.2.2.2 hD
      · have := ho a _ _ _ _ _ _ b c bd.2.1 bd.2.2.1 bd.2.2.2 hD
        omega
    | false =>
      obtain ⟨n, en, hWc, hno⟩ := isD_f.mp q
      obtain ⟨j, ej⟩ : ∃ j, n = j + 1 := ⟨n - 1, by omega⟩
      subst ej
      obtain ⟨⟨m, t, ht, hk, hwk⟩, hall⟩ := (rd_W k1 hs hp hw hP (hno j (by omega))).mp hWc
      have ev : ∀ m t, t < 64 → kiG w t → wkM k s p w m t → m.2.1 ≠ 0 ∧ ∃ d', d' < 2 * j ∧ isD m.2.1 m.2.2.1 m.2.2.2.1 m.2.2.2.2 true d' := by
        intro m t ht hk hwk
        obtain ⟨a, d', hd', hD⟩ := hall m t ht hk hwk
        refine ⟨a, d', ?_, hD⟩
        rcases hwk with ⟨_, _, em⟩ | ⟨_, em⟩
        · subst em; exact absurd rfl a
        · subst em
          have : ¬ e ≤ d' := fun y => ih d' (by omega) y s p t true hs hp ht hD
          omega
      cases j with
      | zero =>
        obtain ⟨_, d', a, _⟩ := ev m t ht hk hwk
        omega
      | succ i => exact hno (i + 1) (by omega) ((rd_W k1 hs hp hw hP (hno i (by omega))).mpr ⟨⟨m, t, ht, hk, hwk⟩, ev⟩)
/-- all that is known once no distance is left -/
theorem eV_more {k s p w : Nat} {sm : Bool} {N N2 : Nat} {v : Int32} (hN : N ≤ N2) (hn : ∀ d, N ≤ d → d < N2 → ¬ isD k s p w sm d) (h : eV k s p w sm N v) : eV k s p w sm N2 v := by
  rcases h with ⟨d, a, b, c⟩ | ⟨a, c⟩
  · exact Or.inl ⟨d, by omega, b, c⟩
  · exact Or.inr ⟨fun d hd q => if z : d < N then a d z q else hn d (by omega) hd q, c⟩
/-- how a search stands before round d: the last i rounds were quiet, the one before them was not -/
def rG (k d i : Nat) : Prop := i ≤ d ∧ (i < d → ∃ s p w sm, s < 64 ∧ p < 64 ∧ w < 64 ∧ isD k s p w sm (d - 1 - i)) ∧ ∀ e, d - i ≤ e → e < d → nDa k e
theorem rG_0 (k : Nat) : rG k 0 0 := ⟨Nat.le_refl 0, fun h => absurd h (by omega), fun e _ h => absurd h (by omega)⟩
theorem rG_s {k d i : Nat} {sm b : Bool} (hsm : sm = true ↔ d % 2 = 1) (h : rG k d i) (hf : fnd k d sm 262144 b) : rG k (d + 1) (if b = true then 0 else i + 1) := by
  cases b with
  | true =>
    rw [if_pos rfl]
    obtain ⟨s, p, w, a1, a2, a3, a4⟩ := fnd_some hf
    exact ⟨by omega, fun _ => ⟨s, p, w, sm, a1, a2, a3, by rw [show d + 1 - 1 - 0 = d by omega]; exact a4⟩, fun e h1 h2 => absurd h2 (by omega)⟩
  | false =>
    rw [if_neg (by decide)]
    have hn := fnd_none hsm hf
    obtain ⟨a, b, c⟩ := h
    refine ⟨by omega, fun z => ?_, fun e h1 h2 => ?_⟩
    · obtain ⟨s, p, w, sm, a1, a2, a3, a4⟩ := b (by omega)
      exact ⟨s, p, w, sm, a1, a2, a3, by rw [show d + 1 - 1 - (i + 1) = d - 1 - i by omega]; exact a4⟩
    · by_cases z : e = d
      · rw [z]; exact hn
      · exact c e (by omega) (by omega)
theorem rG_2 {k d i : Nat} (k1 : 1 ≤ k) (k5 : k ≤ 5) (h : rG k d i) (hd : 60 ≤ d) : 2 ≤ i := by
  rcases Nat.lt_or_ge i 2 with z | z
  · obtain ⟨s, p, w, sm, a1, a2, a3, a4⟩ := h.2.1 (by omega)
    have := isD_lt k1 k5 a1 a2 a3 a4
    omega
  · exact z
theorem kCt_64 {k : Nat} : kCt k 64 = kSz k := by
  by_cases e : k = 1
  · subst e; decide +kernel
  · rw [kCt_0 e]
    unfold kSz
    rw [if_neg e]
    decide +kernel
theorem e_newRow {mc ms : Nat} {M : zM} (hW : zFix M) (hT : eTb M) {k : Nat} (k5 : k ≤ 5) {Q : zQt} (hq : Q (some (.int (nI (8192 * kSz k)))) M) : wX12_newRow mc ms [.ref 71, .int (nI k)] M Q := by
  refine ⟨⟨Nat.le_of_ble_eq_true rfl, rfl⟩, fun X l0 l4 l27 l44 => ?_⟩
  have cle : ∀ q, kCt k q ≤ q := fun q => by
    induction q with
    | zero => exact Nat.le_refl _
    | succ q ih => show kCt k q + _ ≤ q + 1; split <;> omega
  have loop : ∀ (n q : Nat), q + n = 64 → X 4 0 0 [.ref 71, .int (nI k), .int (nI (kCt k q)), .int (nI q)] [] M := by
    intro n
    induction n with
    | zero =>
      intro q hn
      have e : q = 64 := by omega
      subst e
      refine l4 _ _ _ _ _ ⟨rfl, vX12_newRow_4 hW ⟨fun _ => ?_, fun z => absurd (by decide) z⟩⟩
      rw [kCt_64, show (2 : Int32) * nI (kSz k) = nI (2 * kSz k) from pk_mul 2 _, show nI (2 * kSz k) * (64 : Int32) = nI (2 * kSz k * 64) from pk_mul _ 64, show nI (2 * kSz k * 64) * (64 : Int32) = nI (2 * kSz k * 64 * 64) from pk_mul _ 64, show 2 * kSz k * 64 * 64 = 8192 * kSz k by omega]
      exact hq
    | succ n ih =>
      intro q hn
      have hq64 : q < 64 := by omega
      have cq := cle q
      have f44 : ∀ c, c = kCt k (q + 1) → X 44 0 0 [.ref 71, .int (nI k), .int (nI q)] [.int (nI c)] M := fun c hc => by
        refine l44 _ _ _ _ _ ⟨rfl, vX12_newRow_44 hW ?_⟩
        rw [show nI q + (1 : Int32) = nI (q + 1) from nI_add _ 1, hc]
        exact ih (q + 1) (by omega)
      have f27 : ∀ o, o = (if k = 1 then 64 else 0) → X 27 0 0 [.ref 71, .int (nI k), .int (nI (kCt k q)), .int (nI q)] [.int (nI (o + q)), .ref 75] M := by
        intro o ho
        have o64 : o ≤ 64 := by rw [ho]; split <;> omega
        refine l27 _ _ _ _ _ ⟨rfl, vX12_newRow_27 hW ?_⟩
        rw [nI_clamp (by omega)]
        refine ⟨vp_in_nI (by omega) (by omega), fun y e => ?_⟩
        have hk : M.1 75 (o + q) = iI (kNo k q) := by rw [ho]; exact hT.king k hq64
        rw [e, hk]
        unfold kNo
        cases hb : kNb k q with
        | true =>
          rw [if_pos rfl]
          have hc : kCt k (q + 1) = kCt k q + 1 := by
            show kCt k q + (if kNb k q = true then 1 else 0) = _
            rw [if_pos hb]
          refine ⟨fun z => ?_, fun z => ?_⟩
          · have := (iI_lt (a := (kCt k q : Int)) (b := (kCt k q : Int)) (by omega) (by omega) (by omega) (by omega)).mp z
            omega
          · have q2 := f44 (kCt k q + 1) hc.symm
            rw [show iI (kCt k q : Int) + (1 : Int32) = nI (kCt k q + 1) from nI_add _ 1]
            exact q2
        | false =>
          rw [if_neg (by decide)]
          have hc : kCt k (q + 1) = kCt k q := by
            show kCt k q + (if kNb k q = true then 1 else 0) = _
            rw [if_neg (by rw [hb]; decide)]
            omega
          refine ⟨fun z => f44 _ hc.symm, fun z => absurd ((iI_lt (a := -1) (b := (kCt k q : Int)) (by omega) (by omega) (by omega) (by omega)).mpr (by omega)) z⟩
      refine l4 _ _ _ _ _ ⟨rfl, vX12_newRow_4 hW ⟨fun z => absurd ((nI_leI (a := 64) (b := q) (by decide) (by omega)).mp z) (by omega), fun _ => ⟨fun z => ?_, fun z => ?_⟩⟩⟩
      · have z : k = 1 := (nI_eq (b := 1) (by omega) (by decide)).mp z
        rw [show (64 : Int32) + nI q = nI (64 + q) from nI_add 64 q]
        exact f27 64 (by rw [if_pos z])
      · have z : ¬ k = 1 := fun e => z (by rw [e]; rfl)
        have q2 := f27 0 (by rw [if_neg z])
        rw [Nat.zero_add] at q2
        exact q2
  exact l0 _ _ _ _ _ ⟨rfl, vX12_newRow_0 hW (loop 64 0 (by omega))⟩
/-- a row is put down for a kind of man, or none -/
def kpd (M K : zM) (k : Nat) (o : Option Nat) (n : Nat) : Prop := K.1 = M.1 ∧ K.2.1 = M.2.1 ∧ K.2.2.2 = M.2.2.2 ∧ ∀ b j, K.2.2.1 b j = if b = 71 ∧ j = slt k ∧ k ≤ n then o else M.2.2.1 b j
theorem slt_inj {a b : Nat} (ha : 1 ≤ a) (ha5 : a ≤ 5) (hb : 1 ≤ b) (hb5 : b ≤ 5) (h : slt a = slt b) : a = b := by
  have ca : a = 1 ∨ a = 2 ∨ a = 3 ∨ a = 4 ∨ a = 5 := by omega
  have cb : b = 1 ∨ b = 2 ∨ b = 3 ∨ b = 4 ∨ b = 5 := by omega
  rcases ca with e | e | e | e | e <;> rcases cb with e2 | e2 | e2 | e2 | e2 <;> subst e <;> subst e2 <;> first | rfl | exact absurd h (by decide)
theorem kpd_s {M K : zM} {k n j : Nat} {o v : Option Nat} (k1 : 1 ≤ k) (k5 : k ≤ 5) (hn : n < 5) (h : kpd M K k o n) (hj : j = slt (n + 1)) (hv : v = if k = n + 1 then o else K.2.2.1 71 j) : kpd M (zsR K 71 j v) k o (n + 1) := by
  refine ⟨h.1, h.2.1, h.2.2.1, fun b i => ?_⟩
  show z2 K.2.2.1 71 j v b i = _
  unfold z2
  by_cases e : b = 71
  · rw [if_pos e]
    by_cases e2 : i = j
    · rw [if_pos e2, hv]
      by_cases e3 : k = n + 1
      · rw [if_pos e3, if_pos ⟨e, by rw [e2, hj, e3], by omega⟩]
      · rw [if_neg e3, h.2.2.2]
        have ne : ¬ (j = slt k) := fun q => e3 (slt_inj k1 k5 (by omega) (by omega) (q.symm.trans hj))
        rw [if_neg (fun q => ne q.2.1), if_neg (fun q => ne (by rw [← e2]; exact q.2.1)), e, e2]
    · rw [if_neg e2, h.2.2.2]
      have ne : k = n + 1 → ¬ i = slt k := fun q z => e2 (by rw [z, q, hj])
      by_cases y : b = 71 ∧ i = slt k ∧ k ≤ n
      · rw [if_pos y, if_pos ⟨y.1, y.2.1, by omega⟩]
      · rw [if_neg y, if_neg (fun q => by
          by_cases e3 : k = n + 1
          · exact ne e3 q.2.1
          · exact y ⟨q.1, q.2.1, by omega⟩)]
  · rw [if_neg e, h.2.2.2, if_neg (fun q => e q.1), if_neg (fun q => e q.1)]
theorem kpd_0 {M : zM} {k : Nat} {o : Option Nat} (k1 : 1 ≤ k) : kpd M M k o 0 := ⟨rfl, rfl, rfl, fun b j => by rw [if_neg (fun q => by omega)]⟩
theorem e_keep {mc ms : Nat} {M : zM} (hW : zFix M) {k : Nat} (k1 : 1 ≤ k) (k5 : k ≤ 5) {o : Option Nat} {Q : zQt} (hq : ∀ K, kpd M K k o 5 → Q none K) : wX12_keep mc ms [.ref 71, .int (nI k), zrf o] M Q := by
  refine ⟨⟨by cases o <;> exact Nat.le_of_ble_eq_true rfl, by cases o <;> rfl⟩, fun X l0 l14 l31 l48 l65 l82 => ?_⟩
  have sh : ∀ {K : zM} {n : Nat}, kpd M K k o n → zsh K 71 = some (0, 12) := fun h => by unfold zsh; rw [h.2.2.1]; exact fxs_71 hW
  have kI : ∀ n : Nat, n < 2 ^ 31 → (nI k = nI n ↔ k = n) := fun n hn => nI_eq (by omega) hn
  have f82 : ∀ (K : zM) (v : Option Nat), kpd M K k o 4 → (v = if k = 5 then o else K.2.2.1 71 6) → X 82 0 0 [] [zrf v, .ref 71] K := fun K v h hv => by
    have q := hq _ (kpd_s k1 k5 (by omega) h (j := 6) rfl hv)
    refine l82 _ _ _ _ _ ⟨rfl, ?_⟩
    cases v <;> exact ⟨sh h, q⟩
  have f65 : ∀ (K : zM) (v : Option Nat), kpd M K k o 3 → (v = if k = 4 then o else K.2.2.1 71 5) → X 65 0 0 [.ref 71, .int (nI k), zrf o] [zrf v, .ref 71] K := fun K v h hv => by
    have q := kpd_s k1 k5 (by omega) h (j := 5) rfl hv
    refine l65 _ _ _ _ _ ⟨by cases o <;> rfl, ?_⟩
    have g1 : nI k = (5 : Int32) → X 82 0 0 [] [zrf o, .ref 71] (zsR K 71 5 v) := fun c => f82 _ _ q (by rw [if_pos ((kI 5 (by decide)).mp c)])
    have g2 : ¬ nI k = (5 : Int32) → X 82 0 0 [] [zrf ((zsR K 71 5 v).2.2.1 71 6), .ref 71] (zsR K 71 5 v) := fun c => f82 _ _ q (by rw [if_neg (fun z => c ((kI 5 (by decide)).mpr z))])
    cases v <;> cases o <;> exact ⟨sh h, g1, fun c => ⟨sh q, g2 c⟩⟩
  have f48 : ∀ (K : zM) (v : Option Nat), kpd M K k o 2 → (v = if k = 3 then o else K.2.2.1 71 8) → X 48 0 0 [.ref 71, .int (nI k), zrf o] [zrf v, .ref 71] K := fun K v h hv => by
    have q := kpd_s k1 k5 (by omega) h (j := 8) rfl hv
    refine l48 _ _ _ _ _ ⟨by cases o <;> rfl, ?_⟩
    have g1 : nI k = (4 : Int32) → X 65 0 0 [.ref 71, .int (nI k), zrf o] [zrf o, .ref 71] (zsR K 71 8 v) := fun c => f65 _ _ q (by rw [if_pos ((kI 4 (by decide)).mp c)])
    have g2 : ¬ nI k = (4 : Int32) → X 65 0 0 [.ref 71, .int (nI k), zrf o] [zrf ((zsR K 71 8 v).2.2.1 71 5), .ref 71] (zsR K 71 8 v) := fun c => f65 _ _ q (by rw [if_neg (fun z => c ((kI 4 (by decide)).mpr z))])
    cases v <;> cases o <;> exact ⟨sh h, g1, fun c => ⟨sh q, g2 c⟩⟩
  have f31 : ∀ (K : zM) (v : Option Nat), kpd M K k o 1 → (v = if k = 2 then o else K.2.2.1 71 7) → X 31 0 0 [.ref 71, .int (nI k), zrf o] [zrf v, .ref 71] K := fun K v h hv => by
    have q := kpd_s k1 k5 (by omega) h (j := 7) rfl hv
    refine l31 _ _ _ _ _ ⟨by cases o <;> rfl, ?_⟩
    have g1 : nI k = (3 : Int32) → X 48 0 0 [.ref 71, .int (nI k), zrf o] [zrf o, .ref 71] (zsR K 71 7 v) := fun c => f48 _ _ q (by rw [if_pos ((kI 3 (by decide)).mp c)])
    have g2 : ¬ nI k = (3 : Int32) → X 48 0 0 [.ref 71, .int (nI k), zrf o] [zrf ((zsR K 71 7 v).2.2.1 71 8), .ref 71] (zsR K 71 7 v) := fun c => f48 _ _ q (by rw [if_neg (fun z => c ((kI 3 (by decide)).mpr z))])
    cases v <;> cases o <;> exact ⟨sh h, g1, fun c => ⟨sh q, g2 c⟩⟩
  have f14 : ∀ (K : zM) (v : Option Nat), kpd M K k o 0 → (v = if k = 1 then o else K.2.2.1 71 4) → X 14 0 0 [.ref 71, .int (nI k), zrf o] [zrf v, .ref 71] K := fun K v h hv => by
    have q := kpd_s k1 k5 (by omega) h (j := 4) rfl hv
    refine l14 _ _ _ _ _ ⟨by cases o <;> rfl, ?_⟩
    have g1 : nI k = (2 : Int32) → X 31 0 0 [.ref 71, .int (nI k), zrf o] [zrf o, .ref 71] (zsR K 71 4 v) := fun c => f31 _ _ q (by rw [if_pos ((kI 2 (by decide)).mp c)])
    have g2 : ¬ nI k = (2 : Int32) → X 31 0 0 [.ref 71, .int (nI k), zrf o] [zrf ((zsR K 71 4 v).2.2.1 71 7), .ref 71] (zsR K 71 4 v) := fun c => f31 _ _ q (by rw [if_neg (fun z => c ((kI 2 (by decide)).mpr z))])
    cases v <;> cases o <;> exact ⟨sh h, g1, fun c => ⟨sh q, g2 c⟩⟩
  refine l0 _ _ _ _ _ ⟨by cases o <;> rfl, ?_⟩
  have g1 : nI k = (1 : Int32) → X 14 0 0 [.ref 71, .int (nI k), zrf o] [zrf o, .ref 71] M := fun c => f14 _ _ (kpd_0 k1) (by rw [if_pos ((kI 1 (by decide)).mp c)])
  have g2 : ¬ nI k = (1 : Int32) → X 14 0 0 [.ref 71, .int (nI k), zrf o] [zrf (M.2.2.1 71 4), .ref 71] M := fun c => f14 _ _ (kpd_0 k1) (by rw [if_neg (fun z => c ((kI 1 (by decide)).mpr z))])
  cases o <;> exact ⟨g1, fun c => ⟨fxs_71 hW, g2 c⟩⟩
