/-! THE REFERENCE'S ENDINGS: a round -/
def fnd (k d : Nat) (sm : Bool) (c : Nat) (b : Bool) : Prop := b = true ↔ ∃ s p w, s < 64 ∧ p < 64 ∧ w < 64 ∧ kNb k s = true ∧ 4096 * s + 64 * p + w < c ∧ isD k s p w sm d
theorem fnd_s {k d s p w : Nat} {sm b : Bool} (hs : s < 64) (hp : p < 64) (hw : w < 64) (hk : kNb k s = true) (h : fnd k d sm (4096 * s + 64 * p + w) b) {b2 : Bool} (hb : b2 = true ↔ b = true ∨ isD k s p w sm d) : fnd k d sm (4096 * s + 64 * p + w + 1) b2 := by
  unfold fnd at h ⊢
  rw [hb, h]
  constructor
  · rintro (⟨x, y, z, a1, a2, a3, a4, a5, a6⟩ | h)
    · exact ⟨x, y, z, a1, a2, a3, a4, by omega, a6⟩
    · exact ⟨s, p, w, hs, hp, hw, hk, by omega, h⟩
  · rintro ⟨x, y, z, a1, a2, a3, a4, a5, a6⟩
    by_cases e : 4096 * x + 64 * y + z = 4096 * s + 64 * p + w
    · obtain ⟨e1, e2, e3⟩ := idx_inj a2 a3 hp hw e
      subst e1; subst e2; subst e3
      exact Or.inr a6
    · exact Or.inl ⟨x, y, z, a1, a2, a3, a4, by omega, a6⟩
theorem fnd_j {k d s p : Nat} {sm b : Bool} (hk : kNb k s = false) (hp : p < 64) (h : fnd k d sm (4096 * s + 64 * p) b) : fnd k d sm (4096 * (s + 1)) b := by
  unfold fnd at h ⊢
  rw [h]
  constructor
  · rintro ⟨x, y, z, a1, a2, a3, a4, a5, a6⟩
    exact ⟨x, y, z, a1, a2, a3, a4, by omega, a6⟩
  · rintro ⟨x, y, z, a1, a2, a3, a4, a5, a6⟩
    have ne : x ≠ s := fun e => by rw [e, hk] at a4; exact absurd a4 (by decide)
    exact ⟨x, y, z, a1, a2, a3, a4, by omega, a6⟩
theorem rI.jump {K : zM} {r k d : Nat} {sm : Bool} {s p : Nat} (hk : kNb k s = false) (hp : p < 64) (h : rI K r k d sm (4096 * s + 64 * p)) : rI K r k d sm (4096 * (s + 1)) := by
  refine ⟨h.1, h.2.1, h.2.2.1, fun s2 p2 w2 hs2 hp2 hw2 hk2 => ?_⟩
  have q := h.2.2.2 s2 p2 w2 hs2 hp2 hw2 hk2
  have ne : s2 ≠ s := fun e => by rw [e, hk] at hk2; exact absurd hk2 (by decide)
  by_cases y : 4096 * s2 + 64 * p2 + w2 < 4096 * s + 64 * p
  · rw [if_pos y] at q
    rw [if_pos (by omega)]
    exact q
  · rw [if_neg y] at q
    rw [if_neg (by omega)]
    exact q
theorem bdn_all : (List.range 100).all (fun d => decide ((nI d).toInt8.toInt32 = nI d)) = true := by decide +kernel
theorem bdn {d : Nat} (h : d < 100) : vp_nar .byte ((nI d).toInt8.toInt32) = nI d := by
  rw [rb_nar]
  exact of_decide_eq_true (List.all_eq_true.mp bdn_all d (List.mem_range.mpr h))
theorem nI_m1 {d : Nat} (h : d < 100) : nI d ≠ -1 := fun q => by
  have := (iI_eq (a := (d : Int)) (b := -1) (by omega) (by omega) (by omega) (by omega)).mp (q.trans (show (-1 : Int32) = iI (-1) by decide))
  omega
set_option maxHeartbeats 4000000 in
theorem e_round {mc ms : Nat} {M : zM} (hW : zFix M) (hT : eTb M) {r k d : Nat} (k1 : 1 ≤ k) (k5 : k ≤ 5) (d9 : d < 100) {sm : Bool} (hsm : sm = true ↔ d % 2 = 1) (h : rI M r k d sm 0) (hR1 : k = 1 → ∀ j, 2 ≤ j → j ≤ 5 → eRd M j (!sm) 100 ∧ M.2.2.1 71 (slt j) ≠ some r) {Q : zQt} (hq : ∀ K b, zSm (r :: eC) M K → rI K r k d sm 262144 → fnd k d sm 262144 b → Q (some (.int (bI b))) K) : wX12_round mc ms [.ref 71, .int (nI k), .ref r, .int (nI d)] M Q := by
  refine ⟨⟨Nat.le_of_ble_eq_true rfl, rfl⟩, fun X l0 l6 l16 l42 l49 l68 l139 l154 l166 l171 l173 l185 => ?_⟩
  have hr := h.1
  have ksz := kSz_le k
  have step : ∀ s p w (K : zM) (f : Bool), s < 64 → p < 64 → w < 64 → kNb k s = true → zSm (r :: eC) M K → rI K r k d sm (4096 * s + 64 * p + w) → fnd k d sm (4096 * s + 64 * p + w) f → (∀ (K2 : zM) (f2 : Bool), zSm (r :: eC) M K2 → rI K2 r k d sm (4096 * s + 64 * p + w + 1) → fnd k d sm (4096 * s + 64 * p + w + 1) f2 → X 49 0 0 [.ref 71, .int (nI k), .ref r, .int (nI d), .int (bI f2), .int (nI s), .int (nI p), .int (nI (w + 1))] [] K2) → X 49 0 0 [.ref 71, .int (nI k), .ref r, .int (nI d), .int (bI f), .int (nI s), .int (nI p), .int (nI w)] [] K := by
    intro s p w K f hs hp hw hk sK hI hf nx
    have hWK := sK.fix hW
    have hTK := hT.rw hW hr sK
    have lt := plc_lt (k := k) (sm := sm) hs hp hw
    have f173 : ∀ (K2 : zM) (f2 : Bool), zSm (r :: eC) M K2 → rI K2 r k d sm (4096 * s + 64 * p + w + 1) → fnd k d sm (4096 * s + 64 * p + w + 1) f2 → X 173 0 0 [.ref 71, .int (nI k), .ref r, .int (nI d), .int (bI f2), .int (nI s), .int (nI p), .int (nI w)] [] K2 := fun K2 f2 a b c => by
      refine l173 _ _ _ _ _ ⟨rfl, vX12_round_173 (a.fix hW) b.1 ?_⟩
      rw [show nI w + (1 : Int32) = nI (w + 1) from nI_add _ 1]
      exact nx K2 f2 a b c
    have skip : ¬ isD k s p w sm d → X 173 0 0 [.ref 71, .int (nI k), .ref r, .int (nI d), .int (bI f), .int (nI s), .int (nI p), .int (nI w)] [] K := fun n => f173 K f sK (hI.skip hp hw (fun _ => n)) (fnd_s hs hp hw hk hf ⟨fun q => Or.inl q, fun q => q.elim id (fun q => absurd q n)⟩)
    have f139 : ∀ (K2 : zM) (b : Bool), zSm eC K K2 → (∀ e, e < d → ¬ isD k s p w sm e) → (b = true ↔ isD k s p w sm d) → X 139 0 0 [.ref 71, .int (nI k), .ref r, .int (nI d), .int (bI f), .int (nI s), .int (nI p), .int (nI w), .int (nI (plc k s p w sm))] [.int (bI b)] K2 := by
      intro K2 b s2 hno hb
      have hW2 := s2.fix hWK
      have h2 := hI.sm hWK s2
      have sM : zSm (r :: eC) M K2 := sK.tr (s2.mono (fun b hb => List.mem_cons_of_mem _ hb))
      have fin : ∀ v : Int32, vp_nar .byte (v.toInt8.toInt32) = v → eV k s p w sm (d + 1) v → X 154 0 0 [.ref 71, .int (nI k), .ref r, .int (nI d), .int (bI f), .int (nI s), .int (nI p), .int (nI w), .int (bI b)] [.int v, .int (nI (plc k s p w sm)), .ref r] K2 := by
        intro v hv he
        refine l154 _ _ _ _ _ ⟨rfl, vX12_round_154 hW2 h2.1 h2.1 ?_⟩
        rw [nI_clamp (by omega), hv]
        refine ⟨vp_in_nI lt (by omega), fun K3 e3 => ?_⟩
        have s3 : zSm (r :: eC) M K3 := by rw [e3]; exact sM.tr (zSm.I (List.mem_cons_self ..))
        have h3 : rI K3 r k d sm (4096 * s + 64 * p + w + 1) := by rw [e3]; exact h2.set hs hp hw hk he
        have hW3 := s3.fix hW
        have f171 : ∀ f2 : Bool, (f2 = true ↔ f = true ∨ isD k s p w sm d) → X 171 0 0 [.ref 71, .int (nI k), .ref r, .int (nI d), .int (nI s), .int (nI p), .int (nI w)] [.int (bI f2)] K3 := fun f2 hf2 => l171 _ _ _ _ _ ⟨rfl, vX12_round_171 hW3 h3.1 (f173 K3 f2 s3 h3 (fnd_s hs hp hw hk hf hf2))⟩
        have f166 : (f = true ∨ isD k s p w sm d) → X 166 0 0 [.ref 71, .int (nI k), .ref r, .int (nI d), .int (nI s), .int (nI p), .int (nI w)] [] K3 := fun h => l166 _ _ _ _ _ ⟨rfl, vX12_round_166 hW3 h3.1 (f171 true ⟨fun _ => h, fun _ => rfl⟩)⟩
        refine ⟨fun z => ⟨fun y => ?_, fun y => ?_⟩, fun z => ?_⟩
        · have z := bI_0.mp z
          have y := bI_0.mp y
          refine f171 false ⟨fun q => absurd q (by decide), fun q => ?_⟩
          rcases q with q | q
          · rw [z] at q; exact q
          · rw [← y]; exact hb.mpr q
        · exact f166 (Or.inr (hb.mp (bI_n.mp y)))
        · exact f166 (Or.inl (bI_n.mp z))
      refine l139 _ _ _ _ _ ⟨rfl, vX12_round_139 hW2 h2.1 ⟨fun z => ?_, fun z => ?_⟩⟩
      · have nb : ¬ isD k s p w sm d := fun q => by
          have := hb.mpr q
          rw [bI_0.mp z] at this
          exact absurd this (by decide)
        refine fin (-1) (by decide) (Or.inr ⟨fun e he => ?_, rfl⟩)
        by_cases ee : e = d
        · rw [ee]; exact nb
        · exact hno e (by omega)
      · exact fin (nI d) (bdn d9) (Or.inl ⟨d, by omega, hb.mp (bI_n.mp z), rfl⟩)
    have f68 : X 68 0 0 [.ref 71, .int (nI k), .ref r, .int (nI d), .int (bI f), .int (nI s), .int (nI p), .int (nI w)] [.int (bI sm)] K := by
      refine l68 _ _ _ _ _ ⟨rfl, vX12_round_68 hWK hI.1 ?_⟩
      refine e_place hWK hTK k5 hs hp hw ?_
      refine vkX12_round_83 hWK hI.1 ?_
      rw [nI_clamp (by omega)]
      have q := hI.2.2.2 s p w hs hp hw hk
      rw [if_neg (by omega)] at q
      refine ⟨vp_in_nI lt (by omega), fun z => ?_, fun z => ?_⟩
      · have hno : ∀ e, e < d → ¬ isD k s p w sm e := by
          rcases q with ⟨e, a, b, c⟩ | ⟨a, _⟩
          · rw [z] at c; exact absurd c.symm (nI_m1 (by omega))
          · exact a
        refine e_isPosition hWK k1 k5 hs hp hw (fun hP => ?_) (fun hP => ?_)
        · refine vkX12_round_106 hWK hI.1 ⟨fun y => absurd y (by decide), fun _ => ⟨fun y => ?_, fun y => ?_⟩⟩
          · have d0 : d = 0 := (nI_eq (b := 0) (by omega) (by decide)).mp y
            have sf : sm = false := by
              cases e : sm with
              | false => rfl
              | true => have := hsm.mp e; omega
            have hz : isD k s p w sm d ↔ mate5 k s p w := by rw [sf, d0]; exact isD_0
            rw [sf] at hP
            exact e_isMate hWK k1 k5 hs hp hw hP (fun m K2 s2 => vkX12_round_124 (s2.fix hWK) (hI.sm hWK s2).1 (f139 K2 true s2 hno ⟨fun _ => hz.mpr m, fun _ => rfl⟩)) (fun m K2 s2 => vkX12_round_124 (s2.fix hWK) (hI.sm hWK s2).1 (f139 K2 false s2 hno ⟨fun q => absurd q (by decide), fun q => absurd (hz.mp q) m⟩))
          · have d1 : 1 ≤ d := by
              rcases Nat.eq_zero_or_pos d with e | e
              · exact absurd (by rw [e]; rfl) y
              · exact e
            exact e_comes hWK hTK k1 k5 hs hp hw d1 d9 hsm hP hno hI.rd (fun e j a b => (hR1 e j a b).1.rw hW sK (hR1 e j a b).2) (fun m K2 s2 => vkX12_round_139 (s2.fix hWK) (hI.sm hWK s2).1 (f139 K2 true s2 hno ⟨fun _ => m, fun _ => rfl⟩)) (fun m K2 s2 => vkX12_round_139 (s2.fix hWK) (hI.sm hWK s2).1 (f139 K2 false s2 hno ⟨fun q => absurd q (by decide), fun q => absurd q m⟩))
        · exact vkX12_round_106 hWK hI.1 ⟨fun _ => skip (fun q => hP (isD_pos q)), fun y => absurd rfl y⟩
      · refine skip (fun q2 => ?_)
        rcases q with ⟨e, a, b, c⟩ | ⟨_, c⟩
        · have := isD_uniq b q2; omega
        · exact z c
    refine l49 _ _ _ _ _ ⟨rfl, vX12_round_49 hWK hI.1 ⟨fun z => absurd ((nI_leI (a := 64) (b := w) (by decide) (by omega)).mp z) (by omega), fun _ => ?_⟩⟩
    rw [show nI d - nI d / (2 : Int32) * (2 : Int32) = nI (d % 2) from nI_mod (by omega) (by decide) (by decide)]
    refine ⟨fun z => ?_, fun z => ?_⟩
    · have e : sm = true := hsm.mpr ((nI_eq (b := 1) (by omega) (by decide)).mp z)
      rw [e] at f68; exact f68
    · have e : sm = false := by
        cases e : sm with
        | false => rfl
        | true => exact absurd (by rw [hsm.mp e]; rfl) z
      rw [e] at f68; exact f68
  have lw : ∀ s p, s < 64 → p < 64 → kNb k s = true → (∀ (K : zM) (f : Bool), zSm (r :: eC) M K → rI K r k d sm (4096 * s + 64 * (p + 1)) → fnd k d sm (4096 * s + 64 * (p + 1)) f → X 16 0 0 [.ref 71, .int (nI k), .ref r, .int (nI d), .int (bI f), .int (nI s), .int (nI (p + 1))] [] K) → ∀ (n w : Nat) (K : zM) (f : Bool), w + n = 64 → zSm (r :: eC) M K → rI K r k d sm (4096 * s + 64 * p + w) → fnd k d sm (4096 * s + 64 * p + w) f → X 49 0 0 [.ref 71, .int (nI k), .ref r, .int (nI d), .int (bI f), .int (nI s), .int (nI p), .int (nI w)] [] K := by
    intro s p hs hp hk nx n
    induction n with
    | zero =>
      intro w K f hw sK hI hf
      have e : 4096 * s + 64 * p + w = 4096 * s + 64 * (p + 1) := by omega
      rw [e] at hI hf
      refine l49 _ _ _ _ _ ⟨rfl, vX12_round_49 (sK.fix hW) hI.1 ⟨fun _ => ?_, fun z => absurd ((nI_leI (a := 64) (b := w) (by decide) (by omega)).mpr (by omega)) z⟩⟩
      rw [show nI p + (1 : Int32) = nI (p + 1) from nI_add _ 1]
      exact nx K f sK hI hf
    | succ n ih =>
      intro w K f hw sK hI hf
      exact step s p w K f hs hp (by omega) hk sK hI hf (fun K2 f2 a b c => ih (w + 1) K2 f2 (by omega) a b c)
  have lp : ∀ s, s < 64 → (∀ (K : zM) (f : Bool), zSm (r :: eC) M K → rI K r k d sm (4096 * (s + 1)) → fnd k d sm (4096 * (s + 1)) f → X 6 0 0 [.ref 71, .int (nI k), .ref r, .int (nI d), .int (bI f), .int (nI (s + 1))] [] K) → ∀ (n p : Nat) (K : zM) (f : Bool), p + n = 64 → zSm (r :: eC) M K → rI K r k d sm (4096 * s + 64 * p) → fnd k d sm (4096 * s + 64 * p) f → X 16 0 0 [.ref 71, .int (nI k), .ref r, .int (nI d), .int (bI f), .int (nI s), .int (nI p)] [] K := by
    intro s hs nx n
    have f185 : ∀ (K : zM) (f : Bool), zSm (r :: eC) M K → rI K r k d sm (4096 * (s + 1)) → fnd k d sm (4096 * (s + 1)) f → X 185 0 0 [.ref 71, .int (nI k), .ref r, .int (nI d), .int (bI f), .int (nI s)] [] K := fun K f a b c => by
      refine l185 _ _ _ _ _ ⟨rfl, vX12_round_185 (a.fix hW) b.1 ?_⟩
      rw [show nI s + (1 : Int32) = nI (s + 1) from nI_add _ 1]
      exact nx K f a b c
    induction n with
    | zero =>
      intro p K f hp sK hI hf
      have e : 4096 * s + 64 * p = 4096 * (s + 1) := by omega
      rw [e] at hI hf
      exact l16 _ _ _ _ _ ⟨rfl, vX12_round_16 (sK.fix hW) hI.1 ⟨fun _ => f185 K f sK hI hf, fun z => absurd ((nI_leI (a := 64) (b := p) (by decide) (by omega)).mpr (by omega)) z⟩⟩
    | succ n ih =>
      intro p K f hp sK hI hf
      have hp64 : p < 64 := by omega
      have hWK := sK.fix hW
      have hTK := hT.rw hW hr sK
      have f42 : ∀ o, o = (if k = 1 then 64 else 0) → X 42 0 0 [.ref 71, .int (nI k), .ref r, .int (nI d), .int (bI f), .int (nI s), .int (nI p)] [.int (nI (o + s)), .ref 75] K := by
        intro o ho
        have o64 : o ≤ 64 := by rw [ho]; split <;> omega
        refine l42 _ _ _ _ _ ⟨rfl, vX12_round_42 hWK hI.1 ?_⟩
        rw [nI_clamp (by omega)]
        have hk : K.1 75 (o + s) = iI (kNo k s) := by rw [ho]; exact hTK.king k hs
        rw [hk]
        unfold kNo
        refine ⟨vp_in_nI (by omega) (by omega), fun z => ?_, fun z => ?_⟩
        · cases hb : kNb k s with
          | true =>
            rw [hb, if_pos rfl] at z
            have := kCt_lt hs hb
            have := (iI_lt (a := (kCt k s : Int)) (b := 0) (by omega) (by omega) (by omega) (by omega)).mp z
            omega
          | false => exact f185 K f sK (hI.jump hb hp64) (fnd_j hb hp64 hf)
        · cases hb : kNb k s with
          | false =>
            rw [hb, if_neg (by decide)] at z
            exact absurd (by decide) z
          | true => exact lw s p hs hp64 hb (fun K2 f2 a b c => ih (p + 1) K2 f2 (by omega) a b c) 64 0 K f (by omega) sK hI hf
      refine l16 _ _ _ _ _ ⟨rfl, vX12_round_16 hWK hI.1 ⟨fun z => absurd ((nI_leI (a := 64) (b := p) (by decide) (by omega)).mp z) (by omega), fun _ => ⟨fun z => ?_, fun z => ?_⟩⟩⟩
      · have z : k = 1 := (nI_eq (b := 1) (by omega) (by decide)).mp z
        rw [show (64 : Int32) + nI s = nI (64 + s) from nI_add 64 s]
        exact f42 64 (by rw [if_pos z])
      · have z : ¬ k = 1 := fun e => z (by rw [e]; rfl)
        have q := f42 0 (by rw [if_neg z])
        rw [Nat.zero_add] at q
        exact q
  have ls : ∀ (n s : Nat) (K : zM) (f : Bool), s + n = 64 → zSm (r :: eC) M K → rI K r k d sm (4096 * s) → fnd k d sm (4096 * s) f → X 6 0 0 [.ref 71, .int (nI k), .ref r, .int (nI d), .int (bI f), .int (nI s)] [] K := by
    intro n
    induction n with
    | zero =>
      intro s K f hs sK hI hf
      have e : s = 64 := by omega
      subst e
      exact l6 _ _ _ _ _ ⟨rfl, vX12_round_6 (sK.fix hW) hI.1 ⟨fun _ => ⟨by cases f <;> rfl, hq K f sK hI hf⟩, fun z => absurd (by decide) z⟩⟩
    | succ n ih =>
      intro s K f hs sK hI hf
      exact l6 _ _ _ _ _ ⟨rfl, vX12_round_6 (sK.fix hW) hI.1 ⟨fun z => absurd ((nI_leI (a := 64) (b := s) (by decide) (by omega)).mp z) (by omega), fun _ => lp s (by omega) (fun K2 f2 a b c => ih (s + 1) K2 f2 (by omega) a b c) 64 0 K f (by omega) sK hI hf⟩⟩
  refine l0 _ _ _ _ _ ⟨rfl, vX12_round_0 hW hr (ls 64 0 M false (by omega) zSm.rf h ?_)⟩
  unfold fnd
  refine ⟨fun q => absurd q (by decide), ?_⟩
  rintro ⟨x, y, z, a1, a2, a3, a4, a5, a6⟩
  omega
