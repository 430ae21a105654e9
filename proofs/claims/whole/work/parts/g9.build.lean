/-! THE CLASS'S ENDINGS: a table is built -/
theorem stT_iff {k s p w n : Nat} (kk : k = 1 ∨ k = 4 ∨ k = 5) (hs : s < 64) (hp : p < 64) (hw : w < 64) : (stT k (2 * n + 1) 4096 0 0 noT s p w ∨ (pos5 k s p w true ∧ (¬ ∃ d, d < 2 * n + 1 ∧ isD k s p w true d) ∧ bcm k s p w (2 * n))) ↔ isD k s p w true (2 * n + 1) := by
  constructor
  · rintro (⟨a, b, h⟩ | ⟨a, b, h⟩)
    · rw [st_iff kk hs hp hw a b]
      rcases h with ⟨s3, p3, h1, h2, _, h4, h5⟩ | ⟨_, h⟩
      · exact Or.inl ⟨s3, p3, h1, h2, h4, h5⟩
      · exact absurd h id
    · rw [st_iff kk hs hp hw a b]
      exact Or.inr h
  · intro h
    have a := isD_pos h
    have b : ¬ ∃ d, d < 2 * n + 1 ∧ isD k s p w true d := fun ⟨d, h1, h2⟩ => by have := isD_uniq h2 h; omega
    rcases (st_iff kk hs hp hw a b).mp h with ⟨s3, p3, h1, h2, h4, h5⟩ | h
    · exact Or.inl ⟨a, b, Or.inl ⟨s3, p3, h1, h2, by omega, h4, h5⟩⟩
    · exact Or.inr ⟨a, b, h⟩
abbrev eAll (e : Nat) : List Nat := [e, e + 1, e + 2, e + 3, e + 4, e + 5, e + 6, e + 7]
theorem eFin.of {M K : zM} {x k : Nat} (h : eFin M x k) (hs : K.2.2 = M.2.2) (hi : ∀ i, i ≤ 7 → K.1 (x + i) = M.1 (x + i) ∧ K.2.1 (x + i) = M.2.1 (x + i)) : eFin K x k := by
  obtain ⟨a1, a2, a3, a4, L, a5, a6, a7⟩ := h
  have h0 := (hi 0 (by omega)).1
  rw [Nat.add_zero] at h0
  refine ⟨?_, by rw [h0]; exact a2, a3.of (by rw [if_pos rfl]; exact (hi 5 (by omega)).2) (fun i _ => by rw [(hi 7 (by omega)).2]), a4.of (by rw [if_neg (by decide)]; exact (hi 3 (by omega)).2) (fun i _ => by rw [(hi 7 (by omega)).2]), L, a5, by rw [h0]; exact a6, a7⟩
  unfold eSh zsh at a1 ⊢
  rw [hs]
  exact a1
set_option maxHeartbeats 4000000 in
theorem c_build {mc ms : Nat} {M : zM} {g : Nat} (hW : zWd M g) (hC : cOk M) {e k : Nat} (hE : eSh M e) (hk : M.1 e 1 = nI k) (kk : k = 1 ∨ k = 4 ∨ k = 5) (h0 : ∀ c i, e + 1 ≤ c → c ≤ e + 7 → M.2.1 c i = 0) (h11 : M.1 e 11 = 0) (hr : (k ≠ 1 ∧ M.2.2.1 e 2 = none) ∨ (k = 1 ∧ ∃ a b, M.2.2.1 e 2 = some a ∧ M.2.2.1 e 3 = some b ∧ a + 7 < e ∧ b + 7 < e ∧ eFin M a 5 ∧ eFin M b 4)) {Q : zQt} (hq : ∀ K, zSm (eAll e) M K → eFin K e k → Q none K) : wX2_build mc ms [.ref e] M Q := by
  refine ⟨⟨Nat.le_of_ble_eq_true rfl, rfl⟩, fun X l0 l2 l38 l39 l67 l73 l91 l114 l139 l151 l167 l176 => ?_⟩
  have e82 := hE.2.2.2.2
  have k5 : k ≤ 5 := by omega
  have k1 : 1 ≤ k := by omega
  have k2 : k ≠ 2 := by omega
  have f176 : ∀ K, zSm (eAll e) M K → eFin K e k → X 176 0 0 [] [] K := fun K a b => l176 _ _ _ _ _ ⟨rfl, vX2_build_176 (a.wd hW) (hq K a b)⟩
  -- the steps
  have main : ∀ (bc : Bool) (aw : Nat), aw < 100 → (bc = true ↔ k = 1) → (k = 1 → ∀ j s p w sm d, 2 ≤ j → j ≤ 5 → s < 64 → p < 64 → w < 64 → isD j s p w sm d → d + 1 ≤ aw) → ∀ (r n q : Nat) (K : zM), n + r = 64 → 1 ≤ n → q ≤ n → zSm (eAll e) M K → bS K e k n → (∀ d, n ≤ d + q → d < n → nDa k d) → X 73 0 0 [.ref e, .int (bI bc), .int (nI aw), .int (nI q), .int (nI n)] [] K := by
    intro bc aw haw hbc hoth r
    induction r with
    | zero =>
      intro n q K hn n1 hqn sK hB hQ
      have hn : n = 64 := by omega
      subst hn
      refine l73 _ _ _ _ _ ⟨rfl, vX2_build_73 (sK.wd hW) hB.1.1 ⟨fun _ => f176 K sK (hB.fin (by omega) (fun d hd s p w sm hs hp hw z => ?_)), fun c => absurd (by decide) c⟩⟩
      have := isD_lt k1 k5 hs hp hw z
      omega
    | succ r ih =>
      intro n q K hn n1 hqn sK hB hQ
      have n64 : n < 64 := by omega
      have WK := sK.wd hW
      have CK : cOk K := hC.e sK e82 (by simp)
      obtain ⟨b1, b2, b3, ⟨b4, b4'⟩, ⟨b5, b5'⟩, b6, L, b7, b8, b9⟩ := id hB
      -- behind a step
      have f139 : ∀ (K2 : zM) (b : Bool), zSm (eAll e) M K2 → eSh K2 e → K2.1 e = K.1 e → hiR K2 e k → canR K2 e k true → canR K2 e k false → kR K2 e k (n + 1) true noT → kR K2 e k (n + 1) false noT → fR K2 e k (if (n + 1) % 2 = 1 then n + 1 - 1 else n + 1 - 2) → (b = true ↔ ∃ s p w sm, s < 64 ∧ p < 64 ∧ w < 64 ∧ isD k s p w sm n) → X 139 0 0 [.ref e, .int (bI bc), .int (nI aw), .int (nI q), .int (nI n), .int (bI b)] [] K2 := by
        intro K2 b s2 c1 c2 c3 c4 c4' c5 c5' c6 hb
        have W2 := s2.wd hW
        have nx : ∀ q2 L2, L2 < n + 1 → (∀ s p w sm d, s < 64 → p < 64 → w < 64 → isD k s p w sm d → d < n + 1 → d ≤ L2) → q2 ≤ n + 1 → (∀ d, n + 1 ≤ d + q2 → d < n + 1 → nDa k d) → X 167 0 0 [.ref e, .int (bI bc), .int (nI aw), .int (nI q2), .int (nI n)] [.int (nI L2), .ref e] K2 := fun q2 L2 hL2 hL3 hq2 hq3 => by
          refine l167 _ _ _ _ _ ⟨rfl, vX2_build_167 W2 c1.1 c1.1 (fun K3 e3 => ?_)⟩
          have s3 : zSm [e] K2 K3 := by rw [e3]; exact zSm.I (by simp)
          have j3 : ∀ c, K3.2.1 c = K2.2.1 c := fun c => by rw [e3]; rfl
          rw [show nI n + (1 : Int32) = nI (n + 1) from nI_add _ 1]
          refine ih (n + 1) q2 K3 (by omega) (by omega) hq2 (s2.tr (s3.mono (by simp))) ⟨c1.sm s3, ?_, ?_, ⟨?_, ?_⟩, ⟨?_, ?_⟩, ?_, L2, hL2, ?_, hL3⟩ hq3
          · rw [e3, zsI_n (by decide), c2]; exact b2
          · intro s p w hs hp hw; rw [j3]; exact c3 s p w hs hp hw
          · intro s p w hs hp hw; rw [j3]; exact c4 s p w hs hp hw
          · intro s p w hs hp hw; rw [j3]; exact c4' s p w hs hp hw
          · exact c5.of (j3 _) (fun i _ => by rw [j3])
          · exact c5'.of (j3 _) (fun i _ => by rw [j3])
          · intro s p w hs hp hw; rw [j3]; exact c6 s p w hs hp hw
          · rw [e3, zsI_s]
        cases b with
        | false =>
          have none : nDa k n := fun s p w sm hs hp hw z => absurd (hb.mpr ⟨s, p, w, sm, hs, hp, hw, z⟩) (by decide)
          refine l139 _ _ _ _ _ ⟨rfl, vX2_build_139 W2 c1.1 ⟨fun _ => l151 _ _ _ _ _ ⟨rfl, vX2_build_151 W2 c1.1 ⟨fun _ => ?_, fun z => absurd rfl z⟩⟩, fun z => absurd rfl z⟩⟩
          rw [c2, b8, show nI q + (1 : Int32) = nI (q + 1) from nI_add _ 1]
          refine nx (q + 1) L (by omega) (fun s p w sm d hs hp hw z hd => ?_) (by omega) (fun d h1 h2 => ?_)
          · by_cases y : d = n
            · rw [y] at z; exact absurd z (none s p w sm hs hp hw)
            · exact b9 s p w sm d hs hp hw z (by omega)
          · by_cases y : d = n
            · rw [y]; exact none
            · exact hQ d (by omega) (by omega)
        | true =>
          refine l139 _ _ _ _ _ ⟨rfl, vX2_build_139 W2 c1.1 ⟨fun z => absurd z (by decide), fun _ => l151 _ _ _ _ _ ⟨rfl, vX2_build_151 W2 c1.1 ⟨fun z => absurd z (by decide), fun _ => ?_⟩⟩⟩⟩
          exact nx 0 n (by omega) (fun s p w sm d hs hp hw z hd => by omega) (by omega) (fun d h1 h2 => absurd h2 (by omega))
      have n2 : nI n - nI n / (2 : Int32) * (2 : Int32) = nI (n % 2) := pk_rem (d := 2) (by omega) (by decide) (by decide)
      have e1 : nI (n % 2) = (1 : Int32) ↔ n % 2 = 1 := nI_eq (b := 1) (by omega) (by decide)
      have f91 : X 91 0 0 [.ref e, .int (bI bc), .int (nI aw), .int (nI q), .int (nI n)] [] K := by
        refine l91 _ _ _ _ _ ⟨rfl, vX2_build_91 WK b1.1 ?_⟩
        rw [n2]
        refine ⟨fun z => ?_, fun z => ?_⟩
        · have z := e1.mp z
          obtain ⟨m, em⟩ : ∃ m, n = 2 * m + 1 := ⟨n / 2, by omega⟩
          rw [if_pos z] at b6
          refine c_stepStrong WK CK b2 kk b1 n64 z b3 b4 b6 b5 (fun K2 b s2 i2 v2 h2 => ?_)
          have sM2 : zSm (eAll e) M K2 := sK.tr (s2.mono (by simp))
          have W2 := sM2.wd hW
          have E2 := b1.sm s2
          have c2 : K2.1 e = K.1 e := s2.i (by simp)
          have c3 : hiR K2 e k := fun s p w hs hp hw => by rw [s2.j (by simp)]; exact b3 s p w hs hp hw
          have c4 : canR K2 e k true := fun s p w hs hp hw => by
            have := b4 s p w hs hp hw
            rw [if_pos rfl] at this ⊢
            rw [s2.j (by simp)]; exact this
          have c4' : canR K2 e k false := fun s p w hs hp hw => by
            have := b4' s p w hs hp hw
            rw [if_neg (by decide)] at this ⊢
            rw [s2.j (by simp)]; exact this
          have c5' : kR K2 e k n false noT := b5'.of (by rw [if_neg (by decide)]; exact s2.j (by simp)) (fun i hi => i2 i (by rw [if_neg (by decide)] at hi; exact hi))
          have c6 : fR K2 e k (if (n + 1) % 2 = 1 then n + 1 - 1 else n + 1 - 2) := by
            rw [if_neg (by omega), show n + 1 - 2 = n - 1 by omega]
            intro s p w hs hp hw
            rw [s2.j (by simp)]; exact b6 s p w hs hp hw
          have par : kR K2 e k (n + 1) false noT := kR.par (sm := true) ⟨fun _ => z, fun _ => rfl⟩ c5'
          refine vkX2_build_105 W2 E2.1 ?_
          refine l114 _ _ _ _ _ ⟨rfl, vX2_build_114 W2 E2.1 ?_⟩
          rw [n2]
          refine ⟨fun y => ?_, fun y => ⟨fun _ => ?_, fun y2 => absurd (e1.mpr z) y2⟩⟩
          · have y : k ≠ 1 := fun q => by
              have := hbc.mpr q
              rw [bI_0.mp y] at this
              exact absurd this (by decide)
            have te : ∀ s p w, s < 64 → p < 64 → w < 64 → (stT k n 4096 0 0 noT s p w ↔ isD k s p w true n) := fun s p w hs hp hw => by
              rw [em, ← stT_iff kk hs hp hw]
              exact ⟨fun h => Or.inl h, fun h => h.elim id (fun h => absurd h.2.2.1 y)⟩
            refine f139 K2 b sM2 E2 c2 c3 c4 c4' (v2.next te) par c6 ?_
            rw [h2]
            constructor
            · rintro ⟨s, p, w, hs, hp, hw, h⟩
              exact ⟨s, p, w, true, hs, hp, hw, (te s p w hs hp hw).mp h⟩
            · rintro ⟨s, p, w, sm, hs, hp, hw, h⟩
              have : sm = true := (isD_par h).mpr z
              subst this
              exact ⟨s, p, w, hs, hp, hw, (te s p w hs hp hw).mpr h⟩
          · have y : k = 1 := hbc.mp (bI_n.mp y)
            rcases hr with ⟨q, _⟩ | ⟨_, a, b', ra, rb, la, lb, fa, fb⟩
            · exact absurd y q
            · have fo : ∀ {x kx}, x + 7 < e → eFin M x kx → eFin K2 x kx := fun h f => f.of sM2.1 (fun i hi => ⟨sM2.i (by simp; omega), sM2.j (by simp; omega)⟩)
              have fa2 := fo la fa
              have fb2 := fo lb fb
              subst y
              refine c_stepBecoming W2 E2 n64 z c4 v2 (by rw [sM2.1]; exact ra) (by rw [sM2.1]; exact rb) fa2.1 fb2.1 la lb fa2.2.2.2.1 fb2.2.2.2.1 (fun K3 r3 s3 i3 v3 h3 => ?_)
              have sM3 : zSm (eAll e) M K3 := sM2.tr (s3.mono (by simp))
              have W3 := sM3.wd hW
              have E3 := E2.sm s3
              refine vkX2_build_136 W3 E3.1 ?_
              rw [bI_or]
              have te : ∀ s p w, s < 64 → p < 64 → w < 64 → (bT (stT 1 n 4096 0 0 noT) n 4096 s p w ↔ isD 1 s p w true n) := fun s p w hs hp hw => by
                rw [em, ← stT_iff kk hs hp hw]
                unfold bT
                rw [show 2 * m + 1 - 1 = 2 * m by omega]
                exact or_congr_right ⟨fun h => h.2, fun h => ⟨by omega, h⟩⟩
              refine f139 K3 (b || r3) sM3 E3 (by rw [s3.i (by simp)]; exact c2) ?_ ?_ ?_ (v3.next te) ?_ ?_ ?_
              · intro s p w hs hp hw; rw [s3.j (by simp)]; exact c3 s p w hs hp hw
              · intro s p w hs hp hw
                have := c4 s p w hs hp hw
                rw [if_pos rfl] at this ⊢
                rw [s3.j (by simp)]; exact this
              · intro s p w hs hp hw
                have := c4' s p w hs hp hw
                rw [if_neg (by decide)] at this ⊢
                rw [s3.j (by simp)]; exact this
              · exact par.of (by rw [if_neg (by decide)]; exact s3.j (by simp)) (fun i hi => i3 i (by rw [if_neg (by decide)] at hi; exact hi))
              · intro s p w hs hp hw; rw [s3.j (by simp)]; exact c6 s p w hs hp hw
              · rw [Bool.or_eq_true, h2, ← h3]
                constructor
                · rintro ⟨s, p, w, hs, hp, hw, h⟩
                  exact ⟨s, p, w, true, hs, hp, hw, (te s p w hs hp hw).mp h⟩
                · rintro ⟨s, p, w, sm, hs, hp, hw, h⟩
                  have : sm = true := (isD_par h).mpr z
                  subst this
                  exact ⟨s, p, w, hs, hp, hw, (te s p w hs hp hw).mpr h⟩
        · have z : ¬ n % 2 = 1 := fun q => z (e1.mpr q)
          obtain ⟨m, em⟩ : ∃ m, n = 2 * (m + 1) := ⟨n / 2 - 1, by omega⟩
          subst em
          refine c_stepWeak WK CK k1 k2 b1 n64 b3 b4' b5 b5' (fun K2 b s2 v2 v2' f2 h2 => ?_)
          have sM2 : zSm (eAll e) M K2 := sK.tr (s2.mono (by simp))
          have W2 := sM2.wd hW
          have E2 := b1.sm s2
          refine vkX2_build_114 W2 E2.1 ?_
          have fin : X 139 0 0 [.ref e, .int (bI bc), .int (nI aw), .int (nI q), .int (nI (2 * (m + 1))), .int (bI b)] [] K2 := by
            refine f139 K2 b sM2 E2 (s2.i (by simp)) ?_ ?_ ?_ v2 v2' ?_ ?_
            · intro s p w hs hp hw; rw [s2.j (by simp)]; exact b3 s p w hs hp hw
            · intro s p w hs hp hw
              have := b4 s p w hs hp hw
              rw [if_pos rfl] at this ⊢
              rw [s2.j (by simp)]; exact this
            · intro s p w hs hp hw
              have := b4' s p w hs hp hw
              rw [if_neg (by decide)] at this ⊢
              rw [s2.j (by simp)]; exact this
            · rw [if_pos (by omega)]
              exact f2
            · rw [h2]
              constructor
              · rintro ⟨s, p, w, hs, hp, hw, h⟩
                exact ⟨s, p, w, false, hs, hp, hw, h⟩
              · rintro ⟨s, p, w, sm, hs, hp, hw, h⟩
                have : sm = false := by
                  cases sm
                  · rfl
                  · exact absurd ((isD_par h).mp rfl) z
                subst this
                exact ⟨s, p, w, hs, hp, hw, h⟩
          refine l114 _ _ _ _ _ ⟨rfl, vX2_build_114 W2 E2.1 ?_⟩
          rw [n2]
          exact ⟨fun _ => fin, fun _ => ⟨fun y => absurd (e1.mp y) z, fun _ => fin⟩⟩
      refine l73 _ _ _ _ _ ⟨rfl, vX2_build_73 WK b1.1 ⟨fun z => absurd ((nI_leI (a := 64) (by decide) (by omega)).mp z) (by omega), fun _ => ⟨fun _ => f91, fun y => ⟨fun x => f176 K sK (hB.fin (by omega) ?_), fun _ => f91⟩⟩⟩⟩
      have y : 2 ≤ q := by
        rcases Nat.lt_or_ge q 2 with z | z
        · exact absurd ((nI_ltI (b := 2) (by omega) (by decide)).mpr z) y
        · exact z
      have x : aw < n := (nI_ltI (by omega) (by omega)).mp x
      intro d hd
      exact isD_quiet (e := n - 2) k1 k5 (hQ _ (by omega) (by omega)) (hQ _ (by omega) (by omega)) (fun h1 j s p w sm d' j2 j5 hs hp hw z => by
        have := hoth h1 j s p w sm d' j2 j5 hs hp hw z
        omega) d (by omega)
  -- behind the start
  have strt : ∀ K, zSm (eAll e) M K → K.1 e = M.1 e → (∀ s p, s < 64 → p < 64 → sR K e k s p) → (∀ i, K.2.1 (e + 5) i = 0) → (∀ i, K.2.1 (e + 7) i = 0) → bS K e k 1 := by
    intro K sK ke hs0 h5 h7
    refine ⟨hE.sm sK, by rw [ke]; exact hk, fun s p w hs hp hw => (hs0 s p hs hp w hw).1, ⟨fun s p w hs hp hw => ?_, fun s p w hs hp hw => ?_⟩, ⟨fun s p w hs hp hw => ⟨?_, fun j hj => ?_⟩, fun s p w hs hp hw => ⟨?_, fun j hj => ?_⟩⟩, fun s p w hs hp hw => ?_, 0, by omega, by rw [ke]; exact h11, fun s p w sm d hs hp hw h hd => by omega⟩
    · rw [if_pos rfl]; unfold canS; rw [if_pos rfl]; exact (hs0 s p hs hp w hw).2.2.2.1
    · rw [if_neg (by decide)]; unfold canS; rw [if_neg (by decide)]; exact (hs0 s p hs hp w hw).2.1
    · rw [if_pos rfl, h5, bt_0]
      constructor
      · intro q; exact absurd q (by decide)
      · rintro (⟨d, a, b⟩ | q)
        · have := (isD_par b).mp rfl
          omega
        · exact absurd q id
    · rw [h7, bt_0]
      constructor
      · intro q; exact absurd q (by decide)
      · rintro (⟨d, a, b, c⟩ | ⟨q, _⟩)
        · have := (isD_par b).mp rfl
          omega
        · exact absurd q id
    · rw [if_neg (by decide), (hs0 s p hs hp w hw).2.2.1]
      constructor
      · intro q; exact Or.inl ⟨0, by omega, isD_0.mpr q⟩
      · rintro (⟨d, a, b⟩ | q)
        · rw [show d = 0 by omega] at b; exact isD_0.mp b
        · exact absurd q id
    · rw [h7, bt_0]
      constructor
      · intro q; exact absurd q (by decide)
      · rintro (⟨d, a, b, c⟩ | ⟨q, _⟩)
        · rw [show d = 0 by omega, Nat.zero_div] at c
          exact absurd c (by decide)
        · exact absurd q id
    · rw [(hs0 s p hs hp w hw).2.2.2.2, show (if 1 % 2 = 1 then 1 - 1 else 1 - 2) = 0 from rfl]
      exact isD_0.symm
  have loop : ∀ (r c : Nat) (K : zM), c + r = 4096 → zSm [e + 1, e + 2, e + 3, e + 4, e + 6] M K → (∀ x i, c ≤ i → K.2.1 x i = M.2.1 x i) → (∀ s p, s < 64 → p < 64 → 64 * p + s < c → sR K e k s p) → X 2 0 0 [.ref e, .int (nI c)] [] K := by
    intro r
    induction r with
    | zero =>
      intro c K hcr sK hz hR
      have hcr : c = 4096 := by omega
      subst hcr
      have sM : zSm (eAll e) M K := sK.mono (by simp)
      have WK := sM.wd hW
      have EK := hE.sm sM
      have st := strt K sM (sK.i (by simp)) (fun s p hs hp => hR s p hs hp (by omega)) (fun i => by rw [sK.j (by simp)]; exact h0 _ _ (by omega) (by omega)) (fun i => by rw [sK.j (by simp)]; exact h0 _ _ (by omega) (by omega))
      refine l2 _ _ _ _ _ ⟨rfl, vX2_build_2 WK EK.1 ⟨fun _ => ?_, fun c => absurd (by decide) c⟩⟩
      rcases hr with ⟨kn, r2⟩ | ⟨ky, a, b, ra, rb, la, lb, fa, fb⟩
      · refine ⟨fun _ => ?_, fun z => absurd (Or.inl (by rw [sK.1]; exact r2)) z⟩
        refine l38 _ _ _ _ _ ⟨rfl, vX2_build_38 WK EK.1 (l39 _ _ _ _ _ ⟨rfl, vX2_build_39 WK EK.1 ⟨fun _ => ?_, fun z => absurd rfl z⟩⟩)⟩
        exact l67 _ _ _ _ _ ⟨rfl, vX2_build_67 WK EK.1 (main false 0 (by omega) ⟨fun q => absurd q (by decide), fun q => absurd q kn⟩ (fun q => absurd q kn) 63 1 0 K (by omega) (by omega) (by omega) sM st (fun d h1 h2 => absurd h1 (by omega)))⟩
      · have ra2 : K.2.2.1 e 2 = some a := by rw [sK.1]; exact ra
        have rb2 : K.2.2.1 e 3 = some b := by rw [sK.1]; exact rb
        refine ⟨fun z => ?_, fun _ => ?_⟩
        · rcases z with z | z
          · rw [ra2] at z; exact absurd z (by simp)
          · rw [rb2] at z; exact absurd z (by simp)
        · have fo : ∀ {x kx}, x + 7 < e → eFin M x kx → eFin K x kx := fun h f => f.of sM.1 (fun i hi => ⟨sM.i (by simp; omega), sM.j (by simp; omega)⟩)
          obtain ⟨a1, a2, a3, a4, La, a5, a6, a7⟩ := fo la fa
          obtain ⟨c1, c2, c3, c4, Lb, c5, c6, c7⟩ := fo lb fb
          refine l39 _ _ _ _ _ ⟨rfl, vX2_build_39 WK EK.1 ⟨fun z => absurd z (by decide), fun _ => ⟨a, ra2, a1.1, b, rb2, c1.1, ?_⟩⟩⟩
          obtain ⟨aw, haw, ea⟩ : ∃ aw, (La + 1 ≤ aw ∧ Lb + 1 ≤ aw ∧ aw < 100) ∧ (if K.1 a 11 < K.1 b 11 then K.1 b 11 else K.1 a 11) + (1 : Int32) = nI aw := by
            rw [a6, c6]
            by_cases z : nI La < nI Lb
            · have z2 := (nI_ltI (by omega) (by omega)).mp z
              rw [if_pos z]
              exact ⟨Lb + 1, by omega, nI_add _ 1⟩
            · have z2 : ¬ La < Lb := fun q => z ((nI_ltI (by omega) (by omega)).mpr q)
              rw [if_neg z]
              exact ⟨La + 1, by omega, nI_add _ 1⟩
          rw [ea]
          refine l67 _ _ _ _ _ ⟨rfl, vX2_build_67 WK EK.1 (main true aw (by omega) ⟨fun _ => ky, fun _ => rfl⟩ (fun _ j s p w sm d j2 j5 hs hp hw z => ?_) 63 1 0 K (by omega) (by omega) (by omega) sM st (fun d h1 h2 => absurd h1 (by omega)))⟩
          have cj : j = 2 ∨ j = 3 ∨ j = 4 ∨ j = 5 := by omega
          rcases cj with q | q | q | q
          · exact absurd z (no_23t (Or.inl q) hs hp hw)
          · exact absurd z (no_23t (Or.inr q) hs hp hw)
          · rw [q] at z
            have := c7 s p w sm d hs hp hw z
            omega
          · rw [q] at z
            have := a7 s p w sm d hs hp hw z
            omega
    | succ r ih =>
      intro c K hcr sK hz hR
      obtain ⟨p, s, hp, hs, ec⟩ : ∃ p s, p < 64 ∧ s < 64 ∧ c = 64 * p + s := ⟨c / 64, c % 64, by omega, by omega, by omega⟩
      have WK := sK.wd hW
      have EK := hE.sm sK
      refine l2 _ _ _ _ _ ⟨rfl, vX2_build_2 WK EK.1 ⟨fun z => absurd ((nI_leI (a := 4096) (by decide) (by omega)).mp z) (by omega), fun _ => ?_⟩⟩
      rw [ec]
      have z0 : s0R K e (64 * p + s) := by
        refine ⟨?_, ?_, ?_, ?_, ?_⟩ <;> (rw [hz _ _ (by omega)]; exact h0 _ _ (by omega) (by omega))
      refine c_start WK (hC.e sK e82 (by simp)) EK (by rw [sK.i (by simp)]; exact hk) kk hs hp z0 (fun K2 s2 h2 r2 => ?_)
      have sM2 := sK.tr s2
      refine vkX2_build_14 (sM2.wd hW) ((hE.sm sM2).1) ?_
      rw [← ec, show nI c + (1 : Int32) = nI (c + 1) from nI_add _ 1]
      refine ih (c + 1) K2 (by omega) sM2 (fun x i hi => by rw [h2 x i (by omega)]; exact hz x i (by omega)) (fun s3 p3 hs3 hp3 hl => ?_)
      by_cases z : 64 * p3 + s3 = c
      · obtain ⟨z1, z2⟩ := slot_inj hs3 hs (z.trans ec)
        subst z1; subst z2
        exact r2
      · have q := hR s3 p3 hs3 hp3 (by omega)
        intro w hw
        rw [h2 _ _ (by omega), h2 _ _ (by omega), h2 _ _ (by omega), h2 _ _ (by omega), h2 _ _ (by omega)]
        exact q w hw
  exact l0 _ _ _ _ _ ⟨rfl, vX2_build_0 hW hE.1 (loop 4096 0 M (by omega) zSm.rf (fun _ _ _ => rfl) (fun s p _ _ h => absurd h (by omega)))⟩
