/-! THE CLASS'S LISTER: castlings -/
theorem rts : ∀ r, r < 16 → ∀ c, c ≤ 1 → ((nI r >>> (((2 : Int32) * nI c) &&& 31)) &&& (3 : Int32)) = nI (r / 4 ^ c % 4) := by decide +kernel
theorem rt1 : ∀ v, v < 4 → ((nI v &&& (1 : Int32) = 0 ↔ ¬ v % 2 = 1) ∧ (nI v &&& (2 : Int32) = 0 ↔ ¬ v / 2 % 2 = 1)) := by decide +kernel
theorem rt2 : ∀ r, r < 16 → ∀ c, c ≤ 1 → (r / 4 ^ c % 4 % 2 = r / 4 ^ c % 2 ∧ r / 4 ^ c % 4 / 2 % 2 = r / (2 * 4 ^ c) % 2) := by decide +kernel
theorem mk6 : ∀ c, c ≤ 1 → ∀ s, s < 64 → bt ((96 : Int64) <<< ((nI (4 + 56 * c) - (4 : Int32)).toInt64 &&& 63)) s = decide (s = 4 + 56 * c + 1 ∨ s = 4 + 56 * c + 2) := by decide +kernel
theorem mkE : ∀ c, c ≤ 1 → ∀ s, s < 64 → bt ((14 : Int64) <<< ((nI (4 + 56 * c) - (4 : Int32)).toInt64 &&& 63)) s = decide (s = 4 + 56 * c - 3 ∨ s = 4 + 56 * c - 2 ∨ s = 4 + 56 * c - 1) := by decide +kernel
set_option maxHeartbeats 4000000 in
theorem c_castlings {mc ms : Nat} {M : zM} {g : Nat} (hW : zWd M g) (hC : cOk M) {P : Ps} (hO : psOk P) (hP : bPs M g P) {kg : Nat} (hk : M.1 (g + 6) 2 = nI kg) (hk64 : kg < 64) {Q : zQt} (hq : ∀ r, (∀ b, b < 64 → (bt r b = true ↔ cst P kg b)) → Q (some (.long r)) M) : wX5_castlings mc ms [.ref (g + 6)] M Q := by
  refine ⟨⟨Nat.le_of_ble_eq_true rfl, rfl⟩, fun X l0 l16 l49 l105 l179 l248 => ?_⟩
  obtain ⟨hB, h4, h5, h6, -⟩ := hP
  have hc := hO.2.1
  have r16 := hO.2.2.1
  obtain ⟨c, ec⟩ : ∃ c, c = P.2.1 := ⟨_, rfl⟩
  obtain ⟨h, eh⟩ : ∃ h, h = 4 + 56 * c := ⟨_, rfl⟩
  rw [← ec] at hc h4
  obtain ⟨v, ev⟩ : ∃ v, v = P.2.2.1 / 4 ^ c % 4 := ⟨_, rfl⟩
  have v4 : v < 4 := by rw [ev]; exact Nat.mod_lt _ (by decide)
  obtain ⟨t1, t2⟩ := rt1 v v4
  obtain ⟨t3, t4⟩ := rt2 P.2.2.1 r16 c hc
  rw [← ev] at t3 t4
  have f49 : (∀ b, b < 64 → ¬ cst P kg b) → X 49 0 0 [] [] M := fun hn => l49 _ _ _ _ _ ⟨rfl, vX5_castlings_49 hW (hq 0 (fun b hb => ⟨fun q => by rw [bt_0] at q; exact absurd q (by decide), fun q => absurd q (hn b hb)⟩))⟩
  have f248 : ∀ r, (∀ b, b < 64 → (bt r b = true ↔ cst P kg b)) → X 248 0 0 [.long r] [] M := fun r hr => l248 _ _ _ _ _ ⟨rfl, vX5_castlings_248 hW (hq r hr)⟩
  have f16 : X 16 0 0 [.ref (g + 6)] [.int (nI h)] M := by
    refine l16 _ _ _ _ _ ⟨rfl, vX5_castlings_16 hW (fun y ey => ?_)⟩
    rw [h5, h4, rts _ r16 c hc, ← ev] at ey
    subst ey
    rw [hk, h4]
    have e0 := nI_eq (a := v) (b := 0) (by omega) (by decide)
    have ekh := nI_eq (a := kg) (b := h) (by omega) (by omega)
    refine ⟨fun q => f49 (fun b hb z => ?_), fun q => ⟨fun w y2 ey2 y3 ey3 => ?_, fun w => f49 (fun b hb z => w (ekh.mpr (by rw [eh, ec]; exact z.1)))⟩⟩
    · have v0 := e0.mp q
      obtain ⟨-, z, -⟩ := z
      rw [← ec] at z
      rw [v0] at t3 t4
      rcases z with z | z
      · have := z.2.1; omega
      · have := z.2.1; omega
    have hkg : kg = h := ekh.mp w
    rw [show (6 : Int32) * nI c = nI (6 * c) from pk_mul 6 _, show (4 : Int32) + nI (6 * c) = nI (4 + 6 * c) from nI_add 4 _] at ey2
    rw [show (1 : Int32) - nI c = nI (1 - c) from pk_sub (a := 1) (b := c) hc] at ey3
    subst ey2
    subst ey3
    have h64 : h < 64 := by omega
    refine c_occupied hW hB (fun o ho => vkX5_castlings_82 hW ?_)
    have oz : ∀ s, s < 64 → (bt o s = false ↔ P.1 s = 0) := by
      intro s hs
      have := ho s hs
      rcases z : bt o s with _ | _
      · rw [z] at this
        exact ⟨fun _ => by
          by_cases u : P.1 s = 0
          · exact u
          · exact absurd (this.mpr u) (by decide), fun _ => rfl⟩
      · exact ⟨fun u => absurd u (by decide), fun u => absurd u (this.mp z)⟩
    have zz : ∀ (x : Int64), (o &&& x = 0) ↔ ∀ s, s < 64 → bt x s = true → P.1 s = 0 := by
      intro x
      constructor
      · intro q s hs hx
        have : bt (o &&& x) s = false := by rw [q]; exact bt_0 s
        rw [bt_and, hx, Bool.and_true] at this
        exact (oz s hs).mp this
      · intro q
        apply bt_ext
        intro s hs
        rw [bt_0, bt_and]
        rcases z : bt x s with _ | _
        · exact Bool.and_false _
        · rw [(oz s hs).mpr (q s hs z)]; rfl
    -- the two goals
    obtain ⟨K, eK⟩ : ∃ K : Prop, K = (v % 2 = 1 ∧ P.1 (h + 3) = 4 + 6 * c ∧ (∀ t, h + 1 ≤ t → t < h + 3 → P.1 t = 0) ∧ ¬ atk P.1 h (1 - c) ∧ ¬ atk P.1 (h + 1) (1 - c)) := ⟨_, rfl⟩
    obtain ⟨L, eL⟩ : ∃ L : Prop, L = (v / 2 % 2 = 1 ∧ P.1 (h - 4) = 4 + 6 * c ∧ (∀ t, h - 3 ≤ t → t < h → P.1 t = 0) ∧ ¬ atk P.1 h (1 - c) ∧ ¬ atk P.1 (h - 1) (1 - c)) := ⟨_, rfl⟩
    have hcst : ∀ b, b < 64 → (cst P kg b ↔ (b = h + 2 ∧ K) ∨ (b = h - 2 ∧ L)) := by
      intro b hb
      unfold cst
      rw [← ec, hkg, eK, eL, t3, t4]
      constructor
      · rintro ⟨-, (⟨q1, q2, q3, q4⟩ | ⟨q1, q2, q3, q4⟩), q5, q6⟩
        · rw [show (h + b) / 2 = h + 1 by omega] at q6
          exact Or.inl ⟨q1, q2, q3, q4, q5, q6⟩
        · rw [show (h + b) / 2 = h - 1 by omega] at q6
          exact Or.inr ⟨by omega, q2, q3, q4, q5, q6⟩
      · rintro (⟨q1, q2, q3, q4, q5, q6⟩ | ⟨q1, q2, q3, q4, q5, q6⟩)
        · refine ⟨eh, Or.inl ⟨q1, q2, q3, q4⟩, q5, ?_⟩
          rw [show (h + b) / 2 = h + 1 by omega]; exact q6
        · refine ⟨eh, Or.inr ⟨by omega, q2, q3, q4⟩, q5, ?_⟩
          rw [show (h + b) / 2 = h - 1 by omega]; exact q6
    have f179 : ∀ (sf : Bool) (x : Int64), (sf = true ↔ ¬ atk P.1 h (1 - c)) → (∀ b, b < 64 → (bt x b = true ↔ b = h + 2 ∧ K)) → X 179 0 0 [.ref (g + 6), .int (nI h), .int (nI v), .int (nI (4 + 6 * c)), .int (nI (1 - c)), .long o, .int (bI sf), .long x] [] M := by
      intro sf x hsf hx
      have no : ¬ L → X 248 0 0 [.long x] [] M := fun hn => f248 x (fun b hb => by
        rw [hx b hb, hcst b hb]
        exact ⟨Or.inl, fun q => q.elim id (fun q => absurd q.2 hn)⟩)
      refine l179 _ _ _ _ _ ⟨rfl, vX5_castlings_179 hW ⟨fun q => no (fun z => ?_), fun q => ⟨fun w => no (fun z => ?_), fun w => ?_⟩⟩⟩
      · rw [eL] at z
        rw [bI_0.mp q] at hsf
        exact absurd (hsf.mpr z.2.2.2.1) (by decide)
      · rw [eL] at z
        exact t2.mp w z.1
      · have w1 : v / 2 % 2 = 1 := by
          by_cases u : v / 2 % 2 = 1
          · exact u
          · exact absurd (t2.mpr u) w
        have sf1 := hsf.mp (bI_n.mp q)
        obtain ⟨m1, m12⟩ := hB.1 (h - 4) (by omega)
        rw [show nI h - (4 : Int32) = nI (h - 4) from pk_sub (a := h) (b := 4) (by omega), nI_clamp (by omega), m1]
        have em := nI_eq (a := P.1 (h - 4)) (b := 4 + 6 * c) (by omega) (by omega)
        refine ⟨vp_in_nI (by omega) (by omega), fun u => ?_, fun u => no (fun z => by rw [eL] at z; exact u (em.mpr z.2.1))⟩
        have msk : ∀ s, s < 64 → bt ((14 : Int64) <<< ((nI (h - 4)).toInt64 &&& 63)) s = decide (s = h - 3 ∨ s = h - 2 ∨ s = h - 1) := by
          intro s hs
          have := mkE c hc s hs
          rw [← eh, show nI h - (4 : Int32) = nI (h - 4) from pk_sub (a := h) (b := 4) (by omega)] at this
          exact this
        rw [lg0, zz]
        have hz : (∀ s, s < 64 → bt ((14 : Int64) <<< ((nI (h - 4)).toInt64 &&& 63)) s = true → P.1 s = 0) ↔ ∀ t, h - 3 ≤ t → t < h → P.1 t = 0 := by
          constructor
          · intro y t a b
            refine y t (by omega) ?_
            rw [msk t (by omega), decide_eq_true_eq]
            omega
          · intro y s hs hb
            rw [msk s hs, decide_eq_true_eq] at hb
            exact y s (by omega) (by omega)
        rw [hz, show nI h - (1 : Int32) = nI (h - 1) from pk_sub (a := h) (b := 1) (by omega)]
        refine ⟨fun y => ?_, fun y => no (fun z => by rw [eL] at z; exact y z.2.2.1)⟩
        refine c_attacked hW hC hB (by omega) (by omega) o 0 (fun z => vkX5_castlings_235 hW ⟨fun d => absurd d (by decide), fun _ => no (fun w => by rw [eL] at w; exact w.2.2.2.2 ((atkO_atk ho (by omega)).mp z))⟩) (fun z => vkX5_castlings_235 hW ⟨fun _ r er => f248 r (fun b hb => ?_), fun d => absurd rfl d⟩)
        rw [er, show nI h - (2 : Int32) = nI (h - 2) from pk_sub (a := h) (b := 2) (by omega), bt_or, bt_one (by omega), Bool.or_eq_true, decide_eq_true_eq, hx b hb, hcst b hb]
        have hL : L := by rw [eL]; exact ⟨w1, em.mp u, y, sf1, fun q => z ((atkO_atk ho (by omega)).mpr q)⟩
        exact ⟨fun q => q.elim Or.inl (fun q => Or.inr ⟨q.symm, hL⟩), fun q => q.elim Or.inl (fun q => Or.inr q.1.symm)⟩
    have f105 : ∀ sf : Bool, (sf = true ↔ ¬ atk P.1 h (1 - c)) → X 105 0 0 [.ref (g + 6), .int (nI h), .int (nI v), .int (nI (4 + 6 * c)), .int (nI (1 - c)), .long o] [.int (bI sf)] M := by
      intro sf hsf
      have no : ¬ K → X 179 0 0 [.ref (g + 6), .int (nI h), .int (nI v), .int (nI (4 + 6 * c)), .int (nI (1 - c)), .long o, .int (bI sf), .long 0] [] M := fun hn => f179 sf 0 hsf (fun b hb => by
        rw [bt_0]
        exact ⟨fun q => absurd q (by decide), fun q => absurd q.2 hn⟩)
      refine l105 _ _ _ _ _ ⟨rfl, vX5_castlings_105 hW ⟨fun q => no (fun z => ?_), fun q => ⟨fun w => no (fun z => ?_), fun w => ?_⟩⟩⟩
      · rw [eK] at z
        rw [bI_0.mp q] at hsf
        exact absurd (hsf.mpr z.2.2.2.1) (by decide)
      · rw [eK] at z
        exact t1.mp w z.1
      · have w1 : v % 2 = 1 := by
          by_cases u : v % 2 = 1
          · exact u
          · exact absurd (t1.mpr u) w
        have sf1 := hsf.mp (bI_n.mp q)
        obtain ⟨m1, m12⟩ := hB.1 (h + 3) (by omega)
        rw [show nI h + (3 : Int32) = nI (h + 3) from nI_add h 3, nI_clamp (by omega), m1, show nI h - (4 : Int32) = nI (h - 4) from pk_sub (a := h) (b := 4) (by omega)]
        have em := nI_eq (a := P.1 (h + 3)) (b := 4 + 6 * c) (by omega) (by omega)
        refine ⟨vp_in_nI (by omega) (by omega), fun u => ?_, fun u => no (fun z => by rw [eK] at z; exact u (em.mpr z.2.1))⟩
        have msk : ∀ s, s < 64 → bt ((96 : Int64) <<< ((nI (h - 4)).toInt64 &&& 63)) s = decide (s = h + 1 ∨ s = h + 2) := by
          intro s hs
          have := mk6 c hc s hs
          rw [← eh, show nI h - (4 : Int32) = nI (h - 4) from pk_sub (a := h) (b := 4) (by omega)] at this
          exact this
        rw [lg0, zz]
        have hz : (∀ s, s < 64 → bt ((96 : Int64) <<< ((nI (h - 4)).toInt64 &&& 63)) s = true → P.1 s = 0) ↔ ∀ t, h + 1 ≤ t → t < h + 3 → P.1 t = 0 := by
          constructor
          · intro y t a b
            refine y t (by omega) ?_
            rw [msk t (by omega), decide_eq_true_eq]
            omega
          · intro y s hs hb
            rw [msk s hs, decide_eq_true_eq] at hb
            exact y s (by omega) (by omega)
        rw [hz, show nI h + (1 : Int32) = nI (h + 1) from nI_1 h]
        refine ⟨fun y => ?_, fun y => no (fun z => by rw [eK] at z; exact y z.2.2.1)⟩
        refine c_attacked hW hC hB (by omega) (by omega) o 0 (fun z => vkX5_castlings_166 hW ⟨fun d => absurd d (by decide), fun _ => no (fun w => by rw [eK] at w; exact w.2.2.2.2 ((atkO_atk ho (by omega)).mp z))⟩) (fun z => vkX5_castlings_166 hW ⟨fun _ r er => f179 sf r hsf (fun b hb => ?_), fun d => absurd rfl d⟩)
        rw [er, show nI h + (2 : Int32) = nI (h + 2) from nI_add h 2, bt_or, bt_one (by omega), bt_0, Bool.false_or, decide_eq_true_eq]
        have hK : K := by rw [eK]; exact ⟨w1, em.mp u, y, sf1, fun q => z ((atkO_atk ho (by omega)).mpr q)⟩
        exact ⟨fun q => ⟨q.symm, hK⟩, fun q => q.1.symm⟩
    refine c_attacked hW hC hB h64 (by omega) o 0 (fun z => vkX5_castlings_97 hW ⟨fun d => absurd d (by decide), fun _ => f105 false ⟨fun q => absurd q (by decide), fun q => absurd ((atkO_atk ho h64).mp z) q⟩⟩) (fun z => vkX5_castlings_97 hW ⟨fun _ => f105 true ⟨fun _ q => z ((atkO_atk ho h64).mpr q), fun _ => rfl⟩, fun d => absurd rfl d⟩)
  refine l0 _ _ _ _ _ ⟨rfl, vX5_castlings_0 hW ?_⟩
  rw [h4]
  have e4 := nI_eq (a := c) (b := 0) (by omega) (by decide)
  refine ⟨fun q => ?_, fun q => ?_⟩
  · rw [eh, e4.mp q] at f16
    exact f16
  · have : c = 1 := by
      have : ¬ c = 0 := fun z => q (e4.mpr z)
      omega
    rw [eh, this] at f16
    exact f16
