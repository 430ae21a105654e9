/-! THE CLASS'S ENDINGS: squares gain a distance -/
def canS (k : Nat) (sm : Bool) (s p w : Nat) : Prop := if sm = true then pos5 k s p w true else opW k s p w
def canR (M : zM) (e k : Nat) (sm : Bool) : Prop := ∀ s p w, s < 64 → p < 64 → w < 64 → (bt (M.2.1 (e + (if sm = true then 4 else 2)) (64 * p + s)) w = true ↔ canS k sm s p w)
def kR (M : zM) (e k n : Nat) (sm : Bool) (T : Nat → Nat → Nat → Prop) : Prop := ∀ s p w, s < 64 → p < 64 → w < 64 → (bt (M.2.1 (e + (if sm = true then 5 else 3)) (64 * p + s)) w = true ↔ (∃ d, d < n ∧ isD k s p w sm d) ∨ T s p w) ∧ ∀ j, j < 5 → (bt (M.2.1 (e + 7) (((if sm = true then 5 else 0) + j) * 4096 + (64 * p + s))) w = true ↔ (∃ d, d < n ∧ isD k s p w sm d ∧ d / 2 ^ (j + 1) % 2 = 1) ∨ (T s p w ∧ n / 2 ^ (j + 1) % 2 = 1))
def gT (T : Nat → Nat → Nat → Prop) (k n : Nat) (sm : Bool) (s p : Nat) (x : Int64) : Nat → Nat → Nat → Prop := fun s2 p2 w => T s2 p2 w ∨ (s2 = s ∧ p2 = p ∧ bt x w = true ∧ canS k sm s p w ∧ ¬ ∃ d, d < n ∧ isD k s p w sm d)
theorem bit_all : (List.range 64).all (fun n => (List.range 5).all (fun j => decide ((nI n >>> ((nI j + (1 : Int32)) &&& 31)) &&& (1 : Int32) = nI (n / 2 ^ (j + 1) % 2)))) = true := by decide +kernel
theorem bit_of {n j : Nat} (hn : n < 64) (hj : j < 5) : (nI n >>> ((nI j + (1 : Int32)) &&& 31)) &&& (1 : Int32) = nI (n / 2 ^ (j + 1) % 2) := of_decide_eq_true (List.all_eq_true.mp (List.all_eq_true.mp bit_all n (List.mem_range.mpr hn)) j (List.mem_range.mpr hj))
theorem blk_inj {o j j2 i i2 : Nat} (hi : i < 4096) (hi2 : i2 < 4096) (h : (o + j) * 4096 + i = (o + j2) * 4096 + i2) : j = j2 ∧ i = i2 := by omega
theorem slot_inj {s p s2 p2 : Nat} (hs : s < 64) (hs2 : s2 < 64) (h : 64 * p + s = 64 * p2 + s2) : s = s2 ∧ p = p2 := by omega
set_option maxHeartbeats 2000000 in
theorem c_gain {mc ms : Nat} {M : zM} {g : Nat} (hW : zWd M g) {e k n : Nat} (hE : eSh M e) (hn : n < 64) {sm : Bool} (hsm : sm = true ↔ n % 2 = 1) (hc : canR M e k sm) {T : Nat → Nat → Nat → Prop} (hT : kR M e k n sm T) {s p : Nat} (hs : s < 64) (hp : p < 64) (x : Int64) {Q : zQt} (hq : ∀ K r, zSm [e + (if sm = true then 5 else 3), e + 7] M K → (∀ i, (if sm = true then i < 20480 else 20480 ≤ i) → K.2.1 (e + 7) i = M.2.1 (e + 7) i) → kR K e k n sm (gT T k n sm s p x) → (∀ w, w < 64 → (bt r w = true ↔ bt x w = true ∧ canS k sm s p w ∧ (¬ ∃ d, d < n ∧ isD k s p w sm d) ∧ ¬ T s p w)) → Q (some (.long r)) K) : wX2_gain mc ms [.ref e, .int (nI (64 * p + s)), .long x, .int (nI n)] M Q := by
  refine ⟨⟨Nat.le_of_ble_eq_true rfl, rfl⟩, fun X l0 l19 l40 l71 l121 l127 => ?_⟩
  obtain ⟨sh0, rc, ⟨r4, r5, r6, r7, r8, r9, r10⟩, ⟨sh1, sh2, sh3, sh4, sh5, sh6, sh7⟩, e82⟩ := id hE
  obtain ⟨i, ei⟩ : ∃ i, i = 64 * p + s := ⟨_, rfl⟩
  have i4 : i < 4096 := by omega
  obtain ⟨o, ho⟩ : ∃ o, o = if sm = true then 5 else 0 := ⟨_, rfl⟩
  have o5 : (sm = true ∧ o = 5) ∨ (sm = false ∧ o = 0) := by
    cases sm
    · exact Or.inr ⟨rfl, by rw [ho]; rfl⟩
    · exact Or.inl ⟨rfl, by rw [ho]; rfl⟩
  obtain ⟨hv, hhv⟩ : ∃ hv, hv = e + (if sm = true then 5 else 3) := ⟨_, rfl⟩
  obtain ⟨cn, hcn⟩ : ∃ cn, cn = e + (if sm = true then 4 else 2) := ⟨_, rfl⟩
  have shv : zsh M hv = some (2, 4096) := by rw [hhv]; cases sm; exact sh3; exact sh5
  have shc : zsh M cn = some (2, 4096) := by rw [hcn]; cases sm; exact sh2; exact sh4
  have hv7 : hv ≠ e + 7 ∧ hv ≠ cn := by rw [hhv, hcn]; cases sm <;> simp
  have vi : vp_in (nI i) 4096 := vp_in_nI i4 (by omega)
  have ci : (nI i).toNatClampNeg = i := nI_clamp (by omega)
  unfold canR at hc
  unfold kR at hT hq
  rw [← hhv] at hT hq
  rw [← hcn] at hc
  rw [← ho] at hT hq
  rw [← ei]
  have n2 : nI n - nI n / (2 : Int32) * (2 : Int32) = nI (n % 2) := pk_rem (d := 2) (by omega) (by decide) (by decide)
  have e1 : nI (n % 2) = (1 : Int32) ↔ n % 2 = 1 := nI_eq (b := 1) (by omega) (by decide)
  obtain ⟨y, hy⟩ : ∃ y, y = x &&& M.2.1 cn i &&& (M.2.1 hv i ^^^ (-1)) := ⟨_, rfl⟩
  have by1 : ∀ w, w < 64 → (bt y w = true ↔ bt x w = true ∧ canS k sm s p w ∧ (¬ ∃ d, d < n ∧ isD k s p w sm d) ∧ ¬ T s p w) := fun w hw => by
    have a := hc s p w hs hp hw
    have b := (hT s p w hs hp hw).1
    rw [← ei] at a b
    rw [hy, bt_and, bt_and, bt_not _ hw, Bool.and_eq_true, Bool.and_eq_true, a, Bool.not_eq_true', ← Bool.not_eq_true, b, not_or, and_assoc]
  obtain ⟨M1, eM1⟩ : ∃ M1, M1 = zsJ M hv i (M.2.1 hv i ||| y) := ⟨_, rfl⟩
  have dk : ∀ j, j < 5 → (((nI n - nI n / (2 : Int32) * (2 : Int32)) * (5 : Int32) + nI j) * (4096 : Int32) + nI i) = nI ((o + j) * 4096 + i) := fun j hj => by
    rw [n2, show nI (n % 2) * (5 : Int32) = nI (n % 2 * 5) from pk_mul _ 5, nI_add, show nI (n % 2 * 5 + j) * (4096 : Int32) = nI ((n % 2 * 5 + j) * 4096) from pk_mul _ 4096, nI_add]
    have : n % 2 * 5 = o := by
      rcases o5 with ⟨a, b⟩ | ⟨a, b⟩
      · rw [hsm.mp a, b]
      · have : ¬ n % 2 = 1 := fun q => by rw [hsm.mpr q] at a; exact absurd a (by decide)
        omega
    rw [this]
  -- at the end
  have f127 : ∀ K, zSm [hv, e + 7] M K → (∀ c, K.2.1 hv c = M1.2.1 hv c) → (∀ j w, j < 5 → bt (K.2.1 (e + 7) ((o + j) * 4096 + i)) w = (bt (M.2.1 (e + 7) ((o + j) * 4096 + i)) w || (decide (n / 2 ^ (j + 1) % 2 = 1) && bt y w))) → (∀ c, (∀ j, j < 5 → c ≠ (o + j) * 4096 + i) → K.2.1 (e + 7) c = M.2.1 (e + 7) c) → X 127 0 0 [.long y] [] K := by
    intro K sK h1 h2 h3
    refine l127 _ _ _ _ _ ⟨rfl, vX2_gain_127 (sK.wd hW) (hq K y sK (fun c hc2 => h3 c (fun j hj q => ?_)) (fun s2 p2 w hs2 hp2 hw => ?_) by1)⟩
    · rcases o5 with ⟨a, b⟩ | ⟨a, b⟩
      · rw [if_pos a] at hc2; omega
      · rw [if_neg (by rw [a]; decide)] at hc2; omega
    · obtain ⟨t1, t2⟩ := hT s2 p2 w hs2 hp2 hw
      unfold gT
      by_cases z : 64 * p2 + s2 = i
      · have ⟨es, ep⟩ := slot_inj hs2 hs (z.trans ei)
        subst es; subst ep
        rw [z] at t1 t2 ⊢
        have yb := by1 w hw
        refine ⟨?_, fun j hj => ?_⟩
        · rw [h1, eM1, zsJ_s, bt_or, Bool.or_eq_true, t1, yb]
          constructor
          · rintro ((a | a) | ⟨a, b, c, d⟩)
            · exact Or.inl a
            · exact Or.inr (Or.inl a)
            · exact Or.inr (Or.inr ⟨rfl, rfl, a, b, c⟩)
          · rintro (a | a | ⟨_, _, a, b, c⟩)
            · exact Or.inl (Or.inl a)
            · exact Or.inl (Or.inr a)
            · by_cases d : T s2 p2 w
              · exact Or.inl (Or.inr d)
              · exact Or.inr ⟨a, b, c, d⟩
        · rw [h2 j w hj, Bool.or_eq_true, Bool.and_eq_true, decide_eq_true_eq, t2 j hj, yb]
          constructor
          · rintro ((a | a) | ⟨z0, a, b, c, d⟩)
            · exact Or.inl a
            · exact Or.inr ⟨Or.inl a.1, a.2⟩
            · exact Or.inr ⟨Or.inr ⟨rfl, rfl, a, b, c⟩, z0⟩
          · rintro (a | ⟨a | ⟨_, _, a, b, c⟩, z0⟩)
            · exact Or.inl (Or.inl a)
            · exact Or.inl (Or.inr ⟨a, z0⟩)
            · by_cases d : T s2 p2 w
              · exact Or.inl (Or.inr ⟨d, z0⟩)
              · exact Or.inr ⟨z0, a, b, c, d⟩
      · have ne : ¬ (s2 = s ∧ p2 = p) := fun q => z (by rw [q.1, q.2, ei])
        refine ⟨?_, fun j hj => ?_⟩
        · rw [h1, eM1, zsJ_n z, t1]
          constructor
          · rintro (a | a)
            · exact Or.inl a
            · exact Or.inr (Or.inl a)
          · rintro (a | a | ⟨a, b, _⟩)
            · exact Or.inl a
            · exact Or.inr a
            · exact absurd ⟨a, b⟩ ne
        · rw [h3 _ (fun j2 hj2 q => z (blk_inj (by omega) i4 q).2), t2 j hj]
          constructor
          · rintro (a | ⟨a, b⟩)
            · exact Or.inl a
            · exact Or.inr ⟨Or.inl a, b⟩
          · rintro (a | ⟨a | ⟨a, b, _⟩, c⟩)
            · exact Or.inl a
            · exact Or.inr ⟨a, c⟩
            · exact absurd ⟨a, b⟩ ne
  have loop : ∀ (r j : Nat) (K : zM), j + r = 5 → zSm [hv, e + 7] M K → (∀ c, K.2.1 hv c = M1.2.1 hv c) → (∀ j2 w, j2 < 5 → bt (K.2.1 (e + 7) ((o + j2) * 4096 + i)) w = (bt (M.2.1 (e + 7) ((o + j2) * 4096 + i)) w || (decide (j2 < j ∧ n / 2 ^ (j2 + 1) % 2 = 1) && bt y w))) → (∀ c, (∀ j, j < 5 → c ≠ (o + j) * 4096 + i) → K.2.1 (e + 7) c = M.2.1 (e + 7) c) → X 71 0 0 [.ref e, .int (nI i), .int (nI n), .long y, .int (nI j)] [] K := by
    intro r
    induction r with
    | zero =>
      intro j K hj sK h1 h2 h3
      have hj : j = 5 := by omega
      subst hj
      refine l71 _ _ _ _ _ ⟨rfl, vX2_gain_71 (sK.wd hW) ((hE.sm sK).1) ⟨fun _ => f127 K sK h1 (fun j2 w hj2 => ?_) h3, fun c => absurd (by decide) c⟩⟩
      rw [h2 j2 w hj2]
      congr 2
      simp [hj2]
    | succ r ih =>
      intro j K hj sK h1 h2 h3
      have j5 : j < 5 := by omega
      refine l71 _ _ _ _ _ ⟨rfl, vX2_gain_71 (sK.wd hW) ((hE.sm sK).1) ⟨fun c => absurd ((nI_leI (a := 5) (by decide) (by omega)).mp c) (by omega), fun _ => ⟨fun c => ?_, fun c => ⟨fun z => ?_, fun z => ?_⟩⟩⟩⟩
      · have y0 : y = 0 := lg0.mp c
        refine f127 K sK h1 (fun j2 w hj2 => ?_) h3
        rw [h2 j2 w hj2, y0, bt_0, Bool.and_false, Bool.and_false]
      · rw [bit_of hn j5] at z
        have z : ¬ n / 2 ^ (j + 1) % 2 = 1 := fun q => by rw [q] at z; exact absurd z (by decide)
        refine l121 _ _ _ _ _ ⟨rfl, vX2_gain_121 (sK.wd hW) ((hE.sm sK).1) ?_⟩
        rw [show nI j + (1 : Int32) = nI (j + 1) from nI_add _ 1]
        refine ih (j + 1) K (by omega) sK h1 (fun j2 w hj2 => ?_) h3
        rw [h2 j2 w hj2]
        congr 2
        by_cases q : j2 = j
        · subst q; simp [z]
        · have : (j2 < j) ↔ (j2 < j + 1) := by omega
          simp [this]
      · rw [bit_of hn j5] at z
        have z : n / 2 ^ (j + 1) % 2 = 1 := by
          have : n / 2 ^ (j + 1) % 2 ≠ 0 := fun q => z (by rw [q]; rfl)
          omega
        have hb : (o + j) * 4096 + i < 40960 := by rcases o5 with ⟨_, q⟩ | ⟨_, q⟩ <;> omega
        refine ⟨e + 7, 40960, by rw [sK.1]; exact r10, ((hE.sm sK).2.2.2.1.2.2.2.2.2.2), ?_⟩
        rw [dk j j5, nI_clamp (by omega)]
        refine ⟨vp_in_nI hb (by omega), vp_in_nI hb (by omega), fun K2 e2 => ?_⟩
        have s2 : zSm [hv, e + 7] M K2 := by rw [e2]; exact sK.tr (zSm.J (by simp))
        refine l121 _ _ _ _ _ ⟨rfl, vX2_gain_121 (s2.wd hW) ((hE.sm s2).1) ?_⟩
        rw [show nI j + (1 : Int32) = nI (j + 1) from nI_add _ 1]
        refine ih (j + 1) K2 (by omega) s2 (fun c => ?_) (fun j2 w hj2 => ?_) (fun c hc2 => ?_)
        · rw [e2, zsJ_o hv7.1]; exact h1 c
        · by_cases q : j2 = j
          · subst q
            rw [e2, zsJ_s, bt_or, h2 j2 w hj2]
            simp [z]
          · rw [e2, zsJ_n (fun q2 => q (blk_inj i4 i4 q2).1), h2 j2 w hj2]
            congr 2
            have : (j2 < j) ↔ (j2 < j + 1) := by omega
            simp [this]
        · rw [e2, zsJ_n (hc2 j j5)]; exact h3 c hc2
  have f40 : X 40 0 0 [.ref e, .int (nI i), .long x, .int (nI n), .ref cn] [.ref hv] M := by
    refine l40 _ _ _ _ _ ⟨rfl, vX2_gain_40 hW sh0 shc shv ⟨vi, vi, fun y57 e57 => ⟨vi, vi, fun M67 e67 => ?_⟩⟩⟩
    rw [ci] at e57 e67
    have ey : y57 = y := e57.trans hy.symm
    rw [ey] at e67 ⊢
    have em : M67 = M1 := e67.trans eM1.symm
    rw [em]
    have s1 : zSm [hv, e + 7] M M1 := by rw [eM1]; exact zSm.J (by simp)
    have k7 : M1.2.1 (e + 7) = M.2.1 (e + 7) := by rw [eM1]; exact zsJ_o (fun q => hv7.1 q.symm)
    exact loop 5 0 M1 (by omega) s1 (fun _ => rfl) (fun j2 w hj2 => by rw [k7]; simp) (fun c _ => by rw [k7])
  have f19 : X 19 0 0 [.ref e, .int (nI i), .long x, .int (nI n)] [.ref cn] M := by
    refine l19 _ _ _ _ _ ⟨rfl, vX2_gain_19 hW sh0 shc ?_⟩
    rw [n2]
    rcases o5 with ⟨a, b⟩ | ⟨a, b⟩
    · have : hv = e + 5 := by rw [hhv, if_pos a]
      rw [this] at f40
      exact ⟨fun _ => ⟨e + 5, 4096, r8, sh5, f40⟩, fun c => absurd (e1.mpr (hsm.mp a)) c⟩
    · have : hv = e + 3 := by rw [hhv, if_neg (by rw [a]; decide)]
      rw [this] at f40
      exact ⟨fun c => by rw [hsm.mpr (e1.mp c)] at a; exact absurd a (by decide), fun _ => ⟨e + 3, 4096, r6, sh3, f40⟩⟩
  refine l0 _ _ _ _ _ ⟨rfl, vX2_gain_0 hW sh0 ?_⟩
  rw [n2]
  rcases o5 with ⟨a, b⟩ | ⟨a, b⟩
  · have : cn = e + 4 := by rw [hcn, if_pos a]
    rw [this] at f19
    exact ⟨fun _ => ⟨e + 4, 4096, r7, sh4, f19⟩, fun c => absurd (e1.mpr (hsm.mp a)) c⟩
  · have : cn = e + 2 := by rw [hcn, if_neg (by rw [a]; decide)]
    rw [this] at f19
    exact ⟨fun c => by rw [hsm.mpr (e1.mp c)] at a; exact absurd a (by decide), fun _ => ⟨e + 2, 4096, r5, sh2, f19⟩⟩
