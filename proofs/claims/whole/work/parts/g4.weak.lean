/-! THE CLASS'S ENDINGS: a step of the king alone -/
def hiR (M : zM) (e k : Nat) : Prop := ∀ s p w, s < 64 → p < 64 → w < 64 → (bt (M.2.1 (e + 1) (64 * p + s)) w = true ↔ slv k s p ∧ at5 k s p w)
def fR (M : zM) (e k d : Nat) : Prop := ∀ s p w, s < 64 → p < 64 → w < 64 → (bt (M.2.1 (e + 6) (64 * p + s)) w = true ↔ isD k s p w false d)
theorem kR.next {M : zM} {e k n : Nat} {sm : Bool} {T : Nat → Nat → Nat → Prop} (h : kR M e k n sm T) (hT : ∀ s p w, s < 64 → p < 64 → w < 64 → (T s p w ↔ isD k s p w sm n)) : kR M e k (n + 1) sm noT := fun s p w hs hp hw => by
  obtain ⟨a, b⟩ := h s p w hs hp hw
  have t := hT s p w hs hp hw
  refine ⟨?_, fun j hj => ?_⟩
  · rw [a, t]
    constructor
    · rintro (⟨d, x, y⟩ | y)
      · exact Or.inl ⟨d, by omega, y⟩
      · exact Or.inl ⟨n, by omega, y⟩
    · rintro (⟨d, x, y⟩ | y)
      · by_cases z : d = n
        · rw [z] at y; exact Or.inr y
        · exact Or.inl ⟨d, by omega, y⟩
      · exact absurd y id
  · rw [b j hj, t]
    constructor
    · rintro (⟨d, x, y⟩ | y)
      · exact Or.inl ⟨d, by omega, y⟩
      · exact Or.inl ⟨n, by omega, y⟩
    · rintro (⟨d, x, y⟩ | y)
      · by_cases z : d = n
        · rw [z] at y; exact Or.inr y
        · exact Or.inl ⟨d, by omega, y⟩
      · exact absurd y.1 id
theorem kR.congr {M : zM} {e k n : Nat} {sm : Bool} {T T2 : Nat → Nat → Nat → Prop} (h : kR M e k n sm T) (hT : ∀ s p w, s < 64 → p < 64 → w < 64 → (T s p w ↔ T2 s p w)) : kR M e k n sm T2 := fun s p w hs hp hw => by
  obtain ⟨a, b⟩ := h s p w hs hp hw
  rw [← hT s p w hs hp hw]
  exact ⟨a, b⟩
theorem kR.of {M K : zM} {e k n : Nat} {sm : Bool} {T : Nat → Nat → Nat → Prop} (h : kR M e k n sm T) (h1 : K.2.1 (e + (if sm = true then 5 else 3)) = M.2.1 (e + (if sm = true then 5 else 3))) (h2 : ∀ i, (if sm = true then 20480 ≤ i else i < 20480) → K.2.1 (e + 7) i = M.2.1 (e + 7) i) : kR K e k n sm T := fun s p w hs hp hw => by
  obtain ⟨a, b⟩ := h s p w hs hp hw
  rw [h1]
  refine ⟨a, fun j hj => ?_⟩
  have q : if sm = true then 20480 ≤ ((if sm = true then 5 else 0) + j) * 4096 + (64 * p + s) else ((if sm = true then 5 else 0) + j) * 4096 + (64 * p + s) < 20480 := by
    cases sm
    · rw [if_neg (by decide), if_neg (by decide)]; omega
    · rw [if_pos rfl, if_pos rfl]; omega
  rw [h2 _ q]
  exact b j hj
theorem kR.par {M : zM} {e k n : Nat} {sm : Bool} (hsm : sm = true ↔ n % 2 = 1) (h : kR M e k n (!sm) noT) : kR M e k (n + 1) (!sm) noT := h.next (fun s p w _ _ _ => ⟨fun q => absurd q id, fun q => by
  have := bool_iff (isD_par q) hsm
  cases sm <;> exact absurd this (by decide)⟩)
theorem wmv_wkM {k s p w t : Nat} : (∃ m, wkM k s p w m t) ↔ wmv k s p t := by
  constructor
  · rintro ⟨m, ⟨a, b, _⟩ | ⟨a, _⟩⟩
    · exact Or.inl ⟨a, b⟩
    · exact Or.inr a
  · rintro (⟨a, b⟩ | a)
    · exact ⟨_, Or.inl ⟨a, b, rfl⟩⟩
    · exact ⟨_, Or.inr ⟨a, rfl⟩⟩
theorem isD_Wc {k s p w n : Nat} (hno : ¬ ∃ d, d < 2 * n ∧ isD k s p w false d) : isD k s p w false (2 * n) ↔ Wc k (Ok k) n s p w := by
  have hnW : ∀ j, j < n → ¬ Wc k (Ok k) j s p w := fun j hj q => by
    obtain ⟨d, a, b⟩ := Wc_isD.mp q
    exact hno ⟨d, by omega, b⟩
  rw [isD_f]
  exact ⟨fun ⟨n2, a, b, _⟩ => by rw [show n = n2 by omega]; exact b, fun h => ⟨n, rfl, h, hnW⟩⟩
theorem isD_opW {k s p w n : Nat} (k1 : 1 ≤ k) (hs : s < 64) (hp : p < 64) (hw : w < 64) (h : isD k s p w false (2 * (n + 1))) : opW k s p w := by
  have hP := isD_pos h
  have hno : ¬ ∃ d, d < 2 * (n + 1) ∧ isD k s p w false d := fun ⟨d, a, b⟩ => by have := isD_uniq b h; omega
  have hW := (isD_Wc hno).mp h
  have hn : ¬ Wc k (Ok k) n s p w := fun q => by
    obtain ⟨d, a, b⟩ := Wc_isD.mp q
    exact hno ⟨d, by omega, b⟩
  obtain ⟨⟨m, t, ht, hk, hm⟩, -⟩ := (rd_W k1 hs hp hw hP hn).mp hW
  exact ⟨hP, t, ht, hk, wmv_wkM.mp ⟨m, hm⟩⟩
theorem wk_step {k s p w n : Nat} (k1 : 1 ≤ k) (k2 : k ≠ 2) (hs : s < 64) (hp : p < 64) (hw : w < 64) (hO : opW k s p w) (hno : ¬ ∃ d, d < 2 * (n + 1) ∧ isD k s p w false d) : isD k s p w false (2 * (n + 1)) ↔ ∀ t, t < 64 → kiG w t → (slv k s p ∧ at5 k s p t) ∨ kiG s t ∨ ∃ d, d < 2 * (n + 1) ∧ isD k s p t true d := by
  have hn : ¬ Wc k (Ok k) n s p w := fun q => by
    obtain ⟨d, a, b⟩ := Wc_isD.mp q
    exact hno ⟨d, by omega, b⟩
  rw [isD_Wc hno, rd_W k1 hs hp hw hO.1 hn]
  constructor
  · rintro ⟨-, hall⟩ t ht hk
    by_cases hm : wmv k s p t
    · rcases hm with ⟨a, b⟩ | a
      · exact absurd rfl (hall _ t ht hk (Or.inl ⟨a, b, rfl⟩)).1
      · exact Or.inr (Or.inr (hall _ t ht hk (Or.inr ⟨a, rfl⟩)).2)
    · have : ¬ (¬ at5 k s p t ∧ ¬ kiG s t) := fun q => hm ((mov_iff k2 hO.1 hk).mp q)
      by_cases a : at5 k s p t
      · exact Or.inl ⟨pos5_slv hO.1, a⟩
      · by_cases b : kiG s t
        · exact Or.inr (Or.inl b)
        · exact absurd ⟨a, b⟩ this
  · intro H
    obtain ⟨-, t, ht, hk, hm⟩ := hO
    obtain ⟨m, hm2⟩ := wmv_wkM.mpr hm
    refine ⟨⟨m, t, ht, hk, hm2⟩, fun m t ht hk hm => ?_⟩
    rcases hm with ⟨a, b, em⟩ | ⟨a, em⟩
    · exfalso
      rcases H t ht hk with q | q | ⟨d, _, q⟩
      · rw [a] at q; exact at5_self k2 q.2
      · exact b q
      · have := (isD_pos q).2.2.1
        exact this a.symm
    · subst em
      rcases H t ht hk with q | q | q
      · exact absurd q.2 (a.2.2.2.2.2 rfl)
      · exact absurd q a.2.2.2.1
      · exact ⟨by show k ≠ 0; omega, q⟩
theorem bI_orB (a b : Bool) : bI a ||| bI b = bI (a || b) := by cases a <;> cases b <;> decide
theorem lg_bI {x : Int64} {R : Prop} {a b : Bool} (hb : b = true ↔ ∃ w, w < 64 ∧ bt x w = true) (h0 : lg_cmp x 0 = 0 → a = false → R) (h1 : ¬ lg_cmp x 0 = 0 → a = true → R) (ha : a = b) : R := by
  by_cases z : lg_cmp x 0 = 0
  · refine h0 z ?_
    rw [ha]
    cases hbb : b
    · rfl
    · have := bt_ne.mpr (hb.mp hbb)
      exact absurd (lg0.mp z) this
  · refine h1 z ?_
    rw [ha]
    exact hb.mpr (bt_ne.mp (fun q => z (lg0.mpr q)))
set_option maxHeartbeats 2000000 in
theorem c_stepWeak {mc ms : Nat} {M : zM} {g : Nat} (hW : zWd M g) (hC : cOk M) {e k n : Nat} (k1 : 1 ≤ k) (k2 : k ≠ 2) (hE : eSh M e) (hn : 2 * (n + 1) < 64) (hH : hiR M e k) (hc : canR M e k false) (hS : kR M e k (2 * (n + 1)) true noT) (hV : kR M e k (2 * (n + 1)) false noT) {Q : zQt} (hq : ∀ K b, zSm [e + 3, e + 6, e + 7] M K → kR K e k (2 * (n + 1) + 1) true noT → kR K e k (2 * (n + 1) + 1) false noT → fR K e k (2 * (n + 1)) → (b = true ↔ ∃ s p w, s < 64 ∧ p < 64 ∧ w < 64 ∧ isD k s p w false (2 * (n + 1))) → Q (some (.int (bI b))) K) : wX2_stepWeak mc ms [.ref e, .int (nI (2 * (n + 1)))] M Q := by
  refine ⟨⟨Nat.le_of_ble_eq_true rfl, rfl⟩, fun X l0 l4 l110 l112 => ?_⟩
  obtain ⟨N, hN⟩ : ∃ N, N = 2 * (n + 1) := ⟨_, rfl⟩
  have hsm : (false = true) ↔ N % 2 = 1 := ⟨fun q => absurd q (by decide), fun q => by omega⟩
  rw [← hN] at hS hV hq ⊢
  have e82 := hE.2.2.2.2
  have loop : ∀ (r c : Nat) (K : zM) (b : Bool), c + r = 4096 → zSm [e + 3, e + 6, e + 7] M K → (∀ i, 20480 ≤ i → K.2.1 (e + 7) i = M.2.1 (e + 7) i) → kR K e k N false (fun s p w => 64 * p + s < c ∧ isD k s p w false N) → (∀ s p w, s < 64 → p < 64 → w < 64 → 64 * p + s < c → (bt (K.2.1 (e + 6) (64 * p + s)) w = true ↔ isD k s p w false N)) → (b = true ↔ ∃ s p w, s < 64 ∧ p < 64 ∧ w < 64 ∧ 64 * p + s < c ∧ isD k s p w false N) → X 4 0 0 [.ref e, .int (nI N), .int (bI b), .int (nI c)] [] K := by
    intro r
    induction r with
    | zero =>
      intro c K b hcr sK hi hV hf hb
      have hcr : c = 4096 := by omega
      subst hcr
      have WK := sK.wd hW
      refine l4 _ _ _ _ _ ⟨rfl, vX2_stepWeak_4 WK ((hE.sm sK).1) ⟨fun _ => ⟨by cases b <;> rfl, hq K b sK ?_ ?_ ?_ ?_⟩, fun c => absurd (by decide) c⟩⟩
      · refine kR.par (sm := false) hsm ?_
        exact hS.of (by rw [if_pos rfl]; exact sK.j (by simp)) (fun i q => hi i (by rw [if_pos rfl] at q; exact q))
      · exact hV.next (fun s p w hs hp hw => ⟨fun q => q.2, fun q => ⟨by omega, q⟩⟩)
      · exact fun s p w hs hp hw => hf s p w hs hp hw (by omega)
      · rw [hb]
        exact ⟨fun ⟨s, p, w, a1, a2, a3, _, a5⟩ => ⟨s, p, w, a1, a2, a3, a5⟩, fun ⟨s, p, w, a1, a2, a3, a5⟩ => ⟨s, p, w, a1, a2, a3, by omega, a5⟩⟩
    | succ r ih =>
      intro c K b hcr sK hi hV hf hb
      obtain ⟨p, s, hp, hs, ec⟩ : ∃ p s, p < 64 ∧ s < 64 ∧ c = 64 * p + s := ⟨c / 64, c % 64, by omega, by omega, by omega⟩
      have c4 : c < 4096 := by omega
      have vc : vp_in (nI c) 4096 := vp_in_nI c4 (by omega)
      have cc : (nI c).toNatClampNeg = c := nI_clamp (by omega)
      have WK := sK.wd hW
      have EK := hE.sm sK
      -- the next slot
      have nxt : ∀ (K2 : zM) (b2 : Bool), zSm [e + 3, e + 6, e + 7] M K2 → (∀ i, 20480 ≤ i → K2.2.1 (e + 7) i = M.2.1 (e + 7) i) → kR K2 e k N false (fun s p w => 64 * p + s < c + 1 ∧ isD k s p w false N) → (∀ i, i ≠ c → K2.2.1 (e + 6) i = K.2.1 (e + 6) i) → (∀ w, w < 64 → (bt (K2.2.1 (e + 6) c) w = true ↔ isD k s p w false N)) → (b2 = true ↔ b = true ∨ ∃ w, w < 64 ∧ isD k s p w false N) → X 112 0 0 [.ref e, .int (nI N), .int (bI b2), .int (nI c)] [] K2 := by
        intro K2 b2 s2 i2 v2 f2 f3 h2
        refine l112 _ _ _ _ _ ⟨rfl, vX2_stepWeak_112 (s2.wd hW) ((hE.sm s2).1) ?_⟩
        rw [show nI c + (1 : Int32) = nI (c + 1) from nI_add _ 1]
        refine ih (c + 1) K2 b2 (by omega) s2 i2 v2 (fun s3 p3 w hs3 hp3 hw hl => ?_) ?_
        · by_cases z : 64 * p3 + s3 = c
          · obtain ⟨z1, z2⟩ := slot_inj hs3 hs (z.trans ec)
            subst z1; subst z2
            rw [z]; exact f3 w hw
          · rw [f2 _ z]; exact hf s3 p3 w hs3 hp3 hw (by omega)
        · rw [h2, hb]
          constructor
          · rintro (⟨s3, p3, w, a1, a2, a3, a4, a5⟩ | ⟨w, hw, a5⟩)
            · exact ⟨s3, p3, w, a1, a2, a3, by omega, a5⟩
            · exact ⟨s, p, w, hs, hp, hw, by omega, a5⟩
          · rintro ⟨s3, p3, w, a1, a2, a3, a4, a5⟩
            by_cases z : 64 * p3 + s3 = c
            · obtain ⟨z1, z2⟩ := slot_inj a1 hs (z.trans ec)
              subst z1; subst z2
              exact Or.inr ⟨w, a3, a5⟩
            · exact Or.inl ⟨s3, p3, w, a1, a2, a3, by omega, a5⟩
      obtain ⟨sh0, rc, ⟨r4, r5, r6, r7, r8, r9, r10⟩, ⟨sh1, sh2, sh3, sh4, sh5, sh6, sh7⟩, -⟩ := id EK
      refine l4 _ _ _ _ _ ⟨rfl, vX2_stepWeak_4 WK sh0 ⟨fun z => absurd ((nI_leI (a := 4096) (by decide) (by omega)).mp z) (by omega), fun _ => ⟨e + 6, 4096, r9, sh6, vc, fun M1 e1 => ?_⟩⟩⟩
      rw [cc] at e1
      have s1 : zSm [e + 6] K M1 := by rw [e1]; exact zSm.J (by simp)
      have sM1 : zSm [e + 3, e + 6, e + 7] M M1 := sK.tr (s1.mono (by simp))
      have rf1 : M1.2.2 = K.2.2 := s1.1
      have W1 := s1.wd WK
      have E1 := EK.sm s1
      have j1 : ∀ c2, c2 ≠ e + 6 → M1.2.1 c2 = K.2.1 c2 := fun c2 h => s1.j (by simpa using h)
      have opn1 : ∀ w, w < 64 → (bt (M1.2.1 (e + 2) c) w = true ↔ opW k s p w) := fun w hw => by
        rw [j1 _ (by omega), sK.j (by simp), ec]
        have := hc s p w hs hp hw
        rw [if_neg (by decide)] at this
        exact this
      have V1 : kR M1 e k N false (fun s p w => 64 * p + s < c ∧ isD k s p w false N) := hV.of (by rw [if_neg (by decide)]; exact j1 _ (by omega)) (fun i _ => by rw [j1 _ (by omega)])
      have wk1 : ∀ w, w < 64 → (bt (M1.2.1 (e + 3) c) w = true ↔ ∃ d, d < N ∧ isD k s p w false d) := fun w hw => by
        have := (V1 s p w hs hp hw).1
        rw [if_neg (by decide), ← ec] at this
        rw [this]
        exact ⟨fun q => q.elim id (fun q => absurd q.1 (by omega)), fun q => Or.inl q⟩
      have q1 : ∀ {j : Nat} {x : Option Nat}, K.2.2.1 e j = x → M1.2.2.1 e j = x := fun h => by rw [rf1]; exact h
      have q2 : ∀ {c : Nat} {x : Nat × Nat}, zsh K c = some x → zsh M1 c = some x := fun h => by unfold zsh at h ⊢; rw [rf1]; exact h
      have hopn : ∀ w, w < 64 → isD k s p w false N → opW k s p w ∧ ¬ ∃ d, d < N ∧ isD k s p w false d := fun w hw h => ⟨isD_opW k1 hs hp hw (by rw [← hN]; exact h), fun ⟨d, a, b⟩ => by have := isD_uniq b h; omega⟩
      refine ⟨e + 2, 4096, q1 r5, q2 sh2, vc, e + 3, 4096, q1 r6, q2 sh3, vc, ?_⟩
      rw [cc]
      refine ⟨fun z => ?_, fun z => ?_⟩
      · have none : ∀ w, w < 64 → ¬ isD k s p w false N := fun w hw h => by
          obtain ⟨a, b⟩ := hopn w hw h
          have : bt (M1.2.1 (e + 2) c &&& (M1.2.1 (e + 3) c ^^^ (-1))) w = true := by
            rw [bt_and, bt_not _ hw, Bool.and_eq_true, opn1 w hw, Bool.not_eq_true', ← Bool.not_eq_true, wk1 w hw]
            exact ⟨a, b⟩
          exact bt_ne.mpr ⟨w, hw, this⟩ (lg0.mp z)
        refine nxt M1 b sM1 (fun i h => by rw [j1 _ (by omega)]; exact hi i h) (V1.congr (fun s3 p3 w hs3 hp3 hw => ⟨fun q => ⟨by omega, q.2⟩, fun q => ⟨?_, q.2⟩⟩)) (fun i h => by rw [e1, zsJ_n h]) (fun w hw => ?_) ⟨fun q => Or.inl q, fun q => q.elim id (fun ⟨w, hw, q⟩ => absurd q (none w hw))⟩
        · have : 64 * p3 + s3 ≠ c := fun z => by
            obtain ⟨z1, z2⟩ := slot_inj hs3 hs (z.trans ec)
            subst z1; subst z2
            exact none w hw q.2
          omega
        · rw [e1, zsJ_s, bt_0]
          exact ⟨fun q => absurd q (by decide), fun q => absurd q (none w hw)⟩
      · refine ⟨e + 1, 4096, q1 r4, q2 sh1, vc, 17, q1 rc, q2 (fxs_17 WK.1), 19, 64, by rw [rf1]; exact fxr_17_1 WK.1, q2 (fxs_19 WK.1), ?_⟩
        rw [show nI c - nI c / (64 : Int32) * (64 : Int32) = nI s from (pk_rem (d := 64) (by omega) (by decide) (by decide)).trans (by rw [show c % 64 = s by omega])]
        refine ⟨vp_in_nI hs (by omega), e + 5, 4096, q1 r8, q2 sh5, vc, fun y ey => ⟨e + 6, 4096, q1 r9, q2 sh6, ?_⟩⟩
        rw [nI_clamp (by omega)] at ey
        have safe : ∀ t, t < 64 → (bt y t = true ↔ ¬ ((slv k s p ∧ at5 k s p t) ∨ kiG s t ∨ ∃ d, d < N ∧ isD k s p t true d)) := fun t ht => by
          have a1 : bt (M1.2.1 (e + 1) c) t = true ↔ slv k s p ∧ at5 k s p t := by
            rw [j1 _ (by omega), sK.j (by simp), ec]; exact hH s p t hs hp ht
          have a2 : bt (M1.2.1 19 s) t = true ↔ kiG s t := by
            rw [j1 _ (by omega), sK.j (by simp; omega)]; exact hC.2.2.1 s t hs ht
          have a3 : bt (M1.2.1 (e + 5) c) t = true ↔ ∃ d, d < N ∧ isD k s p t true d := by
            rw [j1 _ (by omega), sK.j (by simp), ec]
            have := (hS s p t hs hp ht).1
            rw [if_pos rfl] at this
            rw [this]
            exact ⟨fun q => q.elim id (fun q => absurd q id), fun q => Or.inl q⟩
          rw [ey, bt_not _ ht, bt_or, bt_or, Bool.not_eq_true', ← Bool.not_eq_true, Bool.or_eq_true, Bool.or_eq_true, a1, a2, a3, or_assoc]
        refine c_spread W1 y (fun r3 hr3 => ?_)
        refine vkX2_stepWeak_84 W1 E1.1 E1.1 (q2 sh6) ?_
        rw [ec]
        have cg : canR M1 e k false := fun s3 p3 w hs3 hp3 hw => by
          rw [if_neg (by decide), j1 _ (by omega), sK.j (by simp)]
          have := hc s3 p3 w hs3 hp3 hw
          rw [if_neg (by decide)] at this
          exact this
        refine c_gain W1 E1 (sm := false) (by omega) hsm cg V1 hs hp _ (fun K2 r4 s2 i2 v2 g2 => ?_)
        rw [if_neg (by decide)] at s2
        rw [← ec]
        have gn : ∀ w, w < 64 → (bt (r3 ^^^ (-1)) w = true ∧ canS k false s p w ∧ (¬ ∃ d, d < N ∧ isD k s p w false d) ↔ isD k s p w false N) := fun w hw => by
          have cs : canS k false s p w ↔ opW k s p w := by unfold canS; rw [if_neg (by decide)]
          rw [cs, bt_not _ hw, Bool.not_eq_true', ← Bool.not_eq_true, hr3 w hw]
          constructor
          · rintro ⟨a, b, c⟩
            rw [hN] at c ⊢
            rw [wk_step k1 k2 hs hp hw b c]
            intro t ht hk
            rw [← hN]
            by_cases q : bt y t = true
            · exact absurd ⟨t, ht, hk, q⟩ a
            · exact Classical.byContradiction (fun h => q ((safe t ht).mpr h))
          · intro h
            obtain ⟨a, b⟩ := hopn w hw h
            refine ⟨?_, a, b⟩
            rintro ⟨t, ht, hk, q⟩
            rw [hN] at h b
            have := (wk_step k1 k2 hs hp hw a b).mp h t ht hk
            rw [← hN] at this
            exact (safe t ht).mp q this
        have gr : ∀ w, w < 64 → (bt r4 w = true ↔ isD k s p w false N) := fun w hw => by
          rw [g2 w hw, ← gn w hw]
          exact ⟨fun ⟨a, b, c, _⟩ => ⟨a, b, c⟩, fun ⟨a, b, c⟩ => ⟨a, b, c, fun q => absurd q.1 (by omega)⟩⟩
        have sh62 : zsh K2 (e + 6) = some (2, 4096) := by unfold zsh; rw [s2.1]; exact E1.2.2.2.1.2.2.2.2.2.1
        refine vkX2_stepWeak_92 (s2.wd W1) ((E1.sm s2).1) sh62 ⟨vc, fun K3 e3 => ?_⟩
        rw [cc] at e3
        have s3 : zSm [e + 6] K2 K3 := by rw [e3]; exact zSm.J (by simp)
        have sM3 : zSm [e + 3, e + 6, e + 7] M K3 := sM1.tr ((s2.mono (by simp)).tr (s3.mono (by simp)))
        have E3 := (E1.sm s2).sm s3
        have v6 : K3.2.1 (e + 6) c = r4 := by rw [e3]; exact zsJ_s
        have V3 : kR K3 e k N false (fun s p w => 64 * p + s < c + 1 ∧ isD k s p w false N) := by
          have v3 : kR K3 e k N false _ := v2.of (K := K3) (by rw [if_neg (by decide)]; exact s3.j (by simp)) (fun i _ => by rw [s3.j (by simp)])
          refine v3.congr (fun s4 p4 w hs4 hp4 hw => ?_)
          unfold gT
          constructor
          · rintro (⟨a, b⟩ | ⟨a, b, c, d⟩)
            · exact ⟨by omega, b⟩
            · subst a; subst b
              exact ⟨by omega, (gn w hw).mp ⟨c, d⟩⟩
          · rintro ⟨a, b⟩
            by_cases z : 64 * p4 + s4 = c
            · obtain ⟨z1, z2⟩ := slot_inj hs4 hs (z.trans ec)
              subst z1; subst z2
              obtain ⟨c1, c2⟩ := (gn w hw).mpr b
              exact Or.inr ⟨rfl, rfl, c1, c2⟩
            · exact Or.inl ⟨by omega, b⟩
        have fin : ∀ b2 : Bool, (b2 = true ↔ ∃ w, w < 64 ∧ isD k s p w false N) → X 110 0 0 [.ref e, .int (nI N), .int (nI c)] [.int (bI b2), .int (bI b)] K3 := fun b2 hb2 => by
          refine l110 _ _ _ _ _ ⟨rfl, vX2_stepWeak_110 (sM3.wd hW) E3.1 ?_⟩
          rw [bI_orB]
          refine nxt K3 (b || b2) sM3 (fun i h => ?_) V3 (fun i h => ?_) (fun w hw => by rw [v6]; exact gr w hw) (by rw [Bool.or_eq_true, hb2])
          · rw [s3.j (by simp), i2 i (by rw [if_neg (by decide)]; exact h), j1 _ (by omega)]; exact hi i h
          · rw [e3, zsJ_n h, s2.j (by simp), e1, zsJ_n h]
        refine ⟨e + 6, 4096, E3.2.2.1.2.2.2.2.2.1, E3.2.2.2.1.2.2.2.2.2.1, vc, ?_⟩
        rw [cc, v6]
        refine ⟨fun z => fin false ⟨fun q => absurd q (by decide), fun ⟨w, hw, q⟩ => ?_⟩, fun z => fin true ⟨fun _ => ?_, fun _ => rfl⟩⟩
        · exact absurd (lg0.mp z) (bt_ne.mpr ⟨w, hw, (gr w hw).mpr q⟩)
        · obtain ⟨w, hw, q⟩ := bt_ne.mp (fun q => z (lg0.mpr q))
          exact ⟨w, hw, (gr w hw).mp q⟩
  refine l0 _ _ _ _ _ ⟨rfl, vX2_stepWeak_0 hW hE.1 (loop 4096 0 M false (by omega) zSm.rf (fun _ _ => rfl) (hV.congr (fun s p w _ _ _ => ⟨fun q => absurd q id, fun q => absurd q.1 (by omega)⟩)) (fun s p w _ _ _ h => absurd h (by omega)) ⟨fun q => absurd q (by decide), fun ⟨s, p, w, _, _, _, h, _⟩ => absurd h (by omega)⟩)⟩
