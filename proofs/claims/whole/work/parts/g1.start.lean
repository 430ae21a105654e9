/-! THE CLASS'S ENDINGS: a slot's rows at the start -/
def slv (k s p : Nat) : Prop := s ≠ p ∧ (k = 1 → p / 8 ≠ 0 ∧ p / 8 ≠ 7)
/-- the king alone has a move -/
def opW (k s p w : Nat) : Prop := pos5 k s p w false ∧ ∃ t, t < 64 ∧ kiG w t ∧ wmv k s p t
theorem dF_self (p : Nat) : dF p p = 0 ∧ dR p p = 0 := by unfold dF dR; constructor <;> omega
theorem at5_self {k s p : Nat} (k2 : k ≠ 2) : ¬ at5 k s p p := by
  unfold at5
  by_cases k1 : k = 1
  · rw [if_pos k1, (dF_self p).1]; exact fun q => absurd q.1 (by decide)
  · rw [if_neg k1, if_neg k2]; exact fun q => q.1 rfl
theorem pos5_slv {k s p w : Nat} {sm : Bool} (h : pos5 k s p w sm) : slv k s p := ⟨h.1, h.2.2.2.2.1⟩
theorem mov_iff {k s p w t : Nat} (k2 : k ≠ 2) (hP : pos5 k s p w false) (hk : kiG w t) : (¬ at5 k s p t ∧ ¬ kiG s t) ↔ wmv k s p t := by
  have st : s ≠ t := fun q => hP.2.2.2.1 (kiG_sym.mp (by rw [q]; exact hk))
  constructor
  · rintro ⟨a, b⟩
    by_cases e : t = p
    · exact Or.inl ⟨e, b⟩
    · exact Or.inr ⟨hP.1, st, fun q => e q.symm, b, hP.2.2.2.2.1, fun _ => a⟩
  · rintro (⟨a, b⟩ | h)
    · exact ⟨by rw [a]; exact at5_self k2, b⟩
    · exact ⟨h.2.2.2.2.2 rfl, h.2.2.2.1⟩
/-- a slot's rows at the start -/
def sR (M : zM) (e k s p : Nat) : Prop := ∀ w, w < 64 → (bt (M.2.1 (e + 1) (64 * p + s)) w = true ↔ slv k s p ∧ at5 k s p w) ∧ (bt (M.2.1 (e + 2) (64 * p + s)) w = true ↔ opW k s p w) ∧ (bt (M.2.1 (e + 3) (64 * p + s)) w = true ↔ mate5 k s p w) ∧ (bt (M.2.1 (e + 4) (64 * p + s)) w = true ↔ pos5 k s p w true) ∧ (bt (M.2.1 (e + 6) (64 * p + s)) w = true ↔ mate5 k s p w)
def s0R (M : zM) (e i : Nat) : Prop := M.2.1 (e + 1) i = 0 ∧ M.2.1 (e + 2) i = 0 ∧ M.2.1 (e + 3) i = 0 ∧ M.2.1 (e + 4) i = 0 ∧ M.2.1 (e + 6) i = 0
theorem cOk.e {M N : zM} {e : Nat} {L : List Nat} (hC : cOk M) (s : zSm L M N) (he : 82 ≤ e) (hL : ∀ b ∈ L, e ≤ b) : cOk N := cOk.sm s (fun b _ h2 q => by have := hL b q; omega) hC
set_option maxHeartbeats 2000000 in
theorem c_start {mc ms : Nat} {M : zM} {g : Nat} (hW : zWd M g) (hC : cOk M) {e k : Nat} (hE : eSh M e) (hk : M.1 e 1 = nI k) (kk : k = 1 ∨ k = 4 ∨ k = 5) {s p : Nat} (hs : s < 64) (hp : p < 64) (h0 : s0R M e (64 * p + s)) {Q : zQt} (hq : ∀ K, zSm [e + 1, e + 2, e + 3, e + 4, e + 6] M K → (∀ c i, i ≠ 64 * p + s → K.2.1 c i = M.2.1 c i) → sR K e k s p → Q none K) : wX2_start mc ms [.ref e, .int (nI (64 * p + s))] M Q := by
  refine ⟨⟨Nat.le_of_ble_eq_true rfl, rfl⟩, fun X l0 l35 l36 => l0 _ _ _ _ _ ⟨rfl, vX2_start_0 hW hE.1 (fun y9 e9 => ?_)⟩⟩
  have k2 : k ≠ 2 := by omega
  obtain ⟨i, ei⟩ : ∃ i, i = 64 * p + s := ⟨_, rfl⟩
  have i4 : i < 4096 := by omega
  rw [← ei] at e9 h0 hq ⊢
  rw [show nI i - nI i / (64 : Int32) * (64 : Int32) = nI s from (pk_rem (d := 64) (by omega) (by decide) (by decide)).trans (by rw [show i % 64 = s by omega])] at e9
  rw [e9, show nI i / (64 : Int32) = nI p from (pk_div (d := 64) (by omega) (by decide) (by decide)).trans (by rw [show i / 64 = p by omega])]
  have kI : M.1 e 1 = (1 : Int32) ↔ k = 1 := by rw [hk]; exact nI_eq (b := 1) (by omega) (by decide)
  have f35 : ¬ slv k s p → X 35 0 0 [] [] M := fun n => by
    refine l35 _ _ _ _ _ ⟨rfl, vX2_start_35 hW (hq M zSm.rf (fun _ _ _ => rfl) (fun w hw => ?_))⟩
    rw [← ei, h0.1, h0.2.1, h0.2.2.1, h0.2.2.2.1, h0.2.2.2.2, bt_0]
    have np : ∀ sm, ¬ pos5 k s p w sm := fun sm q => n (pos5_slv q)
    exact ⟨⟨fun q => absurd q (by decide), fun q => absurd q.1 n⟩, ⟨fun q => absurd q (by decide), fun q => absurd q.1 (np _)⟩, ⟨fun q => absurd q (by decide), fun q => absurd q.1 (np _)⟩, ⟨fun q => absurd q (by decide), fun q => absurd q (np _)⟩, ⟨fun q => absurd q (by decide), fun q => absurd q.1 (np _)⟩⟩
  have f36 : slv k s p → X 36 0 0 [.ref e, .int (nI i), .int (nI p), .int (nI s)] [] M := fun hv => by
    have vi : vp_in (nI i) 4096 := vp_in_nI i4 (by omega)
    have vs : vp_in (nI s) 64 := vp_in_nI hs (by omega)
    have ci : (nI i).toNatClampNeg = i := nI_clamp (by omega)
    have cs : (nI s).toNatClampNeg = s := nI_clamp (by omega)
    obtain ⟨sh0, rc, ⟨r4, r5, r6, r7, r8, r9, r10⟩, ⟨sh1, sh2, sh3, sh4, sh5, sh6, sh7⟩, e82⟩ := id hE
    refine l36 _ _ _ _ _ ⟨rfl, vX2_start_36 hW hE.1 ⟨e + 1, 4096, r4, sh1, ?_⟩⟩
    refine c_hitsOf hW hC hE hk kk hs hp (fun r hr => ?_)
    refine vkX2_start_49 hW hE.1 sh1 ⟨vi, fun M1 e1 => ?_⟩
    rw [ci] at e1
    have W1 : zWd M1 g := by rw [e1]; exact hW
    have kg : M1.2.1 19 = M.2.1 19 := by rw [e1]; exact zsJ_o (by omega)
    have rf1 : M1.2.2 = M.2.2 := by rw [e1]; rfl
    refine ⟨17, by rw [rf1]; exact rc, by unfold zsh; rw [rf1]; exact fxs_17 hW.1, 19, 64, by rw [rf1]; exact fxr_17_1 hW.1, by unfold zsh; rw [rf1]; exact fxs_19 hW.1, vs, fun y71 e71 => ?_⟩
    refine ⟨e + 1, 4096, by rw [rf1]; exact r4, by unfold zsh; rw [rf1]; exact sh1, vi, 17, by rw [rf1]; exact rc, by unfold zsh; rw [rf1]; exact fxs_17 hW.1, 19, 64, by rw [rf1]; exact fxr_17_1 hW.1, by unfold zsh; rw [rf1]; exact fxs_19 hW.1, vs, ?_⟩
    rw [ci, cs]
    rw [cs] at e71
    have h1 : M1.2.1 (e + 1) i = r := by rw [e1]; exact zsJ_s
    rw [h1, kg]
    have hking : ∀ t, t < 64 → (bt (M.2.1 19 s) t = true ↔ kiG s t) := fun t ht => hC.2.2.1 s t hs ht
    have leg : ∀ w, w < 64 → (bt y71 w = true ↔ pos5 k s p w false) := fun w hw => by
      rw [e71, bt_not _ hw, bt_or, bt_or, bt_one hs, bt_one hp, kg]
      have hkw := hking w hw
      cases hb : bt (M.2.1 19 s) w
      · have nk : ¬ kiG s w := fun q => by rw [hb] at hkw; exact absurd (hkw.mpr q) (by decide)
        simp only [Bool.false_or]
        constructor
        · intro h
          simp at h
          exact ⟨hv.1, h.1, h.2, nk, hv.2, fun q => absurd q (by decide)⟩
        · intro h
          simp [h.2.1, h.2.2.1]
      · have yk : kiG s w := hkw.mp hb
        simp only [Bool.true_or, Bool.not_true]
        exact ⟨fun h => absurd h (by decide), fun h => absurd yk h.2.2.2.1⟩
    refine c_spread W1 _ (fun r2 hr2 => ?_)
    have mv : ∀ w, w < 64 → pos5 k s p w false → (bt r2 w = true ↔ ∃ t, t < 64 ∧ kiG w t ∧ wmv k s p t) := fun w hw hP => by
      rw [hr2 w hw]
      refine exists_congr (fun t => and_congr_right (fun ht => and_congr_right (fun hkt => ?_)))
      rw [bt_not _ ht, bt_or, ← mov_iff k2 hP hkt, Bool.not_eq_true', Bool.or_eq_false_iff]
      have a := hr t ht
      have b := hking t ht
      rw [← a, ← b, Bool.not_eq_true, Bool.not_eq_true]
    have sh1' : ∀ {N : zM}, N.2.2 = M.2.2 → zsh N e = some (0, 2) := fun h => by unfold zsh; rw [h]; exact sh0
    have sq : ∀ {N : zM} {c : Nat} {x : Nat × Nat}, N.2.2 = M.2.2 → zsh M c = some x → zsh N c = some x := fun h q => by unfold zsh at q ⊢; rw [h]; exact q
    have rq : ∀ {N : zM} {j : Nat} {x : Option Nat}, N.2.2 = M.2.2 → M.2.2.1 e j = x → N.2.2.1 e j = x := fun h q => by rw [h]; exact q
    refine vkX2_start_96 W1 (sh1' rf1) ⟨e + 4, 4096, rq rf1 r7, sq rf1 sh4, e + 1, 4096, rq rf1 r4, sq rf1 sh1, vi, vi, fun M2 e2 => ?_⟩
    rw [ci, h1] at e2
    have rf2 : M2.2.2 = M.2.2 := by rw [e2]; exact rf1
    refine ⟨e + 2, 4096, rq rf2 r5, sq rf2 sh2, vi, fun M3 e3 => ?_⟩
    rw [ci] at e3
    have rf3 : M3.2.2 = M.2.2 := by rw [e3]; exact rf2
    have h3 : M3.2.1 (e + 1) i = r := by rw [e3, zsJ_o (by omega), e2, zsJ_o (by omega)]; exact h1
    refine ⟨e + 3, 4096, rq rf3 r6, sq rf3 sh3, e + 1, 4096, rq rf3 r4, sq rf3 sh1, vi, vi, fun M4 e4 => ?_⟩
    rw [ci, h3] at e4
    have rf4 : M4.2.2 = M.2.2 := by rw [e4]; exact rf3
    refine ⟨e + 6, 4096, rq rf4 r9, sq rf4 sh6, e + 3, 4096, rq rf4 r6, sq rf4 sh3, vi, vi, fun M5 e5 => ?_⟩
    rw [ci] at e5
    have v3 : M4.2.1 (e + 3) i = y71 &&& r &&& (r2 ^^^ (-1)) := by rw [e4]; exact zsJ_s
    rw [v3] at e5
    refine hq M5 ?_ (fun c j hj => ?_) (fun w hw => ?_)
    · have a1 : zSm [e + 1, e + 2, e + 3, e + 4, e + 6] M M1 := by rw [e1]; exact zSm.J (by simp)
      have a2 : zSm [e + 1, e + 2, e + 3, e + 4, e + 6] M1 M2 := by rw [e2]; exact zSm.J (by simp)
      have a3 : zSm [e + 1, e + 2, e + 3, e + 4, e + 6] M2 M3 := by rw [e3]; exact zSm.J (by simp)
      have a4 : zSm [e + 1, e + 2, e + 3, e + 4, e + 6] M3 M4 := by rw [e4]; exact zSm.J (by simp)
      have a5 : zSm [e + 1, e + 2, e + 3, e + 4, e + 6] M4 M5 := by rw [e5]; exact zSm.J (by simp)
      exact a1.tr (a2.tr (a3.tr (a4.tr a5)))
    · rw [e5, zsJ_at, if_neg (fun q => hj q.2), e4, zsJ_at, if_neg (fun q => hj q.2), e3, zsJ_at, if_neg (fun q => hj q.2), e2, zsJ_at, if_neg (fun q => hj q.2), e1, zsJ_at, if_neg (fun q => hj q.2)]
    · have w1 : M5.2.1 (e + 1) i = r := by rw [e5, zsJ_o (by omega), e4, zsJ_o (by omega)]; exact h3
      have w2 : M5.2.1 (e + 2) i = y71 &&& r2 := by rw [e5, zsJ_o (by omega), e4, zsJ_o (by omega), e3]; exact zsJ_s
      have w3 : M5.2.1 (e + 3) i = y71 &&& r &&& (r2 ^^^ (-1)) := by rw [e5, zsJ_o (by omega)]; exact v3
      have w4 : M5.2.1 (e + 4) i = y71 &&& (r ^^^ (-1)) := by rw [e5, zsJ_o (by omega), e4, zsJ_o (by omega), e3, zsJ_o (by omega), e2]; exact zsJ_s
      have w6 : M5.2.1 (e + 6) i = y71 &&& r &&& (r2 ^^^ (-1)) := by rw [e5]; exact zsJ_s
      have mt : bt (y71 &&& r &&& (r2 ^^^ (-1))) w = true ↔ mate5 k s p w := by
        rw [bt_and, bt_and, bt_not _ hw, Bool.and_eq_true, Bool.and_eq_true, leg w hw, hr w hw]
        constructor
        · rintro ⟨⟨a, b⟩, c⟩
          refine ⟨a, b, fun t ht hkt hm => ?_⟩
          have := (mv w hw a).mpr ⟨t, ht, hkt, hm⟩
          rw [this] at c
          exact absurd c (by decide)
        · rintro ⟨a, b, c⟩
          refine ⟨⟨a, b⟩, ?_⟩
          rw [Bool.not_eq_true']
          rw [← Bool.not_eq_true, mv w hw a]
          exact fun ⟨t, ht, hkt, hm⟩ => c t ht hkt hm
      rw [← ei, w1, w2, w3, w4, w6]
      refine ⟨⟨fun q => ⟨hv, (hr w hw).mp q⟩, fun q => (hr w hw).mpr q.2⟩, ?_, mt, ?_, mt⟩
      · rw [bt_and, Bool.and_eq_true, leg w hw]
        exact ⟨fun ⟨a, b⟩ => ⟨a, (mv w hw a).mp b⟩, fun ⟨a, b⟩ => ⟨a, (mv w hw a).mpr b⟩⟩
      · rw [bt_and, Bool.and_eq_true, leg w hw, bt_not _ hw, Bool.not_eq_true', ← Bool.not_eq_true, hr w hw]
        exact ⟨fun ⟨a, b⟩ => ⟨a.1, a.2.1, a.2.2.1, a.2.2.2.1, a.2.2.2.2.1, fun _ => b⟩, fun h => ⟨⟨h.1, h.2.1, h.2.2.1, h.2.2.2.1, h.2.2.2.2.1, fun q => absurd q (by decide)⟩, h.2.2.2.2.2 rfl⟩⟩
  refine ⟨fun c => f35 (fun hv => hv.1 ((nI_eq (by omega) (by omega)).mp c).symm), fun c => ⟨fun c1 => ⟨fun z => f36 ⟨fun q => c (by rw [q]), fun _ => ?_⟩, fun z => f35 (fun hv => ?_)⟩, fun c1 => f36 ⟨fun q => c (by rw [q]), fun q => absurd (kI.mpr q) c1⟩⟩⟩
  · have z := (lastR p hp).mp (lg0.mp z)
    omega
  · have := hv.2 (kI.mp c1)
    exact z (lg0.mpr ((lastR p hp).mpr (by omega)))
