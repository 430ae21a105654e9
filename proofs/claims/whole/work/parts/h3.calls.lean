/-! THE CLASS: distanceToMate, matingMove -/
theorem uvX3_nearer_17 {mc ms u v : Nat} (hu : u ≤ mc) (hv : v ≤ ms) {X : Nat → zV} {Q : zQt} {M : zM} {g : Nat} {x2 : Int32} {x3 : Int32} (hW : zWd M g)  (h : ((M.1 g 3) ≤ x3 → Q (some (.int ((-1)))) M) ∧ (¬ (M.1 g 3) ≤ x3 → vp_in x3 384 ∧ wX0_make 0 0 [.ref (g + 1), .int ((M : zM).1 ((g + 7)) (x3 : Int32).toNatClampNeg)] M (fun r M1 => kX3_nearer_38 mc ms X Q u v [some (.ref 33), some (.ref g), some (.int x2), some (.int x3), none] (r.toList ++ []) M1))) : aX3_nearer_17 mc ms X Q u v [some (.ref 33), some (.ref g), some (.int x2), some (.int x3), none] [] M := ⟨(fgs_0 hW), ⟨fun c22 => (h.1 c22), fun c22 => ⟨(fgs_0 hW), (g + 1), (fgr_0_0 hW), ⟨(fgs_0 hW), (g + 7), (fgr_0_2 hW), ⟨384, (fgs_7 hW), (h.2 c22).1, ⟨Nat.le_of_ble_eq_true rfl, rfl, (fgs_1 hW), 0, 0, hu, hv, (h.2 c22).2⟩⟩⟩⟩⟩⟩
theorem uvkX3_nearer_8 {mc ms u v : Nat} (hu : u ≤ mc) (hv : v ≤ ms) {X : Nat → zV} {Q : zQt} {M : zM} {g : Nat} {s0 : Int32} (hW : zWd M g)  (h : (0 < s0 → X 17 u v [.ref 33, .ref g, .int s0, .int 0] [] M) ∧ (¬ 0 < s0 → Q (some (.int ((-1)))) M)) : kX3_nearer_8 mc ms X Q u v [some (.ref 33), some (.ref g), none, none, none] [.int s0] M := ⟨fun c10 => (h.1 c10), fun c10 => (h.2 c10)⟩
theorem uvkX3_nearer_38 {mc ms u v : Nat} (hu : u ≤ mc) (hv : v ≤ ms) {X : Nat → zV} {Q : zQt} {M : zM} {g : Nat} {x2 : Int32} {x3 : Int32} (hW : zWd M g)  (h : wX3_distance 0 0 [.ref 33, .ref (g + 1)] M (fun r M1 => kX3_nearer_46 mc ms X Q u v [some (.ref 33), some (.ref g), some (.int x2), some (.int x3), none] (r.toList ++ []) M1)) : kX3_nearer_38 mc ms X Q u v [some (.ref 33), some (.ref g), some (.int x2), some (.int x3), none] [] M := ⟨(fgs_0 hW), (g + 1), (fgr_0_0 hW), ⟨Nat.le_of_ble_eq_true rfl, rfl, (fxs_33 hW.1), 0, 0, hu, hv, h⟩⟩
theorem uvkX3_nearer_46 {mc ms u v : Nat} (hu : u ≤ mc) (hv : v ≤ ms) {X : Nat → zV} {Q : zQt} {M : zM} {g : Nat} {x2 : Int32} {x3 : Int32} {s0 : Int32} (hW : zWd M g)  (h : vp_in x3 384 ∧ wX0_unmake 0 0 [.ref (g + 1), .int ((M : zM).1 ((g + 7)) (x3 : Int32).toNatClampNeg)] M (fun r M1 => kX3_nearer_61 mc ms X Q u v [some (.ref 33), some (.ref g), some (.int x2), some (.int x3), some (.int s0)] (r.toList ++ []) M1)) : kX3_nearer_46 mc ms X Q u v [some (.ref 33), some (.ref g), some (.int x2), some (.int x3), none] [.int s0] M := ⟨(fgs_0 hW), (g + 1), (fgr_0_0 hW), ⟨(fgs_0 hW), (g + 7), (fgr_0_2 hW), ⟨384, (fgs_7 hW), h.1, ⟨Nat.le_of_ble_eq_true rfl, rfl, (fgs_1 hW), 0, 0, hu, hv, h.2⟩⟩⟩⟩
theorem uvkX3_nearer_61 {mc ms u v : Nat} (hu : u ≤ mc) (hv : v ≤ ms) {X : Nat → zV} {Q : zQt} {M : zM} {g : Nat} {x2 : Int32} {x3 : Int32} {x4 : Int32} (hW : zWd M g)  (h : (x4 = (x2 - (1 : Int32)) → Q (some (.int x3)) M) ∧ (¬ x4 = (x2 - (1 : Int32)) → X 17 u v [.ref 33, .ref g, .int x2, .int (x3 + 1)] [] M)) : kX3_nearer_61 mc ms X Q u v [some (.ref 33), some (.ref g), some (.int x2), some (.int x3), some (.int x4)] [] M := ⟨fun c66 => (h.1 c66), fun c66 => (h.2 c66)⟩
theorem uvkX11_distanceToMate_29 {mc ms u v : Nat} (hu : u ≤ mc) (hv : v ≤ ms) {X : Nat → zV} {Q : zQt} {M : zM} {g : Nat} {s0 : Int32} (hW : zWd M g)  (h : Q (some (.int s0)) M) : kX11_distanceToMate_29 mc ms X Q u v [some (.ref 16)] [.int s0] M := h
theorem uvkX11_matingMove_26 {mc ms u v : Nat} (hu : u ≤ mc) (hv : v ≤ ms) {X : Nat → zV} {Q : zQt} {M : zM} {g : Nat} {s0 : Int32} (hW : zWd M g)  (h : Q (some (.int s0)) M) : kX11_matingMove_26 mc ms X Q u v [some (.ref 16)] [.int s0] M := h
theorem xFr.i2 {C : List Nat} {M K : zM} (h : xFr C M K) (hW : zFix M) {b : Nat} (hb : b ∉ C) (h82 : b < 82) : K.1 b = M.1 b ∧ K.2.1 b = M.2.1 b ∧ K.2.2.1 b = M.2.2.1 b := h.2.2.2 b hb (Or.inl (Nat.lt_of_lt_of_le h82 (fix_len hW)))
theorem cHal.fr {C : List Nat} {M K : zM} {A : Ah} (h : cHal M A) (f : xFr C M K) (hC : 16 ∉ C ∧ 24 ∉ C ∧ ∀ b, 18 ≤ b → b ≤ 23 → b ∉ C) (hg : ∀ g, (g = 35 ∨ g = 45) → M.2.2.1 16 6 = some g → aTh A = true → gGm M g (aG A) → gGm K g (aG A)) : cHal K A := by
  obtain ⟨k1, k2, k3, k4, k5, k6, k7, k8, g, hgg, h6, h7, hG⟩ := h
  have e16 := f.i2 k1 hC.1 (by omega)
  have e24 := f.i2 k1 hC.2.1 (by omega)
  refine ⟨f.1, k2.fr k1 f hC.2.2, fun i hi => by rw [e24.1]; exact k3 i hi, ?_, ?_, ?_, ?_, ?_, g, hgg, by rw [e16.2.2]; exact h6, by rw [e16.2.2]; exact h7, fun ht => hg g hgg h6 ht (hG ht)⟩
  · rw [e16.1]; exact k4
  · rw [e16.1]; exact k5
  · rw [e16.1]; exact k6
  · rw [e16.1]; exact k7
  · rw [e16.1]; exact k8
theorem gGm.fr {C : List Nat} {M K : zM} {g : Nat} {G : Gm} (hW : zWd M g) (h : gGm M g G) (f : xFr C M K) (hC : ∀ b ∈ C, b < g ∨ g + 9 < b) : gGm K g G := by
  have l82 := fix_len hW.1
  have q : gGm (M.1, M.2.1, K.2.2) g G := h
  refine gGm.sm q f.sm (fun b b1 b2 w => ?_)
  rw [List.mem_append, List.mem_range'_1] at w
  rcases w with w | w
  · have := hC b w; omega
  · rcases hW.2 with e | e <;> omega
theorem rRef.fr {C : List Nat} {M K : zM} {A : Ah} (h : rRef M A) (f : xFr C M K) (hC : ∀ b ∈ C, b < 55 ∨ 70 < b) : rRef K A := by
  obtain ⟨hW, hn, hT, h7, h3, h4, h5, g, hg1, hg, hG⟩ := h
  have l82 := fix_len hW
  have e55 := (f.i2 hW (b := 55) (fun q => by have := hC _ q; omega) (by omega)).1
  have e56 := (f.i2 hW (b := 56) (fun q => by have := hC _ q; omega) (by omega)).1
  refine ⟨f.1, by rw [e55]; exact hn, fun i hi => by rw [e56]; exact hT i hi, by rw [e55]; exact h7, by rw [e55]; exact h3, by rw [e55]; exact h4, by rw [e55]; exact h5, g, hg1, by rw [e55]; exact hg, fun t => ?_⟩
  have q : rGm (M.1, M.2.1, K.2.2) g (aG A).1 (aG A).2.1 (aG A).2.2 := hG t
  refine rGm_sm f.sm (fun b b1 b2 w => ?_) q
  rw [List.mem_append, List.mem_range'_1] at w
  rcases w with w | w
  · have := hC b w; omega
  · omega
/-- what a question about distances leaves of a game that stands -/
def nFr (M K : zM) (g : Nat) (G : Gm) : Prop := xFr [34, g + 1, g + 2, g + 3, g + 4, g + 5] M K ∧ sSt K g (lst G) (G.1 - 1) ∧ ∀ i, i < G.1 - 1 → K.1 (g + 5) i = M.1 (g + 5) i
theorem nFr.gm {M K : zM} {g : Nat} {G : Gm} (hW : zWd M g) (h : gGm M g G) (f : nFr M K g G) : gGm K g G := by
  have l82 := fix_len hW.1
  have q : gGm (M.1, M.2.1, K.2.2) g G := h
  have nin : ∀ b, b < 82 → b ∉ [34, g + 1, g + 2, g + 3, g + 4, g + 5] → b ∉ [34, g + 1, g + 2, g + 3, g + 4, g + 5] ++ List.range' M.2.2.2.length (K.2.2.2.length - M.2.2.2.length) := fun b b1 b2 w => by
    rw [List.mem_append, List.mem_range'_1] at w
    rcases w with w | w
    · exact b2 w
    · omega
  have g3 := hW.2
  exact gGm.back q f.1.sm ⟨nin _ (by omega) (by simp; omega), nin _ (by omega) (by simp; omega), nin _ (by omega) (by simp; omega), nin _ (by omega) (by simp; omega)⟩ f.2.1 f.2.2
set_option maxHeartbeats 4000000 in
theorem c_nearer {mc ms : Nat} {M : zM} {g : Nat} (hW : zWd M g) (hC : cOk M) {kn : Nat → Bool} (hK : cKn M kn) {G : Gm} (hG : gGm M g G) (oG : gmOk G) (hmc : cC kn ≤ mc + cC (knE kn (lst G))) (hms : cD kn ≤ ms + cD (knE kn (lst G))) {Q : zQt} (hq : ∀ K, nFr M K g G → cKn K (knE kn (lst G)) → Q (some (.int (mmV (lst G)))) K) : wX3_nearer mc ms [.ref 33, .ref g] M Q := by
  refine ⟨⟨Nat.le_of_ble_eq_true rfl, rfl⟩, fun X l0 l17 => ?_⟩
  have l82 := fix_len hW.1
  have g3 := hW.2
  obtain ⟨P, eP⟩ : ∃ P, P = lst G := ⟨_, rfl⟩
  have gok := oG.last
  have gfit := oG.fit
  have p601 := oG.2.1
  rw [← eP] at gok gfit hmc hms hq
  have hb : bPs M g P := by rw [eP]; exact hG.1
  have hL : gLs M g P := by rw [eP]; exact hG.2.1
  have h11 : M.1 (g + 1) 11 = nI (G.1 - 1) := hG.2.2.2.1
  have len := Gd_len gok.1
  refine l0 _ _ _ _ _ ⟨rfl, ⟨fgs_0 hW, g + 1, fgr_0_0 hW, ⟨Nat.le_of_ble_eq_true rfl, rfl, fxs_33 hW.1, mc, ms, by omega, by omega, ?_⟩⟩⟩
  refine c_distC hW hC hK gok.1 hb hmc hms (fun K fK cK => ?_)
  have WK : zWd K g := ⟨fK.1, hW.2⟩
  have nK : nFr M K g G := by
    refine ⟨fK.mono (by simp), ⟨by rw [← eP]; exact hb.fr hW fK (fun b h => by simp at h; omega), ?_⟩, fun i _ => ?_⟩
    · rw [(fK.i2 hW.1 (by simp; omega) (by omega)).1]; exact h11
    · rw [(fK.i2 hW.1 (by simp; omega) (by omega)).1]
  refine uvkX3_nearer_8 (by omega) (by omega) WK ⟨fun dp => ?_, fun dp => ?_⟩
  case refine_2 =>
    have mm : mmV P = -1 := by
      unfold mmV
      rw [if_pos]
      exact Int32.not_lt.mp dp
    rw [← mm]
    exact hq K nK cK
  have dp : ¬ dsV P ≤ 0 := fun h => absurd dp (Int32.not_lt.mpr h)
  have nz : eKd P ≠ 0 := fun e => dp (by rw [dsV_n e gok.1]; decide)
  have loop : ∀ (n i : Nat) (K2 : zM), i + n = (mvs P).length → nFr M K2 g G → cKn K2 (knE kn P) → (∀ j m, j < i → (mvs P)[j]? = some m → decide (dsV (mkM P m) = dsV P - 1) = false) → X 17 (0 + mc) (0 + ms) [.ref 33, .ref g, .int (dsV P), .int (nI i)] [] K2 := by
    intro n
    induction n with
    | zero =>
      intro i K2 hi n2 c2 hn
      have W2 : zWd K2 g := ⟨n2.1.1, hW.2⟩
      have L2 : gLs K2 g P := by
        have := (n2.gm hW hG).2.1
        rw [← eP] at this; exact this
      have mm : mmV P = -1 := by
        unfold mmV
        rw [if_neg dp, findIdx_no (fun j x hx => hn j x (by
          have := (List.getElem?_eq_some_iff.mp hx).1
          omega) hx)]
      refine l17 _ _ _ _ _ ⟨rfl, uvX3_nearer_17 (by omega) (by omega) W2 ⟨fun _ => by rw [← mm]; exact hq K2 n2 c2, fun z => absurd ?_ z⟩⟩
      rw [L2.1]
      exact (nI_leI (by omega) (by omega)).mpr (by omega)
    | succ n ih =>
      intro i K2 hi n2 c2 hn
      have W2 : zWd K2 g := ⟨n2.1.1, hW.2⟩
      have l2 := fix_len W2.1
      have L2 : gLs K2 g P := by
        have := (n2.gm hW hG).2.1
        rw [← eP] at this; exact this
      obtain ⟨m, em⟩ : ∃ m, (mvs P)[i]? = some m := ⟨(mvs P)[i]'(by omega), List.getElem?_eq_getElem (by omega)⟩
      have mem : m ∈ mvs P := List.mem_iff_getElem?.mpr ⟨i, em⟩
      have gm := mkM_ok gok.1 gok.2 (by omega) mem
      have sS : sSt K2 g P (G.1 - 1) := by rw [eP]; exact n2.2.1
      refine l17 _ _ _ _ _ ⟨rfl, uvX3_nearer_17 (by omega) (by omega) W2 ⟨fun z => ?_, fun _ => ?_⟩⟩
      · rw [L2.1] at z
        exact absurd ((nI_leI (by omega) (by omega)).mp z) (by omega)
      · rw [nI_clamp (by omega), L2.2 i m em]
        refine ⟨vp_in_nI (by omega) (by omega), ?_⟩
        refine c_makeM W2 sS gok.1 gok.2 (by omega) (by omega) mem (fun K3 s3 v3 u3 => ?_)
        have W3 := s3.wd W2
        have f3 : xFr [g + 1, g + 2, g + 3, g + 4, g + 5] K2 K3 := xFr.of s3 (fun b h => h) W2.1
        have c3 : cKn K3 (knE kn P) := c2.fr W2.1 f3 ⟨fun b h => by simp at h; omega, by simp; omega⟩
        have C3 : cOk K3 := (hC.fr hW.1 n2.1 (fun b h1 h2 q => by simp at q; omega)).fr W2.1 f3 (fun b h1 h2 q => by simp at q; omega)
        have kk : knE (knE kn P) (mkM P m) = knE kn P := knE_mk gok.1 mem gm.1 nz kn
        refine uvkX3_nearer_38 (by omega) (by omega) W3 ?_
        refine c_distC W3 C3 c3 gm v3.1 (by rw [kk]; omega) (by rw [kk]; omega) (fun K4 f4 c4 => ?_)
        rw [kk] at c4
        have W4 : zWd K4 g := ⟨f4.1, hW.2⟩
        have ii : ∀ b, b < 82 → b ≠ 34 → K4.1 b = K3.1 b := fun b h1 h2 => (f4.i2 W3.1 (by simpa using h2) h1).1
        have v4 : sSv K4 g P m (G.1 - 1) := ⟨v3.1.fr W3 f4 (fun b h => by simp at h; omega), by rw [ii _ (by omega) (by omega)]; exact v3.2.1, by rw [ii _ (by omega) (by omega)]; exact v3.2.2⟩
        refine uvkX3_nearer_46 (by omega) (by omega) W4 ?_
        rw [nI_clamp (by omega), ii _ (by omega) (by omega), s3.i (by simp), L2.2 i m em]
        refine ⟨vp_in_nI (by omega) (by omega), ?_⟩
        refine c_unmakeM W4 v4 gok.1 gok.2 (by omega) (by omega) mem (fun K5 s5 S5 => ?_)
        have W5 := s5.wd W4
        have f5 : xFr [g + 1, g + 2, g + 3, g + 4] K4 K5 := xFr.of s5 (fun b h => h) W4.1
        have c5 : cKn K5 (knE kn P) := c4.fr W4.1 f5 ⟨fun b h => by simp at h; omega, by simp; omega⟩
        have n5 : nFr M K5 g G := by
          refine ⟨n2.1.tr ((f3.mono (by simp)).tr ((f4.mono (by simp)).tr (f5.mono (by simp)))), by rw [← eP]; exact S5, fun j hj => ?_⟩
          rw [s5.i (by simp), ii _ (by omega) (by omega), u3 j hj]
          exact n2.2.2 j hj
        refine uvkX3_nearer_61 (by omega) (by omega) W5 ⟨fun z => ?_, fun z => ?_⟩
        · have mm : mmV P = nI i := by
            unfold mmV
            rw [if_neg dp, findIdx_at em (decide_eq_true z) hn]
          rw [← mm]
          exact hq K5 n5 c5
        · rw [show nI i + (1 : Int32) = nI (i + 1) from nI_add _ 1]
          refine ih (i + 1) K5 (by omega) n5 c5 (fun j x hj hx => ?_)
          by_cases ej : j = i
          · rw [ej, em] at hx
            rw [← Option.some.inj hx]
            exact decide_eq_false z
          · exact hn j x (by omega) hx
  exact loop (mvs P).length 0 K (by omega) nK cK (fun j m hj => absurd hj (by omega))
/-- all that the class's questions about distances may change of old cells -/
abbrev cEC : List Nat := [34, 36, 37, 38, 39, 40, 46, 47, 48, 49, 50]
theorem k_distanceToMate {mc ms : Nat} {M : zM} {A : Ah} (hH : cHal M A) (hO : aOk A) (ht : aTh A = true) {kn : Nat → Bool} (hK : cKn M kn) (hmc : cC kn ≤ mc + cC (knA kn A)) (hms : cD kn ≤ ms + cD (knA kn A)) {Q : zQt} (hq : ∀ N, xFr cEC M N → cHal N A → cKn N (knA kn A) → Q (some (.int (dmA A).2)) N) : wX11_distanceToMate mc ms [.ref 16] M Q := by
  refine ⟨⟨Nat.le_of_ble_eq_true rfl, rfl⟩, fun X l0 => ?_⟩
  obtain ⟨g, hg, h6, Wg, gG, oG⟩ := hH.game hO ht
  have ed : (dmA A).2 = dsV (lst (aG A)) := by unfold dmA; rw [if_pos ht]
  have ek : knA kn A = knE kn (lst (aG A)) := by unfold knA; rw [if_pos ht]
  rw [ed, ek] at hq
  rw [ek] at hmc hms
  refine l0 _ _ _ _ _ ⟨rfl, ⟨fxs_16 Wg.1, ⟨fun z => absurd z (nth_8 hH ht), fun _ => ⟨fxs_16 Wg.1, 33, fxr_16_5 Wg.1, ⟨fxs_16 Wg.1, g, h6, ⟨fgs_0 Wg, g + 1, fgr_0_0 Wg, ⟨Nat.le_of_ble_eq_true rfl, rfl, fxs_33 Wg.1, mc, ms, by omega, by omega, ?_⟩⟩⟩⟩⟩⟩⟩
  refine c_distC Wg hH.2.1 hK oG.last.1 gG.1 hmc hms (fun N fN cN => ?_)
  refine uvkX11_distanceToMate_29 (by omega) (by omega) (g := g) ⟨fN.1, Wg.2⟩ (hq N (fN.mono (by decide)) (hH.fr fN ⟨by decide, by decide, fun b b1 b2 q => by simp at q; omega⟩ (fun g2 hg2 h62 _ gG2 => ?_)) cN)
  exact gG2.fr ⟨Wg.1, hg2⟩ fN (fun b h => by simp at h; omega)
theorem k_matingMove {mc ms : Nat} {M : zM} {A : Ah} (hH : cHal M A) (hO : aOk A) (ht : aTh A = true) {kn : Nat → Bool} (hK : cKn M kn) (hmc : cC kn ≤ mc + cC (knA kn A)) (hms : cD kn ≤ ms + cD (knA kn A)) {Q : zQt} (hq : ∀ N, xFr cEC M N → cHal N A → cKn N (knA kn A) → Q (some (.int (mmA A).2)) N) : wX11_matingMove mc ms [.ref 16] M Q := by
  refine ⟨⟨Nat.le_of_ble_eq_true rfl, rfl⟩, fun X l0 => ?_⟩
  obtain ⟨g, hg, h6, Wg, gG, oG⟩ := hH.game hO ht
  have ed : (mmA A).2 = mmV (lst (aG A)) := by unfold mmA; rw [if_pos ht]
  have ek : knA kn A = knE kn (lst (aG A)) := by unfold knA; rw [if_pos ht]
  rw [ed, ek] at hq
  rw [ek] at hmc hms
  refine l0 _ _ _ _ _ ⟨rfl, ⟨fxs_16 Wg.1, ⟨fun z => absurd z (nth_8 hH ht), fun _ => ⟨fxs_16 Wg.1, 33, fxr_16_5 Wg.1, ⟨fxs_16 Wg.1, g, h6, ⟨Nat.le_of_ble_eq_true rfl, rfl, fxs_33 Wg.1, mc, ms, by omega, by omega, ?_⟩⟩⟩⟩⟩⟩
  refine c_nearer Wg hH.2.1 hK gG oG hmc hms (fun N nN cN => ?_)
  refine uvkX11_matingMove_26 (by omega) (by omega) (g := g) ⟨nN.1.1, Wg.2⟩ (hq N (nN.1.mono (fun b hb => ?_)) (hH.fr nN.1 ⟨?_, ?_, ?_⟩ (fun g2 hg2 h62 _ gG2 => ?_)) cN)
  · simp at hb
    rcases hg with e | e <;> subst e <;> simp <;> omega
  · simp; omega
  · simp; omega
  · intro b b1 b2; simp; omega
  · have := some_g h6 h62
    subst this
    exact nN.gm Wg gG2
