/-! readMoves itself -/
/-- frame of reading moves into game g -/
def rmF (M N : zM) (g : Nat) : Prop := zSm [55, 57, 58, 59, 60, 61, 62, 63, 64, 65, 66, 67, 70] M N ∧ (∀ j, j ≠ 3 → j ≠ 4 → j ≠ 21 → j ≠ 24 → N.1 55 j = M.1 55 j) ∧ ∀ g' k ps mv, g' ≤ 1 → g' ≠ g → k ≤ 601 → rGm M g' k ps mv → rGm N g' k ps mv
theorem rmF.rf {M : zM} {g : Nat} : rmF M M g := ⟨zSm.rf, fun _ _ _ _ _ => rfl, fun _ _ _ _ _ _ _ h => h⟩
theorem rmF.tr {M N K : zM} {g : Nat} (h : rmF M N g) (h2 : rmF N K g) : rmF M K g :=
  ⟨h.1.tr h2.1, fun j a b c d => (h2.2.1 j a b c d).trans (h.2.1 j a b c d), fun g' k ps mv a b c d => h2.2.2 g' k ps mv a b c (h.2.2 g' k ps mv a b c d)⟩
theorem rmF.slot {M : zM} {g j : Nat} (hj : j = 3 ∨ j = 4 ∨ j = 21 ∨ j = 24) (v : Int32) : rmF M (zsI M 55 j v) g :=
  ⟨zSm.I (by decide), fun i a b c d => zsI_n (by omega), fun g' k ps mv _ _ _ h => rGm_sm (L := [55]) (zSm.I (by decide)) (fun b b1 b2 q => by have := List.mem_singleton.mp q; omega) h⟩
theorem sgF.rm {M N : zM} {g : Nat} (h : sgF M N) : rmF M N g :=
  ⟨h.1.mono (by decide), fun j _ _ _ d => h.2.1 j d, fun g' k ps mv _ _ _ q => rGm_sm h.1 (fun b b1 b2 w => by
    simp only [List.mem_cons, List.mem_nil_iff, or_false] at w
    omega) q⟩
theorem gFr.rm {M N : zM} {g n : Nat} (hg : g ≤ 1) (hn : n < 601) (h : gFr M N g (601 * g + n)) : rmF M N g :=
  ⟨h.1.mono (by decide), fun j _ _ _ _ => by rw [h.1.i (by decide)], fun g' k ps mv a b c q => h.other hg hn a b c q⟩
def rmSt (N : zM) (T : Nat → Nat) (e p g : Nat) (G : Gm) : Prop := zFix N ∧ rAt N T e p ∧ N.1 55 6 = nI g ∧ rGm N g G.1 G.2.1 G.2.2 ∧ rSh N (lst G) ∧ gmOk G
theorem rmSt.slot {N : zM} {T : Nat → Nat} {e p g : Nat} {G : Gm} (h : rmSt N T e p g G) {j : Nat} (hj : j = 3 ∨ j = 4 ∨ j = 24) (v : Int32) : rmSt (zsI N 55 j v) T e p g G := by
  obtain ⟨h1, h2, h3, h4, h5, h6⟩ := h
  have hz : zSm [55] N (zsI N 55 j v) := zSm.I (by decide)
  refine ⟨hz.fix h1, ⟨⟨?_, h2.1.2.1, fun i hi => ?_⟩, ?_, h2.2.2⟩, ?_, rGm_sm hz (fun b b1 b2 q => by have := List.mem_singleton.mp q; omega) h4, rSh_sm hz (fun b b1 b2 q => by have := List.mem_singleton.mp q; omega) h5, h6⟩
  · rw [zsI_n (by omega)]; exact h2.1.1
  · rw [hz.i (by decide)]; exact h2.1.2.2 i hi
  · rw [zsI_n (by omega)]; exact h2.2.1
  · rw [zsI_n (by omega)]; exact h3
theorem rmSt.go {N : zM} {T : Nat → Nat} {e p g : Nat} {G : Gm} (h : rmSt N T e p g G) {q : Nat} (hq : q < 2 ^ 20) : rmSt (zsI N 55 21 (nI q)) T e q g G := by
  obtain ⟨h1, h2, h3, h4, h5, h6⟩ := h
  have hz : zSm [55] N (zsI N 55 21 (nI q)) := zSm.I (by decide)
  refine ⟨hz.fix h1, ⟨⟨?_, h2.1.2.1, fun i hi => ?_⟩, ?_, hq⟩, ?_, rGm_sm hz (fun b b1 b2 q => by have := List.mem_singleton.mp q; omega) h4, rSh_sm hz (fun b b1 b2 q => by have := List.mem_singleton.mp q; omega) h5, h6⟩
  · rw [zsI_n (by omega)]; exact h2.1.1
  · rw [hz.i (by decide)]; exact h2.1.2.2 i hi
  · exact zsI_s
  · rw [zsI_n (by omega)]; exact h3
theorem wdS_bd (T : Nat → Nat) (e p : Nat) (G : Gm) : (¬ (ended (vdG G) ∨ G.1 = 601) ∧ ∃ m ∈ mvs (lst G), wdS T e p G = (m : Int)) ∨ ∃ k : Nat, 20 ≤ k ∧ k ≤ 24 ∧ wdS T e p G = -(k : Int) := by
  unfold wdS
  split
  · exact Or.inr ⟨20, by omega, by omega, rfl⟩
  · rename_i h
    rcases fnS_bd (lst G) T (p + 1) (wE T e (e - (p + 1)) (p + 1) - (p + 1)) with q | ⟨k, k1, k2, q⟩
    · exact Or.inl ⟨h, q⟩
    · exact Or.inr ⟨k, by omega, k2, q⟩
set_option maxHeartbeats 8000000 in
theorem c_readMoves {mc ms : Nat} {M : zM} {T : Nat → Nat} {e p0 g : Nat} (hg1 : g ≤ 1) {G0 : Gm} (h0 : rmSt M T e p0 g G0) (hf0 : M.1 55 3 = 0) (he : e ≤ 8190) {Q : zQt} (hq : ∀ N p, rmF M N g → rmSt N T e p g (rmS T e e p0 G0).2 → N.1 55 3 = nI (rmS T e e p0 G0).1 → (0 < (rmS T e e p0 G0).1 → N.1 55 4 = nI ((rmS T e e p0 G0).2.1 - 1)) → ((rmS T e e p0 G0).1 = 0 → N.1 55 4 = M.1 55 4) → Q none N) : wX13_readMoves mc ms [.ref 55] M Q := by
  refine ⟨⟨Nat.le_of_ble_eq_true rfl, rfl⟩, fun X l0 l33 l71 l93 l109 l143 l146 => ?_⟩
  have f146 : ∀ N p, rmF M N g → rmSt N T e p g (rmS T e e p0 G0).2 → N.1 55 3 = nI (rmS T e e p0 G0).1 → (0 < (rmS T e e p0 G0).1 → N.1 55 4 = nI ((rmS T e e p0 G0).2.1 - 1)) → ((rmS T e e p0 G0).1 = 0 → N.1 55 4 = M.1 55 4) → X 146 0 0 [] [] N := fun N p a b c d f => l146 _ _ _ _ _ ⟨rfl, vX13_readMoves_146 b.1 (hq N p a b c d f)⟩
  have main : ∀ (f p : Nat) (G : Gm) (N : zM), e ≤ p + f → rmF M N g → rmSt N T e p g G → N.1 55 3 = 0 → N.1 55 4 = M.1 55 4 → rmS T e f p G = rmS T e e p0 G0 → X 0 0 0 [.ref 55] [] N := by
    intro f
    induction f with
    | zero =>
      intro p G N hp hN hS h3 h4 hv
      have hR : rmS T e e p0 G0 = (0, G) := hv.symm
      refine l0 _ _ _ _ _ ⟨rfl, vX13_readMoves_0 hS.1 ⟨fun _ => ?_, fun d => absurd h3 d⟩⟩
      rw [hS.2.1.1.1, hS.2.1.2.1]
      refine ⟨fun _ => f146 N p hN (by rw [hR]; exact hS) (by rw [hR]; exact h3) (fun q => by rw [hR] at q; exact absurd q (Nat.lt_irrefl 0)) (fun _ => h4), fun d => absurd ((nI_leI (a := e) (b := p) (by omega) (by have := hS.2.1.2.2; omega)).mpr (by omega)) d⟩
    | succ f ih =>
      intro p G N hp hN hS h3 h4 hv
      have hp20 := hS.2.1.2.2
      refine l0 _ _ _ _ _ ⟨rfl, vX13_readMoves_0 hS.1 ⟨fun _ => ?_, fun d => absurd h3 d⟩⟩
      rw [hS.2.1.1.1, hS.2.1.2.1]
      have ep := nI_leI (a := e) (b := p) (by omega) (by omega)
      by_cases hpe : p < e
      rotate_left
      · have hR : rmS T e e p0 G0 = (0, G) := by
          rw [← hv]
          conv => lhs; unfold rmS
          rw [if_neg hpe]
        exact ⟨fun _ => f146 N p hN (by rw [hR]; exact hS) (by rw [hR]; exact h3) (fun q => by rw [hR] at q; exact absurd q (Nat.lt_irrefl 0)) (fun _ => h4), fun d => absurd (ep.mpr (by omega)) d⟩
      refine ⟨fun d => absurd (ep.mp d) (by omega), fun _ N1 hN1 => ?_⟩
      rw [nI_1] at hN1
      have hv2 : (if wdS T e p G < 0 then ((- wdS T e p G).toNat, G) else rmS T e f (wE T e (e - (p + 1)) (p + 1)) (gmN G (wdS T e p G).toNat)) = rmS T e e p0 G0 := by
        rw [← hv]
        conv => rhs; unfold rmS
        rw [if_pos hpe]
      obtain ⟨w, hw⟩ : ∃ w, w = wE T e (e - (p + 1)) (p + 1) := ⟨_, rfl⟩
      have hwb := wE_bd (T := T) (e := e) (e - (p + 1)) (p + 1) (by omega)
      rw [← hw] at hwb hv2
      have f143 : ∀ N', X 0 0 0 [.ref 55] [] N' → zFix N' → X 143 0 0 [.ref 55] [] N' := fun N' h hW => l143 _ _ _ _ _ ⟨rfl, vX13_readMoves_143 hW h⟩
      -- behind the word's number
      have f109 : ∀ (N' : zM), rmF M N' g → rmSt N' T e w g G → N'.1 55 3 = 0 → N'.1 55 4 = M.1 55 4 → X 109 0 0 [.ref 55] [.int (iI (wdS T e p G))] N' := by
        intro N' hF hS' h3' h4'
        obtain ⟨hW', hA', hg', hG', hSh', hok⟩ := hS'
        have hS'' : rmSt N' T e w g G := ⟨hW', hA', hg', hG', hSh', hok⟩
        refine l109 _ _ _ _ _ ⟨rfl, vX13_readMoves_109 hW' ?_⟩
        rcases wdS_bd T e p G with ⟨hne, m, hm, hv'⟩ | ⟨k, k1, k2, hv'⟩
        · have hml := mvs_lt hm
          rw [hv'] at hv2 ⊢
          have e0 : (0 : Int32) ≤ iI (m : Int) ↔ (0 : Int) ≤ m := iI_le (a := 0) (b := m) (by omega) (by omega) (by omega) (by omega)
          refine ⟨fun _ => ?_, fun d => absurd (e0.mpr (by omega)) d⟩
          rw [if_neg (by omega)] at hv2
          have hn : G.1 < 601 := by
            have := hok.2.1
            have : ¬ G.1 = 601 := fun q => hne (Or.inr q)
            omega
          obtain ⟨ha, hb, hk, hlg, em⟩ := mvs_parts hm
          have hnx := hok.next hn hm
          have hl : lst (gmN G m) = mkM (lst G) m := by
            show updP G.2.1 G.1 (mkM (lst G) m) (G.1 + 1 - 1) = _
            rw [show G.1 + 1 - 1 = G.1 by omega, updP_s]
          have hpl := c_play (mc := 0) (ms := 0) hW' hg' hg1 hn hG' hSh'.1 hok.fit ha hb hk (fun h => cas_home hSh'.1.2.1.2 hlg.1 h) (by
            have := hnx.fit
            rw [hl] at this
            exact this) (Q := fun r M1 => kX13_readMoves_143 mc ms X Q 0 0 [some (.ref 55), none, some (.int (iI (m : Int)))] (r.toList ++ []) M1)
          rw [← em] at hpl
          refine hpl (fun K hK hGK hSK => ?_)
          have hWK := hK.1.fix hW'
          have hFK := hF.tr (hK.rm hg1 hn)
          refine vkX13_readMoves_143 hWK (f143 K (ih w (gmN G m) K (by omega) hFK ⟨hWK, ⟨⟨?_, hA'.1.2.1, fun i hi => ?_⟩, ?_, hA'.2.2⟩, ?_, hGK, ?_, hnx⟩ ?_ ?_ ?_) hWK)
          · rw [hK.1.i (by decide)]; exact hA'.1.1
          · rw [hK.1.i (by decide)]; exact hA'.1.2.2 i hi
          · rw [hK.1.i (by decide)]; exact hA'.2.1
          · rw [hK.1.i (by decide)]; exact hg'
          · rw [hl]; exact hSK
          · rw [hK.1.i (by decide)]; exact h3'
          · rw [hK.1.i (by decide)]; exact h4'
          · exact hv2
        · rw [hv'] at hv2 ⊢
          have e0 : (0 : Int32) ≤ iI (-(k : Int)) ↔ (0 : Int) ≤ -(k : Int) := iI_le (a := 0) (b := -(k : Int)) (by omega) (by omega) (by omega) (by omega)
          refine ⟨fun d => absurd (e0.mp d) (by omega), fun _ N2 hN2 => ?_⟩
          rw [if_pos (by omega)] at hv2
          rw [iI_neg, show -(-(k : Int)) = (k : Int) by omega] at hN2
          have hR : rmS T e e p0 G0 = (k, G) := by
            rw [← hv2, show (-(-(k : Int))).toNat = k by omega]
          have hS2 : rmSt N2 T e w g G := by rw [hN2]; exact hS''.slot (Or.inl rfl) _
          have hF2 : rmF M N2 g := by rw [hN2]; exact hF.tr (rmF.slot (Or.inl rfl) _)
          rw [hS2.2.2.1, nI_clamp (by omega), hS2.2.2.2.1.1]
          refine ⟨vp_in_nI (by omega) (by omega), fun N3 hN3 => ?_⟩
          have h1 := hok.1
          rw [show nI G.1 - (1 : Int32) = nI (G.1 - 1) from pk_sub (a := G.1) (b := 1) (by omega)] at hN3
          have hS3 : rmSt N3 T e w g G := by rw [hN3]; exact hS2.slot (Or.inr (Or.inl rfl)) _
          have hF3 : rmF M N3 g := by rw [hN3]; exact hF2.tr (rmF.slot (Or.inr (Or.inl rfl)) _)
          have h33 : N3.1 55 3 = nI k := by rw [hN3, zsI_n (by decide), hN2, zsI_s]; rfl
          have h34 : N3.1 55 4 = nI (G.1 - 1) := by rw [hN3, zsI_s]
          have e3 := nI_eq (a := k) (b := 0) (by omega) (by decide)
          refine f143 N3 (l0 _ _ _ _ _ ⟨rfl, vX13_readMoves_0 hS3.1 ⟨fun d => ?_, fun _ => f146 N3 w hF3 (by rw [hR]; exact hS3) (by rw [hR]; exact h33) (fun _ => by rw [hR]; exact h34) (fun q => ?_)⟩⟩) hS3.1
          · rw [h33] at d
            have := e3.mp d
            omega
          · rw [hR] at q
            have : k = 0 := q
            omega
      have f93 : ∀ (N' : zM), rmF M N' g → rmSt N' T e w g G → N'.1 55 3 = 0 → N'.1 55 4 = M.1 55 4 → (ended (vdG G) ∨ G.1 = 601) → X 93 0 0 [.ref 55] [] N' := by
        intro N' hF hS' h3' h4' hx
        refine l93 _ _ _ _ _ ⟨rfl, vX13_readMoves_93 hS'.1 ?_⟩
        have z := f109 N' hF hS' h3' h4'
        have : wdS T e p G = -20 := by unfold wdS; rw [if_pos hx]
        rw [this] at z
        exact z
      have f71 : ∀ (N' : zM), rmF M N' g → rmSt N' T e w g G → N'.1 55 3 = 0 → N'.1 55 4 = M.1 55 4 → X 71 0 0 [.ref 55, .int (nI (p + 1))] [] N' := by
        intro N' hF hS' h3' h4'
        obtain ⟨hW', hA', hg', hG', hSh', hok⟩ := hS'
        have hS'' : rmSt N' T e w g G := ⟨hW', hA', hg', hG', hSh', hok⟩
        have h1 := hok.1
        have h6 := hok.2.1
        have hlast := (hG'.2 (G.1 - 1) (by omega)).1
        have hm' : N'.1 58 g = nI (G.1 - 1 + 1) := by rw [show G.1 - 1 + 1 = G.1 by omega]; exact hG'.1
        refine l71 _ _ _ _ _ ⟨rfl, vX13_readMoves_71 hW' (c_hasEnded hW' hg' hg1 hm' (by omega) hlast.2.2.2.2.2.2 (vdt_lt _ _) (fun hh => ?_) (fun hh => ?_))⟩
        · exact vkX13_readMoves_75 hW' ⟨fun d => absurd d (by decide), fun _ => f93 N' hF hS'' h3' h4' (Or.inl hh)⟩
        · refine vkX13_readMoves_75 hW' ⟨fun _ => ?_, fun d => absurd rfl d⟩
          rw [hg', nI_clamp (by omega), hG'.1]
          have e6 := nI_eq (a := G.1) (b := 601) (by omega) (by decide)
          refine ⟨vp_in_nI (by omega) (by omega), fun d => f93 N' hF hS'' h3' h4' (Or.inr (e6.mp d)), fun d => ?_⟩
          have hx : ¬ (ended (vdG G) ∨ G.1 = 601) := by
            rintro (q | q)
            · exact hh q
            · exact d (e6.mpr q)
          rw [hA'.2.1, pk_sub hwb.1]
          refine c_find hW' hA'.1 hSh' hok.sm hok.fit.2.2 (by omega) (fun K hK => ?_)
          have hWK := hK.1.fix hW'
          have hFK := hF.tr (sgF.rm (g := g) hK)
          have hSK : rmSt K T e w g G := ⟨hWK, ⟨hK.tx hA'.1, by rw [hK.2.1 21 (by decide)]; exact hA'.2.1, hA'.2.2⟩, by rw [hK.2.1 6 (by decide)]; exact hg', rGm_sm hK.1 (fun b b1 b2 w => by
            simp only [List.mem_cons, List.mem_nil_iff, or_false] at w
            omega) hG', hK.sh hSh', hok⟩
          refine vkX13_readMoves_109 hWK ?_
          have : fnS (lst G) T (p + 1) (w - (p + 1)) = wdS T e p G := by
            unfold wdS
            rw [if_neg hx, hw]
          rw [this]
          exact f109 K hFK hSK (by rw [hK.2.1 3 (by decide)]; exact h3') (by rw [hK.2.1 4 (by decide)]; exact h4')
      -- over the word
      have wloop : ∀ (r q : Nat) (N' : zM), q + r = e → wE T e r q = w → rmF M N' g → rmSt N' T e q g G → N'.1 55 3 = 0 → N'.1 55 4 = M.1 55 4 → X 33 0 0 [.ref 55, .int (nI (p + 1))] [] N' := by
        intro r
        induction r with
        | zero =>
          intro q N' hq' hwE hF hS' h3' h4'
          have hqw : q = w := hwE
          have eq := nI_leI (a := e) (b := q) (by omega) (by omega)
          refine l33 _ _ _ _ _ ⟨rfl, vX13_readMoves_33 hS'.1 ?_⟩
          rw [hS'.2.1.1.1, hS'.2.1.2.1]
          refine ⟨fun _ => f71 N' hF (by rw [← hqw]; exact hS') h3' h4', fun d => absurd (eq.mpr (by omega)) d⟩
        | succ r ihr =>
          intro q N' hq' hwE hF hS' h3' h4'
          have eq := nI_leI (a := e) (b := q) (by omega) (by omega)
          refine l33 _ _ _ _ _ ⟨rfl, vX13_readMoves_33 hS'.1 ?_⟩
          rw [hS'.2.1.1.1, hS'.2.1.2.1, nI_clamp (by omega)]
          refine ⟨fun d => absurd (eq.mp d) (by omega), fun _ => ⟨vp_in_nI (by omega) (by omega), ?_⟩⟩
          obtain ⟨t1, t2⟩ := hS'.2.1.1.2.2 q (by omega)
          have et := sb_eq (T q) t2 32 (by decide)
          rw [t1]
          refine ⟨fun d => f71 N' hF ?_ h3' h4', fun d N2 hN2 => ?_⟩
          · have : q = w := by
              rw [← hwE]
              unfold wE
              rw [if_neg (fun z => z.2 (et.mp d))]
            rw [← this]
            exact hS'
          · rw [nI_1] at hN2
            refine ihr (q + 1) N2 (by omega) ?_ ?_ ?_ ?_ ?_
            · rw [← hwE]
              conv => rhs; unfold wE
              rw [if_pos ⟨by omega, fun z => d (et.mpr z)⟩]
            · rw [hN2]; exact hF.tr (rmF.slot (Or.inr (Or.inr (Or.inl rfl))) _)
            · rw [hN2]; exact hS'.go (by omega)
            · rw [hN2, zsI_n (by decide)]; exact h3'
            · rw [hN2, zsI_n (by decide)]; exact h4'
      have hN1s : N1.1 55 21 = nI (p + 1) := by rw [hN1, zsI_s]
      rw [hN1s]
      refine wloop (e - (p + 1)) (p + 1) N1 (by omega) hw.symm ?_ ?_ ?_ ?_
      · rw [hN1]; exact hN.tr (rmF.slot (Or.inr (Or.inr (Or.inl rfl))) _)
      · rw [hN1]; exact hS.go (by omega)
      · rw [hN1, zsI_n (by decide)]; exact h3
      · rw [hN1, zsI_n (by decide)]; exact h4
  exact main e p0 G0 M (by omega) rmF.rf h0 hf0 rfl rfl
