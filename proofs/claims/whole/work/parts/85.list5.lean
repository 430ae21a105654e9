/-! THE CLASS'S LISTER: exposes, lookRound -/
theorem pss_gos {P : Ps} (hO : psOk P) {a b : Nat} (ha : a < 64) (hg : gos P a b) : pss P a b ↔ psg P a b = true := by
  have hA := hO.1 a ha
  have o := (own_man hA hO.2.1).mp hg.1
  constructor
  · rintro ⟨h1, h2, h3⟩
    have k1 : kd (P.1 a) = 1 := (kd_1 hA).mpr (by omega)
    have pg := hg.2.2.2.1 k1
    have hu : upI P.2.1 = 8 ∨ upI P.2.1 = -8 := by
      unfold upI
      split
      · exact Or.inl rfl
      · exact Or.inr rfl
    unfold pgo at pg
    have ht : tip P a b := by
      split at pg
      · rename_i e
        exfalso
        omega
      · split at pg
        · rename_i e
          exfalso
          omega
        · rcases pg with q | q
          · omega
          · exact q
    unfold psg pwn
    simp only [Bool.and_eq_true, decide_eq_true_eq]
    exact ⟨k1, tipB_t.mpr ht⟩
  · intro q
    obtain ⟨k1, t1, t2, t3, t4, t5⟩ := psg_tip q
    refine ⟨t1, ?_, t4⟩
    have := (t2.2.2.1 k1).1
    unfold aI dF at this
    split at this <;> omega
theorem occ_bits {P : Ps} {o0 : Int64} (ho : ∀ s, s < 64 → (bt o0 s = true ↔ P.1 s ≠ 0)) {a b : Nat} (ha : a < 64) (hb : b < 64) {s : Nat} (hs : s < 64) : bt ((o0 &&& (((1 : Int64) <<< ((nI a).toInt64 &&& 63)) ^^^ (-1))) ||| ((1 : Int64) <<< ((nI b).toInt64 &&& 63))) s = true ↔ s = b ∨ s ≠ a ∧ P.1 s ≠ 0 := by
  rw [bt_or, bt_and, bt_not _ hs, bt_one ha, bt_one hb, Bool.or_eq_true, Bool.and_eq_true, ho s hs, Bool.not_eq_true', decide_eq_false_iff_not, decide_eq_true_eq]
  constructor
  · rintro (q | q)
    · exact Or.inr ⟨fun z => q.2 z.symm, q.1⟩
    · exact Or.inl q.symm
  · rintro (q | q)
    · exact Or.inr q.symm
    · exact Or.inl ⟨q.2, fun z => q.1 z.symm⟩
set_option maxHeartbeats 4000000 in
theorem c_exposes {mc ms : Nat} {M : zM} {g : Nat} (hW : zWd M g) (hC : cOk M) {P : Ps} (hG : Gd P) (hP : bPs M g P) (hk : M.1 (g + 6) 2 = nI (kq P.1 P.2.1 64)) {a b : Nat} (ha : a < 64) (hb : b < 64) (hg : gos P a b) {Q : zQt} (q1 : chk (mkB P a b 0) P.2.1 → Q (some (.int 1)) M) (q0 : ¬ chk (mkB P a b 0) P.2.1 → Q (some (.int 0)) M) : wX5_exposes mc ms [.ref (g + 6), .int (nI a), .int (nI b)] M Q := by
  refine ⟨⟨Nat.le_of_ble_eq_true rfl, rfl⟩, fun X l0 l52 l72 => ?_⟩
  have hO := hG.1
  have hc := hO.2.1
  obtain ⟨hB, h4, h5, h6, h7⟩ := hP
  obtain ⟨kg64, -, -⟩ := kq_is hG
  have f52 : ∀ o gn : Int64, (∀ s, s < 64 → (bt o s = true ↔ ¬ (psg P a b = true ∧ s = whr P a b) ∧ (s = b ∨ s ≠ a ∧ P.1 s ≠ 0))) → (∀ s, s < 64 → (bt gn s = true ↔ s = (if psg P a b = true then whr P a b else b))) → X 52 0 0 [.ref (g + 6), .int (nI a), .int (nI b), .long gn, .long o] [] M := by
    intro o gn ho hgn
    have key := expo_iff hG ha hb hg ho hgn
    have f72 : X 72 0 0 [.ref (g + 6), .long gn, .long o] [.int (nI (nkq P a b)), .ref (g + 1)] M := by
      refine l72 _ _ _ _ _ ⟨rfl, vX5_exposes_72 hW ?_⟩
      rw [h4, show (1 : Int32) - nI P.2.1 = nI (1 - P.2.1) from pk_sub (a := 1) (b := P.2.1) hc]
      have hn : nkq P a b < 64 := by unfold nkq; split <;> omega
      exact c_attacked hW hC hB hn (by omega) o gn (fun z => vkX5_exposes_87 hW ⟨rfl, q1 (key.mp z)⟩) (fun z => vkX5_exposes_87 hW ⟨rfl, q0 (fun w => z (key.mpr w))⟩)
    refine l52 _ _ _ _ _ ⟨rfl, vX5_exposes_52 hW ?_⟩
    rw [hk]
    have e := nI_eq (a := a) (b := kq P.1 P.2.1 64) (by omega) (by omega)
    unfold nkq at f72
    refine ⟨fun q => ?_, fun q => ?_⟩
    · rw [if_pos (e.mp q)] at f72; exact f72
    · rw [if_neg (fun z => q (e.mpr z))] at f72; exact f72
  refine l0 _ _ _ _ _ ⟨rfl, vX5_exposes_0 hW (fun y ey => c_occupied hW hB (fun o0 ho0 => vkX5_exposes_11 hW (fun y2 ey2 => ?_)))⟩
  have ob : ∀ s, s < 64 → (bt y2 s = true ↔ s = b ∨ s ≠ a ∧ P.1 s ≠ 0) := fun s hs => by rw [ey2, ey]; exact occ_bits ho0 ha hb hs
  refine c_passes hW hc hB h4 ha hb (fun q => vkX5_exposes_32 hW ⟨fun d => absurd d (by decide), fun _ y3 ey3 y4 ey4 => ?_⟩) (fun q => vkX5_exposes_32 hW ⟨fun _ => ?_, fun d => absurd rfl d⟩)
  · have kp := (pss_gos hO ha hg).mp q
    have hz := psg_sq hO kp
    rw [psg_xor hO hb kp] at ey3
    refine f52 y4 y3 (fun s hs => ?_) (fun s hs => ?_)
    · rw [ey4, bt_and, bt_not _ hs, ey3, bt_one hz.2.2.2.2.1, Bool.and_eq_true, Bool.not_eq_true', decide_eq_false_iff_not, ob s hs]
      exact ⟨fun z => ⟨fun w => z.2 w.2.symm, z.1⟩, fun z => ⟨z.2, fun w => z.1 ⟨kp, w.symm⟩⟩⟩
    · rw [ey3, bt_one hz.2.2.2.2.1, decide_eq_true_eq, if_pos kp]
      exact eq_comm
  · have kp : ¬ psg P a b = true := fun z => q ((pss_gos hO ha hg).mpr z)
    refine f52 y2 y (fun s hs => ?_) (fun s hs => ?_)
    · rw [ob s hs]
      exact ⟨fun z => ⟨fun w => kp w.1, z⟩, fun z => z.2⟩
    · rw [ey, bt_one hb, decide_eq_true_eq, if_neg kp]
      exact eq_comm
/-- a square between another and k lies on a line of k -/
theorem btw_line {x k i : Nat} (hx : x < 64) (hk : k < 64) (hne : x ≠ k) (hl : dF x k = 0 ∨ dR x k = 0 ∨ aI (dF x k) = aI (dR x k)) (h1 : 1 ≤ i) (h2 : i < stn x k) : dF k (sqA x k i) = 0 ∨ dR k (sqA x k i) = 0 ∨ aI (dF k (sqA x k i)) = aI (dR k (sqA x k i)) := by
  obtain ⟨-, n7, -, -, -⟩ := line_of hx hk hne hl
  have key : (List.range 64).all (fun x => (List.range 64).all (fun k => decide (x = k) || !(decide (dF x k = 0) || decide (dR x k = 0) || decide (aI (dF x k) = aI (dR x k))) || (List.range 8).all (fun i => decide (i < 1) || decide (stn x k ≤ i) || (decide (dF k (sqA x k i) = 0) || decide (dR k (sqA x k i) = 0) || decide (aI (dF k (sqA x k i)) = aI (dR k (sqA x k i))))))) = true := by decide +kernel
  have z := List.all_eq_true.mp (List.all_eq_true.mp key x (List.mem_range.mpr hx)) k (List.mem_range.mpr hk)
  simp only [Bool.or_eq_true, decide_eq_true_eq, Bool.not_eq_true', Bool.or_eq_false_iff, decide_eq_false_iff_not] at z
  rcases z with (z | z) | z
  · exact absurd z hne
  · rcases hl with q | q | q
    · exact absurd q z.1.1
    · exact absurd q z.1.2
    · exact absurd q z.2
  · have := List.all_eq_true.mp z i (List.mem_range.mpr (by omega))
    simp only [Bool.or_eq_true, decide_eq_true_eq] at this
    rcases this with (w | w) | w
    · omega
    · omega
    · rcases w with (w | w) | w
      · exact Or.inl w
      · exact Or.inr (Or.inl w)
      · exact Or.inr (Or.inr w)
theorem safe {P : Ps} (hG : Gd P) {o0 : Int64} (ho : ∀ s, s < 64 → (bt o0 s = true ↔ P.1 s ≠ 0)) (hnc : ¬ chk P.1 P.2.1) {a b : Nat} (ha : a < 64) (hb : b < 64) (hg : gos P a b) (hak : a ≠ kq P.1 P.2.1 64) (hn : ¬ (dF (kq P.1 P.2.1 64) a = 0 ∨ dR (kq P.1 P.2.1 64) a = 0) ∧ ¬ aI (dF (kq P.1 P.2.1 64) a) = aI (dR (kq P.1 P.2.1 64) a)) (hp : ¬ psg P a b = true) : ¬ chk (mkB P a b 0) P.2.1 := by
  intro hch
  obtain ⟨kg64, -, -⟩ := kq_is hG
  have key := (expo_iff hG ha hb hg (o := (o0 &&& (((1 : Int64) <<< ((nI a).toInt64 &&& 63)) ^^^ (-1))) ||| ((1 : Int64) <<< ((nI b).toInt64 &&& 63))) (gn := (1 : Int64) <<< ((nI b).toInt64 &&& 63)) (fun s hs => by
    rw [occ_bits ho ha hb hs]
    exact ⟨fun z => ⟨fun w => hp w.1, z⟩, fun z => z.2⟩) (fun s hs => by
    rw [bt_one hb, decide_eq_true_eq, if_neg hp]
    exact eq_comm)).mpr hch
  have hk : nkq P a b = kq P.1 P.2.1 64 := by unfold nkq; rw [if_neg hak]
  rw [hk] at key
  obtain ⟨x, hx, h1, -, h2⟩ := key
  apply hnc
  refine ⟨x, hx, h1, (attO_att ho hx kg64).mp ?_⟩
  unfold attO at h2 ⊢
  obtain ⟨a1, a2, a3, a4, a5, a6⟩ := h2
  refine ⟨a1, a2, a3, a4, a5, fun k1 k2 k6 => ?_⟩
  obtain ⟨z1, z2⟩ := a6 k1 k2 k6
  refine ⟨z1, fun i i1 i2 => ?_⟩
  have hl : dF x (kq P.1 P.2.1 64) = 0 ∨ dR x (kq P.1 P.2.1 64) = 0 ∨ aI (dF x (kq P.1 P.2.1 64)) = aI (dR x (kq P.1 P.2.1 64)) := by
    rcases z1 with w | w
    · rcases w.1 with v | v
      · exact Or.inl v
      · exact Or.inr (Or.inl v)
    · exact Or.inr (Or.inr w.1)
  have hbl := btw_line hx kg64 a2 hl i1 i2
  obtain ⟨-, -, -, -, hrg⟩ := line_of hx kg64 a2 hl
  have hr := hrg i i1 i2
  have s64 : sqA x (kq P.1 P.2.1 64) i < 64 := by unfold sqA; omega
  have hz := z2 i i1 i2
  rcases u : bt o0 (sqA x (kq P.1 P.2.1 64) i) with _ | _
  · rfl
  · have hne0 := (ho _ s64).mp u
    have : bt ((o0 &&& (((1 : Int64) <<< ((nI a).toInt64 &&& 63)) ^^^ (-1))) ||| ((1 : Int64) <<< ((nI b).toInt64 &&& 63))) (sqA x (kq P.1 P.2.1 64) i) = true := (occ_bits ho ha hb s64).mpr (Or.inr ⟨fun e => ?_, hne0⟩)
    · rw [hz] at this
      exact absurd this (by decide)
    · rw [e] at hbl
      rcases hbl with w | w | w
      · exact hn.1 (Or.inl w)
      · exact hn.1 (Or.inr w)
      · exact hn.2 w
/-- what the lister knows once it has looked round -/
def lrK (N : zM) (g : Nat) (P : Ps) : Prop := N.1 (g + 6) 2 = nI (kq P.1 P.2.1 64) ∧ ∀ a, a < 64 → sdI (P.1 a) = P.2.1 → bt (N.2.1 (g + 6) 3) a = false → a ≠ kq P.1 P.2.1 64 ∧ ∀ b, b < 64 → gos P a b → ¬ chk (mkB P a b 0) P.2.1
set_option maxHeartbeats 4000000 in
theorem c_lookRound {mc ms : Nat} {M : zM} {g : Nat} (hW : zWd M g) (hC : cOk M) {P : Ps} (hG : Gd P) (hP : bPs M g P) {Q : zQt} (hq : ∀ N, zSm [g + 6] M N → lrK N g P → Q none N) : wX5_lookRound mc ms [.ref (g + 6)] M Q := by
  refine ⟨⟨Nat.le_of_ble_eq_true rfl, rfl⟩, fun X l0 l149 => ?_⟩
  have hO := hG.1
  have hc := hO.2.1
  have hP0 := hP
  obtain ⟨hB, h4, h5, h6, h7⟩ := hP
  obtain ⟨kg64, kgv, kgu⟩ := kq_is hG
  obtain ⟨kg, ekg⟩ : ∃ kg, kg = kq P.1 P.2.1 64 := ⟨_, rfl⟩
  refine l0 _ _ _ _ _ ⟨rfl, vX5_lookRound_0 hW ?_⟩
  rw [h4, nI_clamp (by omega)]
  refine ⟨vp_in_nI (by omega) (by omega), fun y ey => c_kingOf hW hB hc (gd_king hG) (vkX5_lookRound_31 hW (fun N1 e1 => ?_))⟩
  rw [← ekg] at e1 kg64 kgv kgu
  have s1 : zSm [g + 6] M N1 := by rw [e1]; exact zSm.I (by simp)
  have hW1 := s1.wd hW
  have hB1 : bSt N1 g P.1 := hB.sm s1 (fun b b1 b2 q => by have := List.mem_singleton.mp q; omega)
  have hC1 : cOk N1 := hC.sm s1 (fun b b1 b2 q => by have := List.mem_singleton.mp q; have := hW.2; omega)
  have k2 : N1.1 (g + 6) 2 = nI kg := by rw [e1, zsI_s]
  have r4 : N1.1 (g + 1) 4 = nI P.2.1 := by rw [s1.i (by simp)]; exact h4
  rw [k2, r4, show (1 : Int32) - nI P.2.1 = nI (1 - P.2.1) from pk_sub (a := 1) (b := P.2.1) hc]
  have own : ∀ a, a < 64 → (bt y a = true ↔ sdI (P.1 a) = P.2.1) := fun a ha => by rw [ey]; exact hB.2.2 P.2.1 a hc ha
  refine c_occupied hW1 hB1 (fun o ho => vkX5_lookRound_58 hW1 (c_attacked hW1 hC1 hB1 kg64 (by omega) o 0 (fun z => vkX5_lookRound_62 hW1 ⟨fun d => absurd d (by decide), fun _ N2 e2 => ?_⟩) (fun z => vkX5_lookRound_62 hW1 ⟨fun _ => ?_, fun d => absurd rfl d⟩)))
  · refine hq N2 (by rw [e2]; exact s1.tr (zSm.J (by simp))) ⟨by rw [e2, zsJ_1, ← ekg]; exact k2, fun a ha hs hb => ?_⟩
    rw [e2, zsJ_s] at hb
    rw [(own a ha).mpr hs] at hb
    exact absurd hb (by decide)
  · rw [k2, nI_clamp (by omega)]
    refine ⟨vp_in_nI (by omega) (by omega), vp_in_nI (by omega) (by omega), fun N2 e2 => ?_⟩
    have hnc : ¬ chk P.1 P.2.1 := fun q => z ((atkO_atk ho kg64).mpr (by rw [ekg]; exact q))
    have s2 : zSm [g + 6] M N2 := by rw [e2]; exact s1.tr (zSm.J (by simp))
    have t6 : N2.1 (g + 1) 6 = pI P.2.2.2.1 := by rw [s2.i (by simp)]; exact h6
    have t4 : N2.1 (g + 1) 4 = nI P.2.1 := by rw [s2.i (by simp)]; exact h4
    have k3 : N2.1 (g + 6) 2 = nI kg := by rw [e2, zsJ_1]; exact k2
    have fin : ∀ N3, zSm [g + 6] M N3 → N3.1 (g + 6) 2 = nI kg → (∀ a, a < 64 → bt (N2.2.1 (g + 6) 3) a = true → bt (N3.2.1 (g + 6) 3) a = true) → (P.2.2.2.1 < 8 → ∀ a, a < 64 → P.1 a = 1 + 6 * P.2.1 → bt (N3.2.1 (g + 6) 3) a = true) → X 149 0 0 [] [] N3 := by
      intro N3 s3 k4 hmono hpw
      refine l149 _ _ _ _ _ ⟨rfl, vX5_lookRound_149 (s3.wd hW) (hq N3 s3 ⟨by rw [← ekg]; exact k4, fun a ha hs hb => ?_⟩)⟩
      have hr : bt (N2.2.1 (g + 6) 3) a = false := by
        rcases w : bt (N2.2.1 (g + 6) 3) a with _ | _
        · rfl
        · rw [hmono a ha w] at hb; exact absurd hb (by decide)
      rw [e2, zsJ_s, bt_and, (own a ha).mpr hs, Bool.true_and, bt_or, bt_or, Bool.or_eq_false_iff, Bool.or_eq_false_iff, bt_one kg64, decide_eq_false_iff_not, ← Bool.not_eq_true, ← Bool.not_eq_true, hC1.2.2.2.2.1 kg a kg64 ha, hC1.2.2.2.2.2 kg a kg64 ha] at hr
      obtain ⟨⟨r1, r2⟩, r3⟩ := hr
      refine ⟨by rw [← ekg]; exact fun q => r3 q.symm, fun b hb64 hg => safe hG ho hnc ha hb64 hg (by rw [← ekg]; exact fun q => r3 q.symm) ?_ (fun kp => ?_)⟩
      · rw [← ekg]
        exact ⟨fun q => r1 ⟨r3, q⟩, fun q => r2 ⟨r3, q⟩⟩
      · have hz := psg_tip kp
        have hps : P.2.2.2.1 < 8 := by
          have := hz.2.2.2.1
          unfold psq at this
          by_cases q : P.2.2.2.1 < 8
          · exact q
          · rw [if_neg q] at this; omega
        rw [hpw hps a ha hz.2.1] at hb
        exact absurd hb (by decide)
    rw [t6, t4, show (6 : Int32) * nI P.2.1 = nI (6 * P.2.1) from pk_mul 6 _, show (1 : Int32) + nI (6 * P.2.1) = nI (1 + 6 * P.2.1) from nI_add 1 _, nI_clamp (by omega)]
    refine ⟨fun q => fin N2 s2 k3 (fun _ _ w => w) (fun w => ?_), fun q => ⟨vp_in_nI (by omega) (by omega), fun N3 e3 => fin N3 (by rw [e3]; exact s2.tr (zSm.J (by simp))) (by rw [e3, zsJ_1]; exact k3) (fun a ha w => ?_) (fun _ a ha w => ?_)⟩⟩
    · exfalso
      unfold pI at q
      rw [if_pos w] at q
      have : ∀ f, f < 8 → ¬ nI f = (-1 : Int32) := by decide
      exact this _ w q
    · rw [e3, zsJ_s, bt_or, w, Bool.true_or]
    · rw [e3, zsJ_s, bt_or, Bool.or_eq_true]
      refine Or.inr ?_
      rw [s2.j (by simp)]
      exact (hB.2.1 (1 + 6 * P.2.1) a (by omega) (by omega) ha).mpr w
