/-! THE CLASS'S READER: the record -/
theorem cRn.bsb {M N : zM} {g : Nat} {S : List Nat} (hg : g = 35 ∨ g = 45) (h : cRn M N g S) (h9 : 9 ∉ S) {B : Nat → Nat} (hB : bSB M g B) : bSB N g B :=
  ⟨bSt.sm h.1 (fun b b1 b2 q => by simp at q; omega) hB.1, by rw [h.2.2 9 h9]; exact hB.2⟩
theorem cRn.cok {M N : zM} {g : Nat} {S : List Nat} (hg : g = 35 ∨ g = 45) (h : cRn M N g S) (hC : cOk M) : cOk N := hC.sm h.1 (fun b b1 b2 q => by simp at q; omega)
/-- the frame of reading a record -/
abbrev rrC (g : Nat) : List Nat := [27, g + 1, g + 2, g + 3, g + 4]
theorem cRn.rr {M N : zM} {g : Nat} {S : List Nat} (h : cRn M N g S) : zSm (rrC g) M N := h.1.mono (by simp)
set_option maxHeartbeats 16000000 in
theorem c_readRecordC {mc ms : Nat} {M : zM} {g : Nat} (hW : zWd M g) (hC : cOk M) {T : Nat → Nat} (hT : ∀ i, T i < 256) (hM : cTp M T) {e : Nat} (he : e ≤ 8180) {Q : zQt}
    (qb : ∀ k N, (fdS T e 0 = bad k ∧ 0 < k ∧ k ≤ 6 ∨ ∃ p P, fdS T e 0 = (0, p, P) ∧ rcF P = k ∧ 0 < k ∧ k ≤ 11) → zSm (rrC g) M N → Q (some (.int (nI k))) N)
    (qg : ∀ p P N, fdS T e 0 = (0, p, P) → rcF P = 0 → psOk P → zSm (rrC g) M N → cAt N T e p → bPs N g P → N.1 (g + 1) 11 = nI 0 → Q (some (.int 0)) N) : wX6_readRecord mc ms [.ref 27, .ref (g + 1), .int (nI e)] M Q := by
  refine ⟨⟨Nat.le_of_ble_eq_true rfl, rfl⟩, fun X l0 l29 l46 l63 l80 l108 l154 l157 => ?_⟩
  have hg := hW.2
  have f29 : ∀ N, fdS T e 0 = bad 1 → zSm (rrC g) M N → X 29 0 0 [] [] N := fun N h s => l29 _ _ _ _ _ ⟨rfl, vX6_readRecord_29 (s.wd hW) (qb 1 N (Or.inl ⟨h, by omega, by omega⟩) s)⟩
  have f46 : ∀ N, fdS T e 0 = bad 2 → zSm (rrC g) M N → X 46 0 0 [] [] N := fun N h s => l46 _ _ _ _ _ ⟨rfl, vX6_readRecord_46 (s.wd hW) (qb 2 N (Or.inl ⟨h, by omega, by omega⟩) s)⟩
  have f63 : ∀ N, fdS T e 0 = bad 3 → zSm (rrC g) M N → X 63 0 0 [] [] N := fun N h s => l63 _ _ _ _ _ ⟨rfl, vX6_readRecord_63 (s.wd hW) (qb 3 N (Or.inl ⟨h, by omega, by omega⟩) s)⟩
  have f80 : ∀ N, fdS T e 0 = bad 4 → zSm (rrC g) M N → X 80 0 0 [] [] N := fun N h s => l80 _ _ _ _ _ ⟨rfl, vX6_readRecord_80 (s.wd hW) (qb 4 N (Or.inl ⟨h, by omega, by omega⟩) s)⟩
  have f108 : ∀ N, fdS T e 0 = bad 5 → zSm (rrC g) M N → X 108 0 0 [] [] N := fun N h s => l108 _ _ _ _ _ ⟨rfl, vX6_readRecord_108 (s.wd hW) (qb 5 N (Or.inl ⟨h, by omega, by omega⟩) s)⟩
  have f154 : ∀ N, fdS T e 0 = bad 6 → zSm (rrC g) M N → X 154 0 0 [] [] N := fun N h s => l154 _ _ _ _ _ ⟨rfl, vX6_readRecord_154 (s.wd hW) (qb 6 N (Or.inl ⟨h, by omega, by omega⟩) s)⟩
  have rr1 : ∀ {A : zM} {v : Int32} {j : Nat}, zSm (rrC g) A (zsI A 27 j v) := fun {A v j} => zSm.I (by simp)
  have rr2 : ∀ {A : zM} {v : Int32} {j : Nat}, zSm (rrC g) A (zsI A (g + 1) j v) := fun {A v j} => zSm.I (by simp)
  have m1 : ∀ v, v < 100000 → ¬ nI v = (-1 : Int32) := fun v hv => by
    rw [iI_nat v, show (-1 : Int32) = iI (-1) from by decide, iI_eq (by omega) (by omega) (by omega) (by omega)]
    omega
  refine l0 _ _ _ _ _ ⟨rfl, vX6_readRecord_0 hW (fun M2 e2 M7 e7 => ?_)⟩
  have s7 : zSm (rrC g) M M7 := by rw [e7, e2]; exact rr1.tr rr1
  have W7 := s7.wd hW
  have a7 : cAt M7 T e 0 := by
    refine ⟨hM.sm s7 (by simp; omega), by rw [e7, zsI_s], by rw [e7, zsI_n (by omega), e2, zsI_s]; rfl, he, by omega⟩
  refine c_clear W7 (fun N0 s0 b0 n4 n5 n6 n7 n8 n11 => ?_)
  have sN0 : zSm (rrC g) M N0 := s7.tr (s0.mono (by simp))
  have W0 := sN0.wd hW
  have a0 : cAt N0 T e 0 := a7.sm s0 ⟨by simp; omega, by simp; omega⟩
  refine vkX6_readRecord_14 W0 (c_readMen W0 hT a0 (by omega) b0 (fun p B N hk frN bnN aN hp bN => vkX6_readRecord_19 (frN.1.wd W0) ⟨fun w => absurd w (by decide), fun _ => ?_⟩) (fun N hk frN bnN => vkX6_readRecord_19 (frN.1.wd W0) ⟨fun _ => f29 N ?_ (sN0.tr frN.1), fun w => absurd rfl w⟩))
  rotate_left
  · unfold fdS; rw [hk]
  have sN := sN0.tr frN.1
  have WN := sN.wd hW
  have hS1 : fdS T e 0 = if pk T e p = 32 then fd2 T e B (p + 1) else bad 1 := by unfold fdS; rw [hk]
  have B12 : ∀ s, s < 64 → B s ≤ 12 := fun s hs => (bN.1.1 s hs).2
  refine c_skip WN hT aN (fun w => vkX6_readRecord_26 ((sN.tr rr1).wd hW) ⟨fun z => absurd z (by decide), fun _ => ?_⟩) (fun w => vkX6_readRecord_26 WN ⟨fun _ => f29 N (by rw [hS1, if_neg w]) sN, fun z => absurd rfl z⟩)
  rw [if_pos w] at hS1
  -- side
  have s1 := sN.tr (rr1 (v := nI (p + 1)) (j := 3))
  have W1 := s1.wd hW
  have a1 : cAt (zsI N 27 3 (nI (p + 1))) T e (p + 1) := aN.go (by omega)
  have b1 : bSB (zsI N 27 3 (nI (p + 1))) g B := bSB_27 hg bN
  have k1 : ∀ j, j ≠ 9 → (zsI N 27 3 (nI (p + 1))).1 (g + 1) j = N0.1 (g + 1) j := fun j hj => by rw [zsI_o (by omega)]; exact bnN j hj
  generalize zsI N 27 3 (nI (p + 1)) = N1 at s1 W1 a1 b1 k1
  refine c_readSide W1 hT a1 (by omega) (fun N2 hs fr2 a2 g4 => vkX6_readRecord_36 (fr2.1.wd W1) ⟨fun z => absurd z (by decide), fun _ => ?_⟩) (fun N2 hs fr2 => vkX6_readRecord_36 (fr2.1.wd W1) ⟨fun _ => f46 N2 (by rw [hS1]; unfold fd2; rw [if_neg (fun z => hs z.1)]) (s1.tr fr2.rr), fun z => absurd rfl z⟩)
  have s2 := s1.tr fr2.rr
  have W2 := s2.wd hW
  refine c_skip W2 hT a2 (fun w => vkX6_readRecord_43 ((s2.tr rr1).wd hW) ⟨fun z => absurd z (by decide), fun _ => ?_⟩) (fun w => vkX6_readRecord_43 W2 ⟨fun _ => f46 N2 (by rw [hS1]; unfold fd2; rw [if_neg (fun z => w z.2)]) s2, fun z => absurd rfl z⟩)
  obtain ⟨c, ec⟩ : ∃ c, c = (if pk T e (p + 1) = 98 then 1 else 0) := ⟨_, rfl⟩
  have hc1 : c ≤ 1 := by rw [ec]; split <;> omega
  have hS2 : fdS T e 0 = fd3 T e B c (p + 3) := by rw [hS1]; unfold fd2; rw [if_pos ⟨hs, w⟩, ← ec]
  have s3 := s2.tr (rr1 (v := nI (p + 1 + 1 + 1)) (j := 3))
  have W3 := s3.wd hW
  have a3 : cAt (zsI N2 27 3 (nI (p + 1 + 1 + 1))) T e (p + 3) := a2.go (by omega)
  have b3 : bSB (zsI N2 27 3 (nI (p + 1 + 1 + 1))) g B := bSB_27 hg (fr2.bsb hg (by simp) b1)
  have k3 : ∀ j, j ≠ 9 → j ≠ 4 → (zsI N2 27 3 (nI (p + 1 + 1 + 1))).1 (g + 1) j = N0.1 (g + 1) j := fun j hj h4 => by rw [zsI_o (by omega), fr2.2.2 j (by simp; omega)]; exact k1 j hj
  have k34 : (zsI N2 27 3 (nI (p + 1 + 1 + 1))).1 (g + 1) 4 = nI c := by rw [zsI_o (by omega), g4, ← ec]
  generalize zsI N2 27 3 (nI (p + 1 + 1 + 1)) = N3 at s3 W3 a3 b3 k3 k34
  -- rights
  refine c_readRightsC W3 hT a3 (by omega) (by rw [k3 5 (by omega) (by omega)]; exact n5) (fun p4 r N4 hrg fr4 a4 hp4 hr h5 => vkX6_readRecord_53 (fr4.1.wd W3) ⟨fun z => absurd z (by decide), fun _ => ?_⟩) (fun N4 hrg fr4 => vkX6_readRecord_53 (fr4.1.wd W3) ⟨fun _ => f63 N4 (by rw [hS2]; unfold fd3; rw [hrg]) (s3.tr fr4.rr), fun z => absurd rfl z⟩)
  have s4 := s3.tr fr4.rr
  have W4 := s4.wd hW
  have hS3 : fdS T e 0 = if pk T e p4 = 32 then fd4 T e B c r (p4 + 1) else bad 3 := by rw [hS2]; unfold fd3; rw [hrg]
  refine c_skip W4 hT a4 (fun w => vkX6_readRecord_60 ((s4.tr rr1).wd hW) ⟨fun z => absurd z (by decide), fun _ => ?_⟩) (fun w => vkX6_readRecord_60 W4 ⟨fun _ => f63 N4 (by rw [hS3, if_neg w]) s4, fun z => absurd rfl z⟩)
  rw [if_pos w] at hS3
  have s5 := s4.tr (rr1 (v := nI (p4 + 1)) (j := 3))
  have W5 := s5.wd hW
  have a5 : cAt (zsI N4 27 3 (nI (p4 + 1))) T e (p4 + 1) := a4.go (by omega)
  have b5 : bSB (zsI N4 27 3 (nI (p4 + 1))) g B := bSB_27 hg (fr4.bsb hg (by simp) b3)
  have k5 : ∀ j, j ≠ 9 → j ≠ 4 → j ≠ 5 → (zsI N4 27 3 (nI (p4 + 1))).1 (g + 1) j = N0.1 (g + 1) j := fun j hj h4 h5 => by rw [zsI_o (by omega), fr4.2.2 j (by simp; omega)]; exact k3 j hj h4
  have k54 : (zsI N4 27 3 (nI (p4 + 1))).1 (g + 1) 4 = nI c := by rw [zsI_o (by omega), fr4.2.2 4 (by simp)]; exact k34
  have k55 : (zsI N4 27 3 (nI (p4 + 1))).1 (g + 1) 5 = nI r := by rw [zsI_o (by omega)]; exact h5
  generalize zsI N4 27 3 (nI (p4 + 1)) = N5 at s5 W5 a5 b5 k5 k54 k55
  -- passing
  refine c_readPassantC W5 hT a5 (by omega) hc1 k54 (by rw [k5 6 (by omega) (by omega) (by omega)]; exact n6) (fun p6 f N6 hps fr6 a6 hp6 hf h6 => vkX6_readRecord_70 (fr6.1.wd W5) ⟨fun z => absurd z (by decide), fun _ => ?_⟩) (fun N6 hps fr6 => vkX6_readRecord_70 (fr6.1.wd W5) ⟨fun _ => f80 N6 (by rw [hS3]; unfold fd4; rw [hps]) (s5.tr fr6.rr), fun z => absurd rfl z⟩)
  have s6 := s5.tr fr6.rr
  have W6 := s6.wd hW
  have hS4 : fdS T e 0 = if pk T e p6 = 32 then fd5 T e B c r f (p6 + 1) else bad 4 := by rw [hS3]; unfold fd4; rw [hps]
  refine c_skip W6 hT a6 (fun w => vkX6_readRecord_77 ((s6.tr rr1).wd hW) ⟨fun z => absurd z (by decide), fun _ => ?_⟩) (fun w => vkX6_readRecord_77 W6 ⟨fun _ => f80 N6 (by rw [hS4, if_neg w]) s6, fun z => absurd rfl z⟩)
  rw [if_pos w] at hS4
  have s7' := s6.tr (rr1 (v := nI (p6 + 1)) (j := 3))
  have W7' := s7'.wd hW
  have a7' : cAt (zsI N6 27 3 (nI (p6 + 1))) T e (p6 + 1) := a6.go (by omega)
  have b7 : bSB (zsI N6 27 3 (nI (p6 + 1))) g B := bSB_27 hg (fr6.bsb hg (by simp) b5)
  have k7 : ∀ j, j ≠ 9 → j ≠ 4 → j ≠ 5 → j ≠ 6 → (zsI N6 27 3 (nI (p6 + 1))).1 (g + 1) j = N0.1 (g + 1) j := fun j hj h4 h5 h6 => by rw [zsI_o (by omega), fr6.2.2 j (by simp; omega)]; exact k5 j hj h4 h5
  have k74 : (zsI N6 27 3 (nI (p6 + 1))).1 (g + 1) 4 = nI c := by rw [zsI_o (by omega), fr6.2.2 4 (by simp)]; exact k54
  have k75 : (zsI N6 27 3 (nI (p6 + 1))).1 (g + 1) 5 = nI r := by rw [zsI_o (by omega), fr6.2.2 5 (by simp)]; exact k55
  have k76 : (zsI N6 27 3 (nI (p6 + 1))).1 (g + 1) 6 = pI f := by rw [zsI_o (by omega)]; exact h6
  generalize zsI N6 27 3 (nI (p6 + 1)) = N7 at s7' W7' a7' b7 k7 k74 k75 k76
  -- the clock
  refine c_readNumberC W7' hT a7' (by omega) (most := 3) (mx := 999) (Or.inl ⟨rfl, rfl⟩) (fun p8 v N8 hnm fr8 a8 hp8 hv => vkX6_readRecord_90 (fr8.1.wd W7') (fun M90 e90 => ?_)) (fun N8 p8 rr hnm fr8 a8 hrr => vkX6_readRecord_90 (fr8.1.wd W7') (fun M90 e90 => ?_))
  rotate_left
  · have hbad : fdS T e 0 = bad 5 := by rw [hS4]; unfold fd5; rw [hnm]
    have s90 : zSm (rrC g) M M90 := by rw [e90]; exact (s7'.tr fr8.rr).tr rr2
    have h7 : M90.1 (g + 1) 7 = rr := by rw [e90, zsI_s]
    have a90 : cAt M90 T e p8 := by rw [e90]; exact a8.nb hg
    rw [h7]
    refine ⟨fun _ => f108 M90 hbad s90, fun z => ?_⟩
    rcases hrr with q | q
    · exact absurd q z
    · exact c_skip (s90.wd hW) hT a90 (fun w2 => absurd w2 q.2) (fun w2 => vkX6_readRecord_105 (s90.wd hW) ⟨fun _ => f108 M90 hbad s90, fun u => absurd rfl u⟩)
  have hS5 : fdS T e 0 = if pk T e p8 = 32 then fd6 T e B c r f v (p8 + 1) else bad 5 := by rw [hS4]; unfold fd5; rw [hnm]
  have s90 : zSm (rrC g) M M90 := by rw [e90]; exact (s7'.tr fr8.rr).tr rr2
  have W90 := s90.wd hW
  have h7 : M90.1 (g + 1) 7 = nI v := by rw [e90, zsI_s]
  have a90 : cAt M90 T e p8 := by rw [e90]; exact a8.nb hg
  have fr90 : cRn N7 M90 g [7] := by rw [e90]; exact ⟨fr8.1.tr (zSm.I (by simp)), fun j hj => by rw [zsI_o (by omega)]; exact fr8.2.1 j hj, fun j hj => by rw [zsI_n (by simp at hj; exact hj)]; exact fr8.2.2 j (by simp)⟩
  rw [h7]
  refine ⟨fun z => absurd z (m1 v hv), fun _ => ?_⟩
  refine c_skip W90 hT a90 (fun w => vkX6_readRecord_105 ((s90.tr rr1).wd hW) ⟨fun z => absurd z (by decide), fun _ => ?_⟩) (fun w => vkX6_readRecord_105 W90 ⟨fun _ => f108 M90 (by rw [hS5, if_neg w]) s90, fun z => absurd rfl z⟩)
  rw [if_pos w] at hS5
  have s9 := s90.tr (rr1 (v := nI (p8 + 1)) (j := 3))
  have W9 := s9.wd hW
  have a9 : cAt (zsI M90 27 3 (nI (p8 + 1))) T e (p8 + 1) := a90.go (by omega)
  have b9 : bSB (zsI M90 27 3 (nI (p8 + 1))) g B := bSB_27 hg (fr90.bsb hg (by simp) b7)
  have k9 : ∀ j, j ≠ 7 → (zsI M90 27 3 (nI (p8 + 1))).1 (g + 1) j = N7.1 (g + 1) j := fun j hj => by rw [zsI_o (by omega)]; exact fr90.2.2 j (by simp; omega)
  have k97 : (zsI M90 27 3 (nI (p8 + 1))).1 (g + 1) 7 = nI v := by rw [zsI_o (by omega)]; exact h7
  generalize zsI M90 27 3 (nI (p8 + 1)) = N9 at s9 W9 a9 b9 k9 k97
  -- the number
  refine c_readNumberC W9 hT a9 (by omega) (most := 4) (mx := 9999) (Or.inr ⟨rfl, rfl⟩) (fun p10 u NA hnm2 frA aA hpA hu => vkX6_readRecord_118 (frA.1.wd W9) (fun M118 e118 => ?_)) (fun NA p10 rr hnm2 frA aA hrr => vkX6_readRecord_118 (frA.1.wd W9) (fun M118 e118 => ?_))
  rotate_left
  · have hbad : fdS T e 0 = bad 6 := by rw [hS5]; unfold fd6; rw [hnm2]
    have s118 : zSm (rrC g) M M118 := by rw [e118]; exact (s9.tr frA.rr).tr rr2
    have h8 : M118.1 (g + 1) 8 = rr := by rw [e118, zsI_s]
    rw [h8]
    refine ⟨fun _ => f154 M118 hbad s118, fun z => absurd ?_ z⟩
    rcases hrr with q | q
    · rw [q]; decide
    · rw [q.1]; decide
  have hS6 : fdS T e 0 = if u < 1 ∨ p10 < e ∧ pk T e p10 ≠ 32 then bad 6 else (0, p10, (B, c, r, f, v, u)) := by rw [hS5]; unfold fd6; rw [hnm2]
  have s118 : zSm (rrC g) M M118 := by rw [e118]; exact (s9.tr frA.rr).tr rr2
  have W118 := s118.wd hW
  have h8 : M118.1 (g + 1) 8 = nI u := by rw [e118, zsI_s]
  have a118 : cAt M118 T e p10 := by rw [e118]; exact aA.nb hg
  have frB : cRn N9 M118 g [8] := by rw [e118]; exact ⟨frA.1.tr (zSm.I (by simp)), fun j hj => by rw [zsI_o (by omega)]; exact frA.2.1 j hj, fun j hj => by rw [zsI_n (by simp at hj; exact hj)]; exact frA.2.2 j (by simp)⟩
  have b118 : bSB M118 g B := frB.bsb hg (by simp) b9
  have hP : bPs M118 g (B, c, r, f, v, u) := by
    refine ⟨b118.1, ?_, ?_, ?_, ?_, h8, b118.2⟩
    · rw [frB.2.2 4 (by simp), k9 4 (by omega)]; exact k74
    · rw [frB.2.2 5 (by simp), k9 5 (by omega)]; exact k75
    · rw [frB.2.2 6 (by simp), k9 6 (by omega)]; exact k76
    · rw [frB.2.2 7 (by simp)]; exact k97
  have h11 : M118.1 (g + 1) 11 = nI 0 := by rw [frB.2.2 11 (by simp), k9 11 (by omega), k7 11 (by omega) (by omega) (by omega) (by omega)]; exact n11
  have hOk : psOk (B, c, r, f, v, u) := by
    refine ⟨B12, hc1, hr, hf, ?_, ?_⟩
    · show v < 2 ^ 30
      omega
    · show u < 2 ^ 30
      omega
  have C118 : cOk M118 := hC.sm s118 (fun b b1 b2 q => by simp at q; omega)
  have f157 : ¬ (u < 1 ∨ p10 < e ∧ pk T e p10 ≠ 32) → X 157 0 0 [.ref 27, .ref (g + 1)] [] M118 := by
    intro hn
    rw [if_neg hn] at hS6
    refine l157 _ _ _ _ _ ⟨rfl, vX6_readRecord_157 W118 (c_wrong W118 C118 hOk hP (vkX6_readRecord_162 W118 ?_))⟩
    by_cases q : rcF (B, c, r, f, v, u) = 0
    · rw [q]
      exact qg p10 _ M118 hS6 q hOk s118 a118 hP h11
    · refine qb _ M118 (Or.inr ⟨p10, _, hS6, rfl, by omega, ?_⟩) s118
      unfold rcF
      split
      · omega
      · split
        · split
          · split
            · split <;> omega
            · omega
          · omega
        · omega
  rw [h8, a118.2.1, a118.2.2.1]
  have eu := nI_ltI (a := u) (b := 1) (by omega) (by decide)
  have hpe := a118.2.2.2.2
  have ee := nI_leI (a := e) (b := p10) (by omega) (by omega)
  refine ⟨fun z => f154 M118 (by rw [hS6, if_pos (Or.inl (eu.mp z))]) s118, fun z => ⟨fun z2 => f157 (fun y => ?_), fun z2 => ?_⟩⟩
  · rcases y with y | y
    · exact z (eu.mpr y)
    · have := ee.mp z2; omega
  · have hlt : p10 < e := by have : ¬ e ≤ p10 := fun y => z2 (ee.mpr y); omega
    have hTp := hT p10
    have hpk : pk T e p10 = T p10 := by unfold pk; rw [if_pos hlt]
    rw [nI_clamp (by omega), a118.1 p10 (by omega)]
    have e32 := nI_eq (a := T p10) (b := 32) (by omega) (by decide)
    refine ⟨vp_in_nI (by omega) (by omega), fun z3 => f157 (fun y => ?_), fun z3 => f154 M118 ?_ s118⟩
    · rcases y with y | y
      · exact z (eu.mpr y)
      · exact y.2 (by rw [hpk]; exact e32.mp z3)
    · rw [hS6, if_pos (Or.inr ⟨hlt, by rw [hpk]; exact fun y => z3 (e32.mpr y)⟩)]
