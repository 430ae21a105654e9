theorem dX13_verdictOf_0 : decode cX13_verdictOf 0 = .ok (.aload_n 0, 1) := by decide +kernel
theorem dX13_verdictOf_1 : decode cX13_verdictOf 1 = .ok (.getfield 49, 3) := by decide +kernel
theorem dX13_verdictOf_4 : decode cX13_verdictOf 4 = .ok (.iconst 0, 1) := by decide +kernel
theorem dX13_verdictOf_5 : decode cX13_verdictOf 5 = .ok (.iaload, 1) := by decide +kernel
theorem dX13_verdictOf_6 : decode cX13_verdictOf 6 = .ok (.ifCond .ne 24, 3) := by decide +kernel
theorem dX13_verdictOf_9 : decode cX13_verdictOf 9 = .ok (.aload_n 0, 1) := by decide +kernel
theorem dX13_verdictOf_10 : decode cX13_verdictOf 10 = .ok (.iconst 0, 1) := by decide +kernel
theorem dX13_verdictOf_11 : decode cX13_verdictOf 11 = .ok (.aload_n 0, 1) := by decide +kernel
theorem dX13_verdictOf_12 : decode cX13_verdictOf 12 = .ok (.getfield 43, 3) := by decide +kernel
theorem dX13_verdictOf_15 : decode cX13_verdictOf 15 = .ok (.bipush 64, 2) := by decide +kernel
theorem dX13_verdictOf_17 : decode cX13_verdictOf 17 = .ok (.iaload, 1) := by decide +kernel
theorem dX13_verdictOf_18 : decode cX13_verdictOf 18 = .ok (.invokevirtual 116, 3) := by decide +kernel
theorem dX13_verdictOf_21 : decode cX13_verdictOf 21 = .ok (.ifCond .eq 7, 3) := by decide +kernel
theorem dX13_verdictOf_24 : decode cX13_verdictOf 24 = .ok (.iconst 1, 1) := by decide +kernel
theorem dX13_verdictOf_25 : decode cX13_verdictOf 25 = .ok (.goto 4, 3) := by decide +kernel
theorem dX13_verdictOf_28 : decode cX13_verdictOf 28 = .ok (.iconst 2, 1) := by decide +kernel
theorem dX13_verdictOf_29 : decode cX13_verdictOf 29 = .ok (.ireturn, 1) := by decide +kernel
theorem dX13_verdictOf_30 : decode cX13_verdictOf 30 = .ok (.aload_n 0, 1) := by decide +kernel
theorem dX13_verdictOf_31 : decode cX13_verdictOf 31 = .ok (.getfield 43, 3) := by decide +kernel
theorem dX13_verdictOf_34 : decode cX13_verdictOf 34 = .ok (.bipush 67, 2) := by decide +kernel
theorem dX13_verdictOf_36 : decode cX13_verdictOf 36 = .ok (.iaload, 1) := by decide +kernel
theorem dX13_verdictOf_37 : decode cX13_verdictOf 37 = .ok (.istore_n 2, 1) := by decide +kernel
theorem dX13_verdictOf_38 : decode cX13_verdictOf 38 = .ok (.aload_n 0, 1) := by decide +kernel
theorem dX13_verdictOf_39 : decode cX13_verdictOf 39 = .ok (.invokevirtual 134, 3) := by decide +kernel
theorem dX13_verdictOf_42 : decode cX13_verdictOf 42 = .ok (.ifCond .eq 7, 3) := by decide +kernel
theorem dX13_verdictOf_45 : decode cX13_verdictOf 45 = .ok (.iconst 3, 1) := by decide +kernel
theorem dX13_verdictOf_46 : decode cX13_verdictOf 46 = .ok (.goto 56, 3) := by decide +kernel
theorem dX13_verdictOf_49 : decode cX13_verdictOf 49 = .ok (.iload_n 1, 1) := by decide +kernel
theorem dX13_verdictOf_50 : decode cX13_verdictOf 50 = .ok (.iconst 5, 1) := by decide +kernel
theorem dX13_verdictOf_51 : decode cX13_verdictOf 51 = .ok (.if_icmp .lt 7, 3) := by decide +kernel
theorem dX13_verdictOf_54 : decode cX13_verdictOf 54 = .ok (.iconst 4, 1) := by decide +kernel
theorem dX13_verdictOf_55 : decode cX13_verdictOf 55 = .ok (.goto 47, 3) := by decide +kernel
theorem dX13_verdictOf_58 : decode cX13_verdictOf 58 = .ok (.iload_n 2, 1) := by decide +kernel
theorem dX13_verdictOf_59 : decode cX13_verdictOf 59 = .ok (.sipush 150, 3) := by decide +kernel
theorem dX13_verdictOf_62 : decode cX13_verdictOf 62 = .ok (.if_icmp .lt 7, 3) := by decide +kernel
theorem dX13_verdictOf_65 : decode cX13_verdictOf 65 = .ok (.iconst 5, 1) := by decide +kernel
theorem dX13_verdictOf_66 : decode cX13_verdictOf 66 = .ok (.goto 36, 3) := by decide +kernel
theorem dX13_verdictOf_69 : decode cX13_verdictOf 69 = .ok (.iload_n 1, 1) := by decide +kernel
theorem dX13_verdictOf_70 : decode cX13_verdictOf 70 = .ok (.iconst 3, 1) := by decide +kernel
theorem dX13_verdictOf_71 : decode cX13_verdictOf 71 = .ok (.if_icmp .lt 19, 3) := by decide +kernel
theorem dX13_verdictOf_74 : decode cX13_verdictOf 74 = .ok (.iload_n 2, 1) := by decide +kernel
theorem dX13_verdictOf_75 : decode cX13_verdictOf 75 = .ok (.bipush 100, 2) := by decide +kernel
theorem dX13_verdictOf_77 : decode cX13_verdictOf 77 = .ok (.if_icmp .lt 8, 3) := by decide +kernel
theorem dX13_verdictOf_80 : decode cX13_verdictOf 80 = .ok (.bipush 8, 2) := by decide +kernel
theorem dX13_verdictOf_82 : decode cX13_verdictOf 82 = .ok (.goto 20, 3) := by decide +kernel
theorem dX13_verdictOf_85 : decode cX13_verdictOf 85 = .ok (.bipush 6, 2) := by decide +kernel
theorem dX13_verdictOf_87 : decode cX13_verdictOf 87 = .ok (.goto 15, 3) := by decide +kernel
theorem dX13_verdictOf_90 : decode cX13_verdictOf 90 = .ok (.iload_n 2, 1) := by decide +kernel
theorem dX13_verdictOf_91 : decode cX13_verdictOf 91 = .ok (.bipush 100, 2) := by decide +kernel
theorem dX13_verdictOf_93 : decode cX13_verdictOf 93 = .ok (.if_icmp .lt 8, 3) := by decide +kernel
theorem dX13_verdictOf_96 : decode cX13_verdictOf 96 = .ok (.bipush 7, 2) := by decide +kernel
theorem dX13_verdictOf_98 : decode cX13_verdictOf 98 = .ok (.goto 4, 3) := by decide +kernel
theorem dX13_verdictOf_101 : decode cX13_verdictOf 101 = .ok (.iconst 0, 1) := by decide +kernel
theorem dX13_verdictOf_102 : decode cX13_verdictOf 102 = .ok (.ireturn, 1) := by decide +kernel
def kX13_verdictOf_42 (mc ms : Nat) (X : Nat → zV) (Q : zQt) : zT :=
  zif (fun x => x = 0) (zli 1 <| zc (.int 5) <| zic (fun x y => x < y) (zli 2 <| zc (.int 150) <| zic (fun x y => x < y) (zli 1 <| zc (.int 3) <| zic (fun x y => x < y) (zli 2 <| zc (.int 100) <| zic (fun x y => x < y) (zc (.int 0) <| zj X 102 []) <| zc (.int 7) <| zj X 102 []) <| zli 2 <| zc (.int 100) <| zic (fun x y => x < y) (zc (.int 6) <| zj X 102 []) <| zc (.int 8) <| zj X 102 []) <| zc (.int 5) <| zj X 102 []) <| zc (.int 4) <| zj X 102 []) <| zc (.int 3) <| zj X 102 []
def kX13_verdictOf_38 (mc ms : Nat) (X : Nat → zV) (Q : zQt) : zT :=
  zla 0 <| zcv mc ms 13 0 wX13_isDead <| kX13_verdictOf_42 mc ms X Q
def kX13_verdictOf_21 (mc ms : Nat) (X : Nat → zV) (Q : zQt) : zT :=
  zif (fun x => x = 0) (zc (.int 2) <| zj X 29 []) <| zc (.int 1) <| zj X 29 []
def aX13_verdictOf_0 (mc ms : Nat) (X : Nat → zV) (Q : zQt) : zT :=
  zla 0 <| zgR 13 18 <| zc (.int 0) <| zal 1 <| zif (fun x => x = 0) (zla 0 <| zc (.int 0) <| zla 0 <| zgR 13 16 <| zc (.int 64) <| zal 1 <| zcv mc ms 13 2 wX13_isChecked <| kX13_verdictOf_21 mc ms X Q) <| zla 0 <| zgR 13 16 <| zc (.int 67) <| zal 1 <| zsiN 2 <| kX13_verdictOf_38 mc ms X Q
def aX13_verdictOf_29 (mc ms : Nat) (X : Nat → zV) (Q : zQt) : zT :=
  zri Q
def aX13_verdictOf_102 (mc ms : Nat) (X : Nat → zV) (Q : zQt) : zT :=
  zri Q
def lvX13_verdictOf : Nat → List Nat := fun L => match L with
  | 0 => [0, 1]
  | 29 => []
  | 102 => []
  | _ => []
def wX13_verdictOf : zSp := fun mc ms av M Q => ((zlay av).length ≤ 3 ∧ zpick (zlay av) [0, 1] = some av) ∧ ∀ X : Nat → zV, zin 3 [0, 1] (aX13_verdictOf_0 mc ms X Q) X 0 → zin 3 [] (aX13_verdictOf_29 mc ms X Q) X 29 → zin 3 [] (aX13_verdictOf_102 mc ms X Q) X 102 → X 0 0 0 av [] M
set_option maxRecDepth 100000 in
set_option maxHeartbeats 4000000 in
theorem sX13_verdictOf (l : Launch) (G : zG) : zSnd l G yX13_verdictOf cX13_verdictOf 3 (some .int) 4 101 wX13_verdictOf := by
  refine zmk [0, 1] (by decide) (fun mc ms av M Q h => h.1) ?_
  intro p e R s m args below meth c mc ms av M Q hC hRf hRl hr hnm h lv hlv
  obtain ⟨X, hXe⟩ : ∃ X : Nat → zV, X = fun L u v vs st M => ∀ lv, zpick lv (lvX13_verdictOf L) = some vs → zAt p l e R s m args below meth c (MQ below (zQ G Q) args s mc ms (zA G)) G 3 L u v lv st M := ⟨_, rfl⟩
  have hJ : ∀ L, zOk p l e R s m args below meth c (MQ below (zQ G Q) args s mc ms (zA G)) G 3 L (zj X L (lvX13_verdictOf L)) := fun L => S_jump (fun u v lv vs st M hp hx => by rw [hXe] at hx; exact hx lv hp)
  have hB0 : zin 3 [0, 1] (aX13_verdictOf_0 mc ms X Q) X 0 := by
    intro u v vs st M hb
    rw [hXe]
    refine fun lv hp => S_block (L := 0) (live := [0, 1]) ?_ u v lv vs st M hp hb
    unfold aX13_verdictOf_0
    refine S_aload_n (pc := 0) hC dX13_verdictOf_0 rfl ?_
    refine S_getR (pc := 1) hC cfX13 (by decide) (Or.inr ⟨_, rfl⟩) wd_1273 dX13_verdictOf_1 ?_
    refine S_iconst (pc := 4) hC dX13_verdictOf_4 (by decide) ?_
    refine S_iaload (pc := 5) hC dX13_verdictOf_5 ?_
    refine S_if_ne (pc := 6) (tgt := 30) hC dX13_verdictOf_6 (by decide) ?_ ?_
    · refine S_aload_n (pc := 30) hC dX13_verdictOf_30 rfl ?_
      refine S_getR (pc := 31) hC cfX13 (by decide) (Or.inr ⟨_, rfl⟩) wd_1271 dX13_verdictOf_31 ?_
      refine S_bipush (pc := 34) hC dX13_verdictOf_34 (by decide) ?_
      refine S_iaload (pc := 36) hC dX13_verdictOf_36 ?_
      refine S_istore_n_N (pc := 37) hC dX13_verdictOf_37 rfl (by decide) ?_
      unfold kX13_verdictOf_38
      refine S_aload_n (pc := 38) hC dX13_verdictOf_38 rfl ?_
      refine S_callV (pc := 39) hC (sX13_isDead l G) rfl wd_1496 wd_1498 ws_83 wd_12 wd_1499 (by decide +kernel) ⟨by rw [hRf]; decide, by rw [hRl]; decide⟩ dX13_verdictOf_39 ?_
      unfold kX13_verdictOf_42
      refine S_if_eq (pc := 42) (tgt := 49) hC dX13_verdictOf_42 (by decide) ?_ ?_
      · refine S_iload_n (pc := 49) hC dX13_verdictOf_49 rfl ?_
        refine S_iconst (pc := 50) hC dX13_verdictOf_50 (by decide) ?_
        refine S_icmp_lt (pc := 51) (tgt := 58) hC dX13_verdictOf_51 (by decide) ?_ ?_
        · refine S_iload_n (pc := 58) hC dX13_verdictOf_58 rfl ?_
          refine S_sipush (pc := 59) hC dX13_verdictOf_59 (by decide) ?_
          refine S_icmp_lt (pc := 62) (tgt := 69) hC dX13_verdictOf_62 (by decide) ?_ ?_
          · refine S_iload_n (pc := 69) hC dX13_verdictOf_69 rfl ?_
            refine S_iconst (pc := 70) hC dX13_verdictOf_70 (by decide) ?_
            refine S_icmp_lt (pc := 71) (tgt := 90) hC dX13_verdictOf_71 (by decide) ?_ ?_
            · refine S_iload_n (pc := 90) hC dX13_verdictOf_90 rfl ?_
              refine S_bipush (pc := 91) hC dX13_verdictOf_91 (by decide) ?_
              refine S_icmp_lt (pc := 93) (tgt := 101) hC dX13_verdictOf_93 (by decide) ?_ ?_
              · refine S_iconst (pc := 101) hC dX13_verdictOf_101 (by decide) ?_
                exact hJ 102
              · refine S_bipush (pc := 96) hC dX13_verdictOf_96 (by decide) ?_
                refine S_goto (pc := 98) (tgt := 102) hC dX13_verdictOf_98 (by decide) ?_
                exact hJ 102
            · refine S_iload_n (pc := 74) hC dX13_verdictOf_74 rfl ?_
              refine S_bipush (pc := 75) hC dX13_verdictOf_75 (by decide) ?_
              refine S_icmp_lt (pc := 77) (tgt := 85) hC dX13_verdictOf_77 (by decide) ?_ ?_
              · refine S_bipush (pc := 85) hC dX13_verdictOf_85 (by decide) ?_
                refine S_goto (pc := 87) (tgt := 102) hC dX13_verdictOf_87 (by decide) ?_
                exact hJ 102
              · refine S_bipush (pc := 80) hC dX13_verdictOf_80 (by decide) ?_
                refine S_goto (pc := 82) (tgt := 102) hC dX13_verdictOf_82 (by decide) ?_
                exact hJ 102
          · refine S_iconst (pc := 65) hC dX13_verdictOf_65 (by decide) ?_
            refine S_goto (pc := 66) (tgt := 102) hC dX13_verdictOf_66 (by decide) ?_
            exact hJ 102
        · refine S_iconst (pc := 54) hC dX13_verdictOf_54 (by decide) ?_
          refine S_goto (pc := 55) (tgt := 102) hC dX13_verdictOf_55 (by decide) ?_
          exact hJ 102
      · refine S_iconst (pc := 45) hC dX13_verdictOf_45 (by decide) ?_
        refine S_goto (pc := 46) (tgt := 102) hC dX13_verdictOf_46 (by decide) ?_
        exact hJ 102
    · refine S_aload_n (pc := 9) hC dX13_verdictOf_9 rfl ?_
      refine S_iconst (pc := 10) hC dX13_verdictOf_10 (by decide) ?_
      refine S_aload_n (pc := 11) hC dX13_verdictOf_11 rfl ?_
      refine S_getR (pc := 12) hC cfX13 (by decide) (Or.inr ⟨_, rfl⟩) wd_1271 dX13_verdictOf_12 ?_
      refine S_bipush (pc := 15) hC dX13_verdictOf_15 (by decide) ?_
      refine S_iaload (pc := 17) hC dX13_verdictOf_17 ?_
      refine S_callV (pc := 18) hC (sX13_isChecked l G) rfl wd_1417 wd_1419 ws_67 wd_12 wd_1420 (by decide +kernel) ⟨by rw [hRf]; decide, by rw [hRl]; decide⟩ dX13_verdictOf_18 ?_
      unfold kX13_verdictOf_21
      refine S_if_eq (pc := 21) (tgt := 28) hC dX13_verdictOf_21 (by decide) ?_ ?_
      · refine S_iconst (pc := 28) hC dX13_verdictOf_28 (by decide) ?_
        exact hJ 29
      · refine S_iconst (pc := 24) hC dX13_verdictOf_24 (by decide) ?_
        refine S_goto (pc := 25) (tgt := 29) hC dX13_verdictOf_25 (by decide) ?_
        exact hJ 29
  have hB29 : zin 3 [] (aX13_verdictOf_29 mc ms X Q) X 29 := by
    intro u v vs st M hb
    rw [hXe]
    refine fun lv hp => S_block (L := 29) (live := []) ?_ u v lv vs st M hp hb
    unfold aX13_verdictOf_29
    exact S_ireturn (pc := 29) hC hr dX13_verdictOf_29
  have hB102 : zin 3 [] (aX13_verdictOf_102 mc ms X Q) X 102 := by
    intro u v vs st M hb
    rw [hXe]
    refine fun lv hp => S_block (L := 102) (live := []) ?_ u v lv vs st M hp hb
    unfold aX13_verdictOf_102
    exact S_ireturn (pc := 102) hC hr dX13_verdictOf_102
  have := h.2 X hB0 hB29 hB102
  rw [hXe] at this
  exact this lv hlv
theorem vcX13_verdictOf_38 {mc ms : Nat} {X : Nat → zV} {Q : zQt} {M : zM} {x1 : Int32} {x2 : Int32} (hW : zFix M)  (h : wX13_isDead 0 0 [.ref 55] M (fun r M1 => kX13_verdictOf_42 mc ms X Q 0 0 [some (.ref 55), some (.int x1), some (.int x2)] (r.toList ++ []) M1)) : kX13_verdictOf_38 mc ms X Q 0 0 [some (.ref 55), some (.int x1), some (.int x2)] [] M := ⟨Nat.le_of_ble_eq_true rfl, rfl, (fxs_55 hW), 0, 0, Nat.zero_le _, Nat.zero_le _, h⟩
theorem vX13_verdictOf_0 {mc ms : Nat} {X : Nat → zV} {Q : zQt} {M : zM} {x1 : Int32} (hW : zFix M)  (h : (((M : zM).1 67 (0 : Int32).toNatClampNeg) = 0 → wX13_isChecked 0 0 [.ref 55, .int 0, .int ((M : zM).1 65 (64 : Int32).toNatClampNeg)] M (fun r M1 => kX13_verdictOf_21 mc ms X Q 0 0 [some (.ref 55), some (.int x1), none] (r.toList ++ []) M1)) ∧ (¬ ((M : zM).1 67 (0 : Int32).toNatClampNeg) = 0 → ∀ y37 : Int32, y37 = ((M : zM).1 65 (67 : Int32).toNatClampNeg) → wX13_isDead 0 0 [.ref 55] M (fun r M1 => kX13_verdictOf_42 mc ms X Q 0 0 [some (.ref 55), some (.int x1), some (.int y37)] (r.toList ++ []) M1))) : aX13_verdictOf_0 mc ms X Q 0 0 [some (.ref 55), some (.int x1), none] [] M := ⟨(fxs_55 hW), 67, (fxr_55_18 hW), ⟨6, (fxs_67 hW), by unfold vp_in; decide, ⟨fun c6 => ⟨(fxs_55 hW), 65, (fxr_55_16 hW), ⟨414, (fxs_65 hW), by unfold vp_in; decide, ⟨Nat.le_of_ble_eq_true rfl, rfl, (fxs_55 hW), 0, 0, Nat.zero_le _, Nat.zero_le _, (h.1 c6)⟩⟩⟩, fun c6 => ⟨(fxs_55 hW), 65, (fxr_55_16 hW), ⟨414, (fxs_65 hW), by unfold vp_in; decide, (fun y37 e37 => have h37 := (h.2 c6) y37 e37; (vcX13_verdictOf_38 hW  h37))⟩⟩⟩⟩⟩
theorem vX13_verdictOf_29 {mc ms : Nat} {X : Nat → zV} {Q : zQt} {M : zM} {s0 : Int32} (hW : zFix M)  (h : Q (some (.int s0)) M) : aX13_verdictOf_29 mc ms X Q 0 0 [none, none, none] [.int s0] M := h
theorem vX13_verdictOf_102 {mc ms : Nat} {X : Nat → zV} {Q : zQt} {M : zM} {s0 : Int32} (hW : zFix M)  (h : Q (some (.int s0)) M) : aX13_verdictOf_102 mc ms X Q 0 0 [none, none, none] [.int s0] M := h
theorem vkX13_verdictOf_21 {mc ms : Nat} {X : Nat → zV} {Q : zQt} {M : zM} {x1 : Int32} {s0 : Int32} (hW : zFix M)  (h : (s0 = 0 → X 29 0 0 [] [.int 2] M) ∧ (¬ s0 = 0 → X 29 0 0 [] [.int 1] M)) : kX13_verdictOf_21 mc ms X Q 0 0 [some (.ref 55), some (.int x1), none] [.int s0] M := ⟨fun c21 => (h.1 c21), fun c21 => (h.2 c21)⟩
theorem vkX13_verdictOf_42 {mc ms : Nat} {X : Nat → zV} {Q : zQt} {M : zM} {x1 : Int32} {x2 : Int32} {s0 : Int32} (hW : zFix M)  (h : (s0 = 0 → (x1 < (5 : Int32) → (x2 < (150 : Int32) → (x1 < (3 : Int32) → (x2 < (100 : Int32) → X 102 0 0 [] [.int 0] M) ∧ (¬ x2 < (100 : Int32) → X 102 0 0 [] [.int 7] M)) ∧ (¬ x1 < (3 : Int32) → (x2 < (100 : Int32) → X 102 0 0 [] [.int 6] M) ∧ (¬ x2 < (100 : Int32) → X 102 0 0 [] [.int 8] M))) ∧ (¬ x2 < (150 : Int32) → X 102 0 0 [] [.int 5] M)) ∧ (¬ x1 < (5 : Int32) → X 102 0 0 [] [.int 4] M)) ∧ (¬ s0 = 0 → X 102 0 0 [] [.int 3] M)) : kX13_verdictOf_42 mc ms X Q 0 0 [some (.ref 55), some (.int x1), some (.int x2)] [.int s0] M := ⟨fun c42 => ⟨fun c51 => ⟨fun c62 => ⟨fun c71 => ⟨fun c93 => (((((h.1 c42).1 c51).1 c62).1 c71).1 c93), fun c93 => (((((h.1 c42).1 c51).1 c62).1 c71).2 c93)⟩, fun c71 => ⟨fun c77 => (((((h.1 c42).1 c51).1 c62).2 c71).1 c77), fun c77 => (((((h.1 c42).1 c51).1 c62).2 c71).2 c77)⟩⟩, fun c62 => (((h.1 c42).1 c51).2 c62)⟩, fun c51 => ((h.1 c42).2 c51)⟩, fun c42 => (h.2 c42)⟩
theorem dX13_passingFile_0 : decode cX13_passingFile 0 = .ok (.iconst 0, 1) := by decide +kernel
theorem dX13_passingFile_1 : decode cX13_passingFile 1 = .ok (.istore_n 1, 1) := by decide +kernel
theorem dX13_passingFile_2 : decode cX13_passingFile 2 = .ok (.iload_n 1, 1) := by decide +kernel
theorem dX13_passingFile_3 : decode cX13_passingFile 3 = .ok (.aload_n 0, 1) := by decide +kernel
theorem dX13_passingFile_4 : decode cX13_passingFile 4 = .ok (.getfield 49, 3) := by decide +kernel
theorem dX13_passingFile_7 : decode cX13_passingFile 7 = .ok (.iconst 0, 1) := by decide +kernel
theorem dX13_passingFile_8 : decode cX13_passingFile 8 = .ok (.iaload, 1) := by decide +kernel
theorem dX13_passingFile_9 : decode cX13_passingFile 9 = .ok (.if_icmp .ge 48, 3) := by decide +kernel
theorem dX13_passingFile_12 : decode cX13_passingFile 12 = .ok (.aload_n 0, 1) := by decide +kernel
theorem dX13_passingFile_13 : decode cX13_passingFile 13 = .ok (.iconst 0, 1) := by decide +kernel
theorem dX13_passingFile_14 : decode cX13_passingFile 14 = .ok (.aload_n 0, 1) := by decide +kernel
theorem dX13_passingFile_15 : decode cX13_passingFile 15 = .ok (.getfield 46, 3) := by decide +kernel
theorem dX13_passingFile_18 : decode cX13_passingFile 18 = .ok (.iload_n 1, 1) := by decide +kernel
theorem dX13_passingFile_19 : decode cX13_passingFile 19 = .ok (.iaload, 1) := by decide +kernel
theorem dX13_passingFile_20 : decode cX13_passingFile 20 = .ok (.invokestatic 100, 3) := by decide +kernel
theorem dX13_passingFile_23 : decode cX13_passingFile 23 = .ok (.aload_n 0, 1) := by decide +kernel
theorem dX13_passingFile_24 : decode cX13_passingFile 24 = .ok (.getfield 46, 3) := by decide +kernel
theorem dX13_passingFile_27 : decode cX13_passingFile 27 = .ok (.iload_n 1, 1) := by decide +kernel
theorem dX13_passingFile_28 : decode cX13_passingFile 28 = .ok (.iaload, 1) := by decide +kernel
theorem dX13_passingFile_29 : decode cX13_passingFile 29 = .ok (.invokestatic 103, 3) := by decide +kernel
theorem dX13_passingFile_32 : decode cX13_passingFile 32 = .ok (.invokevirtual 91, 3) := by decide +kernel
theorem dX13_passingFile_35 : decode cX13_passingFile 35 = .ok (.ifCond .eq 16, 3) := by decide +kernel
theorem dX13_passingFile_38 : decode cX13_passingFile 38 = .ok (.aload_n 0, 1) := by decide +kernel
theorem dX13_passingFile_39 : decode cX13_passingFile 39 = .ok (.getfield 46, 3) := by decide +kernel
theorem dX13_passingFile_42 : decode cX13_passingFile 42 = .ok (.iload_n 1, 1) := by decide +kernel
theorem dX13_passingFile_43 : decode cX13_passingFile 43 = .ok (.iaload, 1) := by decide +kernel
theorem dX13_passingFile_44 : decode cX13_passingFile 44 = .ok (.invokestatic 103, 3) := by decide +kernel
theorem dX13_passingFile_47 : decode cX13_passingFile 47 = .ok (.bipush 8, 2) := by decide +kernel
theorem dX13_passingFile_49 : decode cX13_passingFile 49 = .ok (.irem, 1) := by decide +kernel
theorem dX13_passingFile_50 : decode cX13_passingFile 50 = .ok (.ireturn, 1) := by decide +kernel
theorem dX13_passingFile_51 : decode cX13_passingFile 51 = .ok (.iinc 1 1, 3) := by decide +kernel
theorem dX13_passingFile_54 : decode cX13_passingFile 54 = .ok (.goto (-52), 3) := by decide +kernel
theorem dX13_passingFile_57 : decode cX13_passingFile 57 = .ok (.iconst (-1), 1) := by decide +kernel
theorem dX13_passingFile_58 : decode cX13_passingFile 58 = .ok (.ireturn, 1) := by decide +kernel
def kX13_passingFile_47 (mc ms : Nat) (X : Nat → zV) (Q : zQt) : zT :=
  zc (.int 8) <| zid (fun x y => x - x / y * y) <| zri Q
def kX13_passingFile_35 (mc ms : Nat) (X : Nat → zV) (Q : zQt) : zT :=
  zif (fun x => x = 0) (zinc 1 1 <| zj X 2 [0, 1]) <| zla 0 <| zgR 13 17 <| zli 1 <| zal 1 <| zcs mc ms 1 wX13_toOf <| kX13_passingFile_47 mc ms X Q
def kX13_passingFile_32 (mc ms : Nat) (X : Nat → zV) (Q : zQt) : zT :=
  zcv mc ms 13 3 wX13_takesInPassing <| kX13_passingFile_35 mc ms X Q
def kX13_passingFile_23 (mc ms : Nat) (X : Nat → zV) (Q : zQt) : zT :=
  zla 0 <| zgR 13 17 <| zli 1 <| zal 1 <| zcs mc ms 1 wX13_toOf <| kX13_passingFile_32 mc ms X Q
def aX13_passingFile_0 (mc ms : Nat) (X : Nat → zV) (Q : zQt) : zT :=
  zc (.int 0) <| zsi 1 <| zj X 2 [0, 1]
def aX13_passingFile_2 (mc ms : Nat) (X : Nat → zV) (Q : zQt) : zT :=
  zli 1 <| zla 0 <| zgR 13 18 <| zc (.int 0) <| zal 1 <| zic (fun x y => y ≤ x) (zc (.int (-1)) <| zri Q) <| zla 0 <| zc (.int 0) <| zla 0 <| zgR 13 17 <| zli 1 <| zal 1 <| zcs mc ms 1 wX13_fromOf <| kX13_passingFile_23 mc ms X Q
def lvX13_passingFile : Nat → List Nat := fun L => match L with
  | 0 => [0]
  | 2 => [0, 1]
  | _ => []
def wX13_passingFile : zSp := fun mc ms av M Q => ((zlay av).length ≤ 2 ∧ zpick (zlay av) [0] = some av) ∧ ∀ X : Nat → zV, zin 2 [0] (aX13_passingFile_0 mc ms X Q) X 0 → zin 2 [0, 1] (aX13_passingFile_2 mc ms X Q) X 2 → X 0 0 0 av [] M
set_option maxRecDepth 100000 in
set_option maxHeartbeats 4000000 in
theorem sX13_passingFile (l : Launch) (G : zG) : zSnd l G yX13_passingFile cX13_passingFile 2 (some .int) 3 78 wX13_passingFile := by
  refine zmk [0] (by decide) (fun mc ms av M Q h => h.1) ?_
  intro p e R s m args below meth c mc ms av M Q hC hRf hRl hr hnm h lv hlv
  obtain ⟨X, hXe⟩ : ∃ X : Nat → zV, X = fun L u v vs st M => ∀ lv, zpick lv (lvX13_passingFile L) = some vs → zAt p l e R s m args below meth c (MQ below (zQ G Q) args s mc ms (zA G)) G 2 L u v lv st M := ⟨_, rfl⟩
  have hJ : ∀ L, zOk p l e R s m args below meth c (MQ below (zQ G Q) args s mc ms (zA G)) G 2 L (zj X L (lvX13_passingFile L)) := fun L => S_jump (fun u v lv vs st M hp hx => by rw [hXe] at hx; exact hx lv hp)
  have hB0 : zin 2 [0] (aX13_passingFile_0 mc ms X Q) X 0 := by
    intro u v vs st M hb
    rw [hXe]
    refine fun lv hp => S_block (L := 0) (live := [0]) ?_ u v lv vs st M hp hb
    unfold aX13_passingFile_0
    refine S_iconst (pc := 0) hC dX13_passingFile_0 (by decide) ?_
    refine S_istore_n (pc := 1) hC dX13_passingFile_1 rfl (by decide) ?_
    exact hJ 2
  have hB2 : zin 2 [0, 1] (aX13_passingFile_2 mc ms X Q) X 2 := by
    intro u v vs st M hb
    rw [hXe]
    refine fun lv hp => S_block (L := 2) (live := [0, 1]) ?_ u v lv vs st M hp hb
    unfold aX13_passingFile_2
    refine S_iload_n (pc := 2) hC dX13_passingFile_2 rfl ?_
    refine S_aload_n (pc := 3) hC dX13_passingFile_3 rfl ?_
    refine S_getR (pc := 4) hC cfX13 (by decide) (Or.inr ⟨_, rfl⟩) wd_1273 dX13_passingFile_4 ?_
    refine S_iconst (pc := 7) hC dX13_passingFile_7 (by decide) ?_
    refine S_iaload (pc := 8) hC dX13_passingFile_8 ?_
    refine S_icmp_ge (pc := 9) (tgt := 57) hC dX13_passingFile_9 (by decide) ?_ ?_
    · refine S_iconst (pc := 57) hC dX13_passingFile_57 (by decide) ?_
      exact S_ireturn (pc := 58) hC hr dX13_passingFile_58
    · refine S_aload_n (pc := 12) hC dX13_passingFile_12 rfl ?_
      refine S_iconst (pc := 13) hC dX13_passingFile_13 (by decide) ?_
      refine S_aload_n (pc := 14) hC dX13_passingFile_14 rfl ?_
      refine S_getR (pc := 15) hC cfX13 (by decide) (Or.inr ⟨_, rfl⟩) wd_1272 dX13_passingFile_15 ?_
      refine S_iload_n (pc := 18) hC dX13_passingFile_18 rfl ?_
      refine S_iaload (pc := 19) hC dX13_passingFile_19 ?_
      refine S_callS (pc := 20) hC (sX13_fromOf l G) wd_1475 wd_1476 wd_12 wd_1477 (by decide +kernel) ⟨by rw [hRf]; decide, by rw [hRl]; decide⟩ dX13_passingFile_20 ?_
      unfold kX13_passingFile_23
      refine S_aload_n (pc := 23) hC dX13_passingFile_23 rfl ?_
      refine S_getR (pc := 24) hC cfX13 (by decide) (Or.inr ⟨_, rfl⟩) wd_1272 dX13_passingFile_24 ?_
      refine S_iload_n (pc := 27) hC dX13_passingFile_27 rfl ?_
      refine S_iaload (pc := 28) hC dX13_passingFile_28 ?_
      refine S_callS (pc := 29) hC (sX13_toOf l G) wd_1478 wd_1479 wd_12 wd_1480 (by decide +kernel) ⟨by rw [hRf]; decide, by rw [hRl]; decide⟩ dX13_passingFile_29 ?_
      unfold kX13_passingFile_32
      refine S_callV (pc := 32) hC (sX13_takesInPassing l G) rfl wd_1459 wd_1461 ws_76 wd_12 wd_1462 (by decide +kernel) ⟨by rw [hRf]; decide, by rw [hRl]; decide⟩ dX13_passingFile_32 ?_
      unfold kX13_passingFile_35
      refine S_if_eq (pc := 35) (tgt := 51) hC dX13_passingFile_35 (by decide) ?_ ?_
      · refine S_iinc (pc := 51) hC dX13_passingFile_51 (by decide) (by decide) ?_
        refine S_goto (pc := 54) (tgt := 2) hC dX13_passingFile_54 (by decide) ?_
        exact hJ 2
      · refine S_aload_n (pc := 38) hC dX13_passingFile_38 rfl ?_
        refine S_getR (pc := 39) hC cfX13 (by decide) (Or.inr ⟨_, rfl⟩) wd_1272 dX13_passingFile_39 ?_
        refine S_iload_n (pc := 42) hC dX13_passingFile_42 rfl ?_
        refine S_iaload (pc := 43) hC dX13_passingFile_43 ?_
        refine S_callS (pc := 44) hC (sX13_toOf l G) wd_1478 wd_1479 wd_12 wd_1480 (by decide +kernel) ⟨by rw [hRf]; decide, by rw [hRl]; decide⟩ dX13_passingFile_44 ?_
        unfold kX13_passingFile_47
        refine S_bipush (pc := 47) hC dX13_passingFile_47 (by decide) ?_
        refine S_irem (pc := 49) hC dX13_passingFile_49 ?_
        exact S_ireturn (pc := 50) hC hr dX13_passingFile_50
  have := h.2 X hB0 hB2
  rw [hXe] at this
  exact this lv hlv
theorem vX13_passingFile_0 {mc ms : Nat} {X : Nat → zV} {Q : zQt} {M : zM}  (hW : zFix M)  (h : X 2 0 0 [.ref 55, .int 0] [] M) : aX13_passingFile_0 mc ms X Q 0 0 [some (.ref 55), none] [] M := h
theorem vX13_passingFile_2 {mc ms : Nat} {X : Nat → zV} {Q : zQt} {M : zM} {x1 : Int32} (hW : zFix M)  (h : (((M : zM).1 67 (0 : Int32).toNatClampNeg) ≤ x1 → Q (some (.int ((-1)))) M) ∧ (¬ ((M : zM).1 67 (0 : Int32).toNatClampNeg) ≤ x1 → vp_in x1 1980 ∧ wX13_fromOf 0 0 [.int ((M : zM).1 66 (x1 : Int32).toNatClampNeg)] M (fun r M1 => kX13_passingFile_23 mc ms X Q 0 0 [some (.ref 55), some (.int x1)] (r.toList ++ [.int 0, .ref 55]) M1))) : aX13_passingFile_2 mc ms X Q 0 0 [some (.ref 55), some (.int x1)] [] M := ⟨(fxs_55 hW), 67, (fxr_55_18 hW), ⟨6, (fxs_67 hW), by unfold vp_in; decide, ⟨fun c9 => (h.1 c9), fun c9 => ⟨(fxs_55 hW), 66, (fxr_55_17 hW), ⟨1980, (fxs_66 hW), (h.2 c9).1, ⟨Nat.le_of_ble_eq_true rfl, rfl, 0, 0, Nat.zero_le _, Nat.zero_le _, (h.2 c9).2⟩⟩⟩⟩⟩⟩
theorem vkX13_passingFile_23 {mc ms : Nat} {X : Nat → zV} {Q : zQt} {M : zM} {x1 : Int32} {s0 : Int32} {s1 : Int32} (hW : zFix M)  (h : vp_in x1 1980 ∧ wX13_toOf 0 0 [.int ((M : zM).1 66 (x1 : Int32).toNatClampNeg)] M (fun r M1 => kX13_passingFile_32 mc ms X Q 0 0 [some (.ref 55), some (.int x1)] (r.toList ++ [.int s0, .int s1, .ref 55]) M1)) : kX13_passingFile_23 mc ms X Q 0 0 [some (.ref 55), some (.int x1)] [.int s0, .int s1, .ref 55] M := ⟨(fxs_55 hW), 66, (fxr_55_17 hW), ⟨1980, (fxs_66 hW), h.1, ⟨Nat.le_of_ble_eq_true rfl, rfl, 0, 0, Nat.zero_le _, Nat.zero_le _, h.2⟩⟩⟩
theorem vkX13_passingFile_32 {mc ms : Nat} {X : Nat → zV} {Q : zQt} {M : zM} {x1 : Int32} {s0 : Int32} {s1 : Int32} {s2 : Int32} (hW : zFix M)  (h : wX13_takesInPassing 0 0 [.ref 55, .int s2, .int s1, .int s0] M (fun r M1 => kX13_passingFile_35 mc ms X Q 0 0 [some (.ref 55), some (.int x1)] (r.toList ++ []) M1)) : kX13_passingFile_32 mc ms X Q 0 0 [some (.ref 55), some (.int x1)] [.int s0, .int s1, .int s2, .ref 55] M := ⟨Nat.le_of_ble_eq_true rfl, rfl, (fxs_55 hW), 0, 0, Nat.zero_le _, Nat.zero_le _, h⟩
theorem vkX13_passingFile_35 {mc ms : Nat} {X : Nat → zV} {Q : zQt} {M : zM} {x1 : Int32} {s0 : Int32} (hW : zFix M)  (h : (s0 = 0 → X 2 0 0 [.ref 55, .int (x1 + 1)] [] M) ∧ (¬ s0 = 0 → vp_in x1 1980 ∧ wX13_toOf 0 0 [.int ((M : zM).1 66 (x1 : Int32).toNatClampNeg)] M (fun r M1 => kX13_passingFile_47 mc ms X Q 0 0 [some (.ref 55), some (.int x1)] (r.toList ++ []) M1))) : kX13_passingFile_35 mc ms X Q 0 0 [some (.ref 55), some (.int x1)] [.int s0] M := ⟨fun c35 => (h.1 c35), fun c35 => ⟨(fxs_55 hW), 66, (fxr_55_17 hW), ⟨1980, (fxs_66 hW), (h.2 c35).1, ⟨Nat.le_of_ble_eq_true rfl, rfl, 0, 0, Nat.zero_le _, Nat.zero_le _, (h.2 c35).2⟩⟩⟩⟩
theorem vkX13_passingFile_47 {mc ms : Nat} {X : Nat → zV} {Q : zQt} {M : zM} {x1 : Int32} {s0 : Int32} (hW : zFix M)  (h : Q (some (.int ((s0 - s0 / (8 : Int32) * (8 : Int32))))) M) : kX13_passingFile_47 mc ms X Q 0 0 [some (.ref 55), some (.int x1)] [.int s0] M := ⟨by decide, h⟩
theorem dX13_add_0 : decode cX13_add 0 = .ok (.aload_n 0, 1) := by decide +kernel
theorem dX13_add_1 : decode cX13_add 1 = .ok (.getfield 22, 3) := by decide +kernel
theorem dX13_add_4 : decode cX13_add 4 = .ok (.aload_n 0, 1) := by decide +kernel
theorem dX13_add_5 : decode cX13_add 5 = .ok (.getfield 123, 3) := by decide +kernel
theorem dX13_add_8 : decode cX13_add 8 = .ok (.iaload, 1) := by decide +kernel
theorem dX13_add_9 : decode cX13_add 9 = .ok (.istore_n 2, 1) := by decide +kernel
theorem dX13_add_10 : decode cX13_add 10 = .ok (.aload_n 0, 1) := by decide +kernel
theorem dX13_add_11 : decode cX13_add 11 = .ok (.invokevirtual 126, 3) := by decide +kernel
theorem dX13_add_14 : decode cX13_add 14 = .ok (.iload_n 2, 1) := by decide +kernel
theorem dX13_add_15 : decode cX13_add 15 = .ok (.iadd, 1) := by decide +kernel
theorem dX13_add_16 : decode cX13_add 16 = .ok (.istore_n 3, 1) := by decide +kernel
theorem dX13_add_17 : decode cX13_add 17 = .ok (.iconst 0, 1) := by decide +kernel
theorem dX13_add_18 : decode cX13_add 18 = .ok (.istore 4, 2) := by decide +kernel
theorem dX13_add_20 : decode cX13_add 20 = .ok (.iload 4, 2) := by decide +kernel
theorem dX13_add_22 : decode cX13_add 22 = .ok (.bipush 69, 2) := by decide +kernel
theorem dX13_add_24 : decode cX13_add 24 = .ok (.if_icmp .ge 28, 3) := by decide +kernel
theorem dX13_add_27 : decode cX13_add 27 = .ok (.aload_n 0, 1) := by decide +kernel
theorem dX13_add_28 : decode cX13_add 28 = .ok (.getfield 18, 3) := by decide +kernel
theorem dX13_add_31 : decode cX13_add 31 = .ok (.bipush 69, 2) := by decide +kernel
theorem dX13_add_33 : decode cX13_add 33 = .ok (.iload_n 3, 1) := by decide +kernel
theorem dX13_add_34 : decode cX13_add 34 = .ok (.imul, 1) := by decide +kernel
theorem dX13_add_35 : decode cX13_add 35 = .ok (.iload 4, 2) := by decide +kernel
theorem dX13_add_37 : decode cX13_add 37 = .ok (.iadd, 1) := by decide +kernel
theorem dX13_add_38 : decode cX13_add 38 = .ok (.aload_n 0, 1) := by decide +kernel
theorem dX13_add_39 : decode cX13_add 39 = .ok (.getfield 43, 3) := by decide +kernel
theorem dX13_add_42 : decode cX13_add 42 = .ok (.iload 4, 2) := by decide +kernel
theorem dX13_add_44 : decode cX13_add 44 = .ok (.iaload, 1) := by decide +kernel
theorem dX13_add_45 : decode cX13_add 45 = .ok (.iastore, 1) := by decide +kernel
theorem dX13_add_46 : decode cX13_add 46 = .ok (.iinc 4 1, 3) := by decide +kernel
theorem dX13_add_49 : decode cX13_add 49 = .ok (.goto (-29), 3) := by decide +kernel
theorem dX13_add_52 : decode cX13_add 52 = .ok (.aload_n 0, 1) := by decide +kernel
theorem dX13_add_53 : decode cX13_add 53 = .ok (.iconst 0, 1) := by decide +kernel
theorem dX13_add_54 : decode cX13_add 54 = .ok (.invokevirtual 130, 3) := by decide +kernel
theorem dX13_add_57 : decode cX13_add 57 = .ok (.aload_n 0, 1) := by decide +kernel
theorem dX13_add_58 : decode cX13_add 58 = .ok (.getfield 25, 3) := by decide +kernel
theorem dX13_add_61 : decode cX13_add 61 = .ok (.iload_n 3, 1) := by decide +kernel
theorem dX13_add_62 : decode cX13_add 62 = .ok (.iload_n 1, 1) := by decide +kernel
theorem dX13_add_63 : decode cX13_add 63 = .ok (.iastore, 1) := by decide +kernel
theorem dX13_add_64 : decode cX13_add 64 = .ok (.aload_n 0, 1) := by decide +kernel
theorem dX13_add_65 : decode cX13_add 65 = .ok (.getfield 28, 3) := by decide +kernel
theorem dX13_add_68 : decode cX13_add 68 = .ok (.iload_n 3, 1) := by decide +kernel
theorem dX13_add_69 : decode cX13_add 69 = .ok (.aload_n 0, 1) := by decide +kernel
theorem dX13_add_70 : decode cX13_add 70 = .ok (.getfield 49, 3) := by decide +kernel
theorem dX13_add_73 : decode cX13_add 73 = .ok (.iconst 0, 1) := by decide +kernel
theorem dX13_add_74 : decode cX13_add 74 = .ok (.iaload, 1) := by decide +kernel
theorem dX13_add_75 : decode cX13_add 75 = .ok (.iastore, 1) := by decide +kernel
theorem dX13_add_76 : decode cX13_add 76 = .ok (.aload_n 0, 1) := by decide +kernel
theorem dX13_add_77 : decode cX13_add 77 = .ok (.getfield 31, 3) := by decide +kernel
theorem dX13_add_80 : decode cX13_add 80 = .ok (.iload_n 3, 1) := by decide +kernel
theorem dX13_add_81 : decode cX13_add 81 = .ok (.aload_n 0, 1) := by decide +kernel
theorem dX13_add_82 : decode cX13_add 82 = .ok (.iconst 0, 1) := by decide +kernel
theorem dX13_add_83 : decode cX13_add 83 = .ok (.aload_n 0, 1) := by decide +kernel
theorem dX13_add_84 : decode cX13_add 84 = .ok (.getfield 43, 3) := by decide +kernel
theorem dX13_add_87 : decode cX13_add 87 = .ok (.bipush 64, 2) := by decide +kernel
theorem dX13_add_89 : decode cX13_add 89 = .ok (.iaload, 1) := by decide +kernel
theorem dX13_add_90 : decode cX13_add 90 = .ok (.invokevirtual 116, 3) := by decide +kernel
theorem dX13_add_93 : decode cX13_add 93 = .ok (.ifCond .eq 7, 3) := by decide +kernel
theorem dX13_add_96 : decode cX13_add 96 = .ok (.iconst 1, 1) := by decide +kernel
theorem dX13_add_97 : decode cX13_add 97 = .ok (.goto 4, 3) := by decide +kernel
theorem dX13_add_100 : decode cX13_add 100 = .ok (.iconst 0, 1) := by decide +kernel
theorem dX13_add_101 : decode cX13_add 101 = .ok (.iastore, 1) := by decide +kernel
theorem dX13_add_102 : decode cX13_add 102 = .ok (.aload_n 0, 1) := by decide +kernel
theorem dX13_add_103 : decode cX13_add 103 = .ok (.getfield 34, 3) := by decide +kernel
theorem dX13_add_106 : decode cX13_add 106 = .ok (.iload_n 3, 1) := by decide +kernel
theorem dX13_add_107 : decode cX13_add 107 = .ok (.aload_n 0, 1) := by decide +kernel
theorem dX13_add_108 : decode cX13_add 108 = .ok (.invokevirtual 138, 3) := by decide +kernel
theorem dX13_add_111 : decode cX13_add 111 = .ok (.iastore, 1) := by decide +kernel
theorem dX13_add_112 : decode cX13_add 112 = .ok (.aload_n 0, 1) := by decide +kernel
theorem dX13_add_113 : decode cX13_add 113 = .ok (.getfield 22, 3) := by decide +kernel
theorem dX13_add_116 : decode cX13_add 116 = .ok (.aload_n 0, 1) := by decide +kernel
theorem dX13_add_117 : decode cX13_add 117 = .ok (.getfield 123, 3) := by decide +kernel
theorem dX13_add_120 : decode cX13_add 120 = .ok (.dup2, 1) := by decide +kernel
theorem dX13_add_121 : decode cX13_add 121 = .ok (.iaload, 1) := by decide +kernel
theorem dX13_add_122 : decode cX13_add 122 = .ok (.iconst 1, 1) := by decide +kernel
theorem dX13_add_123 : decode cX13_add 123 = .ok (.iadd, 1) := by decide +kernel
theorem dX13_add_124 : decode cX13_add 124 = .ok (.iastore, 1) := by decide +kernel
theorem dX13_add_125 : decode cX13_add 125 = .ok (.iconst 0, 1) := by decide +kernel
theorem dX13_add_126 : decode cX13_add 126 = .ok (.istore 4, 2) := by decide +kernel
theorem dX13_add_128 : decode cX13_add 128 = .ok (.iconst 0, 1) := by decide +kernel
theorem dX13_add_129 : decode cX13_add 129 = .ok (.istore 5, 2) := by decide +kernel
theorem dX13_add_131 : decode cX13_add 131 = .ok (.iload 5, 2) := by decide +kernel
theorem dX13_add_133 : decode cX13_add 133 = .ok (.iload_n 2, 1) := by decide +kernel
theorem dX13_add_134 : decode cX13_add 134 = .ok (.if_icmp .gt 29, 3) := by decide +kernel
theorem dX13_add_137 : decode cX13_add 137 = .ok (.iload 4, 2) := by decide +kernel
theorem dX13_add_139 : decode cX13_add 139 = .ok (.aload_n 0, 1) := by decide +kernel
theorem dX13_add_140 : decode cX13_add 140 = .ok (.iload_n 2, 1) := by decide +kernel
theorem dX13_add_141 : decode cX13_add 141 = .ok (.iload 5, 2) := by decide +kernel
theorem dX13_add_143 : decode cX13_add 143 = .ok (.invokevirtual 141, 3) := by decide +kernel
theorem dX13_add_146 : decode cX13_add 146 = .ok (.ifCond .eq 7, 3) := by decide +kernel
theorem dX13_add_149 : decode cX13_add 149 = .ok (.iconst 1, 1) := by decide +kernel
theorem dX13_add_150 : decode cX13_add 150 = .ok (.goto 4, 3) := by decide +kernel
theorem dX13_add_153 : decode cX13_add 153 = .ok (.iconst 0, 1) := by decide +kernel
theorem dX13_add_154 : decode cX13_add 154 = .ok (.iadd, 1) := by decide +kernel
theorem dX13_add_155 : decode cX13_add 155 = .ok (.istore 4, 2) := by decide +kernel
theorem dX13_add_157 : decode cX13_add 157 = .ok (.iinc 5 1, 3) := by decide +kernel
theorem dX13_add_160 : decode cX13_add 160 = .ok (.goto (-29), 3) := by decide +kernel
theorem dX13_add_163 : decode cX13_add 163 = .ok (.aload_n 0, 1) := by decide +kernel
theorem dX13_add_164 : decode cX13_add 164 = .ok (.getfield 37, 3) := by decide +kernel
theorem dX13_add_167 : decode cX13_add 167 = .ok (.iload_n 3, 1) := by decide +kernel
theorem dX13_add_168 : decode cX13_add 168 = .ok (.iload 4, 2) := by decide +kernel
theorem dX13_add_170 : decode cX13_add 170 = .ok (.iastore, 1) := by decide +kernel
theorem dX13_add_171 : decode cX13_add 171 = .ok (.aload_n 0, 1) := by decide +kernel
theorem dX13_add_172 : decode cX13_add 172 = .ok (.getfield 40, 3) := by decide +kernel
theorem dX13_add_175 : decode cX13_add 175 = .ok (.iload_n 3, 1) := by decide +kernel
theorem dX13_add_176 : decode cX13_add 176 = .ok (.aload_n 0, 1) := by decide +kernel
theorem dX13_add_177 : decode cX13_add 177 = .ok (.iload 4, 2) := by decide +kernel
theorem dX13_add_179 : decode cX13_add 179 = .ok (.invokevirtual 144, 3) := by decide +kernel
theorem dX13_add_182 : decode cX13_add 182 = .ok (.iastore, 1) := by decide +kernel
theorem dX13_add_183 : decode cX13_add 183 = .ok (.return_, 1) := by decide +kernel
def kX13_add_14 (mc ms : Nat) (X : Nat → zV) (Q : zQt) : zT :=
  zli 2 <| zii (fun x y => x + y) <| zsi 3 <| zc (.int 0) <| zsi 4 <| zj X 20 [0, 1, 2, 3, 4]
def kX13_add_10 (mc ms : Nat) (X : Nat → zV) (Q : zQt) : zT :=
  zla 0 <| zcv mc ms 13 0 wX13_base <| kX13_add_14 mc ms X Q
def kX13_add_93 (mc ms : Nat) (X : Nat → zV) (Q : zQt) : zT :=
  zif (fun x => x = 0) (zc (.int 0) <| zj X 101 [0, 2, 3]) <| zc (.int 1) <| zj X 101 [0, 2, 3]
def kX13_add_57 (mc ms : Nat) (X : Nat → zV) (Q : zQt) : zT :=
  zla 0 <| zgR 13 10 <| zli 3 <| zli 1 <| zas 1 (fun x => x) <| zla 0 <| zgR 13 11 <| zli 3 <| zla 0 <| zgR 13 18 <| zc (.int 0) <| zal 1 <| zas 1 (fun x => x) <| zla 0 <| zgR 13 12 <| zli 3 <| zla 0 <| zc (.int 0) <| zla 0 <| zgR 13 16 <| zc (.int 64) <| zal 1 <| zcv mc ms 13 2 wX13_isChecked <| kX13_add_93 mc ms X Q
def kX13_add_111 (mc ms : Nat) (X : Nat → zV) (Q : zQt) : zT :=
  zas 1 (fun x => x) <| zla 0 <| zgR 13 9 <| zla 0 <| zgi 13 6 <| zdp2 <| zal 1 <| zc (.int 1) <| zii (fun x y => x + y) <| zas 1 (fun x => x) <| zc (.int 0) <| zsi 4 <| zc (.int 0) <| zsi 5 <| zj X 131 [0, 2, 3, 4, 5]
def kX13_add_182 (mc ms : Nat) (X : Nat → zV) (Q : zQt) : zT :=
  zas 1 (fun x => x) <| zrv Q
def kX13_add_146 (mc ms : Nat) (X : Nat → zV) (Q : zQt) : zT :=
  zif (fun x => x = 0) (zc (.int 0) <| zj X 154 [0, 2, 3, 5]) <| zc (.int 1) <| zj X 154 [0, 2, 3, 5]
def aX13_add_0 (mc ms : Nat) (X : Nat → zV) (Q : zQt) : zT :=
  zla 0 <| zgR 13 9 <| zla 0 <| zgi 13 6 <| zal 1 <| zsiN 2 <| kX13_add_10 mc ms X Q
def aX13_add_20 (mc ms : Nat) (X : Nat → zV) (Q : zQt) : zT :=
  zli 4 <| zc (.int 69) <| zic (fun x y => y ≤ x) (zla 0 <| zc (.int 0) <| zcv mc ms 13 1 wX13_fill <| kX13_add_57 mc ms X Q) <| zla 0 <| zgR 13 8 <| zc (.int 69) <| zli 3 <| zii (fun x y => x * y) <| zli 4 <| zii (fun x y => x + y) <| zla 0 <| zgR 13 16 <| zli 4 <| zal 1 <| zas 1 (fun x => x) <| zinc 4 1 <| zj X 20 [0, 1, 2, 3, 4]
def aX13_add_101 (mc ms : Nat) (X : Nat → zV) (Q : zQt) : zT :=
  zas 1 (fun x => x) <| zla 0 <| zgR 13 13 <| zli 3 <| zla 0 <| zcv mc ms 13 0 wX13_passingFile <| kX13_add_111 mc ms X Q
def aX13_add_131 (mc ms : Nat) (X : Nat → zV) (Q : zQt) : zT :=
  zli 5 <| zli 2 <| zic (fun x y => y < x) (zla 0 <| zgR 13 14 <| zli 3 <| zli 4 <| zas 1 (fun x => x) <| zla 0 <| zgR 13 15 <| zli 3 <| zla 0 <| zli 4 <| zcv mc ms 13 1 wX13_verdictOf <| kX13_add_182 mc ms X Q) <| zli 4 <| zla 0 <| zli 2 <| zli 5 <| zcv mc ms 13 2 wX13_isSame <| kX13_add_146 mc ms X Q
def aX13_add_154 (mc ms : Nat) (X : Nat → zV) (Q : zQt) : zT :=
  zii (fun x y => x + y) <| zsi 4 <| zinc 5 1 <| zj X 131 [0, 2, 3, 4, 5]
def lvX13_add : Nat → List Nat := fun L => match L with
  | 0 => [0, 1]
  | 20 => [0, 1, 2, 3, 4]
  | 101 => [0, 2, 3]
  | 131 => [0, 2, 3, 4, 5]
  | 154 => [0, 2, 3, 5]
  | _ => []
def wX13_add : zSp := fun mc ms av M Q => ((zlay av).length ≤ 6 ∧ zpick (zlay av) [0, 1] = some av) ∧ ∀ X : Nat → zV, zin 6 [0, 1] (aX13_add_0 mc ms X Q) X 0 → zin 6 [0, 1, 2, 3, 4] (aX13_add_20 mc ms X Q) X 20 → zin 6 [0, 2, 3] (aX13_add_101 mc ms X Q) X 101 → zin 6 [0, 2, 3, 4, 5] (aX13_add_131 mc ms X Q) X 131 → zin 6 [0, 2, 3, 5] (aX13_add_154 mc ms X Q) X 154 → X 0 0 0 av [] M
set_option maxRecDepth 100000 in
set_option maxHeartbeats 4000000 in
theorem sX13_add (l : Launch) (G : zG) : zSnd l G yX13_add cX13_add 6 none 7 184 wX13_add := by
  refine zmk [0, 1] (by decide) (fun mc ms av M Q h => h.1) ?_
  intro p e R s m args below meth c mc ms av M Q hC hRf hRl hr hnm h lv hlv
  obtain ⟨X, hXe⟩ : ∃ X : Nat → zV, X = fun L u v vs st M => ∀ lv, zpick lv (lvX13_add L) = some vs → zAt p l e R s m args below meth c (MQ below (zQ G Q) args s mc ms (zA G)) G 6 L u v lv st M := ⟨_, rfl⟩
  have hJ : ∀ L, zOk p l e R s m args below meth c (MQ below (zQ G Q) args s mc ms (zA G)) G 6 L (zj X L (lvX13_add L)) := fun L => S_jump (fun u v lv vs st M hp hx => by rw [hXe] at hx; exact hx lv hp)
  have hB0 : zin 6 [0, 1] (aX13_add_0 mc ms X Q) X 0 := by
    intro u v vs st M hb
    rw [hXe]
    refine fun lv hp => S_block (L := 0) (live := [0, 1]) ?_ u v lv vs st M hp hb
    unfold aX13_add_0
    refine S_aload_n (pc := 0) hC dX13_add_0 rfl ?_
    refine S_getR (pc := 1) hC cfX13 (by decide) (Or.inr ⟨_, rfl⟩) wd_1264 dX13_add_1 ?_
    refine S_aload_n (pc := 4) hC dX13_add_4 rfl ?_
    refine S_geti (pc := 5) hC cfX13 (by decide) (Or.inl rfl) wd_1261 dX13_add_5 ?_
    refine S_iaload (pc := 8) hC dX13_add_8 ?_
    refine S_istore_n_N (pc := 9) hC dX13_add_9 rfl (by decide) ?_
    unfold kX13_add_10
    refine S_aload_n (pc := 10) hC dX13_add_10 rfl ?_
    refine S_callV (pc := 11) hC (sX13_base l G) rfl wd_1439 wd_1441 ws_71 wd_12 wd_1442 (by decide +kernel) ⟨by rw [hRf]; decide, by rw [hRl]; decide⟩ dX13_add_11 ?_
    unfold kX13_add_14
    refine S_iload_n (pc := 14) hC dX13_add_14 rfl ?_
    refine S_iadd (pc := 15) hC dX13_add_15 ?_
    refine S_istore_n (pc := 16) hC dX13_add_16 rfl (by decide) ?_
    refine S_iconst (pc := 17) hC dX13_add_17 (by decide) ?_
    refine S_istore (pc := 18) hC dX13_add_18 (by decide) ?_
    exact hJ 20
  have hB20 : zin 6 [0, 1, 2, 3, 4] (aX13_add_20 mc ms X Q) X 20 := by
    intro u v vs st M hb
    rw [hXe]
    refine fun lv hp => S_block (L := 20) (live := [0, 1, 2, 3, 4]) ?_ u v lv vs st M hp hb
    unfold aX13_add_20
    refine S_iload (pc := 20) hC dX13_add_20 ?_
    refine S_bipush (pc := 22) hC dX13_add_22 (by decide) ?_
    refine S_icmp_ge (pc := 24) (tgt := 52) hC dX13_add_24 (by decide) ?_ ?_
    · refine S_aload_n (pc := 52) hC dX13_add_52 rfl ?_
      refine S_iconst (pc := 53) hC dX13_add_53 (by decide) ?_
      refine S_callV (pc := 54) hC (sX13_fill l G) rfl wd_1443 wd_1445 ws_72 wd_12 wd_1446 (by decide +kernel) ⟨by rw [hRf]; decide, by rw [hRl]; decide⟩ dX13_add_54 ?_
      unfold kX13_add_57
      refine S_aload_n (pc := 57) hC dX13_add_57 rfl ?_
      refine S_getR (pc := 58) hC cfX13 (by decide) (Or.inr ⟨_, rfl⟩) wd_1265 dX13_add_58 ?_
      refine S_iload_n (pc := 61) hC dX13_add_61 rfl ?_
      refine S_iload_n (pc := 62) hC dX13_add_62 rfl ?_
      refine S_iastore (pc := 63) hC dX13_add_63 ?_
      refine S_aload_n (pc := 64) hC dX13_add_64 rfl ?_
      refine S_getR (pc := 65) hC cfX13 (by decide) (Or.inr ⟨_, rfl⟩) wd_1266 dX13_add_65 ?_
      refine S_iload_n (pc := 68) hC dX13_add_68 rfl ?_
      refine S_aload_n (pc := 69) hC dX13_add_69 rfl ?_
      refine S_getR (pc := 70) hC cfX13 (by decide) (Or.inr ⟨_, rfl⟩) wd_1273 dX13_add_70 ?_
      refine S_iconst (pc := 73) hC dX13_add_73 (by decide) ?_
      refine S_iaload (pc := 74) hC dX13_add_74 ?_
      refine S_iastore (pc := 75) hC dX13_add_75 ?_
      refine S_aload_n (pc := 76) hC dX13_add_76 rfl ?_
      refine S_getR (pc := 77) hC cfX13 (by decide) (Or.inr ⟨_, rfl⟩) wd_1267 dX13_add_77 ?_
      refine S_iload_n (pc := 80) hC dX13_add_80 rfl ?_
      refine S_aload_n (pc := 81) hC dX13_add_81 rfl ?_
      refine S_iconst (pc := 82) hC dX13_add_82 (by decide) ?_
      refine S_aload_n (pc := 83) hC dX13_add_83 rfl ?_
      refine S_getR (pc := 84) hC cfX13 (by decide) (Or.inr ⟨_, rfl⟩) wd_1271 dX13_add_84 ?_
      refine S_bipush (pc := 87) hC dX13_add_87 (by decide) ?_
      refine S_iaload (pc := 89) hC dX13_add_89 ?_
      refine S_callV (pc := 90) hC (sX13_isChecked l G) rfl wd_1417 wd_1419 ws_67 wd_12 wd_1420 (by decide +kernel) ⟨by rw [hRf]; decide, by rw [hRl]; decide⟩ dX13_add_90 ?_
      unfold kX13_add_93
      refine S_if_eq (pc := 93) (tgt := 100) hC dX13_add_93 (by decide) ?_ ?_
      · refine S_iconst (pc := 100) hC dX13_add_100 (by decide) ?_
        exact hJ 101
      · refine S_iconst (pc := 96) hC dX13_add_96 (by decide) ?_
        refine S_goto (pc := 97) (tgt := 101) hC dX13_add_97 (by decide) ?_
        exact hJ 101
    · refine S_aload_n (pc := 27) hC dX13_add_27 rfl ?_
      refine S_getR (pc := 28) hC cfX13 (by decide) (Or.inr ⟨_, rfl⟩) wd_1263 dX13_add_28 ?_
      refine S_bipush (pc := 31) hC dX13_add_31 (by decide) ?_
      refine S_iload_n (pc := 33) hC dX13_add_33 rfl ?_
      refine S_imul (pc := 34) hC dX13_add_34 ?_
      refine S_iload (pc := 35) hC dX13_add_35 ?_
      refine S_iadd (pc := 37) hC dX13_add_37 ?_
      refine S_aload_n (pc := 38) hC dX13_add_38 rfl ?_
      refine S_getR (pc := 39) hC cfX13 (by decide) (Or.inr ⟨_, rfl⟩) wd_1271 dX13_add_39 ?_
      refine S_iload (pc := 42) hC dX13_add_42 ?_
      refine S_iaload (pc := 44) hC dX13_add_44 ?_
      refine S_iastore (pc := 45) hC dX13_add_45 ?_
      refine S_iinc (pc := 46) hC dX13_add_46 (by decide) (by decide) ?_
      refine S_goto (pc := 49) (tgt := 20) hC dX13_add_49 (by decide) ?_
      exact hJ 20
  have hB101 : zin 6 [0, 2, 3] (aX13_add_101 mc ms X Q) X 101 := by
    intro u v vs st M hb
    rw [hXe]
    refine fun lv hp => S_block (L := 101) (live := [0, 2, 3]) ?_ u v lv vs st M hp hb
    unfold aX13_add_101
    refine S_iastore (pc := 101) hC dX13_add_101 ?_
    refine S_aload_n (pc := 102) hC dX13_add_102 rfl ?_
    refine S_getR (pc := 103) hC cfX13 (by decide) (Or.inr ⟨_, rfl⟩) wd_1268 dX13_add_103 ?_
    refine S_iload_n (pc := 106) hC dX13_add_106 rfl ?_
    refine S_aload_n (pc := 107) hC dX13_add_107 rfl ?_
    refine S_callV (pc := 108) hC (sX13_passingFile l G) rfl wd_1484 wd_1486 ws_80 wd_12 wd_1487 (by decide +kernel) ⟨by rw [hRf]; decide, by rw [hRl]; decide⟩ dX13_add_108 ?_
    unfold kX13_add_111
    refine S_iastore (pc := 111) hC dX13_add_111 ?_
    refine S_aload_n (pc := 112) hC dX13_add_112 rfl ?_
    refine S_getR (pc := 113) hC cfX13 (by decide) (Or.inr ⟨_, rfl⟩) wd_1264 dX13_add_113 ?_
    refine S_aload_n (pc := 116) hC dX13_add_116 rfl ?_
    refine S_geti (pc := 117) hC cfX13 (by decide) (Or.inl rfl) wd_1261 dX13_add_117 ?_
    refine S_dup2 (pc := 120) hC dX13_add_120 ?_
    refine S_iaload (pc := 121) hC dX13_add_121 ?_
    refine S_iconst (pc := 122) hC dX13_add_122 (by decide) ?_
    refine S_iadd (pc := 123) hC dX13_add_123 ?_
    refine S_iastore (pc := 124) hC dX13_add_124 ?_
    refine S_iconst (pc := 125) hC dX13_add_125 (by decide) ?_
    refine S_istore (pc := 126) hC dX13_add_126 (by decide) ?_
    refine S_iconst (pc := 128) hC dX13_add_128 (by decide) ?_
    refine S_istore (pc := 129) hC dX13_add_129 (by decide) ?_
    exact hJ 131
  have hB131 : zin 6 [0, 2, 3, 4, 5] (aX13_add_131 mc ms X Q) X 131 := by
    intro u v vs st M hb
    rw [hXe]
    refine fun lv hp => S_block (L := 131) (live := [0, 2, 3, 4, 5]) ?_ u v lv vs st M hp hb
    unfold aX13_add_131
    refine S_iload (pc := 131) hC dX13_add_131 ?_
    refine S_iload_n (pc := 133) hC dX13_add_133 rfl ?_
    refine S_icmp_gt (pc := 134) (tgt := 163) hC dX13_add_134 (by decide) ?_ ?_
    · refine S_aload_n (pc := 163) hC dX13_add_163 rfl ?_
      refine S_getR (pc := 164) hC cfX13 (by decide) (Or.inr ⟨_, rfl⟩) wd_1269 dX13_add_164 ?_
      refine S_iload_n (pc := 167) hC dX13_add_167 rfl ?_
      refine S_iload (pc := 168) hC dX13_add_168 ?_
      refine S_iastore (pc := 170) hC dX13_add_170 ?_
      refine S_aload_n (pc := 171) hC dX13_add_171 rfl ?_
      refine S_getR (pc := 172) hC cfX13 (by decide) (Or.inr ⟨_, rfl⟩) wd_1270 dX13_add_172 ?_
      refine S_iload_n (pc := 175) hC dX13_add_175 rfl ?_
      refine S_aload_n (pc := 176) hC dX13_add_176 rfl ?_
      refine S_iload (pc := 177) hC dX13_add_177 ?_
      refine S_callV (pc := 179) hC (sX13_verdictOf l G) rfl wd_1492 wd_1494 ws_82 wd_12 wd_1495 (by decide +kernel) ⟨by rw [hRf]; decide, by rw [hRl]; decide⟩ dX13_add_179 ?_
      unfold kX13_add_182
      refine S_iastore (pc := 182) hC dX13_add_182 ?_
      exact S_vreturn (pc := 183) hC hr dX13_add_183
    · refine S_iload (pc := 137) hC dX13_add_137 ?_
      refine S_aload_n (pc := 139) hC dX13_add_139 rfl ?_
      refine S_iload_n (pc := 140) hC dX13_add_140 rfl ?_
      refine S_iload (pc := 141) hC dX13_add_141 ?_
      refine S_callV (pc := 143) hC (sX13_isSame l G) rfl wd_1488 wd_1490 ws_81 wd_12 wd_1491 (by decide +kernel) ⟨by rw [hRf]; decide, by rw [hRl]; decide⟩ dX13_add_143 ?_
      unfold kX13_add_146
      refine S_if_eq (pc := 146) (tgt := 153) hC dX13_add_146 (by decide) ?_ ?_
      · refine S_iconst (pc := 153) hC dX13_add_153 (by decide) ?_
        exact hJ 154
      · refine S_iconst (pc := 149) hC dX13_add_149 (by decide) ?_
        refine S_goto (pc := 150) (tgt := 154) hC dX13_add_150 (by decide) ?_
        exact hJ 154
  have hB154 : zin 6 [0, 2, 3, 5] (aX13_add_154 mc ms X Q) X 154 := by
    intro u v vs st M hb
    rw [hXe]
    refine fun lv hp => S_block (L := 154) (live := [0, 2, 3, 5]) ?_ u v lv vs st M hp hb
    unfold aX13_add_154
    refine S_iadd (pc := 154) hC dX13_add_154 ?_
    refine S_istore (pc := 155) hC dX13_add_155 (by decide) ?_
    refine S_iinc (pc := 157) hC dX13_add_157 (by decide) (by decide) ?_
    refine S_goto (pc := 160) (tgt := 131) hC dX13_add_160 (by decide) ?_
    exact hJ 131
  have := h.2 X hB0 hB20 hB101 hB131 hB154
  rw [hXe] at this
  exact this lv hlv
theorem vcX13_add_10 {mc ms : Nat} {X : Nat → zV} {Q : zQt} {M : zM} {x1 : Int32} {x2 : Int32} (hW : zFix M)  (h : wX13_base 0 0 [.ref 55] M (fun r M1 => kX13_add_14 mc ms X Q 0 0 [some (.ref 55), some (.int x1), some (.int x2), none, none, none] (r.toList ++ []) M1)) : kX13_add_10 mc ms X Q 0 0 [some (.ref 55), some (.int x1), some (.int x2), none, none, none] [] M := ⟨Nat.le_of_ble_eq_true rfl, rfl, (fxs_55 hW), 0, 0, Nat.zero_le _, Nat.zero_le _, h⟩
theorem vX13_add_0 {mc ms : Nat} {X : Nat → zV} {Q : zQt} {M : zM} {x1 : Int32} (hW : zFix M)  (h : vp_in ((M.1 55 6)) 2 ∧ ∀ y9 : Int32, y9 = ((M : zM).1 58 ((M.1 55 6) : Int32).toNatClampNeg) → wX13_base 0 0 [.ref 55] M (fun r M1 => kX13_add_14 mc ms X Q 0 0 [some (.ref 55), some (.int x1), some (.int y9), none, none, none] (r.toList ++ []) M1)) : aX13_add_0 mc ms X Q 0 0 [some (.ref 55), some (.int x1), none, none, none, none] [] M := ⟨(fxs_55 hW), 58, (fxr_55_9 hW), ⟨(fxs_55 hW), ⟨2, (fxs_58 hW), h.1, (fun y9 e9 => have h9 := h.2 y9 e9; (vcX13_add_10 hW  h9))⟩⟩⟩
theorem vX13_add_20 {mc ms : Nat} {X : Nat → zV} {Q : zQt} {M : zM} {x1 : Int32} {x2 : Int32} {x3 : Int32} {x4 : Int32} (hW : zFix M)  (h : ((69 : Int32) ≤ x4 → wX13_fill 0 0 [.ref 55, .int 0] M (fun r M1 => kX13_add_57 mc ms X Q 0 0 [some (.ref 55), some (.int x1), some (.int x2), some (.int x3), some (.int x4), none] (r.toList ++ []) M1)) ∧ (¬ (69 : Int32) ≤ x4 → vp_in x4 414 ∧ vp_in ((((69 : Int32) * x3) + x4)) 82938 ∧ ∀ M45 : zM, M45 = (zsI M 57 ((((69 : Int32) * x3) + x4) : Int32).toNatClampNeg (((M : zM).1 65 (x4 : Int32).toNatClampNeg))) → X 20 0 0 [.ref 55, .int x1, .int x2, .int x3, .int (x4 + 1)] [] M45)) : aX13_add_20 mc ms X Q 0 0 [some (.ref 55), some (.int x1), some (.int x2), some (.int x3), some (.int x4), none] [] M := ⟨fun c24 => ⟨Nat.le_of_ble_eq_true rfl, rfl, (fxs_55 hW), 0, 0, Nat.zero_le _, Nat.zero_le _, (h.1 c24)⟩, fun c24 => ⟨(fxs_55 hW), 57, (fxr_55_8 hW), ⟨(fxs_55 hW), 65, (fxr_55_16 hW), ⟨414, (fxs_65 hW), (h.2 c24).1, ⟨82938, (fxs_57 hW), (h.2 c24).2.1, (have h45 := (h.2 c24).2.2 _ rfl; h45)⟩⟩⟩⟩⟩
theorem vX13_add_101 {mc ms : Nat} {X : Nat → zV} {Q : zQt} {M : zM} {x2 : Int32} {x3 : Int32} {s0 : Int32} {s1 : Int32} (hW : zFix M)  (h : vp_in s1 1202 ∧ ∀ M101 : zM, M101 = (zsI M 61 (s1 : Int32).toNatClampNeg s0) → wX13_passingFile 0 0 [.ref 55] M101 (fun r M1 => kX13_add_111 mc ms X Q 0 0 [some (.ref 55), none, some (.int x2), some (.int x3), none, none] (r.toList ++ [.int x3, .ref 62]) M1)) : aX13_add_101 mc ms X Q 0 0 [some (.ref 55), none, some (.int x2), some (.int x3), none, none] [.int s0, .int s1, .ref 61] M := ⟨1202, (fxs_61 hW), h.1, (have h101 := h.2 _ rfl; ⟨(fxs_55 hW), 62, (fxr_55_13 hW), ⟨Nat.le_of_ble_eq_true rfl, rfl, (fxs_55 hW), 0, 0, Nat.zero_le _, Nat.zero_le _, h101⟩⟩)⟩
theorem vX13_add_131 {mc ms : Nat} {X : Nat → zV} {Q : zQt} {M : zM} {x2 : Int32} {x3 : Int32} {x4 : Int32} {x5 : Int32} (hW : zFix M)  (h : (x2 < x5 → vp_in x3 1202 ∧ ∀ M170 : zM, M170 = (zsI M 63 (x3 : Int32).toNatClampNeg x4) → wX13_verdictOf 0 0 [.ref 55, .int x4] M170 (fun r M1 => kX13_add_182 mc ms X Q 0 0 [some (.ref 55), none, some (.int x2), some (.int x3), some (.int x4), some (.int x5)] (r.toList ++ [.int x3, .ref 64]) M1)) ∧ (¬ x2 < x5 → wX13_isSame 0 0 [.ref 55, .int x2, .int x5] M (fun r M1 => kX13_add_146 mc ms X Q 0 0 [some (.ref 55), none, some (.int x2), some (.int x3), some (.int x4), some (.int x5)] (r.toList ++ [.int x4]) M1))) : aX13_add_131 mc ms X Q 0 0 [some (.ref 55), none, some (.int x2), some (.int x3), some (.int x4), some (.int x5)] [] M := ⟨fun c134 => ⟨(fxs_55 hW), 63, (fxr_55_14 hW), ⟨1202, (fxs_63 hW), (h.1 c134).1, (have h170 := (h.1 c134).2 _ rfl; ⟨(fxs_55 hW), 64, (fxr_55_15 hW), ⟨Nat.le_of_ble_eq_true rfl, rfl, (fxs_55 hW), 0, 0, Nat.zero_le _, Nat.zero_le _, h170⟩⟩)⟩⟩, fun c134 => ⟨Nat.le_of_ble_eq_true rfl, rfl, (fxs_55 hW), 0, 0, Nat.zero_le _, Nat.zero_le _, (h.2 c134)⟩⟩
theorem vX13_add_154 {mc ms : Nat} {X : Nat → zV} {Q : zQt} {M : zM} {x2 : Int32} {x3 : Int32} {x5 : Int32} {s0 : Int32} {s1 : Int32} (hW : zFix M)  (h : X 131 0 0 [.ref 55, .int x2, .int x3, .int (s1 + s0), .int (x5 + 1)] [] M) : aX13_add_154 mc ms X Q 0 0 [some (.ref 55), none, some (.int x2), some (.int x3), none, some (.int x5)] [.int s0, .int s1] M := h
theorem vkX13_add_14 {mc ms : Nat} {X : Nat → zV} {Q : zQt} {M : zM} {x1 : Int32} {x2 : Int32} {s0 : Int32} (hW : zFix M)  (h : X 20 0 0 [.ref 55, .int x1, .int x2, .int (s0 + x2), .int 0] [] M) : kX13_add_14 mc ms X Q 0 0 [some (.ref 55), some (.int x1), some (.int x2), none, none, none] [.int s0] M := h
theorem vkX13_add_57 {mc ms : Nat} {X : Nat → zV} {Q : zQt} {M : zM} {x1 : Int32} {x2 : Int32} {x3 : Int32} {x4 : Int32} (hW : zFix M)  (h : vp_in x3 1202 ∧ ∀ M63 : zM, M63 = (zsI M 59 (x3 : Int32).toNatClampNeg x1) → vp_in x3 1202 ∧ ∀ M75 : zM, M75 = (zsI M63 60 (x3 : Int32).toNatClampNeg (((M63 : zM).1 67 (0 : Int32).toNatClampNeg))) → wX13_isChecked 0 0 [.ref 55, .int 0, .int ((M75 : zM).1 65 (64 : Int32).toNatClampNeg)] M75 (fun r M1 => kX13_add_93 mc ms X Q 0 0 [some (.ref 55), some (.int x1), some (.int x2), some (.int x3), some (.int x4), none] (r.toList ++ [.int x3, .ref 61]) M1)) : kX13_add_57 mc ms X Q 0 0 [some (.ref 55), some (.int x1), some (.int x2), some (.int x3), some (.int x4), none] [] M := ⟨(fxs_55 hW), 59, (fxr_55_10 hW), ⟨1202, (fxs_59 hW), h.1, (have h63 := h.2 _ rfl; ⟨(fxs_55 hW), 60, (fxr_55_11 hW), ⟨(fxs_55 hW), 67, (fxr_55_18 hW), ⟨6, (fxs_67 hW), by unfold vp_in; decide, ⟨1202, (fxs_60 hW), h63.1, (have h75 := h63.2 _ rfl; ⟨(fxs_55 hW), 61, (fxr_55_12 hW), ⟨(fxs_55 hW), 65, (fxr_55_16 hW), ⟨414, (fxs_65 hW), by unfold vp_in; decide, ⟨Nat.le_of_ble_eq_true rfl, rfl, (fxs_55 hW), 0, 0, Nat.zero_le _, Nat.zero_le _, h75⟩⟩⟩⟩)⟩⟩⟩⟩)⟩⟩
theorem vkX13_add_93 {mc ms : Nat} {X : Nat → zV} {Q : zQt} {M : zM} {x1 : Int32} {x2 : Int32} {x3 : Int32} {x4 : Int32} {s0 : Int32} {s1 : Int32} (hW : zFix M)  (h : (s0 = 0 → X 101 0 0 [.ref 55, .int x2, .int x3] [.int 0, .int s1, .ref 61] M) ∧ (¬ s0 = 0 → X 101 0 0 [.ref 55, .int x2, .int x3] [.int 1, .int s1, .ref 61] M)) : kX13_add_93 mc ms X Q 0 0 [some (.ref 55), some (.int x1), some (.int x2), some (.int x3), some (.int x4), none] [.int s0, .int s1, .ref 61] M := ⟨fun c93 => (h.1 c93), fun c93 => (h.2 c93)⟩
theorem vkX13_add_111 {mc ms : Nat} {X : Nat → zV} {Q : zQt} {M : zM} {x2 : Int32} {x3 : Int32} {s0 : Int32} {s1 : Int32} (hW : zFix M)  (h : vp_in s1 1202 ∧ ∀ M111 : zM, M111 = (zsI M 62 (s1 : Int32).toNatClampNeg s0) → vp_in ((M111.1 55 6)) 2 ∧ vp_in ((M111.1 55 6)) 2 ∧ ∀ M124 : zM, M124 = (zsI M111 58 ((M111.1 55 6) : Int32).toNatClampNeg ((((M111 : zM).1 58 ((M111.1 55 6) : Int32).toNatClampNeg) + (1 : Int32)))) → X 131 0 0 [.ref 55, .int x2, .int x3, .int 0, .int 0] [] M124) : kX13_add_111 mc ms X Q 0 0 [some (.ref 55), none, some (.int x2), some (.int x3), none, none] [.int s0, .int s1, .ref 62] M := ⟨1202, (fxs_62 hW), h.1, (have h111 := h.2 _ rfl; ⟨(fxs_55 hW), 58, (fxr_55_9 hW), ⟨(fxs_55 hW), ⟨2, (fxs_58 hW), h111.1, ⟨2, (fxs_58 hW), h111.2.1, (have h124 := h111.2.2 _ rfl; h124)⟩⟩⟩⟩)⟩
theorem vkX13_add_146 {mc ms : Nat} {X : Nat → zV} {Q : zQt} {M : zM} {x2 : Int32} {x3 : Int32} {x4 : Int32} {x5 : Int32} {s0 : Int32} {s1 : Int32} (hW : zFix M)  (h : (s0 = 0 → X 154 0 0 [.ref 55, .int x2, .int x3, .int x5] [.int 0, .int s1] M) ∧ (¬ s0 = 0 → X 154 0 0 [.ref 55, .int x2, .int x3, .int x5] [.int 1, .int s1] M)) : kX13_add_146 mc ms X Q 0 0 [some (.ref 55), none, some (.int x2), some (.int x3), some (.int x4), some (.int x5)] [.int s0, .int s1] M := ⟨fun c146 => (h.1 c146), fun c146 => (h.2 c146)⟩
theorem vkX13_add_182 {mc ms : Nat} {X : Nat → zV} {Q : zQt} {M : zM} {x2 : Int32} {x3 : Int32} {x4 : Int32} {x5 : Int32} {s0 : Int32} {s1 : Int32} (hW : zFix M)  (h : vp_in s1 1202 ∧ ∀ M182 : zM, M182 = (zsI M 64 (s1 : Int32).toNatClampNeg s0) → Q none M182) : kX13_add_182 mc ms X Q 0 0 [some (.ref 55), none, some (.int x2), some (.int x3), some (.int x4), some (.int x5)] [.int s0, .int s1, .ref 64] M := ⟨1202, (fxs_64 hW), h.1, (have h182 := h.2 _ rfl; h182)⟩
theorem dX13_verdict_0 : decode cX13_verdict 0 = .ok (.aload_n 0, 1) := by decide +kernel
theorem dX13_verdict_1 : decode cX13_verdict 1 = .ok (.getfield 40, 3) := by decide +kernel
theorem dX13_verdict_4 : decode cX13_verdict 4 = .ok (.aload_n 0, 1) := by decide +kernel
theorem dX13_verdict_5 : decode cX13_verdict 5 = .ok (.invokevirtual 126, 3) := by decide +kernel
theorem dX13_verdict_8 : decode cX13_verdict 8 = .ok (.aload_n 0, 1) := by decide +kernel
theorem dX13_verdict_9 : decode cX13_verdict 9 = .ok (.getfield 22, 3) := by decide +kernel
theorem dX13_verdict_12 : decode cX13_verdict 12 = .ok (.aload_n 0, 1) := by decide +kernel
theorem dX13_verdict_13 : decode cX13_verdict 13 = .ok (.getfield 123, 3) := by decide +kernel
theorem dX13_verdict_16 : decode cX13_verdict 16 = .ok (.iaload, 1) := by decide +kernel
theorem dX13_verdict_17 : decode cX13_verdict 17 = .ok (.iadd, 1) := by decide +kernel
theorem dX13_verdict_18 : decode cX13_verdict 18 = .ok (.iconst 1, 1) := by decide +kernel
theorem dX13_verdict_19 : decode cX13_verdict 19 = .ok (.isub, 1) := by decide +kernel
theorem dX13_verdict_20 : decode cX13_verdict 20 = .ok (.iaload, 1) := by decide +kernel
theorem dX13_verdict_21 : decode cX13_verdict 21 = .ok (.ireturn, 1) := by decide +kernel
def kX13_verdict_8 (mc ms : Nat) (X : Nat → zV) (Q : zQt) : zT :=
  zla 0 <| zgR 13 9 <| zla 0 <| zgi 13 6 <| zal 1 <| zii (fun x y => x + y) <| zc (.int 1) <| zii (fun x y => x - y) <| zal 1 <| zri Q
def aX13_verdict_0 (mc ms : Nat) (X : Nat → zV) (Q : zQt) : zT :=
  zla 0 <| zgR 13 15 <| zla 0 <| zcv mc ms 13 0 wX13_base <| kX13_verdict_8 mc ms X Q
def lvX13_verdict : Nat → List Nat := fun L => match L with
  | 0 => [0]
  | _ => []
def wX13_verdict : zSp := fun mc ms av M Q => ((zlay av).length ≤ 1 ∧ zpick (zlay av) [0] = some av) ∧ ∀ X : Nat → zV, zin 1 [0] (aX13_verdict_0 mc ms X Q) X 0 → X 0 0 0 av [] M
set_option maxRecDepth 100000 in
set_option maxHeartbeats 4000000 in
theorem sX13_verdict (l : Launch) (G : zG) : zSnd l G yX13_verdict cX13_verdict 1 (some .int) 1 20 wX13_verdict := by
  refine zmk [0] (by decide) (fun mc ms av M Q h => h.1) ?_
  intro p e R s m args below meth c mc ms av M Q hC hRf hRl hr hnm h lv hlv
  obtain ⟨X, hXe⟩ : ∃ X : Nat → zV, X = fun L u v vs st M => ∀ lv, zpick lv (lvX13_verdict L) = some vs → zAt p l e R s m args below meth c (MQ below (zQ G Q) args s mc ms (zA G)) G 1 L u v lv st M := ⟨_, rfl⟩
  have hJ : ∀ L, zOk p l e R s m args below meth c (MQ below (zQ G Q) args s mc ms (zA G)) G 1 L (zj X L (lvX13_verdict L)) := fun L => S_jump (fun u v lv vs st M hp hx => by rw [hXe] at hx; exact hx lv hp)
  have hB0 : zin 1 [0] (aX13_verdict_0 mc ms X Q) X 0 := by
    intro u v vs st M hb
    rw [hXe]
    refine fun lv hp => S_block (L := 0) (live := [0]) ?_ u v lv vs st M hp hb
    unfold aX13_verdict_0
    refine S_aload_n (pc := 0) hC dX13_verdict_0 rfl ?_
    refine S_getR (pc := 1) hC cfX13 (by decide) (Or.inr ⟨_, rfl⟩) wd_1270 dX13_verdict_1 ?_
    refine S_aload_n (pc := 4) hC dX13_verdict_4 rfl ?_
    refine S_callV (pc := 5) hC (sX13_base l G) rfl wd_1439 wd_1441 ws_71 wd_12 wd_1442 (by decide +kernel) ⟨by rw [hRf]; decide, by rw [hRl]; decide⟩ dX13_verdict_5 ?_
    unfold kX13_verdict_8
    refine S_aload_n (pc := 8) hC dX13_verdict_8 rfl ?_
    refine S_getR (pc := 9) hC cfX13 (by decide) (Or.inr ⟨_, rfl⟩) wd_1264 dX13_verdict_9 ?_
    refine S_aload_n (pc := 12) hC dX13_verdict_12 rfl ?_
    refine S_geti (pc := 13) hC cfX13 (by decide) (Or.inl rfl) wd_1261 dX13_verdict_13 ?_
    refine S_iaload (pc := 16) hC dX13_verdict_16 ?_
    refine S_iadd (pc := 17) hC dX13_verdict_17 ?_
    refine S_iconst (pc := 18) hC dX13_verdict_18 (by decide) ?_
    refine S_isub (pc := 19) hC dX13_verdict_19 ?_
    refine S_iaload (pc := 20) hC dX13_verdict_20 ?_
    exact S_ireturn (pc := 21) hC hr dX13_verdict_21
  have := h.2 X hB0
  rw [hXe] at this
  exact this lv hlv
theorem vX13_verdict_0 {mc ms : Nat} {X : Nat → zV} {Q : zQt} {M : zM}  (hW : zFix M)  (h : wX13_base 0 0 [.ref 55] M (fun r M1 => kX13_verdict_8 mc ms X Q 0 0 [some (.ref 55)] (r.toList ++ [.ref 64]) M1)) : aX13_verdict_0 mc ms X Q 0 0 [some (.ref 55)] [] M := ⟨(fxs_55 hW), 64, (fxr_55_15 hW), ⟨Nat.le_of_ble_eq_true rfl, rfl, (fxs_55 hW), 0, 0, Nat.zero_le _, Nat.zero_le _, h⟩⟩
theorem vkX13_verdict_8 {mc ms : Nat} {X : Nat → zV} {Q : zQt} {M : zM} {s0 : Int32} (hW : zFix M)  (h : vp_in ((M.1 55 6)) 2 ∧ vp_in (((s0 + ((M : zM).1 58 ((M.1 55 6) : Int32).toNatClampNeg)) - (1 : Int32))) 1202 ∧ Q (some (.int (((M : zM).1 64 (((s0 + ((M : zM).1 58 ((M.1 55 6) : Int32).toNatClampNeg)) - (1 : Int32)) : Int32).toNatClampNeg)))) M) : kX13_verdict_8 mc ms X Q 0 0 [some (.ref 55)] [.int s0, .ref 64] M := ⟨(fxs_55 hW), 58, (fxr_55_9 hW), ⟨(fxs_55 hW), ⟨2, (fxs_58 hW), h.1, ⟨1202, (fxs_64 hW), h.2.1, h.2.2⟩⟩⟩⟩
theorem dX13_hasEnded_0 : decode cX13_hasEnded 0 = .ok (.aload_n 0, 1) := by decide +kernel
theorem dX13_hasEnded_1 : decode cX13_hasEnded 1 = .ok (.invokevirtual 147, 3) := by decide +kernel
theorem dX13_hasEnded_4 : decode cX13_hasEnded 4 = .ok (.ifCond .le 16, 3) := by decide +kernel
theorem dX13_hasEnded_7 : decode cX13_hasEnded 7 = .ok (.aload_n 0, 1) := by decide +kernel
theorem dX13_hasEnded_8 : decode cX13_hasEnded 8 = .ok (.invokevirtual 147, 3) := by decide +kernel
theorem dX13_hasEnded_11 : decode cX13_hasEnded 11 = .ok (.bipush 6, 2) := by decide +kernel
theorem dX13_hasEnded_13 : decode cX13_hasEnded 13 = .ok (.if_icmp .ge 7, 3) := by decide +kernel
theorem dX13_hasEnded_16 : decode cX13_hasEnded 16 = .ok (.iconst 1, 1) := by decide +kernel
theorem dX13_hasEnded_17 : decode cX13_hasEnded 17 = .ok (.goto 4, 3) := by decide +kernel
theorem dX13_hasEnded_20 : decode cX13_hasEnded 20 = .ok (.iconst 0, 1) := by decide +kernel
theorem dX13_hasEnded_21 : decode cX13_hasEnded 21 = .ok (.ireturn, 1) := by decide +kernel
def kX13_hasEnded_11 (mc ms : Nat) (X : Nat → zV) (Q : zQt) : zT :=
  zc (.int 6) <| zic (fun x y => y ≤ x) (zj X 20 []) <| zc (.int 1) <| zj X 21 []
def kX13_hasEnded_4 (mc ms : Nat) (X : Nat → zV) (Q : zQt) : zT :=
  zif (fun x => x ≤ 0) (zj X 20 []) <| zla 0 <| zcv mc ms 13 0 wX13_verdict <| kX13_hasEnded_11 mc ms X Q
def aX13_hasEnded_0 (mc ms : Nat) (X : Nat → zV) (Q : zQt) : zT :=
  zla 0 <| zcv mc ms 13 0 wX13_verdict <| kX13_hasEnded_4 mc ms X Q
def aX13_hasEnded_20 (mc ms : Nat) (X : Nat → zV) (Q : zQt) : zT :=
  zc (.int 0) <| zj X 21 []
def aX13_hasEnded_21 (mc ms : Nat) (X : Nat → zV) (Q : zQt) : zT :=
  zrz .boolean Q
def lvX13_hasEnded : Nat → List Nat := fun L => match L with
  | 0 => [0]
  | 20 => []
  | 21 => []
  | _ => []
def wX13_hasEnded : zSp := fun mc ms av M Q => ((zlay av).length ≤ 1 ∧ zpick (zlay av) [0] = some av) ∧ ∀ X : Nat → zV, zin 1 [0] (aX13_hasEnded_0 mc ms X Q) X 0 → zin 1 [] (aX13_hasEnded_20 mc ms X Q) X 20 → zin 1 [] (aX13_hasEnded_21 mc ms X Q) X 21 → X 0 0 0 av [] M
set_option maxRecDepth 100000 in
set_option maxHeartbeats 4000000 in
theorem sX13_hasEnded (l : Launch) (G : zG) : zSnd l G yX13_hasEnded cX13_hasEnded 1 (some .boolean) 2 40 wX13_hasEnded := by
  refine zmk [0] (by decide) (fun mc ms av M Q h => h.1) ?_
  intro p e R s m args below meth c mc ms av M Q hC hRf hRl hr hnm h lv hlv
  obtain ⟨X, hXe⟩ : ∃ X : Nat → zV, X = fun L u v vs st M => ∀ lv, zpick lv (lvX13_hasEnded L) = some vs → zAt p l e R s m args below meth c (MQ below (zQ G Q) args s mc ms (zA G)) G 1 L u v lv st M := ⟨_, rfl⟩
  have hJ : ∀ L, zOk p l e R s m args below meth c (MQ below (zQ G Q) args s mc ms (zA G)) G 1 L (zj X L (lvX13_hasEnded L)) := fun L => S_jump (fun u v lv vs st M hp hx => by rw [hXe] at hx; exact hx lv hp)
  have hB0 : zin 1 [0] (aX13_hasEnded_0 mc ms X Q) X 0 := by
    intro u v vs st M hb
    rw [hXe]
    refine fun lv hp => S_block (L := 0) (live := [0]) ?_ u v lv vs st M hp hb
    unfold aX13_hasEnded_0
    refine S_aload_n (pc := 0) hC dX13_hasEnded_0 rfl ?_
    refine S_callV (pc := 1) hC (sX13_verdict l G) rfl wd_1508 wd_1510 ws_86 wd_12 wd_1511 (by decide +kernel) ⟨by rw [hRf]; decide, by rw [hRl]; decide⟩ dX13_hasEnded_1 ?_
    unfold kX13_hasEnded_4
    refine S_if_le (pc := 4) (tgt := 20) hC dX13_hasEnded_4 (by decide) ?_ ?_
    · exact hJ 20
    · refine S_aload_n (pc := 7) hC dX13_hasEnded_7 rfl ?_
      refine S_callV (pc := 8) hC (sX13_verdict l G) rfl wd_1508 wd_1510 ws_86 wd_12 wd_1511 (by decide +kernel) ⟨by rw [hRf]; decide, by rw [hRl]; decide⟩ dX13_hasEnded_8 ?_
      unfold kX13_hasEnded_11
      refine S_bipush (pc := 11) hC dX13_hasEnded_11 (by decide) ?_
      refine S_icmp_ge (pc := 13) (tgt := 20) hC dX13_hasEnded_13 (by decide) ?_ ?_
      · exact hJ 20
      · refine S_iconst (pc := 16) hC dX13_hasEnded_16 (by decide) ?_
        refine S_goto (pc := 17) (tgt := 21) hC dX13_hasEnded_17 (by decide) ?_
        exact hJ 21
  have hB20 : zin 1 [] (aX13_hasEnded_20 mc ms X Q) X 20 := by
    intro u v vs st M hb
    rw [hXe]
    refine fun lv hp => S_block (L := 20) (live := []) ?_ u v lv vs st M hp hb
    unfold aX13_hasEnded_20
    refine S_iconst (pc := 20) hC dX13_hasEnded_20 (by decide) ?_
    exact hJ 21
  have hB21 : zin 1 [] (aX13_hasEnded_21 mc ms X Q) X 21 := by
    intro u v vs st M hb
    rw [hXe]
    refine fun lv hp => S_block (L := 21) (live := []) ?_ u v lv vs st M hp hb
    unfold aX13_hasEnded_21
    exact S_zreturn (pc := 21) hC hr dX13_hasEnded_21
  have := h.2 X hB0 hB20 hB21
  rw [hXe] at this
  exact this lv hlv
theorem vX13_hasEnded_0 {mc ms : Nat} {X : Nat → zV} {Q : zQt} {M : zM}  (hW : zFix M)  (h : wX13_verdict 0 0 [.ref 55] M (fun r M1 => kX13_hasEnded_4 mc ms X Q 0 0 [some (.ref 55)] (r.toList ++ []) M1)) : aX13_hasEnded_0 mc ms X Q 0 0 [some (.ref 55)] [] M := ⟨Nat.le_of_ble_eq_true rfl, rfl, (fxs_55 hW), 0, 0, Nat.zero_le _, Nat.zero_le _, h⟩
theorem vX13_hasEnded_20 {mc ms : Nat} {X : Nat → zV} {Q : zQt} {M : zM}  (hW : zFix M)  (h : X 21 0 0 [] [.int 0] M) : aX13_hasEnded_20 mc ms X Q 0 0 [none] [] M := h
theorem vX13_hasEnded_21 {mc ms : Nat} {X : Nat → zV} {Q : zQt} {M : zM} {s0 : Int32} (hW : zFix M)  (h : narrow .boolean (.int s0) = .int s0 ∧ Q (some (.int s0)) M) : aX13_hasEnded_21 mc ms X Q 0 0 [none] [.int s0] M := h
theorem vkX13_hasEnded_4 {mc ms : Nat} {X : Nat → zV} {Q : zQt} {M : zM} {s0 : Int32} (hW : zFix M)  (h : (s0 ≤ 0 → X 20 0 0 [] [] M) ∧ (¬ s0 ≤ 0 → wX13_verdict 0 0 [.ref 55] M (fun r M1 => kX13_hasEnded_11 mc ms X Q 0 0 [some (.ref 55)] (r.toList ++ []) M1))) : kX13_hasEnded_4 mc ms X Q 0 0 [some (.ref 55)] [.int s0] M := ⟨fun c4 => (h.1 c4), fun c4 => ⟨Nat.le_of_ble_eq_true rfl, rfl, (fxs_55 hW), 0, 0, Nat.zero_le _, Nat.zero_le _, (h.2 c4)⟩⟩
theorem vkX13_hasEnded_11 {mc ms : Nat} {X : Nat → zV} {Q : zQt} {M : zM} {s0 : Int32} (hW : zFix M)  (h : ((6 : Int32) ≤ s0 → X 20 0 0 [] [] M) ∧ (¬ (6 : Int32) ≤ s0 → X 21 0 0 [] [.int 1] M)) : kX13_hasEnded_11 mc ms X Q 0 0 [some (.ref 55)] [.int s0] M := ⟨fun c13 => (h.1 c13), fun c13 => (h.2 c13)⟩
theorem dX13_play_0 : decode cX13_play 0 = .ok (.aload_n 0, 1) := by decide +kernel
theorem dX13_play_1 : decode cX13_play 1 = .ok (.iconst 0, 1) := by decide +kernel
theorem dX13_play_2 : decode cX13_play 2 = .ok (.iload_n 1, 1) := by decide +kernel
theorem dX13_play_3 : decode cX13_play 3 = .ok (.invokevirtual 112, 3) := by decide +kernel
theorem dX13_play_6 : decode cX13_play 6 = .ok (.iconst 0, 1) := by decide +kernel
theorem dX13_play_7 : decode cX13_play 7 = .ok (.istore_n 2, 1) := by decide +kernel
theorem dX13_play_8 : decode cX13_play 8 = .ok (.iload_n 2, 1) := by decide +kernel
theorem dX13_play_9 : decode cX13_play 9 = .ok (.bipush 69, 2) := by decide +kernel
theorem dX13_play_11 : decode cX13_play 11 = .ok (.if_icmp .ge 24, 3) := by decide +kernel
theorem dX13_play_14 : decode cX13_play 14 = .ok (.aload_n 0, 1) := by decide +kernel
theorem dX13_play_15 : decode cX13_play 15 = .ok (.getfield 43, 3) := by decide +kernel
theorem dX13_play_18 : decode cX13_play 18 = .ok (.iload_n 2, 1) := by decide +kernel
theorem dX13_play_19 : decode cX13_play 19 = .ok (.aload_n 0, 1) := by decide +kernel
theorem dX13_play_20 : decode cX13_play 20 = .ok (.getfield 43, 3) := by decide +kernel
theorem dX13_play_23 : decode cX13_play 23 = .ok (.bipush 69, 2) := by decide +kernel
theorem dX13_play_25 : decode cX13_play 25 = .ok (.iload_n 2, 1) := by decide +kernel
theorem dX13_play_26 : decode cX13_play 26 = .ok (.iadd, 1) := by decide +kernel
theorem dX13_play_27 : decode cX13_play 27 = .ok (.iaload, 1) := by decide +kernel
theorem dX13_play_28 : decode cX13_play 28 = .ok (.iastore, 1) := by decide +kernel
theorem dX13_play_29 : decode cX13_play 29 = .ok (.iinc 2 1, 3) := by decide +kernel
theorem dX13_play_32 : decode cX13_play 32 = .ok (.goto (-24), 3) := by decide +kernel
theorem dX13_play_35 : decode cX13_play 35 = .ok (.aload_n 0, 1) := by decide +kernel
theorem dX13_play_36 : decode cX13_play 36 = .ok (.iload_n 1, 1) := by decide +kernel
theorem dX13_play_37 : decode cX13_play 37 = .ok (.invokevirtual 150, 3) := by decide +kernel
theorem dX13_play_40 : decode cX13_play 40 = .ok (.return_, 1) := by decide +kernel
def kX13_play_6 (mc ms : Nat) (X : Nat → zV) (Q : zQt) : zT :=
  zc (.int 0) <| zsi 2 <| zj X 8 [0, 1, 2]
def kX13_play_40 (mc ms : Nat) (X : Nat → zV) (Q : zQt) : zT :=
  zrv Q
def aX13_play_0 (mc ms : Nat) (X : Nat → zV) (Q : zQt) : zT :=
  zla 0 <| zc (.int 0) <| zli 1 <| zcv mc ms 13 2 wX13_make <| kX13_play_6 mc ms X Q
def aX13_play_8 (mc ms : Nat) (X : Nat → zV) (Q : zQt) : zT :=
  zli 2 <| zc (.int 69) <| zic (fun x y => y ≤ x) (zla 0 <| zli 1 <| zcv mc ms 13 1 wX13_add <| kX13_play_40 mc ms X Q) <| zla 0 <| zgR 13 16 <| zli 2 <| zla 0 <| zgR 13 16 <| zc (.int 69) <| zli 2 <| zii (fun x y => x + y) <| zal 1 <| zas 1 (fun x => x) <| zinc 2 1 <| zj X 8 [0, 1, 2]
def lvX13_play : Nat → List Nat := fun L => match L with
  | 0 => [0, 1]
  | 8 => [0, 1, 2]
  | _ => []
def wX13_play : zSp := fun mc ms av M Q => ((zlay av).length ≤ 3 ∧ zpick (zlay av) [0, 1] = some av) ∧ ∀ X : Nat → zV, zin 3 [0, 1] (aX13_play_0 mc ms X Q) X 0 → zin 3 [0, 1, 2] (aX13_play_8 mc ms X Q) X 8 → X 0 0 0 av [] M
set_option maxRecDepth 100000 in
set_option maxHeartbeats 4000000 in
theorem sX13_play (l : Launch) (G : zG) : zSnd l G yX13_play cX13_play 3 none 8 209 wX13_play := by
  refine zmk [0, 1] (by decide) (fun mc ms av M Q h => h.1) ?_
  intro p e R s m args below meth c mc ms av M Q hC hRf hRl hr hnm h lv hlv
  obtain ⟨X, hXe⟩ : ∃ X : Nat → zV, X = fun L u v vs st M => ∀ lv, zpick lv (lvX13_play L) = some vs → zAt p l e R s m args below meth c (MQ below (zQ G Q) args s mc ms (zA G)) G 3 L u v lv st M := ⟨_, rfl⟩
  have hJ : ∀ L, zOk p l e R s m args below meth c (MQ below (zQ G Q) args s mc ms (zA G)) G 3 L (zj X L (lvX13_play L)) := fun L => S_jump (fun u v lv vs st M hp hx => by rw [hXe] at hx; exact hx lv hp)
  have hB0 : zin 3 [0, 1] (aX13_play_0 mc ms X Q) X 0 := by
    intro u v vs st M hb
    rw [hXe]
    refine fun lv hp => S_block (L := 0) (live := [0, 1]) ?_ u v lv vs st M hp hb
    unfold aX13_play_0
    refine S_aload_n (pc := 0) hC dX13_play_0 rfl ?_
    refine S_iconst (pc := 1) hC dX13_play_1 (by decide) ?_
    refine S_iload_n (pc := 2) hC dX13_play_2 rfl ?_
    refine S_callV (pc := 3) hC (sX13_make l G) rfl wd_1471 wd_1473 ws_79 wd_12 wd_1474 (by decide +kernel) ⟨by rw [hRf]; decide, by rw [hRl]; decide⟩ dX13_play_3 ?_
    unfold kX13_play_6
    refine S_iconst (pc := 6) hC dX13_play_6 (by decide) ?_
    refine S_istore_n (pc := 7) hC dX13_play_7 rfl (by decide) ?_
    exact hJ 8
  have hB8 : zin 3 [0, 1, 2] (aX13_play_8 mc ms X Q) X 8 := by
    intro u v vs st M hb
    rw [hXe]
    refine fun lv hp => S_block (L := 8) (live := [0, 1, 2]) ?_ u v lv vs st M hp hb
    unfold aX13_play_8
    refine S_iload_n (pc := 8) hC dX13_play_8 rfl ?_
    refine S_bipush (pc := 9) hC dX13_play_9 (by decide) ?_
    refine S_icmp_ge (pc := 11) (tgt := 35) hC dX13_play_11 (by decide) ?_ ?_
    · refine S_aload_n (pc := 35) hC dX13_play_35 rfl ?_
      refine S_iload_n (pc := 36) hC dX13_play_36 rfl ?_
      refine S_callV (pc := 37) hC (sX13_add l G) rfl wd_1435 wd_1437 ws_70 wd_12 wd_1438 (by decide +kernel) ⟨by rw [hRf]; decide, by rw [hRl]; decide⟩ dX13_play_37 ?_
      unfold kX13_play_40
      exact S_vreturn (pc := 40) hC hr dX13_play_40
    · refine S_aload_n (pc := 14) hC dX13_play_14 rfl ?_
      refine S_getR (pc := 15) hC cfX13 (by decide) (Or.inr ⟨_, rfl⟩) wd_1271 dX13_play_15 ?_
      refine S_iload_n (pc := 18) hC dX13_play_18 rfl ?_
      refine S_aload_n (pc := 19) hC dX13_play_19 rfl ?_
      refine S_getR (pc := 20) hC cfX13 (by decide) (Or.inr ⟨_, rfl⟩) wd_1271 dX13_play_20 ?_
      refine S_bipush (pc := 23) hC dX13_play_23 (by decide) ?_
      refine S_iload_n (pc := 25) hC dX13_play_25 rfl ?_
      refine S_iadd (pc := 26) hC dX13_play_26 ?_
      refine S_iaload (pc := 27) hC dX13_play_27 ?_
      refine S_iastore (pc := 28) hC dX13_play_28 ?_
      refine S_iinc (pc := 29) hC dX13_play_29 (by decide) (by decide) ?_
      refine S_goto (pc := 32) (tgt := 8) hC dX13_play_32 (by decide) ?_
      exact hJ 8
  have := h.2 X hB0 hB8
  rw [hXe] at this
  exact this lv hlv
theorem vX13_play_0 {mc ms : Nat} {X : Nat → zV} {Q : zQt} {M : zM} {x1 : Int32} (hW : zFix M)  (h : wX13_make 0 0 [.ref 55, .int 0, .int x1] M (fun r M1 => kX13_play_6 mc ms X Q 0 0 [some (.ref 55), some (.int x1), none] (r.toList ++ []) M1)) : aX13_play_0 mc ms X Q 0 0 [some (.ref 55), some (.int x1), none] [] M := ⟨Nat.le_of_ble_eq_true rfl, rfl, (fxs_55 hW), 0, 0, Nat.zero_le _, Nat.zero_le _, h⟩
theorem vX13_play_8 {mc ms : Nat} {X : Nat → zV} {Q : zQt} {M : zM} {x1 : Int32} {x2 : Int32} (hW : zFix M)  (h : ((69 : Int32) ≤ x2 → wX13_add 0 0 [.ref 55, .int x1] M (fun r M1 => kX13_play_40 mc ms X Q 0 0 [some (.ref 55), some (.int x1), some (.int x2)] (r.toList ++ []) M1)) ∧ (¬ (69 : Int32) ≤ x2 → vp_in (((69 : Int32) + x2)) 414 ∧ vp_in x2 414 ∧ ∀ M28 : zM, M28 = (zsI M 65 (x2 : Int32).toNatClampNeg (((M : zM).1 65 (((69 : Int32) + x2) : Int32).toNatClampNeg))) → X 8 0 0 [.ref 55, .int x1, .int (x2 + 1)] [] M28)) : aX13_play_8 mc ms X Q 0 0 [some (.ref 55), some (.int x1), some (.int x2)] [] M := ⟨fun c11 => ⟨Nat.le_of_ble_eq_true rfl, rfl, (fxs_55 hW), 0, 0, Nat.zero_le _, Nat.zero_le _, (h.1 c11)⟩, fun c11 => ⟨(fxs_55 hW), 65, (fxr_55_16 hW), ⟨(fxs_55 hW), 65, (fxr_55_16 hW), ⟨414, (fxs_65 hW), (h.2 c11).1, ⟨414, (fxs_65 hW), (h.2 c11).2.1, (have h28 := (h.2 c11).2.2 _ rfl; h28)⟩⟩⟩⟩⟩
theorem vkX13_play_6 {mc ms : Nat} {X : Nat → zV} {Q : zQt} {M : zM} {x1 : Int32} (hW : zFix M)  (h : X 8 0 0 [.ref 55, .int x1, .int 0] [] M) : kX13_play_6 mc ms X Q 0 0 [some (.ref 55), some (.int x1), none] [] M := h
theorem vkX13_play_40 {mc ms : Nat} {X : Nat → zV} {Q : zQt} {M : zM} {x1 : Int32} {x2 : Int32} (hW : zFix M)  (h : Q none M) : kX13_play_40 mc ms X Q 0 0 [some (.ref 55), some (.int x1), some (.int x2)] [] M := h
theorem dX13_four_0 : decode cX13_four 0 = .ok (.iconst 3, 1) := by decide +kernel
theorem dX13_four_1 : decode cX13_four 1 = .ok (.istore_n 2, 1) := by decide +kernel
theorem dX13_four_2 : decode cX13_four 2 = .ok (.iload_n 2, 1) := by decide +kernel
theorem dX13_four_3 : decode cX13_four 3 = .ok (.ifCond .lt 35, 3) := by decide +kernel
theorem dX13_four_6 : decode cX13_four 6 = .ok (.aload_n 0, 1) := by decide +kernel
theorem dX13_four_7 : decode cX13_four 7 = .ok (.getfield 7, 3) := by decide +kernel
theorem dX13_four_10 : decode cX13_four 10 = .ok (.aload_n 0, 1) := by decide +kernel
theorem dX13_four_11 : decode cX13_four 11 = .ok (.getfield 153, 3) := by decide +kernel
theorem dX13_four_14 : decode cX13_four 14 = .ok (.iload_n 1, 1) := by decide +kernel
theorem dX13_four_15 : decode cX13_four 15 = .ok (.bipush 8, 2) := by decide +kernel
theorem dX13_four_17 : decode cX13_four 17 = .ok (.iload_n 2, 1) := by decide +kernel
theorem dX13_four_18 : decode cX13_four 18 = .ok (.imul, 1) := by decide +kernel
theorem dX13_four_19 : decode cX13_four 19 = .ok (.ishr, 1) := by decide +kernel
theorem dX13_four_20 : decode cX13_four 20 = .ok (.i2b, 1) := by decide +kernel
theorem dX13_four_21 : decode cX13_four 21 = .ok (.bastore, 1) := by decide +kernel
theorem dX13_four_22 : decode cX13_four 22 = .ok (.aload_n 0, 1) := by decide +kernel
theorem dX13_four_23 : decode cX13_four 23 = .ok (.dup, 1) := by decide +kernel
theorem dX13_four_24 : decode cX13_four 24 = .ok (.getfield 153, 3) := by decide +kernel
theorem dX13_four_27 : decode cX13_four 27 = .ok (.iconst 1, 1) := by decide +kernel
theorem dX13_four_28 : decode cX13_four 28 = .ok (.iadd, 1) := by decide +kernel
theorem dX13_four_29 : decode cX13_four 29 = .ok (.putfield 153, 3) := by decide +kernel
theorem dX13_four_32 : decode cX13_four 32 = .ok (.iinc 2 (-1), 3) := by decide +kernel
theorem dX13_four_35 : decode cX13_four 35 = .ok (.goto (-33), 3) := by decide +kernel
theorem dX13_four_38 : decode cX13_four 38 = .ok (.return_, 1) := by decide +kernel
def aX13_four_0 (mc ms : Nat) (X : Nat → zV) (Q : zQt) : zT :=
  zc (.int 3) <| zsi 2 <| zj X 2 [0, 1, 2]
def aX13_four_2 (mc ms : Nat) (X : Nat → zV) (Q : zQt) : zT :=
  zli 2 <| zif (fun x => x < 0) (zrv Q) <| zla 0 <| zgR 13 1 <| zla 0 <| zgi 13 2 <| zli 1 <| zc (.int 8) <| zli 2 <| zii (fun x y => x * y) <| zii (fun x y => x >>> (y &&& 31)) <| zi1 (fun x => x.toInt8.toInt32) <| zas 3 (vp_nar .byte) <| zla 0 <| zdup <| zgi 13 2 <| zc (.int 1) <| zii (fun x y => x + y) <| zpi 13 2 <| zinc 2 (-1) <| zj X 2 [0, 1, 2]
def lvX13_four : Nat → List Nat := fun L => match L with
  | 0 => [0, 1]
  | 2 => [0, 1, 2]
  | _ => []
def wX13_four : zSp := fun mc ms av M Q => ((zlay av).length ≤ 3 ∧ zpick (zlay av) [0, 1] = some av) ∧ ∀ X : Nat → zV, zin 3 [0, 1] (aX13_four_0 mc ms X Q) X 0 → zin 3 [0, 1, 2] (aX13_four_2 mc ms X Q) X 2 → X 0 0 0 av [] M
set_option maxRecDepth 100000 in
set_option maxHeartbeats 4000000 in
theorem sX13_four (l : Launch) (G : zG) : zSnd l G yX13_four cX13_four 3 none 0 0 wX13_four := by
  refine zmk [0, 1] (by decide) (fun mc ms av M Q h => h.1) ?_
  intro p e R s m args below meth c mc ms av M Q hC hRf hRl hr hnm h lv hlv
  obtain ⟨X, hXe⟩ : ∃ X : Nat → zV, X = fun L u v vs st M => ∀ lv, zpick lv (lvX13_four L) = some vs → zAt p l e R s m args below meth c (MQ below (zQ G Q) args s mc ms (zA G)) G 3 L u v lv st M := ⟨_, rfl⟩
  have hJ : ∀ L, zOk p l e R s m args below meth c (MQ below (zQ G Q) args s mc ms (zA G)) G 3 L (zj X L (lvX13_four L)) := fun L => S_jump (fun u v lv vs st M hp hx => by rw [hXe] at hx; exact hx lv hp)
  have hB0 : zin 3 [0, 1] (aX13_four_0 mc ms X Q) X 0 := by
    intro u v vs st M hb
    rw [hXe]
    refine fun lv hp => S_block (L := 0) (live := [0, 1]) ?_ u v lv vs st M hp hb
    unfold aX13_four_0
    refine S_iconst (pc := 0) hC dX13_four_0 (by decide) ?_
    refine S_istore_n (pc := 1) hC dX13_four_1 rfl (by decide) ?_
    exact hJ 2
  have hB2 : zin 3 [0, 1, 2] (aX13_four_2 mc ms X Q) X 2 := by
    intro u v vs st M hb
    rw [hXe]
    refine fun lv hp => S_block (L := 2) (live := [0, 1, 2]) ?_ u v lv vs st M hp hb
    unfold aX13_four_2
    refine S_iload_n (pc := 2) hC dX13_four_2 rfl ?_
    refine S_if_lt (pc := 3) (tgt := 38) hC dX13_four_3 (by decide) ?_ ?_
    · exact S_vreturn (pc := 38) hC hr dX13_four_38
    · refine S_aload_n (pc := 6) hC dX13_four_6 rfl ?_
      refine S_getR (pc := 7) hC cfX13 (by decide) (Or.inr ⟨_, rfl⟩) wd_1256 dX13_four_7 ?_
      refine S_aload_n (pc := 10) hC dX13_four_10 rfl ?_
      refine S_geti (pc := 11) hC cfX13 (by decide) (Or.inl rfl) wd_1257 dX13_four_11 ?_
      refine S_iload_n (pc := 14) hC dX13_four_14 rfl ?_
      refine S_bipush (pc := 15) hC dX13_four_15 (by decide) ?_
      refine S_iload_n (pc := 17) hC dX13_four_17 rfl ?_
      refine S_imul (pc := 18) hC dX13_four_18 ?_
      refine S_ishr (pc := 19) hC dX13_four_19 ?_
      refine S_i2b (pc := 20) hC dX13_four_20 ?_
      refine S_bastore (pc := 21) hC dX13_four_21 ?_
      refine S_aload_n (pc := 22) hC dX13_four_22 rfl ?_
      refine S_dup (pc := 23) hC dX13_four_23 ?_
      refine S_geti (pc := 24) hC cfX13 (by decide) (Or.inl rfl) wd_1257 dX13_four_24 ?_
      refine S_iconst (pc := 27) hC dX13_four_27 (by decide) ?_
      refine S_iadd (pc := 28) hC dX13_four_28 ?_
      refine S_puti (pc := 29) hC cfX13 (by decide) rfl (Or.inl rfl) wd_1257 dX13_four_29 ?_
      refine S_iinc (pc := 32) hC dX13_four_32 (by decide) (by decide) ?_
      refine S_goto (pc := 35) (tgt := 2) hC dX13_four_35 (by decide) ?_
      exact hJ 2
  have := h.2 X hB0 hB2
  rw [hXe] at this
  exact this lv hlv
theorem vX13_four_0 {mc ms : Nat} {X : Nat → zV} {Q : zQt} {M : zM} {x1 : Int32} (hW : zFix M)  (h : X 2 0 0 [.ref 55, .int x1, .int 3] [] M) : aX13_four_0 mc ms X Q 0 0 [some (.ref 55), some (.int x1), none] [] M := h
theorem vX13_four_2 {mc ms : Nat} {X : Nat → zV} {Q : zQt} {M : zM} {x1 : Int32} {x2 : Int32} (hW : zFix M)  (h : (x2 < 0 → Q none M) ∧ (¬ x2 < 0 → vp_in ((M.1 55 2)) 8200 ∧ ∀ M21 : zM, M21 = (zsI M 56 ((M.1 55 2) : Int32).toNatClampNeg (vp_nar .byte (((x1 >>> (((8 : Int32) * x2) &&& 31)).toInt8.toInt32)))) → ∀ M29 : zM, M29 = (zsI M21 55 2 (((M21.1 55 2) + (1 : Int32)))) → X 2 0 0 [.ref 55, .int x1, .int (x2 + (-1))] [] M29)) : aX13_four_2 mc ms X Q 0 0 [some (.ref 55), some (.int x1), some (.int x2)] [] M := ⟨fun c3 => (h.1 c3), fun c3 => ⟨(fxs_55 hW), 56, (fxr_55_1 hW), ⟨(fxs_55 hW), ⟨8200, (fxs_56 hW), (h.2 c3).1, (have h21 := (h.2 c3).2 _ rfl; ⟨(fxs_55 hW), ⟨(fxs_55 hW), (have h29 := h21 _ rfl; h29)⟩⟩)⟩⟩⟩⟩
theorem dX13_tape_0 : decode cX13_tape 0 = .ok (.aload_n 0, 1) := by decide +kernel
theorem dX13_tape_1 : decode cX13_tape 1 = .ok (.iconst 0, 1) := by decide +kernel
theorem dX13_tape_2 : decode cX13_tape 2 = .ok (.putfield 68, 3) := by decide +kernel
theorem dX13_tape_5 : decode cX13_tape 5 = .ok (.aload_n 0, 1) := by decide +kernel
theorem dX13_tape_6 : decode cX13_tape 6 = .ok (.getfield 153, 3) := by decide +kernel
theorem dX13_tape_9 : decode cX13_tape 9 = .ok (.sipush 8180, 3) := by decide +kernel
theorem dX13_tape_12 : decode cX13_tape 12 = .ok (.if_icmp .lt 5, 3) := by decide +kernel
theorem dX13_tape_15 : decode cX13_tape 15 = .ok (.iconst 0, 1) := by decide +kernel
theorem dX13_tape_16 : decode cX13_tape 16 = .ok (.ireturn, 1) := by decide +kernel
theorem dX13_tape_17 : decode cX13_tape 17 = .ok (.aload_n 0, 1) := by decide +kernel
theorem dX13_tape_18 : decode cX13_tape 18 = .ok (.iload_n 1, 1) := by decide +kernel
theorem dX13_tape_19 : decode cX13_tape 19 = .ok (.invokevirtual 156, 3) := by decide +kernel
theorem dX13_tape_22 : decode cX13_tape 22 = .ok (.aload_n 0, 1) := by decide +kernel
theorem dX13_tape_23 : decode cX13_tape 23 = .ok (.iload_n 2, 1) := by decide +kernel
theorem dX13_tape_24 : decode cX13_tape 24 = .ok (.invokevirtual 156, 3) := by decide +kernel
theorem dX13_tape_27 : decode cX13_tape 27 = .ok (.aload_n 0, 1) := by decide +kernel
theorem dX13_tape_28 : decode cX13_tape 28 = .ok (.iload_n 3, 1) := by decide +kernel
theorem dX13_tape_29 : decode cX13_tape 29 = .ok (.invokevirtual 156, 3) := by decide +kernel
theorem dX13_tape_32 : decode cX13_tape 32 = .ok (.aload_n 0, 1) := by decide +kernel
theorem dX13_tape_33 : decode cX13_tape 33 = .ok (.iload 4, 2) := by decide +kernel
theorem dX13_tape_35 : decode cX13_tape 35 = .ok (.invokevirtual 156, 3) := by decide +kernel
theorem dX13_tape_38 : decode cX13_tape 38 = .ok (.aload_n 0, 1) := by decide +kernel
theorem dX13_tape_39 : decode cX13_tape 39 = .ok (.iload 5, 2) := by decide +kernel
theorem dX13_tape_41 : decode cX13_tape 41 = .ok (.invokevirtual 156, 3) := by decide +kernel
theorem dX13_tape_44 : decode cX13_tape 44 = .ok (.iconst 1, 1) := by decide +kernel
theorem dX13_tape_45 : decode cX13_tape 45 = .ok (.ireturn, 1) := by decide +kernel
def kX13_tape_44 (mc ms : Nat) (X : Nat → zV) (Q : zQt) : zT :=
  zc (.int 1) <| zrz .boolean Q
def kX13_tape_38 (mc ms : Nat) (X : Nat → zV) (Q : zQt) : zT :=
  zla 0 <| zli 5 <| zcv mc ms 13 1 wX13_four <| kX13_tape_44 mc ms X Q
def kX13_tape_32 (mc ms : Nat) (X : Nat → zV) (Q : zQt) : zT :=
  zla 0 <| zli 4 <| zcv mc ms 13 1 wX13_four <| kX13_tape_38 mc ms X Q
def kX13_tape_27 (mc ms : Nat) (X : Nat → zV) (Q : zQt) : zT :=
  zla 0 <| zli 3 <| zcv mc ms 13 1 wX13_four <| kX13_tape_32 mc ms X Q
def kX13_tape_22 (mc ms : Nat) (X : Nat → zV) (Q : zQt) : zT :=
  zla 0 <| zli 2 <| zcv mc ms 13 1 wX13_four <| kX13_tape_27 mc ms X Q
def aX13_tape_0 (mc ms : Nat) (X : Nat → zV) (Q : zQt) : zT :=
  zla 0 <| zc (.int 0) <| zpi 13 0 <| zla 0 <| zgi 13 2 <| zc (.int 8180) <| zic (fun x y => x < y) (zla 0 <| zli 1 <| zcv mc ms 13 1 wX13_four <| kX13_tape_22 mc ms X Q) <| zc (.int 0) <| zrz .boolean Q
def lvX13_tape : Nat → List Nat := fun L => match L with
  | 0 => [0, 1, 2, 3, 4, 5]
  | _ => []
def wX13_tape : zSp := fun mc ms av M Q => ((zlay av).length ≤ 6 ∧ zpick (zlay av) [0, 1, 2, 3, 4, 5] = some av) ∧ ∀ X : Nat → zV, zin 6 [0, 1, 2, 3, 4, 5] (aX13_tape_0 mc ms X Q) X 0 → X 0 0 0 av [] M
set_option maxRecDepth 100000 in
set_option maxHeartbeats 4000000 in
theorem sX13_tape (l : Launch) (G : zG) : zSnd l G yX13_tape cX13_tape 6 (some .boolean) 1 22 wX13_tape := by
  refine zmk [0, 1, 2, 3, 4, 5] (by decide) (fun mc ms av M Q h => h.1) ?_
  intro p e R s m args below meth c mc ms av M Q hC hRf hRl hr hnm h lv hlv
  obtain ⟨X, hXe⟩ : ∃ X : Nat → zV, X = fun L u v vs st M => ∀ lv, zpick lv (lvX13_tape L) = some vs → zAt p l e R s m args below meth c (MQ below (zQ G Q) args s mc ms (zA G)) G 6 L u v lv st M := ⟨_, rfl⟩
  have hJ : ∀ L, zOk p l e R s m args below meth c (MQ below (zQ G Q) args s mc ms (zA G)) G 6 L (zj X L (lvX13_tape L)) := fun L => S_jump (fun u v lv vs st M hp hx => by rw [hXe] at hx; exact hx lv hp)
  have hB0 : zin 6 [0, 1, 2, 3, 4, 5] (aX13_tape_0 mc ms X Q) X 0 := by
    intro u v vs st M hb
    rw [hXe]
    refine fun lv hp => S_block (L := 0) (live := [0, 1, 2, 3, 4, 5]) ?_ u v lv vs st M hp hb
    unfold aX13_tape_0
    refine S_aload_n (pc := 0) hC dX13_tape_0 rfl ?_
    refine S_iconst (pc := 1) hC dX13_tape_1 (by decide) ?_
    refine S_puti (pc := 2) hC cfX13 (by decide) rfl (Or.inl rfl) wd_1255 dX13_tape_2 ?_
    refine S_aload_n (pc := 5) hC dX13_tape_5 rfl ?_
    refine S_geti (pc := 6) hC cfX13 (by decide) (Or.inl rfl) wd_1257 dX13_tape_6 ?_
    refine S_sipush (pc := 9) hC dX13_tape_9 (by decide) ?_
    refine S_icmp_lt (pc := 12) (tgt := 17) hC dX13_tape_12 (by decide) ?_ ?_
    · refine S_aload_n (pc := 17) hC dX13_tape_17 rfl ?_
      refine S_iload_n (pc := 18) hC dX13_tape_18 rfl ?_
      refine S_callV (pc := 19) hC (sX13_four l G) rfl wd_1342 wd_1344 ws_53 wd_12 wd_1345 (by decide +kernel) ⟨by rw [hRf]; decide, by rw [hRl]; decide⟩ dX13_tape_19 ?_
      unfold kX13_tape_22
      refine S_aload_n (pc := 22) hC dX13_tape_22 rfl ?_
      refine S_iload_n (pc := 23) hC dX13_tape_23 rfl ?_
      refine S_callV (pc := 24) hC (sX13_four l G) rfl wd_1342 wd_1344 ws_53 wd_12 wd_1345 (by decide +kernel) ⟨by rw [hRf]; decide, by rw [hRl]; decide⟩ dX13_tape_24 ?_
      unfold kX13_tape_27
      refine S_aload_n (pc := 27) hC dX13_tape_27 rfl ?_
      refine S_iload_n (pc := 28) hC dX13_tape_28 rfl ?_
      refine S_callV (pc := 29) hC (sX13_four l G) rfl wd_1342 wd_1344 ws_53 wd_12 wd_1345 (by decide +kernel) ⟨by rw [hRf]; decide, by rw [hRl]; decide⟩ dX13_tape_29 ?_
      unfold kX13_tape_32
      refine S_aload_n (pc := 32) hC dX13_tape_32 rfl ?_
      refine S_iload (pc := 33) hC dX13_tape_33 ?_
      refine S_callV (pc := 35) hC (sX13_four l G) rfl wd_1342 wd_1344 ws_53 wd_12 wd_1345 (by decide +kernel) ⟨by rw [hRf]; decide, by rw [hRl]; decide⟩ dX13_tape_35 ?_
      unfold kX13_tape_38
      refine S_aload_n (pc := 38) hC dX13_tape_38 rfl ?_
      refine S_iload (pc := 39) hC dX13_tape_39 ?_
      refine S_callV (pc := 41) hC (sX13_four l G) rfl wd_1342 wd_1344 ws_53 wd_12 wd_1345 (by decide +kernel) ⟨by rw [hRf]; decide, by rw [hRl]; decide⟩ dX13_tape_41 ?_
      unfold kX13_tape_44
      refine S_iconst (pc := 44) hC dX13_tape_44 (by decide) ?_
      exact S_zreturn (pc := 45) hC hr dX13_tape_45
    · refine S_iconst (pc := 15) hC dX13_tape_15 (by decide) ?_
      exact S_zreturn (pc := 16) hC hr dX13_tape_16
  have := h.2 X hB0
  rw [hXe] at this
  exact this lv hlv
theorem vX13_tape_0 {mc ms : Nat} {X : Nat → zV} {Q : zQt} {M : zM} {x1 : Int32} {x2 : Int32} {x3 : Int32} {x4 : Int32} {x5 : Int32} (hW : zFix M)  (h : ∀ M2 : zM, M2 = (zsI M 55 0 0) → ((M2.1 55 2) < (8180 : Int32) → wX13_four 0 0 [.ref 55, .int x1] M2 (fun r M1 => kX13_tape_22 mc ms X Q 0 0 [some (.ref 55), some (.int x1), some (.int x2), some (.int x3), some (.int x4), some (.int x5)] (r.toList ++ []) M1)) ∧ (¬ (M2.1 55 2) < (8180 : Int32) → Q (some (.int 0)) M2)) : aX13_tape_0 mc ms X Q 0 0 [some (.ref 55), some (.int x1), some (.int x2), some (.int x3), some (.int x4), some (.int x5)] [] M := ⟨(fxs_55 hW), (have h2 := h _ rfl; ⟨(fxs_55 hW), ⟨fun c12 => ⟨Nat.le_of_ble_eq_true rfl, rfl, (fxs_55 hW), 0, 0, Nat.zero_le _, Nat.zero_le _, (h2.1 c12)⟩, fun c12 => ⟨rfl, (h2.2 c12)⟩⟩⟩)⟩
theorem vkX13_tape_22 {mc ms : Nat} {X : Nat → zV} {Q : zQt} {M : zM} {x1 : Int32} {x2 : Int32} {x3 : Int32} {x4 : Int32} {x5 : Int32} (hW : zFix M)  (h : wX13_four 0 0 [.ref 55, .int x2] M (fun r M1 => kX13_tape_27 mc ms X Q 0 0 [some (.ref 55), some (.int x1), some (.int x2), some (.int x3), some (.int x4), some (.int x5)] (r.toList ++ []) M1)) : kX13_tape_22 mc ms X Q 0 0 [some (.ref 55), some (.int x1), some (.int x2), some (.int x3), some (.int x4), some (.int x5)] [] M := ⟨Nat.le_of_ble_eq_true rfl, rfl, (fxs_55 hW), 0, 0, Nat.zero_le _, Nat.zero_le _, h⟩
theorem vkX13_tape_27 {mc ms : Nat} {X : Nat → zV} {Q : zQt} {M : zM} {x1 : Int32} {x2 : Int32} {x3 : Int32} {x4 : Int32} {x5 : Int32} (hW : zFix M)  (h : wX13_four 0 0 [.ref 55, .int x3] M (fun r M1 => kX13_tape_32 mc ms X Q 0 0 [some (.ref 55), some (.int x1), some (.int x2), some (.int x3), some (.int x4), some (.int x5)] (r.toList ++ []) M1)) : kX13_tape_27 mc ms X Q 0 0 [some (.ref 55), some (.int x1), some (.int x2), some (.int x3), some (.int x4), some (.int x5)] [] M := ⟨Nat.le_of_ble_eq_true rfl, rfl, (fxs_55 hW), 0, 0, Nat.zero_le _, Nat.zero_le _, h⟩
theorem vkX13_tape_32 {mc ms : Nat} {X : Nat → zV} {Q : zQt} {M : zM} {x1 : Int32} {x2 : Int32} {x3 : Int32} {x4 : Int32} {x5 : Int32} (hW : zFix M)  (h : wX13_four 0 0 [.ref 55, .int x4] M (fun r M1 => kX13_tape_38 mc ms X Q 0 0 [some (.ref 55), some (.int x1), some (.int x2), some (.int x3), some (.int x4), some (.int x5)] (r.toList ++ []) M1)) : kX13_tape_32 mc ms X Q 0 0 [some (.ref 55), some (.int x1), some (.int x2), some (.int x3), some (.int x4), some (.int x5)] [] M := ⟨Nat.le_of_ble_eq_true rfl, rfl, (fxs_55 hW), 0, 0, Nat.zero_le _, Nat.zero_le _, h⟩
theorem vkX13_tape_38 {mc ms : Nat} {X : Nat → zV} {Q : zQt} {M : zM} {x1 : Int32} {x2 : Int32} {x3 : Int32} {x4 : Int32} {x5 : Int32} (hW : zFix M)  (h : wX13_four 0 0 [.ref 55, .int x5] M (fun r M1 => kX13_tape_44 mc ms X Q 0 0 [some (.ref 55), some (.int x1), some (.int x2), some (.int x3), some (.int x4), some (.int x5)] (r.toList ++ []) M1)) : kX13_tape_38 mc ms X Q 0 0 [some (.ref 55), some (.int x1), some (.int x2), some (.int x3), some (.int x4), some (.int x5)] [] M := ⟨Nat.le_of_ble_eq_true rfl, rfl, (fxs_55 hW), 0, 0, Nat.zero_le _, Nat.zero_le _, h⟩
theorem vkX13_tape_44 {mc ms : Nat} {X : Nat → zV} {Q : zQt} {M : zM} {x1 : Int32} {x2 : Int32} {x3 : Int32} {x4 : Int32} {x5 : Int32} (hW : zFix M)  (h : Q (some (.int 1)) M) : kX13_tape_44 mc ms X Q 0 0 [some (.ref 55), some (.int x1), some (.int x2), some (.int x3), some (.int x4), some (.int x5)] [] M := ⟨rfl, h⟩
theorem dX13_peek_0 : decode cX13_peek 0 = .ok (.aload_n 0, 1) := by decide +kernel
theorem dX13_peek_1 : decode cX13_peek 1 = .ok (.getfield 159, 3) := by decide +kernel
theorem dX13_peek_4 : decode cX13_peek 4 = .ok (.aload_n 0, 1) := by decide +kernel
theorem dX13_peek_5 : decode cX13_peek 5 = .ok (.getfield 162, 3) := by decide +kernel
theorem dX13_peek_8 : decode cX13_peek 8 = .ok (.if_icmp .ge 19, 3) := by decide +kernel
theorem dX13_peek_11 : decode cX13_peek 11 = .ok (.aload_n 0, 1) := by decide +kernel
theorem dX13_peek_12 : decode cX13_peek 12 = .ok (.getfield 7, 3) := by decide +kernel
theorem dX13_peek_15 : decode cX13_peek 15 = .ok (.aload_n 0, 1) := by decide +kernel
theorem dX13_peek_16 : decode cX13_peek 16 = .ok (.getfield 159, 3) := by decide +kernel
theorem dX13_peek_19 : decode cX13_peek 19 = .ok (.baload, 1) := by decide +kernel
theorem dX13_peek_20 : decode cX13_peek 20 = .ok (.sipush 255, 3) := by decide +kernel
theorem dX13_peek_23 : decode cX13_peek 23 = .ok (.iand, 1) := by decide +kernel
theorem dX13_peek_24 : decode cX13_peek 24 = .ok (.goto 4, 3) := by decide +kernel
theorem dX13_peek_27 : decode cX13_peek 27 = .ok (.iconst 0, 1) := by decide +kernel
theorem dX13_peek_28 : decode cX13_peek 28 = .ok (.ireturn, 1) := by decide +kernel
def aX13_peek_0 (mc ms : Nat) (X : Nat → zV) (Q : zQt) : zT :=
  zla 0 <| zgi 13 21 <| zla 0 <| zgi 13 22 <| zic (fun x y => y ≤ x) (zc (.int 0) <| zj X 28 []) <| zla 0 <| zgR 13 1 <| zla 0 <| zgi 13 21 <| zal 3 <| zc (.int 255) <| zii (fun x y => x &&& y) <| zj X 28 []
def aX13_peek_28 (mc ms : Nat) (X : Nat → zV) (Q : zQt) : zT :=
  zri Q
def lvX13_peek : Nat → List Nat := fun L => match L with
  | 0 => [0]
  | 28 => []
  | _ => []
def wX13_peek : zSp := fun mc ms av M Q => ((zlay av).length ≤ 1 ∧ zpick (zlay av) [0] = some av) ∧ ∀ X : Nat → zV, zin 1 [0] (aX13_peek_0 mc ms X Q) X 0 → zin 1 [] (aX13_peek_28 mc ms X Q) X 28 → X 0 0 0 av [] M
set_option maxRecDepth 100000 in
set_option maxHeartbeats 4000000 in
theorem sX13_peek (l : Launch) (G : zG) : zSnd l G yX13_peek cX13_peek 1 (some .int) 0 0 wX13_peek := by
  refine zmk [0] (by decide) (fun mc ms av M Q h => h.1) ?_
  intro p e R s m args below meth c mc ms av M Q hC hRf hRl hr hnm h lv hlv
  obtain ⟨X, hXe⟩ : ∃ X : Nat → zV, X = fun L u v vs st M => ∀ lv, zpick lv (lvX13_peek L) = some vs → zAt p l e R s m args below meth c (MQ below (zQ G Q) args s mc ms (zA G)) G 1 L u v lv st M := ⟨_, rfl⟩
  have hJ : ∀ L, zOk p l e R s m args below meth c (MQ below (zQ G Q) args s mc ms (zA G)) G 1 L (zj X L (lvX13_peek L)) := fun L => S_jump (fun u v lv vs st M hp hx => by rw [hXe] at hx; exact hx lv hp)
  have hB0 : zin 1 [0] (aX13_peek_0 mc ms X Q) X 0 := by
    intro u v vs st M hb
    rw [hXe]
    refine fun lv hp => S_block (L := 0) (live := [0]) ?_ u v lv vs st M hp hb
    unfold aX13_peek_0
    refine S_aload_n (pc := 0) hC dX13_peek_0 rfl ?_
    refine S_geti (pc := 1) hC cfX13 (by decide) (Or.inl rfl) wd_1276 dX13_peek_1 ?_
    refine S_aload_n (pc := 4) hC dX13_peek_4 rfl ?_
    refine S_geti (pc := 5) hC cfX13 (by decide) (Or.inl rfl) wd_1277 dX13_peek_5 ?_
    refine S_icmp_ge (pc := 8) (tgt := 27) hC dX13_peek_8 (by decide) ?_ ?_
    · refine S_iconst (pc := 27) hC dX13_peek_27 (by decide) ?_
      exact hJ 28
    · refine S_aload_n (pc := 11) hC dX13_peek_11 rfl ?_
      refine S_getR (pc := 12) hC cfX13 (by decide) (Or.inr ⟨_, rfl⟩) wd_1256 dX13_peek_12 ?_
      refine S_aload_n (pc := 15) hC dX13_peek_15 rfl ?_
      refine S_geti (pc := 16) hC cfX13 (by decide) (Or.inl rfl) wd_1276 dX13_peek_16 ?_
      refine S_baload (pc := 19) hC dX13_peek_19 ?_
      refine S_sipush (pc := 20) hC dX13_peek_20 (by decide) ?_
      refine S_iand (pc := 23) hC dX13_peek_23 ?_
      refine S_goto (pc := 24) (tgt := 28) hC dX13_peek_24 (by decide) ?_
      exact hJ 28
  have hB28 : zin 1 [] (aX13_peek_28 mc ms X Q) X 28 := by
    intro u v vs st M hb
    rw [hXe]
    refine fun lv hp => S_block (L := 28) (live := []) ?_ u v lv vs st M hp hb
    unfold aX13_peek_28
    exact S_ireturn (pc := 28) hC hr dX13_peek_28
  have := h.2 X hB0 hB28
  rw [hXe] at this
  exact this lv hlv
theorem vX13_peek_0 {mc ms : Nat} {X : Nat → zV} {Q : zQt} {M : zM}  (hW : zFix M)  (h : ((M.1 55 22) ≤ (M.1 55 21) → X 28 0 0 [] [.int 0] M) ∧ (¬ (M.1 55 22) ≤ (M.1 55 21) → vp_in ((M.1 55 21)) 8200 ∧ X 28 0 0 [] [.int (((M : zM).1 56 ((M.1 55 21) : Int32).toNatClampNeg) &&& (255 : Int32))] M)) : aX13_peek_0 mc ms X Q 0 0 [some (.ref 55)] [] M := ⟨(fxs_55 hW), ⟨(fxs_55 hW), ⟨fun c8 => (h.1 c8), fun c8 => ⟨(fxs_55 hW), 56, (fxr_55_1 hW), ⟨(fxs_55 hW), ⟨8200, (fxs_56 hW), (h.2 c8).1, (h.2 c8).2⟩⟩⟩⟩⟩⟩
theorem vX13_peek_28 {mc ms : Nat} {X : Nat → zV} {Q : zQt} {M : zM} {s0 : Int32} (hW : zFix M)  (h : Q (some (.int s0)) M) : aX13_peek_28 mc ms X Q 0 0 [none] [.int s0] M := h
theorem dX13_eat_0 : decode cX13_eat 0 = .ok (.aload_n 0, 1) := by decide +kernel
theorem dX13_eat_1 : decode cX13_eat 1 = .ok (.invokevirtual 165, 3) := by decide +kernel
theorem dX13_eat_4 : decode cX13_eat 4 = .ok (.iload_n 1, 1) := by decide +kernel
theorem dX13_eat_5 : decode cX13_eat 5 = .ok (.if_icmp .ne 14, 3) := by decide +kernel
theorem dX13_eat_8 : decode cX13_eat 8 = .ok (.aload_n 0, 1) := by decide +kernel
theorem dX13_eat_9 : decode cX13_eat 9 = .ok (.getfield 159, 3) := by decide +kernel
theorem dX13_eat_12 : decode cX13_eat 12 = .ok (.aload_n 0, 1) := by decide +kernel
theorem dX13_eat_13 : decode cX13_eat 13 = .ok (.getfield 162, 3) := by decide +kernel
theorem dX13_eat_16 : decode cX13_eat 16 = .ok (.if_icmp .lt 5, 3) := by decide +kernel
theorem dX13_eat_19 : decode cX13_eat 19 = .ok (.iconst 0, 1) := by decide +kernel
theorem dX13_eat_20 : decode cX13_eat 20 = .ok (.ireturn, 1) := by decide +kernel
theorem dX13_eat_21 : decode cX13_eat 21 = .ok (.aload_n 0, 1) := by decide +kernel
theorem dX13_eat_22 : decode cX13_eat 22 = .ok (.dup, 1) := by decide +kernel
theorem dX13_eat_23 : decode cX13_eat 23 = .ok (.getfield 159, 3) := by decide +kernel
theorem dX13_eat_26 : decode cX13_eat 26 = .ok (.iconst 1, 1) := by decide +kernel
theorem dX13_eat_27 : decode cX13_eat 27 = .ok (.iadd, 1) := by decide +kernel
theorem dX13_eat_28 : decode cX13_eat 28 = .ok (.putfield 159, 3) := by decide +kernel
theorem dX13_eat_31 : decode cX13_eat 31 = .ok (.iconst 1, 1) := by decide +kernel
theorem dX13_eat_32 : decode cX13_eat 32 = .ok (.ireturn, 1) := by decide +kernel
def kX13_eat_4 (mc ms : Nat) (X : Nat → zV) (Q : zQt) : zT :=
  zli 1 <| zic (fun x y => x = y) (zla 0 <| zgi 13 21 <| zla 0 <| zgi 13 22 <| zic (fun x y => x < y) (zla 0 <| zdup <| zgi 13 21 <| zc (.int 1) <| zii (fun x y => x + y) <| zpi 13 21 <| zc (.int 1) <| zrz .boolean Q) <| zj X 19 []) <| zj X 19 []
def aX13_eat_0 (mc ms : Nat) (X : Nat → zV) (Q : zQt) : zT :=
  zla 0 <| zcv mc ms 13 0 wX13_peek <| kX13_eat_4 mc ms X Q
def aX13_eat_19 (mc ms : Nat) (X : Nat → zV) (Q : zQt) : zT :=
  zc (.int 0) <| zrz .boolean Q
def lvX13_eat : Nat → List Nat := fun L => match L with
  | 0 => [0, 1]
  | 19 => []
  | _ => []
def wX13_eat : zSp := fun mc ms av M Q => ((zlay av).length ≤ 2 ∧ zpick (zlay av) [0, 1] = some av) ∧ ∀ X : Nat → zV, zin 2 [0, 1] (aX13_eat_0 mc ms X Q) X 0 → zin 2 [] (aX13_eat_19 mc ms X Q) X 19 → X 0 0 0 av [] M
set_option maxRecDepth 100000 in
set_option maxHeartbeats 4000000 in
theorem sX13_eat (l : Launch) (G : zG) : zSnd l G yX13_eat cX13_eat 2 (some .boolean) 1 20 wX13_eat := by
  refine zmk [0, 1] (by decide) (fun mc ms av M Q h => h.1) ?_
  intro p e R s m args below meth c mc ms av M Q hC hRf hRl hr hnm h lv hlv
  obtain ⟨X, hXe⟩ : ∃ X : Nat → zV, X = fun L u v vs st M => ∀ lv, zpick lv (lvX13_eat L) = some vs → zAt p l e R s m args below meth c (MQ below (zQ G Q) args s mc ms (zA G)) G 2 L u v lv st M := ⟨_, rfl⟩
  have hJ : ∀ L, zOk p l e R s m args below meth c (MQ below (zQ G Q) args s mc ms (zA G)) G 2 L (zj X L (lvX13_eat L)) := fun L => S_jump (fun u v lv vs st M hp hx => by rw [hXe] at hx; exact hx lv hp)
  have hB0 : zin 2 [0, 1] (aX13_eat_0 mc ms X Q) X 0 := by
    intro u v vs st M hb
    rw [hXe]
    refine fun lv hp => S_block (L := 0) (live := [0, 1]) ?_ u v lv vs st M hp hb
    unfold aX13_eat_0
    refine S_aload_n (pc := 0) hC dX13_eat_0 rfl ?_
    refine S_callV (pc := 1) hC (sX13_peek l G) rfl wd_1366 wd_1368 ws_58 wd_12 wd_1369 (by decide +kernel) ⟨by rw [hRf]; decide, by rw [hRl]; decide⟩ dX13_eat_1 ?_
    unfold kX13_eat_4
    refine S_iload_n (pc := 4) hC dX13_eat_4 rfl ?_
    refine S_icmp_ne (pc := 5) (tgt := 19) hC dX13_eat_5 (by decide) ?_ ?_
    · exact hJ 19
    · refine S_aload_n (pc := 8) hC dX13_eat_8 rfl ?_
      refine S_geti (pc := 9) hC cfX13 (by decide) (Or.inl rfl) wd_1276 dX13_eat_9 ?_
      refine S_aload_n (pc := 12) hC dX13_eat_12 rfl ?_
      refine S_geti (pc := 13) hC cfX13 (by decide) (Or.inl rfl) wd_1277 dX13_eat_13 ?_
      refine S_icmp_lt (pc := 16) (tgt := 21) hC dX13_eat_16 (by decide) ?_ ?_
      · refine S_aload_n (pc := 21) hC dX13_eat_21 rfl ?_
        refine S_dup (pc := 22) hC dX13_eat_22 ?_
        refine S_geti (pc := 23) hC cfX13 (by decide) (Or.inl rfl) wd_1276 dX13_eat_23 ?_
        refine S_iconst (pc := 26) hC dX13_eat_26 (by decide) ?_
        refine S_iadd (pc := 27) hC dX13_eat_27 ?_
        refine S_puti (pc := 28) hC cfX13 (by decide) rfl (Or.inl rfl) wd_1276 dX13_eat_28 ?_
        refine S_iconst (pc := 31) hC dX13_eat_31 (by decide) ?_
        exact S_zreturn (pc := 32) hC hr dX13_eat_32
      · exact hJ 19
  have hB19 : zin 2 [] (aX13_eat_19 mc ms X Q) X 19 := by
    intro u v vs st M hb
    rw [hXe]
    refine fun lv hp => S_block (L := 19) (live := []) ?_ u v lv vs st M hp hb
    unfold aX13_eat_19
    refine S_iconst (pc := 19) hC dX13_eat_19 (by decide) ?_
    exact S_zreturn (pc := 20) hC hr dX13_eat_20
  have := h.2 X hB0 hB19
  rw [hXe] at this
  exact this lv hlv
theorem vX13_eat_0 {mc ms : Nat} {X : Nat → zV} {Q : zQt} {M : zM} {x1 : Int32} (hW : zFix M)  (h : wX13_peek 0 0 [.ref 55] M (fun r M1 => kX13_eat_4 mc ms X Q 0 0 [some (.ref 55), some (.int x1)] (r.toList ++ []) M1)) : aX13_eat_0 mc ms X Q 0 0 [some (.ref 55), some (.int x1)] [] M := ⟨Nat.le_of_ble_eq_true rfl, rfl, (fxs_55 hW), 0, 0, Nat.zero_le _, Nat.zero_le _, h⟩
theorem vX13_eat_19 {mc ms : Nat} {X : Nat → zV} {Q : zQt} {M : zM}  (hW : zFix M)  (h : Q (some (.int 0)) M) : aX13_eat_19 mc ms X Q 0 0 [none, none] [] M := ⟨rfl, h⟩
theorem vkX13_eat_4 {mc ms : Nat} {X : Nat → zV} {Q : zQt} {M : zM} {x1 : Int32} {s0 : Int32} (hW : zFix M)  (h : (s0 = x1 → ((M.1 55 21) < (M.1 55 22) → ∀ M28 : zM, M28 = (zsI M 55 21 (((M.1 55 21) + (1 : Int32)))) → Q (some (.int 1)) M28) ∧ (¬ (M.1 55 21) < (M.1 55 22) → X 19 0 0 [] [] M)) ∧ (¬ s0 = x1 → X 19 0 0 [] [] M)) : kX13_eat_4 mc ms X Q 0 0 [some (.ref 55), some (.int x1)] [.int s0] M := ⟨fun c5 => ⟨(fxs_55 hW), ⟨(fxs_55 hW), ⟨fun c16 => ⟨(fxs_55 hW), ⟨(fxs_55 hW), (have h28 := ((h.1 c5).1 c16) _ rfl; ⟨rfl, h28⟩)⟩⟩, fun c16 => ((h.1 c5).2 c16)⟩⟩⟩, fun c5 => (h.2 c5)⟩
theorem dX13_letter_0 : decode cX13_letter 0 = .ok (.iload_n 0, 1) := by decide +kernel
theorem dX13_letter_1 : decode cX13_letter 1 = .ok (.invokestatic 71, 3) := by decide +kernel
theorem dX13_letter_4 : decode cX13_letter 4 = .ok (.istore_n 1, 1) := by decide +kernel
theorem dX13_letter_5 : decode cX13_letter 5 = .ok (.iload_n 1, 1) := by decide +kernel
theorem dX13_letter_6 : decode cX13_letter 6 = .ok (.iconst 1, 1) := by decide +kernel
theorem dX13_letter_7 : decode cX13_letter 7 = .ok (.if_icmp .ne 8, 3) := by decide +kernel
theorem dX13_letter_10 : decode cX13_letter 10 = .ok (.bipush 80, 2) := by decide +kernel
theorem dX13_letter_12 : decode cX13_letter 12 = .ok (.goto 45, 3) := by decide +kernel
theorem dX13_letter_15 : decode cX13_letter 15 = .ok (.iload_n 1, 1) := by decide +kernel
theorem dX13_letter_16 : decode cX13_letter 16 = .ok (.iconst 2, 1) := by decide +kernel
theorem dX13_letter_17 : decode cX13_letter 17 = .ok (.if_icmp .ne 8, 3) := by decide +kernel
theorem dX13_letter_20 : decode cX13_letter 20 = .ok (.bipush 78, 2) := by decide +kernel
theorem dX13_letter_22 : decode cX13_letter 22 = .ok (.goto 35, 3) := by decide +kernel
theorem dX13_letter_25 : decode cX13_letter 25 = .ok (.iload_n 1, 1) := by decide +kernel
theorem dX13_letter_26 : decode cX13_letter 26 = .ok (.iconst 3, 1) := by decide +kernel
theorem dX13_letter_27 : decode cX13_letter 27 = .ok (.if_icmp .ne 8, 3) := by decide +kernel
theorem dX13_letter_30 : decode cX13_letter 30 = .ok (.bipush 66, 2) := by decide +kernel
theorem dX13_letter_32 : decode cX13_letter 32 = .ok (.goto 25, 3) := by decide +kernel
theorem dX13_letter_35 : decode cX13_letter 35 = .ok (.iload_n 1, 1) := by decide +kernel
theorem dX13_letter_36 : decode cX13_letter 36 = .ok (.iconst 4, 1) := by decide +kernel
theorem dX13_letter_37 : decode cX13_letter 37 = .ok (.if_icmp .ne 8, 3) := by decide +kernel
theorem dX13_letter_40 : decode cX13_letter 40 = .ok (.bipush 82, 2) := by decide +kernel
theorem dX13_letter_42 : decode cX13_letter 42 = .ok (.goto 15, 3) := by decide +kernel
theorem dX13_letter_45 : decode cX13_letter 45 = .ok (.iload_n 1, 1) := by decide +kernel
theorem dX13_letter_46 : decode cX13_letter 46 = .ok (.iconst 5, 1) := by decide +kernel
theorem dX13_letter_47 : decode cX13_letter 47 = .ok (.if_icmp .ne 8, 3) := by decide +kernel
theorem dX13_letter_50 : decode cX13_letter 50 = .ok (.bipush 81, 2) := by decide +kernel
theorem dX13_letter_52 : decode cX13_letter 52 = .ok (.goto 5, 3) := by decide +kernel
theorem dX13_letter_55 : decode cX13_letter 55 = .ok (.bipush 75, 2) := by decide +kernel
theorem dX13_letter_57 : decode cX13_letter 57 = .ok (.istore_n 2, 1) := by decide +kernel
theorem dX13_letter_58 : decode cX13_letter 58 = .ok (.iload_n 0, 1) := by decide +kernel
theorem dX13_letter_59 : decode cX13_letter 59 = .ok (.bipush 6, 2) := by decide +kernel
theorem dX13_letter_61 : decode cX13_letter 61 = .ok (.if_icmp .le 10, 3) := by decide +kernel
theorem dX13_letter_64 : decode cX13_letter 64 = .ok (.iload_n 2, 1) := by decide +kernel
theorem dX13_letter_65 : decode cX13_letter 65 = .ok (.bipush 32, 2) := by decide +kernel
theorem dX13_letter_67 : decode cX13_letter 67 = .ok (.iadd, 1) := by decide +kernel
theorem dX13_letter_68 : decode cX13_letter 68 = .ok (.goto 4, 3) := by decide +kernel
theorem dX13_letter_71 : decode cX13_letter 71 = .ok (.iload_n 2, 1) := by decide +kernel
theorem dX13_letter_72 : decode cX13_letter 72 = .ok (.ireturn, 1) := by decide +kernel
def kX13_letter_4 (mc ms : Nat) (X : Nat → zV) (Q : zQt) : zT :=
  zsi 1 <| zli 1 <| zc (.int 1) <| zic (fun x y => x = y) (zc (.int 80) <| zj X 57 [0]) <| zli 1 <| zc (.int 2) <| zic (fun x y => x = y) (zc (.int 78) <| zj X 57 [0]) <| zli 1 <| zc (.int 3) <| zic (fun x y => x = y) (zc (.int 66) <| zj X 57 [0]) <| zli 1 <| zc (.int 4) <| zic (fun x y => x = y) (zc (.int 82) <| zj X 57 [0]) <| zli 1 <| zc (.int 5) <| zic (fun x y => x = y) (zc (.int 81) <| zj X 57 [0]) <| zc (.int 75) <| zj X 57 [0]
def aX13_letter_0 (mc ms : Nat) (X : Nat → zV) (Q : zQt) : zT :=
  zli 0 <| zcs mc ms 1 wX13_kindOf <| kX13_letter_4 mc ms X Q
def aX13_letter_57 (mc ms : Nat) (X : Nat → zV) (Q : zQt) : zT :=
  zsi 2 <| zli 0 <| zc (.int 6) <| zic (fun x y => x ≤ y) (zli 2 <| zj X 72 []) <| zli 2 <| zc (.int 32) <| zii (fun x y => x + y) <| zj X 72 []
def aX13_letter_72 (mc ms : Nat) (X : Nat → zV) (Q : zQt) : zT :=
  zri Q
def lvX13_letter : Nat → List Nat := fun L => match L with
  | 0 => [0]
  | 57 => [0]
  | 72 => []
  | _ => []
def wX13_letter : zSp := fun mc ms av M Q => ((zlay av).length ≤ 3 ∧ zpick (zlay av) [0] = some av) ∧ ∀ X : Nat → zV, zin 3 [0] (aX13_letter_0 mc ms X Q) X 0 → zin 3 [0] (aX13_letter_57 mc ms X Q) X 57 → zin 3 [] (aX13_letter_72 mc ms X Q) X 72 → X 0 0 0 av [] M
set_option maxRecDepth 100000 in
set_option maxHeartbeats 4000000 in
theorem sX13_letter (l : Launch) (G : zG) : zSnd l G yX13_letter cX13_letter 3 (some .int) 1 20 wX13_letter := by
  refine zmk [0] (by decide) (fun mc ms av M Q h => h.1) ?_
  intro p e R s m args below meth c mc ms av M Q hC hRf hRl hr hnm h lv hlv
  obtain ⟨X, hXe⟩ : ∃ X : Nat → zV, X = fun L u v vs st M => ∀ lv, zpick lv (lvX13_letter L) = some vs → zAt p l e R s m args below meth c (MQ below (zQ G Q) args s mc ms (zA G)) G 3 L u v lv st M := ⟨_, rfl⟩
  have hJ : ∀ L, zOk p l e R s m args below meth c (MQ below (zQ G Q) args s mc ms (zA G)) G 3 L (zj X L (lvX13_letter L)) := fun L => S_jump (fun u v lv vs st M hp hx => by rw [hXe] at hx; exact hx lv hp)
  have hB0 : zin 3 [0] (aX13_letter_0 mc ms X Q) X 0 := by
    intro u v vs st M hb
    rw [hXe]
    refine fun lv hp => S_block (L := 0) (live := [0]) ?_ u v lv vs st M hp hb
    unfold aX13_letter_0
    refine S_iload_n (pc := 0) hC dX13_letter_0 rfl ?_
    refine S_callS (pc := 1) hC (sX13_kindOf l G) wd_1376 wd_1377 wd_12 wd_1378 (by decide +kernel) ⟨by rw [hRf]; decide, by rw [hRl]; decide⟩ dX13_letter_1 ?_
    unfold kX13_letter_4
    refine S_istore_n (pc := 4) hC dX13_letter_4 rfl (by decide) ?_
    refine S_iload_n (pc := 5) hC dX13_letter_5 rfl ?_
    refine S_iconst (pc := 6) hC dX13_letter_6 (by decide) ?_
    refine S_icmp_ne (pc := 7) (tgt := 15) hC dX13_letter_7 (by decide) ?_ ?_
    · refine S_iload_n (pc := 15) hC dX13_letter_15 rfl ?_
      refine S_iconst (pc := 16) hC dX13_letter_16 (by decide) ?_
      refine S_icmp_ne (pc := 17) (tgt := 25) hC dX13_letter_17 (by decide) ?_ ?_
      · refine S_iload_n (pc := 25) hC dX13_letter_25 rfl ?_
        refine S_iconst (pc := 26) hC dX13_letter_26 (by decide) ?_
        refine S_icmp_ne (pc := 27) (tgt := 35) hC dX13_letter_27 (by decide) ?_ ?_
        · refine S_iload_n (pc := 35) hC dX13_letter_35 rfl ?_
          refine S_iconst (pc := 36) hC dX13_letter_36 (by decide) ?_
          refine S_icmp_ne (pc := 37) (tgt := 45) hC dX13_letter_37 (by decide) ?_ ?_
          · refine S_iload_n (pc := 45) hC dX13_letter_45 rfl ?_
            refine S_iconst (pc := 46) hC dX13_letter_46 (by decide) ?_
            refine S_icmp_ne (pc := 47) (tgt := 55) hC dX13_letter_47 (by decide) ?_ ?_
            · refine S_bipush (pc := 55) hC dX13_letter_55 (by decide) ?_
              exact hJ 57
            · refine S_bipush (pc := 50) hC dX13_letter_50 (by decide) ?_
              refine S_goto (pc := 52) (tgt := 57) hC dX13_letter_52 (by decide) ?_
              exact hJ 57
          · refine S_bipush (pc := 40) hC dX13_letter_40 (by decide) ?_
            refine S_goto (pc := 42) (tgt := 57) hC dX13_letter_42 (by decide) ?_
            exact hJ 57
        · refine S_bipush (pc := 30) hC dX13_letter_30 (by decide) ?_
          refine S_goto (pc := 32) (tgt := 57) hC dX13_letter_32 (by decide) ?_
          exact hJ 57
      · refine S_bipush (pc := 20) hC dX13_letter_20 (by decide) ?_
        refine S_goto (pc := 22) (tgt := 57) hC dX13_letter_22 (by decide) ?_
        exact hJ 57
    · refine S_bipush (pc := 10) hC dX13_letter_10 (by decide) ?_
      refine S_goto (pc := 12) (tgt := 57) hC dX13_letter_12 (by decide) ?_
      exact hJ 57
  have hB57 : zin 3 [0] (aX13_letter_57 mc ms X Q) X 57 := by
    intro u v vs st M hb
    rw [hXe]
    refine fun lv hp => S_block (L := 57) (live := [0]) ?_ u v lv vs st M hp hb
    unfold aX13_letter_57
    refine S_istore_n (pc := 57) hC dX13_letter_57 rfl (by decide) ?_
    refine S_iload_n (pc := 58) hC dX13_letter_58 rfl ?_
    refine S_bipush (pc := 59) hC dX13_letter_59 (by decide) ?_
    refine S_icmp_le (pc := 61) (tgt := 71) hC dX13_letter_61 (by decide) ?_ ?_
    · refine S_iload_n (pc := 71) hC dX13_letter_71 rfl ?_
      exact hJ 72
    · refine S_iload_n (pc := 64) hC dX13_letter_64 rfl ?_
      refine S_bipush (pc := 65) hC dX13_letter_65 (by decide) ?_
      refine S_iadd (pc := 67) hC dX13_letter_67 ?_
      refine S_goto (pc := 68) (tgt := 72) hC dX13_letter_68 (by decide) ?_
      exact hJ 72
  have hB72 : zin 3 [] (aX13_letter_72 mc ms X Q) X 72 := by
    intro u v vs st M hb
    rw [hXe]
    refine fun lv hp => S_block (L := 72) (live := []) ?_ u v lv vs st M hp hb
    unfold aX13_letter_72
    exact S_ireturn (pc := 72) hC hr dX13_letter_72
  have := h.2 X hB0 hB57 hB72
  rw [hXe] at this
  exact this lv hlv
theorem vX13_letter_0 {mc ms : Nat} {X : Nat → zV} {Q : zQt} {M : zM} {x0 : Int32} (hW : zFix M)  (h : wX13_kindOf 0 0 [.int x0] M (fun r M1 => kX13_letter_4 mc ms X Q 0 0 [some (.int x0), none, none] (r.toList ++ []) M1)) : aX13_letter_0 mc ms X Q 0 0 [some (.int x0), none, none] [] M := ⟨Nat.le_of_ble_eq_true rfl, rfl, 0, 0, Nat.zero_le _, Nat.zero_le _, h⟩
theorem vX13_letter_57 {mc ms : Nat} {X : Nat → zV} {Q : zQt} {M : zM} {x0 : Int32} {s0 : Int32} (hW : zFix M)  (h : (x0 ≤ (6 : Int32) → X 72 0 0 [] [.int s0] M) ∧ (¬ x0 ≤ (6 : Int32) → X 72 0 0 [] [.int (s0 + (32 : Int32))] M)) : aX13_letter_57 mc ms X Q 0 0 [some (.int x0), none, none] [.int s0] M := ⟨fun c61 => (h.1 c61), fun c61 => (h.2 c61)⟩
theorem vX13_letter_72 {mc ms : Nat} {X : Nat → zV} {Q : zQt} {M : zM} {s0 : Int32} (hW : zFix M)  (h : Q (some (.int s0)) M) : aX13_letter_72 mc ms X Q 0 0 [none, none, none] [.int s0] M := h
theorem vkX13_letter_4 {mc ms : Nat} {X : Nat → zV} {Q : zQt} {M : zM} {x0 : Int32} {s0 : Int32} (hW : zFix M)  (h : (s0 = (1 : Int32) → X 57 0 0 [.int x0] [.int 80] M) ∧ (¬ s0 = (1 : Int32) → (s0 = (2 : Int32) → X 57 0 0 [.int x0] [.int 78] M) ∧ (¬ s0 = (2 : Int32) → (s0 = (3 : Int32) → X 57 0 0 [.int x0] [.int 66] M) ∧ (¬ s0 = (3 : Int32) → (s0 = (4 : Int32) → X 57 0 0 [.int x0] [.int 82] M) ∧ (¬ s0 = (4 : Int32) → (s0 = (5 : Int32) → X 57 0 0 [.int x0] [.int 81] M) ∧ (¬ s0 = (5 : Int32) → X 57 0 0 [.int x0] [.int 75] M)))))) : kX13_letter_4 mc ms X Q 0 0 [some (.int x0), none, none] [.int s0] M := ⟨fun c7 => (h.1 c7), fun c7 => ⟨fun c17 => ((h.2 c7).1 c17), fun c17 => ⟨fun c27 => (((h.2 c7).2 c17).1 c27), fun c27 => ⟨fun c37 => ((((h.2 c7).2 c17).2 c27).1 c37), fun c37 => ⟨fun c47 => (((((h.2 c7).2 c17).2 c27).2 c37).1 c47), fun c47 => (((((h.2 c7).2 c17).2 c27).2 c37).2 c47)⟩⟩⟩⟩⟩
theorem dX13_manOf_0 : decode cX13_manOf 0 = .ok (.iconst 0, 1) := by decide +kernel
theorem dX13_manOf_1 : decode cX13_manOf 1 = .ok (.istore_n 1, 1) := by decide +kernel
theorem dX13_manOf_2 : decode cX13_manOf 2 = .ok (.iconst 1, 1) := by decide +kernel
theorem dX13_manOf_3 : decode cX13_manOf 3 = .ok (.istore_n 2, 1) := by decide +kernel
theorem dX13_manOf_4 : decode cX13_manOf 4 = .ok (.iload_n 2, 1) := by decide +kernel
theorem dX13_manOf_5 : decode cX13_manOf 5 = .ok (.bipush 13, 2) := by decide +kernel
theorem dX13_manOf_7 : decode cX13_manOf 7 = .ok (.if_icmp .ge 23, 3) := by decide +kernel
theorem dX13_manOf_10 : decode cX13_manOf 10 = .ok (.iload_n 2, 1) := by decide +kernel
theorem dX13_manOf_11 : decode cX13_manOf 11 = .ok (.invokestatic 187, 3) := by decide +kernel
theorem dX13_manOf_14 : decode cX13_manOf 14 = .ok (.iload_n 0, 1) := by decide +kernel
theorem dX13_manOf_15 : decode cX13_manOf 15 = .ok (.if_icmp .ne 7, 3) := by decide +kernel
theorem dX13_manOf_18 : decode cX13_manOf 18 = .ok (.iload_n 2, 1) := by decide +kernel
theorem dX13_manOf_19 : decode cX13_manOf 19 = .ok (.goto 4, 3) := by decide +kernel
theorem dX13_manOf_22 : decode cX13_manOf 22 = .ok (.iload_n 1, 1) := by decide +kernel
theorem dX13_manOf_23 : decode cX13_manOf 23 = .ok (.istore_n 1, 1) := by decide +kernel
theorem dX13_manOf_24 : decode cX13_manOf 24 = .ok (.iinc 2 1, 3) := by decide +kernel
theorem dX13_manOf_27 : decode cX13_manOf 27 = .ok (.goto (-23), 3) := by decide +kernel
theorem dX13_manOf_30 : decode cX13_manOf 30 = .ok (.iload_n 1, 1) := by decide +kernel
theorem dX13_manOf_31 : decode cX13_manOf 31 = .ok (.ireturn, 1) := by decide +kernel
def kX13_manOf_14 (mc ms : Nat) (X : Nat → zV) (Q : zQt) : zT :=
  zli 0 <| zic (fun x y => x = y) (zli 2 <| zj X 23 [0, 2]) <| zli 1 <| zj X 23 [0, 2]
def aX13_manOf_0 (mc ms : Nat) (X : Nat → zV) (Q : zQt) : zT :=
  zc (.int 0) <| zsi 1 <| zc (.int 1) <| zsi 2 <| zj X 4 [0, 1, 2]
def aX13_manOf_4 (mc ms : Nat) (X : Nat → zV) (Q : zQt) : zT :=
  zli 2 <| zc (.int 13) <| zic (fun x y => y ≤ x) (zli 1 <| zri Q) <| zli 2 <| zcs mc ms 1 wX13_letter <| kX13_manOf_14 mc ms X Q
def aX13_manOf_23 (mc ms : Nat) (X : Nat → zV) (Q : zQt) : zT :=
  zsi 1 <| zinc 2 1 <| zj X 4 [0, 1, 2]
def lvX13_manOf : Nat → List Nat := fun L => match L with
  | 0 => [0]
  | 4 => [0, 1, 2]
  | 23 => [0, 2]
  | _ => []
def wX13_manOf : zSp := fun mc ms av M Q => ((zlay av).length ≤ 3 ∧ zpick (zlay av) [0] = some av) ∧ ∀ X : Nat → zV, zin 3 [0] (aX13_manOf_0 mc ms X Q) X 0 → zin 3 [0, 1, 2] (aX13_manOf_4 mc ms X Q) X 4 → zin 3 [0, 2] (aX13_manOf_23 mc ms X Q) X 23 → X 0 0 0 av [] M
set_option maxRecDepth 100000 in
set_option maxHeartbeats 4000000 in
theorem sX13_manOf (l : Launch) (G : zG) : zSnd l G yX13_manOf cX13_manOf 3 (some .int) 2 42 wX13_manOf := by
  refine zmk [0] (by decide) (fun mc ms av M Q h => h.1) ?_
  intro p e R s m args below meth c mc ms av M Q hC hRf hRl hr hnm h lv hlv
  obtain ⟨X, hXe⟩ : ∃ X : Nat → zV, X = fun L u v vs st M => ∀ lv, zpick lv (lvX13_manOf L) = some vs → zAt p l e R s m args below meth c (MQ below (zQ G Q) args s mc ms (zA G)) G 3 L u v lv st M := ⟨_, rfl⟩
  have hJ : ∀ L, zOk p l e R s m args below meth c (MQ below (zQ G Q) args s mc ms (zA G)) G 3 L (zj X L (lvX13_manOf L)) := fun L => S_jump (fun u v lv vs st M hp hx => by rw [hXe] at hx; exact hx lv hp)
  have hB0 : zin 3 [0] (aX13_manOf_0 mc ms X Q) X 0 := by
    intro u v vs st M hb
    rw [hXe]
    refine fun lv hp => S_block (L := 0) (live := [0]) ?_ u v lv vs st M hp hb
    unfold aX13_manOf_0
    refine S_iconst (pc := 0) hC dX13_manOf_0 (by decide) ?_
    refine S_istore_n (pc := 1) hC dX13_manOf_1 rfl (by decide) ?_
    refine S_iconst (pc := 2) hC dX13_manOf_2 (by decide) ?_
    refine S_istore_n (pc := 3) hC dX13_manOf_3 rfl (by decide) ?_
    exact hJ 4
  have hB4 : zin 3 [0, 1, 2] (aX13_manOf_4 mc ms X Q) X 4 := by
    intro u v vs st M hb
    rw [hXe]
    refine fun lv hp => S_block (L := 4) (live := [0, 1, 2]) ?_ u v lv vs st M hp hb
    unfold aX13_manOf_4
    refine S_iload_n (pc := 4) hC dX13_manOf_4 rfl ?_
    refine S_bipush (pc := 5) hC dX13_manOf_5 (by decide) ?_
    refine S_icmp_ge (pc := 7) (tgt := 30) hC dX13_manOf_7 (by decide) ?_ ?_
    · refine S_iload_n (pc := 30) hC dX13_manOf_30 rfl ?_
      exact S_ireturn (pc := 31) hC hr dX13_manOf_31
    · refine S_iload_n (pc := 10) hC dX13_manOf_10 rfl ?_
      refine S_callS (pc := 11) hC (sX13_letter l G) wd_1373 wd_1374 wd_12 wd_1375 (by decide +kernel) ⟨by rw [hRf]; decide, by rw [hRl]; decide⟩ dX13_manOf_11 ?_
      unfold kX13_manOf_14
      refine S_iload_n (pc := 14) hC dX13_manOf_14 rfl ?_
      refine S_icmp_ne (pc := 15) (tgt := 22) hC dX13_manOf_15 (by decide) ?_ ?_
      · refine S_iload_n (pc := 22) hC dX13_manOf_22 rfl ?_
        exact hJ 23
      · refine S_iload_n (pc := 18) hC dX13_manOf_18 rfl ?_
        refine S_goto (pc := 19) (tgt := 23) hC dX13_manOf_19 (by decide) ?_
        exact hJ 23
  have hB23 : zin 3 [0, 2] (aX13_manOf_23 mc ms X Q) X 23 := by
    intro u v vs st M hb
    rw [hXe]
    refine fun lv hp => S_block (L := 23) (live := [0, 2]) ?_ u v lv vs st M hp hb
    unfold aX13_manOf_23
    refine S_istore_n (pc := 23) hC dX13_manOf_23 rfl (by decide) ?_
    refine S_iinc (pc := 24) hC dX13_manOf_24 (by decide) (by decide) ?_
    refine S_goto (pc := 27) (tgt := 4) hC dX13_manOf_27 (by decide) ?_
    exact hJ 4
  have := h.2 X hB0 hB4 hB23
  rw [hXe] at this
  exact this lv hlv
theorem vX13_manOf_0 {mc ms : Nat} {X : Nat → zV} {Q : zQt} {M : zM} {x0 : Int32} (hW : zFix M)  (h : X 4 0 0 [.int x0, .int 0, .int 1] [] M) : aX13_manOf_0 mc ms X Q 0 0 [some (.int x0), none, none] [] M := h
theorem vX13_manOf_4 {mc ms : Nat} {X : Nat → zV} {Q : zQt} {M : zM} {x0 : Int32} {x1 : Int32} {x2 : Int32} (hW : zFix M)  (h : ((13 : Int32) ≤ x2 → Q (some (.int x1)) M) ∧ (¬ (13 : Int32) ≤ x2 → wX13_letter 0 0 [.int x2] M (fun r M1 => kX13_manOf_14 mc ms X Q 0 0 [some (.int x0), some (.int x1), some (.int x2)] (r.toList ++ []) M1))) : aX13_manOf_4 mc ms X Q 0 0 [some (.int x0), some (.int x1), some (.int x2)] [] M := ⟨fun c7 => (h.1 c7), fun c7 => ⟨Nat.le_of_ble_eq_true rfl, rfl, 0, 0, Nat.zero_le _, Nat.zero_le _, (h.2 c7)⟩⟩
theorem vX13_manOf_23 {mc ms : Nat} {X : Nat → zV} {Q : zQt} {M : zM} {x0 : Int32} {x2 : Int32} {s0 : Int32} (hW : zFix M)  (h : X 4 0 0 [.int x0, .int s0, .int (x2 + 1)] [] M) : aX13_manOf_23 mc ms X Q 0 0 [some (.int x0), none, some (.int x2)] [.int s0] M := h
theorem vkX13_manOf_14 {mc ms : Nat} {X : Nat → zV} {Q : zQt} {M : zM} {x0 : Int32} {x1 : Int32} {x2 : Int32} {s0 : Int32} (hW : zFix M)  (h : (s0 = x0 → X 23 0 0 [.int x0, .int x2] [.int x2] M) ∧ (¬ s0 = x0 → X 23 0 0 [.int x0, .int x2] [.int x1] M)) : kX13_manOf_14 mc ms X Q 0 0 [some (.int x0), some (.int x1), some (.int x2)] [.int s0] M := ⟨fun c15 => (h.1 c15), fun c15 => (h.2 c15)⟩
theorem dX13_isDigit_0 : decode cX13_isDigit 0 = .ok (.iload_n 0, 1) := by decide +kernel
theorem dX13_isDigit_1 : decode cX13_isDigit 1 = .ok (.bipush 48, 2) := by decide +kernel
theorem dX13_isDigit_3 : decode cX13_isDigit 3 = .ok (.if_icmp .lt 13, 3) := by decide +kernel
theorem dX13_isDigit_6 : decode cX13_isDigit 6 = .ok (.iload_n 0, 1) := by decide +kernel
theorem dX13_isDigit_7 : decode cX13_isDigit 7 = .ok (.bipush 57, 2) := by decide +kernel
theorem dX13_isDigit_9 : decode cX13_isDigit 9 = .ok (.if_icmp .gt 7, 3) := by decide +kernel
theorem dX13_isDigit_12 : decode cX13_isDigit 12 = .ok (.iconst 1, 1) := by decide +kernel
theorem dX13_isDigit_13 : decode cX13_isDigit 13 = .ok (.goto 4, 3) := by decide +kernel
theorem dX13_isDigit_16 : decode cX13_isDigit 16 = .ok (.iconst 0, 1) := by decide +kernel
theorem dX13_isDigit_17 : decode cX13_isDigit 17 = .ok (.ireturn, 1) := by decide +kernel
def aX13_isDigit_0 (mc ms : Nat) (X : Nat → zV) (Q : zQt) : zT :=
  zli 0 <| zc (.int 48) <| zic (fun x y => x < y) (zj X 16 []) <| zli 0 <| zc (.int 57) <| zic (fun x y => y < x) (zj X 16 []) <| zc (.int 1) <| zj X 17 []
def aX13_isDigit_16 (mc ms : Nat) (X : Nat → zV) (Q : zQt) : zT :=
  zc (.int 0) <| zj X 17 []
def aX13_isDigit_17 (mc ms : Nat) (X : Nat → zV) (Q : zQt) : zT :=
  zrz .boolean Q
def lvX13_isDigit : Nat → List Nat := fun L => match L with
  | 0 => [0]
  | 16 => []
  | 17 => []
  | _ => []
def wX13_isDigit : zSp := fun mc ms av M Q => ((zlay av).length ≤ 1 ∧ zpick (zlay av) [0] = some av) ∧ ∀ X : Nat → zV, zin 1 [0] (aX13_isDigit_0 mc ms X Q) X 0 → zin 1 [] (aX13_isDigit_16 mc ms X Q) X 16 → zin 1 [] (aX13_isDigit_17 mc ms X Q) X 17 → X 0 0 0 av [] M
set_option maxRecDepth 100000 in
set_option maxHeartbeats 4000000 in
theorem sX13_isDigit (l : Launch) (G : zG) : zSnd l G yX13_isDigit cX13_isDigit 1 (some .boolean) 0 0 wX13_isDigit := by
  refine zmk [0] (by decide) (fun mc ms av M Q h => h.1) ?_
  intro p e R s m args below meth c mc ms av M Q hC hRf hRl hr hnm h lv hlv
  obtain ⟨X, hXe⟩ : ∃ X : Nat → zV, X = fun L u v vs st M => ∀ lv, zpick lv (lvX13_isDigit L) = some vs → zAt p l e R s m args below meth c (MQ below (zQ G Q) args s mc ms (zA G)) G 1 L u v lv st M := ⟨_, rfl⟩
  have hJ : ∀ L, zOk p l e R s m args below meth c (MQ below (zQ G Q) args s mc ms (zA G)) G 1 L (zj X L (lvX13_isDigit L)) := fun L => S_jump (fun u v lv vs st M hp hx => by rw [hXe] at hx; exact hx lv hp)
  have hB0 : zin 1 [0] (aX13_isDigit_0 mc ms X Q) X 0 := by
    intro u v vs st M hb
    rw [hXe]
    refine fun lv hp => S_block (L := 0) (live := [0]) ?_ u v lv vs st M hp hb
    unfold aX13_isDigit_0
    refine S_iload_n (pc := 0) hC dX13_isDigit_0 rfl ?_
    refine S_bipush (pc := 1) hC dX13_isDigit_1 (by decide) ?_
    refine S_icmp_lt (pc := 3) (tgt := 16) hC dX13_isDigit_3 (by decide) ?_ ?_
    · exact hJ 16
    · refine S_iload_n (pc := 6) hC dX13_isDigit_6 rfl ?_
      refine S_bipush (pc := 7) hC dX13_isDigit_7 (by decide) ?_
      refine S_icmp_gt (pc := 9) (tgt := 16) hC dX13_isDigit_9 (by decide) ?_ ?_
      · exact hJ 16
      · refine S_iconst (pc := 12) hC dX13_isDigit_12 (by decide) ?_
        refine S_goto (pc := 13) (tgt := 17) hC dX13_isDigit_13 (by decide) ?_
        exact hJ 17
  have hB16 : zin 1 [] (aX13_isDigit_16 mc ms X Q) X 16 := by
    intro u v vs st M hb
    rw [hXe]
    refine fun lv hp => S_block (L := 16) (live := []) ?_ u v lv vs st M hp hb
    unfold aX13_isDigit_16
    refine S_iconst (pc := 16) hC dX13_isDigit_16 (by decide) ?_
    exact hJ 17
  have hB17 : zin 1 [] (aX13_isDigit_17 mc ms X Q) X 17 := by
    intro u v vs st M hb
    rw [hXe]
    refine fun lv hp => S_block (L := 17) (live := []) ?_ u v lv vs st M hp hb
    unfold aX13_isDigit_17
    exact S_zreturn (pc := 17) hC hr dX13_isDigit_17
  have := h.2 X hB0 hB16 hB17
  rw [hXe] at this
  exact this lv hlv
theorem vX13_isDigit_0 {mc ms : Nat} {X : Nat → zV} {Q : zQt} {M : zM} {x0 : Int32} (hW : zFix M)  (h : (x0 < (48 : Int32) → X 16 0 0 [] [] M) ∧ (¬ x0 < (48 : Int32) → ((57 : Int32) < x0 → X 16 0 0 [] [] M) ∧ (¬ (57 : Int32) < x0 → X 17 0 0 [] [.int 1] M))) : aX13_isDigit_0 mc ms X Q 0 0 [some (.int x0)] [] M := ⟨fun c3 => (h.1 c3), fun c3 => ⟨fun c9 => ((h.2 c3).1 c9), fun c9 => ((h.2 c3).2 c9)⟩⟩
theorem vX13_isDigit_16 {mc ms : Nat} {X : Nat → zV} {Q : zQt} {M : zM}  (hW : zFix M)  (h : X 17 0 0 [] [.int 0] M) : aX13_isDigit_16 mc ms X Q 0 0 [none] [] M := h
theorem vX13_isDigit_17 {mc ms : Nat} {X : Nat → zV} {Q : zQt} {M : zM} {s0 : Int32} (hW : zFix M)  (h : narrow .boolean (.int s0) = .int s0 ∧ Q (some (.int s0)) M) : aX13_isDigit_17 mc ms X Q 0 0 [none] [.int s0] M := h
theorem dX13_readRank_0 : decode cX13_readRank 0 = .ok (.iconst 0, 1) := by decide +kernel
theorem dX13_readRank_1 : decode cX13_readRank 1 = .ok (.istore_n 2, 1) := by decide +kernel
theorem dX13_readRank_2 : decode cX13_readRank 2 = .ok (.iconst 0, 1) := by decide +kernel
theorem dX13_readRank_3 : decode cX13_readRank 3 = .ok (.istore_n 3, 1) := by decide +kernel
theorem dX13_readRank_4 : decode cX13_readRank 4 = .ok (.iload_n 2, 1) := by decide +kernel
theorem dX13_readRank_5 : decode cX13_readRank 5 = .ok (.bipush 8, 2) := by decide +kernel
theorem dX13_readRank_7 : decode cX13_readRank 7 = .ok (.if_icmp .ge 153, 3) := by decide +kernel
theorem dX13_readRank_10 : decode cX13_readRank 10 = .ok (.aload_n 0, 1) := by decide +kernel
theorem dX13_readRank_11 : decode cX13_readRank 11 = .ok (.invokevirtual 165, 3) := by decide +kernel
theorem dX13_readRank_14 : decode cX13_readRank 14 = .ok (.istore 4, 2) := by decide +kernel
theorem dX13_readRank_16 : decode cX13_readRank 16 = .ok (.iload 4, 2) := by decide +kernel
theorem dX13_readRank_18 : decode cX13_readRank 18 = .ok (.invokestatic 190, 3) := by decide +kernel
theorem dX13_readRank_21 : decode cX13_readRank 21 = .ok (.istore 5, 2) := by decide +kernel
theorem dX13_readRank_23 : decode cX13_readRank 23 = .ok (.iload 4, 2) := by decide +kernel
theorem dX13_readRank_25 : decode cX13_readRank 25 = .ok (.bipush 49, 2) := by decide +kernel
theorem dX13_readRank_27 : decode cX13_readRank 27 = .ok (.if_icmp .lt 22, 3) := by decide +kernel
theorem dX13_readRank_30 : decode cX13_readRank 30 = .ok (.iload 4, 2) := by decide +kernel
theorem dX13_readRank_32 : decode cX13_readRank 32 = .ok (.bipush 56, 2) := by decide +kernel
theorem dX13_readRank_34 : decode cX13_readRank 34 = .ok (.if_icmp .gt 15, 3) := by decide +kernel
theorem dX13_readRank_37 : decode cX13_readRank 37 = .ok (.iload_n 3, 1) := by decide +kernel
theorem dX13_readRank_38 : decode cX13_readRank 38 = .ok (.ifCond .ne 11, 3) := by decide +kernel
theorem dX13_readRank_41 : decode cX13_readRank 41 = .ok (.iload 4, 2) := by decide +kernel
theorem dX13_readRank_43 : decode cX13_readRank 43 = .ok (.bipush 48, 2) := by decide +kernel
theorem dX13_readRank_45 : decode cX13_readRank 45 = .ok (.isub, 1) := by decide +kernel
theorem dX13_readRank_46 : decode cX13_readRank 46 = .ok (.goto 4, 3) := by decide +kernel
theorem dX13_readRank_49 : decode cX13_readRank 49 = .ok (.iconst 0, 1) := by decide +kernel
theorem dX13_readRank_50 : decode cX13_readRank 50 = .ok (.istore 6, 2) := by decide +kernel
theorem dX13_readRank_52 : decode cX13_readRank 52 = .ok (.iload 5, 2) := by decide +kernel
theorem dX13_readRank_54 : decode cX13_readRank 54 = .ok (.ifCond .ne 19, 3) := by decide +kernel
theorem dX13_readRank_57 : decode cX13_readRank 57 = .ok (.iload 6, 2) := by decide +kernel
theorem dX13_readRank_59 : decode cX13_readRank 59 = .ok (.ifCond .eq 12, 3) := by decide +kernel
theorem dX13_readRank_62 : decode cX13_readRank 62 = .ok (.iload_n 2, 1) := by decide +kernel
theorem dX13_readRank_63 : decode cX13_readRank 63 = .ok (.iload 6, 2) := by decide +kernel
theorem dX13_readRank_65 : decode cX13_readRank 65 = .ok (.iadd, 1) := by decide +kernel
theorem dX13_readRank_66 : decode cX13_readRank 66 = .ok (.bipush 8, 2) := by decide +kernel
theorem dX13_readRank_68 : decode cX13_readRank 68 = .ok (.if_icmp .le 5, 3) := by decide +kernel
theorem dX13_readRank_71 : decode cX13_readRank 71 = .ok (.iconst 0, 1) := by decide +kernel
theorem dX13_readRank_72 : decode cX13_readRank 72 = .ok (.ireturn, 1) := by decide +kernel
theorem dX13_readRank_73 : decode cX13_readRank 73 = .ok (.aload_n 0, 1) := by decide +kernel
theorem dX13_readRank_74 : decode cX13_readRank 74 = .ok (.dup, 1) := by decide +kernel
theorem dX13_readRank_75 : decode cX13_readRank 75 = .ok (.getfield 159, 3) := by decide +kernel
theorem dX13_readRank_78 : decode cX13_readRank 78 = .ok (.iconst 1, 1) := by decide +kernel
theorem dX13_readRank_79 : decode cX13_readRank 79 = .ok (.iadd, 1) := by decide +kernel
theorem dX13_readRank_80 : decode cX13_readRank 80 = .ok (.putfield 159, 3) := by decide +kernel
theorem dX13_readRank_83 : decode cX13_readRank 83 = .ok (.iconst 0, 1) := by decide +kernel
theorem dX13_readRank_84 : decode cX13_readRank 84 = .ok (.istore 7, 2) := by decide +kernel
theorem dX13_readRank_86 : decode cX13_readRank 86 = .ok (.iload 7, 2) := by decide +kernel
theorem dX13_readRank_88 : decode cX13_readRank 88 = .ok (.iload 6, 2) := by decide +kernel
theorem dX13_readRank_90 : decode cX13_readRank 90 = .ok (.if_icmp .ge 24, 3) := by decide +kernel
theorem dX13_readRank_93 : decode cX13_readRank 93 = .ok (.aload_n 0, 1) := by decide +kernel
theorem dX13_readRank_94 : decode cX13_readRank 94 = .ok (.getfield 43, 3) := by decide +kernel
theorem dX13_readRank_97 : decode cX13_readRank 97 = .ok (.bipush 8, 2) := by decide +kernel
theorem dX13_readRank_99 : decode cX13_readRank 99 = .ok (.iload_n 1, 1) := by decide +kernel
theorem dX13_readRank_100 : decode cX13_readRank 100 = .ok (.imul, 1) := by decide +kernel
theorem dX13_readRank_101 : decode cX13_readRank 101 = .ok (.iload_n 2, 1) := by decide +kernel
theorem dX13_readRank_102 : decode cX13_readRank 102 = .ok (.iadd, 1) := by decide +kernel
theorem dX13_readRank_103 : decode cX13_readRank 103 = .ok (.iload 7, 2) := by decide +kernel
theorem dX13_readRank_105 : decode cX13_readRank 105 = .ok (.iadd, 1) := by decide +kernel
theorem dX13_readRank_106 : decode cX13_readRank 106 = .ok (.iconst 0, 1) := by decide +kernel
theorem dX13_readRank_107 : decode cX13_readRank 107 = .ok (.iastore, 1) := by decide +kernel
theorem dX13_readRank_108 : decode cX13_readRank 108 = .ok (.iinc 7 1, 3) := by decide +kernel
theorem dX13_readRank_111 : decode cX13_readRank 111 = .ok (.goto (-25), 3) := by decide +kernel
theorem dX13_readRank_114 : decode cX13_readRank 114 = .ok (.iload 5, 2) := by decide +kernel
theorem dX13_readRank_116 : decode cX13_readRank 116 = .ok (.ifCond .le 16, 3) := by decide +kernel
theorem dX13_readRank_119 : decode cX13_readRank 119 = .ok (.aload_n 0, 1) := by decide +kernel
theorem dX13_readRank_120 : decode cX13_readRank 120 = .ok (.getfield 43, 3) := by decide +kernel
theorem dX13_readRank_123 : decode cX13_readRank 123 = .ok (.bipush 8, 2) := by decide +kernel
theorem dX13_readRank_125 : decode cX13_readRank 125 = .ok (.iload_n 1, 1) := by decide +kernel
theorem dX13_readRank_126 : decode cX13_readRank 126 = .ok (.imul, 1) := by decide +kernel
theorem dX13_readRank_127 : decode cX13_readRank 127 = .ok (.iload_n 2, 1) := by decide +kernel
theorem dX13_readRank_128 : decode cX13_readRank 128 = .ok (.iadd, 1) := by decide +kernel
theorem dX13_readRank_129 : decode cX13_readRank 129 = .ok (.iload 5, 2) := by decide +kernel
theorem dX13_readRank_131 : decode cX13_readRank 131 = .ok (.iastore, 1) := by decide +kernel
theorem dX13_readRank_132 : decode cX13_readRank 132 = .ok (.iload_n 2, 1) := by decide +kernel
theorem dX13_readRank_133 : decode cX13_readRank 133 = .ok (.iload 5, 2) := by decide +kernel
theorem dX13_readRank_135 : decode cX13_readRank 135 = .ok (.ifCond .le 7, 3) := by decide +kernel
theorem dX13_readRank_138 : decode cX13_readRank 138 = .ok (.iconst 1, 1) := by decide +kernel
theorem dX13_readRank_139 : decode cX13_readRank 139 = .ok (.goto 5, 3) := by decide +kernel
theorem dX13_readRank_142 : decode cX13_readRank 142 = .ok (.iload 6, 2) := by decide +kernel
theorem dX13_readRank_144 : decode cX13_readRank 144 = .ok (.iadd, 1) := by decide +kernel
theorem dX13_readRank_145 : decode cX13_readRank 145 = .ok (.istore_n 2, 1) := by decide +kernel
theorem dX13_readRank_146 : decode cX13_readRank 146 = .ok (.iload 5, 2) := by decide +kernel
theorem dX13_readRank_148 : decode cX13_readRank 148 = .ok (.ifCond .ne 7, 3) := by decide +kernel
theorem dX13_readRank_151 : decode cX13_readRank 151 = .ok (.iconst 1, 1) := by decide +kernel
theorem dX13_readRank_152 : decode cX13_readRank 152 = .ok (.goto 4, 3) := by decide +kernel
theorem dX13_readRank_155 : decode cX13_readRank 155 = .ok (.iconst 0, 1) := by decide +kernel
theorem dX13_readRank_156 : decode cX13_readRank 156 = .ok (.istore_n 3, 1) := by decide +kernel
theorem dX13_readRank_157 : decode cX13_readRank 157 = .ok (.goto (-153), 3) := by decide +kernel
theorem dX13_readRank_160 : decode cX13_readRank 160 = .ok (.iconst 1, 1) := by decide +kernel
theorem dX13_readRank_161 : decode cX13_readRank 161 = .ok (.ireturn, 1) := by decide +kernel
def kX13_readRank_21 (mc ms : Nat) (X : Nat → zV) (Q : zQt) : zT :=
  zsi 5 <| zli 4 <| zc (.int 49) <| zic (fun x y => x < y) (zj X 49 [0, 1, 2, 5]) <| zli 4 <| zc (.int 56) <| zic (fun x y => y < x) (zj X 49 [0, 1, 2, 5]) <| zli 3 <| zif (fun x => x = 0) (zli 4 <| zc (.int 48) <| zii (fun x y => x - y) <| zj X 50 [0, 1, 2, 5]) <| zj X 49 [0, 1, 2, 5]
def kX13_readRank_14 (mc ms : Nat) (X : Nat → zV) (Q : zQt) : zT :=
  zsi 4 <| zli 4 <| zcs mc ms 1 wX13_manOf <| kX13_readRank_21 mc ms X Q
def aX13_readRank_0 (mc ms : Nat) (X : Nat → zV) (Q : zQt) : zT :=
  zc (.int 0) <| zsi 2 <| zc (.int 0) <| zsi 3 <| zj X 4 [0, 1, 2, 3]
def aX13_readRank_4 (mc ms : Nat) (X : Nat → zV) (Q : zQt) : zT :=
  zli 2 <| zc (.int 8) <| zic (fun x y => y ≤ x) (zc (.int 1) <| zrz .boolean Q) <| zla 0 <| zcv mc ms 13 0 wX13_peek <| kX13_readRank_14 mc ms X Q
def aX13_readRank_49 (mc ms : Nat) (X : Nat → zV) (Q : zQt) : zT :=
  zc (.int 0) <| zj X 50 [0, 1, 2, 5]
def aX13_readRank_50 (mc ms : Nat) (X : Nat → zV) (Q : zQt) : zT :=
  zsi 6 <| zli 5 <| zif (fun x => x = 0) (zli 6 <| zif (fun x => x = 0) (zj X 71 []) <| zli 2 <| zli 6 <| zii (fun x y => x + y) <| zc (.int 8) <| zic (fun x y => x ≤ y) (zj X 73 [0, 1, 2, 5, 6]) <| zj X 71 []) <| zj X 73 [0, 1, 2, 5, 6]
def aX13_readRank_71 (mc ms : Nat) (X : Nat → zV) (Q : zQt) : zT :=
  zc (.int 0) <| zrz .boolean Q
def aX13_readRank_73 (mc ms : Nat) (X : Nat → zV) (Q : zQt) : zT :=
  zla 0 <| zdup <| zgi 13 21 <| zc (.int 1) <| zii (fun x y => x + y) <| zpi 13 21 <| zc (.int 0) <| zsi 7 <| zj X 86 [0, 1, 2, 5, 6, 7]
def aX13_readRank_86 (mc ms : Nat) (X : Nat → zV) (Q : zQt) : zT :=
  zli 7 <| zli 6 <| zic (fun x y => y ≤ x) (zli 5 <| zif (fun x => x ≤ 0) (zj X 132 [0, 1, 2, 5, 6]) <| zla 0 <| zgR 13 16 <| zc (.int 8) <| zli 1 <| zii (fun x y => x * y) <| zli 2 <| zii (fun x y => x + y) <| zli 5 <| zas 1 (fun x => x) <| zj X 132 [0, 1, 2, 5, 6]) <| zla 0 <| zgR 13 16 <| zc (.int 8) <| zli 1 <| zii (fun x y => x * y) <| zli 2 <| zii (fun x y => x + y) <| zli 7 <| zii (fun x y => x + y) <| zc (.int 0) <| zas 1 (fun x => x) <| zinc 7 1 <| zj X 86 [0, 1, 2, 5, 6, 7]
def aX13_readRank_132 (mc ms : Nat) (X : Nat → zV) (Q : zQt) : zT :=
  zli 2 <| zli 5 <| zif (fun x => x ≤ 0) (zli 6 <| zj X 144 [0, 1, 5]) <| zc (.int 1) <| zj X 144 [0, 1, 5]
def aX13_readRank_144 (mc ms : Nat) (X : Nat → zV) (Q : zQt) : zT :=
  zii (fun x y => x + y) <| zsi 2 <| zli 5 <| zif (fun x => x = 0) (zc (.int 1) <| zj X 156 [0, 1, 2]) <| zc (.int 0) <| zj X 156 [0, 1, 2]
def aX13_readRank_156 (mc ms : Nat) (X : Nat → zV) (Q : zQt) : zT :=
  zsi 3 <| zj X 4 [0, 1, 2, 3]
def lvX13_readRank : Nat → List Nat := fun L => match L with
  | 0 => [0, 1]
  | 4 => [0, 1, 2, 3]
  | 49 => [0, 1, 2, 5]
  | 50 => [0, 1, 2, 5]
  | 71 => []
  | 73 => [0, 1, 2, 5, 6]
  | 86 => [0, 1, 2, 5, 6, 7]
  | 132 => [0, 1, 2, 5, 6]
  | 144 => [0, 1, 5]
  | 156 => [0, 1, 2]
  | _ => []
def wX13_readRank : zSp := fun mc ms av M Q => ((zlay av).length ≤ 8 ∧ zpick (zlay av) [0, 1] = some av) ∧ ∀ X : Nat → zV, zin 8 [0, 1] (aX13_readRank_0 mc ms X Q) X 0 → zin 8 [0, 1, 2, 3] (aX13_readRank_4 mc ms X Q) X 4 → zin 8 [0, 1, 2, 5] (aX13_readRank_49 mc ms X Q) X 49 → zin 8 [0, 1, 2, 5] (aX13_readRank_50 mc ms X Q) X 50 → zin 8 [] (aX13_readRank_71 mc ms X Q) X 71 → zin 8 [0, 1, 2, 5, 6] (aX13_readRank_73 mc ms X Q) X 73 → zin 8 [0, 1, 2, 5, 6, 7] (aX13_readRank_86 mc ms X Q) X 86 → zin 8 [0, 1, 2, 5, 6] (aX13_readRank_132 mc ms X Q) X 132 → zin 8 [0, 1, 5] (aX13_readRank_144 mc ms X Q) X 144 → zin 8 [0, 1, 2] (aX13_readRank_156 mc ms X Q) X 156 → X 0 0 0 av [] M
set_option maxRecDepth 100000 in
set_option maxHeartbeats 4000000 in
theorem sX13_readRank (l : Launch) (G : zG) : zSnd l G yX13_readRank cX13_readRank 8 (some .boolean) 3 64 wX13_readRank := by
  refine zmk [0, 1] (by decide) (fun mc ms av M Q h => h.1) ?_
  intro p e R s m args below meth c mc ms av M Q hC hRf hRl hr hnm h lv hlv
  obtain ⟨X, hXe⟩ : ∃ X : Nat → zV, X = fun L u v vs st M => ∀ lv, zpick lv (lvX13_readRank L) = some vs → zAt p l e R s m args below meth c (MQ below (zQ G Q) args s mc ms (zA G)) G 8 L u v lv st M := ⟨_, rfl⟩
  have hJ : ∀ L, zOk p l e R s m args below meth c (MQ below (zQ G Q) args s mc ms (zA G)) G 8 L (zj X L (lvX13_readRank L)) := fun L => S_jump (fun u v lv vs st M hp hx => by rw [hXe] at hx; exact hx lv hp)
  have hB0 : zin 8 [0, 1] (aX13_readRank_0 mc ms X Q) X 0 := by
    intro u v vs st M hb
    rw [hXe]
    refine fun lv hp => S_block (L := 0) (live := [0, 1]) ?_ u v lv vs st M hp hb
    unfold aX13_readRank_0
    refine S_iconst (pc := 0) hC dX13_readRank_0 (by decide) ?_
    refine S_istore_n (pc := 1) hC dX13_readRank_1 rfl (by decide) ?_
    refine S_iconst (pc := 2) hC dX13_readRank_2 (by decide) ?_
    refine S_istore_n (pc := 3) hC dX13_readRank_3 rfl (by decide) ?_
    exact hJ 4
  have hB4 : zin 8 [0, 1, 2, 3] (aX13_readRank_4 mc ms X Q) X 4 := by
    intro u v vs st M hb
    rw [hXe]
    refine fun lv hp => S_block (L := 4) (live := [0, 1, 2, 3]) ?_ u v lv vs st M hp hb
    unfold aX13_readRank_4
    refine S_iload_n (pc := 4) hC dX13_readRank_4 rfl ?_
    refine S_bipush (pc := 5) hC dX13_readRank_5 (by decide) ?_
    refine S_icmp_ge (pc := 7) (tgt := 160) hC dX13_readRank_7 (by decide) ?_ ?_
    · refine S_iconst (pc := 160) hC dX13_readRank_160 (by decide) ?_
      exact S_zreturn (pc := 161) hC hr dX13_readRank_161
    · refine S_aload_n (pc := 10) hC dX13_readRank_10 rfl ?_
      refine S_callV (pc := 11) hC (sX13_peek l G) rfl wd_1366 wd_1368 ws_58 wd_12 wd_1369 (by decide +kernel) ⟨by rw [hRf]; decide, by rw [hRl]; decide⟩ dX13_readRank_11 ?_
      unfold kX13_readRank_14
      refine S_istore (pc := 14) hC dX13_readRank_14 (by decide) ?_
      refine S_iload (pc := 16) hC dX13_readRank_16 ?_
      refine S_callS (pc := 18) hC (sX13_manOf l G) wd_1370 wd_1371 wd_12 wd_1372 (by decide +kernel) ⟨by rw [hRf]; decide, by rw [hRl]; decide⟩ dX13_readRank_18 ?_
      unfold kX13_readRank_21
      refine S_istore (pc := 21) hC dX13_readRank_21 (by decide) ?_
      refine S_iload (pc := 23) hC dX13_readRank_23 ?_
      refine S_bipush (pc := 25) hC dX13_readRank_25 (by decide) ?_
      refine S_icmp_lt (pc := 27) (tgt := 49) hC dX13_readRank_27 (by decide) ?_ ?_
      · exact hJ 49
      · refine S_iload (pc := 30) hC dX13_readRank_30 ?_
        refine S_bipush (pc := 32) hC dX13_readRank_32 (by decide) ?_
        refine S_icmp_gt (pc := 34) (tgt := 49) hC dX13_readRank_34 (by decide) ?_ ?_
        · exact hJ 49
        · refine S_iload_n (pc := 37) hC dX13_readRank_37 rfl ?_
          refine S_if_ne (pc := 38) (tgt := 49) hC dX13_readRank_38 (by decide) ?_ ?_
          · exact hJ 49
          · refine S_iload (pc := 41) hC dX13_readRank_41 ?_
            refine S_bipush (pc := 43) hC dX13_readRank_43 (by decide) ?_
            refine S_isub (pc := 45) hC dX13_readRank_45 ?_
            refine S_goto (pc := 46) (tgt := 50) hC dX13_readRank_46 (by decide) ?_
            exact hJ 50
  have hB49 : zin 8 [0, 1, 2, 5] (aX13_readRank_49 mc ms X Q) X 49 := by
    intro u v vs st M hb
    rw [hXe]
    refine fun lv hp => S_block (L := 49) (live := [0, 1, 2, 5]) ?_ u v lv vs st M hp hb
    unfold aX13_readRank_49
    refine S_iconst (pc := 49) hC dX13_readRank_49 (by decide) ?_
    exact hJ 50
  have hB50 : zin 8 [0, 1, 2, 5] (aX13_readRank_50 mc ms X Q) X 50 := by
    intro u v vs st M hb
    rw [hXe]
    refine fun lv hp => S_block (L := 50) (live := [0, 1, 2, 5]) ?_ u v lv vs st M hp hb
    unfold aX13_readRank_50
    refine S_istore (pc := 50) hC dX13_readRank_50 (by decide) ?_
    refine S_iload (pc := 52) hC dX13_readRank_52 ?_
    refine S_if_ne (pc := 54) (tgt := 73) hC dX13_readRank_54 (by decide) ?_ ?_
    · exact hJ 73
    · refine S_iload (pc := 57) hC dX13_readRank_57 ?_
      refine S_if_eq (pc := 59) (tgt := 71) hC dX13_readRank_59 (by decide) ?_ ?_
      · exact hJ 71
      · refine S_iload_n (pc := 62) hC dX13_readRank_62 rfl ?_
        refine S_iload (pc := 63) hC dX13_readRank_63 ?_
        refine S_iadd (pc := 65) hC dX13_readRank_65 ?_
        refine S_bipush (pc := 66) hC dX13_readRank_66 (by decide) ?_
        refine S_icmp_le (pc := 68) (tgt := 73) hC dX13_readRank_68 (by decide) ?_ ?_
        · exact hJ 73
        · exact hJ 71
  have hB71 : zin 8 [] (aX13_readRank_71 mc ms X Q) X 71 := by
    intro u v vs st M hb
    rw [hXe]
    refine fun lv hp => S_block (L := 71) (live := []) ?_ u v lv vs st M hp hb
    unfold aX13_readRank_71
    refine S_iconst (pc := 71) hC dX13_readRank_71 (by decide) ?_
    exact S_zreturn (pc := 72) hC hr dX13_readRank_72
  have hB73 : zin 8 [0, 1, 2, 5, 6] (aX13_readRank_73 mc ms X Q) X 73 := by
    intro u v vs st M hb
    rw [hXe]
    refine fun lv hp => S_block (L := 73) (live := [0, 1, 2, 5, 6]) ?_ u v lv vs st M hp hb
    unfold aX13_readRank_73
    refine S_aload_n (pc := 73) hC dX13_readRank_73 rfl ?_
    refine S_dup (pc := 74) hC dX13_readRank_74 ?_
    refine S_geti (pc := 75) hC cfX13 (by decide) (Or.inl rfl) wd_1276 dX13_readRank_75 ?_
    refine S_iconst (pc := 78) hC dX13_readRank_78 (by decide) ?_
    refine S_iadd (pc := 79) hC dX13_readRank_79 ?_
    refine S_puti (pc := 80) hC cfX13 (by decide) rfl (Or.inl rfl) wd_1276 dX13_readRank_80 ?_
    refine S_iconst (pc := 83) hC dX13_readRank_83 (by decide) ?_
    refine S_istore (pc := 84) hC dX13_readRank_84 (by decide) ?_
    exact hJ 86
  have hB86 : zin 8 [0, 1, 2, 5, 6, 7] (aX13_readRank_86 mc ms X Q) X 86 := by
    intro u v vs st M hb
    rw [hXe]
    refine fun lv hp => S_block (L := 86) (live := [0, 1, 2, 5, 6, 7]) ?_ u v lv vs st M hp hb
    unfold aX13_readRank_86
    refine S_iload (pc := 86) hC dX13_readRank_86 ?_
    refine S_iload (pc := 88) hC dX13_readRank_88 ?_
    refine S_icmp_ge (pc := 90) (tgt := 114) hC dX13_readRank_90 (by decide) ?_ ?_
    · refine S_iload (pc := 114) hC dX13_readRank_114 ?_
      refine S_if_le (pc := 116) (tgt := 132) hC dX13_readRank_116 (by decide) ?_ ?_
      · exact hJ 132
      · refine S_aload_n (pc := 119) hC dX13_readRank_119 rfl ?_
        refine S_getR (pc := 120) hC cfX13 (by decide) (Or.inr ⟨_, rfl⟩) wd_1271 dX13_readRank_120 ?_
        refine S_bipush (pc := 123) hC dX13_readRank_123 (by decide) ?_
        refine S_iload_n (pc := 125) hC dX13_readRank_125 rfl ?_
        refine S_imul (pc := 126) hC dX13_readRank_126 ?_
        refine S_iload_n (pc := 127) hC dX13_readRank_127 rfl ?_
        refine S_iadd (pc := 128) hC dX13_readRank_128 ?_
        refine S_iload (pc := 129) hC dX13_readRank_129 ?_
        refine S_iastore (pc := 131) hC dX13_readRank_131 ?_
        exact hJ 132
    · refine S_aload_n (pc := 93) hC dX13_readRank_93 rfl ?_
      refine S_getR (pc := 94) hC cfX13 (by decide) (Or.inr ⟨_, rfl⟩) wd_1271 dX13_readRank_94 ?_
      refine S_bipush (pc := 97) hC dX13_readRank_97 (by decide) ?_
      refine S_iload_n (pc := 99) hC dX13_readRank_99 rfl ?_
      refine S_imul (pc := 100) hC dX13_readRank_100 ?_
      refine S_iload_n (pc := 101) hC dX13_readRank_101 rfl ?_
      refine S_iadd (pc := 102) hC dX13_readRank_102 ?_
      refine S_iload (pc := 103) hC dX13_readRank_103 ?_
      refine S_iadd (pc := 105) hC dX13_readRank_105 ?_
      refine S_iconst (pc := 106) hC dX13_readRank_106 (by decide) ?_
      refine S_iastore (pc := 107) hC dX13_readRank_107 ?_
      refine S_iinc (pc := 108) hC dX13_readRank_108 (by decide) (by decide) ?_
      refine S_goto (pc := 111) (tgt := 86) hC dX13_readRank_111 (by decide) ?_
      exact hJ 86
  have hB132 : zin 8 [0, 1, 2, 5, 6] (aX13_readRank_132 mc ms X Q) X 132 := by
    intro u v vs st M hb
    rw [hXe]
    refine fun lv hp => S_block (L := 132) (live := [0, 1, 2, 5, 6]) ?_ u v lv vs st M hp hb
    unfold aX13_readRank_132
    refine S_iload_n (pc := 132) hC dX13_readRank_132 rfl ?_
    refine S_iload (pc := 133) hC dX13_readRank_133 ?_
    refine S_if_le (pc := 135) (tgt := 142) hC dX13_readRank_135 (by decide) ?_ ?_
    · refine S_iload (pc := 142) hC dX13_readRank_142 ?_
      exact hJ 144
    · refine S_iconst (pc := 138) hC dX13_readRank_138 (by decide) ?_
      refine S_goto (pc := 139) (tgt := 144) hC dX13_readRank_139 (by decide) ?_
      exact hJ 144
  have hB144 : zin 8 [0, 1, 5] (aX13_readRank_144 mc ms X Q) X 144 := by
    intro u v vs st M hb
    rw [hXe]
    refine fun lv hp => S_block (L := 144) (live := [0, 1, 5]) ?_ u v lv vs st M hp hb
    unfold aX13_readRank_144
    refine S_iadd (pc := 144) hC dX13_readRank_144 ?_
    refine S_istore_n (pc := 145) hC dX13_readRank_145 rfl (by decide) ?_
    refine S_iload (pc := 146) hC dX13_readRank_146 ?_
    refine S_if_ne (pc := 148) (tgt := 155) hC dX13_readRank_148 (by decide) ?_ ?_
    · refine S_iconst (pc := 155) hC dX13_readRank_155 (by decide) ?_
      exact hJ 156
    · refine S_iconst (pc := 151) hC dX13_readRank_151 (by decide) ?_
      refine S_goto (pc := 152) (tgt := 156) hC dX13_readRank_152 (by decide) ?_
      exact hJ 156
  have hB156 : zin 8 [0, 1, 2] (aX13_readRank_156 mc ms X Q) X 156 := by
    intro u v vs st M hb
    rw [hXe]
    refine fun lv hp => S_block (L := 156) (live := [0, 1, 2]) ?_ u v lv vs st M hp hb
    unfold aX13_readRank_156
    refine S_istore_n (pc := 156) hC dX13_readRank_156 rfl (by decide) ?_
    refine S_goto (pc := 157) (tgt := 4) hC dX13_readRank_157 (by decide) ?_
    exact hJ 4
  have := h.2 X hB0 hB4 hB49 hB50 hB71 hB73 hB86 hB132 hB144 hB156
  rw [hXe] at this
  exact this lv hlv
theorem vX13_readRank_0 {mc ms : Nat} {X : Nat → zV} {Q : zQt} {M : zM} {x1 : Int32} (hW : zFix M)  (h : X 4 0 0 [.ref 55, .int x1, .int 0, .int 0] [] M) : aX13_readRank_0 mc ms X Q 0 0 [some (.ref 55), some (.int x1), none, none, none, none, none, none] [] M := h
theorem vX13_readRank_4 {mc ms : Nat} {X : Nat → zV} {Q : zQt} {M : zM} {x1 : Int32} {x2 : Int32} {x3 : Int32} (hW : zFix M)  (h : ((8 : Int32) ≤ x2 → Q (some (.int 1)) M) ∧ (¬ (8 : Int32) ≤ x2 → wX13_peek 0 0 [.ref 55] M (fun r M1 => kX13_readRank_14 mc ms X Q 0 0 [some (.ref 55), some (.int x1), some (.int x2), some (.int x3), none, none, none, none] (r.toList ++ []) M1))) : aX13_readRank_4 mc ms X Q 0 0 [some (.ref 55), some (.int x1), some (.int x2), some (.int x3), none, none, none, none] [] M := ⟨fun c7 => ⟨rfl, (h.1 c7)⟩, fun c7 => ⟨Nat.le_of_ble_eq_true rfl, rfl, (fxs_55 hW), 0, 0, Nat.zero_le _, Nat.zero_le _, (h.2 c7)⟩⟩
theorem vX13_readRank_49 {mc ms : Nat} {X : Nat → zV} {Q : zQt} {M : zM} {x1 : Int32} {x2 : Int32} {x5 : Int32} (hW : zFix M)  (h : X 50 0 0 [.ref 55, .int x1, .int x2, .int x5] [.int 0] M) : aX13_readRank_49 mc ms X Q 0 0 [some (.ref 55), some (.int x1), some (.int x2), none, none, some (.int x5), none, none] [] M := h
theorem vX13_readRank_50 {mc ms : Nat} {X : Nat → zV} {Q : zQt} {M : zM} {x1 : Int32} {x2 : Int32} {x5 : Int32} {s0 : Int32} (hW : zFix M)  (h : (x5 = 0 → (s0 = 0 → X 71 0 0 [] [] M) ∧ (¬ s0 = 0 → ((x2 + s0) ≤ (8 : Int32) → X 73 0 0 [.ref 55, .int x1, .int x2, .int x5, .int s0] [] M) ∧ (¬ (x2 + s0) ≤ (8 : Int32) → X 71 0 0 [] [] M))) ∧ (¬ x5 = 0 → X 73 0 0 [.ref 55, .int x1, .int x2, .int x5, .int s0] [] M)) : aX13_readRank_50 mc ms X Q 0 0 [some (.ref 55), some (.int x1), some (.int x2), none, none, some (.int x5), none, none] [.int s0] M := ⟨fun c54 => ⟨fun c59 => ((h.1 c54).1 c59), fun c59 => ⟨fun c68 => (((h.1 c54).2 c59).1 c68), fun c68 => (((h.1 c54).2 c59).2 c68)⟩⟩, fun c54 => (h.2 c54)⟩
theorem vX13_readRank_71 {mc ms : Nat} {X : Nat → zV} {Q : zQt} {M : zM}  (hW : zFix M)  (h : Q (some (.int 0)) M) : aX13_readRank_71 mc ms X Q 0 0 [none, none, none, none, none, none, none, none] [] M := ⟨rfl, h⟩
theorem vX13_readRank_73 {mc ms : Nat} {X : Nat → zV} {Q : zQt} {M : zM} {x1 : Int32} {x2 : Int32} {x5 : Int32} {x6 : Int32} (hW : zFix M)  (h : ∀ M80 : zM, M80 = (zsI M 55 21 (((M.1 55 21) + (1 : Int32)))) → X 86 0 0 [.ref 55, .int x1, .int x2, .int x5, .int x6, .int 0] [] M80) : aX13_readRank_73 mc ms X Q 0 0 [some (.ref 55), some (.int x1), some (.int x2), none, none, some (.int x5), some (.int x6), none] [] M := ⟨(fxs_55 hW), ⟨(fxs_55 hW), (have h80 := h _ rfl; h80)⟩⟩
theorem vX13_readRank_86 {mc ms : Nat} {X : Nat → zV} {Q : zQt} {M : zM} {x1 : Int32} {x2 : Int32} {x5 : Int32} {x6 : Int32} {x7 : Int32} (hW : zFix M)  (h : (x6 ≤ x7 → (x5 ≤ 0 → X 132 0 0 [.ref 55, .int x1, .int x2, .int x5, .int x6] [] M) ∧ (¬ x5 ≤ 0 → vp_in ((((8 : Int32) * x1) + x2)) 414 ∧ ∀ M131 : zM, M131 = (zsI M 65 ((((8 : Int32) * x1) + x2) : Int32).toNatClampNeg x5) → X 132 0 0 [.ref 55, .int x1, .int x2, .int x5, .int x6] [] M131)) ∧ (¬ x6 ≤ x7 → vp_in (((((8 : Int32) * x1) + x2) + x7)) 414 ∧ ∀ M107 : zM, M107 = (zsI M 65 (((((8 : Int32) * x1) + x2) + x7) : Int32).toNatClampNeg 0) → X 86 0 0 [.ref 55, .int x1, .int x2, .int x5, .int x6, .int (x7 + 1)] [] M107)) : aX13_readRank_86 mc ms X Q 0 0 [some (.ref 55), some (.int x1), some (.int x2), none, none, some (.int x5), some (.int x6), some (.int x7)] [] M := ⟨fun c90 => ⟨fun c116 => ((h.1 c90).1 c116), fun c116 => ⟨(fxs_55 hW), 65, (fxr_55_16 hW), ⟨414, (fxs_65 hW), ((h.1 c90).2 c116).1, (have h131 := ((h.1 c90).2 c116).2 _ rfl; h131)⟩⟩⟩, fun c90 => ⟨(fxs_55 hW), 65, (fxr_55_16 hW), ⟨414, (fxs_65 hW), (h.2 c90).1, (have h107 := (h.2 c90).2 _ rfl; h107)⟩⟩⟩
theorem vX13_readRank_132 {mc ms : Nat} {X : Nat → zV} {Q : zQt} {M : zM} {x1 : Int32} {x2 : Int32} {x5 : Int32} {x6 : Int32} (hW : zFix M)  (h : (x5 ≤ 0 → X 144 0 0 [.ref 55, .int x1, .int x5] [.int x6, .int x2] M) ∧ (¬ x5 ≤ 0 → X 144 0 0 [.ref 55, .int x1, .int x5] [.int 1, .int x2] M)) : aX13_readRank_132 mc ms X Q 0 0 [some (.ref 55), some (.int x1), some (.int x2), none, none, some (.int x5), some (.int x6), none] [] M := ⟨fun c135 => (h.1 c135), fun c135 => (h.2 c135)⟩
theorem vX13_readRank_144 {mc ms : Nat} {X : Nat → zV} {Q : zQt} {M : zM} {x1 : Int32} {x5 : Int32} {s0 : Int32} {s1 : Int32} (hW : zFix M)  (h : (x5 = 0 → X 156 0 0 [.ref 55, .int x1, .int (s1 + s0)] [.int 1] M) ∧ (¬ x5 = 0 → X 156 0 0 [.ref 55, .int x1, .int (s1 + s0)] [.int 0] M)) : aX13_readRank_144 mc ms X Q 0 0 [some (.ref 55), some (.int x1), none, none, none, some (.int x5), none, none] [.int s0, .int s1] M := ⟨fun c148 => (h.1 c148), fun c148 => (h.2 c148)⟩
theorem vX13_readRank_156 {mc ms : Nat} {X : Nat → zV} {Q : zQt} {M : zM} {x1 : Int32} {x2 : Int32} {s0 : Int32} (hW : zFix M)  (h : X 4 0 0 [.ref 55, .int x1, .int x2, .int s0] [] M) : aX13_readRank_156 mc ms X Q 0 0 [some (.ref 55), some (.int x1), some (.int x2), none, none, none, none, none] [.int s0] M := h
theorem vkX13_readRank_14 {mc ms : Nat} {X : Nat → zV} {Q : zQt} {M : zM} {x1 : Int32} {x2 : Int32} {x3 : Int32} {s0 : Int32} (hW : zFix M)  (h : wX13_manOf 0 0 [.int s0] M (fun r M1 => kX13_readRank_21 mc ms X Q 0 0 [some (.ref 55), some (.int x1), some (.int x2), some (.int x3), some (.int s0), none, none, none] (r.toList ++ []) M1)) : kX13_readRank_14 mc ms X Q 0 0 [some (.ref 55), some (.int x1), some (.int x2), some (.int x3), none, none, none, none] [.int s0] M := ⟨Nat.le_of_ble_eq_true rfl, rfl, 0, 0, Nat.zero_le _, Nat.zero_le _, h⟩
theorem vkX13_readRank_21 {mc ms : Nat} {X : Nat → zV} {Q : zQt} {M : zM} {x1 : Int32} {x2 : Int32} {x3 : Int32} {x4 : Int32} {s0 : Int32} (hW : zFix M)  (h : (x4 < (49 : Int32) → X 49 0 0 [.ref 55, .int x1, .int x2, .int s0] [] M) ∧ (¬ x4 < (49 : Int32) → ((56 : Int32) < x4 → X 49 0 0 [.ref 55, .int x1, .int x2, .int s0] [] M) ∧ (¬ (56 : Int32) < x4 → (x3 = 0 → X 50 0 0 [.ref 55, .int x1, .int x2, .int s0] [.int (x4 - (48 : Int32))] M) ∧ (¬ x3 = 0 → X 49 0 0 [.ref 55, .int x1, .int x2, .int s0] [] M)))) : kX13_readRank_21 mc ms X Q 0 0 [some (.ref 55), some (.int x1), some (.int x2), some (.int x3), some (.int x4), none, none, none] [.int s0] M := ⟨fun c27 => (h.1 c27), fun c27 => ⟨fun c34 => ((h.2 c27).1 c34), fun c34 => ⟨fun c38 => (((h.2 c27).2 c34).1 c38), fun c38 => (((h.2 c27).2 c34).2 c38)⟩⟩⟩
theorem dX13_readRanks_0 : decode cX13_readRanks 0 = .ok (.iconst 1, 1) := by decide +kernel
theorem dX13_readRanks_1 : decode cX13_readRanks 1 = .ok (.istore_n 1, 1) := by decide +kernel
theorem dX13_readRanks_2 : decode cX13_readRanks 2 = .ok (.bipush 7, 2) := by decide +kernel
theorem dX13_readRanks_4 : decode cX13_readRanks 4 = .ok (.istore_n 2, 1) := by decide +kernel
theorem dX13_readRanks_5 : decode cX13_readRanks 5 = .ok (.iload_n 2, 1) := by decide +kernel
theorem dX13_readRanks_6 : decode cX13_readRanks 6 = .ok (.ifCond .lt 40, 3) := by decide +kernel
theorem dX13_readRanks_9 : decode cX13_readRanks 9 = .ok (.iload_n 1, 1) := by decide +kernel
theorem dX13_readRanks_10 : decode cX13_readRanks 10 = .ok (.ifCond .eq 36, 3) := by decide +kernel
theorem dX13_readRanks_13 : decode cX13_readRanks 13 = .ok (.aload_n 0, 1) := by decide +kernel
theorem dX13_readRanks_14 : decode cX13_readRanks 14 = .ok (.iload_n 2, 1) := by decide +kernel
theorem dX13_readRanks_15 : decode cX13_readRanks 15 = .ok (.invokevirtual 193, 3) := by decide +kernel
theorem dX13_readRanks_18 : decode cX13_readRanks 18 = .ok (.ifCond .eq 20, 3) := by decide +kernel
theorem dX13_readRanks_21 : decode cX13_readRanks 21 = .ok (.iload_n 2, 1) := by decide +kernel
theorem dX13_readRanks_22 : decode cX13_readRanks 22 = .ok (.ifCond .eq 12, 3) := by decide +kernel
theorem dX13_readRanks_25 : decode cX13_readRanks 25 = .ok (.aload_n 0, 1) := by decide +kernel
theorem dX13_readRanks_26 : decode cX13_readRanks 26 = .ok (.bipush 47, 2) := by decide +kernel
theorem dX13_readRanks_28 : decode cX13_readRanks 28 = .ok (.invokevirtual 197, 3) := by decide +kernel
theorem dX13_readRanks_31 : decode cX13_readRanks 31 = .ok (.ifCond .eq 7, 3) := by decide +kernel
theorem dX13_readRanks_34 : decode cX13_readRanks 34 = .ok (.iconst 1, 1) := by decide +kernel
theorem dX13_readRanks_35 : decode cX13_readRanks 35 = .ok (.goto 4, 3) := by decide +kernel
theorem dX13_readRanks_38 : decode cX13_readRanks 38 = .ok (.iconst 0, 1) := by decide +kernel
theorem dX13_readRanks_39 : decode cX13_readRanks 39 = .ok (.istore_n 1, 1) := by decide +kernel
theorem dX13_readRanks_40 : decode cX13_readRanks 40 = .ok (.iinc 2 (-1), 3) := by decide +kernel
theorem dX13_readRanks_43 : decode cX13_readRanks 43 = .ok (.goto (-38), 3) := by decide +kernel
theorem dX13_readRanks_46 : decode cX13_readRanks 46 = .ok (.iload_n 1, 1) := by decide +kernel
theorem dX13_readRanks_47 : decode cX13_readRanks 47 = .ok (.ireturn, 1) := by decide +kernel
def kX13_readRanks_31 (mc ms : Nat) (X : Nat → zV) (Q : zQt) : zT :=
  zif (fun x => x = 0) (zj X 38 [0, 2]) <| zj X 34 [0, 2]
def kX13_readRanks_18 (mc ms : Nat) (X : Nat → zV) (Q : zQt) : zT :=
  zif (fun x => x = 0) (zj X 38 [0, 2]) <| zli 2 <| zif (fun x => x = 0) (zj X 34 [0, 2]) <| zla 0 <| zc (.int 47) <| zcv mc ms 13 1 wX13_eat <| kX13_readRanks_31 mc ms X Q
def aX13_readRanks_0 (mc ms : Nat) (X : Nat → zV) (Q : zQt) : zT :=
  zc (.int 1) <| zsi 1 <| zc (.int 7) <| zsi 2 <| zj X 5 [0, 1, 2]
def aX13_readRanks_5 (mc ms : Nat) (X : Nat → zV) (Q : zQt) : zT :=
  zli 2 <| zif (fun x => x < 0) (zj X 46 [1]) <| zli 1 <| zif (fun x => x = 0) (zj X 46 [1]) <| zla 0 <| zli 2 <| zcv mc ms 13 1 wX13_readRank <| kX13_readRanks_18 mc ms X Q
def aX13_readRanks_34 (mc ms : Nat) (X : Nat → zV) (Q : zQt) : zT :=
  zc (.int 1) <| zj X 39 [0, 2]
def aX13_readRanks_38 (mc ms : Nat) (X : Nat → zV) (Q : zQt) : zT :=
  zc (.int 0) <| zj X 39 [0, 2]
def aX13_readRanks_39 (mc ms : Nat) (X : Nat → zV) (Q : zQt) : zT :=
  zsi 1 <| zinc 2 (-1) <| zj X 5 [0, 1, 2]
def aX13_readRanks_46 (mc ms : Nat) (X : Nat → zV) (Q : zQt) : zT :=
  zli 1 <| zrz .boolean Q
def lvX13_readRanks : Nat → List Nat := fun L => match L with
  | 0 => [0]
  | 5 => [0, 1, 2]
  | 34 => [0, 2]
  | 38 => [0, 2]
  | 39 => [0, 2]
  | 46 => [1]
  | _ => []
def wX13_readRanks : zSp := fun mc ms av M Q => ((zlay av).length ≤ 3 ∧ zpick (zlay av) [0] = some av) ∧ ∀ X : Nat → zV, zin 3 [0] (aX13_readRanks_0 mc ms X Q) X 0 → zin 3 [0, 1, 2] (aX13_readRanks_5 mc ms X Q) X 5 → zin 3 [0, 2] (aX13_readRanks_34 mc ms X Q) X 34 → zin 3 [0, 2] (aX13_readRanks_38 mc ms X Q) X 38 → zin 3 [0, 2] (aX13_readRanks_39 mc ms X Q) X 39 → zin 3 [1] (aX13_readRanks_46 mc ms X Q) X 46 → X 0 0 0 av [] M
set_option maxRecDepth 100000 in
set_option maxHeartbeats 4000000 in
theorem sX13_readRanks (l : Launch) (G : zG) : zSnd l G yX13_readRanks cX13_readRanks 3 (some .boolean) 4 91 wX13_readRanks := by
  refine zmk [0] (by decide) (fun mc ms av M Q h => h.1) ?_
  intro p e R s m args below meth c mc ms av M Q hC hRf hRl hr hnm h lv hlv
  obtain ⟨X, hXe⟩ : ∃ X : Nat → zV, X = fun L u v vs st M => ∀ lv, zpick lv (lvX13_readRanks L) = some vs → zAt p l e R s m args below meth c (MQ below (zQ G Q) args s mc ms (zA G)) G 3 L u v lv st M := ⟨_, rfl⟩
  have hJ : ∀ L, zOk p l e R s m args below meth c (MQ below (zQ G Q) args s mc ms (zA G)) G 3 L (zj X L (lvX13_readRanks L)) := fun L => S_jump (fun u v lv vs st M hp hx => by rw [hXe] at hx; exact hx lv hp)
  have hB0 : zin 3 [0] (aX13_readRanks_0 mc ms X Q) X 0 := by
    intro u v vs st M hb
    rw [hXe]
    refine fun lv hp => S_block (L := 0) (live := [0]) ?_ u v lv vs st M hp hb
    unfold aX13_readRanks_0
    refine S_iconst (pc := 0) hC dX13_readRanks_0 (by decide) ?_
    refine S_istore_n (pc := 1) hC dX13_readRanks_1 rfl (by decide) ?_
    refine S_bipush (pc := 2) hC dX13_readRanks_2 (by decide) ?_
    refine S_istore_n (pc := 4) hC dX13_readRanks_4 rfl (by decide) ?_
    exact hJ 5
  have hB5 : zin 3 [0, 1, 2] (aX13_readRanks_5 mc ms X Q) X 5 := by
    intro u v vs st M hb
    rw [hXe]
    refine fun lv hp => S_block (L := 5) (live := [0, 1, 2]) ?_ u v lv vs st M hp hb
    unfold aX13_readRanks_5
    refine S_iload_n (pc := 5) hC dX13_readRanks_5 rfl ?_
    refine S_if_lt (pc := 6) (tgt := 46) hC dX13_readRanks_6 (by decide) ?_ ?_
    · exact hJ 46
    · refine S_iload_n (pc := 9) hC dX13_readRanks_9 rfl ?_
      refine S_if_eq (pc := 10) (tgt := 46) hC dX13_readRanks_10 (by decide) ?_ ?_
      · exact hJ 46
      · refine S_aload_n (pc := 13) hC dX13_readRanks_13 rfl ?_
        refine S_iload_n (pc := 14) hC dX13_readRanks_14 rfl ?_
        refine S_callV (pc := 15) hC (sX13_readRank l G) rfl wd_1362 wd_1364 ws_57 wd_12 wd_1365 (by decide +kernel) ⟨by rw [hRf]; decide, by rw [hRl]; decide⟩ dX13_readRanks_15 ?_
        unfold kX13_readRanks_18
        refine S_if_eq (pc := 18) (tgt := 38) hC dX13_readRanks_18 (by decide) ?_ ?_
        · exact hJ 38
        · refine S_iload_n (pc := 21) hC dX13_readRanks_21 rfl ?_
          refine S_if_eq (pc := 22) (tgt := 34) hC dX13_readRanks_22 (by decide) ?_ ?_
          · exact hJ 34
          · refine S_aload_n (pc := 25) hC dX13_readRanks_25 rfl ?_
            refine S_bipush (pc := 26) hC dX13_readRanks_26 (by decide) ?_
            refine S_callV (pc := 28) hC (sX13_eat l G) rfl wd_1379 wd_1381 ws_59 wd_12 wd_1382 (by decide +kernel) ⟨by rw [hRf]; decide, by rw [hRl]; decide⟩ dX13_readRanks_28 ?_
            unfold kX13_readRanks_31
            refine S_if_eq (pc := 31) (tgt := 38) hC dX13_readRanks_31 (by decide) ?_ ?_
            · exact hJ 38
            · exact hJ 34
  have hB34 : zin 3 [0, 2] (aX13_readRanks_34 mc ms X Q) X 34 := by
    intro u v vs st M hb
    rw [hXe]
    refine fun lv hp => S_block (L := 34) (live := [0, 2]) ?_ u v lv vs st M hp hb
    unfold aX13_readRanks_34
    refine S_iconst (pc := 34) hC dX13_readRanks_34 (by decide) ?_
    refine S_goto (pc := 35) (tgt := 39) hC dX13_readRanks_35 (by decide) ?_
    exact hJ 39
  have hB38 : zin 3 [0, 2] (aX13_readRanks_38 mc ms X Q) X 38 := by
    intro u v vs st M hb
    rw [hXe]
    refine fun lv hp => S_block (L := 38) (live := [0, 2]) ?_ u v lv vs st M hp hb
    unfold aX13_readRanks_38
    refine S_iconst (pc := 38) hC dX13_readRanks_38 (by decide) ?_
    exact hJ 39
  have hB39 : zin 3 [0, 2] (aX13_readRanks_39 mc ms X Q) X 39 := by
    intro u v vs st M hb
    rw [hXe]
    refine fun lv hp => S_block (L := 39) (live := [0, 2]) ?_ u v lv vs st M hp hb
    unfold aX13_readRanks_39
    refine S_istore_n (pc := 39) hC dX13_readRanks_39 rfl (by decide) ?_
    refine S_iinc (pc := 40) hC dX13_readRanks_40 (by decide) (by decide) ?_
    refine S_goto (pc := 43) (tgt := 5) hC dX13_readRanks_43 (by decide) ?_
    exact hJ 5
  have hB46 : zin 3 [1] (aX13_readRanks_46 mc ms X Q) X 46 := by
    intro u v vs st M hb
    rw [hXe]
    refine fun lv hp => S_block (L := 46) (live := [1]) ?_ u v lv vs st M hp hb
    unfold aX13_readRanks_46
    refine S_iload_n (pc := 46) hC dX13_readRanks_46 rfl ?_
    exact S_zreturn (pc := 47) hC hr dX13_readRanks_47
  have := h.2 X hB0 hB5 hB34 hB38 hB39 hB46
  rw [hXe] at this
  exact this lv hlv
theorem vX13_readRanks_0 {mc ms : Nat} {X : Nat → zV} {Q : zQt} {M : zM}  (hW : zFix M)  (h : X 5 0 0 [.ref 55, .int 1, .int 7] [] M) : aX13_readRanks_0 mc ms X Q 0 0 [some (.ref 55), none, none] [] M := h
theorem vX13_readRanks_5 {mc ms : Nat} {X : Nat → zV} {Q : zQt} {M : zM} {x1 : Int32} {x2 : Int32} (hW : zFix M)  (h : (x2 < 0 → X 46 0 0 [.int x1] [] M) ∧ (¬ x2 < 0 → (x1 = 0 → X 46 0 0 [.int x1] [] M) ∧ (¬ x1 = 0 → wX13_readRank 0 0 [.ref 55, .int x2] M (fun r M1 => kX13_readRanks_18 mc ms X Q 0 0 [some (.ref 55), some (.int x1), some (.int x2)] (r.toList ++ []) M1)))) : aX13_readRanks_5 mc ms X Q 0 0 [some (.ref 55), some (.int x1), some (.int x2)] [] M := ⟨fun c6 => (h.1 c6), fun c6 => ⟨fun c10 => ((h.2 c6).1 c10), fun c10 => ⟨Nat.le_of_ble_eq_true rfl, rfl, (fxs_55 hW), 0, 0, Nat.zero_le _, Nat.zero_le _, ((h.2 c6).2 c10)⟩⟩⟩
theorem vX13_readRanks_34 {mc ms : Nat} {X : Nat → zV} {Q : zQt} {M : zM} {x2 : Int32} (hW : zFix M)  (h : X 39 0 0 [.ref 55, .int x2] [.int 1] M) : aX13_readRanks_34 mc ms X Q 0 0 [some (.ref 55), none, some (.int x2)] [] M := h
theorem vX13_readRanks_38 {mc ms : Nat} {X : Nat → zV} {Q : zQt} {M : zM} {x2 : Int32} (hW : zFix M)  (h : X 39 0 0 [.ref 55, .int x2] [.int 0] M) : aX13_readRanks_38 mc ms X Q 0 0 [some (.ref 55), none, some (.int x2)] [] M := h
theorem vX13_readRanks_39 {mc ms : Nat} {X : Nat → zV} {Q : zQt} {M : zM} {x2 : Int32} {s0 : Int32} (hW : zFix M)  (h : X 5 0 0 [.ref 55, .int s0, .int (x2 + (-1))] [] M) : aX13_readRanks_39 mc ms X Q 0 0 [some (.ref 55), none, some (.int x2)] [.int s0] M := h
theorem vX13_readRanks_46 {mc ms : Nat} {X : Nat → zV} {Q : zQt} {M : zM} {x1 : Int32} (hW : zFix M)  (h : narrow .boolean (.int x1) = .int x1 ∧ Q (some (.int x1)) M) : aX13_readRanks_46 mc ms X Q 0 0 [none, some (.int x1), none] [] M := h
theorem vkX13_readRanks_18 {mc ms : Nat} {X : Nat → zV} {Q : zQt} {M : zM} {x1 : Int32} {x2 : Int32} {s0 : Int32} (hW : zFix M)  (h : (s0 = 0 → X 38 0 0 [.ref 55, .int x2] [] M) ∧ (¬ s0 = 0 → (x2 = 0 → X 34 0 0 [.ref 55, .int x2] [] M) ∧ (¬ x2 = 0 → wX13_eat 0 0 [.ref 55, .int 47] M (fun r M1 => kX13_readRanks_31 mc ms X Q 0 0 [some (.ref 55), some (.int x1), some (.int x2)] (r.toList ++ []) M1)))) : kX13_readRanks_18 mc ms X Q 0 0 [some (.ref 55), some (.int x1), some (.int x2)] [.int s0] M := ⟨fun c18 => (h.1 c18), fun c18 => ⟨fun c22 => ((h.2 c18).1 c22), fun c22 => ⟨Nat.le_of_ble_eq_true rfl, rfl, (fxs_55 hW), 0, 0, Nat.zero_le _, Nat.zero_le _, ((h.2 c18).2 c22)⟩⟩⟩
theorem vkX13_readRanks_31 {mc ms : Nat} {X : Nat → zV} {Q : zQt} {M : zM} {x1 : Int32} {x2 : Int32} {s0 : Int32} (hW : zFix M)  (h : (s0 = 0 → X 38 0 0 [.ref 55, .int x2] [] M) ∧ (¬ s0 = 0 → X 34 0 0 [.ref 55, .int x2] [] M)) : kX13_readRanks_31 mc ms X Q 0 0 [some (.ref 55), some (.int x1), some (.int x2)] [.int s0] M := ⟨fun c31 => (h.1 c31), fun c31 => (h.2 c31)⟩
theorem dX13_readRights_0 : decode cX13_readRights 0 = .ok (.iconst 0, 1) := by decide +kernel
theorem dX13_readRights_1 : decode cX13_readRights 1 = .ok (.istore_n 1, 1) := by decide +kernel
theorem dX13_readRights_2 : decode cX13_readRights 2 = .ok (.aload_n 0, 1) := by decide +kernel
theorem dX13_readRights_3 : decode cX13_readRights 3 = .ok (.bipush 45, 2) := by decide +kernel
theorem dX13_readRights_5 : decode cX13_readRights 5 = .ok (.invokevirtual 197, 3) := by decide +kernel
theorem dX13_readRights_8 : decode cX13_readRights 8 = .ok (.istore_n 2, 1) := by decide +kernel
theorem dX13_readRights_9 : decode cX13_readRights 9 = .ok (.iconst 0, 1) := by decide +kernel
theorem dX13_readRights_10 : decode cX13_readRights 10 = .ok (.istore_n 3, 1) := by decide +kernel
theorem dX13_readRights_11 : decode cX13_readRights 11 = .ok (.iload_n 3, 1) := by decide +kernel
theorem dX13_readRights_12 : decode cX13_readRights 12 = .ok (.iconst 4, 1) := by decide +kernel
theorem dX13_readRights_13 : decode cX13_readRights 13 = .ok (.if_icmp .ge 61, 3) := by decide +kernel
theorem dX13_readRights_16 : decode cX13_readRights 16 = .ok (.iload_n 2, 1) := by decide +kernel
theorem dX13_readRights_17 : decode cX13_readRights 17 = .ok (.ifCond .ne 57, 3) := by decide +kernel
theorem dX13_readRights_20 : decode cX13_readRights 20 = .ok (.iload_n 1, 1) := by decide +kernel
theorem dX13_readRights_21 : decode cX13_readRights 21 = .ok (.aload_n 0, 1) := by decide +kernel
theorem dX13_readRights_22 : decode cX13_readRights 22 = .ok (.iload_n 3, 1) := by decide +kernel
theorem dX13_readRights_23 : decode cX13_readRights 23 = .ok (.ifCond .ne 8, 3) := by decide +kernel
theorem dX13_readRights_26 : decode cX13_readRights 26 = .ok (.bipush 75, 2) := by decide +kernel
theorem dX13_readRights_28 : decode cX13_readRights 28 = .ok (.goto 25, 3) := by decide +kernel
theorem dX13_readRights_31 : decode cX13_readRights 31 = .ok (.iload_n 3, 1) := by decide +kernel
theorem dX13_readRights_32 : decode cX13_readRights 32 = .ok (.iconst 1, 1) := by decide +kernel
theorem dX13_readRights_33 : decode cX13_readRights 33 = .ok (.if_icmp .ne 8, 3) := by decide +kernel
theorem dX13_readRights_36 : decode cX13_readRights 36 = .ok (.bipush 81, 2) := by decide +kernel
theorem dX13_readRights_38 : decode cX13_readRights 38 = .ok (.goto 15, 3) := by decide +kernel
theorem dX13_readRights_41 : decode cX13_readRights 41 = .ok (.iload_n 3, 1) := by decide +kernel
theorem dX13_readRights_42 : decode cX13_readRights 42 = .ok (.iconst 2, 1) := by decide +kernel
theorem dX13_readRights_43 : decode cX13_readRights 43 = .ok (.if_icmp .ne 8, 3) := by decide +kernel
theorem dX13_readRights_46 : decode cX13_readRights 46 = .ok (.bipush 107, 2) := by decide +kernel
theorem dX13_readRights_48 : decode cX13_readRights 48 = .ok (.goto 5, 3) := by decide +kernel
theorem dX13_readRights_51 : decode cX13_readRights 51 = .ok (.bipush 113, 2) := by decide +kernel
theorem dX13_readRights_53 : decode cX13_readRights 53 = .ok (.invokevirtual 197, 3) := by decide +kernel
theorem dX13_readRights_56 : decode cX13_readRights 56 = .ok (.ifCond .eq 9, 3) := by decide +kernel
theorem dX13_readRights_59 : decode cX13_readRights 59 = .ok (.iconst 1, 1) := by decide +kernel
theorem dX13_readRights_60 : decode cX13_readRights 60 = .ok (.iload_n 3, 1) := by decide +kernel
theorem dX13_readRights_61 : decode cX13_readRights 61 = .ok (.ishl, 1) := by decide +kernel
theorem dX13_readRights_62 : decode cX13_readRights 62 = .ok (.goto 4, 3) := by decide +kernel
theorem dX13_readRights_65 : decode cX13_readRights 65 = .ok (.iconst 0, 1) := by decide +kernel
theorem dX13_readRights_66 : decode cX13_readRights 66 = .ok (.iadd, 1) := by decide +kernel
theorem dX13_readRights_67 : decode cX13_readRights 67 = .ok (.istore_n 1, 1) := by decide +kernel
theorem dX13_readRights_68 : decode cX13_readRights 68 = .ok (.iinc 3 1, 3) := by decide +kernel
theorem dX13_readRights_71 : decode cX13_readRights 71 = .ok (.goto (-60), 3) := by decide +kernel
theorem dX13_readRights_74 : decode cX13_readRights 74 = .ok (.aload_n 0, 1) := by decide +kernel
theorem dX13_readRights_75 : decode cX13_readRights 75 = .ok (.getfield 43, 3) := by decide +kernel
theorem dX13_readRights_78 : decode cX13_readRights 78 = .ok (.bipush 65, 2) := by decide +kernel
theorem dX13_readRights_80 : decode cX13_readRights 80 = .ok (.iload_n 1, 1) := by decide +kernel
theorem dX13_readRights_81 : decode cX13_readRights 81 = .ok (.iastore, 1) := by decide +kernel
theorem dX13_readRights_82 : decode cX13_readRights 82 = .ok (.iload_n 2, 1) := by decide +kernel
theorem dX13_readRights_83 : decode cX13_readRights 83 = .ok (.ifCond .ne 7, 3) := by decide +kernel
theorem dX13_readRights_86 : decode cX13_readRights 86 = .ok (.iload_n 1, 1) := by decide +kernel
theorem dX13_readRights_87 : decode cX13_readRights 87 = .ok (.ifCond .le 7, 3) := by decide +kernel
theorem dX13_readRights_90 : decode cX13_readRights 90 = .ok (.iconst 1, 1) := by decide +kernel
theorem dX13_readRights_91 : decode cX13_readRights 91 = .ok (.goto 4, 3) := by decide +kernel
theorem dX13_readRights_94 : decode cX13_readRights 94 = .ok (.iconst 0, 1) := by decide +kernel
theorem dX13_readRights_95 : decode cX13_readRights 95 = .ok (.ireturn, 1) := by decide +kernel
def kX13_readRights_8 (mc ms : Nat) (X : Nat → zV) (Q : zQt) : zT :=
  zsi 2 <| zc (.int 0) <| zsi 3 <| zj X 11 [0, 1, 2, 3]
def kX13_readRights_56 (mc ms : Nat) (X : Nat → zV) (Q : zQt) : zT :=
  zif (fun x => x = 0) (zc (.int 0) <| zj X 66 [0, 2, 3]) <| zc (.int 1) <| zli 3 <| zii (fun x y => x <<< (y &&& 31)) <| zj X 66 [0, 2, 3]
def aX13_readRights_0 (mc ms : Nat) (X : Nat → zV) (Q : zQt) : zT :=
  zc (.int 0) <| zsi 1 <| zla 0 <| zc (.int 45) <| zcv mc ms 13 1 wX13_eat <| kX13_readRights_8 mc ms X Q
def aX13_readRights_11 (mc ms : Nat) (X : Nat → zV) (Q : zQt) : zT :=
  zli 3 <| zc (.int 4) <| zic (fun x y => y ≤ x) (zj X 74 [0, 1, 2]) <| zli 2 <| zif (fun x => x = 0) (zli 1 <| zla 0 <| zli 3 <| zif (fun x => x = 0) (zc (.int 75) <| zj X 53 [0, 2, 3]) <| zli 3 <| zc (.int 1) <| zic (fun x y => x = y) (zc (.int 81) <| zj X 53 [0, 2, 3]) <| zli 3 <| zc (.int 2) <| zic (fun x y => x = y) (zc (.int 107) <| zj X 53 [0, 2, 3]) <| zc (.int 113) <| zj X 53 [0, 2, 3]) <| zj X 74 [0, 1, 2]
def aX13_readRights_53 (mc ms : Nat) (X : Nat → zV) (Q : zQt) : zT :=
  zcv mc ms 13 1 wX13_eat <| kX13_readRights_56 mc ms X Q
def aX13_readRights_66 (mc ms : Nat) (X : Nat → zV) (Q : zQt) : zT :=
  zii (fun x y => x + y) <| zsi 1 <| zinc 3 1 <| zj X 11 [0, 1, 2, 3]
def aX13_readRights_74 (mc ms : Nat) (X : Nat → zV) (Q : zQt) : zT :=
  zla 0 <| zgR 13 16 <| zc (.int 65) <| zli 1 <| zas 1 (fun x => x) <| zli 2 <| zif (fun x => x = 0) (zli 1 <| zif (fun x => x ≤ 0) (zc (.int 0) <| zj X 95 []) <| zj X 90 []) <| zj X 90 []
def aX13_readRights_90 (mc ms : Nat) (X : Nat → zV) (Q : zQt) : zT :=
  zc (.int 1) <| zj X 95 []
def aX13_readRights_95 (mc ms : Nat) (X : Nat → zV) (Q : zQt) : zT :=
  zrz .boolean Q
def lvX13_readRights : Nat → List Nat := fun L => match L with
  | 0 => [0]
  | 11 => [0, 1, 2, 3]
  | 53 => [0, 2, 3]
  | 66 => [0, 2, 3]
  | 74 => [0, 1, 2]
  | 90 => []
  | 95 => []
  | _ => []
def wX13_readRights : zSp := fun mc ms av M Q => ((zlay av).length ≤ 4 ∧ zpick (zlay av) [0] = some av) ∧ ∀ X : Nat → zV, zin 4 [0] (aX13_readRights_0 mc ms X Q) X 0 → zin 4 [0, 1, 2, 3] (aX13_readRights_11 mc ms X Q) X 11 → zin 4 [0, 2, 3] (aX13_readRights_53 mc ms X Q) X 53 → zin 4 [0, 2, 3] (aX13_readRights_66 mc ms X Q) X 66 → zin 4 [0, 1, 2] (aX13_readRights_74 mc ms X Q) X 74 → zin 4 [] (aX13_readRights_90 mc ms X Q) X 90 → zin 4 [] (aX13_readRights_95 mc ms X Q) X 95 → X 0 0 0 av [] M
set_option maxRecDepth 100000 in
set_option maxHeartbeats 4000000 in
theorem sX13_readRights (l : Launch) (G : zG) : zSnd l G yX13_readRights cX13_readRights 4 (some .boolean) 2 41 wX13_readRights := by
  refine zmk [0] (by decide) (fun mc ms av M Q h => h.1) ?_
  intro p e R s m args below meth c mc ms av M Q hC hRf hRl hr hnm h lv hlv
  obtain ⟨X, hXe⟩ : ∃ X : Nat → zV, X = fun L u v vs st M => ∀ lv, zpick lv (lvX13_readRights L) = some vs → zAt p l e R s m args below meth c (MQ below (zQ G Q) args s mc ms (zA G)) G 4 L u v lv st M := ⟨_, rfl⟩
  have hJ : ∀ L, zOk p l e R s m args below meth c (MQ below (zQ G Q) args s mc ms (zA G)) G 4 L (zj X L (lvX13_readRights L)) := fun L => S_jump (fun u v lv vs st M hp hx => by rw [hXe] at hx; exact hx lv hp)
  have hB0 : zin 4 [0] (aX13_readRights_0 mc ms X Q) X 0 := by
    intro u v vs st M hb
    rw [hXe]
    refine fun lv hp => S_block (L := 0) (live := [0]) ?_ u v lv vs st M hp hb
    unfold aX13_readRights_0
    refine S_iconst (pc := 0) hC dX13_readRights_0 (by decide) ?_
    refine S_istore_n (pc := 1) hC dX13_readRights_1 rfl (by decide) ?_
    refine S_aload_n (pc := 2) hC dX13_readRights_2 rfl ?_
    refine S_bipush (pc := 3) hC dX13_readRights_3 (by decide) ?_
    refine S_callV (pc := 5) hC (sX13_eat l G) rfl wd_1379 wd_1381 ws_59 wd_12 wd_1382 (by decide +kernel) ⟨by rw [hRf]; decide, by rw [hRl]; decide⟩ dX13_readRights_5 ?_
    unfold kX13_readRights_8
    refine S_istore_n (pc := 8) hC dX13_readRights_8 rfl (by decide) ?_
    refine S_iconst (pc := 9) hC dX13_readRights_9 (by decide) ?_
    refine S_istore_n (pc := 10) hC dX13_readRights_10 rfl (by decide) ?_
    exact hJ 11
  have hB11 : zin 4 [0, 1, 2, 3] (aX13_readRights_11 mc ms X Q) X 11 := by
    intro u v vs st M hb
    rw [hXe]
    refine fun lv hp => S_block (L := 11) (live := [0, 1, 2, 3]) ?_ u v lv vs st M hp hb
    unfold aX13_readRights_11
    refine S_iload_n (pc := 11) hC dX13_readRights_11 rfl ?_
    refine S_iconst (pc := 12) hC dX13_readRights_12 (by decide) ?_
    refine S_icmp_ge (pc := 13) (tgt := 74) hC dX13_readRights_13 (by decide) ?_ ?_
    · exact hJ 74
    · refine S_iload_n (pc := 16) hC dX13_readRights_16 rfl ?_
      refine S_if_ne (pc := 17) (tgt := 74) hC dX13_readRights_17 (by decide) ?_ ?_
      · exact hJ 74
      · refine S_iload_n (pc := 20) hC dX13_readRights_20 rfl ?_
        refine S_aload_n (pc := 21) hC dX13_readRights_21 rfl ?_
        refine S_iload_n (pc := 22) hC dX13_readRights_22 rfl ?_
        refine S_if_ne (pc := 23) (tgt := 31) hC dX13_readRights_23 (by decide) ?_ ?_
        · refine S_iload_n (pc := 31) hC dX13_readRights_31 rfl ?_
          refine S_iconst (pc := 32) hC dX13_readRights_32 (by decide) ?_
          refine S_icmp_ne (pc := 33) (tgt := 41) hC dX13_readRights_33 (by decide) ?_ ?_
          · refine S_iload_n (pc := 41) hC dX13_readRights_41 rfl ?_
            refine S_iconst (pc := 42) hC dX13_readRights_42 (by decide) ?_
            refine S_icmp_ne (pc := 43) (tgt := 51) hC dX13_readRights_43 (by decide) ?_ ?_
            · refine S_bipush (pc := 51) hC dX13_readRights_51 (by decide) ?_
              exact hJ 53
            · refine S_bipush (pc := 46) hC dX13_readRights_46 (by decide) ?_
              refine S_goto (pc := 48) (tgt := 53) hC dX13_readRights_48 (by decide) ?_
              exact hJ 53
          · refine S_bipush (pc := 36) hC dX13_readRights_36 (by decide) ?_
            refine S_goto (pc := 38) (tgt := 53) hC dX13_readRights_38 (by decide) ?_
            exact hJ 53
        · refine S_bipush (pc := 26) hC dX13_readRights_26 (by decide) ?_
          refine S_goto (pc := 28) (tgt := 53) hC dX13_readRights_28 (by decide) ?_
          exact hJ 53
  have hB53 : zin 4 [0, 2, 3] (aX13_readRights_53 mc ms X Q) X 53 := by
    intro u v vs st M hb
    rw [hXe]
    refine fun lv hp => S_block (L := 53) (live := [0, 2, 3]) ?_ u v lv vs st M hp hb
    unfold aX13_readRights_53
    refine S_callV (pc := 53) hC (sX13_eat l G) rfl wd_1379 wd_1381 ws_59 wd_12 wd_1382 (by decide +kernel) ⟨by rw [hRf]; decide, by rw [hRl]; decide⟩ dX13_readRights_53 ?_
    unfold kX13_readRights_56
    refine S_if_eq (pc := 56) (tgt := 65) hC dX13_readRights_56 (by decide) ?_ ?_
    · refine S_iconst (pc := 65) hC dX13_readRights_65 (by decide) ?_
      exact hJ 66
    · refine S_iconst (pc := 59) hC dX13_readRights_59 (by decide) ?_
      refine S_iload_n (pc := 60) hC dX13_readRights_60 rfl ?_
      refine S_ishl (pc := 61) hC dX13_readRights_61 ?_
      refine S_goto (pc := 62) (tgt := 66) hC dX13_readRights_62 (by decide) ?_
      exact hJ 66
  have hB66 : zin 4 [0, 2, 3] (aX13_readRights_66 mc ms X Q) X 66 := by
    intro u v vs st M hb
    rw [hXe]
    refine fun lv hp => S_block (L := 66) (live := [0, 2, 3]) ?_ u v lv vs st M hp hb
    unfold aX13_readRights_66
    refine S_iadd (pc := 66) hC dX13_readRights_66 ?_
    refine S_istore_n (pc := 67) hC dX13_readRights_67 rfl (by decide) ?_
    refine S_iinc (pc := 68) hC dX13_readRights_68 (by decide) (by decide) ?_
    refine S_goto (pc := 71) (tgt := 11) hC dX13_readRights_71 (by decide) ?_
    exact hJ 11
  have hB74 : zin 4 [0, 1, 2] (aX13_readRights_74 mc ms X Q) X 74 := by
    intro u v vs st M hb
    rw [hXe]
    refine fun lv hp => S_block (L := 74) (live := [0, 1, 2]) ?_ u v lv vs st M hp hb
    unfold aX13_readRights_74
    refine S_aload_n (pc := 74) hC dX13_readRights_74 rfl ?_
    refine S_getR (pc := 75) hC cfX13 (by decide) (Or.inr ⟨_, rfl⟩) wd_1271 dX13_readRights_75 ?_
    refine S_bipush (pc := 78) hC dX13_readRights_78 (by decide) ?_
    refine S_iload_n (pc := 80) hC dX13_readRights_80 rfl ?_
    refine S_iastore (pc := 81) hC dX13_readRights_81 ?_
    refine S_iload_n (pc := 82) hC dX13_readRights_82 rfl ?_
    refine S_if_ne (pc := 83) (tgt := 90) hC dX13_readRights_83 (by decide) ?_ ?_
    · exact hJ 90
    · refine S_iload_n (pc := 86) hC dX13_readRights_86 rfl ?_
      refine S_if_le (pc := 87) (tgt := 94) hC dX13_readRights_87 (by decide) ?_ ?_
      · refine S_iconst (pc := 94) hC dX13_readRights_94 (by decide) ?_
        exact hJ 95
      · exact hJ 90
  have hB90 : zin 4 [] (aX13_readRights_90 mc ms X Q) X 90 := by
    intro u v vs st M hb
    rw [hXe]
    refine fun lv hp => S_block (L := 90) (live := []) ?_ u v lv vs st M hp hb
    unfold aX13_readRights_90
    refine S_iconst (pc := 90) hC dX13_readRights_90 (by decide) ?_
    refine S_goto (pc := 91) (tgt := 95) hC dX13_readRights_91 (by decide) ?_
    exact hJ 95
  have hB95 : zin 4 [] (aX13_readRights_95 mc ms X Q) X 95 := by
    intro u v vs st M hb
    rw [hXe]
    refine fun lv hp => S_block (L := 95) (live := []) ?_ u v lv vs st M hp hb
    unfold aX13_readRights_95
    exact S_zreturn (pc := 95) hC hr dX13_readRights_95
  have := h.2 X hB0 hB11 hB53 hB66 hB74 hB90 hB95
  rw [hXe] at this
  exact this lv hlv
theorem vX13_readRights_0 {mc ms : Nat} {X : Nat → zV} {Q : zQt} {M : zM}  (hW : zFix M)  (h : wX13_eat 0 0 [.ref 55, .int 45] M (fun r M1 => kX13_readRights_8 mc ms X Q 0 0 [some (.ref 55), some (.int 0), none, none] (r.toList ++ []) M1)) : aX13_readRights_0 mc ms X Q 0 0 [some (.ref 55), none, none, none] [] M := ⟨Nat.le_of_ble_eq_true rfl, rfl, (fxs_55 hW), 0, 0, Nat.zero_le _, Nat.zero_le _, h⟩
theorem vX13_readRights_11 {mc ms : Nat} {X : Nat → zV} {Q : zQt} {M : zM} {x1 : Int32} {x2 : Int32} {x3 : Int32} (hW : zFix M)  (h : ((4 : Int32) ≤ x3 → X 74 0 0 [.ref 55, .int x1, .int x2] [] M) ∧ (¬ (4 : Int32) ≤ x3 → (x2 = 0 → (x3 = 0 → X 53 0 0 [.ref 55, .int x2, .int x3] [.int 75, .ref 55, .int x1] M) ∧ (¬ x3 = 0 → (x3 = (1 : Int32) → X 53 0 0 [.ref 55, .int x2, .int x3] [.int 81, .ref 55, .int x1] M) ∧ (¬ x3 = (1 : Int32) → (x3 = (2 : Int32) → X 53 0 0 [.ref 55, .int x2, .int x3] [.int 107, .ref 55, .int x1] M) ∧ (¬ x3 = (2 : Int32) → X 53 0 0 [.ref 55, .int x2, .int x3] [.int 113, .ref 55, .int x1] M)))) ∧ (¬ x2 = 0 → X 74 0 0 [.ref 55, .int x1, .int x2] [] M))) : aX13_readRights_11 mc ms X Q 0 0 [some (.ref 55), some (.int x1), some (.int x2), some (.int x3)] [] M := ⟨fun c13 => (h.1 c13), fun c13 => ⟨fun c17 => ⟨fun c23 => (((h.2 c13).1 c17).1 c23), fun c23 => ⟨fun c33 => ((((h.2 c13).1 c17).2 c23).1 c33), fun c33 => ⟨fun c43 => (((((h.2 c13).1 c17).2 c23).2 c33).1 c43), fun c43 => (((((h.2 c13).1 c17).2 c23).2 c33).2 c43)⟩⟩⟩, fun c17 => ((h.2 c13).2 c17)⟩⟩
theorem vX13_readRights_53 {mc ms : Nat} {X : Nat → zV} {Q : zQt} {M : zM} {x2 : Int32} {x3 : Int32} {s0 : Int32} {s2 : Int32} (hW : zFix M)  (h : wX13_eat 0 0 [.ref 55, .int s0] M (fun r M1 => kX13_readRights_56 mc ms X Q 0 0 [some (.ref 55), none, some (.int x2), some (.int x3)] (r.toList ++ [.int s2]) M1)) : aX13_readRights_53 mc ms X Q 0 0 [some (.ref 55), none, some (.int x2), some (.int x3)] [.int s0, .ref 55, .int s2] M := ⟨Nat.le_of_ble_eq_true rfl, rfl, (fxs_55 hW), 0, 0, Nat.zero_le _, Nat.zero_le _, h⟩
theorem vX13_readRights_66 {mc ms : Nat} {X : Nat → zV} {Q : zQt} {M : zM} {x2 : Int32} {x3 : Int32} {s0 : Int32} {s1 : Int32} (hW : zFix M)  (h : X 11 0 0 [.ref 55, .int (s1 + s0), .int x2, .int (x3 + 1)] [] M) : aX13_readRights_66 mc ms X Q 0 0 [some (.ref 55), none, some (.int x2), some (.int x3)] [.int s0, .int s1] M := h
theorem vX13_readRights_74 {mc ms : Nat} {X : Nat → zV} {Q : zQt} {M : zM} {x1 : Int32} {x2 : Int32} (hW : zFix M)  (h : ∀ M81 : zM, M81 = (zsI M 65 (65 : Int32).toNatClampNeg x1) → (x2 = 0 → (x1 ≤ 0 → X 95 0 0 [] [.int 0] M81) ∧ (¬ x1 ≤ 0 → X 90 0 0 [] [] M81)) ∧ (¬ x2 = 0 → X 90 0 0 [] [] M81)) : aX13_readRights_74 mc ms X Q 0 0 [some (.ref 55), some (.int x1), some (.int x2), none] [] M := ⟨(fxs_55 hW), 65, (fxr_55_16 hW), ⟨414, (fxs_65 hW), by unfold vp_in; decide, (have h81 := h _ rfl; ⟨fun c83 => ⟨fun c87 => ((h81.1 c83).1 c87), fun c87 => ((h81.1 c83).2 c87)⟩, fun c83 => (h81.2 c83)⟩)⟩⟩
theorem vX13_readRights_90 {mc ms : Nat} {X : Nat → zV} {Q : zQt} {M : zM}  (hW : zFix M)  (h : X 95 0 0 [] [.int 1] M) : aX13_readRights_90 mc ms X Q 0 0 [none, none, none, none] [] M := h
theorem vX13_readRights_95 {mc ms : Nat} {X : Nat → zV} {Q : zQt} {M : zM} {s0 : Int32} (hW : zFix M)  (h : narrow .boolean (.int s0) = .int s0 ∧ Q (some (.int s0)) M) : aX13_readRights_95 mc ms X Q 0 0 [none, none, none, none] [.int s0] M := h
theorem vkX13_readRights_8 {mc ms : Nat} {X : Nat → zV} {Q : zQt} {M : zM} {x1 : Int32} {s0 : Int32} (hW : zFix M)  (h : X 11 0 0 [.ref 55, .int x1, .int s0, .int 0] [] M) : kX13_readRights_8 mc ms X Q 0 0 [some (.ref 55), some (.int x1), none, none] [.int s0] M := h
theorem vkX13_readRights_56 {mc ms : Nat} {X : Nat → zV} {Q : zQt} {M : zM} {x2 : Int32} {x3 : Int32} {s0 : Int32} {s1 : Int32} (hW : zFix M)  (h : (s0 = 0 → X 66 0 0 [.ref 55, .int x2, .int x3] [.int 0, .int s1] M) ∧ (¬ s0 = 0 → X 66 0 0 [.ref 55, .int x2, .int x3] [.int ((1 : Int32) <<< (x3 &&& 31)), .int s1] M)) : kX13_readRights_56 mc ms X Q 0 0 [some (.ref 55), none, some (.int x2), some (.int x3)] [.int s0, .int s1] M := ⟨fun c56 => (h.1 c56), fun c56 => (h.2 c56)⟩
theorem dX13_readPassant_0 : decode cX13_readPassant 0 = .ok (.aload_n 0, 1) := by decide +kernel
theorem dX13_readPassant_1 : decode cX13_readPassant 1 = .ok (.getfield 43, 3) := by decide +kernel
theorem dX13_readPassant_4 : decode cX13_readPassant 4 = .ok (.bipush 66, 2) := by decide +kernel
theorem dX13_readPassant_6 : decode cX13_readPassant 6 = .ok (.iconst (-1), 1) := by decide +kernel
theorem dX13_readPassant_7 : decode cX13_readPassant 7 = .ok (.iastore, 1) := by decide +kernel
theorem dX13_readPassant_8 : decode cX13_readPassant 8 = .ok (.aload_n 0, 1) := by decide +kernel
theorem dX13_readPassant_9 : decode cX13_readPassant 9 = .ok (.bipush 45, 2) := by decide +kernel
theorem dX13_readPassant_11 : decode cX13_readPassant 11 = .ok (.invokevirtual 197, 3) := by decide +kernel
theorem dX13_readPassant_14 : decode cX13_readPassant 14 = .ok (.ifCond .eq 5, 3) := by decide +kernel
theorem dX13_readPassant_17 : decode cX13_readPassant 17 = .ok (.iconst 1, 1) := by decide +kernel
theorem dX13_readPassant_18 : decode cX13_readPassant 18 = .ok (.ireturn, 1) := by decide +kernel
theorem dX13_readPassant_19 : decode cX13_readPassant 19 = .ok (.aload_n 0, 1) := by decide +kernel
theorem dX13_readPassant_20 : decode cX13_readPassant 20 = .ok (.invokevirtual 165, 3) := by decide +kernel
theorem dX13_readPassant_23 : decode cX13_readPassant 23 = .ok (.bipush 97, 2) := by decide +kernel
theorem dX13_readPassant_25 : decode cX13_readPassant 25 = .ok (.isub, 1) := by decide +kernel
theorem dX13_readPassant_26 : decode cX13_readPassant 26 = .ok (.istore_n 1, 1) := by decide +kernel
theorem dX13_readPassant_27 : decode cX13_readPassant 27 = .ok (.aload_n 0, 1) := by decide +kernel
theorem dX13_readPassant_28 : decode cX13_readPassant 28 = .ok (.dup, 1) := by decide +kernel
theorem dX13_readPassant_29 : decode cX13_readPassant 29 = .ok (.getfield 159, 3) := by decide +kernel
theorem dX13_readPassant_32 : decode cX13_readPassant 32 = .ok (.iconst 1, 1) := by decide +kernel
theorem dX13_readPassant_33 : decode cX13_readPassant 33 = .ok (.iadd, 1) := by decide +kernel
theorem dX13_readPassant_34 : decode cX13_readPassant 34 = .ok (.putfield 159, 3) := by decide +kernel
theorem dX13_readPassant_37 : decode cX13_readPassant 37 = .ok (.aload_n 0, 1) := by decide +kernel
theorem dX13_readPassant_38 : decode cX13_readPassant 38 = .ok (.getfield 43, 3) := by decide +kernel
theorem dX13_readPassant_41 : decode cX13_readPassant 41 = .ok (.bipush 66, 2) := by decide +kernel
theorem dX13_readPassant_43 : decode cX13_readPassant 43 = .ok (.iload_n 1, 1) := by decide +kernel
theorem dX13_readPassant_44 : decode cX13_readPassant 44 = .ok (.iastore, 1) := by decide +kernel
theorem dX13_readPassant_45 : decode cX13_readPassant 45 = .ok (.iload_n 1, 1) := by decide +kernel
theorem dX13_readPassant_46 : decode cX13_readPassant 46 = .ok (.ifCond .lt 37, 3) := by decide +kernel
theorem dX13_readPassant_49 : decode cX13_readPassant 49 = .ok (.iload_n 1, 1) := by decide +kernel
theorem dX13_readPassant_50 : decode cX13_readPassant 50 = .ok (.bipush 8, 2) := by decide +kernel
theorem dX13_readPassant_52 : decode cX13_readPassant 52 = .ok (.if_icmp .ge 31, 3) := by decide +kernel
theorem dX13_readPassant_55 : decode cX13_readPassant 55 = .ok (.aload_n 0, 1) := by decide +kernel
theorem dX13_readPassant_56 : decode cX13_readPassant 56 = .ok (.aload_n 0, 1) := by decide +kernel
theorem dX13_readPassant_57 : decode cX13_readPassant 57 = .ok (.getfield 43, 3) := by decide +kernel
theorem dX13_readPassant_60 : decode cX13_readPassant 60 = .ok (.bipush 64, 2) := by decide +kernel
theorem dX13_readPassant_62 : decode cX13_readPassant 62 = .ok (.iaload, 1) := by decide +kernel
theorem dX13_readPassant_63 : decode cX13_readPassant 63 = .ok (.ifCond .ne 8, 3) := by decide +kernel
theorem dX13_readPassant_66 : decode cX13_readPassant 66 = .ok (.bipush 54, 2) := by decide +kernel
theorem dX13_readPassant_68 : decode cX13_readPassant 68 = .ok (.goto 5, 3) := by decide +kernel
theorem dX13_readPassant_71 : decode cX13_readPassant 71 = .ok (.bipush 51, 2) := by decide +kernel
theorem dX13_readPassant_73 : decode cX13_readPassant 73 = .ok (.invokevirtual 197, 3) := by decide +kernel
theorem dX13_readPassant_76 : decode cX13_readPassant 76 = .ok (.ifCond .eq 7, 3) := by decide +kernel
theorem dX13_readPassant_79 : decode cX13_readPassant 79 = .ok (.iconst 1, 1) := by decide +kernel
theorem dX13_readPassant_80 : decode cX13_readPassant 80 = .ok (.goto 4, 3) := by decide +kernel
theorem dX13_readPassant_83 : decode cX13_readPassant 83 = .ok (.iconst 0, 1) := by decide +kernel
theorem dX13_readPassant_84 : decode cX13_readPassant 84 = .ok (.ireturn, 1) := by decide +kernel
def kX13_readPassant_23 (mc ms : Nat) (X : Nat → zV) (Q : zQt) : zT :=
  zc (.int 97) <| zii (fun x y => x - y) <| zsi 1 <| zla 0 <| zdup <| zgi 13 21 <| zc (.int 1) <| zii (fun x y => x + y) <| zpi 13 21 <| zla 0 <| zgR 13 16 <| zc (.int 66) <| zli 1 <| zas 1 (fun x => x) <| zli 1 <| zif (fun x => x < 0) (zj X 83 []) <| zli 1 <| zc (.int 8) <| zic (fun x y => y ≤ x) (zj X 83 []) <| zla 0 <| zla 0 <| zgR 13 16 <| zc (.int 64) <| zal 1 <| zif (fun x => x = 0) (zc (.int 54) <| zj X 73 []) <| zc (.int 51) <| zj X 73 []
def kX13_readPassant_14 (mc ms : Nat) (X : Nat → zV) (Q : zQt) : zT :=
  zif (fun x => x = 0) (zla 0 <| zcv mc ms 13 0 wX13_peek <| kX13_readPassant_23 mc ms X Q) <| zc (.int 1) <| zrz .boolean Q
def kX13_readPassant_76 (mc ms : Nat) (X : Nat → zV) (Q : zQt) : zT :=
  zif (fun x => x = 0) (zj X 83 []) <| zc (.int 1) <| zj X 84 []
def aX13_readPassant_0 (mc ms : Nat) (X : Nat → zV) (Q : zQt) : zT :=
  zla 0 <| zgR 13 16 <| zc (.int 66) <| zc (.int (-1)) <| zas 1 (fun x => x) <| zla 0 <| zc (.int 45) <| zcv mc ms 13 1 wX13_eat <| kX13_readPassant_14 mc ms X Q
def aX13_readPassant_73 (mc ms : Nat) (X : Nat → zV) (Q : zQt) : zT :=
  zcv mc ms 13 1 wX13_eat <| kX13_readPassant_76 mc ms X Q
def aX13_readPassant_83 (mc ms : Nat) (X : Nat → zV) (Q : zQt) : zT :=
  zc (.int 0) <| zj X 84 []
def aX13_readPassant_84 (mc ms : Nat) (X : Nat → zV) (Q : zQt) : zT :=
  zrz .boolean Q
def lvX13_readPassant : Nat → List Nat := fun L => match L with
  | 0 => [0]
  | 73 => []
  | 83 => []
  | 84 => []
  | _ => []
def wX13_readPassant : zSp := fun mc ms av M Q => ((zlay av).length ≤ 2 ∧ zpick (zlay av) [0] = some av) ∧ ∀ X : Nat → zV, zin 2 [0] (aX13_readPassant_0 mc ms X Q) X 0 → zin 2 [] (aX13_readPassant_73 mc ms X Q) X 73 → zin 2 [] (aX13_readPassant_83 mc ms X Q) X 83 → zin 2 [] (aX13_readPassant_84 mc ms X Q) X 84 → X 0 0 0 av [] M
set_option maxRecDepth 100000 in
set_option maxHeartbeats 4000000 in
theorem sX13_readPassant (l : Launch) (G : zG) : zSnd l G yX13_readPassant cX13_readPassant 2 (some .boolean) 2 41 wX13_readPassant := by
  refine zmk [0] (by decide) (fun mc ms av M Q h => h.1) ?_
  intro p e R s m args below meth c mc ms av M Q hC hRf hRl hr hnm h lv hlv
  obtain ⟨X, hXe⟩ : ∃ X : Nat → zV, X = fun L u v vs st M => ∀ lv, zpick lv (lvX13_readPassant L) = some vs → zAt p l e R s m args below meth c (MQ below (zQ G Q) args s mc ms (zA G)) G 2 L u v lv st M := ⟨_, rfl⟩
  have hJ : ∀ L, zOk p l e R s m args below meth c (MQ below (zQ G Q) args s mc ms (zA G)) G 2 L (zj X L (lvX13_readPassant L)) := fun L => S_jump (fun u v lv vs st M hp hx => by rw [hXe] at hx; exact hx lv hp)
  have hB0 : zin 2 [0] (aX13_readPassant_0 mc ms X Q) X 0 := by
    intro u v vs st M hb
    rw [hXe]
    refine fun lv hp => S_block (L := 0) (live := [0]) ?_ u v lv vs st M hp hb
    unfold aX13_readPassant_0
    refine S_aload_n (pc := 0) hC dX13_readPassant_0 rfl ?_
    refine S_getR (pc := 1) hC cfX13 (by decide) (Or.inr ⟨_, rfl⟩) wd_1271 dX13_readPassant_1 ?_
    refine S_bipush (pc := 4) hC dX13_readPassant_4 (by decide) ?_
    refine S_iconst (pc := 6) hC dX13_readPassant_6 (by decide) ?_
    refine S_iastore (pc := 7) hC dX13_readPassant_7 ?_
    refine S_aload_n (pc := 8) hC dX13_readPassant_8 rfl ?_
    refine S_bipush (pc := 9) hC dX13_readPassant_9 (by decide) ?_
    refine S_callV (pc := 11) hC (sX13_eat l G) rfl wd_1379 wd_1381 ws_59 wd_12 wd_1382 (by decide +kernel) ⟨by rw [hRf]; decide, by rw [hRl]; decide⟩ dX13_readPassant_11 ?_
    unfold kX13_readPassant_14
    refine S_if_eq (pc := 14) (tgt := 19) hC dX13_readPassant_14 (by decide) ?_ ?_
    · refine S_aload_n (pc := 19) hC dX13_readPassant_19 rfl ?_
      refine S_callV (pc := 20) hC (sX13_peek l G) rfl wd_1366 wd_1368 ws_58 wd_12 wd_1369 (by decide +kernel) ⟨by rw [hRf]; decide, by rw [hRl]; decide⟩ dX13_readPassant_20 ?_
      unfold kX13_readPassant_23
      refine S_bipush (pc := 23) hC dX13_readPassant_23 (by decide) ?_
      refine S_isub (pc := 25) hC dX13_readPassant_25 ?_
      refine S_istore_n (pc := 26) hC dX13_readPassant_26 rfl (by decide) ?_
      refine S_aload_n (pc := 27) hC dX13_readPassant_27 rfl ?_
      refine S_dup (pc := 28) hC dX13_readPassant_28 ?_
      refine S_geti (pc := 29) hC cfX13 (by decide) (Or.inl rfl) wd_1276 dX13_readPassant_29 ?_
      refine S_iconst (pc := 32) hC dX13_readPassant_32 (by decide) ?_
      refine S_iadd (pc := 33) hC dX13_readPassant_33 ?_
      refine S_puti (pc := 34) hC cfX13 (by decide) rfl (Or.inl rfl) wd_1276 dX13_readPassant_34 ?_
      refine S_aload_n (pc := 37) hC dX13_readPassant_37 rfl ?_
      refine S_getR (pc := 38) hC cfX13 (by decide) (Or.inr ⟨_, rfl⟩) wd_1271 dX13_readPassant_38 ?_
      refine S_bipush (pc := 41) hC dX13_readPassant_41 (by decide) ?_
      refine S_iload_n (pc := 43) hC dX13_readPassant_43 rfl ?_
      refine S_iastore (pc := 44) hC dX13_readPassant_44 ?_
      refine S_iload_n (pc := 45) hC dX13_readPassant_45 rfl ?_
      refine S_if_lt (pc := 46) (tgt := 83) hC dX13_readPassant_46 (by decide) ?_ ?_
      · exact hJ 83
      · refine S_iload_n (pc := 49) hC dX13_readPassant_49 rfl ?_
        refine S_bipush (pc := 50) hC dX13_readPassant_50 (by decide) ?_
        refine S_icmp_ge (pc := 52) (tgt := 83) hC dX13_readPassant_52 (by decide) ?_ ?_
        · exact hJ 83
        · refine S_aload_n (pc := 55) hC dX13_readPassant_55 rfl ?_
          refine S_aload_n (pc := 56) hC dX13_readPassant_56 rfl ?_
          refine S_getR (pc := 57) hC cfX13 (by decide) (Or.inr ⟨_, rfl⟩) wd_1271 dX13_readPassant_57 ?_
          refine S_bipush (pc := 60) hC dX13_readPassant_60 (by decide) ?_
          refine S_iaload (pc := 62) hC dX13_readPassant_62 ?_
          refine S_if_ne (pc := 63) (tgt := 71) hC dX13_readPassant_63 (by decide) ?_ ?_
          · refine S_bipush (pc := 71) hC dX13_readPassant_71 (by decide) ?_
            exact hJ 73
          · refine S_bipush (pc := 66) hC dX13_readPassant_66 (by decide) ?_
            refine S_goto (pc := 68) (tgt := 73) hC dX13_readPassant_68 (by decide) ?_
            exact hJ 73
    · refine S_iconst (pc := 17) hC dX13_readPassant_17 (by decide) ?_
      exact S_zreturn (pc := 18) hC hr dX13_readPassant_18
  have hB73 : zin 2 [] (aX13_readPassant_73 mc ms X Q) X 73 := by
    intro u v vs st M hb
    rw [hXe]
    refine fun lv hp => S_block (L := 73) (live := []) ?_ u v lv vs st M hp hb
    unfold aX13_readPassant_73
    refine S_callV (pc := 73) hC (sX13_eat l G) rfl wd_1379 wd_1381 ws_59 wd_12 wd_1382 (by decide +kernel) ⟨by rw [hRf]; decide, by rw [hRl]; decide⟩ dX13_readPassant_73 ?_
    unfold kX13_readPassant_76
    refine S_if_eq (pc := 76) (tgt := 83) hC dX13_readPassant_76 (by decide) ?_ ?_
    · exact hJ 83
    · refine S_iconst (pc := 79) hC dX13_readPassant_79 (by decide) ?_
      refine S_goto (pc := 80) (tgt := 84) hC dX13_readPassant_80 (by decide) ?_
      exact hJ 84
  have hB83 : zin 2 [] (aX13_readPassant_83 mc ms X Q) X 83 := by
    intro u v vs st M hb
    rw [hXe]
    refine fun lv hp => S_block (L := 83) (live := []) ?_ u v lv vs st M hp hb
    unfold aX13_readPassant_83
    refine S_iconst (pc := 83) hC dX13_readPassant_83 (by decide) ?_
    exact hJ 84
  have hB84 : zin 2 [] (aX13_readPassant_84 mc ms X Q) X 84 := by
    intro u v vs st M hb
    rw [hXe]
    refine fun lv hp => S_block (L := 84) (live := []) ?_ u v lv vs st M hp hb
    unfold aX13_readPassant_84
    exact S_zreturn (pc := 84) hC hr dX13_readPassant_84
  have := h.2 X hB0 hB73 hB83 hB84
  rw [hXe] at this
  exact this lv hlv
theorem vX13_readPassant_0 {mc ms : Nat} {X : Nat → zV} {Q : zQt} {M : zM}  (hW : zFix M)  (h : ∀ M7 : zM, M7 = (zsI M 65 (66 : Int32).toNatClampNeg ((-1))) → wX13_eat 0 0 [.ref 55, .int 45] M7 (fun r M1 => kX13_readPassant_14 mc ms X Q 0 0 [some (.ref 55), none] (r.toList ++ []) M1)) : aX13_readPassant_0 mc ms X Q 0 0 [some (.ref 55), none] [] M := ⟨(fxs_55 hW), 65, (fxr_55_16 hW), ⟨414, (fxs_65 hW), by unfold vp_in; decide, (have h7 := h _ rfl; ⟨Nat.le_of_ble_eq_true rfl, rfl, (fxs_55 hW), 0, 0, Nat.zero_le _, Nat.zero_le _, h7⟩)⟩⟩
theorem vX13_readPassant_73 {mc ms : Nat} {X : Nat → zV} {Q : zQt} {M : zM} {s0 : Int32} (hW : zFix M)  (h : wX13_eat 0 0 [.ref 55, .int s0] M (fun r M1 => kX13_readPassant_76 mc ms X Q 0 0 [none, none] (r.toList ++ []) M1)) : aX13_readPassant_73 mc ms X Q 0 0 [none, none] [.int s0, .ref 55] M := ⟨Nat.le_of_ble_eq_true rfl, rfl, (fxs_55 hW), 0, 0, Nat.zero_le _, Nat.zero_le _, h⟩
theorem vX13_readPassant_83 {mc ms : Nat} {X : Nat → zV} {Q : zQt} {M : zM}  (hW : zFix M)  (h : X 84 0 0 [] [.int 0] M) : aX13_readPassant_83 mc ms X Q 0 0 [none, none] [] M := h
theorem vX13_readPassant_84 {mc ms : Nat} {X : Nat → zV} {Q : zQt} {M : zM} {s0 : Int32} (hW : zFix M)  (h : narrow .boolean (.int s0) = .int s0 ∧ Q (some (.int s0)) M) : aX13_readPassant_84 mc ms X Q 0 0 [none, none] [.int s0] M := h
theorem vkX13_readPassant_14 {mc ms : Nat} {X : Nat → zV} {Q : zQt} {M : zM} {s0 : Int32} (hW : zFix M)  (h : (s0 = 0 → wX13_peek 0 0 [.ref 55] M (fun r M1 => kX13_readPassant_23 mc ms X Q 0 0 [some (.ref 55), none] (r.toList ++ []) M1)) ∧ (¬ s0 = 0 → Q (some (.int 1)) M)) : kX13_readPassant_14 mc ms X Q 0 0 [some (.ref 55), none] [.int s0] M := ⟨fun c14 => ⟨Nat.le_of_ble_eq_true rfl, rfl, (fxs_55 hW), 0, 0, Nat.zero_le _, Nat.zero_le _, (h.1 c14)⟩, fun c14 => ⟨rfl, (h.2 c14)⟩⟩
theorem vkX13_readPassant_23 {mc ms : Nat} {X : Nat → zV} {Q : zQt} {M : zM} {s0 : Int32} (hW : zFix M)  (h : ∀ M34 : zM, M34 = (zsI M 55 21 (((M.1 55 21) + (1 : Int32)))) → ∀ M44 : zM, M44 = (zsI M34 65 (66 : Int32).toNatClampNeg ((s0 - (97 : Int32)))) → ((s0 - (97 : Int32)) < 0 → X 83 0 0 [] [] M44) ∧ (¬ (s0 - (97 : Int32)) < 0 → ((8 : Int32) ≤ (s0 - (97 : Int32)) → X 83 0 0 [] [] M44) ∧ (¬ (8 : Int32) ≤ (s0 - (97 : Int32)) → (((M44 : zM).1 65 (64 : Int32).toNatClampNeg) = 0 → X 73 0 0 [] [.int 54, .ref 55] M44) ∧ (¬ ((M44 : zM).1 65 (64 : Int32).toNatClampNeg) = 0 → X 73 0 0 [] [.int 51, .ref 55] M44)))) : kX13_readPassant_23 mc ms X Q 0 0 [some (.ref 55), none] [.int s0] M := ⟨(fxs_55 hW), ⟨(fxs_55 hW), (have h34 := h _ rfl; ⟨(fxs_55 hW), 65, (fxr_55_16 hW), ⟨414, (fxs_65 hW), by unfold vp_in; decide, (have h44 := h34 _ rfl; ⟨fun c46 => (h44.1 c46), fun c46 => ⟨fun c52 => ((h44.2 c46).1 c52), fun c52 => ⟨(fxs_55 hW), 65, (fxr_55_16 hW), ⟨414, (fxs_65 hW), by unfold vp_in; decide, ⟨fun c63 => (((h44.2 c46).2 c52).1 c63), fun c63 => (((h44.2 c46).2 c52).2 c63)⟩⟩⟩⟩⟩)⟩⟩)⟩⟩
theorem vkX13_readPassant_76 {mc ms : Nat} {X : Nat → zV} {Q : zQt} {M : zM} {s0 : Int32} (hW : zFix M)  (h : (s0 = 0 → X 83 0 0 [] [] M) ∧ (¬ s0 = 0 → X 84 0 0 [] [.int 1] M)) : kX13_readPassant_76 mc ms X Q 0 0 [none, none] [.int s0] M := ⟨fun c76 => (h.1 c76), fun c76 => (h.2 c76)⟩
theorem dX13_readNumber_0 : decode cX13_readNumber 0 = .ok (.aload_n 0, 1) := by decide +kernel
theorem dX13_readNumber_1 : decode cX13_readNumber 1 = .ok (.getfield 159, 3) := by decide +kernel
theorem dX13_readNumber_4 : decode cX13_readNumber 4 = .ok (.istore_n 2, 1) := by decide +kernel
theorem dX13_readNumber_5 : decode cX13_readNumber 5 = .ok (.iconst 0, 1) := by decide +kernel
theorem dX13_readNumber_6 : decode cX13_readNumber 6 = .ok (.istore_n 3, 1) := by decide +kernel
theorem dX13_readNumber_7 : decode cX13_readNumber 7 = .ok (.aload_n 0, 1) := by decide +kernel
theorem dX13_readNumber_8 : decode cX13_readNumber 8 = .ok (.invokevirtual 165, 3) := by decide +kernel
theorem dX13_readNumber_11 : decode cX13_readNumber 11 = .ok (.invokestatic 200, 3) := by decide +kernel
theorem dX13_readNumber_14 : decode cX13_readNumber 14 = .ok (.ifCond .eq 39, 3) := by decide +kernel
theorem dX13_readNumber_17 : decode cX13_readNumber 17 = .ok (.aload_n 0, 1) := by decide +kernel
theorem dX13_readNumber_18 : decode cX13_readNumber 18 = .ok (.getfield 159, 3) := by decide +kernel
theorem dX13_readNumber_21 : decode cX13_readNumber 21 = .ok (.iload_n 2, 1) := by decide +kernel
theorem dX13_readNumber_22 : decode cX13_readNumber 22 = .ok (.isub, 1) := by decide +kernel
theorem dX13_readNumber_23 : decode cX13_readNumber 23 = .ok (.iload_n 1, 1) := by decide +kernel
theorem dX13_readNumber_24 : decode cX13_readNumber 24 = .ok (.if_icmp .gt 29, 3) := by decide +kernel
theorem dX13_readNumber_27 : decode cX13_readNumber 27 = .ok (.bipush 10, 2) := by decide +kernel
theorem dX13_readNumber_29 : decode cX13_readNumber 29 = .ok (.iload_n 3, 1) := by decide +kernel
theorem dX13_readNumber_30 : decode cX13_readNumber 30 = .ok (.imul, 1) := by decide +kernel
theorem dX13_readNumber_31 : decode cX13_readNumber 31 = .ok (.aload_n 0, 1) := by decide +kernel
theorem dX13_readNumber_32 : decode cX13_readNumber 32 = .ok (.invokevirtual 165, 3) := by decide +kernel
theorem dX13_readNumber_35 : decode cX13_readNumber 35 = .ok (.iadd, 1) := by decide +kernel
theorem dX13_readNumber_36 : decode cX13_readNumber 36 = .ok (.bipush 48, 2) := by decide +kernel
theorem dX13_readNumber_38 : decode cX13_readNumber 38 = .ok (.isub, 1) := by decide +kernel
theorem dX13_readNumber_39 : decode cX13_readNumber 39 = .ok (.istore_n 3, 1) := by decide +kernel
theorem dX13_readNumber_40 : decode cX13_readNumber 40 = .ok (.aload_n 0, 1) := by decide +kernel
theorem dX13_readNumber_41 : decode cX13_readNumber 41 = .ok (.dup, 1) := by decide +kernel
theorem dX13_readNumber_42 : decode cX13_readNumber 42 = .ok (.getfield 159, 3) := by decide +kernel
theorem dX13_readNumber_45 : decode cX13_readNumber 45 = .ok (.iconst 1, 1) := by decide +kernel
theorem dX13_readNumber_46 : decode cX13_readNumber 46 = .ok (.iadd, 1) := by decide +kernel
theorem dX13_readNumber_47 : decode cX13_readNumber 47 = .ok (.putfield 159, 3) := by decide +kernel
theorem dX13_readNumber_50 : decode cX13_readNumber 50 = .ok (.goto (-43), 3) := by decide +kernel
theorem dX13_readNumber_53 : decode cX13_readNumber 53 = .ok (.aload_n 0, 1) := by decide +kernel
theorem dX13_readNumber_54 : decode cX13_readNumber 54 = .ok (.getfield 159, 3) := by decide +kernel
theorem dX13_readNumber_57 : decode cX13_readNumber 57 = .ok (.iload_n 2, 1) := by decide +kernel
theorem dX13_readNumber_58 : decode cX13_readNumber 58 = .ok (.isub, 1) := by decide +kernel
theorem dX13_readNumber_59 : decode cX13_readNumber 59 = .ok (.istore 4, 2) := by decide +kernel
theorem dX13_readNumber_61 : decode cX13_readNumber 61 = .ok (.iload 4, 2) := by decide +kernel
theorem dX13_readNumber_63 : decode cX13_readNumber 63 = .ok (.ifCond .eq 26, 3) := by decide +kernel
theorem dX13_readNumber_66 : decode cX13_readNumber 66 = .ok (.iload 4, 2) := by decide +kernel
theorem dX13_readNumber_68 : decode cX13_readNumber 68 = .ok (.iload_n 1, 1) := by decide +kernel
theorem dX13_readNumber_69 : decode cX13_readNumber 69 = .ok (.if_icmp .gt 20, 3) := by decide +kernel
theorem dX13_readNumber_72 : decode cX13_readNumber 72 = .ok (.iload 4, 2) := by decide +kernel
theorem dX13_readNumber_74 : decode cX13_readNumber 74 = .ok (.iconst 1, 1) := by decide +kernel
theorem dX13_readNumber_75 : decode cX13_readNumber 75 = .ok (.if_icmp .le 18, 3) := by decide +kernel
theorem dX13_readNumber_78 : decode cX13_readNumber 78 = .ok (.aload_n 0, 1) := by decide +kernel
theorem dX13_readNumber_79 : decode cX13_readNumber 79 = .ok (.getfield 7, 3) := by decide +kernel
theorem dX13_readNumber_82 : decode cX13_readNumber 82 = .ok (.iload_n 2, 1) := by decide +kernel
theorem dX13_readNumber_83 : decode cX13_readNumber 83 = .ok (.baload, 1) := by decide +kernel
theorem dX13_readNumber_84 : decode cX13_readNumber 84 = .ok (.bipush 48, 2) := by decide +kernel
theorem dX13_readNumber_86 : decode cX13_readNumber 86 = .ok (.if_icmp .ne 7, 3) := by decide +kernel
theorem dX13_readNumber_89 : decode cX13_readNumber 89 = .ok (.iconst (-1), 1) := by decide +kernel
theorem dX13_readNumber_90 : decode cX13_readNumber 90 = .ok (.goto 4, 3) := by decide +kernel
theorem dX13_readNumber_93 : decode cX13_readNumber 93 = .ok (.iload_n 3, 1) := by decide +kernel
theorem dX13_readNumber_94 : decode cX13_readNumber 94 = .ok (.ireturn, 1) := by decide +kernel
def kX13_readNumber_35 (mc ms : Nat) (X : Nat → zV) (Q : zQt) : zT :=
  zii (fun x y => x + y) <| zc (.int 48) <| zii (fun x y => x - y) <| zsi 3 <| zla 0 <| zdup <| zgi 13 21 <| zc (.int 1) <| zii (fun x y => x + y) <| zpi 13 21 <| zj X 7 [0, 1, 2, 3]
def kX13_readNumber_14 (mc ms : Nat) (X : Nat → zV) (Q : zQt) : zT :=
  zif (fun x => x = 0) (zj X 53 [0, 1, 2, 3]) <| zla 0 <| zgi 13 21 <| zli 2 <| zii (fun x y => x - y) <| zli 1 <| zic (fun x y => y < x) (zj X 53 [0, 1, 2, 3]) <| zc (.int 10) <| zli 3 <| zii (fun x y => x * y) <| zla 0 <| zcv mc ms 13 0 wX13_peek <| kX13_readNumber_35 mc ms X Q
def kX13_readNumber_11 (mc ms : Nat) (X : Nat → zV) (Q : zQt) : zT :=
  zcs mc ms 1 wX13_isDigit <| kX13_readNumber_14 mc ms X Q
def aX13_readNumber_0 (mc ms : Nat) (X : Nat → zV) (Q : zQt) : zT :=
  zla 0 <| zgi 13 21 <| zsi 2 <| zc (.int 0) <| zsi 3 <| zj X 7 [0, 1, 2, 3]
def aX13_readNumber_7 (mc ms : Nat) (X : Nat → zV) (Q : zQt) : zT :=
  zla 0 <| zcv mc ms 13 0 wX13_peek <| kX13_readNumber_11 mc ms X Q
def aX13_readNumber_53 (mc ms : Nat) (X : Nat → zV) (Q : zQt) : zT :=
  zla 0 <| zgi 13 21 <| zli 2 <| zii (fun x y => x - y) <| zsi 4 <| zli 4 <| zif (fun x => x = 0) (zj X 89 []) <| zli 4 <| zli 1 <| zic (fun x y => y < x) (zj X 89 []) <| zli 4 <| zc (.int 1) <| zic (fun x y => x ≤ y) (zj X 93 [3]) <| zla 0 <| zgR 13 1 <| zli 2 <| zal 3 <| zc (.int 48) <| zic (fun x y => x = y) (zj X 89 []) <| zj X 93 [3]
def aX13_readNumber_89 (mc ms : Nat) (X : Nat → zV) (Q : zQt) : zT :=
  zc (.int (-1)) <| zj X 94 []
def aX13_readNumber_93 (mc ms : Nat) (X : Nat → zV) (Q : zQt) : zT :=
  zli 3 <| zj X 94 []
def aX13_readNumber_94 (mc ms : Nat) (X : Nat → zV) (Q : zQt) : zT :=
  zri Q
def lvX13_readNumber : Nat → List Nat := fun L => match L with
  | 0 => [0, 1]
  | 7 => [0, 1, 2, 3]
  | 53 => [0, 1, 2, 3]
  | 89 => []
  | 93 => [3]
  | 94 => []
  | _ => []
def wX13_readNumber : zSp := fun mc ms av M Q => ((zlay av).length ≤ 5 ∧ zpick (zlay av) [0, 1] = some av) ∧ ∀ X : Nat → zV, zin 5 [0, 1] (aX13_readNumber_0 mc ms X Q) X 0 → zin 5 [0, 1, 2, 3] (aX13_readNumber_7 mc ms X Q) X 7 → zin 5 [0, 1, 2, 3] (aX13_readNumber_53 mc ms X Q) X 53 → zin 5 [] (aX13_readNumber_89 mc ms X Q) X 89 → zin 5 [3] (aX13_readNumber_93 mc ms X Q) X 93 → zin 5 [] (aX13_readNumber_94 mc ms X Q) X 94 → X 0 0 0 av [] M
set_option maxRecDepth 100000 in
set_option maxHeartbeats 4000000 in
theorem sX13_readNumber (l : Launch) (G : zG) : zSnd l G yX13_readNumber cX13_readNumber 5 (some .int) 1 20 wX13_readNumber := by
  refine zmk [0, 1] (by decide) (fun mc ms av M Q h => h.1) ?_
  intro p e R s m args below meth c mc ms av M Q hC hRf hRl hr hnm h lv hlv
  obtain ⟨X, hXe⟩ : ∃ X : Nat → zV, X = fun L u v vs st M => ∀ lv, zpick lv (lvX13_readNumber L) = some vs → zAt p l e R s m args below meth c (MQ below (zQ G Q) args s mc ms (zA G)) G 5 L u v lv st M := ⟨_, rfl⟩
  have hJ : ∀ L, zOk p l e R s m args below meth c (MQ below (zQ G Q) args s mc ms (zA G)) G 5 L (zj X L (lvX13_readNumber L)) := fun L => S_jump (fun u v lv vs st M hp hx => by rw [hXe] at hx; exact hx lv hp)
  have hB0 : zin 5 [0, 1] (aX13_readNumber_0 mc ms X Q) X 0 := by
    intro u v vs st M hb
    rw [hXe]
    refine fun lv hp => S_block (L := 0) (live := [0, 1]) ?_ u v lv vs st M hp hb
    unfold aX13_readNumber_0
    refine S_aload_n (pc := 0) hC dX13_readNumber_0 rfl ?_
    refine S_geti (pc := 1) hC cfX13 (by decide) (Or.inl rfl) wd_1276 dX13_readNumber_1 ?_
    refine S_istore_n (pc := 4) hC dX13_readNumber_4 rfl (by decide) ?_
    refine S_iconst (pc := 5) hC dX13_readNumber_5 (by decide) ?_
    refine S_istore_n (pc := 6) hC dX13_readNumber_6 rfl (by decide) ?_
    exact hJ 7
  have hB7 : zin 5 [0, 1, 2, 3] (aX13_readNumber_7 mc ms X Q) X 7 := by
    intro u v vs st M hb
    rw [hXe]
    refine fun lv hp => S_block (L := 7) (live := [0, 1, 2, 3]) ?_ u v lv vs st M hp hb
    unfold aX13_readNumber_7
    refine S_aload_n (pc := 7) hC dX13_readNumber_7 rfl ?_
    refine S_callV (pc := 8) hC (sX13_peek l G) rfl wd_1366 wd_1368 ws_58 wd_12 wd_1369 (by decide +kernel) ⟨by rw [hRf]; decide, by rw [hRl]; decide⟩ dX13_readNumber_8 ?_
    unfold kX13_readNumber_11
    refine S_callS (pc := 11) hC (sX13_isDigit l G) wd_1395 wd_1396 wd_12 wd_1397 (by decide +kernel) ⟨by rw [hRf]; decide, by rw [hRl]; decide⟩ dX13_readNumber_11 ?_
    unfold kX13_readNumber_14
    refine S_if_eq (pc := 14) (tgt := 53) hC dX13_readNumber_14 (by decide) ?_ ?_
    · exact hJ 53
    · refine S_aload_n (pc := 17) hC dX13_readNumber_17 rfl ?_
      refine S_geti (pc := 18) hC cfX13 (by decide) (Or.inl rfl) wd_1276 dX13_readNumber_18 ?_
      refine S_iload_n (pc := 21) hC dX13_readNumber_21 rfl ?_
      refine S_isub (pc := 22) hC dX13_readNumber_22 ?_
      refine S_iload_n (pc := 23) hC dX13_readNumber_23 rfl ?_
      refine S_icmp_gt (pc := 24) (tgt := 53) hC dX13_readNumber_24 (by decide) ?_ ?_
      · exact hJ 53
      · refine S_bipush (pc := 27) hC dX13_readNumber_27 (by decide) ?_
        refine S_iload_n (pc := 29) hC dX13_readNumber_29 rfl ?_
        refine S_imul (pc := 30) hC dX13_readNumber_30 ?_
        refine S_aload_n (pc := 31) hC dX13_readNumber_31 rfl ?_
        refine S_callV (pc := 32) hC (sX13_peek l G) rfl wd_1366 wd_1368 ws_58 wd_12 wd_1369 (by decide +kernel) ⟨by rw [hRf]; decide, by rw [hRl]; decide⟩ dX13_readNumber_32 ?_
        unfold kX13_readNumber_35
        refine S_iadd (pc := 35) hC dX13_readNumber_35 ?_
        refine S_bipush (pc := 36) hC dX13_readNumber_36 (by decide) ?_
        refine S_isub (pc := 38) hC dX13_readNumber_38 ?_
        refine S_istore_n (pc := 39) hC dX13_readNumber_39 rfl (by decide) ?_
        refine S_aload_n (pc := 40) hC dX13_readNumber_40 rfl ?_
        refine S_dup (pc := 41) hC dX13_readNumber_41 ?_
        refine S_geti (pc := 42) hC cfX13 (by decide) (Or.inl rfl) wd_1276 dX13_readNumber_42 ?_
        refine S_iconst (pc := 45) hC dX13_readNumber_45 (by decide) ?_
        refine S_iadd (pc := 46) hC dX13_readNumber_46 ?_
        refine S_puti (pc := 47) hC cfX13 (by decide) rfl (Or.inl rfl) wd_1276 dX13_readNumber_47 ?_
        refine S_goto (pc := 50) (tgt := 7) hC dX13_readNumber_50 (by decide) ?_
        exact hJ 7
  have hB53 : zin 5 [0, 1, 2, 3] (aX13_readNumber_53 mc ms X Q) X 53 := by
    intro u v vs st M hb
    rw [hXe]
    refine fun lv hp => S_block (L := 53) (live := [0, 1, 2, 3]) ?_ u v lv vs st M hp hb
    unfold aX13_readNumber_53
    refine S_aload_n (pc := 53) hC dX13_readNumber_53 rfl ?_
    refine S_geti (pc := 54) hC cfX13 (by decide) (Or.inl rfl) wd_1276 dX13_readNumber_54 ?_
    refine S_iload_n (pc := 57) hC dX13_readNumber_57 rfl ?_
    refine S_isub (pc := 58) hC dX13_readNumber_58 ?_
    refine S_istore (pc := 59) hC dX13_readNumber_59 (by decide) ?_
    refine S_iload (pc := 61) hC dX13_readNumber_61 ?_
    refine S_if_eq (pc := 63) (tgt := 89) hC dX13_readNumber_63 (by decide) ?_ ?_
    · exact hJ 89
    · refine S_iload (pc := 66) hC dX13_readNumber_66 ?_
      refine S_iload_n (pc := 68) hC dX13_readNumber_68 rfl ?_
      refine S_icmp_gt (pc := 69) (tgt := 89) hC dX13_readNumber_69 (by decide) ?_ ?_
      · exact hJ 89
      · refine S_iload (pc := 72) hC dX13_readNumber_72 ?_
        refine S_iconst (pc := 74) hC dX13_readNumber_74 (by decide) ?_
        refine S_icmp_le (pc := 75) (tgt := 93) hC dX13_readNumber_75 (by decide) ?_ ?_
        · exact hJ 93
        · refine S_aload_n (pc := 78) hC dX13_readNumber_78 rfl ?_
          refine S_getR (pc := 79) hC cfX13 (by decide) (Or.inr ⟨_, rfl⟩) wd_1256 dX13_readNumber_79 ?_
          refine S_iload_n (pc := 82) hC dX13_readNumber_82 rfl ?_
          refine S_baload (pc := 83) hC dX13_readNumber_83 ?_
          refine S_bipush (pc := 84) hC dX13_readNumber_84 (by decide) ?_
          refine S_icmp_ne (pc := 86) (tgt := 93) hC dX13_readNumber_86 (by decide) ?_ ?_
          · exact hJ 93
          · exact hJ 89
  have hB89 : zin 5 [] (aX13_readNumber_89 mc ms X Q) X 89 := by
    intro u v vs st M hb
    rw [hXe]
    refine fun lv hp => S_block (L := 89) (live := []) ?_ u v lv vs st M hp hb
    unfold aX13_readNumber_89
    refine S_iconst (pc := 89) hC dX13_readNumber_89 (by decide) ?_
    refine S_goto (pc := 90) (tgt := 94) hC dX13_readNumber_90 (by decide) ?_
    exact hJ 94
  have hB93 : zin 5 [3] (aX13_readNumber_93 mc ms X Q) X 93 := by
    intro u v vs st M hb
    rw [hXe]
    refine fun lv hp => S_block (L := 93) (live := [3]) ?_ u v lv vs st M hp hb
    unfold aX13_readNumber_93
    refine S_iload_n (pc := 93) hC dX13_readNumber_93 rfl ?_
    exact hJ 94
  have hB94 : zin 5 [] (aX13_readNumber_94 mc ms X Q) X 94 := by
    intro u v vs st M hb
    rw [hXe]
    refine fun lv hp => S_block (L := 94) (live := []) ?_ u v lv vs st M hp hb
    unfold aX13_readNumber_94
    exact S_ireturn (pc := 94) hC hr dX13_readNumber_94
  have := h.2 X hB0 hB7 hB53 hB89 hB93 hB94
  rw [hXe] at this
  exact this lv hlv
theorem vX13_readNumber_0 {mc ms : Nat} {X : Nat → zV} {Q : zQt} {M : zM} {x1 : Int32} (hW : zFix M)  (h : X 7 0 0 [.ref 55, .int x1, .int (M.1 55 21), .int 0] [] M) : aX13_readNumber_0 mc ms X Q 0 0 [some (.ref 55), some (.int x1), none, none, none] [] M := ⟨(fxs_55 hW), h⟩
theorem vX13_readNumber_7 {mc ms : Nat} {X : Nat → zV} {Q : zQt} {M : zM} {x1 : Int32} {x2 : Int32} {x3 : Int32} (hW : zFix M)  (h : wX13_peek 0 0 [.ref 55] M (fun r M1 => kX13_readNumber_11 mc ms X Q 0 0 [some (.ref 55), some (.int x1), some (.int x2), some (.int x3), none] (r.toList ++ []) M1)) : aX13_readNumber_7 mc ms X Q 0 0 [some (.ref 55), some (.int x1), some (.int x2), some (.int x3), none] [] M := ⟨Nat.le_of_ble_eq_true rfl, rfl, (fxs_55 hW), 0, 0, Nat.zero_le _, Nat.zero_le _, h⟩
theorem vX13_readNumber_53 {mc ms : Nat} {X : Nat → zV} {Q : zQt} {M : zM} {x1 : Int32} {x2 : Int32} {x3 : Int32} (hW : zFix M)  (h : (((M.1 55 21) - x2) = 0 → X 89 0 0 [] [] M) ∧ (¬ ((M.1 55 21) - x2) = 0 → (x1 < ((M.1 55 21) - x2) → X 89 0 0 [] [] M) ∧ (¬ x1 < ((M.1 55 21) - x2) → (((M.1 55 21) - x2) ≤ (1 : Int32) → X 93 0 0 [.int x3] [] M) ∧ (¬ ((M.1 55 21) - x2) ≤ (1 : Int32) → vp_in x2 8200 ∧ (((M : zM).1 56 (x2 : Int32).toNatClampNeg) = (48 : Int32) → X 89 0 0 [] [] M) ∧ (¬ ((M : zM).1 56 (x2 : Int32).toNatClampNeg) = (48 : Int32) → X 93 0 0 [.int x3] [] M))))) : aX13_readNumber_53 mc ms X Q 0 0 [some (.ref 55), some (.int x1), some (.int x2), some (.int x3), none] [] M := ⟨(fxs_55 hW), ⟨fun c63 => (h.1 c63), fun c63 => ⟨fun c69 => ((h.2 c63).1 c69), fun c69 => ⟨fun c75 => (((h.2 c63).2 c69).1 c75), fun c75 => ⟨(fxs_55 hW), 56, (fxr_55_1 hW), ⟨8200, (fxs_56 hW), (((h.2 c63).2 c69).2 c75).1, ⟨fun c86 => ((((h.2 c63).2 c69).2 c75).2.1 c86), fun c86 => ((((h.2 c63).2 c69).2 c75).2.2 c86)⟩⟩⟩⟩⟩⟩⟩
theorem vX13_readNumber_89 {mc ms : Nat} {X : Nat → zV} {Q : zQt} {M : zM}  (hW : zFix M)  (h : X 94 0 0 [] [.int (-1)] M) : aX13_readNumber_89 mc ms X Q 0 0 [none, none, none, none, none] [] M := h
theorem vX13_readNumber_93 {mc ms : Nat} {X : Nat → zV} {Q : zQt} {M : zM} {x3 : Int32} (hW : zFix M)  (h : X 94 0 0 [] [.int x3] M) : aX13_readNumber_93 mc ms X Q 0 0 [none, none, none, some (.int x3), none] [] M := h
theorem vX13_readNumber_94 {mc ms : Nat} {X : Nat → zV} {Q : zQt} {M : zM} {s0 : Int32} (hW : zFix M)  (h : Q (some (.int s0)) M) : aX13_readNumber_94 mc ms X Q 0 0 [none, none, none, none, none] [.int s0] M := h
theorem vkX13_readNumber_11 {mc ms : Nat} {X : Nat → zV} {Q : zQt} {M : zM} {x1 : Int32} {x2 : Int32} {x3 : Int32} {s0 : Int32} (hW : zFix M)  (h : wX13_isDigit 0 0 [.int s0] M (fun r M1 => kX13_readNumber_14 mc ms X Q 0 0 [some (.ref 55), some (.int x1), some (.int x2), some (.int x3), none] (r.toList ++ []) M1)) : kX13_readNumber_11 mc ms X Q 0 0 [some (.ref 55), some (.int x1), some (.int x2), some (.int x3), none] [.int s0] M := ⟨Nat.le_of_ble_eq_true rfl, rfl, 0, 0, Nat.zero_le _, Nat.zero_le _, h⟩
theorem vkX13_readNumber_14 {mc ms : Nat} {X : Nat → zV} {Q : zQt} {M : zM} {x1 : Int32} {x2 : Int32} {x3 : Int32} {s0 : Int32} (hW : zFix M)  (h : (s0 = 0 → X 53 0 0 [.ref 55, .int x1, .int x2, .int x3] [] M) ∧ (¬ s0 = 0 → (x1 < ((M.1 55 21) - x2) → X 53 0 0 [.ref 55, .int x1, .int x2, .int x3] [] M) ∧ (¬ x1 < ((M.1 55 21) - x2) → wX13_peek 0 0 [.ref 55] M (fun r M1 => kX13_readNumber_35 mc ms X Q 0 0 [some (.ref 55), some (.int x1), some (.int x2), some (.int x3), none] (r.toList ++ [.int ((10 : Int32) * x3)]) M1)))) : kX13_readNumber_14 mc ms X Q 0 0 [some (.ref 55), some (.int x1), some (.int x2), some (.int x3), none] [.int s0] M := ⟨fun c14 => (h.1 c14), fun c14 => ⟨(fxs_55 hW), ⟨fun c24 => ((h.2 c14).1 c24), fun c24 => ⟨Nat.le_of_ble_eq_true rfl, rfl, (fxs_55 hW), 0, 0, Nat.zero_le _, Nat.zero_le _, ((h.2 c14).2 c24)⟩⟩⟩⟩
theorem vkX13_readNumber_35 {mc ms : Nat} {X : Nat → zV} {Q : zQt} {M : zM} {x1 : Int32} {x2 : Int32} {x3 : Int32} {s0 : Int32} {s1 : Int32} (hW : zFix M)  (h : ∀ M47 : zM, M47 = (zsI M 55 21 (((M.1 55 21) + (1 : Int32)))) → X 7 0 0 [.ref 55, .int x1, .int x2, .int ((s1 + s0) - (48 : Int32))] [] M47) : kX13_readNumber_35 mc ms X Q 0 0 [some (.ref 55), some (.int x1), some (.int x2), some (.int x3), none] [.int s0, .int s1] M := ⟨(fxs_55 hW), ⟨(fxs_55 hW), (have h47 := h _ rfl; h47)⟩⟩
theorem dX13_readFields_0 : decode cX13_readFields 0 = .ok (.aload_n 0, 1) := by decide +kernel
theorem dX13_readFields_1 : decode cX13_readFields 1 = .ok (.invokevirtual 203, 3) := by decide +kernel
theorem dX13_readFields_4 : decode cX13_readFields 4 = .ok (.ifCond .eq 12, 3) := by decide +kernel
theorem dX13_readFields_7 : decode cX13_readFields 7 = .ok (.aload_n 0, 1) := by decide +kernel
theorem dX13_readFields_8 : decode cX13_readFields 8 = .ok (.bipush 32, 2) := by decide +kernel
theorem dX13_readFields_10 : decode cX13_readFields 10 = .ok (.invokevirtual 197, 3) := by decide +kernel
theorem dX13_readFields_13 : decode cX13_readFields 13 = .ok (.ifCond .ne 5, 3) := by decide +kernel
theorem dX13_readFields_16 : decode cX13_readFields 16 = .ok (.iconst 1, 1) := by decide +kernel
theorem dX13_readFields_17 : decode cX13_readFields 17 = .ok (.ireturn, 1) := by decide +kernel
theorem dX13_readFields_18 : decode cX13_readFields 18 = .ok (.aload_n 0, 1) := by decide +kernel
theorem dX13_readFields_19 : decode cX13_readFields 19 = .ok (.getfield 43, 3) := by decide +kernel
theorem dX13_readFields_22 : decode cX13_readFields 22 = .ok (.bipush 64, 2) := by decide +kernel
theorem dX13_readFields_24 : decode cX13_readFields 24 = .ok (.aload_n 0, 1) := by decide +kernel
theorem dX13_readFields_25 : decode cX13_readFields 25 = .ok (.invokevirtual 165, 3) := by decide +kernel
theorem dX13_readFields_28 : decode cX13_readFields 28 = .ok (.bipush 98, 2) := by decide +kernel
theorem dX13_readFields_30 : decode cX13_readFields 30 = .ok (.if_icmp .ne 7, 3) := by decide +kernel
theorem dX13_readFields_33 : decode cX13_readFields 33 = .ok (.iconst 1, 1) := by decide +kernel
theorem dX13_readFields_34 : decode cX13_readFields 34 = .ok (.goto 4, 3) := by decide +kernel
theorem dX13_readFields_37 : decode cX13_readFields 37 = .ok (.iconst 0, 1) := by decide +kernel
theorem dX13_readFields_38 : decode cX13_readFields 38 = .ok (.iastore, 1) := by decide +kernel
theorem dX13_readFields_39 : decode cX13_readFields 39 = .ok (.aload_n 0, 1) := by decide +kernel
theorem dX13_readFields_40 : decode cX13_readFields 40 = .ok (.bipush 119, 2) := by decide +kernel
theorem dX13_readFields_42 : decode cX13_readFields 42 = .ok (.invokevirtual 197, 3) := by decide +kernel
theorem dX13_readFields_45 : decode cX13_readFields 45 = .ok (.ifCond .ne 12, 3) := by decide +kernel
theorem dX13_readFields_48 : decode cX13_readFields 48 = .ok (.aload_n 0, 1) := by decide +kernel
theorem dX13_readFields_49 : decode cX13_readFields 49 = .ok (.bipush 98, 2) := by decide +kernel
theorem dX13_readFields_51 : decode cX13_readFields 51 = .ok (.invokevirtual 197, 3) := by decide +kernel
theorem dX13_readFields_54 : decode cX13_readFields 54 = .ok (.ifCond .eq 12, 3) := by decide +kernel
theorem dX13_readFields_57 : decode cX13_readFields 57 = .ok (.aload_n 0, 1) := by decide +kernel
theorem dX13_readFields_58 : decode cX13_readFields 58 = .ok (.bipush 32, 2) := by decide +kernel
theorem dX13_readFields_60 : decode cX13_readFields 60 = .ok (.invokevirtual 197, 3) := by decide +kernel
theorem dX13_readFields_63 : decode cX13_readFields 63 = .ok (.ifCond .ne 5, 3) := by decide +kernel
theorem dX13_readFields_66 : decode cX13_readFields 66 = .ok (.iconst 2, 1) := by decide +kernel
theorem dX13_readFields_67 : decode cX13_readFields 67 = .ok (.ireturn, 1) := by decide +kernel
theorem dX13_readFields_68 : decode cX13_readFields 68 = .ok (.aload_n 0, 1) := by decide +kernel
theorem dX13_readFields_69 : decode cX13_readFields 69 = .ok (.invokevirtual 206, 3) := by decide +kernel
theorem dX13_readFields_72 : decode cX13_readFields 72 = .ok (.ifCond .eq 12, 3) := by decide +kernel
theorem dX13_readFields_75 : decode cX13_readFields 75 = .ok (.aload_n 0, 1) := by decide +kernel
theorem dX13_readFields_76 : decode cX13_readFields 76 = .ok (.bipush 32, 2) := by decide +kernel
theorem dX13_readFields_78 : decode cX13_readFields 78 = .ok (.invokevirtual 197, 3) := by decide +kernel
theorem dX13_readFields_81 : decode cX13_readFields 81 = .ok (.ifCond .ne 5, 3) := by decide +kernel
theorem dX13_readFields_84 : decode cX13_readFields 84 = .ok (.iconst 3, 1) := by decide +kernel
theorem dX13_readFields_85 : decode cX13_readFields 85 = .ok (.ireturn, 1) := by decide +kernel
theorem dX13_readFields_86 : decode cX13_readFields 86 = .ok (.aload_n 0, 1) := by decide +kernel
theorem dX13_readFields_87 : decode cX13_readFields 87 = .ok (.invokevirtual 209, 3) := by decide +kernel
theorem dX13_readFields_90 : decode cX13_readFields 90 = .ok (.ifCond .eq 12, 3) := by decide +kernel
theorem dX13_readFields_93 : decode cX13_readFields 93 = .ok (.aload_n 0, 1) := by decide +kernel
theorem dX13_readFields_94 : decode cX13_readFields 94 = .ok (.bipush 32, 2) := by decide +kernel
theorem dX13_readFields_96 : decode cX13_readFields 96 = .ok (.invokevirtual 197, 3) := by decide +kernel
theorem dX13_readFields_99 : decode cX13_readFields 99 = .ok (.ifCond .ne 5, 3) := by decide +kernel
theorem dX13_readFields_102 : decode cX13_readFields 102 = .ok (.iconst 4, 1) := by decide +kernel
theorem dX13_readFields_103 : decode cX13_readFields 103 = .ok (.ireturn, 1) := by decide +kernel
theorem dX13_readFields_104 : decode cX13_readFields 104 = .ok (.aload_n 0, 1) := by decide +kernel
theorem dX13_readFields_105 : decode cX13_readFields 105 = .ok (.getfield 43, 3) := by decide +kernel
theorem dX13_readFields_108 : decode cX13_readFields 108 = .ok (.bipush 67, 2) := by decide +kernel
theorem dX13_readFields_110 : decode cX13_readFields 110 = .ok (.aload_n 0, 1) := by decide +kernel
theorem dX13_readFields_111 : decode cX13_readFields 111 = .ok (.iconst 3, 1) := by decide +kernel
theorem dX13_readFields_112 : decode cX13_readFields 112 = .ok (.invokevirtual 212, 3) := by decide +kernel
theorem dX13_readFields_115 : decode cX13_readFields 115 = .ok (.iastore, 1) := by decide +kernel
theorem dX13_readFields_116 : decode cX13_readFields 116 = .ok (.aload_n 0, 1) := by decide +kernel
theorem dX13_readFields_117 : decode cX13_readFields 117 = .ok (.getfield 43, 3) := by decide +kernel
theorem dX13_readFields_120 : decode cX13_readFields 120 = .ok (.bipush 67, 2) := by decide +kernel
theorem dX13_readFields_122 : decode cX13_readFields 122 = .ok (.iaload, 1) := by decide +kernel
theorem dX13_readFields_123 : decode cX13_readFields 123 = .ok (.ifCond .lt 12, 3) := by decide +kernel
theorem dX13_readFields_126 : decode cX13_readFields 126 = .ok (.aload_n 0, 1) := by decide +kernel
theorem dX13_readFields_127 : decode cX13_readFields 127 = .ok (.bipush 32, 2) := by decide +kernel
theorem dX13_readFields_129 : decode cX13_readFields 129 = .ok (.invokevirtual 197, 3) := by decide +kernel
theorem dX13_readFields_132 : decode cX13_readFields 132 = .ok (.ifCond .ne 5, 3) := by decide +kernel
theorem dX13_readFields_135 : decode cX13_readFields 135 = .ok (.iconst 5, 1) := by decide +kernel
theorem dX13_readFields_136 : decode cX13_readFields 136 = .ok (.ireturn, 1) := by decide +kernel
theorem dX13_readFields_137 : decode cX13_readFields 137 = .ok (.aload_n 0, 1) := by decide +kernel
theorem dX13_readFields_138 : decode cX13_readFields 138 = .ok (.getfield 43, 3) := by decide +kernel
theorem dX13_readFields_141 : decode cX13_readFields 141 = .ok (.bipush 68, 2) := by decide +kernel
theorem dX13_readFields_143 : decode cX13_readFields 143 = .ok (.aload_n 0, 1) := by decide +kernel
theorem dX13_readFields_144 : decode cX13_readFields 144 = .ok (.iconst 4, 1) := by decide +kernel
theorem dX13_readFields_145 : decode cX13_readFields 145 = .ok (.invokevirtual 212, 3) := by decide +kernel
theorem dX13_readFields_148 : decode cX13_readFields 148 = .ok (.iastore, 1) := by decide +kernel
theorem dX13_readFields_149 : decode cX13_readFields 149 = .ok (.aload_n 0, 1) := by decide +kernel
theorem dX13_readFields_150 : decode cX13_readFields 150 = .ok (.getfield 43, 3) := by decide +kernel
theorem dX13_readFields_153 : decode cX13_readFields 153 = .ok (.bipush 68, 2) := by decide +kernel
theorem dX13_readFields_155 : decode cX13_readFields 155 = .ok (.iaload, 1) := by decide +kernel
theorem dX13_readFields_156 : decode cX13_readFields 156 = .ok (.iconst 1, 1) := by decide +kernel
theorem dX13_readFields_157 : decode cX13_readFields 157 = .ok (.if_icmp .lt 23, 3) := by decide +kernel
theorem dX13_readFields_160 : decode cX13_readFields 160 = .ok (.aload_n 0, 1) := by decide +kernel
theorem dX13_readFields_161 : decode cX13_readFields 161 = .ok (.getfield 159, 3) := by decide +kernel
theorem dX13_readFields_164 : decode cX13_readFields 164 = .ok (.aload_n 0, 1) := by decide +kernel
theorem dX13_readFields_165 : decode cX13_readFields 165 = .ok (.getfield 162, 3) := by decide +kernel
theorem dX13_readFields_168 : decode cX13_readFields 168 = .ok (.if_icmp .ge 17, 3) := by decide +kernel
theorem dX13_readFields_171 : decode cX13_readFields 171 = .ok (.aload_n 0, 1) := by decide +kernel
theorem dX13_readFields_172 : decode cX13_readFields 172 = .ok (.invokevirtual 165, 3) := by decide +kernel
theorem dX13_readFields_175 : decode cX13_readFields 175 = .ok (.bipush 32, 2) := by decide +kernel
theorem dX13_readFields_177 : decode cX13_readFields 177 = .ok (.if_icmp .eq 8, 3) := by decide +kernel
theorem dX13_readFields_180 : decode cX13_readFields 180 = .ok (.bipush 6, 2) := by decide +kernel
theorem dX13_readFields_182 : decode cX13_readFields 182 = .ok (.goto 4, 3) := by decide +kernel
theorem dX13_readFields_185 : decode cX13_readFields 185 = .ok (.iconst 0, 1) := by decide +kernel
theorem dX13_readFields_186 : decode cX13_readFields 186 = .ok (.ireturn, 1) := by decide +kernel
def kX13_readFields_28 (mc ms : Nat) (X : Nat → zV) (Q : zQt) : zT :=
  zc (.int 98) <| zic (fun x y => x = y) (zc (.int 1) <| zj X 38 [0]) <| zc (.int 0) <| zj X 38 [0]
def kX13_readFields_13 (mc ms : Nat) (X : Nat → zV) (Q : zQt) : zT :=
  zif (fun x => x = 0) (zj X 16 []) <| zla 0 <| zgR 13 16 <| zc (.int 64) <| zla 0 <| zcv mc ms 13 0 wX13_peek <| kX13_readFields_28 mc ms X Q
def kX13_readFields_4 (mc ms : Nat) (X : Nat → zV) (Q : zQt) : zT :=
  zif (fun x => x = 0) (zj X 16 []) <| zla 0 <| zc (.int 32) <| zcv mc ms 13 1 wX13_eat <| kX13_readFields_13 mc ms X Q
def kX13_readFields_54 (mc ms : Nat) (X : Nat → zV) (Q : zQt) : zT :=
  zif (fun x => x = 0) (zj X 66 []) <| zj X 57 [0]
def kX13_readFields_45 (mc ms : Nat) (X : Nat → zV) (Q : zQt) : zT :=
  zif (fun x => x = 0) (zla 0 <| zc (.int 98) <| zcv mc ms 13 1 wX13_eat <| kX13_readFields_54 mc ms X Q) <| zj X 57 [0]
def kX13_readFields_175 (mc ms : Nat) (X : Nat → zV) (Q : zQt) : zT :=
  zc (.int 32) <| zic (fun x y => x = y) (zj X 185 []) <| zj X 180 []
def kX13_readFields_148 (mc ms : Nat) (X : Nat → zV) (Q : zQt) : zT :=
  zas 1 (fun x => x) <| zla 0 <| zgR 13 16 <| zc (.int 68) <| zal 1 <| zc (.int 1) <| zic (fun x y => x < y) (zj X 180 []) <| zla 0 <| zgi 13 21 <| zla 0 <| zgi 13 22 <| zic (fun x y => y ≤ x) (zj X 185 []) <| zla 0 <| zcv mc ms 13 0 wX13_peek <| kX13_readFields_175 mc ms X Q
def kX13_readFields_132 (mc ms : Nat) (X : Nat → zV) (Q : zQt) : zT :=
  zif (fun x => x = 0) (zj X 135 []) <| zla 0 <| zgR 13 16 <| zc (.int 68) <| zla 0 <| zc (.int 4) <| zcv mc ms 13 1 wX13_readNumber <| kX13_readFields_148 mc ms X Q
def kX13_readFields_115 (mc ms : Nat) (X : Nat → zV) (Q : zQt) : zT :=
  zas 1 (fun x => x) <| zla 0 <| zgR 13 16 <| zc (.int 67) <| zal 1 <| zif (fun x => x < 0) (zj X 135 []) <| zla 0 <| zc (.int 32) <| zcv mc ms 13 1 wX13_eat <| kX13_readFields_132 mc ms X Q
def kX13_readFields_99 (mc ms : Nat) (X : Nat → zV) (Q : zQt) : zT :=
  zif (fun x => x = 0) (zj X 102 []) <| zla 0 <| zgR 13 16 <| zc (.int 67) <| zla 0 <| zc (.int 3) <| zcv mc ms 13 1 wX13_readNumber <| kX13_readFields_115 mc ms X Q
def kX13_readFields_90 (mc ms : Nat) (X : Nat → zV) (Q : zQt) : zT :=
  zif (fun x => x = 0) (zj X 102 []) <| zla 0 <| zc (.int 32) <| zcv mc ms 13 1 wX13_eat <| kX13_readFields_99 mc ms X Q
def kX13_readFields_81 (mc ms : Nat) (X : Nat → zV) (Q : zQt) : zT :=
  zif (fun x => x = 0) (zj X 84 []) <| zla 0 <| zcv mc ms 13 0 wX13_readPassant <| kX13_readFields_90 mc ms X Q
def kX13_readFields_72 (mc ms : Nat) (X : Nat → zV) (Q : zQt) : zT :=
  zif (fun x => x = 0) (zj X 84 []) <| zla 0 <| zc (.int 32) <| zcv mc ms 13 1 wX13_eat <| kX13_readFields_81 mc ms X Q
def kX13_readFields_63 (mc ms : Nat) (X : Nat → zV) (Q : zQt) : zT :=
  zif (fun x => x = 0) (zj X 66 []) <| zla 0 <| zcv mc ms 13 0 wX13_readRights <| kX13_readFields_72 mc ms X Q
def aX13_readFields_0 (mc ms : Nat) (X : Nat → zV) (Q : zQt) : zT :=
  zla 0 <| zcv mc ms 13 0 wX13_readRanks <| kX13_readFields_4 mc ms X Q
def aX13_readFields_16 (mc ms : Nat) (X : Nat → zV) (Q : zQt) : zT :=
  zc (.int 1) <| zri Q
def aX13_readFields_38 (mc ms : Nat) (X : Nat → zV) (Q : zQt) : zT :=
  zas 1 (fun x => x) <| zla 0 <| zc (.int 119) <| zcv mc ms 13 1 wX13_eat <| kX13_readFields_45 mc ms X Q
def aX13_readFields_57 (mc ms : Nat) (X : Nat → zV) (Q : zQt) : zT :=
  zla 0 <| zc (.int 32) <| zcv mc ms 13 1 wX13_eat <| kX13_readFields_63 mc ms X Q
def aX13_readFields_66 (mc ms : Nat) (X : Nat → zV) (Q : zQt) : zT :=
  zc (.int 2) <| zri Q
def aX13_readFields_84 (mc ms : Nat) (X : Nat → zV) (Q : zQt) : zT :=
  zc (.int 3) <| zri Q
def aX13_readFields_102 (mc ms : Nat) (X : Nat → zV) (Q : zQt) : zT :=
  zc (.int 4) <| zri Q
def aX13_readFields_135 (mc ms : Nat) (X : Nat → zV) (Q : zQt) : zT :=
  zc (.int 5) <| zri Q
def aX13_readFields_180 (mc ms : Nat) (X : Nat → zV) (Q : zQt) : zT :=
  zc (.int 6) <| zj X 186 []
def aX13_readFields_185 (mc ms : Nat) (X : Nat → zV) (Q : zQt) : zT :=
  zc (.int 0) <| zj X 186 []
def aX13_readFields_186 (mc ms : Nat) (X : Nat → zV) (Q : zQt) : zT :=
  zri Q
def lvX13_readFields : Nat → List Nat := fun L => match L with
  | 0 => [0]
  | 16 => []
  | 38 => [0]
  | 57 => [0]
  | 66 => []
  | 84 => []
  | 102 => []
  | 135 => []
  | 180 => []
  | 185 => []
  | 186 => []
  | _ => []
def wX13_readFields : zSp := fun mc ms av M Q => ((zlay av).length ≤ 1 ∧ zpick (zlay av) [0] = some av) ∧ ∀ X : Nat → zV, zin 1 [0] (aX13_readFields_0 mc ms X Q) X 0 → zin 1 [] (aX13_readFields_16 mc ms X Q) X 16 → zin 1 [0] (aX13_readFields_38 mc ms X Q) X 38 → zin 1 [0] (aX13_readFields_57 mc ms X Q) X 57 → zin 1 [] (aX13_readFields_66 mc ms X Q) X 66 → zin 1 [] (aX13_readFields_84 mc ms X Q) X 84 → zin 1 [] (aX13_readFields_102 mc ms X Q) X 102 → zin 1 [] (aX13_readFields_135 mc ms X Q) X 135 → zin 1 [] (aX13_readFields_180 mc ms X Q) X 180 → zin 1 [] (aX13_readFields_185 mc ms X Q) X 185 → zin 1 [] (aX13_readFields_186 mc ms X Q) X 186 → X 0 0 0 av [] M
set_option maxRecDepth 100000 in
set_option maxHeartbeats 4000000 in
theorem sX13_readFields (l : Launch) (G : zG) : zSnd l G yX13_readFields cX13_readFields 1 (some .int) 5 113 wX13_readFields := by
  refine zmk [0] (by decide) (fun mc ms av M Q h => h.1) ?_
  intro p e R s m args below meth c mc ms av M Q hC hRf hRl hr hnm h lv hlv
  obtain ⟨X, hXe⟩ : ∃ X : Nat → zV, X = fun L u v vs st M => ∀ lv, zpick lv (lvX13_readFields L) = some vs → zAt p l e R s m args below meth c (MQ below (zQ G Q) args s mc ms (zA G)) G 1 L u v lv st M := ⟨_, rfl⟩
  have hJ : ∀ L, zOk p l e R s m args below meth c (MQ below (zQ G Q) args s mc ms (zA G)) G 1 L (zj X L (lvX13_readFields L)) := fun L => S_jump (fun u v lv vs st M hp hx => by rw [hXe] at hx; exact hx lv hp)
  have hB0 : zin 1 [0] (aX13_readFields_0 mc ms X Q) X 0 := by
    intro u v vs st M hb
    rw [hXe]
    refine fun lv hp => S_block (L := 0) (live := [0]) ?_ u v lv vs st M hp hb
    unfold aX13_readFields_0
    refine S_aload_n (pc := 0) hC dX13_readFields_0 rfl ?_
    refine S_callV (pc := 1) hC (sX13_readRanks l G) rfl wd_1358 wd_1360 ws_56 wd_12 wd_1361 (by decide +kernel) ⟨by rw [hRf]; decide, by rw [hRl]; decide⟩ dX13_readFields_1 ?_
    unfold kX13_readFields_4
    refine S_if_eq (pc := 4) (tgt := 16) hC dX13_readFields_4 (by decide) ?_ ?_
    · exact hJ 16
    · refine S_aload_n (pc := 7) hC dX13_readFields_7 rfl ?_
      refine S_bipush (pc := 8) hC dX13_readFields_8 (by decide) ?_
      refine S_callV (pc := 10) hC (sX13_eat l G) rfl wd_1379 wd_1381 ws_59 wd_12 wd_1382 (by decide +kernel) ⟨by rw [hRf]; decide, by rw [hRl]; decide⟩ dX13_readFields_10 ?_
      unfold kX13_readFields_13
      refine S_if_ne (pc := 13) (tgt := 18) hC dX13_readFields_13 (by decide) ?_ ?_
      · refine S_aload_n (pc := 18) hC dX13_readFields_18 rfl ?_
        refine S_getR (pc := 19) hC cfX13 (by decide) (Or.inr ⟨_, rfl⟩) wd_1271 dX13_readFields_19 ?_
        refine S_bipush (pc := 22) hC dX13_readFields_22 (by decide) ?_
        refine S_aload_n (pc := 24) hC dX13_readFields_24 rfl ?_
        refine S_callV (pc := 25) hC (sX13_peek l G) rfl wd_1366 wd_1368 ws_58 wd_12 wd_1369 (by decide +kernel) ⟨by rw [hRf]; decide, by rw [hRl]; decide⟩ dX13_readFields_25 ?_
        unfold kX13_readFields_28
        refine S_bipush (pc := 28) hC dX13_readFields_28 (by decide) ?_
        refine S_icmp_ne (pc := 30) (tgt := 37) hC dX13_readFields_30 (by decide) ?_ ?_
        · refine S_iconst (pc := 37) hC dX13_readFields_37 (by decide) ?_
          exact hJ 38
        · refine S_iconst (pc := 33) hC dX13_readFields_33 (by decide) ?_
          refine S_goto (pc := 34) (tgt := 38) hC dX13_readFields_34 (by decide) ?_
          exact hJ 38
      · exact hJ 16
  have hB16 : zin 1 [] (aX13_readFields_16 mc ms X Q) X 16 := by
    intro u v vs st M hb
    rw [hXe]
    refine fun lv hp => S_block (L := 16) (live := []) ?_ u v lv vs st M hp hb
    unfold aX13_readFields_16
    refine S_iconst (pc := 16) hC dX13_readFields_16 (by decide) ?_
    exact S_ireturn (pc := 17) hC hr dX13_readFields_17
  have hB38 : zin 1 [0] (aX13_readFields_38 mc ms X Q) X 38 := by
    intro u v vs st M hb
    rw [hXe]
    refine fun lv hp => S_block (L := 38) (live := [0]) ?_ u v lv vs st M hp hb
    unfold aX13_readFields_38
    refine S_iastore (pc := 38) hC dX13_readFields_38 ?_
    refine S_aload_n (pc := 39) hC dX13_readFields_39 rfl ?_
    refine S_bipush (pc := 40) hC dX13_readFields_40 (by decide) ?_
    refine S_callV (pc := 42) hC (sX13_eat l G) rfl wd_1379 wd_1381 ws_59 wd_12 wd_1382 (by decide +kernel) ⟨by rw [hRf]; decide, by rw [hRl]; decide⟩ dX13_readFields_42 ?_
    unfold kX13_readFields_45
    refine S_if_ne (pc := 45) (tgt := 57) hC dX13_readFields_45 (by decide) ?_ ?_
    · exact hJ 57
    · refine S_aload_n (pc := 48) hC dX13_readFields_48 rfl ?_
      refine S_bipush (pc := 49) hC dX13_readFields_49 (by decide) ?_
      refine S_callV (pc := 51) hC (sX13_eat l G) rfl wd_1379 wd_1381 ws_59 wd_12 wd_1382 (by decide +kernel) ⟨by rw [hRf]; decide, by rw [hRl]; decide⟩ dX13_readFields_51 ?_
      unfold kX13_readFields_54
      refine S_if_eq (pc := 54) (tgt := 66) hC dX13_readFields_54 (by decide) ?_ ?_
      · exact hJ 66
      · exact hJ 57
  have hB57 : zin 1 [0] (aX13_readFields_57 mc ms X Q) X 57 := by
    intro u v vs st M hb
    rw [hXe]
    refine fun lv hp => S_block (L := 57) (live := [0]) ?_ u v lv vs st M hp hb
    unfold aX13_readFields_57
    refine S_aload_n (pc := 57) hC dX13_readFields_57 rfl ?_
    refine S_bipush (pc := 58) hC dX13_readFields_58 (by decide) ?_
    refine S_callV (pc := 60) hC (sX13_eat l G) rfl wd_1379 wd_1381 ws_59 wd_12 wd_1382 (by decide +kernel) ⟨by rw [hRf]; decide, by rw [hRl]; decide⟩ dX13_readFields_60 ?_
    unfold kX13_readFields_63
    refine S_if_ne (pc := 63) (tgt := 68) hC dX13_readFields_63 (by decide) ?_ ?_
    · refine S_aload_n (pc := 68) hC dX13_readFields_68 rfl ?_
      refine S_callV (pc := 69) hC (sX13_readRights l G) rfl wd_1383 wd_1385 ws_60 wd_12 wd_1386 (by decide +kernel) ⟨by rw [hRf]; decide, by rw [hRl]; decide⟩ dX13_readFields_69 ?_
      unfold kX13_readFields_72
      refine S_if_eq (pc := 72) (tgt := 84) hC dX13_readFields_72 (by decide) ?_ ?_
      · exact hJ 84
      · refine S_aload_n (pc := 75) hC dX13_readFields_75 rfl ?_
        refine S_bipush (pc := 76) hC dX13_readFields_76 (by decide) ?_
        refine S_callV (pc := 78) hC (sX13_eat l G) rfl wd_1379 wd_1381 ws_59 wd_12 wd_1382 (by decide +kernel) ⟨by rw [hRf]; decide, by rw [hRl]; decide⟩ dX13_readFields_78 ?_
        unfold kX13_readFields_81
        refine S_if_ne (pc := 81) (tgt := 86) hC dX13_readFields_81 (by decide) ?_ ?_
        · refine S_aload_n (pc := 86) hC dX13_readFields_86 rfl ?_
          refine S_callV (pc := 87) hC (sX13_readPassant l G) rfl wd_1387 wd_1389 ws_61 wd_12 wd_1390 (by decide +kernel) ⟨by rw [hRf]; decide, by rw [hRl]; decide⟩ dX13_readFields_87 ?_
          unfold kX13_readFields_90
          refine S_if_eq (pc := 90) (tgt := 102) hC dX13_readFields_90 (by decide) ?_ ?_
          · exact hJ 102
          · refine S_aload_n (pc := 93) hC dX13_readFields_93 rfl ?_
            refine S_bipush (pc := 94) hC dX13_readFields_94 (by decide) ?_
            refine S_callV (pc := 96) hC (sX13_eat l G) rfl wd_1379 wd_1381 ws_59 wd_12 wd_1382 (by decide +kernel) ⟨by rw [hRf]; decide, by rw [hRl]; decide⟩ dX13_readFields_96 ?_
            unfold kX13_readFields_99
            refine S_if_ne (pc := 99) (tgt := 104) hC dX13_readFields_99 (by decide) ?_ ?_
            · refine S_aload_n (pc := 104) hC dX13_readFields_104 rfl ?_
              refine S_getR (pc := 105) hC cfX13 (by decide) (Or.inr ⟨_, rfl⟩) wd_1271 dX13_readFields_105 ?_
              refine S_bipush (pc := 108) hC dX13_readFields_108 (by decide) ?_
              refine S_aload_n (pc := 110) hC dX13_readFields_110 rfl ?_
              refine S_iconst (pc := 111) hC dX13_readFields_111 (by decide) ?_
              refine S_callV (pc := 112) hC (sX13_readNumber l G) rfl wd_1391 wd_1393 ws_62 wd_12 wd_1394 (by decide +kernel) ⟨by rw [hRf]; decide, by rw [hRl]; decide⟩ dX13_readFields_112 ?_
              unfold kX13_readFields_115
              refine S_iastore (pc := 115) hC dX13_readFields_115 ?_
              refine S_aload_n (pc := 116) hC dX13_readFields_116 rfl ?_
              refine S_getR (pc := 117) hC cfX13 (by decide) (Or.inr ⟨_, rfl⟩) wd_1271 dX13_readFields_117 ?_
              refine S_bipush (pc := 120) hC dX13_readFields_120 (by decide) ?_
              refine S_iaload (pc := 122) hC dX13_readFields_122 ?_
              refine S_if_lt (pc := 123) (tgt := 135) hC dX13_readFields_123 (by decide) ?_ ?_
              · exact hJ 135
              · refine S_aload_n (pc := 126) hC dX13_readFields_126 rfl ?_
                refine S_bipush (pc := 127) hC dX13_readFields_127 (by decide) ?_
                refine S_callV (pc := 129) hC (sX13_eat l G) rfl wd_1379 wd_1381 ws_59 wd_12 wd_1382 (by decide +kernel) ⟨by rw [hRf]; decide, by rw [hRl]; decide⟩ dX13_readFields_129 ?_
                unfold kX13_readFields_132
                refine S_if_ne (pc := 132) (tgt := 137) hC dX13_readFields_132 (by decide) ?_ ?_
                · refine S_aload_n (pc := 137) hC dX13_readFields_137 rfl ?_
                  refine S_getR (pc := 138) hC cfX13 (by decide) (Or.inr ⟨_, rfl⟩) wd_1271 dX13_readFields_138 ?_
                  refine S_bipush (pc := 141) hC dX13_readFields_141 (by decide) ?_
                  refine S_aload_n (pc := 143) hC dX13_readFields_143 rfl ?_
                  refine S_iconst (pc := 144) hC dX13_readFields_144 (by decide) ?_
                  refine S_callV (pc := 145) hC (sX13_readNumber l G) rfl wd_1391 wd_1393 ws_62 wd_12 wd_1394 (by decide +kernel) ⟨by rw [hRf]; decide, by rw [hRl]; decide⟩ dX13_readFields_145 ?_
                  unfold kX13_readFields_148
                  refine S_iastore (pc := 148) hC dX13_readFields_148 ?_
                  refine S_aload_n (pc := 149) hC dX13_readFields_149 rfl ?_
                  refine S_getR (pc := 150) hC cfX13 (by decide) (Or.inr ⟨_, rfl⟩) wd_1271 dX13_readFields_150 ?_
                  refine S_bipush (pc := 153) hC dX13_readFields_153 (by decide) ?_
                  refine S_iaload (pc := 155) hC dX13_readFields_155 ?_
                  refine S_iconst (pc := 156) hC dX13_readFields_156 (by decide) ?_
                  refine S_icmp_lt (pc := 157) (tgt := 180) hC dX13_readFields_157 (by decide) ?_ ?_
                  · exact hJ 180
                  · refine S_aload_n (pc := 160) hC dX13_readFields_160 rfl ?_
                    refine S_geti (pc := 161) hC cfX13 (by decide) (Or.inl rfl) wd_1276 dX13_readFields_161 ?_
                    refine S_aload_n (pc := 164) hC dX13_readFields_164 rfl ?_
                    refine S_geti (pc := 165) hC cfX13 (by decide) (Or.inl rfl) wd_1277 dX13_readFields_165 ?_
                    refine S_icmp_ge (pc := 168) (tgt := 185) hC dX13_readFields_168 (by decide) ?_ ?_
                    · exact hJ 185
                    · refine S_aload_n (pc := 171) hC dX13_readFields_171 rfl ?_
                      refine S_callV (pc := 172) hC (sX13_peek l G) rfl wd_1366 wd_1368 ws_58 wd_12 wd_1369 (by decide +kernel) ⟨by rw [hRf]; decide, by rw [hRl]; decide⟩ dX13_readFields_172 ?_
                      unfold kX13_readFields_175
                      refine S_bipush (pc := 175) hC dX13_readFields_175 (by decide) ?_
                      refine S_icmp_eq (pc := 177) (tgt := 185) hC dX13_readFields_177 (by decide) ?_ ?_
                      · exact hJ 185
                      · exact hJ 180
                · exact hJ 135
            · exact hJ 102
        · exact hJ 84
    · exact hJ 66
  have hB66 : zin 1 [] (aX13_readFields_66 mc ms X Q) X 66 := by
    intro u v vs st M hb
    rw [hXe]
    refine fun lv hp => S_block (L := 66) (live := []) ?_ u v lv vs st M hp hb
    unfold aX13_readFields_66
    refine S_iconst (pc := 66) hC dX13_readFields_66 (by decide) ?_
    exact S_ireturn (pc := 67) hC hr dX13_readFields_67
  have hB84 : zin 1 [] (aX13_readFields_84 mc ms X Q) X 84 := by
    intro u v vs st M hb
    rw [hXe]
    refine fun lv hp => S_block (L := 84) (live := []) ?_ u v lv vs st M hp hb
    unfold aX13_readFields_84
    refine S_iconst (pc := 84) hC dX13_readFields_84 (by decide) ?_
    exact S_ireturn (pc := 85) hC hr dX13_readFields_85
  have hB102 : zin 1 [] (aX13_readFields_102 mc ms X Q) X 102 := by
    intro u v vs st M hb
    rw [hXe]
    refine fun lv hp => S_block (L := 102) (live := []) ?_ u v lv vs st M hp hb
    unfold aX13_readFields_102
    refine S_iconst (pc := 102) hC dX13_readFields_102 (by decide) ?_
    exact S_ireturn (pc := 103) hC hr dX13_readFields_103
  have hB135 : zin 1 [] (aX13_readFields_135 mc ms X Q) X 135 := by
    intro u v vs st M hb
    rw [hXe]
    refine fun lv hp => S_block (L := 135) (live := []) ?_ u v lv vs st M hp hb
    unfold aX13_readFields_135
    refine S_iconst (pc := 135) hC dX13_readFields_135 (by decide) ?_
    exact S_ireturn (pc := 136) hC hr dX13_readFields_136
  have hB180 : zin 1 [] (aX13_readFields_180 mc ms X Q) X 180 := by
    intro u v vs st M hb
    rw [hXe]
    refine fun lv hp => S_block (L := 180) (live := []) ?_ u v lv vs st M hp hb
    unfold aX13_readFields_180
    refine S_bipush (pc := 180) hC dX13_readFields_180 (by decide) ?_
    refine S_goto (pc := 182) (tgt := 186) hC dX13_readFields_182 (by decide) ?_
    exact hJ 186
  have hB185 : zin 1 [] (aX13_readFields_185 mc ms X Q) X 185 := by
    intro u v vs st M hb
    rw [hXe]
    refine fun lv hp => S_block (L := 185) (live := []) ?_ u v lv vs st M hp hb
    unfold aX13_readFields_185
    refine S_iconst (pc := 185) hC dX13_readFields_185 (by decide) ?_
    exact hJ 186
  have hB186 : zin 1 [] (aX13_readFields_186 mc ms X Q) X 186 := by
    intro u v vs st M hb
    rw [hXe]
    refine fun lv hp => S_block (L := 186) (live := []) ?_ u v lv vs st M hp hb
    unfold aX13_readFields_186
    exact S_ireturn (pc := 186) hC hr dX13_readFields_186
  have := h.2 X hB0 hB16 hB38 hB57 hB66 hB84 hB102 hB135 hB180 hB185 hB186
  rw [hXe] at this
  exact this lv hlv
theorem vX13_readFields_0 {mc ms : Nat} {X : Nat → zV} {Q : zQt} {M : zM}  (hW : zFix M)  (h : wX13_readRanks 0 0 [.ref 55] M (fun r M1 => kX13_readFields_4 mc ms X Q 0 0 [some (.ref 55)] (r.toList ++ []) M1)) : aX13_readFields_0 mc ms X Q 0 0 [some (.ref 55)] [] M := ⟨Nat.le_of_ble_eq_true rfl, rfl, (fxs_55 hW), 0, 0, Nat.zero_le _, Nat.zero_le _, h⟩
theorem vX13_readFields_16 {mc ms : Nat} {X : Nat → zV} {Q : zQt} {M : zM}  (hW : zFix M)  (h : Q (some (.int 1)) M) : aX13_readFields_16 mc ms X Q 0 0 [none] [] M := h
theorem vX13_readFields_38 {mc ms : Nat} {X : Nat → zV} {Q : zQt} {M : zM} {s0 : Int32} {s1 : Int32} (hW : zFix M)  (h : vp_in s1 414 ∧ ∀ M38 : zM, M38 = (zsI M 65 (s1 : Int32).toNatClampNeg s0) → wX13_eat 0 0 [.ref 55, .int 119] M38 (fun r M1 => kX13_readFields_45 mc ms X Q 0 0 [some (.ref 55)] (r.toList ++ []) M1)) : aX13_readFields_38 mc ms X Q 0 0 [some (.ref 55)] [.int s0, .int s1, .ref 65] M := ⟨414, (fxs_65 hW), h.1, (have h38 := h.2 _ rfl; ⟨Nat.le_of_ble_eq_true rfl, rfl, (fxs_55 hW), 0, 0, Nat.zero_le _, Nat.zero_le _, h38⟩)⟩
theorem vX13_readFields_57 {mc ms : Nat} {X : Nat → zV} {Q : zQt} {M : zM}  (hW : zFix M)  (h : wX13_eat 0 0 [.ref 55, .int 32] M (fun r M1 => kX13_readFields_63 mc ms X Q 0 0 [some (.ref 55)] (r.toList ++ []) M1)) : aX13_readFields_57 mc ms X Q 0 0 [some (.ref 55)] [] M := ⟨Nat.le_of_ble_eq_true rfl, rfl, (fxs_55 hW), 0, 0, Nat.zero_le _, Nat.zero_le _, h⟩
theorem vX13_readFields_66 {mc ms : Nat} {X : Nat → zV} {Q : zQt} {M : zM}  (hW : zFix M)  (h : Q (some (.int 2)) M) : aX13_readFields_66 mc ms X Q 0 0 [none] [] M := h
theorem vX13_readFields_84 {mc ms : Nat} {X : Nat → zV} {Q : zQt} {M : zM}  (hW : zFix M)  (h : Q (some (.int 3)) M) : aX13_readFields_84 mc ms X Q 0 0 [none] [] M := h
theorem vX13_readFields_102 {mc ms : Nat} {X : Nat → zV} {Q : zQt} {M : zM}  (hW : zFix M)  (h : Q (some (.int 4)) M) : aX13_readFields_102 mc ms X Q 0 0 [none] [] M := h
theorem vX13_readFields_135 {mc ms : Nat} {X : Nat → zV} {Q : zQt} {M : zM}  (hW : zFix M)  (h : Q (some (.int 5)) M) : aX13_readFields_135 mc ms X Q 0 0 [none] [] M := h
theorem vX13_readFields_180 {mc ms : Nat} {X : Nat → zV} {Q : zQt} {M : zM}  (hW : zFix M)  (h : X 186 0 0 [] [.int 6] M) : aX13_readFields_180 mc ms X Q 0 0 [none] [] M := h
theorem vX13_readFields_185 {mc ms : Nat} {X : Nat → zV} {Q : zQt} {M : zM}  (hW : zFix M)  (h : X 186 0 0 [] [.int 0] M) : aX13_readFields_185 mc ms X Q 0 0 [none] [] M := h
theorem vX13_readFields_186 {mc ms : Nat} {X : Nat → zV} {Q : zQt} {M : zM} {s0 : Int32} (hW : zFix M)  (h : Q (some (.int s0)) M) : aX13_readFields_186 mc ms X Q 0 0 [none] [.int s0] M := h
theorem vkX13_readFields_4 {mc ms : Nat} {X : Nat → zV} {Q : zQt} {M : zM} {s0 : Int32} (hW : zFix M)  (h : (s0 = 0 → X 16 0 0 [] [] M) ∧ (¬ s0 = 0 → wX13_eat 0 0 [.ref 55, .int 32] M (fun r M1 => kX13_readFields_13 mc ms X Q 0 0 [some (.ref 55)] (r.toList ++ []) M1))) : kX13_readFields_4 mc ms X Q 0 0 [some (.ref 55)] [.int s0] M := ⟨fun c4 => (h.1 c4), fun c4 => ⟨Nat.le_of_ble_eq_true rfl, rfl, (fxs_55 hW), 0, 0, Nat.zero_le _, Nat.zero_le _, (h.2 c4)⟩⟩
theorem vkX13_readFields_13 {mc ms : Nat} {X : Nat → zV} {Q : zQt} {M : zM} {s0 : Int32} (hW : zFix M)  (h : (s0 = 0 → X 16 0 0 [] [] M) ∧ (¬ s0 = 0 → wX13_peek 0 0 [.ref 55] M (fun r M1 => kX13_readFields_28 mc ms X Q 0 0 [some (.ref 55)] (r.toList ++ [.int 64, .ref 65]) M1))) : kX13_readFields_13 mc ms X Q 0 0 [some (.ref 55)] [.int s0] M := ⟨fun c13 => (h.1 c13), fun c13 => ⟨(fxs_55 hW), 65, (fxr_55_16 hW), ⟨Nat.le_of_ble_eq_true rfl, rfl, (fxs_55 hW), 0, 0, Nat.zero_le _, Nat.zero_le _, (h.2 c13)⟩⟩⟩
theorem vkX13_readFields_28 {mc ms : Nat} {X : Nat → zV} {Q : zQt} {M : zM} {s0 : Int32} {s1 : Int32} (hW : zFix M)  (h : (s0 = (98 : Int32) → X 38 0 0 [.ref 55] [.int 1, .int s1, .ref 65] M) ∧ (¬ s0 = (98 : Int32) → X 38 0 0 [.ref 55] [.int 0, .int s1, .ref 65] M)) : kX13_readFields_28 mc ms X Q 0 0 [some (.ref 55)] [.int s0, .int s1, .ref 65] M := ⟨fun c30 => (h.1 c30), fun c30 => (h.2 c30)⟩
theorem vkX13_readFields_45 {mc ms : Nat} {X : Nat → zV} {Q : zQt} {M : zM} {s0 : Int32} (hW : zFix M)  (h : (s0 = 0 → wX13_eat 0 0 [.ref 55, .int 98] M (fun r M1 => kX13_readFields_54 mc ms X Q 0 0 [some (.ref 55)] (r.toList ++ []) M1)) ∧ (¬ s0 = 0 → X 57 0 0 [.ref 55] [] M)) : kX13_readFields_45 mc ms X Q 0 0 [some (.ref 55)] [.int s0] M := ⟨fun c45 => ⟨Nat.le_of_ble_eq_true rfl, rfl, (fxs_55 hW), 0, 0, Nat.zero_le _, Nat.zero_le _, (h.1 c45)⟩, fun c45 => (h.2 c45)⟩
theorem vkX13_readFields_54 {mc ms : Nat} {X : Nat → zV} {Q : zQt} {M : zM} {s0 : Int32} (hW : zFix M)  (h : (s0 = 0 → X 66 0 0 [] [] M) ∧ (¬ s0 = 0 → X 57 0 0 [.ref 55] [] M)) : kX13_readFields_54 mc ms X Q 0 0 [some (.ref 55)] [.int s0] M := ⟨fun c54 => (h.1 c54), fun c54 => (h.2 c54)⟩
theorem vkX13_readFields_63 {mc ms : Nat} {X : Nat → zV} {Q : zQt} {M : zM} {s0 : Int32} (hW : zFix M)  (h : (s0 = 0 → X 66 0 0 [] [] M) ∧ (¬ s0 = 0 → wX13_readRights 0 0 [.ref 55] M (fun r M1 => kX13_readFields_72 mc ms X Q 0 0 [some (.ref 55)] (r.toList ++ []) M1))) : kX13_readFields_63 mc ms X Q 0 0 [some (.ref 55)] [.int s0] M := ⟨fun c63 => (h.1 c63), fun c63 => ⟨Nat.le_of_ble_eq_true rfl, rfl, (fxs_55 hW), 0, 0, Nat.zero_le _, Nat.zero_le _, (h.2 c63)⟩⟩
theorem vkX13_readFields_72 {mc ms : Nat} {X : Nat → zV} {Q : zQt} {M : zM} {s0 : Int32} (hW : zFix M)  (h : (s0 = 0 → X 84 0 0 [] [] M) ∧ (¬ s0 = 0 → wX13_eat 0 0 [.ref 55, .int 32] M (fun r M1 => kX13_readFields_81 mc ms X Q 0 0 [some (.ref 55)] (r.toList ++ []) M1))) : kX13_readFields_72 mc ms X Q 0 0 [some (.ref 55)] [.int s0] M := ⟨fun c72 => (h.1 c72), fun c72 => ⟨Nat.le_of_ble_eq_true rfl, rfl, (fxs_55 hW), 0, 0, Nat.zero_le _, Nat.zero_le _, (h.2 c72)⟩⟩
theorem vkX13_readFields_81 {mc ms : Nat} {X : Nat → zV} {Q : zQt} {M : zM} {s0 : Int32} (hW : zFix M)  (h : (s0 = 0 → X 84 0 0 [] [] M) ∧ (¬ s0 = 0 → wX13_readPassant 0 0 [.ref 55] M (fun r M1 => kX13_readFields_90 mc ms X Q 0 0 [some (.ref 55)] (r.toList ++ []) M1))) : kX13_readFields_81 mc ms X Q 0 0 [some (.ref 55)] [.int s0] M := ⟨fun c81 => (h.1 c81), fun c81 => ⟨Nat.le_of_ble_eq_true rfl, rfl, (fxs_55 hW), 0, 0, Nat.zero_le _, Nat.zero_le _, (h.2 c81)⟩⟩
theorem vkX13_readFields_90 {mc ms : Nat} {X : Nat → zV} {Q : zQt} {M : zM} {s0 : Int32} (hW : zFix M)  (h : (s0 = 0 → X 102 0 0 [] [] M) ∧ (¬ s0 = 0 → wX13_eat 0 0 [.ref 55, .int 32] M (fun r M1 => kX13_readFields_99 mc ms X Q 0 0 [some (.ref 55)] (r.toList ++ []) M1))) : kX13_readFields_90 mc ms X Q 0 0 [some (.ref 55)] [.int s0] M := ⟨fun c90 => (h.1 c90), fun c90 => ⟨Nat.le_of_ble_eq_true rfl, rfl, (fxs_55 hW), 0, 0, Nat.zero_le _, Nat.zero_le _, (h.2 c90)⟩⟩
theorem vkX13_readFields_99 {mc ms : Nat} {X : Nat → zV} {Q : zQt} {M : zM} {s0 : Int32} (hW : zFix M)  (h : (s0 = 0 → X 102 0 0 [] [] M) ∧ (¬ s0 = 0 → wX13_readNumber 0 0 [.ref 55, .int 3] M (fun r M1 => kX13_readFields_115 mc ms X Q 0 0 [some (.ref 55)] (r.toList ++ [.int 67, .ref 65]) M1))) : kX13_readFields_99 mc ms X Q 0 0 [some (.ref 55)] [.int s0] M := ⟨fun c99 => (h.1 c99), fun c99 => ⟨(fxs_55 hW), 65, (fxr_55_16 hW), ⟨Nat.le_of_ble_eq_true rfl, rfl, (fxs_55 hW), 0, 0, Nat.zero_le _, Nat.zero_le _, (h.2 c99)⟩⟩⟩
theorem vkX13_readFields_115 {mc ms : Nat} {X : Nat → zV} {Q : zQt} {M : zM} {s0 : Int32} {s1 : Int32} (hW : zFix M)  (h : vp_in s1 414 ∧ ∀ M115 : zM, M115 = (zsI M 65 (s1 : Int32).toNatClampNeg s0) → (((M115 : zM).1 65 (67 : Int32).toNatClampNeg) < 0 → X 135 0 0 [] [] M115) ∧ (¬ ((M115 : zM).1 65 (67 : Int32).toNatClampNeg) < 0 → wX13_eat 0 0 [.ref 55, .int 32] M115 (fun r M1 => kX13_readFields_132 mc ms X Q 0 0 [some (.ref 55)] (r.toList ++ []) M1))) : kX13_readFields_115 mc ms X Q 0 0 [some (.ref 55)] [.int s0, .int s1, .ref 65] M := ⟨414, (fxs_65 hW), h.1, (have h115 := h.2 _ rfl; ⟨(fxs_55 hW), 65, (fxr_55_16 hW), ⟨414, (fxs_65 hW), by unfold vp_in; decide, ⟨fun c123 => (h115.1 c123), fun c123 => ⟨Nat.le_of_ble_eq_true rfl, rfl, (fxs_55 hW), 0, 0, Nat.zero_le _, Nat.zero_le _, (h115.2 c123)⟩⟩⟩⟩)⟩
theorem vkX13_readFields_132 {mc ms : Nat} {X : Nat → zV} {Q : zQt} {M : zM} {s0 : Int32} (hW : zFix M)  (h : (s0 = 0 → X 135 0 0 [] [] M) ∧ (¬ s0 = 0 → wX13_readNumber 0 0 [.ref 55, .int 4] M (fun r M1 => kX13_readFields_148 mc ms X Q 0 0 [some (.ref 55)] (r.toList ++ [.int 68, .ref 65]) M1))) : kX13_readFields_132 mc ms X Q 0 0 [some (.ref 55)] [.int s0] M := ⟨fun c132 => (h.1 c132), fun c132 => ⟨(fxs_55 hW), 65, (fxr_55_16 hW), ⟨Nat.le_of_ble_eq_true rfl, rfl, (fxs_55 hW), 0, 0, Nat.zero_le _, Nat.zero_le _, (h.2 c132)⟩⟩⟩
theorem vkX13_readFields_148 {mc ms : Nat} {X : Nat → zV} {Q : zQt} {M : zM} {s0 : Int32} {s1 : Int32} (hW : zFix M)  (h : vp_in s1 414 ∧ ∀ M148 : zM, M148 = (zsI M 65 (s1 : Int32).toNatClampNeg s0) → (((M148 : zM).1 65 (68 : Int32).toNatClampNeg) < (1 : Int32) → X 180 0 0 [] [] M148) ∧ (¬ ((M148 : zM).1 65 (68 : Int32).toNatClampNeg) < (1 : Int32) → ((M148.1 55 22) ≤ (M148.1 55 21) → X 185 0 0 [] [] M148) ∧ (¬ (M148.1 55 22) ≤ (M148.1 55 21) → wX13_peek 0 0 [.ref 55] M148 (fun r M1 => kX13_readFields_175 mc ms X Q 0 0 [some (.ref 55)] (r.toList ++ []) M1)))) : kX13_readFields_148 mc ms X Q 0 0 [some (.ref 55)] [.int s0, .int s1, .ref 65] M := ⟨414, (fxs_65 hW), h.1, (have h148 := h.2 _ rfl; ⟨(fxs_55 hW), 65, (fxr_55_16 hW), ⟨414, (fxs_65 hW), by unfold vp_in; decide, ⟨fun c157 => (h148.1 c157), fun c157 => ⟨(fxs_55 hW), ⟨(fxs_55 hW), ⟨fun c168 => ((h148.2 c157).1 c168), fun c168 => ⟨Nat.le_of_ble_eq_true rfl, rfl, (fxs_55 hW), 0, 0, Nat.zero_le _, Nat.zero_le _, ((h148.2 c157).2 c168)⟩⟩⟩⟩⟩⟩⟩)⟩
theorem vkX13_readFields_175 {mc ms : Nat} {X : Nat → zV} {Q : zQt} {M : zM} {s0 : Int32} (hW : zFix M)  (h : (s0 = (32 : Int32) → X 185 0 0 [] [] M) ∧ (¬ s0 = (32 : Int32) → X 180 0 0 [] [] M)) : kX13_readFields_175 mc ms X Q 0 0 [some (.ref 55)] [.int s0] M := ⟨fun c177 => (h.1 c177), fun c177 => (h.2 c177)⟩
