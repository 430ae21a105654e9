theorem dX9_sign_0 : decode cX9_sign 0 = .ok (.iconst 0, 1) := by decide +kernel
theorem dX9_sign_1 : decode cX9_sign 1 = .ok (.istore_n 3, 1) := by decide +kernel
theorem dX9_sign_2 : decode cX9_sign 2 = .ok (.aload_n 1, 1) := by decide +kernel
theorem dX9_sign_3 : decode cX9_sign 3 = .ok (.getfield 28, 3) := by decide +kernel
theorem dX9_sign_6 : decode cX9_sign 6 = .ok (.iload_n 2, 1) := by decide +kernel
theorem dX9_sign_7 : decode cX9_sign 7 = .ok (.invokevirtual 66, 3) := by decide +kernel
theorem dX9_sign_10 : decode cX9_sign 10 = .ok (.aload_n 1, 1) := by decide +kernel
theorem dX9_sign_11 : decode cX9_sign 11 = .ok (.getfield 28, 3) := by decide +kernel
theorem dX9_sign_14 : decode cX9_sign 14 = .ok (.invokevirtual 70, 3) := by decide +kernel
theorem dX9_sign_17 : decode cX9_sign 17 = .ok (.ifCond .eq 27, 3) := by decide +kernel
theorem dX9_sign_20 : decode cX9_sign 20 = .ok (.aload_n 1, 1) := by decide +kernel
theorem dX9_sign_21 : decode cX9_sign 21 = .ok (.getfield 74, 3) := by decide +kernel
theorem dX9_sign_24 : decode cX9_sign 24 = .ok (.aload_n 0, 1) := by decide +kernel
theorem dX9_sign_25 : decode cX9_sign 25 = .ok (.getfield 9, 3) := by decide +kernel
theorem dX9_sign_28 : decode cX9_sign 28 = .ok (.iconst 0, 1) := by decide +kernel
theorem dX9_sign_29 : decode cX9_sign 29 = .ok (.iconst 1, 1) := by decide +kernel
theorem dX9_sign_30 : decode cX9_sign 30 = .ok (.invokevirtual 78, 3) := by decide +kernel
theorem dX9_sign_33 : decode cX9_sign 33 = .ok (.ifCond .ne 8, 3) := by decide +kernel
theorem dX9_sign_36 : decode cX9_sign 36 = .ok (.bipush 35, 2) := by decide +kernel
theorem dX9_sign_38 : decode cX9_sign 38 = .ok (.goto 5, 3) := by decide +kernel
theorem dX9_sign_41 : decode cX9_sign 41 = .ok (.bipush 43, 2) := by decide +kernel
theorem dX9_sign_43 : decode cX9_sign 43 = .ok (.istore_n 3, 1) := by decide +kernel
theorem dX9_sign_44 : decode cX9_sign 44 = .ok (.aload_n 1, 1) := by decide +kernel
theorem dX9_sign_45 : decode cX9_sign 45 = .ok (.getfield 28, 3) := by decide +kernel
theorem dX9_sign_48 : decode cX9_sign 48 = .ok (.iload_n 2, 1) := by decide +kernel
theorem dX9_sign_49 : decode cX9_sign 49 = .ok (.invokevirtual 84, 3) := by decide +kernel
theorem dX9_sign_52 : decode cX9_sign 52 = .ok (.iload_n 3, 1) := by decide +kernel
theorem dX9_sign_53 : decode cX9_sign 53 = .ok (.ireturn, 1) := by decide +kernel
def kX9_sign_33 (mc ms : Nat) (X : Nat → zV) (Q : zQt) : zT :=
  zif (fun x => x = 0) (zc (.int 35) <| zj X 43 [1, 2]) <| zc (.int 43) <| zj X 43 [1, 2]
def kX9_sign_17 (mc ms : Nat) (X : Nat → zV) (Q : zQt) : zT :=
  zif (fun x => x = 0) (zj X 44 [1, 2, 3]) <| zla 1 <| zgR 4 1 <| zla 0 <| zgR 9 0 <| zc (.int 0) <| zc (.int 1) <| zcv mc ms 5 3 wX5_fill <| kX9_sign_33 mc ms X Q
def kX9_sign_10 (mc ms : Nat) (X : Nat → zV) (Q : zQt) : zT :=
  zla 1 <| zgR 4 0 <| zcv mc ms 0 0 wX0_inCheck <| kX9_sign_17 mc ms X Q
def kX9_sign_52 (mc ms : Nat) (X : Nat → zV) (Q : zQt) : zT :=
  zli 3 <| zri Q
def aX9_sign_0 (mc ms : Nat) (X : Nat → zV) (Q : zQt) : zT :=
  zc (.int 0) <| zsi 3 <| zla 1 <| zgR 4 0 <| zli 2 <| zcv mc ms 0 1 wX0_make <| kX9_sign_10 mc ms X Q
def aX9_sign_43 (mc ms : Nat) (X : Nat → zV) (Q : zQt) : zT :=
  zsi 3 <| zj X 44 [1, 2, 3]
def aX9_sign_44 (mc ms : Nat) (X : Nat → zV) (Q : zQt) : zT :=
  zla 1 <| zgR 4 0 <| zli 2 <| zcv mc ms 0 1 wX0_unmake <| kX9_sign_52 mc ms X Q
def lvX9_sign : Nat → List Nat := fun L => match L with
  | 0 => [0, 1, 2]
  | 43 => [1, 2]
  | 44 => [1, 2, 3]
  | _ => []
def wX9_sign : zSp := fun mc ms av M Q => ((zlay av).length ≤ 4 ∧ zpick (zlay av) [0, 1, 2] = some av) ∧ ∀ X : Nat → zV, zin 4 [0, 1, 2] (aX9_sign_0 mc ms X Q) X 0 → zin 4 [1, 2] (aX9_sign_43 mc ms X Q) X 43 → zin 4 [1, 2, 3] (aX9_sign_44 mc ms X Q) X 44 → X 0 0 0 av [] M
set_option maxRecDepth 100000 in
set_option maxHeartbeats 4000000 in
theorem sX9_sign (l : Launch) (G : zG) (hG : zStat G) : zSnd l G yX9_sign cX9_sign 4 (some .int) 5 131 wX9_sign := by
  refine zmk [0, 1, 2] (by decide) (fun mc ms av M Q h => h.1) ?_
  intro p e R s m args below meth c mc ms av M Q hC hRf hRl hr hnm h lv hlv
  obtain ⟨X, hXe⟩ : ∃ X : Nat → zV, X = fun L u v vs st M => ∀ lv, zpick lv (lvX9_sign L) = some vs → zAt p l e R s m args below meth c (MQ below (zQ G Q) args s mc ms (zA G)) G 4 L u v lv st M := ⟨_, rfl⟩
  have hJ : ∀ L, zOk p l e R s m args below meth c (MQ below (zQ G Q) args s mc ms (zA G)) G 4 L (zj X L (lvX9_sign L)) := fun L => S_jump (fun u v lv vs st M hp hx => by rw [hXe] at hx; exact hx lv hp)
  have hB0 : zin 4 [0, 1, 2] (aX9_sign_0 mc ms X Q) X 0 := by
    intro u v vs st M hb
    rw [hXe]
    refine fun lv hp => S_block (L := 0) (live := [0, 1, 2]) ?_ u v lv vs st M hp hb
    unfold aX9_sign_0
    refine S_iconst (pc := 0) hC dX9_sign_0 (by decide) ?_
    refine S_istore_n (pc := 1) hC dX9_sign_1 rfl (by decide) ?_
    refine S_aload_n (pc := 2) hC dX9_sign_2 rfl ?_
    refine S_getR (pc := 3) hC cfX4 (by decide) (Or.inl ⟨_, rfl⟩) wd_308 dX9_sign_3 ?_
    refine S_iload_n (pc := 6) hC dX9_sign_6 rfl ?_
    refine S_callV (pc := 7) hC (sX0_make l G hG) rfl wd_931 wd_812 wd_813 wd_10 wd_814 (by decide +kernel) ⟨by rw [hRf]; decide, by rw [hRl]; decide⟩ dX9_sign_7 ?_
    unfold kX9_sign_10
    refine S_aload_n (pc := 10) hC dX9_sign_10 rfl ?_
    refine S_getR (pc := 11) hC cfX4 (by decide) (Or.inl ⟨_, rfl⟩) wd_308 dX9_sign_11 ?_
    refine S_callV (pc := 14) hC (sX0_inCheck l G) rfl wd_932 wd_827 wd_828 wd_10 wd_829 (by decide +kernel) ⟨by rw [hRf]; decide, by rw [hRl]; decide⟩ dX9_sign_14 ?_
    unfold kX9_sign_17
    refine S_if_eq (pc := 17) (tgt := 44) hC dX9_sign_17 (by decide) ?_ ?_
    · exact hJ 44
    · refine S_aload_n (pc := 20) hC dX9_sign_20 rfl ?_
      refine S_getR (pc := 21) hC cfX4 (by decide) (Or.inl ⟨_, rfl⟩) wd_314 dX9_sign_21 ?_
      refine S_aload_n (pc := 24) hC dX9_sign_24 rfl ?_
      refine S_getR (pc := 25) hC cfX9 (by decide) (Or.inr ⟨_, rfl⟩) wd_95 dX9_sign_25 ?_
      refine S_iconst (pc := 28) hC dX9_sign_28 (by decide) ?_
      refine S_iconst (pc := 29) hC dX9_sign_29 (by decide) ?_
      refine S_callV (pc := 30) hC (sX5_fill l G) rfl wd_933 wd_423 wd_424 wd_11 wd_425 (by decide +kernel) ⟨by rw [hRf]; decide, by rw [hRl]; decide⟩ dX9_sign_30 ?_
      unfold kX9_sign_33
      refine S_if_ne (pc := 33) (tgt := 41) hC dX9_sign_33 (by decide) ?_ ?_
      · refine S_bipush (pc := 41) hC dX9_sign_41 (by decide) ?_
        exact hJ 43
      · refine S_bipush (pc := 36) hC dX9_sign_36 (by decide) ?_
        refine S_goto (pc := 38) (tgt := 43) hC dX9_sign_38 (by decide) ?_
        exact hJ 43
  have hB43 : zin 4 [1, 2] (aX9_sign_43 mc ms X Q) X 43 := by
    intro u v vs st M hb
    rw [hXe]
    refine fun lv hp => S_block (L := 43) (live := [1, 2]) ?_ u v lv vs st M hp hb
    unfold aX9_sign_43
    refine S_istore_n (pc := 43) hC dX9_sign_43 rfl (by decide) ?_
    exact hJ 44
  have hB44 : zin 4 [1, 2, 3] (aX9_sign_44 mc ms X Q) X 44 := by
    intro u v vs st M hb
    rw [hXe]
    refine fun lv hp => S_block (L := 44) (live := [1, 2, 3]) ?_ u v lv vs st M hp hb
    unfold aX9_sign_44
    refine S_aload_n (pc := 44) hC dX9_sign_44 rfl ?_
    refine S_getR (pc := 45) hC cfX4 (by decide) (Or.inl ⟨_, rfl⟩) wd_308 dX9_sign_45 ?_
    refine S_iload_n (pc := 48) hC dX9_sign_48 rfl ?_
    refine S_callV (pc := 49) hC (sX0_unmake l G hG) rfl wd_934 wd_403 wd_404 wd_10 wd_405 (by decide +kernel) ⟨by rw [hRf]; decide, by rw [hRl]; decide⟩ dX9_sign_49 ?_
    unfold kX9_sign_52
    refine S_iload_n (pc := 52) hC dX9_sign_52 rfl ?_
    exact S_ireturn (pc := 53) hC hr dX9_sign_53
  have := h.2 X hB0 hB43 hB44
  rw [hXe] at this
  exact this lv hlv
theorem vX9_sign_0 {mc ms : Nat} {X : Nat → zV} {Q : zQt} {M : zM} {g : Nat} {x2 : Int32} (hW : zWd M g)  (h : wX0_make 0 0 [.ref (g + 1), .int x2] M (fun r M1 => kX9_sign_10 mc ms X Q 0 0 [some (.ref 25), some (.ref g), some (.int x2), some (.int 0)] (r.toList ++ []) M1)) : aX9_sign_0 mc ms X Q 0 0 [some (.ref 25), some (.ref g), some (.int x2), none] [] M := ⟨(fgs_0 hW), (g + 1), (fgr_0_0 hW), ⟨Nat.le_of_ble_eq_true rfl, rfl, (fgs_1 hW), 0, 0, Nat.zero_le _, Nat.zero_le _, h⟩⟩
theorem vX9_sign_43 {mc ms : Nat} {X : Nat → zV} {Q : zQt} {M : zM} {g : Nat} {x2 : Int32} {s0 : Int32} (hW : zWd M g)  (h : X 44 0 0 [.ref g, .int x2, .int s0] [] M) : aX9_sign_43 mc ms X Q 0 0 [none, some (.ref g), some (.int x2), none] [.int s0] M := h
theorem vX9_sign_44 {mc ms : Nat} {X : Nat → zV} {Q : zQt} {M : zM} {g : Nat} {x2 : Int32} {x3 : Int32} (hW : zWd M g)  (h : wX0_unmake 0 0 [.ref (g + 1), .int x2] M (fun r M1 => kX9_sign_52 mc ms X Q 0 0 [none, some (.ref g), some (.int x2), some (.int x3)] (r.toList ++ []) M1)) : aX9_sign_44 mc ms X Q 0 0 [none, some (.ref g), some (.int x2), some (.int x3)] [] M := ⟨(fgs_0 hW), (g + 1), (fgr_0_0 hW), ⟨Nat.le_of_ble_eq_true rfl, rfl, (fgs_1 hW), 0, 0, Nat.zero_le _, Nat.zero_le _, h⟩⟩
theorem vkX9_sign_10 {mc ms : Nat} {X : Nat → zV} {Q : zQt} {M : zM} {g : Nat} {x2 : Int32} {x3 : Int32} (hW : zWd M g)  (h : wX0_inCheck 0 0 [.ref (g + 1)] M (fun r M1 => kX9_sign_17 mc ms X Q 0 0 [some (.ref 25), some (.ref g), some (.int x2), some (.int x3)] (r.toList ++ []) M1)) : kX9_sign_10 mc ms X Q 0 0 [some (.ref 25), some (.ref g), some (.int x2), some (.int x3)] [] M := ⟨(fgs_0 hW), (g + 1), (fgr_0_0 hW), ⟨Nat.le_of_ble_eq_true rfl, rfl, (fgs_1 hW), 0, 0, Nat.zero_le _, Nat.zero_le _, h⟩⟩
theorem vkX9_sign_17 {mc ms : Nat} {X : Nat → zV} {Q : zQt} {M : zM} {g : Nat} {x2 : Int32} {x3 : Int32} {s0 : Int32} (hW : zWd M g)  (h : (s0 = 0 → X 44 0 0 [.ref g, .int x2, .int x3] [] M) ∧ (¬ s0 = 0 → wX5_fill 0 0 [.ref (g + 6), .ref 26, .int 0, .int 1] M (fun r M1 => kX9_sign_33 mc ms X Q 0 0 [some (.ref 25), some (.ref g), some (.int x2), some (.int x3)] (r.toList ++ []) M1))) : kX9_sign_17 mc ms X Q 0 0 [some (.ref 25), some (.ref g), some (.int x2), some (.int x3)] [.int s0] M := ⟨fun c17 => (h.1 c17), fun c17 => ⟨(fgs_0 hW), (g + 6), (fgr_0_1 hW), ⟨(fxs_25 hW.1), 26, (fxr_25_0 hW.1), ⟨Nat.le_of_ble_eq_true rfl, rfl, (fgs_6 hW), 0, 0, Nat.zero_le _, Nat.zero_le _, (h.2 c17)⟩⟩⟩⟩
theorem vkX9_sign_33 {mc ms : Nat} {X : Nat → zV} {Q : zQt} {M : zM} {g : Nat} {x2 : Int32} {x3 : Int32} {s0 : Int32} (hW : zWd M g)  (h : (s0 = 0 → X 43 0 0 [.ref g, .int x2] [.int 35] M) ∧ (¬ s0 = 0 → X 43 0 0 [.ref g, .int x2] [.int 43] M)) : kX9_sign_33 mc ms X Q 0 0 [some (.ref 25), some (.ref g), some (.int x2), some (.int x3)] [.int s0] M := ⟨fun c33 => (h.1 c33), fun c33 => (h.2 c33)⟩
theorem vkX9_sign_52 {mc ms : Nat} {X : Nat → zV} {Q : zQt} {M : zM} {g : Nat} {x2 : Int32} {x3 : Int32} (hW : zWd M g)  (h : Q (some (.int x3)) M) : kX9_sign_52 mc ms X Q 0 0 [none, some (.ref g), some (.int x2), some (.int x3)] [] M := h
theorem dX4_add_0 : decode cX4_add 0 = .ok (.iload_n 1, 1) := by decide +kernel
theorem dX4_add_1 : decode cX4_add 1 = .ok (.iconst (-1), 1) := by decide +kernel
theorem dX4_add_2 : decode cX4_add 2 = .ok (.if_icmp .eq 11, 3) := by decide +kernel
theorem dX4_add_5 : decode cX4_add 5 = .ok (.aload_n 0, 1) := by decide +kernel
theorem dX4_add_6 : decode cX4_add 6 = .ok (.getfield 14, 3) := by decide +kernel
theorem dX4_add_9 : decode cX4_add 9 = .ok (.iload_n 1, 1) := by decide +kernel
theorem dX4_add_10 : decode cX4_add 10 = .ok (.invokevirtual 48, 3) := by decide +kernel
theorem dX4_add_13 : decode cX4_add 13 = .ok (.aload_n 0, 1) := by decide +kernel
theorem dX4_add_14 : decode cX4_add 14 = .ok (.aload_n 0, 1) := by decide +kernel
theorem dX4_add_15 : decode cX4_add 15 = .ok (.getfield 25, 3) := by decide +kernel
theorem dX4_add_18 : decode cX4_add 18 = .ok (.aload_n 0, 1) := by decide +kernel
theorem dX4_add_19 : decode cX4_add 19 = .ok (.getfield 29, 3) := by decide +kernel
theorem dX4_add_22 : decode cX4_add 22 = .ok (.iconst 0, 1) := by decide +kernel
theorem dX4_add_23 : decode cX4_add 23 = .ok (.sipush 384, 3) := by decide +kernel
theorem dX4_add_26 : decode cX4_add 26 = .ok (.invokevirtual 51, 3) := by decide +kernel
theorem dX4_add_29 : decode cX4_add 29 = .ok (.putfield 55, 3) := by decide +kernel
theorem dX4_add_32 : decode cX4_add 32 = .ok (.aload_n 0, 1) := by decide +kernel
theorem dX4_add_33 : decode cX4_add 33 = .ok (.getfield 40, 3) := by decide +kernel
theorem dX4_add_36 : decode cX4_add 36 = .ok (.istore_n 2, 1) := by decide +kernel
theorem dX4_add_37 : decode cX4_add 37 = .ok (.iload_n 2, 1) := by decide +kernel
theorem dX4_add_38 : decode cX4_add 38 = .ok (.bipush 8, 2) := by decide +kernel
theorem dX4_add_40 : decode cX4_add 40 = .ok (.imul, 1) := by decide +kernel
theorem dX4_add_41 : decode cX4_add 41 = .ok (.istore_n 3, 1) := by decide +kernel
theorem dX4_add_42 : decode cX4_add 42 = .ok (.aload_n 0, 1) := by decide +kernel
theorem dX4_add_43 : decode cX4_add 43 = .ok (.dup, 1) := by decide +kernel
theorem dX4_add_44 : decode cX4_add 44 = .ok (.getfield 40, 3) := by decide +kernel
theorem dX4_add_47 : decode cX4_add 47 = .ok (.iconst 1, 1) := by decide +kernel
theorem dX4_add_48 : decode cX4_add 48 = .ok (.iadd, 1) := by decide +kernel
theorem dX4_add_49 : decode cX4_add 49 = .ok (.putfield 40, 3) := by decide +kernel
theorem dX4_add_52 : decode cX4_add 52 = .ok (.aload_n 0, 1) := by decide +kernel
theorem dX4_add_53 : decode cX4_add 53 = .ok (.getfield 33, 3) := by decide +kernel
theorem dX4_add_56 : decode cX4_add 56 = .ok (.iload_n 3, 1) := by decide +kernel
theorem dX4_add_57 : decode cX4_add 57 = .ok (.iconst 1, 1) := by decide +kernel
theorem dX4_add_58 : decode cX4_add 58 = .ok (.iadd, 1) := by decide +kernel
theorem dX4_add_59 : decode cX4_add 59 = .ok (.aload_n 0, 1) := by decide +kernel
theorem dX4_add_60 : decode cX4_add 60 = .ok (.getfield 14, 3) := by decide +kernel
theorem dX4_add_63 : decode cX4_add 63 = .ok (.getfield 58, 3) := by decide +kernel
theorem dX4_add_66 : decode cX4_add 66 = .ok (.iastore, 1) := by decide +kernel
theorem dX4_add_67 : decode cX4_add 67 = .ok (.aload_n 0, 1) := by decide +kernel
theorem dX4_add_68 : decode cX4_add 68 = .ok (.getfield 33, 3) := by decide +kernel
theorem dX4_add_71 : decode cX4_add 71 = .ok (.iload_n 3, 1) := by decide +kernel
theorem dX4_add_72 : decode cX4_add 72 = .ok (.iconst 3, 1) := by decide +kernel
theorem dX4_add_73 : decode cX4_add 73 = .ok (.iadd, 1) := by decide +kernel
theorem dX4_add_74 : decode cX4_add 74 = .ok (.iload_n 1, 1) := by decide +kernel
theorem dX4_add_75 : decode cX4_add 75 = .ok (.iastore, 1) := by decide +kernel
theorem dX4_add_76 : decode cX4_add 76 = .ok (.aload_n 0, 1) := by decide +kernel
theorem dX4_add_77 : decode cX4_add 77 = .ok (.getfield 33, 3) := by decide +kernel
theorem dX4_add_80 : decode cX4_add 80 = .ok (.iload_n 3, 1) := by decide +kernel
theorem dX4_add_81 : decode cX4_add 81 = .ok (.iconst 4, 1) := by decide +kernel
theorem dX4_add_82 : decode cX4_add 82 = .ok (.iadd, 1) := by decide +kernel
theorem dX4_add_83 : decode cX4_add 83 = .ok (.aload_n 0, 1) := by decide +kernel
theorem dX4_add_84 : decode cX4_add 84 = .ok (.getfield 55, 3) := by decide +kernel
theorem dX4_add_87 : decode cX4_add 87 = .ok (.iastore, 1) := by decide +kernel
theorem dX4_add_88 : decode cX4_add 88 = .ok (.aload_n 0, 1) := by decide +kernel
theorem dX4_add_89 : decode cX4_add 89 = .ok (.getfield 33, 3) := by decide +kernel
theorem dX4_add_92 : decode cX4_add 92 = .ok (.iload_n 3, 1) := by decide +kernel
theorem dX4_add_93 : decode cX4_add 93 = .ok (.iconst 5, 1) := by decide +kernel
theorem dX4_add_94 : decode cX4_add 94 = .ok (.iadd, 1) := by decide +kernel
theorem dX4_add_95 : decode cX4_add 95 = .ok (.aload_n 0, 1) := by decide +kernel
theorem dX4_add_96 : decode cX4_add 96 = .ok (.getfield 14, 3) := by decide +kernel
theorem dX4_add_99 : decode cX4_add 99 = .ok (.invokevirtual 61, 3) := by decide +kernel
theorem dX4_add_102 : decode cX4_add 102 = .ok (.ifCond .eq 7, 3) := by decide +kernel
theorem dX4_add_105 : decode cX4_add 105 = .ok (.iconst 1, 1) := by decide +kernel
theorem dX4_add_106 : decode cX4_add 106 = .ok (.goto 4, 3) := by decide +kernel
theorem dX4_add_109 : decode cX4_add 109 = .ok (.iconst 0, 1) := by decide +kernel
theorem dX4_add_110 : decode cX4_add 110 = .ok (.iastore, 1) := by decide +kernel
theorem dX4_add_111 : decode cX4_add 111 = .ok (.aload_n 0, 1) := by decide +kernel
theorem dX4_add_112 : decode cX4_add 112 = .ok (.getfield 33, 3) := by decide +kernel
theorem dX4_add_115 : decode cX4_add 115 = .ok (.iload_n 3, 1) := by decide +kernel
theorem dX4_add_116 : decode cX4_add 116 = .ok (.bipush 7, 2) := by decide +kernel
theorem dX4_add_118 : decode cX4_add 118 = .ok (.iadd, 1) := by decide +kernel
theorem dX4_add_119 : decode cX4_add 119 = .ok (.aload_n 0, 1) := by decide +kernel
theorem dX4_add_120 : decode cX4_add 120 = .ok (.invokevirtual 65, 3) := by decide +kernel
theorem dX4_add_123 : decode cX4_add 123 = .ok (.iastore, 1) := by decide +kernel
theorem dX4_add_124 : decode cX4_add 124 = .ok (.aload_n 0, 1) := by decide +kernel
theorem dX4_add_125 : decode cX4_add 125 = .ok (.iload_n 2, 1) := by decide +kernel
theorem dX4_add_126 : decode cX4_add 126 = .ok (.invokevirtual 69, 3) := by decide +kernel
theorem dX4_add_129 : decode cX4_add 129 = .ok (.aload_n 0, 1) := by decide +kernel
theorem dX4_add_130 : decode cX4_add 130 = .ok (.iload_n 2, 1) := by decide +kernel
theorem dX4_add_131 : decode cX4_add 131 = .ok (.invokevirtual 72, 3) := by decide +kernel
theorem dX4_add_134 : decode cX4_add 134 = .ok (.istore 4, 2) := by decide +kernel
theorem dX4_add_136 : decode cX4_add 136 = .ok (.aload_n 0, 1) := by decide +kernel
theorem dX4_add_137 : decode cX4_add 137 = .ok (.getfield 33, 3) := by decide +kernel
theorem dX4_add_140 : decode cX4_add 140 = .ok (.iload_n 3, 1) := by decide +kernel
theorem dX4_add_141 : decode cX4_add 141 = .ok (.iconst 0, 1) := by decide +kernel
theorem dX4_add_142 : decode cX4_add 142 = .ok (.iadd, 1) := by decide +kernel
theorem dX4_add_143 : decode cX4_add 143 = .ok (.iload 4, 2) := by decide +kernel
theorem dX4_add_145 : decode cX4_add 145 = .ok (.iconst (-1), 1) := by decide +kernel
theorem dX4_add_146 : decode cX4_add 146 = .ok (.if_icmp .ne 7, 3) := by decide +kernel
theorem dX4_add_149 : decode cX4_add 149 = .ok (.iconst 1, 1) := by decide +kernel
theorem dX4_add_150 : decode cX4_add 150 = .ok (.goto 17, 3) := by decide +kernel
theorem dX4_add_153 : decode cX4_add 153 = .ok (.aload_n 0, 1) := by decide +kernel
theorem dX4_add_154 : decode cX4_add 154 = .ok (.getfield 33, 3) := by decide +kernel
theorem dX4_add_157 : decode cX4_add 157 = .ok (.iload 4, 2) := by decide +kernel
theorem dX4_add_159 : decode cX4_add 159 = .ok (.bipush 8, 2) := by decide +kernel
theorem dX4_add_161 : decode cX4_add 161 = .ok (.imul, 1) := by decide +kernel
theorem dX4_add_162 : decode cX4_add 162 = .ok (.iconst 0, 1) := by decide +kernel
theorem dX4_add_163 : decode cX4_add 163 = .ok (.iadd, 1) := by decide +kernel
theorem dX4_add_164 : decode cX4_add 164 = .ok (.iaload, 1) := by decide +kernel
theorem dX4_add_165 : decode cX4_add 165 = .ok (.iconst 1, 1) := by decide +kernel
theorem dX4_add_166 : decode cX4_add 166 = .ok (.iadd, 1) := by decide +kernel
theorem dX4_add_167 : decode cX4_add 167 = .ok (.iastore, 1) := by decide +kernel
theorem dX4_add_168 : decode cX4_add 168 = .ok (.aload_n 0, 1) := by decide +kernel
theorem dX4_add_169 : decode cX4_add 169 = .ok (.getfield 33, 3) := by decide +kernel
theorem dX4_add_172 : decode cX4_add 172 = .ok (.iload_n 3, 1) := by decide +kernel
theorem dX4_add_173 : decode cX4_add 173 = .ok (.bipush 6, 2) := by decide +kernel
theorem dX4_add_175 : decode cX4_add 175 = .ok (.iadd, 1) := by decide +kernel
theorem dX4_add_176 : decode cX4_add 176 = .ok (.iload 4, 2) := by decide +kernel
theorem dX4_add_178 : decode cX4_add 178 = .ok (.iconst (-1), 1) := by decide +kernel
theorem dX4_add_179 : decode cX4_add 179 = .ok (.if_icmp .ne 7, 3) := by decide +kernel
theorem dX4_add_182 : decode cX4_add 182 = .ok (.iload_n 2, 1) := by decide +kernel
theorem dX4_add_183 : decode cX4_add 183 = .ok (.goto 16, 3) := by decide +kernel
theorem dX4_add_186 : decode cX4_add 186 = .ok (.aload_n 0, 1) := by decide +kernel
theorem dX4_add_187 : decode cX4_add 187 = .ok (.getfield 33, 3) := by decide +kernel
theorem dX4_add_190 : decode cX4_add 190 = .ok (.iload 4, 2) := by decide +kernel
theorem dX4_add_192 : decode cX4_add 192 = .ok (.bipush 8, 2) := by decide +kernel
theorem dX4_add_194 : decode cX4_add 194 = .ok (.imul, 1) := by decide +kernel
theorem dX4_add_195 : decode cX4_add 195 = .ok (.bipush 6, 2) := by decide +kernel
theorem dX4_add_197 : decode cX4_add 197 = .ok (.iadd, 1) := by decide +kernel
theorem dX4_add_198 : decode cX4_add 198 = .ok (.iaload, 1) := by decide +kernel
theorem dX4_add_199 : decode cX4_add 199 = .ok (.iastore, 1) := by decide +kernel
theorem dX4_add_200 : decode cX4_add 200 = .ok (.aload_n 0, 1) := by decide +kernel
theorem dX4_add_201 : decode cX4_add 201 = .ok (.getfield 33, 3) := by decide +kernel
theorem dX4_add_204 : decode cX4_add 204 = .ok (.iload_n 3, 1) := by decide +kernel
theorem dX4_add_205 : decode cX4_add 205 = .ok (.iconst 2, 1) := by decide +kernel
theorem dX4_add_206 : decode cX4_add 206 = .ok (.iadd, 1) := by decide +kernel
theorem dX4_add_207 : decode cX4_add 207 = .ok (.aload_n 0, 1) := by decide +kernel
theorem dX4_add_208 : decode cX4_add 208 = .ok (.iload_n 3, 1) := by decide +kernel
theorem dX4_add_209 : decode cX4_add 209 = .ok (.invokevirtual 76, 3) := by decide +kernel
theorem dX4_add_212 : decode cX4_add 212 = .ok (.iastore, 1) := by decide +kernel
theorem dX4_add_213 : decode cX4_add 213 = .ok (.return_, 1) := by decide +kernel
def kX4_add_13 (mc ms : Nat) (X : Nat → zV) (Q : zQt) : zT :=
  zj X 13 [0, 1]
def kX4_add_102 (mc ms : Nat) (X : Nat → zV) (Q : zQt) : zT :=
  zif (fun x => x = 0) (zc (.int 0) <| zj X 110 [0, 2, 3]) <| zc (.int 1) <| zj X 110 [0, 2, 3]
def kX4_add_29 (mc ms : Nat) (X : Nat → zV) (Q : zQt) : zT :=
  zpi 4 3 <| zla 0 <| zgi 4 4 <| zsi 2 <| zli 2 <| zc (.int 8) <| zii (fun x y => x * y) <| zsi 3 <| zla 0 <| zdup <| zgi 4 4 <| zc (.int 1) <| zii (fun x y => x + y) <| zpi 4 4 <| zla 0 <| zgR 4 5 <| zli 3 <| zc (.int 1) <| zii (fun x y => x + y) <| zla 0 <| zgR 4 0 <| zgi 0 7 <| zas 1 (fun x => x) <| zla 0 <| zgR 4 5 <| zli 3 <| zc (.int 3) <| zii (fun x y => x + y) <| zli 1 <| zas 1 (fun x => x) <| zla 0 <| zgR 4 5 <| zli 3 <| zc (.int 4) <| zii (fun x y => x + y) <| zla 0 <| zgi 4 3 <| zas 1 (fun x => x) <| zla 0 <| zgR 4 5 <| zli 3 <| zc (.int 5) <| zii (fun x y => x + y) <| zla 0 <| zgR 4 0 <| zcv mc ms 0 0 wX0_inCheck <| kX4_add_102 mc ms X Q
def kX4_add_134 (mc ms : Nat) (X : Nat → zV) (Q : zQt) : zT :=
  zsi 4 <| zla 0 <| zgR 4 5 <| zli 3 <| zc (.int 0) <| zii (fun x y => x + y) <| zli 4 <| zc (.int (-1)) <| zic (fun x y => x = y) (zc (.int 1) <| zj X 167 [0, 2, 3, 4]) <| zla 0 <| zgR 4 5 <| zli 4 <| zc (.int 8) <| zii (fun x y => x * y) <| zc (.int 0) <| zii (fun x y => x + y) <| zal 1 <| zc (.int 1) <| zii (fun x y => x + y) <| zj X 167 [0, 2, 3, 4]
def kX4_add_129 (mc ms : Nat) (X : Nat → zV) (Q : zQt) : zT :=
  zla 0 <| zli 2 <| zcv mc ms 4 1 wX4_latestSame <| kX4_add_134 mc ms X Q
def kX4_add_123 (mc ms : Nat) (X : Nat → zV) (Q : zQt) : zT :=
  zas 1 (fun x => x) <| zla 0 <| zli 2 <| zcv mc ms 4 1 wX4_writeKeys <| kX4_add_129 mc ms X Q
def kX4_add_212 (mc ms : Nat) (X : Nat → zV) (Q : zQt) : zT :=
  zas 1 (fun x => x) <| zrv Q
def aX4_add_0 (mc ms : Nat) (X : Nat → zV) (Q : zQt) : zT :=
  zli 1 <| zc (.int (-1)) <| zic (fun x y => x = y) (zj X 13 [0, 1]) <| zla 0 <| zgR 4 0 <| zli 1 <| zcv mc ms 0 1 wX0_make <| kX4_add_13 mc ms X Q
def aX4_add_13 (mc ms : Nat) (X : Nat → zV) (Q : zQt) : zT :=
  zla 0 <| zla 0 <| zgR 4 1 <| zla 0 <| zgR 4 2 <| zc (.int 0) <| zc (.int 384) <| zcv mc ms 5 3 wX5_fill <| kX4_add_29 mc ms X Q
def aX4_add_110 (mc ms : Nat) (X : Nat → zV) (Q : zQt) : zT :=
  zas 1 (fun x => x) <| zla 0 <| zgR 4 5 <| zli 3 <| zc (.int 7) <| zii (fun x y => x + y) <| zla 0 <| zcv mc ms 4 0 wX4_passingFile <| kX4_add_123 mc ms X Q
def aX4_add_167 (mc ms : Nat) (X : Nat → zV) (Q : zQt) : zT :=
  zas 1 (fun x => x) <| zla 0 <| zgR 4 5 <| zli 3 <| zc (.int 6) <| zii (fun x y => x + y) <| zli 4 <| zc (.int (-1)) <| zic (fun x y => x = y) (zli 2 <| zj X 199 [0, 3]) <| zla 0 <| zgR 4 5 <| zli 4 <| zc (.int 8) <| zii (fun x y => x * y) <| zc (.int 6) <| zii (fun x y => x + y) <| zal 1 <| zj X 199 [0, 3]
def aX4_add_199 (mc ms : Nat) (X : Nat → zV) (Q : zQt) : zT :=
  zas 1 (fun x => x) <| zla 0 <| zgR 4 5 <| zli 3 <| zc (.int 2) <| zii (fun x y => x + y) <| zla 0 <| zli 3 <| zcv mc ms 4 1 wX4_judge <| kX4_add_212 mc ms X Q
def lvX4_add : Nat → List Nat := fun L => match L with
  | 0 => [0, 1]
  | 13 => [0, 1]
  | 110 => [0, 2, 3]
  | 167 => [0, 2, 3, 4]
  | 199 => [0, 3]
  | _ => []
def wX4_add : zSp := fun mc ms av M Q => ((zlay av).length ≤ 5 ∧ zpick (zlay av) [0, 1] = some av) ∧ ∀ X : Nat → zV, zin 5 [0, 1] (aX4_add_0 mc ms X Q) X 0 → zin 5 [0, 1] (aX4_add_13 mc ms X Q) X 13 → zin 5 [0, 2, 3] (aX4_add_110 mc ms X Q) X 110 → zin 5 [0, 2, 3, 4] (aX4_add_167 mc ms X Q) X 167 → zin 5 [0, 3] (aX4_add_199 mc ms X Q) X 199 → X 0 0 0 av [] M
set_option maxRecDepth 100000 in
set_option maxHeartbeats 4000000 in
theorem sX4_add (l : Launch) (G : zG) (hG : zStat G) : zSnd l G yX4_add cX4_add 5 none 5 131 wX4_add := by
  refine zmk [0, 1] (by decide) (fun mc ms av M Q h => h.1) ?_
  intro p e R s m args below meth c mc ms av M Q hC hRf hRl hr hnm h lv hlv
  obtain ⟨X, hXe⟩ : ∃ X : Nat → zV, X = fun L u v vs st M => ∀ lv, zpick lv (lvX4_add L) = some vs → zAt p l e R s m args below meth c (MQ below (zQ G Q) args s mc ms (zA G)) G 5 L u v lv st M := ⟨_, rfl⟩
  have hJ : ∀ L, zOk p l e R s m args below meth c (MQ below (zQ G Q) args s mc ms (zA G)) G 5 L (zj X L (lvX4_add L)) := fun L => S_jump (fun u v lv vs st M hp hx => by rw [hXe] at hx; exact hx lv hp)
  have hB0 : zin 5 [0, 1] (aX4_add_0 mc ms X Q) X 0 := by
    intro u v vs st M hb
    rw [hXe]
    refine fun lv hp => S_block (L := 0) (live := [0, 1]) ?_ u v lv vs st M hp hb
    unfold aX4_add_0
    refine S_iload_n (pc := 0) hC dX4_add_0 rfl ?_
    refine S_iconst (pc := 1) hC dX4_add_1 (by decide) ?_
    refine S_icmp_eq (pc := 2) (tgt := 13) hC dX4_add_2 (by decide) ?_ ?_
    · exact hJ 13
    · refine S_aload_n (pc := 5) hC dX4_add_5 rfl ?_
      refine S_getR (pc := 6) hC cfX4 (by decide) (Or.inl ⟨_, rfl⟩) wd_307 dX4_add_6 ?_
      refine S_iload_n (pc := 9) hC dX4_add_9 rfl ?_
      refine S_callV (pc := 10) hC (sX0_make l G hG) rfl wd_811 wd_812 wd_813 wd_10 wd_814 (by decide +kernel) ⟨by rw [hRf]; decide, by rw [hRl]; decide⟩ dX4_add_10 ?_
      unfold kX4_add_13
      exact hJ 13
  have hB13 : zin 5 [0, 1] (aX4_add_13 mc ms X Q) X 13 := by
    intro u v vs st M hb
    rw [hXe]
    refine fun lv hp => S_block (L := 13) (live := [0, 1]) ?_ u v lv vs st M hp hb
    unfold aX4_add_13
    refine S_aload_n (pc := 13) hC dX4_add_13 rfl ?_
    refine S_aload_n (pc := 14) hC dX4_add_14 rfl ?_
    refine S_getR (pc := 15) hC cfX4 (by decide) (Or.inl ⟨_, rfl⟩) wd_312 dX4_add_15 ?_
    refine S_aload_n (pc := 18) hC dX4_add_18 rfl ?_
    refine S_getR (pc := 19) hC cfX4 (by decide) (Or.inr ⟨_, rfl⟩) wd_315 dX4_add_19 ?_
    refine S_iconst (pc := 22) hC dX4_add_22 (by decide) ?_
    refine S_sipush (pc := 23) hC dX4_add_23 (by decide) ?_
    refine S_callV (pc := 26) hC (sX5_fill l G) rfl wd_422 wd_423 wd_424 wd_11 wd_425 (by decide +kernel) ⟨by rw [hRf]; decide, by rw [hRl]; decide⟩ dX4_add_26 ?_
    unfold kX4_add_29
    refine S_puti (pc := 29) hC cfX4 (by decide) rfl (Or.inl rfl) wd_321 dX4_add_29 ?_
    refine S_aload_n (pc := 32) hC dX4_add_32 rfl ?_
    refine S_geti (pc := 33) hC cfX4 (by decide) (Or.inl rfl) wd_326 dX4_add_33 ?_
    refine S_istore_n (pc := 36) hC dX4_add_36 rfl (by decide) ?_
    refine S_iload_n (pc := 37) hC dX4_add_37 rfl ?_
    refine S_bipush (pc := 38) hC dX4_add_38 (by decide) ?_
    refine S_imul (pc := 40) hC dX4_add_40 ?_
    refine S_istore_n (pc := 41) hC dX4_add_41 rfl (by decide) ?_
    refine S_aload_n (pc := 42) hC dX4_add_42 rfl ?_
    refine S_dup (pc := 43) hC dX4_add_43 ?_
    refine S_geti (pc := 44) hC cfX4 (by decide) (Or.inl rfl) wd_326 dX4_add_44 ?_
    refine S_iconst (pc := 47) hC dX4_add_47 (by decide) ?_
    refine S_iadd (pc := 48) hC dX4_add_48 ?_
    refine S_puti (pc := 49) hC cfX4 (by decide) rfl (Or.inl rfl) wd_326 dX4_add_49 ?_
    refine S_aload_n (pc := 52) hC dX4_add_52 rfl ?_
    refine S_getR (pc := 53) hC cfX4 (by decide) (Or.inr ⟨_, rfl⟩) wd_328 dX4_add_53 ?_
    refine S_iload_n (pc := 56) hC dX4_add_56 rfl ?_
    refine S_iconst (pc := 57) hC dX4_add_57 (by decide) ?_
    refine S_iadd (pc := 58) hC dX4_add_58 ?_
    refine S_aload_n (pc := 59) hC dX4_add_59 rfl ?_
    refine S_getR (pc := 60) hC cfX4 (by decide) (Or.inl ⟨_, rfl⟩) wd_307 dX4_add_60 ?_
    refine S_geti (pc := 63) hC cfX0 (by decide) (Or.inl rfl) wd_252 dX4_add_63 ?_
    refine S_iastore (pc := 66) hC dX4_add_66 ?_
    refine S_aload_n (pc := 67) hC dX4_add_67 rfl ?_
    refine S_getR (pc := 68) hC cfX4 (by decide) (Or.inr ⟨_, rfl⟩) wd_328 dX4_add_68 ?_
    refine S_iload_n (pc := 71) hC dX4_add_71 rfl ?_
    refine S_iconst (pc := 72) hC dX4_add_72 (by decide) ?_
    refine S_iadd (pc := 73) hC dX4_add_73 ?_
    refine S_iload_n (pc := 74) hC dX4_add_74 rfl ?_
    refine S_iastore (pc := 75) hC dX4_add_75 ?_
    refine S_aload_n (pc := 76) hC dX4_add_76 rfl ?_
    refine S_getR (pc := 77) hC cfX4 (by decide) (Or.inr ⟨_, rfl⟩) wd_328 dX4_add_77 ?_
    refine S_iload_n (pc := 80) hC dX4_add_80 rfl ?_
    refine S_iconst (pc := 81) hC dX4_add_81 (by decide) ?_
    refine S_iadd (pc := 82) hC dX4_add_82 ?_
    refine S_aload_n (pc := 83) hC dX4_add_83 rfl ?_
    refine S_geti (pc := 84) hC cfX4 (by decide) (Or.inl rfl) wd_321 dX4_add_84 ?_
    refine S_iastore (pc := 87) hC dX4_add_87 ?_
    refine S_aload_n (pc := 88) hC dX4_add_88 rfl ?_
    refine S_getR (pc := 89) hC cfX4 (by decide) (Or.inr ⟨_, rfl⟩) wd_328 dX4_add_89 ?_
    refine S_iload_n (pc := 92) hC dX4_add_92 rfl ?_
    refine S_iconst (pc := 93) hC dX4_add_93 (by decide) ?_
    refine S_iadd (pc := 94) hC dX4_add_94 ?_
    refine S_aload_n (pc := 95) hC dX4_add_95 rfl ?_
    refine S_getR (pc := 96) hC cfX4 (by decide) (Or.inl ⟨_, rfl⟩) wd_307 dX4_add_96 ?_
    refine S_callV (pc := 99) hC (sX0_inCheck l G) rfl wd_826 wd_827 wd_828 wd_10 wd_829 (by decide +kernel) ⟨by rw [hRf]; decide, by rw [hRl]; decide⟩ dX4_add_99 ?_
    unfold kX4_add_102
    refine S_if_eq (pc := 102) (tgt := 109) hC dX4_add_102 (by decide) ?_ ?_
    · refine S_iconst (pc := 109) hC dX4_add_109 (by decide) ?_
      exact hJ 110
    · refine S_iconst (pc := 105) hC dX4_add_105 (by decide) ?_
      refine S_goto (pc := 106) (tgt := 110) hC dX4_add_106 (by decide) ?_
      exact hJ 110
  have hB110 : zin 5 [0, 2, 3] (aX4_add_110 mc ms X Q) X 110 := by
    intro u v vs st M hb
    rw [hXe]
    refine fun lv hp => S_block (L := 110) (live := [0, 2, 3]) ?_ u v lv vs st M hp hb
    unfold aX4_add_110
    refine S_iastore (pc := 110) hC dX4_add_110 ?_
    refine S_aload_n (pc := 111) hC dX4_add_111 rfl ?_
    refine S_getR (pc := 112) hC cfX4 (by decide) (Or.inr ⟨_, rfl⟩) wd_328 dX4_add_112 ?_
    refine S_iload_n (pc := 115) hC dX4_add_115 rfl ?_
    refine S_bipush (pc := 116) hC dX4_add_116 (by decide) ?_
    refine S_iadd (pc := 118) hC dX4_add_118 ?_
    refine S_aload_n (pc := 119) hC dX4_add_119 rfl ?_
    refine S_callV (pc := 120) hC (sX4_passingFile l G) rfl wd_833 wd_835 ws_27 wd_9 wd_836 (by decide +kernel) ⟨by rw [hRf]; decide, by rw [hRl]; decide⟩ dX4_add_120 ?_
    unfold kX4_add_123
    refine S_iastore (pc := 123) hC dX4_add_123 ?_
    refine S_aload_n (pc := 124) hC dX4_add_124 rfl ?_
    refine S_iload_n (pc := 125) hC dX4_add_125 rfl ?_
    refine S_callV (pc := 126) hC (sX4_writeKeys l G) rfl wd_838 wd_840 ws_28 wd_9 wd_841 (by decide +kernel) ⟨by rw [hRf]; decide, by rw [hRl]; decide⟩ dX4_add_126 ?_
    unfold kX4_add_129
    refine S_aload_n (pc := 129) hC dX4_add_129 rfl ?_
    refine S_iload_n (pc := 130) hC dX4_add_130 rfl ?_
    refine S_callV (pc := 131) hC (sX4_latestSame l G) rfl wd_842 wd_844 ws_29 wd_9 wd_845 (by decide +kernel) ⟨by rw [hRf]; decide, by rw [hRl]; decide⟩ dX4_add_131 ?_
    unfold kX4_add_134
    refine S_istore (pc := 134) hC dX4_add_134 (by decide) ?_
    refine S_aload_n (pc := 136) hC dX4_add_136 rfl ?_
    refine S_getR (pc := 137) hC cfX4 (by decide) (Or.inr ⟨_, rfl⟩) wd_328 dX4_add_137 ?_
    refine S_iload_n (pc := 140) hC dX4_add_140 rfl ?_
    refine S_iconst (pc := 141) hC dX4_add_141 (by decide) ?_
    refine S_iadd (pc := 142) hC dX4_add_142 ?_
    refine S_iload (pc := 143) hC dX4_add_143 ?_
    refine S_iconst (pc := 145) hC dX4_add_145 (by decide) ?_
    refine S_icmp_ne (pc := 146) (tgt := 153) hC dX4_add_146 (by decide) ?_ ?_
    · refine S_aload_n (pc := 153) hC dX4_add_153 rfl ?_
      refine S_getR (pc := 154) hC cfX4 (by decide) (Or.inr ⟨_, rfl⟩) wd_328 dX4_add_154 ?_
      refine S_iload (pc := 157) hC dX4_add_157 ?_
      refine S_bipush (pc := 159) hC dX4_add_159 (by decide) ?_
      refine S_imul (pc := 161) hC dX4_add_161 ?_
      refine S_iconst (pc := 162) hC dX4_add_162 (by decide) ?_
      refine S_iadd (pc := 163) hC dX4_add_163 ?_
      refine S_iaload (pc := 164) hC dX4_add_164 ?_
      refine S_iconst (pc := 165) hC dX4_add_165 (by decide) ?_
      refine S_iadd (pc := 166) hC dX4_add_166 ?_
      exact hJ 167
    · refine S_iconst (pc := 149) hC dX4_add_149 (by decide) ?_
      refine S_goto (pc := 150) (tgt := 167) hC dX4_add_150 (by decide) ?_
      exact hJ 167
  have hB167 : zin 5 [0, 2, 3, 4] (aX4_add_167 mc ms X Q) X 167 := by
    intro u v vs st M hb
    rw [hXe]
    refine fun lv hp => S_block (L := 167) (live := [0, 2, 3, 4]) ?_ u v lv vs st M hp hb
    unfold aX4_add_167
    refine S_iastore (pc := 167) hC dX4_add_167 ?_
    refine S_aload_n (pc := 168) hC dX4_add_168 rfl ?_
    refine S_getR (pc := 169) hC cfX4 (by decide) (Or.inr ⟨_, rfl⟩) wd_328 dX4_add_169 ?_
    refine S_iload_n (pc := 172) hC dX4_add_172 rfl ?_
    refine S_bipush (pc := 173) hC dX4_add_173 (by decide) ?_
    refine S_iadd (pc := 175) hC dX4_add_175 ?_
    refine S_iload (pc := 176) hC dX4_add_176 ?_
    refine S_iconst (pc := 178) hC dX4_add_178 (by decide) ?_
    refine S_icmp_ne (pc := 179) (tgt := 186) hC dX4_add_179 (by decide) ?_ ?_
    · refine S_aload_n (pc := 186) hC dX4_add_186 rfl ?_
      refine S_getR (pc := 187) hC cfX4 (by decide) (Or.inr ⟨_, rfl⟩) wd_328 dX4_add_187 ?_
      refine S_iload (pc := 190) hC dX4_add_190 ?_
      refine S_bipush (pc := 192) hC dX4_add_192 (by decide) ?_
      refine S_imul (pc := 194) hC dX4_add_194 ?_
      refine S_bipush (pc := 195) hC dX4_add_195 (by decide) ?_
      refine S_iadd (pc := 197) hC dX4_add_197 ?_
      refine S_iaload (pc := 198) hC dX4_add_198 ?_
      exact hJ 199
    · refine S_iload_n (pc := 182) hC dX4_add_182 rfl ?_
      refine S_goto (pc := 183) (tgt := 199) hC dX4_add_183 (by decide) ?_
      exact hJ 199
  have hB199 : zin 5 [0, 3] (aX4_add_199 mc ms X Q) X 199 := by
    intro u v vs st M hb
    rw [hXe]
    refine fun lv hp => S_block (L := 199) (live := [0, 3]) ?_ u v lv vs st M hp hb
    unfold aX4_add_199
    refine S_iastore (pc := 199) hC dX4_add_199 ?_
    refine S_aload_n (pc := 200) hC dX4_add_200 rfl ?_
    refine S_getR (pc := 201) hC cfX4 (by decide) (Or.inr ⟨_, rfl⟩) wd_328 dX4_add_201 ?_
    refine S_iload_n (pc := 204) hC dX4_add_204 rfl ?_
    refine S_iconst (pc := 205) hC dX4_add_205 (by decide) ?_
    refine S_iadd (pc := 206) hC dX4_add_206 ?_
    refine S_aload_n (pc := 207) hC dX4_add_207 rfl ?_
    refine S_iload_n (pc := 208) hC dX4_add_208 rfl ?_
    refine S_callV (pc := 209) hC (sX4_judge l G) rfl wd_850 wd_852 ws_31 wd_9 wd_853 (by decide +kernel) ⟨by rw [hRf]; decide, by rw [hRl]; decide⟩ dX4_add_209 ?_
    unfold kX4_add_212
    refine S_iastore (pc := 212) hC dX4_add_212 ?_
    exact S_vreturn (pc := 213) hC hr dX4_add_213
  have := h.2 X hB0 hB13 hB110 hB167 hB199
  rw [hXe] at this
  exact this lv hlv
theorem vX4_add_0 {mc ms : Nat} {X : Nat → zV} {Q : zQt} {M : zM} {g : Nat} {x1 : Int32} (hW : zWd M g)  (h : (x1 = ((-1) : Int32) → X 13 0 0 [.ref g, .int x1] [] M) ∧ (¬ x1 = ((-1) : Int32) → wX0_make 0 0 [.ref (g + 1), .int x1] M (fun r M1 => kX4_add_13 mc ms X Q 0 0 [some (.ref g), some (.int x1), none, none, none] (r.toList ++ []) M1))) : aX4_add_0 mc ms X Q 0 0 [some (.ref g), some (.int x1), none, none, none] [] M := ⟨fun c2 => (h.1 c2), fun c2 => ⟨(fgs_0 hW), (g + 1), (fgr_0_0 hW), ⟨Nat.le_of_ble_eq_true rfl, rfl, (fgs_1 hW), 0, 0, Nat.zero_le _, Nat.zero_le _, (h.2 c2)⟩⟩⟩
theorem vX4_add_13 {mc ms : Nat} {X : Nat → zV} {Q : zQt} {M : zM} {g : Nat} {x1 : Int32} (hW : zWd M g)  (h : wX5_fill 0 0 [.ref (g + 6), .ref (g + 7), .int 0, .int 384] M (fun r M1 => kX4_add_29 mc ms X Q 0 0 [some (.ref g), some (.int x1), none, none, none] (r.toList ++ [.ref g]) M1)) : aX4_add_13 mc ms X Q 0 0 [some (.ref g), some (.int x1), none, none, none] [] M := ⟨(fgs_0 hW), (g + 6), (fgr_0_1 hW), ⟨(fgs_0 hW), (g + 7), (fgr_0_2 hW), ⟨Nat.le_of_ble_eq_true rfl, rfl, (fgs_6 hW), 0, 0, Nat.zero_le _, Nat.zero_le _, h⟩⟩⟩
theorem vX4_add_110 {mc ms : Nat} {X : Nat → zV} {Q : zQt} {M : zM} {g : Nat} {x2 : Int32} {x3 : Int32} {s0 : Int32} {s1 : Int32} (hW : zWd M g)  (h : vp_in s1 4808 ∧ ∀ M110 : zM, M110 = (zsI M ((g + 8)) (s1 : Int32).toNatClampNeg s0) → wX4_passingFile 0 0 [.ref g] M110 (fun r M1 => kX4_add_123 mc ms X Q 0 0 [some (.ref g), none, some (.int x2), some (.int x3), none] (r.toList ++ [.int (x3 + (7 : Int32)), .ref (g + 8)]) M1)) : aX4_add_110 mc ms X Q 0 0 [some (.ref g), none, some (.int x2), some (.int x3), none] [.int s0, .int s1, .ref (g + 8)] M := ⟨4808, (fgs_8 hW), h.1, (have h110 := h.2 _ rfl; ⟨(fgs_0 hW), (g + 8), (fgr_0_5 hW), ⟨Nat.le_of_ble_eq_true rfl, rfl, (fgs_0 hW), 0, 0, Nat.zero_le _, Nat.zero_le _, h110⟩⟩)⟩
theorem vX4_add_167 {mc ms : Nat} {X : Nat → zV} {Q : zQt} {M : zM} {g : Nat} {x2 : Int32} {x3 : Int32} {x4 : Int32} {s0 : Int32} {s1 : Int32} (hW : zWd M g)  (h : vp_in s1 4808 ∧ ∀ M167 : zM, M167 = (zsI M ((g + 8)) (s1 : Int32).toNatClampNeg s0) → (x4 = ((-1) : Int32) → X 199 0 0 [.ref g, .int x3] [.int x2, .int (x3 + (6 : Int32)), .ref (g + 8)] M167) ∧ (¬ x4 = ((-1) : Int32) → vp_in (((x4 * (8 : Int32)) + (6 : Int32))) 4808 ∧ X 199 0 0 [.ref g, .int x3] [.int ((M167 : zM).1 ((g + 8)) (((x4 * (8 : Int32)) + (6 : Int32)) : Int32).toNatClampNeg), .int (x3 + (6 : Int32)), .ref (g + 8)] M167)) : aX4_add_167 mc ms X Q 0 0 [some (.ref g), none, some (.int x2), some (.int x3), some (.int x4)] [.int s0, .int s1, .ref (g + 8)] M := ⟨4808, (fgs_8 hW), h.1, (have h167 := h.2 _ rfl; ⟨(fgs_0 hW), (g + 8), (fgr_0_5 hW), ⟨fun c179 => (h167.1 c179), fun c179 => ⟨(fgs_0 hW), (g + 8), (fgr_0_5 hW), ⟨4808, (fgs_8 hW), (h167.2 c179).1, (h167.2 c179).2⟩⟩⟩⟩)⟩
theorem vX4_add_199 {mc ms : Nat} {X : Nat → zV} {Q : zQt} {M : zM} {g : Nat} {x3 : Int32} {s0 : Int32} {s1 : Int32} (hW : zWd M g)  (h : vp_in s1 4808 ∧ ∀ M199 : zM, M199 = (zsI M ((g + 8)) (s1 : Int32).toNatClampNeg s0) → wX4_judge 0 0 [.ref g, .int x3] M199 (fun r M1 => kX4_add_212 mc ms X Q 0 0 [some (.ref g), none, none, some (.int x3), none] (r.toList ++ [.int (x3 + (2 : Int32)), .ref (g + 8)]) M1)) : aX4_add_199 mc ms X Q 0 0 [some (.ref g), none, none, some (.int x3), none] [.int s0, .int s1, .ref (g + 8)] M := ⟨4808, (fgs_8 hW), h.1, (have h199 := h.2 _ rfl; ⟨(fgs_0 hW), (g + 8), (fgr_0_5 hW), ⟨Nat.le_of_ble_eq_true rfl, rfl, (fgs_0 hW), 0, 0, Nat.zero_le _, Nat.zero_le _, h199⟩⟩)⟩
theorem vkX4_add_13 {mc ms : Nat} {X : Nat → zV} {Q : zQt} {M : zM} {g : Nat} {x1 : Int32} (hW : zWd M g)  (h : X 13 0 0 [.ref g, .int x1] [] M) : kX4_add_13 mc ms X Q 0 0 [some (.ref g), some (.int x1), none, none, none] [] M := h
theorem vkX4_add_29 {mc ms : Nat} {X : Nat → zV} {Q : zQt} {M : zM} {g : Nat} {x1 : Int32} {s0 : Int32} (hW : zWd M g)  (h : ∀ M29 : zM, M29 = (zsI M g 3 s0) → ∀ M49 : zM, M49 = (zsI M29 g 4 (((M29.1 g 4) + (1 : Int32)))) → vp_in ((((M29.1 g 4) * (8 : Int32)) + (1 : Int32))) 4808 ∧ ∀ M66 : zM, M66 = (zsI M49 ((g + 8)) ((((M29.1 g 4) * (8 : Int32)) + (1 : Int32)) : Int32).toNatClampNeg ((M49.1 ((g + 1)) 7))) → vp_in ((((M29.1 g 4) * (8 : Int32)) + (3 : Int32))) 4808 ∧ ∀ M75 : zM, M75 = (zsI M66 ((g + 8)) ((((M29.1 g 4) * (8 : Int32)) + (3 : Int32)) : Int32).toNatClampNeg x1) → vp_in ((((M29.1 g 4) * (8 : Int32)) + (4 : Int32))) 4808 ∧ ∀ M87 : zM, M87 = (zsI M75 ((g + 8)) ((((M29.1 g 4) * (8 : Int32)) + (4 : Int32)) : Int32).toNatClampNeg ((M75.1 g 3))) → wX0_inCheck 0 0 [.ref (g + 1)] M87 (fun r M1 => kX4_add_102 mc ms X Q 0 0 [some (.ref g), some (.int x1), some (.int (M29.1 g 4)), some (.int ((M29.1 g 4) * (8 : Int32))), none] (r.toList ++ [.int (((M29.1 g 4) * (8 : Int32)) + (5 : Int32)), .ref (g + 8)]) M1)) : kX4_add_29 mc ms X Q 0 0 [some (.ref g), some (.int x1), none, none, none] [.int s0, .ref g] M := ⟨(fgs_0 hW), (have h29 := h _ rfl; ⟨(fgs_0 hW), ⟨(fgs_0 hW), ⟨(fgs_0 hW), (have h49 := h29 _ rfl; ⟨(fgs_0 hW), (g + 8), (fgr_0_5 hW), ⟨(fgs_0 hW), (g + 1), (fgr_0_0 hW), ⟨(fgs_1 hW), ⟨4808, (fgs_8 hW), h49.1, (have h66 := h49.2 _ rfl; ⟨(fgs_0 hW), (g + 8), (fgr_0_5 hW), ⟨4808, (fgs_8 hW), h66.1, (have h75 := h66.2 _ rfl; ⟨(fgs_0 hW), (g + 8), (fgr_0_5 hW), ⟨(fgs_0 hW), ⟨4808, (fgs_8 hW), h75.1, (have h87 := h75.2 _ rfl; ⟨(fgs_0 hW), (g + 8), (fgr_0_5 hW), ⟨(fgs_0 hW), (g + 1), (fgr_0_0 hW), ⟨Nat.le_of_ble_eq_true rfl, rfl, (fgs_1 hW), 0, 0, Nat.zero_le _, Nat.zero_le _, h87⟩⟩⟩)⟩⟩⟩)⟩⟩)⟩⟩⟩⟩)⟩⟩⟩)⟩
theorem vkX4_add_102 {mc ms : Nat} {X : Nat → zV} {Q : zQt} {M : zM} {g : Nat} {x1 : Int32} {x2 : Int32} {x3 : Int32} {s0 : Int32} {s1 : Int32} (hW : zWd M g)  (h : (s0 = 0 → X 110 0 0 [.ref g, .int x2, .int x3] [.int 0, .int s1, .ref (g + 8)] M) ∧ (¬ s0 = 0 → X 110 0 0 [.ref g, .int x2, .int x3] [.int 1, .int s1, .ref (g + 8)] M)) : kX4_add_102 mc ms X Q 0 0 [some (.ref g), some (.int x1), some (.int x2), some (.int x3), none] [.int s0, .int s1, .ref (g + 8)] M := ⟨fun c102 => (h.1 c102), fun c102 => (h.2 c102)⟩
theorem vkX4_add_123 {mc ms : Nat} {X : Nat → zV} {Q : zQt} {M : zM} {g : Nat} {x2 : Int32} {x3 : Int32} {s0 : Int32} {s1 : Int32} (hW : zWd M g)  (h : vp_in s1 4808 ∧ ∀ M123 : zM, M123 = (zsI M ((g + 8)) (s1 : Int32).toNatClampNeg s0) → wX4_writeKeys 0 0 [.ref g, .int x2] M123 (fun r M1 => kX4_add_129 mc ms X Q 0 0 [some (.ref g), none, some (.int x2), some (.int x3), none] (r.toList ++ []) M1)) : kX4_add_123 mc ms X Q 0 0 [some (.ref g), none, some (.int x2), some (.int x3), none] [.int s0, .int s1, .ref (g + 8)] M := ⟨4808, (fgs_8 hW), h.1, (have h123 := h.2 _ rfl; ⟨Nat.le_of_ble_eq_true rfl, rfl, (fgs_0 hW), 0, 0, Nat.zero_le _, Nat.zero_le _, h123⟩)⟩
theorem vkX4_add_129 {mc ms : Nat} {X : Nat → zV} {Q : zQt} {M : zM} {g : Nat} {x2 : Int32} {x3 : Int32} (hW : zWd M g)  (h : wX4_latestSame 0 0 [.ref g, .int x2] M (fun r M1 => kX4_add_134 mc ms X Q 0 0 [some (.ref g), none, some (.int x2), some (.int x3), none] (r.toList ++ []) M1)) : kX4_add_129 mc ms X Q 0 0 [some (.ref g), none, some (.int x2), some (.int x3), none] [] M := ⟨Nat.le_of_ble_eq_true rfl, rfl, (fgs_0 hW), 0, 0, Nat.zero_le _, Nat.zero_le _, h⟩
theorem vkX4_add_134 {mc ms : Nat} {X : Nat → zV} {Q : zQt} {M : zM} {g : Nat} {x2 : Int32} {x3 : Int32} {s0 : Int32} (hW : zWd M g)  (h : (s0 = ((-1) : Int32) → X 167 0 0 [.ref g, .int x2, .int x3, .int s0] [.int 1, .int (x3 + (0 : Int32)), .ref (g + 8)] M) ∧ (¬ s0 = ((-1) : Int32) → vp_in (((s0 * (8 : Int32)) + (0 : Int32))) 4808 ∧ X 167 0 0 [.ref g, .int x2, .int x3, .int s0] [.int (((M : zM).1 ((g + 8)) (((s0 * (8 : Int32)) + (0 : Int32)) : Int32).toNatClampNeg) + (1 : Int32)), .int (x3 + (0 : Int32)), .ref (g + 8)] M)) : kX4_add_134 mc ms X Q 0 0 [some (.ref g), none, some (.int x2), some (.int x3), none] [.int s0] M := ⟨(fgs_0 hW), (g + 8), (fgr_0_5 hW), ⟨fun c146 => (h.1 c146), fun c146 => ⟨(fgs_0 hW), (g + 8), (fgr_0_5 hW), ⟨4808, (fgs_8 hW), (h.2 c146).1, (h.2 c146).2⟩⟩⟩⟩
theorem vkX4_add_212 {mc ms : Nat} {X : Nat → zV} {Q : zQt} {M : zM} {g : Nat} {x3 : Int32} {s0 : Int32} {s1 : Int32} (hW : zWd M g)  (h : vp_in s1 4808 ∧ ∀ M212 : zM, M212 = (zsI M ((g + 8)) (s1 : Int32).toNatClampNeg s0) → Q none M212) : kX4_add_212 mc ms X Q 0 0 [some (.ref g), none, none, some (.int x3), none] [.int s0, .int s1, .ref (g + 8)] M := ⟨4808, (fgs_8 hW), h.1, (have h212 := h.2 _ rfl; h212)⟩
theorem dX4_takeBack_0 : decode cX4_takeBack 0 = .ok (.aload_n 0, 1) := by decide +kernel
theorem dX4_takeBack_1 : decode cX4_takeBack 1 = .ok (.getfield 40, 3) := by decide +kernel
theorem dX4_takeBack_4 : decode cX4_takeBack 4 = .ok (.iconst 2, 1) := by decide +kernel
theorem dX4_takeBack_5 : decode cX4_takeBack 5 = .ok (.if_icmp .ge 5, 3) := by decide +kernel
theorem dX4_takeBack_8 : decode cX4_takeBack 8 = .ok (.iconst 0, 1) := by decide +kernel
theorem dX4_takeBack_9 : decode cX4_takeBack 9 = .ok (.ireturn, 1) := by decide +kernel
theorem dX4_takeBack_10 : decode cX4_takeBack 10 = .ok (.aload_n 0, 1) := by decide +kernel
theorem dX4_takeBack_11 : decode cX4_takeBack 11 = .ok (.dup, 1) := by decide +kernel
theorem dX4_takeBack_12 : decode cX4_takeBack 12 = .ok (.getfield 40, 3) := by decide +kernel
theorem dX4_takeBack_15 : decode cX4_takeBack 15 = .ok (.iconst 1, 1) := by decide +kernel
theorem dX4_takeBack_16 : decode cX4_takeBack 16 = .ok (.isub, 1) := by decide +kernel
theorem dX4_takeBack_17 : decode cX4_takeBack 17 = .ok (.putfield 40, 3) := by decide +kernel
theorem dX4_takeBack_20 : decode cX4_takeBack 20 = .ok (.aload_n 0, 1) := by decide +kernel
theorem dX4_takeBack_21 : decode cX4_takeBack 21 = .ok (.getfield 14, 3) := by decide +kernel
theorem dX4_takeBack_24 : decode cX4_takeBack 24 = .ok (.aload_n 0, 1) := by decide +kernel
theorem dX4_takeBack_25 : decode cX4_takeBack 25 = .ok (.getfield 33, 3) := by decide +kernel
theorem dX4_takeBack_28 : decode cX4_takeBack 28 = .ok (.aload_n 0, 1) := by decide +kernel
theorem dX4_takeBack_29 : decode cX4_takeBack 29 = .ok (.getfield 40, 3) := by decide +kernel
theorem dX4_takeBack_32 : decode cX4_takeBack 32 = .ok (.bipush 8, 2) := by decide +kernel
theorem dX4_takeBack_34 : decode cX4_takeBack 34 = .ok (.imul, 1) := by decide +kernel
theorem dX4_takeBack_35 : decode cX4_takeBack 35 = .ok (.iconst 3, 1) := by decide +kernel
theorem dX4_takeBack_36 : decode cX4_takeBack 36 = .ok (.iadd, 1) := by decide +kernel
theorem dX4_takeBack_37 : decode cX4_takeBack 37 = .ok (.iaload, 1) := by decide +kernel
theorem dX4_takeBack_38 : decode cX4_takeBack 38 = .ok (.invokevirtual 121, 3) := by decide +kernel
theorem dX4_takeBack_41 : decode cX4_takeBack 41 = .ok (.aload_n 0, 1) := by decide +kernel
theorem dX4_takeBack_42 : decode cX4_takeBack 42 = .ok (.aload_n 0, 1) := by decide +kernel
theorem dX4_takeBack_43 : decode cX4_takeBack 43 = .ok (.getfield 25, 3) := by decide +kernel
theorem dX4_takeBack_46 : decode cX4_takeBack 46 = .ok (.aload_n 0, 1) := by decide +kernel
theorem dX4_takeBack_47 : decode cX4_takeBack 47 = .ok (.getfield 29, 3) := by decide +kernel
theorem dX4_takeBack_50 : decode cX4_takeBack 50 = .ok (.iconst 0, 1) := by decide +kernel
theorem dX4_takeBack_51 : decode cX4_takeBack 51 = .ok (.sipush 384, 3) := by decide +kernel
theorem dX4_takeBack_54 : decode cX4_takeBack 54 = .ok (.invokevirtual 51, 3) := by decide +kernel
theorem dX4_takeBack_57 : decode cX4_takeBack 57 = .ok (.putfield 55, 3) := by decide +kernel
theorem dX4_takeBack_60 : decode cX4_takeBack 60 = .ok (.iconst 1, 1) := by decide +kernel
theorem dX4_takeBack_61 : decode cX4_takeBack 61 = .ok (.ireturn, 1) := by decide +kernel
def kX4_takeBack_57 (mc ms : Nat) (X : Nat → zV) (Q : zQt) : zT :=
  zpi 4 3 <| zc (.int 1) <| zrz .boolean Q
def kX4_takeBack_41 (mc ms : Nat) (X : Nat → zV) (Q : zQt) : zT :=
  zla 0 <| zla 0 <| zgR 4 1 <| zla 0 <| zgR 4 2 <| zc (.int 0) <| zc (.int 384) <| zcv mc ms 5 3 wX5_fill <| kX4_takeBack_57 mc ms X Q
def aX4_takeBack_0 (mc ms : Nat) (X : Nat → zV) (Q : zQt) : zT :=
  zla 0 <| zgi 4 4 <| zc (.int 2) <| zic (fun x y => y ≤ x) (zla 0 <| zdup <| zgi 4 4 <| zc (.int 1) <| zii (fun x y => x - y) <| zpi 4 4 <| zla 0 <| zgR 4 0 <| zla 0 <| zgR 4 5 <| zla 0 <| zgi 4 4 <| zc (.int 8) <| zii (fun x y => x * y) <| zc (.int 3) <| zii (fun x y => x + y) <| zal 1 <| zcv mc ms 0 1 wX0_unmake <| kX4_takeBack_41 mc ms X Q) <| zc (.int 0) <| zrz .boolean Q
def lvX4_takeBack : Nat → List Nat := fun L => match L with
  | 0 => [0]
  | _ => []
def wX4_takeBack : zSp := fun mc ms av M Q => ((zlay av).length ≤ 1 ∧ zpick (zlay av) [0] = some av) ∧ ∀ X : Nat → zV, zin 1 [0] (aX4_takeBack_0 mc ms X Q) X 0 → X 0 0 0 av [] M
set_option maxRecDepth 100000 in
set_option maxHeartbeats 4000000 in
theorem sX4_takeBack (l : Launch) (G : zG) (hG : zStat G) : zSnd l G yX4_takeBack cX4_takeBack 1 (some .boolean) 5 131 wX4_takeBack := by
  refine zmk [0] (by decide) (fun mc ms av M Q h => h.1) ?_
  intro p e R s m args below meth c mc ms av M Q hC hRf hRl hr hnm h lv hlv
  obtain ⟨X, hXe⟩ : ∃ X : Nat → zV, X = fun L u v vs st M => ∀ lv, zpick lv (lvX4_takeBack L) = some vs → zAt p l e R s m args below meth c (MQ below (zQ G Q) args s mc ms (zA G)) G 1 L u v lv st M := ⟨_, rfl⟩
  have hJ : ∀ L, zOk p l e R s m args below meth c (MQ below (zQ G Q) args s mc ms (zA G)) G 1 L (zj X L (lvX4_takeBack L)) := fun L => S_jump (fun u v lv vs st M hp hx => by rw [hXe] at hx; exact hx lv hp)
  have hB0 : zin 1 [0] (aX4_takeBack_0 mc ms X Q) X 0 := by
    intro u v vs st M hb
    rw [hXe]
    refine fun lv hp => S_block (L := 0) (live := [0]) ?_ u v lv vs st M hp hb
    unfold aX4_takeBack_0
    refine S_aload_n (pc := 0) hC dX4_takeBack_0 rfl ?_
    refine S_geti (pc := 1) hC cfX4 (by decide) (Or.inl rfl) wd_326 dX4_takeBack_1 ?_
    refine S_iconst (pc := 4) hC dX4_takeBack_4 (by decide) ?_
    refine S_icmp_ge (pc := 5) (tgt := 10) hC dX4_takeBack_5 (by decide) ?_ ?_
    · refine S_aload_n (pc := 10) hC dX4_takeBack_10 rfl ?_
      refine S_dup (pc := 11) hC dX4_takeBack_11 ?_
      refine S_geti (pc := 12) hC cfX4 (by decide) (Or.inl rfl) wd_326 dX4_takeBack_12 ?_
      refine S_iconst (pc := 15) hC dX4_takeBack_15 (by decide) ?_
      refine S_isub (pc := 16) hC dX4_takeBack_16 ?_
      refine S_puti (pc := 17) hC cfX4 (by decide) rfl (Or.inl rfl) wd_326 dX4_takeBack_17 ?_
      refine S_aload_n (pc := 20) hC dX4_takeBack_20 rfl ?_
      refine S_getR (pc := 21) hC cfX4 (by decide) (Or.inl ⟨_, rfl⟩) wd_307 dX4_takeBack_21 ?_
      refine S_aload_n (pc := 24) hC dX4_takeBack_24 rfl ?_
      refine S_getR (pc := 25) hC cfX4 (by decide) (Or.inr ⟨_, rfl⟩) wd_328 dX4_takeBack_25 ?_
      refine S_aload_n (pc := 28) hC dX4_takeBack_28 rfl ?_
      refine S_geti (pc := 29) hC cfX4 (by decide) (Or.inl rfl) wd_326 dX4_takeBack_29 ?_
      refine S_bipush (pc := 32) hC dX4_takeBack_32 (by decide) ?_
      refine S_imul (pc := 34) hC dX4_takeBack_34 ?_
      refine S_iconst (pc := 35) hC dX4_takeBack_35 (by decide) ?_
      refine S_iadd (pc := 36) hC dX4_takeBack_36 ?_
      refine S_iaload (pc := 37) hC dX4_takeBack_37 ?_
      refine S_callV (pc := 38) hC (sX0_unmake l G hG) rfl wd_402 wd_403 wd_404 wd_10 wd_405 (by decide +kernel) ⟨by rw [hRf]; decide, by rw [hRl]; decide⟩ dX4_takeBack_38 ?_
      unfold kX4_takeBack_41
      refine S_aload_n (pc := 41) hC dX4_takeBack_41 rfl ?_
      refine S_aload_n (pc := 42) hC dX4_takeBack_42 rfl ?_
      refine S_getR (pc := 43) hC cfX4 (by decide) (Or.inl ⟨_, rfl⟩) wd_312 dX4_takeBack_43 ?_
      refine S_aload_n (pc := 46) hC dX4_takeBack_46 rfl ?_
      refine S_getR (pc := 47) hC cfX4 (by decide) (Or.inr ⟨_, rfl⟩) wd_315 dX4_takeBack_47 ?_
      refine S_iconst (pc := 50) hC dX4_takeBack_50 (by decide) ?_
      refine S_sipush (pc := 51) hC dX4_takeBack_51 (by decide) ?_
      refine S_callV (pc := 54) hC (sX5_fill l G) rfl wd_422 wd_423 wd_424 wd_11 wd_425 (by decide +kernel) ⟨by rw [hRf]; decide, by rw [hRl]; decide⟩ dX4_takeBack_54 ?_
      unfold kX4_takeBack_57
      refine S_puti (pc := 57) hC cfX4 (by decide) rfl (Or.inl rfl) wd_321 dX4_takeBack_57 ?_
      refine S_iconst (pc := 60) hC dX4_takeBack_60 (by decide) ?_
      exact S_zreturn (pc := 61) hC hr dX4_takeBack_61
    · refine S_iconst (pc := 8) hC dX4_takeBack_8 (by decide) ?_
      exact S_zreturn (pc := 9) hC hr dX4_takeBack_9
  have := h.2 X hB0
  rw [hXe] at this
  exact this lv hlv
theorem vX4_takeBack_0 {mc ms : Nat} {X : Nat → zV} {Q : zQt} {M : zM} {g : Nat}  (hW : zWd M g)  (h : ((2 : Int32) ≤ (M.1 g 4) → ∀ M17 : zM, M17 = (zsI M g 4 (((M.1 g 4) - (1 : Int32)))) → vp_in ((((M17.1 g 4) * (8 : Int32)) + (3 : Int32))) 4808 ∧ wX0_unmake 0 0 [.ref (g + 1), .int ((M17 : zM).1 ((g + 8)) ((((M17.1 g 4) * (8 : Int32)) + (3 : Int32)) : Int32).toNatClampNeg)] M17 (fun r M1 => kX4_takeBack_41 mc ms X Q 0 0 [some (.ref g)] (r.toList ++ []) M1)) ∧ (¬ (2 : Int32) ≤ (M.1 g 4) → Q (some (.int 0)) M)) : aX4_takeBack_0 mc ms X Q 0 0 [some (.ref g)] [] M := ⟨(fgs_0 hW), ⟨fun c5 => ⟨(fgs_0 hW), ⟨(fgs_0 hW), (have h17 := (h.1 c5) _ rfl; ⟨(fgs_0 hW), (g + 1), (fgr_0_0 hW), ⟨(fgs_0 hW), (g + 8), (fgr_0_5 hW), ⟨(fgs_0 hW), ⟨4808, (fgs_8 hW), h17.1, ⟨Nat.le_of_ble_eq_true rfl, rfl, (fgs_1 hW), 0, 0, Nat.zero_le _, Nat.zero_le _, h17.2⟩⟩⟩⟩⟩)⟩⟩, fun c5 => ⟨rfl, (h.2 c5)⟩⟩⟩
theorem vkX4_takeBack_41 {mc ms : Nat} {X : Nat → zV} {Q : zQt} {M : zM} {g : Nat}  (hW : zWd M g)  (h : wX5_fill 0 0 [.ref (g + 6), .ref (g + 7), .int 0, .int 384] M (fun r M1 => kX4_takeBack_57 mc ms X Q 0 0 [some (.ref g)] (r.toList ++ [.ref g]) M1)) : kX4_takeBack_41 mc ms X Q 0 0 [some (.ref g)] [] M := ⟨(fgs_0 hW), (g + 6), (fgr_0_1 hW), ⟨(fgs_0 hW), (g + 7), (fgr_0_2 hW), ⟨Nat.le_of_ble_eq_true rfl, rfl, (fgs_6 hW), 0, 0, Nat.zero_le _, Nat.zero_le _, h⟩⟩⟩
theorem vkX4_takeBack_57 {mc ms : Nat} {X : Nat → zV} {Q : zQt} {M : zM} {g : Nat} {s0 : Int32} (hW : zWd M g)  (h : ∀ M57 : zM, M57 = (zsI M g 3 s0) → Q (some (.int 1)) M57) : kX4_takeBack_57 mc ms X Q 0 0 [some (.ref g)] [.int s0, .ref g] M := ⟨(fgs_0 hW), (have h57 := h _ rfl; ⟨rfl, h57⟩)⟩
theorem dX11_retreat_0 : decode cX11_retreat 0 = .ok (.aload_n 0, 1) := by decide +kernel
theorem dX11_retreat_1 : decode cX11_retreat 1 = .ok (.getfield 65, 3) := by decide +kernel
theorem dX11_retreat_4 : decode cX11_retreat 4 = .ok (.ifCond .eq 17, 3) := by decide +kernel
theorem dX11_retreat_7 : decode cX11_retreat 7 = .ok (.aload_n 0, 1) := by decide +kernel
theorem dX11_retreat_8 : decode cX11_retreat 8 = .ok (.getfield 58, 3) := by decide +kernel
theorem dX11_retreat_11 : decode cX11_retreat 11 = .ok (.invokevirtual 135, 3) := by decide +kernel
theorem dX11_retreat_14 : decode cX11_retreat 14 = .ok (.ifCond .eq 7, 3) := by decide +kernel
theorem dX11_retreat_17 : decode cX11_retreat 17 = .ok (.iconst 1, 1) := by decide +kernel
theorem dX11_retreat_18 : decode cX11_retreat 18 = .ok (.goto 4, 3) := by decide +kernel
theorem dX11_retreat_21 : decode cX11_retreat 21 = .ok (.iconst 0, 1) := by decide +kernel
theorem dX11_retreat_22 : decode cX11_retreat 22 = .ok (.ireturn, 1) := by decide +kernel
def kX11_retreat_14 (mc ms : Nat) (X : Nat → zV) (Q : zQt) : zT :=
  zif (fun x => x = 0) (zj X 21 []) <| zc (.int 1) <| zj X 22 []
def aX11_retreat_0 (mc ms : Nat) (X : Nat → zV) (Q : zQt) : zT :=
  zla 0 <| zgi 11 8 <| zif (fun x => x = 0) (zj X 21 []) <| zla 0 <| zgR 11 6 <| zcv mc ms 4 0 wX4_takeBack <| kX11_retreat_14 mc ms X Q
def aX11_retreat_21 (mc ms : Nat) (X : Nat → zV) (Q : zQt) : zT :=
  zc (.int 0) <| zj X 22 []
def aX11_retreat_22 (mc ms : Nat) (X : Nat → zV) (Q : zQt) : zT :=
  zrz .boolean Q
def lvX11_retreat : Nat → List Nat := fun L => match L with
  | 0 => [0]
  | 21 => []
  | 22 => []
  | _ => []
def wX11_retreat : zSp := fun mc ms av M Q => ((zlay av).length ≤ 1 ∧ zpick (zlay av) [0] = some av) ∧ ∀ X : Nat → zV, zin 1 [0] (aX11_retreat_0 mc ms X Q) X 0 → zin 1 [] (aX11_retreat_21 mc ms X Q) X 21 → zin 1 [] (aX11_retreat_22 mc ms X Q) X 22 → X 0 0 0 av [] M
set_option maxRecDepth 100000 in
set_option maxHeartbeats 4000000 in
theorem sX11_retreat (l : Launch) (G : zG) (hG : zStat G) : zSnd l G yX11_retreat cX11_retreat 1 (some .boolean) 6 151 wX11_retreat := by
  refine zmk [0] (by decide) (fun mc ms av M Q h => h.1) ?_
  intro p e R s m args below meth c mc ms av M Q hC hRf hRl hr hnm h lv hlv
  obtain ⟨X, hXe⟩ : ∃ X : Nat → zV, X = fun L u v vs st M => ∀ lv, zpick lv (lvX11_retreat L) = some vs → zAt p l e R s m args below meth c (MQ below (zQ G Q) args s mc ms (zA G)) G 1 L u v lv st M := ⟨_, rfl⟩
  have hJ : ∀ L, zOk p l e R s m args below meth c (MQ below (zQ G Q) args s mc ms (zA G)) G 1 L (zj X L (lvX11_retreat L)) := fun L => S_jump (fun u v lv vs st M hp hx => by rw [hXe] at hx; exact hx lv hp)
  have hB0 : zin 1 [0] (aX11_retreat_0 mc ms X Q) X 0 := by
    intro u v vs st M hb
    rw [hXe]
    refine fun lv hp => S_block (L := 0) (live := [0]) ?_ u v lv vs st M hp hb
    unfold aX11_retreat_0
    refine S_aload_n (pc := 0) hC dX11_retreat_0 rfl ?_
    refine S_geti (pc := 1) hC cfX11 (by decide) (Or.inr rfl) wd_354 dX11_retreat_1 ?_
    refine S_if_eq (pc := 4) (tgt := 21) hC dX11_retreat_4 (by decide) ?_ ?_
    · exact hJ 21
    · refine S_aload_n (pc := 7) hC dX11_retreat_7 rfl ?_
      refine S_getR (pc := 8) hC cfX11 (by decide) (Or.inl ⟨_, rfl⟩) wd_352 dX11_retreat_8 ?_
      refine S_callV (pc := 11) hC (sX4_takeBack l G hG) rfl wd_398 wd_399 wd_400 wd_9 wd_401 (by decide +kernel) ⟨by rw [hRf]; decide, by rw [hRl]; decide⟩ dX11_retreat_11 ?_
      unfold kX11_retreat_14
      refine S_if_eq (pc := 14) (tgt := 21) hC dX11_retreat_14 (by decide) ?_ ?_
      · exact hJ 21
      · refine S_iconst (pc := 17) hC dX11_retreat_17 (by decide) ?_
        refine S_goto (pc := 18) (tgt := 22) hC dX11_retreat_18 (by decide) ?_
        exact hJ 22
  have hB21 : zin 1 [] (aX11_retreat_21 mc ms X Q) X 21 := by
    intro u v vs st M hb
    rw [hXe]
    refine fun lv hp => S_block (L := 21) (live := []) ?_ u v lv vs st M hp hb
    unfold aX11_retreat_21
    refine S_iconst (pc := 21) hC dX11_retreat_21 (by decide) ?_
    exact hJ 22
  have hB22 : zin 1 [] (aX11_retreat_22 mc ms X Q) X 22 := by
    intro u v vs st M hb
    rw [hXe]
    refine fun lv hp => S_block (L := 22) (live := []) ?_ u v lv vs st M hp hb
    unfold aX11_retreat_22
    exact S_zreturn (pc := 22) hC hr dX11_retreat_22
  have := h.2 X hB0 hB21 hB22
  rw [hXe] at this
  exact this lv hlv
theorem vX11_retreat_0 {mc ms : Nat} {X : Nat → zV} {Q : zQt} {M : zM} {g : Nat}  (hW : zWd M g)  (h : ((M.1 16 8) = 0 → X 21 0 0 [] [] M) ∧ (¬ (M.1 16 8) = 0 → ∃ r8, ((M : zM).2.2.1 16 6) = some r8 ∧ zsh M r8 = some (0, 4) ∧ wX4_takeBack 0 0 [.ref r8] M (fun r M1 => kX11_retreat_14 mc ms X Q 0 0 [some (.ref 16)] (r.toList ++ []) M1))) : aX11_retreat_0 mc ms X Q 0 0 [some (.ref 16)] [] M := ⟨(fxs_16 hW.1), ⟨fun c4 => (h.1 c4), fun c4 => (let ⟨r8, q8, hr8, h8⟩ := (h.2 c4); ⟨(fxs_16 hW.1), r8, q8, ⟨Nat.le_of_ble_eq_true rfl, rfl, hr8, 0, 0, Nat.zero_le _, Nat.zero_le _, h8⟩⟩)⟩⟩
theorem vX11_retreat_21 {mc ms : Nat} {X : Nat → zV} {Q : zQt} {M : zM} {g : Nat}  (hW : zWd M g)  (h : X 22 0 0 [] [.int 0] M) : aX11_retreat_21 mc ms X Q 0 0 [none] [] M := h
theorem vX11_retreat_22 {mc ms : Nat} {X : Nat → zV} {Q : zQt} {M : zM} {g : Nat} {s0 : Int32} (hW : zWd M g)  (h : narrow .boolean (.int s0) = .int s0 ∧ Q (some (.int s0)) M) : aX11_retreat_22 mc ms X Q 0 0 [none] [.int s0] M := h
theorem vkX11_retreat_14 {mc ms : Nat} {X : Nat → zV} {Q : zQt} {M : zM} {g : Nat} {s0 : Int32} (hW : zWd M g)  (h : (s0 = 0 → X 21 0 0 [] [] M) ∧ (¬ s0 = 0 → X 22 0 0 [] [.int 1] M)) : kX11_retreat_14 mc ms X Q 0 0 [some (.ref 16)] [.int s0] M := ⟨fun c14 => (h.1 c14), fun c14 => (h.2 c14)⟩
theorem dX4_begin_0 : decode cX4_begin 0 = .ok (.aload_n 0, 1) := by decide +kernel
theorem dX4_begin_1 : decode cX4_begin 1 = .ok (.iconst 0, 1) := by decide +kernel
theorem dX4_begin_2 : decode cX4_begin 2 = .ok (.putfield 40, 3) := by decide +kernel
theorem dX4_begin_5 : decode cX4_begin 5 = .ok (.aload_n 0, 1) := by decide +kernel
theorem dX4_begin_6 : decode cX4_begin 6 = .ok (.iconst (-1), 1) := by decide +kernel
theorem dX4_begin_7 : decode cX4_begin 7 = .ok (.invokevirtual 44, 3) := by decide +kernel
theorem dX4_begin_10 : decode cX4_begin 10 = .ok (.return_, 1) := by decide +kernel
def kX4_begin_10 (mc ms : Nat) (X : Nat → zV) (Q : zQt) : zT :=
  zrv Q
def aX4_begin_0 (mc ms : Nat) (X : Nat → zV) (Q : zQt) : zT :=
  zla 0 <| zc (.int 0) <| zpi 4 4 <| zla 0 <| zc (.int (-1)) <| zcv mc ms 4 1 wX4_add <| kX4_begin_10 mc ms X Q
def lvX4_begin : Nat → List Nat := fun L => match L with
  | 0 => [0]
  | _ => []
def wX4_begin : zSp := fun mc ms av M Q => ((zlay av).length ≤ 1 ∧ zpick (zlay av) [0] = some av) ∧ ∀ X : Nat → zV, zin 1 [0] (aX4_begin_0 mc ms X Q) X 0 → X 0 0 0 av [] M
set_option maxRecDepth 100000 in
set_option maxHeartbeats 4000000 in
theorem sX4_begin (l : Launch) (G : zG) (hG : zStat G) : zSnd l G yX4_begin cX4_begin 1 none 6 155 wX4_begin := by
  refine zmk [0] (by decide) (fun mc ms av M Q h => h.1) ?_
  intro p e R s m args below meth c mc ms av M Q hC hRf hRl hr hnm h lv hlv
  obtain ⟨X, hXe⟩ : ∃ X : Nat → zV, X = fun L u v vs st M => ∀ lv, zpick lv (lvX4_begin L) = some vs → zAt p l e R s m args below meth c (MQ below (zQ G Q) args s mc ms (zA G)) G 1 L u v lv st M := ⟨_, rfl⟩
  have hJ : ∀ L, zOk p l e R s m args below meth c (MQ below (zQ G Q) args s mc ms (zA G)) G 1 L (zj X L (lvX4_begin L)) := fun L => S_jump (fun u v lv vs st M hp hx => by rw [hXe] at hx; exact hx lv hp)
  have hB0 : zin 1 [0] (aX4_begin_0 mc ms X Q) X 0 := by
    intro u v vs st M hb
    rw [hXe]
    refine fun lv hp => S_block (L := 0) (live := [0]) ?_ u v lv vs st M hp hb
    unfold aX4_begin_0
    refine S_aload_n (pc := 0) hC dX4_begin_0 rfl ?_
    refine S_iconst (pc := 1) hC dX4_begin_1 (by decide) ?_
    refine S_puti (pc := 2) hC cfX4 (by decide) rfl (Or.inl rfl) wd_326 dX4_begin_2 ?_
    refine S_aload_n (pc := 5) hC dX4_begin_5 rfl ?_
    refine S_iconst (pc := 6) hC dX4_begin_6 (by decide) ?_
    refine S_callV (pc := 7) hC (sX4_add l G hG) rfl wd_807 wd_808 wd_809 wd_9 wd_810 (by decide +kernel) ⟨by rw [hRf]; decide, by rw [hRl]; decide⟩ dX4_begin_7 ?_
    unfold kX4_begin_10
    exact S_vreturn (pc := 10) hC hr dX4_begin_10
  have := h.2 X hB0
  rw [hXe] at this
  exact this lv hlv
theorem vX4_begin_0 {mc ms : Nat} {X : Nat → zV} {Q : zQt} {M : zM} {g : Nat}  (hW : zWd M g)  (h : ∀ M2 : zM, M2 = (zsI M g 4 0) → wX4_add 0 0 [.ref g, .int (-1)] M2 (fun r M1 => kX4_begin_10 mc ms X Q 0 0 [some (.ref g)] (r.toList ++ []) M1)) : aX4_begin_0 mc ms X Q 0 0 [some (.ref g)] [] M := ⟨(fgs_0 hW), (have h2 := h _ rfl; ⟨Nat.le_of_ble_eq_true rfl, rfl, (fgs_0 hW), 0, 0, Nat.zero_le _, Nat.zero_le _, h2⟩)⟩
theorem vkX4_begin_10 {mc ms : Nat} {X : Nat → zV} {Q : zQt} {M : zM} {g : Nat}  (hW : zWd M g)  (h : Q none M) : kX4_begin_10 mc ms X Q 0 0 [some (.ref g)] [] M := h
