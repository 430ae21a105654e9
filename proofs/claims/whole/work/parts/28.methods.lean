theorem dX10_readPawn_0 : decode cX10_readPawn 0 = .ok (.aload_n 0, 1) := by decide +kernel
theorem dX10_readPawn_1 : decode cX10_readPawn 1 = .ok (.iconst 1, 1) := by decide +kernel
theorem dX10_readPawn_2 : decode cX10_readPawn 2 = .ok (.putfield 44, 3) := by decide +kernel
theorem dX10_readPawn_5 : decode cX10_readPawn 5 = .ok (.ldc 36, 2) := by decide +kernel
theorem dX10_readPawn_7 : decode cX10_readPawn 7 = .ok (.aload_n 1, 1) := by decide +kernel
theorem dX10_readPawn_8 : decode cX10_readPawn 8 = .ok (.iload_n 3, 1) := by decide +kernel
theorem dX10_readPawn_9 : decode cX10_readPawn 9 = .ok (.iconst 1, 1) := by decide +kernel
theorem dX10_readPawn_10 : decode cX10_readPawn 10 = .ok (.isub, 1) := by decide +kernel
theorem dX10_readPawn_11 : decode cX10_readPawn 11 = .ok (.caload, 1) := by decide +kernel
theorem dX10_readPawn_12 : decode cX10_readPawn 12 = .ok (.invokevirtual 38, 3) := by decide +kernel
theorem dX10_readPawn_15 : decode cX10_readPawn 15 = .ok (.istore 4, 2) := by decide +kernel
theorem dX10_readPawn_17 : decode cX10_readPawn 17 = .ok (.iload 4, 2) := by decide +kernel
theorem dX10_readPawn_19 : decode cX10_readPawn 19 = .ok (.iconst 2, 1) := by decide +kernel
theorem dX10_readPawn_20 : decode cX10_readPawn 20 = .ok (.if_icmp .lt 13, 3) := by decide +kernel
theorem dX10_readPawn_23 : decode cX10_readPawn 23 = .ok (.iload 4, 2) := by decide +kernel
theorem dX10_readPawn_25 : decode cX10_readPawn 25 = .ok (.iconst 5, 1) := by decide +kernel
theorem dX10_readPawn_26 : decode cX10_readPawn 26 = .ok (.if_icmp .gt 7, 3) := by decide +kernel
theorem dX10_readPawn_29 : decode cX10_readPawn 29 = .ok (.iconst 1, 1) := by decide +kernel
theorem dX10_readPawn_30 : decode cX10_readPawn 30 = .ok (.goto 4, 3) := by decide +kernel
theorem dX10_readPawn_33 : decode cX10_readPawn 33 = .ok (.iconst 0, 1) := by decide +kernel
theorem dX10_readPawn_34 : decode cX10_readPawn 34 = .ok (.istore 5, 2) := by decide +kernel
theorem dX10_readPawn_36 : decode cX10_readPawn 36 = .ok (.aload_n 0, 1) := by decide +kernel
theorem dX10_readPawn_37 : decode cX10_readPawn 37 = .ok (.iload 5, 2) := by decide +kernel
theorem dX10_readPawn_39 : decode cX10_readPawn 39 = .ok (.ifCond .eq 8, 3) := by decide +kernel
theorem dX10_readPawn_42 : decode cX10_readPawn 42 = .ok (.iload 4, 2) := by decide +kernel
theorem dX10_readPawn_44 : decode cX10_readPawn 44 = .ok (.goto 4, 3) := by decide +kernel
theorem dX10_readPawn_47 : decode cX10_readPawn 47 = .ok (.iconst 0, 1) := by decide +kernel
theorem dX10_readPawn_48 : decode cX10_readPawn 48 = .ok (.putfield 26, 3) := by decide +kernel
theorem dX10_readPawn_51 : decode cX10_readPawn 51 = .ok (.iload 5, 2) := by decide +kernel
theorem dX10_readPawn_53 : decode cX10_readPawn 53 = .ok (.ifCond .eq 9, 3) := by decide +kernel
theorem dX10_readPawn_56 : decode cX10_readPawn 56 = .ok (.iload_n 3, 1) := by decide +kernel
theorem dX10_readPawn_57 : decode cX10_readPawn 57 = .ok (.iconst 1, 1) := by decide +kernel
theorem dX10_readPawn_58 : decode cX10_readPawn 58 = .ok (.isub, 1) := by decide +kernel
theorem dX10_readPawn_59 : decode cX10_readPawn 59 = .ok (.goto 4, 3) := by decide +kernel
theorem dX10_readPawn_62 : decode cX10_readPawn 62 = .ok (.iload_n 3, 1) := by decide +kernel
theorem dX10_readPawn_63 : decode cX10_readPawn 63 = .ok (.istore 6, 2) := by decide +kernel
theorem dX10_readPawn_65 : decode cX10_readPawn 65 = .ok (.aload_n 0, 1) := by decide +kernel
theorem dX10_readPawn_66 : decode cX10_readPawn 66 = .ok (.aload_n 1, 1) := by decide +kernel
theorem dX10_readPawn_67 : decode cX10_readPawn 67 = .ok (.iload_n 2, 1) := by decide +kernel
theorem dX10_readPawn_68 : decode cX10_readPawn 68 = .ok (.iload 6, 2) := by decide +kernel
theorem dX10_readPawn_70 : decode cX10_readPawn 70 = .ok (.invokevirtual 47, 3) := by decide +kernel
theorem dX10_readPawn_73 : decode cX10_readPawn 73 = .ok (.ifCond .ne 5, 3) := by decide +kernel
theorem dX10_readPawn_76 : decode cX10_readPawn 76 = .ok (.iconst 0, 1) := by decide +kernel
theorem dX10_readPawn_77 : decode cX10_readPawn 77 = .ok (.ireturn, 1) := by decide +kernel
theorem dX10_readPawn_78 : decode cX10_readPawn 78 = .ok (.iload 6, 2) := by decide +kernel
theorem dX10_readPawn_80 : decode cX10_readPawn 80 = .ok (.iconst 2, 1) := by decide +kernel
theorem dX10_readPawn_81 : decode cX10_readPawn 81 = .ok (.isub, 1) := by decide +kernel
theorem dX10_readPawn_82 : decode cX10_readPawn 82 = .ok (.iload_n 2, 1) := by decide +kernel
theorem dX10_readPawn_83 : decode cX10_readPawn 83 = .ok (.isub, 1) := by decide +kernel
theorem dX10_readPawn_84 : decode cX10_readPawn 84 = .ok (.istore 7, 2) := by decide +kernel
theorem dX10_readPawn_86 : decode cX10_readPawn 86 = .ok (.iload 7, 2) := by decide +kernel
theorem dX10_readPawn_88 : decode cX10_readPawn 88 = .ok (.ifCond .eq 28, 3) := by decide +kernel
theorem dX10_readPawn_91 : decode cX10_readPawn 91 = .ok (.iload 7, 2) := by decide +kernel
theorem dX10_readPawn_93 : decode cX10_readPawn 93 = .ok (.iconst 2, 1) := by decide +kernel
theorem dX10_readPawn_94 : decode cX10_readPawn 94 = .ok (.if_icmp .ne 26, 3) := by decide +kernel
theorem dX10_readPawn_97 : decode cX10_readPawn 97 = .ok (.aload_n 1, 1) := by decide +kernel
theorem dX10_readPawn_98 : decode cX10_readPawn 98 = .ok (.iload_n 2, 1) := by decide +kernel
theorem dX10_readPawn_99 : decode cX10_readPawn 99 = .ok (.caload, 1) := by decide +kernel
theorem dX10_readPawn_100 : decode cX10_readPawn 100 = .ok (.invokestatic 50, 3) := by decide +kernel
theorem dX10_readPawn_103 : decode cX10_readPawn 103 = .ok (.ifCond .eq 17, 3) := by decide +kernel
theorem dX10_readPawn_106 : decode cX10_readPawn 106 = .ok (.aload_n 1, 1) := by decide +kernel
theorem dX10_readPawn_107 : decode cX10_readPawn 107 = .ok (.iload_n 2, 1) := by decide +kernel
theorem dX10_readPawn_108 : decode cX10_readPawn 108 = .ok (.iconst 1, 1) := by decide +kernel
theorem dX10_readPawn_109 : decode cX10_readPawn 109 = .ok (.iadd, 1) := by decide +kernel
theorem dX10_readPawn_110 : decode cX10_readPawn 110 = .ok (.caload, 1) := by decide +kernel
theorem dX10_readPawn_111 : decode cX10_readPawn 111 = .ok (.bipush 120, 2) := by decide +kernel
theorem dX10_readPawn_113 : decode cX10_readPawn 113 = .ok (.if_icmp .ne 7, 3) := by decide +kernel
theorem dX10_readPawn_116 : decode cX10_readPawn 116 = .ok (.iconst 1, 1) := by decide +kernel
theorem dX10_readPawn_117 : decode cX10_readPawn 117 = .ok (.goto 4, 3) := by decide +kernel
theorem dX10_readPawn_120 : decode cX10_readPawn 120 = .ok (.iconst 0, 1) := by decide +kernel
theorem dX10_readPawn_121 : decode cX10_readPawn 121 = .ok (.ireturn, 1) := by decide +kernel
def kX10_readPawn_15 (mc ms : Nat) (X : Nat → zV) (Q : zQt) : zT :=
  zsi 4 <| zli 4 <| zc (.int 2) <| zic (fun x y => x < y) (zj X 33 [0, 1, 2, 3, 4]) <| zli 4 <| zc (.int 5) <| zic (fun x y => y < x) (zj X 33 [0, 1, 2, 3, 4]) <| zc (.int 1) <| zj X 34 [0, 1, 2, 3, 4]
def kX10_readPawn_103 (mc ms : Nat) (X : Nat → zV) (Q : zQt) : zT :=
  zif (fun x => x = 0) (zj X 120 []) <| zla 1 <| zli 2 <| zc (.int 1) <| zii (fun x y => x + y) <| zal 4 <| zc (.int 120) <| zic (fun x y => x = y) (zj X 116 []) <| zj X 120 []
def kX10_readPawn_73 (mc ms : Nat) (X : Nat → zV) (Q : zQt) : zT :=
  zif (fun x => x = 0) (zc (.int 0) <| zrz .boolean Q) <| zli 6 <| zc (.int 2) <| zii (fun x y => x - y) <| zli 2 <| zii (fun x y => x - y) <| zsi 7 <| zli 7 <| zif (fun x => x = 0) (zj X 116 []) <| zli 7 <| zc (.int 2) <| zic (fun x y => x = y) (zla 1 <| zli 2 <| zal 4 <| zcs mc ms 1 wX10_isFile <| kX10_readPawn_103 mc ms X Q) <| zj X 120 []
def aX10_readPawn_0 (mc ms : Nat) (X : Nat → zV) (Q : zQt) : zT :=
  zla 0 <| zc (.int 1) <| zpi 10 0 <| zgs 5 <| zla 1 <| zli 3 <| zc (.int 1) <| zii (fun x y => x - y) <| zal 4 <| zcx mc ms 1 wJ0_indexOf_0f7a4 <| kX10_readPawn_15 mc ms X Q
def aX10_readPawn_33 (mc ms : Nat) (X : Nat → zV) (Q : zQt) : zT :=
  zc (.int 0) <| zj X 34 [0, 1, 2, 3, 4]
def aX10_readPawn_34 (mc ms : Nat) (X : Nat → zV) (Q : zQt) : zT :=
  zsi 5 <| zla 0 <| zli 5 <| zif (fun x => x = 0) (zc (.int 0) <| zj X 48 [0, 1, 2, 3, 5]) <| zli 4 <| zj X 48 [0, 1, 2, 3, 5]
def aX10_readPawn_48 (mc ms : Nat) (X : Nat → zV) (Q : zQt) : zT :=
  zpi 10 2 <| zli 5 <| zif (fun x => x = 0) (zli 3 <| zj X 63 [0, 1, 2]) <| zli 3 <| zc (.int 1) <| zii (fun x y => x - y) <| zj X 63 [0, 1, 2]
def aX10_readPawn_63 (mc ms : Nat) (X : Nat → zV) (Q : zQt) : zT :=
  zsi 6 <| zla 0 <| zla 1 <| zli 2 <| zli 6 <| zcv mc ms 10 3 wX10_readTarget <| kX10_readPawn_73 mc ms X Q
def aX10_readPawn_116 (mc ms : Nat) (X : Nat → zV) (Q : zQt) : zT :=
  zc (.int 1) <| zj X 121 []
def aX10_readPawn_120 (mc ms : Nat) (X : Nat → zV) (Q : zQt) : zT :=
  zc (.int 0) <| zj X 121 []
def aX10_readPawn_121 (mc ms : Nat) (X : Nat → zV) (Q : zQt) : zT :=
  zrz .boolean Q
def lvX10_readPawn : Nat → List Nat := fun L => match L with
  | 0 => [0, 1, 2, 3]
  | 33 => [0, 1, 2, 3, 4]
  | 34 => [0, 1, 2, 3, 4]
  | 48 => [0, 1, 2, 3, 5]
  | 63 => [0, 1, 2]
  | 116 => []
  | 120 => []
  | 121 => []
  | _ => []
def wX10_readPawn : zSp := fun mc ms av M Q => ((zlay av).length ≤ 8 ∧ zpick (zlay av) [0, 1, 2, 3] = some av) ∧ ∀ X : Nat → zV, zin 8 [0, 1, 2, 3] (aX10_readPawn_0 mc ms X Q) X 0 → zin 8 [0, 1, 2, 3, 4] (aX10_readPawn_33 mc ms X Q) X 33 → zin 8 [0, 1, 2, 3, 4] (aX10_readPawn_34 mc ms X Q) X 34 → zin 8 [0, 1, 2, 3, 5] (aX10_readPawn_48 mc ms X Q) X 48 → zin 8 [0, 1, 2] (aX10_readPawn_63 mc ms X Q) X 63 → zin 8 [] (aX10_readPawn_116 mc ms X Q) X 116 → zin 8 [] (aX10_readPawn_120 mc ms X Q) X 120 → zin 8 [] (aX10_readPawn_121 mc ms X Q) X 121 → X 0 0 0 av [] M
set_option maxRecDepth 100000 in
set_option maxHeartbeats 4000000 in
theorem sX10_readPawn (l : Launch) (G : zG) (hE : zXt G) : zSnd l G yX10_readPawn cX10_readPawn 8 (some .boolean) 4 91 wX10_readPawn := by
  refine zmk [0, 1, 2, 3] (by decide) (fun mc ms av M Q h => h.1) ?_
  intro p e R s m args below meth c mc ms av M Q hC hRf hRl hr hnm h lv hlv
  obtain ⟨X, hXe⟩ : ∃ X : Nat → zV, X = fun L u v vs st M => ∀ lv, zpick lv (lvX10_readPawn L) = some vs → zAt p l e R s m args below meth c (MQ below (zQ G Q) args s mc ms (zA G)) G 8 L u v lv st M := ⟨_, rfl⟩
  have hJ : ∀ L, zOk p l e R s m args below meth c (MQ below (zQ G Q) args s mc ms (zA G)) G 8 L (zj X L (lvX10_readPawn L)) := fun L => S_jump (fun u v lv vs st M hp hx => by rw [hXe] at hx; exact hx lv hp)
  have hB0 : zin 8 [0, 1, 2, 3] (aX10_readPawn_0 mc ms X Q) X 0 := by
    intro u v vs st M hb
    rw [hXe]
    refine fun lv hp => S_block (L := 0) (live := [0, 1, 2, 3]) ?_ u v lv vs st M hp hb
    unfold aX10_readPawn_0
    refine S_aload_n (pc := 0) hC dX10_readPawn_0 rfl ?_
    refine S_iconst (pc := 1) hC dX10_readPawn_1 (by decide) ?_
    refine S_puti (pc := 2) hC cfX10 (by decide) rfl (Or.inl rfl) wd_113 dX10_readPawn_2 ?_
    refine S_ldcS (pc := 5) hC hE.2.1 (w := 0) (tx := " PNBRQKpnbrqk") (by decide) (by decide) dX10_readPawn_5 ?_
    refine S_aload_n (pc := 7) hC dX10_readPawn_7 rfl ?_
    refine S_iload_n (pc := 8) hC dX10_readPawn_8 rfl ?_
    refine S_iconst (pc := 9) hC dX10_readPawn_9 (by decide) ?_
    refine S_isub (pc := 10) hC dX10_readPawn_10 ?_
    refine S_caload (pc := 11) hC dX10_readPawn_11 ?_
    refine S_callX (pc := 12) hC hE.2.1 (sJ0_indexOf_0f7a4 l G hE) wd_890 wd_695 wd_696 wd_19 wd_697 (by decide +kernel) ⟨by rw [hRf]; decide, by rw [hRl]; decide⟩ dX10_readPawn_12 ?_
    unfold kX10_readPawn_15
    refine S_istore (pc := 15) hC dX10_readPawn_15 (by decide) ?_
    refine S_iload (pc := 17) hC dX10_readPawn_17 ?_
    refine S_iconst (pc := 19) hC dX10_readPawn_19 (by decide) ?_
    refine S_icmp_lt (pc := 20) (tgt := 33) hC dX10_readPawn_20 (by decide) ?_ ?_
    · exact hJ 33
    · refine S_iload (pc := 23) hC dX10_readPawn_23 ?_
      refine S_iconst (pc := 25) hC dX10_readPawn_25 (by decide) ?_
      refine S_icmp_gt (pc := 26) (tgt := 33) hC dX10_readPawn_26 (by decide) ?_ ?_
      · exact hJ 33
      · refine S_iconst (pc := 29) hC dX10_readPawn_29 (by decide) ?_
        refine S_goto (pc := 30) (tgt := 34) hC dX10_readPawn_30 (by decide) ?_
        exact hJ 34
  have hB33 : zin 8 [0, 1, 2, 3, 4] (aX10_readPawn_33 mc ms X Q) X 33 := by
    intro u v vs st M hb
    rw [hXe]
    refine fun lv hp => S_block (L := 33) (live := [0, 1, 2, 3, 4]) ?_ u v lv vs st M hp hb
    unfold aX10_readPawn_33
    refine S_iconst (pc := 33) hC dX10_readPawn_33 (by decide) ?_
    exact hJ 34
  have hB34 : zin 8 [0, 1, 2, 3, 4] (aX10_readPawn_34 mc ms X Q) X 34 := by
    intro u v vs st M hb
    rw [hXe]
    refine fun lv hp => S_block (L := 34) (live := [0, 1, 2, 3, 4]) ?_ u v lv vs st M hp hb
    unfold aX10_readPawn_34
    refine S_istore (pc := 34) hC dX10_readPawn_34 (by decide) ?_
    refine S_aload_n (pc := 36) hC dX10_readPawn_36 rfl ?_
    refine S_iload (pc := 37) hC dX10_readPawn_37 ?_
    refine S_if_eq (pc := 39) (tgt := 47) hC dX10_readPawn_39 (by decide) ?_ ?_
    · refine S_iconst (pc := 47) hC dX10_readPawn_47 (by decide) ?_
      exact hJ 48
    · refine S_iload (pc := 42) hC dX10_readPawn_42 ?_
      refine S_goto (pc := 44) (tgt := 48) hC dX10_readPawn_44 (by decide) ?_
      exact hJ 48
  have hB48 : zin 8 [0, 1, 2, 3, 5] (aX10_readPawn_48 mc ms X Q) X 48 := by
    intro u v vs st M hb
    rw [hXe]
    refine fun lv hp => S_block (L := 48) (live := [0, 1, 2, 3, 5]) ?_ u v lv vs st M hp hb
    unfold aX10_readPawn_48
    refine S_puti (pc := 48) hC cfX10 (by decide) rfl (Or.inl rfl) wd_117 dX10_readPawn_48 ?_
    refine S_iload (pc := 51) hC dX10_readPawn_51 ?_
    refine S_if_eq (pc := 53) (tgt := 62) hC dX10_readPawn_53 (by decide) ?_ ?_
    · refine S_iload_n (pc := 62) hC dX10_readPawn_62 rfl ?_
      exact hJ 63
    · refine S_iload_n (pc := 56) hC dX10_readPawn_56 rfl ?_
      refine S_iconst (pc := 57) hC dX10_readPawn_57 (by decide) ?_
      refine S_isub (pc := 58) hC dX10_readPawn_58 ?_
      refine S_goto (pc := 59) (tgt := 63) hC dX10_readPawn_59 (by decide) ?_
      exact hJ 63
  have hB63 : zin 8 [0, 1, 2] (aX10_readPawn_63 mc ms X Q) X 63 := by
    intro u v vs st M hb
    rw [hXe]
    refine fun lv hp => S_block (L := 63) (live := [0, 1, 2]) ?_ u v lv vs st M hp hb
    unfold aX10_readPawn_63
    refine S_istore (pc := 63) hC dX10_readPawn_63 (by decide) ?_
    refine S_aload_n (pc := 65) hC dX10_readPawn_65 rfl ?_
    refine S_aload_n (pc := 66) hC dX10_readPawn_66 rfl ?_
    refine S_iload_n (pc := 67) hC dX10_readPawn_67 rfl ?_
    refine S_iload (pc := 68) hC dX10_readPawn_68 ?_
    refine S_callV (pc := 70) hC (sX10_readTarget l G) rfl wd_891 wd_893 ws_35 wd_5 wd_894 (by decide +kernel) ⟨by rw [hRf]; decide, by rw [hRl]; decide⟩ dX10_readPawn_70 ?_
    unfold kX10_readPawn_73
    refine S_if_ne (pc := 73) (tgt := 78) hC dX10_readPawn_73 (by decide) ?_ ?_
    · refine S_iload (pc := 78) hC dX10_readPawn_78 ?_
      refine S_iconst (pc := 80) hC dX10_readPawn_80 (by decide) ?_
      refine S_isub (pc := 81) hC dX10_readPawn_81 ?_
      refine S_iload_n (pc := 82) hC dX10_readPawn_82 rfl ?_
      refine S_isub (pc := 83) hC dX10_readPawn_83 ?_
      refine S_istore (pc := 84) hC dX10_readPawn_84 (by decide) ?_
      refine S_iload (pc := 86) hC dX10_readPawn_86 ?_
      refine S_if_eq (pc := 88) (tgt := 116) hC dX10_readPawn_88 (by decide) ?_ ?_
      · exact hJ 116
      · refine S_iload (pc := 91) hC dX10_readPawn_91 ?_
        refine S_iconst (pc := 93) hC dX10_readPawn_93 (by decide) ?_
        refine S_icmp_ne (pc := 94) (tgt := 120) hC dX10_readPawn_94 (by decide) ?_ ?_
        · exact hJ 120
        · refine S_aload_n (pc := 97) hC dX10_readPawn_97 rfl ?_
          refine S_iload_n (pc := 98) hC dX10_readPawn_98 rfl ?_
          refine S_caload (pc := 99) hC dX10_readPawn_99 ?_
          refine S_callS (pc := 100) hC (sX10_isFile l G) wd_895 wd_896 wd_5 wd_897 (by decide +kernel) ⟨by rw [hRf]; decide, by rw [hRl]; decide⟩ dX10_readPawn_100 ?_
          unfold kX10_readPawn_103
          refine S_if_eq (pc := 103) (tgt := 120) hC dX10_readPawn_103 (by decide) ?_ ?_
          · exact hJ 120
          · refine S_aload_n (pc := 106) hC dX10_readPawn_106 rfl ?_
            refine S_iload_n (pc := 107) hC dX10_readPawn_107 rfl ?_
            refine S_iconst (pc := 108) hC dX10_readPawn_108 (by decide) ?_
            refine S_iadd (pc := 109) hC dX10_readPawn_109 ?_
            refine S_caload (pc := 110) hC dX10_readPawn_110 ?_
            refine S_bipush (pc := 111) hC dX10_readPawn_111 (by decide) ?_
            refine S_icmp_ne (pc := 113) (tgt := 120) hC dX10_readPawn_113 (by decide) ?_ ?_
            · exact hJ 120
            · exact hJ 116
    · refine S_iconst (pc := 76) hC dX10_readPawn_76 (by decide) ?_
      exact S_zreturn (pc := 77) hC hr dX10_readPawn_77
  have hB116 : zin 8 [] (aX10_readPawn_116 mc ms X Q) X 116 := by
    intro u v vs st M hb
    rw [hXe]
    refine fun lv hp => S_block (L := 116) (live := []) ?_ u v lv vs st M hp hb
    unfold aX10_readPawn_116
    refine S_iconst (pc := 116) hC dX10_readPawn_116 (by decide) ?_
    refine S_goto (pc := 117) (tgt := 121) hC dX10_readPawn_117 (by decide) ?_
    exact hJ 121
  have hB120 : zin 8 [] (aX10_readPawn_120 mc ms X Q) X 120 := by
    intro u v vs st M hb
    rw [hXe]
    refine fun lv hp => S_block (L := 120) (live := []) ?_ u v lv vs st M hp hb
    unfold aX10_readPawn_120
    refine S_iconst (pc := 120) hC dX10_readPawn_120 (by decide) ?_
    exact hJ 121
  have hB121 : zin 8 [] (aX10_readPawn_121 mc ms X Q) X 121 := by
    intro u v vs st M hb
    rw [hXe]
    refine fun lv hp => S_block (L := 121) (live := []) ?_ u v lv vs st M hp hb
    unfold aX10_readPawn_121
    exact S_zreturn (pc := 121) hC hr dX10_readPawn_121
  have := h.2 X hB0 hB33 hB34 hB48 hB63 hB116 hB120 hB121
  rw [hXe] at this
  exact this lv hlv
theorem vX10_readPawn_0 {mc ms : Nat} {X : Nat → zV} {Q : zQt} {M : zM} {g : Nat} {x2 : Int32} {x3 : Int32} (hW : zWd M g)  (h : ∀ M2 : zM, M2 = (zsI M 28 0 1) → vp_in ((x3 - (1 : Int32))) 8180 ∧ wJ0_indexOf_0f7a4 0 0 [.ref 5, .int ((M2 : zM).1 24 ((x3 - (1 : Int32)) : Int32).toNatClampNeg)] M2 (fun r M1 => kX10_readPawn_15 mc ms X Q 0 0 [some (.ref 28), some (.ref 24), some (.int x2), some (.int x3), none, none, none, none] (r.toList ++ []) M1)) : aX10_readPawn_0 mc ms X Q 0 0 [some (.ref 28), some (.ref 24), some (.int x2), some (.int x3), none, none, none, none] [] M := ⟨(fxs_28 hW.1), (have h2 := h _ rfl; ⟨8180, (fxs_24 hW.1), h2.1, ⟨Nat.le_of_ble_eq_true rfl, rfl, Or.inl rfl, 0, 0, Nat.zero_le _, Nat.zero_le _, h2.2⟩⟩)⟩
theorem vX10_readPawn_33 {mc ms : Nat} {X : Nat → zV} {Q : zQt} {M : zM} {g : Nat} {x2 : Int32} {x3 : Int32} {x4 : Int32} (hW : zWd M g)  (h : X 34 0 0 [.ref 28, .ref 24, .int x2, .int x3, .int x4] [.int 0] M) : aX10_readPawn_33 mc ms X Q 0 0 [some (.ref 28), some (.ref 24), some (.int x2), some (.int x3), some (.int x4), none, none, none] [] M := h
theorem vX10_readPawn_34 {mc ms : Nat} {X : Nat → zV} {Q : zQt} {M : zM} {g : Nat} {x2 : Int32} {x3 : Int32} {x4 : Int32} {s0 : Int32} (hW : zWd M g)  (h : (s0 = 0 → X 48 0 0 [.ref 28, .ref 24, .int x2, .int x3, .int s0] [.int 0, .ref 28] M) ∧ (¬ s0 = 0 → X 48 0 0 [.ref 28, .ref 24, .int x2, .int x3, .int s0] [.int x4, .ref 28] M)) : aX10_readPawn_34 mc ms X Q 0 0 [some (.ref 28), some (.ref 24), some (.int x2), some (.int x3), some (.int x4), none, none, none] [.int s0] M := ⟨fun c39 => (h.1 c39), fun c39 => (h.2 c39)⟩
theorem vX10_readPawn_48 {mc ms : Nat} {X : Nat → zV} {Q : zQt} {M : zM} {g : Nat} {x2 : Int32} {x3 : Int32} {x5 : Int32} {s0 : Int32} (hW : zWd M g)  (h : ∀ M48 : zM, M48 = (zsI M 28 2 s0) → (x5 = 0 → X 63 0 0 [.ref 28, .ref 24, .int x2] [.int x3] M48) ∧ (¬ x5 = 0 → X 63 0 0 [.ref 28, .ref 24, .int x2] [.int (x3 - (1 : Int32))] M48)) : aX10_readPawn_48 mc ms X Q 0 0 [some (.ref 28), some (.ref 24), some (.int x2), some (.int x3), none, some (.int x5), none, none] [.int s0, .ref 28] M := ⟨(fxs_28 hW.1), (have h48 := h _ rfl; ⟨fun c53 => (h48.1 c53), fun c53 => (h48.2 c53)⟩)⟩
theorem vX10_readPawn_63 {mc ms : Nat} {X : Nat → zV} {Q : zQt} {M : zM} {g : Nat} {x2 : Int32} {s0 : Int32} (hW : zWd M g)  (h : wX10_readTarget 0 0 [.ref 28, .ref 24, .int x2, .int s0] M (fun r M1 => kX10_readPawn_73 mc ms X Q 0 0 [some (.ref 28), some (.ref 24), some (.int x2), none, none, none, some (.int s0), none] (r.toList ++ []) M1)) : aX10_readPawn_63 mc ms X Q 0 0 [some (.ref 28), some (.ref 24), some (.int x2), none, none, none, none, none] [.int s0] M := ⟨Nat.le_of_ble_eq_true rfl, rfl, (fxs_28 hW.1), 0, 0, Nat.zero_le _, Nat.zero_le _, h⟩
theorem vX10_readPawn_116 {mc ms : Nat} {X : Nat → zV} {Q : zQt} {M : zM} {g : Nat}  (hW : zWd M g)  (h : X 121 0 0 [] [.int 1] M) : aX10_readPawn_116 mc ms X Q 0 0 [none, none, none, none, none, none, none, none] [] M := h
theorem vX10_readPawn_120 {mc ms : Nat} {X : Nat → zV} {Q : zQt} {M : zM} {g : Nat}  (hW : zWd M g)  (h : X 121 0 0 [] [.int 0] M) : aX10_readPawn_120 mc ms X Q 0 0 [none, none, none, none, none, none, none, none] [] M := h
theorem vX10_readPawn_121 {mc ms : Nat} {X : Nat → zV} {Q : zQt} {M : zM} {g : Nat} {s0 : Int32} (hW : zWd M g)  (h : narrow .boolean (.int s0) = .int s0 ∧ Q (some (.int s0)) M) : aX10_readPawn_121 mc ms X Q 0 0 [none, none, none, none, none, none, none, none] [.int s0] M := h
theorem vkX10_readPawn_15 {mc ms : Nat} {X : Nat → zV} {Q : zQt} {M : zM} {g : Nat} {x2 : Int32} {x3 : Int32} {s0 : Int32} (hW : zWd M g)  (h : (s0 < (2 : Int32) → X 33 0 0 [.ref 28, .ref 24, .int x2, .int x3, .int s0] [] M) ∧ (¬ s0 < (2 : Int32) → ((5 : Int32) < s0 → X 33 0 0 [.ref 28, .ref 24, .int x2, .int x3, .int s0] [] M) ∧ (¬ (5 : Int32) < s0 → X 34 0 0 [.ref 28, .ref 24, .int x2, .int x3, .int s0] [.int 1] M))) : kX10_readPawn_15 mc ms X Q 0 0 [some (.ref 28), some (.ref 24), some (.int x2), some (.int x3), none, none, none, none] [.int s0] M := ⟨fun c20 => (h.1 c20), fun c20 => ⟨fun c26 => ((h.2 c20).1 c26), fun c26 => ((h.2 c20).2 c26)⟩⟩
theorem vkX10_readPawn_73 {mc ms : Nat} {X : Nat → zV} {Q : zQt} {M : zM} {g : Nat} {x2 : Int32} {x6 : Int32} {s0 : Int32} (hW : zWd M g)  (h : (s0 = 0 → Q (some (.int 0)) M) ∧ (¬ s0 = 0 → (((x6 - (2 : Int32)) - x2) = 0 → X 116 0 0 [] [] M) ∧ (¬ ((x6 - (2 : Int32)) - x2) = 0 → (((x6 - (2 : Int32)) - x2) = (2 : Int32) → vp_in x2 8180 ∧ wX10_isFile 0 0 [.int ((M : zM).1 24 (x2 : Int32).toNatClampNeg)] M (fun r M1 => kX10_readPawn_103 mc ms X Q 0 0 [some (.ref 28), some (.ref 24), some (.int x2), none, none, none, some (.int x6), some (.int ((x6 - (2 : Int32)) - x2))] (r.toList ++ []) M1)) ∧ (¬ ((x6 - (2 : Int32)) - x2) = (2 : Int32) → X 120 0 0 [] [] M)))) : kX10_readPawn_73 mc ms X Q 0 0 [some (.ref 28), some (.ref 24), some (.int x2), none, none, none, some (.int x6), none] [.int s0] M := ⟨fun c73 => ⟨rfl, (h.1 c73)⟩, fun c73 => ⟨fun c88 => ((h.2 c73).1 c88), fun c88 => ⟨fun c94 => ⟨8180, (fxs_24 hW.1), (((h.2 c73).2 c88).1 c94).1, ⟨Nat.le_of_ble_eq_true rfl, rfl, 0, 0, Nat.zero_le _, Nat.zero_le _, (((h.2 c73).2 c88).1 c94).2⟩⟩, fun c94 => (((h.2 c73).2 c88).2 c94)⟩⟩⟩
theorem vkX10_readPawn_103 {mc ms : Nat} {X : Nat → zV} {Q : zQt} {M : zM} {g : Nat} {x2 : Int32} {x6 : Int32} {x7 : Int32} {s0 : Int32} (hW : zWd M g)  (h : (s0 = 0 → X 120 0 0 [] [] M) ∧ (¬ s0 = 0 → vp_in ((x2 + (1 : Int32))) 8180 ∧ (((M : zM).1 24 ((x2 + (1 : Int32)) : Int32).toNatClampNeg) = (120 : Int32) → X 116 0 0 [] [] M) ∧ (¬ ((M : zM).1 24 ((x2 + (1 : Int32)) : Int32).toNatClampNeg) = (120 : Int32) → X 120 0 0 [] [] M))) : kX10_readPawn_103 mc ms X Q 0 0 [some (.ref 28), some (.ref 24), some (.int x2), none, none, none, some (.int x6), some (.int x7)] [.int s0] M := ⟨fun c103 => (h.1 c103), fun c103 => ⟨8180, (fxs_24 hW.1), (h.2 c103).1, ⟨fun c113 => ((h.2 c103).2.1 c113), fun c113 => ((h.2 c103).2.2 c113)⟩⟩⟩
theorem dX11_init_0 : decode cX11_init 0 = .ok (.aload_n 0, 1) := by decide +kernel
theorem dX11_init_1 : decode cX11_init 1 = .ok (.invokespecial 1, 3) := by decide +kernel
theorem dX11_init_4 : decode cX11_init 4 = .ok (.new 7, 3) := by decide +kernel
theorem dX11_init_7 : decode cX11_init 7 = .ok (.dup, 1) := by decide +kernel
theorem dX11_init_8 : decode cX11_init 8 = .ok (.invokespecial 9, 3) := by decide +kernel
theorem dX11_init_11 : decode cX11_init 11 = .ok (.astore_n 2, 1) := by decide +kernel
theorem dX11_init_12 : decode cX11_init 12 = .ok (.aload_n 0, 1) := by decide +kernel
theorem dX11_init_13 : decode cX11_init 13 = .ok (.sipush 8180, 3) := by decide +kernel
theorem dX11_init_16 : decode cX11_init 16 = .ok (.newarray .char, 2) := by decide +kernel
theorem dX11_init_18 : decode cX11_init 18 = .ok (.putfield 12, 3) := by decide +kernel
theorem dX11_init_21 : decode cX11_init 21 = .ok (.aload_n 0, 1) := by decide +kernel
theorem dX11_init_22 : decode cX11_init 22 = .ok (.new 16, 3) := by decide +kernel
theorem dX11_init_25 : decode cX11_init 25 = .ok (.dup, 1) := by decide +kernel
theorem dX11_init_26 : decode cX11_init 26 = .ok (.invokespecial 18, 3) := by decide +kernel
theorem dX11_init_29 : decode cX11_init 29 = .ok (.putfield 19, 3) := by decide +kernel
theorem dX11_init_32 : decode cX11_init 32 = .ok (.aload_n 0, 1) := by decide +kernel
theorem dX11_init_33 : decode cX11_init 33 = .ok (.new 23, 3) := by decide +kernel
theorem dX11_init_36 : decode cX11_init 36 = .ok (.dup, 1) := by decide +kernel
theorem dX11_init_37 : decode cX11_init 37 = .ok (.aload_n 0, 1) := by decide +kernel
theorem dX11_init_38 : decode cX11_init 38 = .ok (.getfield 12, 3) := by decide +kernel
theorem dX11_init_41 : decode cX11_init 41 = .ok (.aload_n 0, 1) := by decide +kernel
theorem dX11_init_42 : decode cX11_init 42 = .ok (.getfield 19, 3) := by decide +kernel
theorem dX11_init_45 : decode cX11_init 45 = .ok (.invokespecial 25, 3) := by decide +kernel
theorem dX11_init_48 : decode cX11_init 48 = .ok (.putfield 28, 3) := by decide +kernel
theorem dX11_init_51 : decode cX11_init 51 = .ok (.aload_n 0, 1) := by decide +kernel
theorem dX11_init_52 : decode cX11_init 52 = .ok (.new 32, 3) := by decide +kernel
theorem dX11_init_55 : decode cX11_init 55 = .ok (.dup, 1) := by decide +kernel
theorem dX11_init_56 : decode cX11_init 56 = .ok (.invokespecial 34, 3) := by decide +kernel
theorem dX11_init_59 : decode cX11_init 59 = .ok (.putfield 35, 3) := by decide +kernel
theorem dX11_init_62 : decode cX11_init 62 = .ok (.aload_n 0, 1) := by decide +kernel
theorem dX11_init_63 : decode cX11_init 63 = .ok (.new 39, 3) := by decide +kernel
theorem dX11_init_66 : decode cX11_init 66 = .ok (.dup, 1) := by decide +kernel
theorem dX11_init_67 : decode cX11_init 67 = .ok (.invokespecial 41, 3) := by decide +kernel
theorem dX11_init_70 : decode cX11_init 70 = .ok (.putfield 42, 3) := by decide +kernel
theorem dX11_init_73 : decode cX11_init 73 = .ok (.aload_n 0, 1) := by decide +kernel
theorem dX11_init_74 : decode cX11_init 74 = .ok (.new 46, 3) := by decide +kernel
theorem dX11_init_77 : decode cX11_init 77 = .ok (.dup, 1) := by decide +kernel
theorem dX11_init_78 : decode cX11_init 78 = .ok (.aload_n 2, 1) := by decide +kernel
theorem dX11_init_79 : decode cX11_init 79 = .ok (.invokespecial 48, 3) := by decide +kernel
theorem dX11_init_82 : decode cX11_init 82 = .ok (.putfield 51, 3) := by decide +kernel
theorem dX11_init_85 : decode cX11_init 85 = .ok (.aload_n 0, 1) := by decide +kernel
theorem dX11_init_86 : decode cX11_init 86 = .ok (.new 55, 3) := by decide +kernel
theorem dX11_init_89 : decode cX11_init 89 = .ok (.dup, 1) := by decide +kernel
theorem dX11_init_90 : decode cX11_init 90 = .ok (.aload_n 2, 1) := by decide +kernel
theorem dX11_init_91 : decode cX11_init 91 = .ok (.invokespecial 57, 3) := by decide +kernel
theorem dX11_init_94 : decode cX11_init 94 = .ok (.putfield 58, 3) := by decide +kernel
theorem dX11_init_97 : decode cX11_init 97 = .ok (.aload_n 0, 1) := by decide +kernel
theorem dX11_init_98 : decode cX11_init 98 = .ok (.new 55, 3) := by decide +kernel
theorem dX11_init_101 : decode cX11_init 101 = .ok (.dup, 1) := by decide +kernel
theorem dX11_init_102 : decode cX11_init 102 = .ok (.aload_n 2, 1) := by decide +kernel
theorem dX11_init_103 : decode cX11_init 103 = .ok (.invokespecial 57, 3) := by decide +kernel
theorem dX11_init_106 : decode cX11_init 106 = .ok (.putfield 62, 3) := by decide +kernel
theorem dX11_init_109 : decode cX11_init 109 = .ok (.aload_n 0, 1) := by decide +kernel
theorem dX11_init_110 : decode cX11_init 110 = .ok (.iconst 0, 1) := by decide +kernel
theorem dX11_init_111 : decode cX11_init 111 = .ok (.putfield 65, 3) := by decide +kernel
theorem dX11_init_114 : decode cX11_init 114 = .ok (.aload_n 0, 1) := by decide +kernel
theorem dX11_init_115 : decode cX11_init 115 = .ok (.iconst 0, 1) := by decide +kernel
theorem dX11_init_116 : decode cX11_init 116 = .ok (.putfield 69, 3) := by decide +kernel
theorem dX11_init_119 : decode cX11_init 119 = .ok (.aload_n 0, 1) := by decide +kernel
theorem dX11_init_120 : decode cX11_init 120 = .ok (.iconst 0, 1) := by decide +kernel
theorem dX11_init_121 : decode cX11_init 121 = .ok (.putfield 73, 3) := by decide +kernel
theorem dX11_init_124 : decode cX11_init 124 = .ok (.aload_n 0, 1) := by decide +kernel
theorem dX11_init_125 : decode cX11_init 125 = .ok (.iconst (-1), 1) := by decide +kernel
theorem dX11_init_126 : decode cX11_init 126 = .ok (.putfield 76, 3) := by decide +kernel
theorem dX11_init_129 : decode cX11_init 129 = .ok (.aload_n 0, 1) := by decide +kernel
theorem dX11_init_130 : decode cX11_init 130 = .ok (.iconst 0, 1) := by decide +kernel
theorem dX11_init_131 : decode cX11_init 131 = .ok (.putfield 79, 3) := by decide +kernel
theorem dX11_init_134 : decode cX11_init 134 = .ok (.return_, 1) := by decide +kernel
def kX11_init_106 (mc ms : Nat) (X : Nat → zV) (Q : zQt) : zT :=
  zpr 11 7 <| zla 0 <| zc (.int 0) <| zpz 11 8 <| zla 0 <| zc (.int 0) <| zpi 11 9 <| zla 0 <| zc (.int 0) <| zpi 11 10 <| zla 0 <| zc (.int (-1)) <| zpi 11 11 <| zla 0 <| zc (.int 0) <| zpi 11 12 <| zrv Q
def kX11_init_94 (mc ms : Nat) (X : Nat → zV) (Q : zQt) : zT :=
  zpr 11 6 <| zla 0 <| znew mc ms 4 <| zdup <| zla 2 <| zci mc ms 1 wX4_init <| kX11_init_106 mc ms X Q
def kX11_init_82 (mc ms : Nat) (X : Nat → zV) (Q : zQt) : zT :=
  zpr 11 5 <| zla 0 <| znew mc ms 4 <| zdup <| zla 2 <| zci mc ms 1 wX4_init <| kX11_init_94 mc ms X Q
def kX11_init_70 (mc ms : Nat) (X : Nat → zV) (Q : zQt) : zT :=
  zpr 11 4 <| zla 0 <| znew mc ms 3 <| zdup <| zla 2 <| zci mc ms 1 wX3_init <| kX11_init_82 mc ms X Q
def kX11_init_59 (mc ms : Nat) (X : Nat → zV) (Q : zQt) : zT :=
  zpr 11 3 <| zla 0 <| znew mc ms 8 <| zdup <| zci mc ms 0 wX8_init <| kX11_init_70 mc ms X Q
def kX11_init_48 (mc ms : Nat) (X : Nat → zV) (Q : zQt) : zT :=
  zpr 11 1 <| zla 0 <| znew mc ms 7 <| zdup <| zci mc ms 0 wX7_init <| kX11_init_59 mc ms X Q
def kX11_init_29 (mc ms : Nat) (X : Nat → zV) (Q : zQt) : zT :=
  zpr 11 2 <| zla 0 <| znew mc ms 6 <| zdup <| zla 0 <| zgR 11 0 <| zla 0 <| zgR 11 2 <| zci mc ms 2 wX6_init <| kX11_init_48 mc ms X Q
def kX11_init_11 (mc ms : Nat) (X : Nat → zV) (Q : zQt) : zT :=
  zsa 2 <| zla 0 <| zc (.int 8180) <| zna mc ms 4 <| zpr 11 0 <| zla 0 <| znew mc ms 9 <| zdup <| zci mc ms 0 wX9_init <| kX11_init_29 mc ms X Q
def aX11_init_0 (mc ms : Nat) (X : Nat → zV) (Q : zQt) : zT :=
  zla 0 <| zoi <| znew mc ms 1 <| zdup <| zci mc ms 0 wX1_init <| kX11_init_11 mc ms X Q
def lvX11_init : Nat → List Nat := fun L => match L with
  | 0 => [0, 1]
  | _ => []
def wX11_init : zSp := fun mc ms av M Q => ((zlay av).length ≤ 3 ∧ zpick (zlay av) [0, 1] = some av) ∧ ∀ X : Nat → zV, zin 3 [0, 1] (aX11_init_0 mc ms X Q) X 0 → X 0 0 0 av [] M
set_option maxRecDepth 100000 in
set_option maxHeartbeats 4000000 in
theorem sX11_init (l : Launch) (G : zG) (hE : zXt G) : zSnd l G yX11_init cX11_init 3 none 3 70 wX11_init := by
  refine zmk [0, 1] (by decide) (fun mc ms av M Q h => h.1) ?_
  intro p e R s m args below meth c mc ms av M Q hC hRf hRl hr hnm h lv hlv
  obtain ⟨X, hXe⟩ : ∃ X : Nat → zV, X = fun L u v vs st M => ∀ lv, zpick lv (lvX11_init L) = some vs → zAt p l e R s m args below meth c (MQ below (zQ G Q) args s mc ms (zA G)) G 3 L u v lv st M := ⟨_, rfl⟩
  have hJ : ∀ L, zOk p l e R s m args below meth c (MQ below (zQ G Q) args s mc ms (zA G)) G 3 L (zj X L (lvX11_init L)) := fun L => S_jump (fun u v lv vs st M hp hx => by rw [hXe] at hx; exact hx lv hp)
  have hB0 : zin 3 [0, 1] (aX11_init_0 mc ms X Q) X 0 := by
    intro u v vs st M hb
    rw [hXe]
    refine fun lv hp => S_block (L := 0) (live := [0, 1]) ?_ u v lv vs st M hp hb
    unfold aX11_init_0
    refine S_aload_n (pc := 0) hC dX11_init_0 rfl ?_
    refine S_objInit (pc := 1) hC wd_34 wd_35 wd_36 (by rw [hRf]; decide) (by rw [hRl]; decide) dX11_init_1 ?_
    refine S_new (pc := 4) hC cfX1 (by decide) wd_37 wd_38 wd_2 dX11_init_4 ?_
    refine S_dup (pc := 7) hC dX11_init_7 ?_
    refine S_callI (pc := 8) hC (sX1_init l G hE.1) wd_39 wd_40 wd_2 wd_41 rfl (by decide +kernel) ⟨by rw [hRf]; decide, by rw [hRl]; decide⟩ dX11_init_8 ?_
    unfold kX11_init_11
    refine S_astore_n (pc := 11) hC dX11_init_11 rfl (by decide) ?_
    refine S_aload_n (pc := 12) hC dX11_init_12 rfl ?_
    refine S_sipush (pc := 13) hC dX11_init_13 (by decide) ?_
    refine S_newa_char (pc := 16) hC wd_99 dX11_init_16 ?_
    refine S_putr (pc := 18) hC cfX11 (by decide) (Or.inr ⟨_, rfl⟩) (Or.inr ⟨rfl, hnm, rfl⟩) wd_346 dX11_init_18 ?_
    refine S_aload_n (pc := 21) hC dX11_init_21 rfl ?_
    refine S_new (pc := 22) hC cfX9 (by decide) wd_89 wd_90 wd_3 dX11_init_22 ?_
    refine S_dup (pc := 25) hC dX11_init_25 ?_
    refine S_callI (pc := 26) hC (sX9_init l G) wd_91 wd_92 wd_3 wd_93 rfl (by decide +kernel) ⟨by rw [hRf]; decide, by rw [hRl]; decide⟩ dX11_init_26 ?_
    unfold kX11_init_29
    refine S_putr (pc := 29) hC cfX11 (by decide) (Or.inl ⟨_, rfl⟩) (Or.inr ⟨rfl, hnm, rfl⟩) wd_348 dX11_init_29 ?_
    refine S_aload_n (pc := 32) hC dX11_init_32 rfl ?_
    refine S_new (pc := 33) hC cfX6 (by decide) wd_101 wd_102 wd_4 dX11_init_33 ?_
    refine S_dup (pc := 36) hC dX11_init_36 ?_
    refine S_aload_n (pc := 37) hC dX11_init_37 rfl ?_
    refine S_getR (pc := 38) hC cfX11 (by decide) (Or.inr ⟨_, rfl⟩) wd_346 dX11_init_38 ?_
    refine S_aload_n (pc := 41) hC dX11_init_41 rfl ?_
    refine S_getR (pc := 42) hC cfX11 (by decide) (Or.inl ⟨_, rfl⟩) wd_348 dX11_init_42 ?_
    refine S_callI (pc := 45) hC (sX6_init l G hE) wd_103 wd_104 wd_4 wd_105 rfl (by decide +kernel) ⟨by rw [hRf]; decide, by rw [hRl]; decide⟩ dX11_init_45 ?_
    unfold kX11_init_48
    refine S_putr (pc := 48) hC cfX11 (by decide) (Or.inl ⟨_, rfl⟩) (Or.inr ⟨rfl, hnm, rfl⟩) wd_347 dX11_init_48 ?_
    refine S_aload_n (pc := 51) hC dX11_init_51 rfl ?_
    refine S_new (pc := 52) hC cfX7 (by decide) wd_154 wd_155 wd_6 dX11_init_52 ?_
    refine S_dup (pc := 55) hC dX11_init_55 ?_
    refine S_callI (pc := 56) hC (sX7_init l G) wd_156 wd_157 wd_6 wd_158 rfl (by decide +kernel) ⟨by rw [hRf]; decide, by rw [hRl]; decide⟩ dX11_init_56 ?_
    unfold kX11_init_59
    refine S_putr (pc := 59) hC cfX11 (by decide) (Or.inl ⟨_, rfl⟩) (Or.inr ⟨rfl, hnm, rfl⟩) wd_349 dX11_init_59 ?_
    refine S_aload_n (pc := 62) hC dX11_init_62 rfl ?_
    refine S_new (pc := 63) hC cfX8 (by decide) wd_167 wd_168 wd_7 dX11_init_63 ?_
    refine S_dup (pc := 66) hC dX11_init_66 ?_
    refine S_callI (pc := 67) hC (sX8_init l G) wd_169 wd_170 wd_7 wd_171 rfl (by decide +kernel) ⟨by rw [hRf]; decide, by rw [hRl]; decide⟩ dX11_init_67 ?_
    unfold kX11_init_70
    refine S_putr (pc := 70) hC cfX11 (by decide) (Or.inl ⟨_, rfl⟩) (Or.inr ⟨rfl, hnm, rfl⟩) wd_350 dX11_init_70 ?_
    refine S_aload_n (pc := 73) hC dX11_init_73 rfl ?_
    refine S_new (pc := 74) hC cfX3 (by decide) wd_185 wd_186 wd_8 dX11_init_74 ?_
    refine S_dup (pc := 77) hC dX11_init_77 ?_
    refine S_aload_n (pc := 78) hC dX11_init_78 rfl ?_
    refine S_callI (pc := 79) hC (sX3_init l G hE) wd_187 wd_188 wd_8 wd_189 rfl (by decide +kernel) ⟨by rw [hRf]; decide, by rw [hRl]; decide⟩ dX11_init_79 ?_
    unfold kX11_init_82
    refine S_putr (pc := 82) hC cfX11 (by decide) (Or.inl ⟨_, rfl⟩) (Or.inr ⟨rfl, hnm, rfl⟩) wd_351 dX11_init_82 ?_
    refine S_aload_n (pc := 85) hC dX11_init_85 rfl ?_
    refine S_new (pc := 86) hC cfX4 (by decide) wd_200 wd_201 wd_9 dX11_init_86 ?_
    refine S_dup (pc := 89) hC dX11_init_89 ?_
    refine S_aload_n (pc := 90) hC dX11_init_90 rfl ?_
    refine S_callI (pc := 91) hC (sX4_init l G) wd_202 wd_203 wd_9 wd_204 rfl (by decide +kernel) ⟨by rw [hRf]; decide, by rw [hRl]; decide⟩ dX11_init_91 ?_
    unfold kX11_init_94
    refine S_putr (pc := 94) hC cfX11 (by decide) (Or.inl ⟨_, rfl⟩) (Or.inl rfl) wd_352 dX11_init_94 ?_
    refine S_aload_n (pc := 97) hC dX11_init_97 rfl ?_
    refine S_new (pc := 98) hC cfX4 (by decide) wd_200 wd_201 wd_9 dX11_init_98 ?_
    refine S_dup (pc := 101) hC dX11_init_101 ?_
    refine S_aload_n (pc := 102) hC dX11_init_102 rfl ?_
    refine S_callI (pc := 103) hC (sX4_init l G) wd_202 wd_203 wd_9 wd_204 rfl (by decide +kernel) ⟨by rw [hRf]; decide, by rw [hRl]; decide⟩ dX11_init_103 ?_
    unfold kX11_init_106
    refine S_putr (pc := 106) hC cfX11 (by decide) (Or.inl ⟨_, rfl⟩) (Or.inl rfl) wd_353 dX11_init_106 ?_
    refine S_aload_n (pc := 109) hC dX11_init_109 rfl ?_
    refine S_iconst (pc := 110) hC dX11_init_110 (by decide) ?_
    refine S_putz (pc := 111) hC cfX11 (by decide) rfl (Or.inl rfl) wd_354 dX11_init_111 ?_
    refine S_aload_n (pc := 114) hC dX11_init_114 rfl ?_
    refine S_iconst (pc := 115) hC dX11_init_115 (by decide) ?_
    refine S_puti (pc := 116) hC cfX11 (by decide) rfl (Or.inl rfl) wd_355 dX11_init_116 ?_
    refine S_aload_n (pc := 119) hC dX11_init_119 rfl ?_
    refine S_iconst (pc := 120) hC dX11_init_120 (by decide) ?_
    refine S_puti (pc := 121) hC cfX11 (by decide) rfl (Or.inl rfl) wd_356 dX11_init_121 ?_
    refine S_aload_n (pc := 124) hC dX11_init_124 rfl ?_
    refine S_iconst (pc := 125) hC dX11_init_125 (by decide) ?_
    refine S_puti (pc := 126) hC cfX11 (by decide) rfl (Or.inl rfl) wd_357 dX11_init_126 ?_
    refine S_aload_n (pc := 129) hC dX11_init_129 rfl ?_
    refine S_iconst (pc := 130) hC dX11_init_130 (by decide) ?_
    refine S_puti (pc := 131) hC cfX11 (by decide) rfl (Or.inl rfl) wd_358 dX11_init_131 ?_
    exact S_vreturn (pc := 134) hC hr dX11_init_134
  have := h.2 X hB0
  rw [hXe] at this
  exact this lv hlv
theorem dX11_proceed_0 : decode cX11_proceed 0 = .ok (.aload_n 0, 1) := by decide +kernel
theorem dX11_proceed_1 : decode cX11_proceed 1 = .ok (.getfield 65, 3) := by decide +kernel
theorem dX11_proceed_4 : decode cX11_proceed 4 = .ok (.ifCond .eq 23, 3) := by decide +kernel
theorem dX11_proceed_7 : decode cX11_proceed 7 = .ok (.aload_n 0, 1) := by decide +kernel
theorem dX11_proceed_8 : decode cX11_proceed 8 = .ok (.getfield 58, 3) := by decide +kernel
theorem dX11_proceed_11 : decode cX11_proceed 11 = .ok (.invokevirtual 107, 3) := by decide +kernel
theorem dX11_proceed_14 : decode cX11_proceed 14 = .ok (.ifCond .ne 13, 3) := by decide +kernel
theorem dX11_proceed_17 : decode cX11_proceed 17 = .ok (.aload_n 0, 1) := by decide +kernel
theorem dX11_proceed_18 : decode cX11_proceed 18 = .ok (.getfield 58, 3) := by decide +kernel
theorem dX11_proceed_21 : decode cX11_proceed 21 = .ok (.invokevirtual 111, 3) := by decide +kernel
theorem dX11_proceed_24 : decode cX11_proceed 24 = .ok (.ifCond .eq 11, 3) := by decide +kernel
theorem dX11_proceed_27 : decode cX11_proceed 27 = .ok (.new 114, 3) := by decide +kernel
theorem dX11_proceed_30 : decode cX11_proceed 30 = .ok (.dup, 1) := by decide +kernel
theorem dX11_proceed_31 : decode cX11_proceed 31 = .ok (.invokespecial 116, 3) := by decide +kernel
theorem dX11_proceed_34 : decode cX11_proceed 34 = .ok (.athrow, 1) := by decide +kernel
theorem dX11_proceed_35 : decode cX11_proceed 35 = .ok (.iload_n 1, 1) := by decide +kernel
theorem dX11_proceed_36 : decode cX11_proceed 36 = .ok (.ifCond .lt 14, 3) := by decide +kernel
theorem dX11_proceed_39 : decode cX11_proceed 39 = .ok (.iload_n 1, 1) := by decide +kernel
theorem dX11_proceed_40 : decode cX11_proceed 40 = .ok (.aload_n 0, 1) := by decide +kernel
theorem dX11_proceed_41 : decode cX11_proceed 41 = .ok (.getfield 58, 3) := by decide +kernel
theorem dX11_proceed_44 : decode cX11_proceed 44 = .ok (.getfield 117, 3) := by decide +kernel
theorem dX11_proceed_47 : decode cX11_proceed 47 = .ok (.if_icmp .lt 11, 3) := by decide +kernel
theorem dX11_proceed_50 : decode cX11_proceed 50 = .ok (.new 120, 3) := by decide +kernel
theorem dX11_proceed_53 : decode cX11_proceed 53 = .ok (.dup, 1) := by decide +kernel
theorem dX11_proceed_54 : decode cX11_proceed 54 = .ok (.invokespecial 122, 3) := by decide +kernel
theorem dX11_proceed_57 : decode cX11_proceed 57 = .ok (.athrow, 1) := by decide +kernel
theorem dX11_proceed_58 : decode cX11_proceed 58 = .ok (.aload_n 0, 1) := by decide +kernel
theorem dX11_proceed_59 : decode cX11_proceed 59 = .ok (.getfield 58, 3) := by decide +kernel
theorem dX11_proceed_62 : decode cX11_proceed 62 = .ok (.aload_n 0, 1) := by decide +kernel
theorem dX11_proceed_63 : decode cX11_proceed 63 = .ok (.getfield 58, 3) := by decide +kernel
theorem dX11_proceed_66 : decode cX11_proceed 66 = .ok (.getfield 123, 3) := by decide +kernel
theorem dX11_proceed_69 : decode cX11_proceed 69 = .ok (.iload_n 1, 1) := by decide +kernel
theorem dX11_proceed_70 : decode cX11_proceed 70 = .ok (.iaload, 1) := by decide +kernel
theorem dX11_proceed_71 : decode cX11_proceed 71 = .ok (.invokevirtual 127, 3) := by decide +kernel
theorem dX11_proceed_74 : decode cX11_proceed 74 = .ok (.aload_n 0, 1) := by decide +kernel
theorem dX11_proceed_75 : decode cX11_proceed 75 = .ok (.getfield 58, 3) := by decide +kernel
theorem dX11_proceed_78 : decode cX11_proceed 78 = .ok (.invokevirtual 131, 3) := by decide +kernel
theorem dX11_proceed_81 : decode cX11_proceed 81 = .ok (.ireturn, 1) := by decide +kernel
def kX11_proceed_81 (mc ms : Nat) (X : Nat → zV) (Q : zQt) : zT :=
  zri Q
def kX11_proceed_74 (mc ms : Nat) (X : Nat → zV) (Q : zQt) : zT :=
  zla 0 <| zgR 11 6 <| zcv mc ms 4 0 wX4_verdict <| kX11_proceed_81 mc ms X Q
def kX11_proceed_24 (mc ms : Nat) (X : Nat → zV) (Q : zQt) : zT :=
  zif (fun x => x = 0) (zli 1 <| zif (fun x => x < 0) (zj X 50 []) <| zli 1 <| zla 0 <| zgR 11 6 <| zgi 4 3 <| zic (fun x y => x < y) (zla 0 <| zgR 11 6 <| zla 0 <| zgR 11 6 <| zgR 4 2 <| zli 1 <| zal 1 <| zcv mc ms 4 1 wX4_add <| kX11_proceed_74 mc ms X Q) <| zj X 50 []) <| zj X 27 []
def kX11_proceed_14 (mc ms : Nat) (X : Nat → zV) (Q : zQt) : zT :=
  zif (fun x => x = 0) (zla 0 <| zgR 11 6 <| zcv mc ms 4 0 wX4_isFull <| kX11_proceed_24 mc ms X Q) <| zj X 27 []
def aX11_proceed_0 (mc ms : Nat) (X : Nat → zV) (Q : zQt) : zT :=
  zla 0 <| zgi 11 8 <| zif (fun x => x = 0) (zj X 27 []) <| zla 0 <| zgR 11 6 <| zcv mc ms 4 0 wX4_isOver <| kX11_proceed_14 mc ms X Q
def aX11_proceed_27 (mc ms : Nat) (X : Nat → zV) (Q : zQt) : zT :=
  zno
def aX11_proceed_50 (mc ms : Nat) (X : Nat → zV) (Q : zQt) : zT :=
  zno
def lvX11_proceed : Nat → List Nat := fun L => match L with
  | 0 => [0, 1]
  | 27 => []
  | 50 => []
  | _ => []
def wX11_proceed : zSp := fun mc ms av M Q => ((zlay av).length ≤ 2 ∧ zpick (zlay av) [0, 1] = some av) ∧ ∀ X : Nat → zV, zin 2 [0, 1] (aX11_proceed_0 mc ms X Q) X 0 → zin 2 [] (aX11_proceed_27 mc ms X Q) X 27 → zin 2 [] (aX11_proceed_50 mc ms X Q) X 50 → X 0 0 0 av [] M
set_option maxRecDepth 100000 in
set_option maxHeartbeats 4000000 in
theorem sX11_proceed (l : Launch) (G : zG) (hE : zXt G) : zSnd l G yX11_proceed cX11_proceed 2 (some .int) 6 155 wX11_proceed := by
  refine zmk [0, 1] (by decide) (fun mc ms av M Q h => h.1) ?_
  intro p e R s m args below meth c mc ms av M Q hC hRf hRl hr hnm h lv hlv
  obtain ⟨X, hXe⟩ : ∃ X : Nat → zV, X = fun L u v vs st M => ∀ lv, zpick lv (lvX11_proceed L) = some vs → zAt p l e R s m args below meth c (MQ below (zQ G Q) args s mc ms (zA G)) G 2 L u v lv st M := ⟨_, rfl⟩
  have hJ : ∀ L, zOk p l e R s m args below meth c (MQ below (zQ G Q) args s mc ms (zA G)) G 2 L (zj X L (lvX11_proceed L)) := fun L => S_jump (fun u v lv vs st M hp hx => by rw [hXe] at hx; exact hx lv hp)
  have hB0 : zin 2 [0, 1] (aX11_proceed_0 mc ms X Q) X 0 := by
    intro u v vs st M hb
    rw [hXe]
    refine fun lv hp => S_block (L := 0) (live := [0, 1]) ?_ u v lv vs st M hp hb
    unfold aX11_proceed_0
    refine S_aload_n (pc := 0) hC dX11_proceed_0 rfl ?_
    refine S_geti (pc := 1) hC cfX11 (by decide) (Or.inr rfl) wd_354 dX11_proceed_1 ?_
    refine S_if_eq (pc := 4) (tgt := 27) hC dX11_proceed_4 (by decide) ?_ ?_
    · exact hJ 27
    · refine S_aload_n (pc := 7) hC dX11_proceed_7 rfl ?_
      refine S_getR (pc := 8) hC cfX11 (by decide) (Or.inl ⟨_, rfl⟩) wd_352 dX11_proceed_8 ?_
      refine S_callV (pc := 11) hC (sX4_isOver l G) rfl wd_945 wd_866 wd_867 wd_9 wd_868 (by decide +kernel) ⟨by rw [hRf]; decide, by rw [hRl]; decide⟩ dX11_proceed_11 ?_
      unfold kX11_proceed_14
      refine S_if_ne (pc := 14) (tgt := 27) hC dX11_proceed_14 (by decide) ?_ ?_
      · exact hJ 27
      · refine S_aload_n (pc := 17) hC dX11_proceed_17 rfl ?_
        refine S_getR (pc := 18) hC cfX11 (by decide) (Or.inl ⟨_, rfl⟩) wd_352 dX11_proceed_18 ?_
        refine S_callV (pc := 21) hC (sX4_isFull l G) rfl wd_946 wd_871 wd_872 wd_9 wd_873 (by decide +kernel) ⟨by rw [hRf]; decide, by rw [hRl]; decide⟩ dX11_proceed_21 ?_
        unfold kX11_proceed_24
        refine S_if_eq (pc := 24) (tgt := 35) hC dX11_proceed_24 (by decide) ?_ ?_
        · refine S_iload_n (pc := 35) hC dX11_proceed_35 rfl ?_
          refine S_if_lt (pc := 36) (tgt := 50) hC dX11_proceed_36 (by decide) ?_ ?_
          · exact hJ 50
          · refine S_iload_n (pc := 39) hC dX11_proceed_39 rfl ?_
            refine S_aload_n (pc := 40) hC dX11_proceed_40 rfl ?_
            refine S_getR (pc := 41) hC cfX11 (by decide) (Or.inl ⟨_, rfl⟩) wd_352 dX11_proceed_41 ?_
            refine S_geti (pc := 44) hC cfX4 (by decide) (Or.inl rfl) wd_325 dX11_proceed_44 ?_
            refine S_icmp_lt (pc := 47) (tgt := 58) hC dX11_proceed_47 (by decide) ?_ ?_
            · refine S_aload_n (pc := 58) hC dX11_proceed_58 rfl ?_
              refine S_getR (pc := 59) hC cfX11 (by decide) (Or.inl ⟨_, rfl⟩) wd_352 dX11_proceed_59 ?_
              refine S_aload_n (pc := 62) hC dX11_proceed_62 rfl ?_
              refine S_getR (pc := 63) hC cfX11 (by decide) (Or.inl ⟨_, rfl⟩) wd_352 dX11_proceed_63 ?_
              refine S_getR (pc := 66) hC cfX4 (by decide) (Or.inr ⟨_, rfl⟩) wd_319 dX11_proceed_66 ?_
              refine S_iload_n (pc := 69) hC dX11_proceed_69 rfl ?_
              refine S_iaload (pc := 70) hC dX11_proceed_70 ?_
              refine S_callV (pc := 71) hC (sX4_add l G hE.1) rfl wd_977 wd_808 wd_809 wd_9 wd_810 (by decide +kernel) ⟨by rw [hRf]; decide, by rw [hRl]; decide⟩ dX11_proceed_71 ?_
              unfold kX11_proceed_74
              refine S_aload_n (pc := 74) hC dX11_proceed_74 rfl ?_
              refine S_getR (pc := 75) hC cfX11 (by decide) (Or.inl ⟨_, rfl⟩) wd_352 dX11_proceed_75 ?_
              refine S_callV (pc := 78) hC (sX4_verdict l G) rfl wd_589 wd_590 wd_591 wd_9 wd_592 (by decide +kernel) ⟨by rw [hRf]; decide, by rw [hRl]; decide⟩ dX11_proceed_78 ?_
              unfold kX11_proceed_81
              exact S_ireturn (pc := 81) hC hr dX11_proceed_81
            · exact hJ 50
        · exact hJ 27
  have hB27 : zin 2 [] (aX11_proceed_27 mc ms X Q) X 27 := by
    intro u v vs st M hb
    rw [hXe]
    refine fun lv hp => S_block (L := 27) (live := []) ?_ u v lv vs st M hp hb
    unfold aX11_proceed_27
    exact S_no
  have hB50 : zin 2 [] (aX11_proceed_50 mc ms X Q) X 50 := by
    intro u v vs st M hb
    rw [hXe]
    refine fun lv hp => S_block (L := 50) (live := []) ?_ u v lv vs st M hp hb
    unfold aX11_proceed_50
    exact S_no
  have := h.2 X hB0 hB27 hB50
  rw [hXe] at this
  exact this lv hlv
theorem vX11_proceed_0 {mc ms : Nat} {X : Nat → zV} {Q : zQt} {M : zM} {g : Nat} {x1 : Int32} (hW : zWd M g)  (h : ((M.1 16 8) = 0 → X 27 0 0 [] [] M) ∧ (¬ (M.1 16 8) = 0 → ∃ r8, ((M : zM).2.2.1 16 6) = some r8 ∧ zsh M r8 = some (0, 4) ∧ wX4_isOver 0 0 [.ref r8] M (fun r M1 => kX11_proceed_14 mc ms X Q 0 0 [some (.ref 16), some (.int x1)] (r.toList ++ []) M1))) : aX11_proceed_0 mc ms X Q 0 0 [some (.ref 16), some (.int x1)] [] M := ⟨(fxs_16 hW.1), ⟨fun c4 => (h.1 c4), fun c4 => (let ⟨r8, q8, hr8, h8⟩ := (h.2 c4); ⟨(fxs_16 hW.1), r8, q8, ⟨Nat.le_of_ble_eq_true rfl, rfl, hr8, 0, 0, Nat.zero_le _, Nat.zero_le _, h8⟩⟩)⟩⟩
theorem vX11_proceed_27 {mc ms : Nat} {X : Nat → zV} {Q : zQt} {M : zM} {g : Nat}  (hW : zWd M g)  (h : False) : aX11_proceed_27 mc ms X Q 0 0 [none, none] [] M := h
theorem vX11_proceed_50 {mc ms : Nat} {X : Nat → zV} {Q : zQt} {M : zM} {g : Nat}  (hW : zWd M g)  (h : False) : aX11_proceed_50 mc ms X Q 0 0 [none, none] [] M := h
theorem vkX11_proceed_14 {mc ms : Nat} {X : Nat → zV} {Q : zQt} {M : zM} {g : Nat} {x1 : Int32} {s0 : Int32} (hW : zWd M g)  (h : (s0 = 0 → ∃ r18, ((M : zM).2.2.1 16 6) = some r18 ∧ zsh M r18 = some (0, 4) ∧ wX4_isFull 0 0 [.ref r18] M (fun r M1 => kX11_proceed_24 mc ms X Q 0 0 [some (.ref 16), some (.int x1)] (r.toList ++ []) M1)) ∧ (¬ s0 = 0 → X 27 0 0 [] [] M)) : kX11_proceed_14 mc ms X Q 0 0 [some (.ref 16), some (.int x1)] [.int s0] M := ⟨fun c14 => (let ⟨r18, q18, hr18, h18⟩ := (h.1 c14); ⟨(fxs_16 hW.1), r18, q18, ⟨Nat.le_of_ble_eq_true rfl, rfl, hr18, 0, 0, Nat.zero_le _, Nat.zero_le _, h18⟩⟩), fun c14 => (h.2 c14)⟩
theorem vkX11_proceed_24 {mc ms : Nat} {X : Nat → zV} {Q : zQt} {M : zM} {g : Nat} {x1 : Int32} {s0 : Int32} (hW : zWd M g)  (h : (s0 = 0 → (x1 < 0 → X 50 0 0 [] [] M) ∧ (¬ x1 < 0 → ∃ r41, ((M : zM).2.2.1 16 6) = some r41 ∧ zsh M r41 = some (0, 4) ∧ (x1 < (M.1 r41 3) → ∃ r59, ((M : zM).2.2.1 16 6) = some r59 ∧ zsh M r59 = some (0, 4) ∧ ∃ r63, ((M : zM).2.2.1 16 6) = some r63 ∧ zsh M r63 = some (0, 4) ∧ ∃ r66 r66n, ((M : zM).2.2.1 r63 2) = some r66 ∧ zsh M r66 = some (1, r66n) ∧ vp_in x1 r66n ∧ wX4_add 0 0 [.ref r59, .int ((M : zM).1 r66 (x1 : Int32).toNatClampNeg)] M (fun r M1 => kX11_proceed_74 mc ms X Q 0 0 [some (.ref 16), some (.int x1)] (r.toList ++ []) M1)) ∧ (¬ x1 < (M.1 r41 3) → X 50 0 0 [] [] M))) ∧ (¬ s0 = 0 → X 27 0 0 [] [] M)) : kX11_proceed_24 mc ms X Q 0 0 [some (.ref 16), some (.int x1)] [.int s0] M := ⟨fun c24 => ⟨fun c36 => ((h.1 c24).1 c36), fun c36 => (let ⟨r41, q41, hr41, h41⟩ := ((h.1 c24).2 c36); ⟨(fxs_16 hW.1), r41, q41, ⟨hr41, ⟨fun c47 => (let ⟨r59, q59, hr59, h59⟩ := (h41.1 c47); ⟨(fxs_16 hW.1), r59, q59, (let ⟨r63, q63, hr63, h63⟩ := h59; ⟨(fxs_16 hW.1), r63, q63, (let ⟨r66, r66n, q66, hr66, h66⟩ := h63; ⟨hr63, r66, q66, ⟨r66n, hr66, h66.1, ⟨Nat.le_of_ble_eq_true rfl, rfl, hr59, 0, 0, Nat.zero_le _, Nat.zero_le _, h66.2⟩⟩⟩)⟩)⟩), fun c47 => (h41.2 c47)⟩⟩⟩)⟩, fun c24 => (h.2 c24)⟩
theorem vkX11_proceed_74 {mc ms : Nat} {X : Nat → zV} {Q : zQt} {M : zM} {g : Nat} {x1 : Int32} (hW : zWd M g)  (h : ∃ r75, ((M : zM).2.2.1 16 6) = some r75 ∧ zsh M r75 = some (0, 4) ∧ wX4_verdict 0 0 [.ref r75] M (fun r M1 => kX11_proceed_81 mc ms X Q 0 0 [some (.ref 16), some (.int x1)] (r.toList ++ []) M1)) : kX11_proceed_74 mc ms X Q 0 0 [some (.ref 16), some (.int x1)] [] M := (let ⟨r75, q75, hr75, h75⟩ := h; ⟨(fxs_16 hW.1), r75, q75, ⟨Nat.le_of_ble_eq_true rfl, rfl, hr75, 0, 0, Nat.zero_le _, Nat.zero_le _, h75⟩⟩)
theorem vkX11_proceed_81 {mc ms : Nat} {X : Nat → zV} {Q : zQt} {M : zM} {g : Nat} {x1 : Int32} {s0 : Int32} (hW : zWd M g)  (h : Q (some (.int s0)) M) : kX11_proceed_81 mc ms X Q 0 0 [some (.ref 16), some (.int x1)] [.int s0] M := h
theorem dX11_legalMove_0 : decode cX11_legalMove 0 = .ok (.aload_n 0, 1) := by decide +kernel
theorem dX11_legalMove_1 : decode cX11_legalMove 1 = .ok (.iload_n 1, 1) := by decide +kernel
theorem dX11_legalMove_2 : decode cX11_legalMove 2 = .ok (.invokevirtual 138, 3) := by decide +kernel
theorem dX11_legalMove_5 : decode cX11_legalMove 5 = .ok (.ifCond .ne 11, 3) := by decide +kernel
theorem dX11_legalMove_8 : decode cX11_legalMove 8 = .ok (.new 120, 3) := by decide +kernel
theorem dX11_legalMove_11 : decode cX11_legalMove 11 = .ok (.dup, 1) := by decide +kernel
theorem dX11_legalMove_12 : decode cX11_legalMove 12 = .ok (.invokespecial 122, 3) := by decide +kernel
theorem dX11_legalMove_15 : decode cX11_legalMove 15 = .ok (.athrow, 1) := by decide +kernel
theorem dX11_legalMove_16 : decode cX11_legalMove 16 = .ok (.aload_n 0, 1) := by decide +kernel
theorem dX11_legalMove_17 : decode cX11_legalMove 17 = .ok (.getfield 58, 3) := by decide +kernel
theorem dX11_legalMove_20 : decode cX11_legalMove 20 = .ok (.getfield 123, 3) := by decide +kernel
theorem dX11_legalMove_23 : decode cX11_legalMove 23 = .ok (.iload_n 1, 1) := by decide +kernel
theorem dX11_legalMove_24 : decode cX11_legalMove 24 = .ok (.iaload, 1) := by decide +kernel
theorem dX11_legalMove_25 : decode cX11_legalMove 25 = .ok (.ireturn, 1) := by decide +kernel
def kX11_legalMove_5 (mc ms : Nat) (X : Nat → zV) (Q : zQt) : zT :=
  zif (fun x => x = 0) (zno) <| zla 0 <| zgR 11 6 <| zgR 4 2 <| zli 1 <| zal 1 <| zri Q
def aX11_legalMove_0 (mc ms : Nat) (X : Nat → zV) (Q : zQt) : zT :=
  zla 0 <| zli 1 <| zcv mc ms 11 1 wX11_hasPlace <| kX11_legalMove_5 mc ms X Q
def lvX11_legalMove : Nat → List Nat := fun L => match L with
  | 0 => [0, 1]
  | _ => []
def wX11_legalMove : zSp := fun mc ms av M Q => ((zlay av).length ≤ 2 ∧ zpick (zlay av) [0, 1] = some av) ∧ ∀ X : Nat → zV, zin 2 [0, 1] (aX11_legalMove_0 mc ms X Q) X 0 → X 0 0 0 av [] M
set_option maxRecDepth 100000 in
set_option maxHeartbeats 4000000 in
theorem sX11_legalMove (l : Launch) (G : zG) : zSnd l G yX11_legalMove cX11_legalMove 2 (some .int) 1 21 wX11_legalMove := by
  refine zmk [0, 1] (by decide) (fun mc ms av M Q h => h.1) ?_
  intro p e R s m args below meth c mc ms av M Q hC hRf hRl hr hnm h lv hlv
  obtain ⟨X, hXe⟩ : ∃ X : Nat → zV, X = fun L u v vs st M => ∀ lv, zpick lv (lvX11_legalMove L) = some vs → zAt p l e R s m args below meth c (MQ below (zQ G Q) args s mc ms (zA G)) G 2 L u v lv st M := ⟨_, rfl⟩
  have hJ : ∀ L, zOk p l e R s m args below meth c (MQ below (zQ G Q) args s mc ms (zA G)) G 2 L (zj X L (lvX11_legalMove L)) := fun L => S_jump (fun u v lv vs st M hp hx => by rw [hXe] at hx; exact hx lv hp)
  have hB0 : zin 2 [0, 1] (aX11_legalMove_0 mc ms X Q) X 0 := by
    intro u v vs st M hb
    rw [hXe]
    refine fun lv hp => S_block (L := 0) (live := [0, 1]) ?_ u v lv vs st M hp hb
    unfold aX11_legalMove_0
    refine S_aload_n (pc := 0) hC dX11_legalMove_0 rfl ?_
    refine S_iload_n (pc := 1) hC dX11_legalMove_1 rfl ?_
    refine S_callV (pc := 2) hC (sX11_hasPlace l G) rfl wd_985 wd_987 ws_40 wd_1 wd_988 (by decide +kernel) ⟨by rw [hRf]; decide, by rw [hRl]; decide⟩ dX11_legalMove_2 ?_
    unfold kX11_legalMove_5
    refine S_if_ne (pc := 5) (tgt := 16) hC dX11_legalMove_5 (by decide) ?_ ?_
    · refine S_aload_n (pc := 16) hC dX11_legalMove_16 rfl ?_
      refine S_getR (pc := 17) hC cfX11 (by decide) (Or.inl ⟨_, rfl⟩) wd_352 dX11_legalMove_17 ?_
      refine S_getR (pc := 20) hC cfX4 (by decide) (Or.inr ⟨_, rfl⟩) wd_319 dX11_legalMove_20 ?_
      refine S_iload_n (pc := 23) hC dX11_legalMove_23 rfl ?_
      refine S_iaload (pc := 24) hC dX11_legalMove_24 ?_
      exact S_ireturn (pc := 25) hC hr dX11_legalMove_25
    · exact S_no
  have := h.2 X hB0
  rw [hXe] at this
  exact this lv hlv
theorem vX11_legalMove_0 {mc ms : Nat} {X : Nat → zV} {Q : zQt} {M : zM} {g : Nat} {x1 : Int32} (hW : zWd M g)  (h : wX11_hasPlace 0 0 [.ref 16, .int x1] M (fun r M1 => kX11_legalMove_5 mc ms X Q 0 0 [some (.ref 16), some (.int x1)] (r.toList ++ []) M1)) : aX11_legalMove_0 mc ms X Q 0 0 [some (.ref 16), some (.int x1)] [] M := ⟨Nat.le_of_ble_eq_true rfl, rfl, (fxs_16 hW.1), 0, 0, Nat.zero_le _, Nat.zero_le _, h⟩
theorem vkX11_legalMove_5 {mc ms : Nat} {X : Nat → zV} {Q : zQt} {M : zM} {g : Nat} {x1 : Int32} {s0 : Int32} (hW : zWd M g)  (h : (s0 = 0 → False) ∧ (¬ s0 = 0 → ∃ r17, ((M : zM).2.2.1 16 6) = some r17 ∧ zsh M r17 = some (0, 4) ∧ ∃ r20 r20n, ((M : zM).2.2.1 r17 2) = some r20 ∧ zsh M r20 = some (1, r20n) ∧ vp_in x1 r20n ∧ Q (some (.int (((M : zM).1 r20 (x1 : Int32).toNatClampNeg)))) M)) : kX11_legalMove_5 mc ms X Q 0 0 [some (.ref 16), some (.int x1)] [.int s0] M := ⟨fun c5 => (h.1 c5), fun c5 => (let ⟨r17, q17, hr17, h17⟩ := (h.2 c5); ⟨(fxs_16 hW.1), r17, q17, (let ⟨r20, r20n, q20, hr20, h20⟩ := h17; ⟨hr17, r20, q20, ⟨r20n, hr20, h20.1, h20.2⟩⟩)⟩)⟩
theorem dX11_distanceToMate_0 : decode cX11_distanceToMate 0 = .ok (.aload_n 0, 1) := by decide +kernel
theorem dX11_distanceToMate_1 : decode cX11_distanceToMate 1 = .ok (.getfield 65, 3) := by decide +kernel
theorem dX11_distanceToMate_4 : decode cX11_distanceToMate 4 = .ok (.ifCond .ne 11, 3) := by decide +kernel
theorem dX11_distanceToMate_7 : decode cX11_distanceToMate 7 = .ok (.new 114, 3) := by decide +kernel
theorem dX11_distanceToMate_10 : decode cX11_distanceToMate 10 = .ok (.dup, 1) := by decide +kernel
theorem dX11_distanceToMate_11 : decode cX11_distanceToMate 11 = .ok (.invokespecial 116, 3) := by decide +kernel
theorem dX11_distanceToMate_14 : decode cX11_distanceToMate 14 = .ok (.athrow, 1) := by decide +kernel
theorem dX11_distanceToMate_15 : decode cX11_distanceToMate 15 = .ok (.aload_n 0, 1) := by decide +kernel
theorem dX11_distanceToMate_16 : decode cX11_distanceToMate 16 = .ok (.getfield 51, 3) := by decide +kernel
theorem dX11_distanceToMate_19 : decode cX11_distanceToMate 19 = .ok (.aload_n 0, 1) := by decide +kernel
theorem dX11_distanceToMate_20 : decode cX11_distanceToMate 20 = .ok (.getfield 58, 3) := by decide +kernel
theorem dX11_distanceToMate_23 : decode cX11_distanceToMate 23 = .ok (.getfield 89, 3) := by decide +kernel
theorem dX11_distanceToMate_26 : decode cX11_distanceToMate 26 = .ok (.invokevirtual 177, 3) := by decide +kernel
theorem dX11_distanceToMate_29 : decode cX11_distanceToMate 29 = .ok (.ireturn, 1) := by decide +kernel
def kX11_distanceToMate_29 (mc ms : Nat) (X : Nat → zV) (Q : zQt) : zT :=
  zri Q
def aX11_distanceToMate_0 (mc ms : Nat) (X : Nat → zV) (Q : zQt) : zT :=
  zla 0 <| zgi 11 8 <| zif (fun x => x = 0) (zno) <| zla 0 <| zgR 11 5 <| zla 0 <| zgR 11 6 <| zgR 4 0 <| zcv mc ms 3 1 wX3_distance <| kX11_distanceToMate_29 mc ms X Q
def lvX11_distanceToMate : Nat → List Nat := fun L => match L with
  | 0 => [0]
  | _ => []
def wX11_distanceToMate : zSp := fun mc ms av M Q => ((zlay av).length ≤ 1 ∧ zpick (zlay av) [0] = some av) ∧ ∀ X : Nat → zV, zin 1 [0] (aX11_distanceToMate_0 mc ms X Q) X 0 → X 0 0 0 av [] M
set_option maxRecDepth 100000 in
set_option maxHeartbeats 4000000 in
theorem sX11_distanceToMate (l : Launch) (G : zG) : zSnd l G yX11_distanceToMate cX11_distanceToMate 1 (some .int) 6 158 wX11_distanceToMate := by
  refine zmk [0] (by decide) (fun mc ms av M Q h => h.1) ?_
  intro p e R s m args below meth c mc ms av M Q hC hRf hRl hr hnm h lv hlv
  obtain ⟨X, hXe⟩ : ∃ X : Nat → zV, X = fun L u v vs st M => ∀ lv, zpick lv (lvX11_distanceToMate L) = some vs → zAt p l e R s m args below meth c (MQ below (zQ G Q) args s mc ms (zA G)) G 1 L u v lv st M := ⟨_, rfl⟩
  have hJ : ∀ L, zOk p l e R s m args below meth c (MQ below (zQ G Q) args s mc ms (zA G)) G 1 L (zj X L (lvX11_distanceToMate L)) := fun L => S_jump (fun u v lv vs st M hp hx => by rw [hXe] at hx; exact hx lv hp)
  have hB0 : zin 1 [0] (aX11_distanceToMate_0 mc ms X Q) X 0 := by
    intro u v vs st M hb
    rw [hXe]
    refine fun lv hp => S_block (L := 0) (live := [0]) ?_ u v lv vs st M hp hb
    unfold aX11_distanceToMate_0
    refine S_aload_n (pc := 0) hC dX11_distanceToMate_0 rfl ?_
    refine S_geti (pc := 1) hC cfX11 (by decide) (Or.inr rfl) wd_354 dX11_distanceToMate_1 ?_
    refine S_if_ne (pc := 4) (tgt := 15) hC dX11_distanceToMate_4 (by decide) ?_ ?_
    · refine S_aload_n (pc := 15) hC dX11_distanceToMate_15 rfl ?_
      refine S_getR (pc := 16) hC cfX11 (by decide) (Or.inl ⟨_, rfl⟩) wd_351 dX11_distanceToMate_16 ?_
      refine S_aload_n (pc := 19) hC dX11_distanceToMate_19 rfl ?_
      refine S_getR (pc := 20) hC cfX11 (by decide) (Or.inl ⟨_, rfl⟩) wd_352 dX11_distanceToMate_20 ?_
      refine S_getR (pc := 23) hC cfX4 (by decide) (Or.inl ⟨_, rfl⟩) wd_311 dX11_distanceToMate_23 ?_
      refine S_callV (pc := 26) hC (sX3_distance l G) rfl wd_1056 wd_1057 wd_1058 wd_8 wd_1059 (by decide +kernel) ⟨by rw [hRf]; decide, by rw [hRl]; decide⟩ dX11_distanceToMate_26 ?_
      unfold kX11_distanceToMate_29
      exact S_ireturn (pc := 29) hC hr dX11_distanceToMate_29
    · exact S_no
  have := h.2 X hB0
  rw [hXe] at this
  exact this lv hlv
theorem vX11_distanceToMate_0 {mc ms : Nat} {X : Nat → zV} {Q : zQt} {M : zM} {g : Nat}  (hW : zWd M g)  (h : ((M.1 16 8) = 0 → False) ∧ (¬ (M.1 16 8) = 0 → ∃ r20, ((M : zM).2.2.1 16 6) = some r20 ∧ zsh M r20 = some (0, 4) ∧ ∃ r23, ((M : zM).2.2.1 r20 0) = some r23 ∧ zsh M r23 = some (0, 0) ∧ wX3_distance 0 0 [.ref 33, .ref r23] M (fun r M1 => kX11_distanceToMate_29 mc ms X Q 0 0 [some (.ref 16)] (r.toList ++ []) M1))) : aX11_distanceToMate_0 mc ms X Q 0 0 [some (.ref 16)] [] M := ⟨(fxs_16 hW.1), ⟨fun c4 => (h.1 c4), fun c4 => ⟨(fxs_16 hW.1), 33, (fxr_16_5 hW.1), (let ⟨r20, q20, hr20, h20⟩ := (h.2 c4); ⟨(fxs_16 hW.1), r20, q20, (let ⟨r23, q23, hr23, h23⟩ := h20; ⟨hr20, r23, q23, ⟨Nat.le_of_ble_eq_true rfl, rfl, (fxs_33 hW.1), 0, 0, Nat.zero_le _, Nat.zero_le _, h23⟩⟩)⟩)⟩⟩⟩
theorem vkX11_distanceToMate_29 {mc ms : Nat} {X : Nat → zV} {Q : zQt} {M : zM} {g : Nat} {s0 : Int32} (hW : zWd M g)  (h : Q (some (.int s0)) M) : kX11_distanceToMate_29 mc ms X Q 0 0 [some (.ref 16)] [.int s0] M := h
theorem dX11_matingMove_0 : decode cX11_matingMove 0 = .ok (.aload_n 0, 1) := by decide +kernel
theorem dX11_matingMove_1 : decode cX11_matingMove 1 = .ok (.getfield 65, 3) := by decide +kernel
theorem dX11_matingMove_4 : decode cX11_matingMove 4 = .ok (.ifCond .ne 11, 3) := by decide +kernel
theorem dX11_matingMove_7 : decode cX11_matingMove 7 = .ok (.new 114, 3) := by decide +kernel
theorem dX11_matingMove_10 : decode cX11_matingMove 10 = .ok (.dup, 1) := by decide +kernel
theorem dX11_matingMove_11 : decode cX11_matingMove 11 = .ok (.invokespecial 116, 3) := by decide +kernel
theorem dX11_matingMove_14 : decode cX11_matingMove 14 = .ok (.athrow, 1) := by decide +kernel
theorem dX11_matingMove_15 : decode cX11_matingMove 15 = .ok (.aload_n 0, 1) := by decide +kernel
theorem dX11_matingMove_16 : decode cX11_matingMove 16 = .ok (.getfield 51, 3) := by decide +kernel
theorem dX11_matingMove_19 : decode cX11_matingMove 19 = .ok (.aload_n 0, 1) := by decide +kernel
theorem dX11_matingMove_20 : decode cX11_matingMove 20 = .ok (.getfield 58, 3) := by decide +kernel
theorem dX11_matingMove_23 : decode cX11_matingMove 23 = .ok (.invokevirtual 181, 3) := by decide +kernel
theorem dX11_matingMove_26 : decode cX11_matingMove 26 = .ok (.ireturn, 1) := by decide +kernel
def kX11_matingMove_26 (mc ms : Nat) (X : Nat → zV) (Q : zQt) : zT :=
  zri Q
def aX11_matingMove_0 (mc ms : Nat) (X : Nat → zV) (Q : zQt) : zT :=
  zla 0 <| zgi 11 8 <| zif (fun x => x = 0) (zno) <| zla 0 <| zgR 11 5 <| zla 0 <| zgR 11 6 <| zcv mc ms 3 1 wX3_nearer <| kX11_matingMove_26 mc ms X Q
def lvX11_matingMove : Nat → List Nat := fun L => match L with
  | 0 => [0]
  | _ => []
def wX11_matingMove : zSp := fun mc ms av M Q => ((zlay av).length ≤ 1 ∧ zpick (zlay av) [0] = some av) ∧ ∀ X : Nat → zV, zin 1 [0] (aX11_matingMove_0 mc ms X Q) X 0 → X 0 0 0 av [] M
set_option maxRecDepth 100000 in
set_option maxHeartbeats 4000000 in
theorem sX11_matingMove (l : Launch) (G : zG) (hE : zXt G) : zSnd l G yX11_matingMove cX11_matingMove 1 (some .int) 7 182 wX11_matingMove := by
  refine zmk [0] (by decide) (fun mc ms av M Q h => h.1) ?_
  intro p e R s m args below meth c mc ms av M Q hC hRf hRl hr hnm h lv hlv
  obtain ⟨X, hXe⟩ : ∃ X : Nat → zV, X = fun L u v vs st M => ∀ lv, zpick lv (lvX11_matingMove L) = some vs → zAt p l e R s m args below meth c (MQ below (zQ G Q) args s mc ms (zA G)) G 1 L u v lv st M := ⟨_, rfl⟩
  have hJ : ∀ L, zOk p l e R s m args below meth c (MQ below (zQ G Q) args s mc ms (zA G)) G 1 L (zj X L (lvX11_matingMove L)) := fun L => S_jump (fun u v lv vs st M hp hx => by rw [hXe] at hx; exact hx lv hp)
  have hB0 : zin 1 [0] (aX11_matingMove_0 mc ms X Q) X 0 := by
    intro u v vs st M hb
    rw [hXe]
    refine fun lv hp => S_block (L := 0) (live := [0]) ?_ u v lv vs st M hp hb
    unfold aX11_matingMove_0
    refine S_aload_n (pc := 0) hC dX11_matingMove_0 rfl ?_
    refine S_geti (pc := 1) hC cfX11 (by decide) (Or.inr rfl) wd_354 dX11_matingMove_1 ?_
    refine S_if_ne (pc := 4) (tgt := 15) hC dX11_matingMove_4 (by decide) ?_ ?_
    · refine S_aload_n (pc := 15) hC dX11_matingMove_15 rfl ?_
      refine S_getR (pc := 16) hC cfX11 (by decide) (Or.inl ⟨_, rfl⟩) wd_351 dX11_matingMove_16 ?_
      refine S_aload_n (pc := 19) hC dX11_matingMove_19 rfl ?_
      refine S_getR (pc := 20) hC cfX11 (by decide) (Or.inl ⟨_, rfl⟩) wd_352 dX11_matingMove_20 ?_
      refine S_callV (pc := 23) hC (sX3_nearer l G hE.1) rfl wd_1171 wd_1172 wd_1173 wd_8 wd_1174 (by decide +kernel) ⟨by rw [hRf]; decide, by rw [hRl]; decide⟩ dX11_matingMove_23 ?_
      unfold kX11_matingMove_26
      exact S_ireturn (pc := 26) hC hr dX11_matingMove_26
    · exact S_no
  have := h.2 X hB0
  rw [hXe] at this
  exact this lv hlv
theorem vX11_matingMove_0 {mc ms : Nat} {X : Nat → zV} {Q : zQt} {M : zM} {g : Nat}  (hW : zWd M g)  (h : ((M.1 16 8) = 0 → False) ∧ (¬ (M.1 16 8) = 0 → ∃ r20, ((M : zM).2.2.1 16 6) = some r20 ∧ zsh M r20 = some (0, 4) ∧ wX3_nearer 0 0 [.ref 33, .ref r20] M (fun r M1 => kX11_matingMove_26 mc ms X Q 0 0 [some (.ref 16)] (r.toList ++ []) M1))) : aX11_matingMove_0 mc ms X Q 0 0 [some (.ref 16)] [] M := ⟨(fxs_16 hW.1), ⟨fun c4 => (h.1 c4), fun c4 => ⟨(fxs_16 hW.1), 33, (fxr_16_5 hW.1), (let ⟨r20, q20, hr20, h20⟩ := (h.2 c4); ⟨(fxs_16 hW.1), r20, q20, ⟨Nat.le_of_ble_eq_true rfl, rfl, (fxs_33 hW.1), 0, 0, Nat.zero_le _, Nat.zero_le _, h20⟩⟩)⟩⟩⟩
theorem vkX11_matingMove_26 {mc ms : Nat} {X : Nat → zV} {Q : zQt} {M : zM} {g : Nat} {s0 : Int32} (hW : zWd M g)  (h : Q (some (.int s0)) M) : kX11_matingMove_26 mc ms X Q 0 0 [some (.ref 16)] [.int s0] M := h
theorem dX11_historyOf_0 : decode cX11_historyOf 0 = .ok (.aload_n 0, 1) := by decide +kernel
theorem dX11_historyOf_1 : decode cX11_historyOf 1 = .ok (.getfield 65, 3) := by decide +kernel
theorem dX11_historyOf_4 : decode cX11_historyOf 4 = .ok (.ifCond .eq 28, 3) := by decide +kernel
theorem dX11_historyOf_7 : decode cX11_historyOf 7 = .ok (.iload_n 1, 1) := by decide +kernel
theorem dX11_historyOf_8 : decode cX11_historyOf 8 = .ok (.ifCond .lt 24, 3) := by decide +kernel
theorem dX11_historyOf_11 : decode cX11_historyOf 11 = .ok (.iload_n 1, 1) := by decide +kernel
theorem dX11_historyOf_12 : decode cX11_historyOf 12 = .ok (.aload_n 0, 1) := by decide +kernel
theorem dX11_historyOf_13 : decode cX11_historyOf 13 = .ok (.getfield 58, 3) := by decide +kernel
theorem dX11_historyOf_16 : decode cX11_historyOf 16 = .ok (.getfield 104, 3) := by decide +kernel
theorem dX11_historyOf_19 : decode cX11_historyOf 19 = .ok (.if_icmp .ge 13, 3) := by decide +kernel
theorem dX11_historyOf_22 : decode cX11_historyOf 22 = .ok (.iload_n 2, 1) := by decide +kernel
theorem dX11_historyOf_23 : decode cX11_historyOf 23 = .ok (.ifCond .lt 9, 3) := by decide +kernel
theorem dX11_historyOf_26 : decode cX11_historyOf 26 = .ok (.iload_n 2, 1) := by decide +kernel
theorem dX11_historyOf_27 : decode cX11_historyOf 27 = .ok (.bipush 8, 2) := by decide +kernel
theorem dX11_historyOf_29 : decode cX11_historyOf 29 = .ok (.if_icmp .lt 11, 3) := by decide +kernel
theorem dX11_historyOf_32 : decode cX11_historyOf 32 = .ok (.new 120, 3) := by decide +kernel
theorem dX11_historyOf_35 : decode cX11_historyOf 35 = .ok (.dup, 1) := by decide +kernel
theorem dX11_historyOf_36 : decode cX11_historyOf 36 = .ok (.invokespecial 122, 3) := by decide +kernel
theorem dX11_historyOf_39 : decode cX11_historyOf 39 = .ok (.athrow, 1) := by decide +kernel
theorem dX11_historyOf_40 : decode cX11_historyOf 40 = .ok (.aload_n 0, 1) := by decide +kernel
theorem dX11_historyOf_41 : decode cX11_historyOf 41 = .ok (.getfield 58, 3) := by decide +kernel
theorem dX11_historyOf_44 : decode cX11_historyOf 44 = .ok (.getfield 184, 3) := by decide +kernel
theorem dX11_historyOf_47 : decode cX11_historyOf 47 = .ok (.iload_n 1, 1) := by decide +kernel
theorem dX11_historyOf_48 : decode cX11_historyOf 48 = .ok (.bipush 8, 2) := by decide +kernel
theorem dX11_historyOf_50 : decode cX11_historyOf 50 = .ok (.imul, 1) := by decide +kernel
theorem dX11_historyOf_51 : decode cX11_historyOf 51 = .ok (.iload_n 2, 1) := by decide +kernel
theorem dX11_historyOf_52 : decode cX11_historyOf 52 = .ok (.iadd, 1) := by decide +kernel
theorem dX11_historyOf_53 : decode cX11_historyOf 53 = .ok (.iaload, 1) := by decide +kernel
theorem dX11_historyOf_54 : decode cX11_historyOf 54 = .ok (.ireturn, 1) := by decide +kernel
def aX11_historyOf_0 (mc ms : Nat) (X : Nat → zV) (Q : zQt) : zT :=
  zla 0 <| zgi 11 8 <| zif (fun x => x = 0) (zj X 32 []) <| zli 1 <| zif (fun x => x < 0) (zj X 32 []) <| zli 1 <| zla 0 <| zgR 11 6 <| zgi 4 4 <| zic (fun x y => y ≤ x) (zj X 32 []) <| zli 2 <| zif (fun x => x < 0) (zj X 32 []) <| zli 2 <| zc (.int 8) <| zic (fun x y => x < y) (zla 0 <| zgR 11 6 <| zgR 4 5 <| zli 1 <| zc (.int 8) <| zii (fun x y => x * y) <| zli 2 <| zii (fun x y => x + y) <| zal 1 <| zri Q) <| zj X 32 []
def aX11_historyOf_32 (mc ms : Nat) (X : Nat → zV) (Q : zQt) : zT :=
  zno
def lvX11_historyOf : Nat → List Nat := fun L => match L with
  | 0 => [0, 1, 2]
  | 32 => []
  | _ => []
def wX11_historyOf : zSp := fun mc ms av M Q => ((zlay av).length ≤ 3 ∧ zpick (zlay av) [0, 1, 2] = some av) ∧ ∀ X : Nat → zV, zin 3 [0, 1, 2] (aX11_historyOf_0 mc ms X Q) X 0 → zin 3 [] (aX11_historyOf_32 mc ms X Q) X 32 → X 0 0 0 av [] M
set_option maxRecDepth 100000 in
set_option maxHeartbeats 4000000 in
theorem sX11_historyOf (l : Launch) (G : zG) : zSnd l G yX11_historyOf cX11_historyOf 3 (some .int) 0 0 wX11_historyOf := by
  refine zmk [0, 1, 2] (by decide) (fun mc ms av M Q h => h.1) ?_
  intro p e R s m args below meth c mc ms av M Q hC hRf hRl hr hnm h lv hlv
  obtain ⟨X, hXe⟩ : ∃ X : Nat → zV, X = fun L u v vs st M => ∀ lv, zpick lv (lvX11_historyOf L) = some vs → zAt p l e R s m args below meth c (MQ below (zQ G Q) args s mc ms (zA G)) G 3 L u v lv st M := ⟨_, rfl⟩
  have hJ : ∀ L, zOk p l e R s m args below meth c (MQ below (zQ G Q) args s mc ms (zA G)) G 3 L (zj X L (lvX11_historyOf L)) := fun L => S_jump (fun u v lv vs st M hp hx => by rw [hXe] at hx; exact hx lv hp)
  have hB0 : zin 3 [0, 1, 2] (aX11_historyOf_0 mc ms X Q) X 0 := by
    intro u v vs st M hb
    rw [hXe]
    refine fun lv hp => S_block (L := 0) (live := [0, 1, 2]) ?_ u v lv vs st M hp hb
    unfold aX11_historyOf_0
    refine S_aload_n (pc := 0) hC dX11_historyOf_0 rfl ?_
    refine S_geti (pc := 1) hC cfX11 (by decide) (Or.inr rfl) wd_354 dX11_historyOf_1 ?_
    refine S_if_eq (pc := 4) (tgt := 32) hC dX11_historyOf_4 (by decide) ?_ ?_
    · exact hJ 32
    · refine S_iload_n (pc := 7) hC dX11_historyOf_7 rfl ?_
      refine S_if_lt (pc := 8) (tgt := 32) hC dX11_historyOf_8 (by decide) ?_ ?_
      · exact hJ 32
      · refine S_iload_n (pc := 11) hC dX11_historyOf_11 rfl ?_
        refine S_aload_n (pc := 12) hC dX11_historyOf_12 rfl ?_
        refine S_getR (pc := 13) hC cfX11 (by decide) (Or.inl ⟨_, rfl⟩) wd_352 dX11_historyOf_13 ?_
        refine S_geti (pc := 16) hC cfX4 (by decide) (Or.inl rfl) wd_327 dX11_historyOf_16 ?_
        refine S_icmp_ge (pc := 19) (tgt := 32) hC dX11_historyOf_19 (by decide) ?_ ?_
        · exact hJ 32
        · refine S_iload_n (pc := 22) hC dX11_historyOf_22 rfl ?_
          refine S_if_lt (pc := 23) (tgt := 32) hC dX11_historyOf_23 (by decide) ?_ ?_
          · exact hJ 32
          · refine S_iload_n (pc := 26) hC dX11_historyOf_26 rfl ?_
            refine S_bipush (pc := 27) hC dX11_historyOf_27 (by decide) ?_
            refine S_icmp_lt (pc := 29) (tgt := 40) hC dX11_historyOf_29 (by decide) ?_ ?_
            · refine S_aload_n (pc := 40) hC dX11_historyOf_40 rfl ?_
              refine S_getR (pc := 41) hC cfX11 (by decide) (Or.inl ⟨_, rfl⟩) wd_352 dX11_historyOf_41 ?_
              refine S_getR (pc := 44) hC cfX4 (by decide) (Or.inr ⟨_, rfl⟩) wd_329 dX11_historyOf_44 ?_
              refine S_iload_n (pc := 47) hC dX11_historyOf_47 rfl ?_
              refine S_bipush (pc := 48) hC dX11_historyOf_48 (by decide) ?_
              refine S_imul (pc := 50) hC dX11_historyOf_50 ?_
              refine S_iload_n (pc := 51) hC dX11_historyOf_51 rfl ?_
              refine S_iadd (pc := 52) hC dX11_historyOf_52 ?_
              refine S_iaload (pc := 53) hC dX11_historyOf_53 ?_
              exact S_ireturn (pc := 54) hC hr dX11_historyOf_54
            · exact hJ 32
  have hB32 : zin 3 [] (aX11_historyOf_32 mc ms X Q) X 32 := by
    intro u v vs st M hb
    rw [hXe]
    refine fun lv hp => S_block (L := 32) (live := []) ?_ u v lv vs st M hp hb
    unfold aX11_historyOf_32
    exact S_no
  have := h.2 X hB0 hB32
  rw [hXe] at this
  exact this lv hlv
theorem vX11_historyOf_0 {mc ms : Nat} {X : Nat → zV} {Q : zQt} {M : zM} {g : Nat} {x1 : Int32} {x2 : Int32} (hW : zWd M g)  (h : ((M.1 16 8) = 0 → X 32 0 0 [] [] M) ∧ (¬ (M.1 16 8) = 0 → (x1 < 0 → X 32 0 0 [] [] M) ∧ (¬ x1 < 0 → ∃ r13, ((M : zM).2.2.1 16 6) = some r13 ∧ zsh M r13 = some (0, 4) ∧ ((M.1 r13 4) ≤ x1 → X 32 0 0 [] [] M) ∧ (¬ (M.1 r13 4) ≤ x1 → (x2 < 0 → X 32 0 0 [] [] M) ∧ (¬ x2 < 0 → (x2 < (8 : Int32) → ∃ r41, ((M : zM).2.2.1 16 6) = some r41 ∧ zsh M r41 = some (0, 4) ∧ ∃ r44 r44n, ((M : zM).2.2.1 r41 5) = some r44 ∧ zsh M r44 = some (1, r44n) ∧ vp_in (((x1 * (8 : Int32)) + x2)) r44n ∧ Q (some (.int (((M : zM).1 r44 (((x1 * (8 : Int32)) + x2) : Int32).toNatClampNeg)))) M) ∧ (¬ x2 < (8 : Int32) → X 32 0 0 [] [] M)))))) : aX11_historyOf_0 mc ms X Q 0 0 [some (.ref 16), some (.int x1), some (.int x2)] [] M := ⟨(fxs_16 hW.1), ⟨fun c4 => (h.1 c4), fun c4 => ⟨fun c8 => ((h.2 c4).1 c8), fun c8 => (let ⟨r13, q13, hr13, h13⟩ := ((h.2 c4).2 c8); ⟨(fxs_16 hW.1), r13, q13, ⟨hr13, ⟨fun c19 => (h13.1 c19), fun c19 => ⟨fun c23 => ((h13.2 c19).1 c23), fun c23 => ⟨fun c29 => (let ⟨r41, q41, hr41, h41⟩ := (((h13.2 c19).2 c23).1 c29); ⟨(fxs_16 hW.1), r41, q41, (let ⟨r44, r44n, q44, hr44, h44⟩ := h41; ⟨hr41, r44, q44, ⟨r44n, hr44, h44.1, h44.2⟩⟩)⟩), fun c29 => (((h13.2 c19).2 c23).2 c29)⟩⟩⟩⟩⟩)⟩⟩⟩
theorem vX11_historyOf_32 {mc ms : Nat} {X : Nat → zV} {Q : zQt} {M : zM} {g : Nat}  (hW : zWd M g)  (h : False) : aX11_historyOf_32 mc ms X Q 0 0 [none, none, none] [] M := h
theorem dX13_distance_0 : decode cX13_distance 0 = .ok (.bipush 69, 2) := by decide +kernel
theorem dX13_distance_2 : decode cX13_distance 2 = .ok (.iload_n 1, 1) := by decide +kernel
theorem dX13_distance_3 : decode cX13_distance 3 = .ok (.imul, 1) := by decide +kernel
theorem dX13_distance_4 : decode cX13_distance 4 = .ok (.istore_n 2, 1) := by decide +kernel
theorem dX13_distance_5 : decode cX13_distance 5 = .ok (.iconst 0, 1) := by decide +kernel
theorem dX13_distance_6 : decode cX13_distance 6 = .ok (.istore_n 3, 1) := by decide +kernel
theorem dX13_distance_7 : decode cX13_distance 7 = .ok (.iconst 0, 1) := by decide +kernel
theorem dX13_distance_8 : decode cX13_distance 8 = .ok (.istore 4, 2) := by decide +kernel
theorem dX13_distance_10 : decode cX13_distance 10 = .ok (.iconst 0, 1) := by decide +kernel
theorem dX13_distance_11 : decode cX13_distance 11 = .ok (.istore 5, 2) := by decide +kernel
theorem dX13_distance_13 : decode cX13_distance 13 = .ok (.iconst 0, 1) := by decide +kernel
theorem dX13_distance_14 : decode cX13_distance 14 = .ok (.istore 6, 2) := by decide +kernel
theorem dX13_distance_16 : decode cX13_distance 16 = .ok (.iconst 0, 1) := by decide +kernel
theorem dX13_distance_17 : decode cX13_distance 17 = .ok (.istore 7, 2) := by decide +kernel
theorem dX13_distance_19 : decode cX13_distance 19 = .ok (.iconst 0, 1) := by decide +kernel
theorem dX13_distance_20 : decode cX13_distance 20 = .ok (.istore 8, 2) := by decide +kernel
theorem dX13_distance_22 : decode cX13_distance 22 = .ok (.iload 8, 2) := by decide +kernel
theorem dX13_distance_24 : decode cX13_distance 24 = .ok (.bipush 64, 2) := by decide +kernel
theorem dX13_distance_26 : decode cX13_distance 26 = .ok (.if_icmp .ge 77, 3) := by decide +kernel
theorem dX13_distance_29 : decode cX13_distance 29 = .ok (.aload_n 0, 1) := by decide +kernel
theorem dX13_distance_30 : decode cX13_distance 30 = .ok (.getfield 43, 3) := by decide +kernel
theorem dX13_distance_33 : decode cX13_distance 33 = .ok (.iload_n 2, 1) := by decide +kernel
theorem dX13_distance_34 : decode cX13_distance 34 = .ok (.iload 8, 2) := by decide +kernel
theorem dX13_distance_36 : decode cX13_distance 36 = .ok (.iadd, 1) := by decide +kernel
theorem dX13_distance_37 : decode cX13_distance 37 = .ok (.iaload, 1) := by decide +kernel
theorem dX13_distance_38 : decode cX13_distance 38 = .ok (.istore 9, 2) := by decide +kernel
theorem dX13_distance_40 : decode cX13_distance 40 = .ok (.iload 9, 2) := by decide +kernel
theorem dX13_distance_42 : decode cX13_distance 42 = .ok (.bipush 6, 2) := by decide +kernel
theorem dX13_distance_44 : decode cX13_distance 44 = .ok (.if_icmp .ne 8, 3) := by decide +kernel
theorem dX13_distance_47 : decode cX13_distance 47 = .ok (.iload 8, 2) := by decide +kernel
theorem dX13_distance_49 : decode cX13_distance 49 = .ok (.goto 5, 3) := by decide +kernel
theorem dX13_distance_52 : decode cX13_distance 52 = .ok (.iload 6, 2) := by decide +kernel
theorem dX13_distance_54 : decode cX13_distance 54 = .ok (.istore 6, 2) := by decide +kernel
theorem dX13_distance_56 : decode cX13_distance 56 = .ok (.iload 9, 2) := by decide +kernel
theorem dX13_distance_58 : decode cX13_distance 58 = .ok (.bipush 12, 2) := by decide +kernel
theorem dX13_distance_60 : decode cX13_distance 60 = .ok (.if_icmp .ne 8, 3) := by decide +kernel
theorem dX13_distance_63 : decode cX13_distance 63 = .ok (.iload 8, 2) := by decide +kernel
theorem dX13_distance_65 : decode cX13_distance 65 = .ok (.goto 5, 3) := by decide +kernel
theorem dX13_distance_68 : decode cX13_distance 68 = .ok (.iload 7, 2) := by decide +kernel
theorem dX13_distance_70 : decode cX13_distance 70 = .ok (.istore 7, 2) := by decide +kernel
theorem dX13_distance_72 : decode cX13_distance 72 = .ok (.iload 9, 2) := by decide +kernel
theorem dX13_distance_74 : decode cX13_distance 74 = .ok (.ifCond .le 23, 3) := by decide +kernel
theorem dX13_distance_77 : decode cX13_distance 77 = .ok (.iload 9, 2) := by decide +kernel
theorem dX13_distance_79 : decode cX13_distance 79 = .ok (.invokestatic 71, 3) := by decide +kernel
theorem dX13_distance_82 : decode cX13_distance 82 = .ok (.bipush 6, 2) := by decide +kernel
theorem dX13_distance_84 : decode cX13_distance 84 = .ok (.if_icmp .eq 13, 3) := by decide +kernel
theorem dX13_distance_87 : decode cX13_distance 87 = .ok (.iinc 4 1, 3) := by decide +kernel
theorem dX13_distance_90 : decode cX13_distance 90 = .ok (.iload 9, 2) := by decide +kernel
theorem dX13_distance_92 : decode cX13_distance 92 = .ok (.istore_n 3, 1) := by decide +kernel
theorem dX13_distance_93 : decode cX13_distance 93 = .ok (.iload 8, 2) := by decide +kernel
theorem dX13_distance_95 : decode cX13_distance 95 = .ok (.istore 5, 2) := by decide +kernel
theorem dX13_distance_97 : decode cX13_distance 97 = .ok (.iinc 8 1, 3) := by decide +kernel
theorem dX13_distance_100 : decode cX13_distance 100 = .ok (.goto (-78), 3) := by decide +kernel
theorem dX13_distance_103 : decode cX13_distance 103 = .ok (.iload 4, 2) := by decide +kernel
theorem dX13_distance_105 : decode cX13_distance 105 = .ok (.iconst 1, 1) := by decide +kernel
theorem dX13_distance_106 : decode cX13_distance 106 = .ok (.if_icmp .ne 15, 3) := by decide +kernel
theorem dX13_distance_109 : decode cX13_distance 109 = .ok (.aload_n 0, 1) := by decide +kernel
theorem dX13_distance_110 : decode cX13_distance 110 = .ok (.getfield 43, 3) := by decide +kernel
theorem dX13_distance_113 : decode cX13_distance 113 = .ok (.iload_n 2, 1) := by decide +kernel
theorem dX13_distance_114 : decode cX13_distance 114 = .ok (.bipush 65, 2) := by decide +kernel
theorem dX13_distance_116 : decode cX13_distance 116 = .ok (.iadd, 1) := by decide +kernel
theorem dX13_distance_117 : decode cX13_distance 117 = .ok (.iaload, 1) := by decide +kernel
theorem dX13_distance_118 : decode cX13_distance 118 = .ok (.ifCond .eq 5, 3) := by decide +kernel
theorem dX13_distance_121 : decode cX13_distance 121 = .ok (.iconst (-1), 1) := by decide +kernel
theorem dX13_distance_122 : decode cX13_distance 122 = .ok (.ireturn, 1) := by decide +kernel
theorem dX13_distance_123 : decode cX13_distance 123 = .ok (.aload_n 0, 1) := by decide +kernel
theorem dX13_distance_124 : decode cX13_distance 124 = .ok (.getfield 64, 3) := by decide +kernel
theorem dX13_distance_127 : decode cX13_distance 127 = .ok (.iload_n 3, 1) := by decide +kernel
theorem dX13_distance_128 : decode cX13_distance 128 = .ok (.invokestatic 71, 3) := by decide +kernel
theorem dX13_distance_131 : decode cX13_distance 131 = .ok (.invokevirtual 335, 3) := by decide +kernel
theorem dX13_distance_134 : decode cX13_distance 134 = .ok (.iload_n 3, 1) := by decide +kernel
theorem dX13_distance_135 : decode cX13_distance 135 = .ok (.invokestatic 78, 3) := by decide +kernel
theorem dX13_distance_138 : decode cX13_distance 138 = .ok (.aload_n 0, 1) := by decide +kernel
theorem dX13_distance_139 : decode cX13_distance 139 = .ok (.getfield 43, 3) := by decide +kernel
theorem dX13_distance_142 : decode cX13_distance 142 = .ok (.iload_n 2, 1) := by decide +kernel
theorem dX13_distance_143 : decode cX13_distance 143 = .ok (.bipush 64, 2) := by decide +kernel
theorem dX13_distance_145 : decode cX13_distance 145 = .ok (.iadd, 1) := by decide +kernel
theorem dX13_distance_146 : decode cX13_distance 146 = .ok (.iaload, 1) := by decide +kernel
theorem dX13_distance_147 : decode cX13_distance 147 = .ok (.if_icmp .ne 7, 3) := by decide +kernel
theorem dX13_distance_150 : decode cX13_distance 150 = .ok (.iconst 1, 1) := by decide +kernel
theorem dX13_distance_151 : decode cX13_distance 151 = .ok (.goto 4, 3) := by decide +kernel
theorem dX13_distance_154 : decode cX13_distance 154 = .ok (.iconst 0, 1) := by decide +kernel
theorem dX13_distance_155 : decode cX13_distance 155 = .ok (.istore 8, 2) := by decide +kernel
theorem dX13_distance_157 : decode cX13_distance 157 = .ok (.iload_n 3, 1) := by decide +kernel
theorem dX13_distance_158 : decode cX13_distance 158 = .ok (.bipush 7, 2) := by decide +kernel
theorem dX13_distance_160 : decode cX13_distance 160 = .ok (.if_icmp .ge 22, 3) := by decide +kernel
theorem dX13_distance_163 : decode cX13_distance 163 = .ok (.aload_n 0, 1) := by decide +kernel
theorem dX13_distance_164 : decode cX13_distance 164 = .ok (.getfield 64, 3) := by decide +kernel
theorem dX13_distance_167 : decode cX13_distance 167 = .ok (.iload_n 3, 1) := by decide +kernel
theorem dX13_distance_168 : decode cX13_distance 168 = .ok (.iload 6, 2) := by decide +kernel
theorem dX13_distance_170 : decode cX13_distance 170 = .ok (.iload 5, 2) := by decide +kernel
theorem dX13_distance_172 : decode cX13_distance 172 = .ok (.iload 7, 2) := by decide +kernel
theorem dX13_distance_174 : decode cX13_distance 174 = .ok (.iload 8, 2) := by decide +kernel
theorem dX13_distance_176 : decode cX13_distance 176 = .ok (.invokevirtual 338, 3) := by decide +kernel
theorem dX13_distance_179 : decode cX13_distance 179 = .ok (.goto 31, 3) := by decide +kernel
theorem dX13_distance_182 : decode cX13_distance 182 = .ok (.aload_n 0, 1) := by decide +kernel
theorem dX13_distance_183 : decode cX13_distance 183 = .ok (.getfield 64, 3) := by decide +kernel
theorem dX13_distance_186 : decode cX13_distance 186 = .ok (.iload_n 3, 1) := by decide +kernel
theorem dX13_distance_187 : decode cX13_distance 187 = .ok (.bipush 6, 2) := by decide +kernel
theorem dX13_distance_189 : decode cX13_distance 189 = .ok (.isub, 1) := by decide +kernel
theorem dX13_distance_190 : decode cX13_distance 190 = .ok (.iload 7, 2) := by decide +kernel
theorem dX13_distance_192 : decode cX13_distance 192 = .ok (.bipush 56, 2) := by decide +kernel
theorem dX13_distance_194 : decode cX13_distance 194 = .ok (.ixor, 1) := by decide +kernel
theorem dX13_distance_195 : decode cX13_distance 195 = .ok (.iload 5, 2) := by decide +kernel
theorem dX13_distance_197 : decode cX13_distance 197 = .ok (.bipush 56, 2) := by decide +kernel
theorem dX13_distance_199 : decode cX13_distance 199 = .ok (.ixor, 1) := by decide +kernel
theorem dX13_distance_200 : decode cX13_distance 200 = .ok (.iload 6, 2) := by decide +kernel
theorem dX13_distance_202 : decode cX13_distance 202 = .ok (.bipush 56, 2) := by decide +kernel
theorem dX13_distance_204 : decode cX13_distance 204 = .ok (.ixor, 1) := by decide +kernel
theorem dX13_distance_205 : decode cX13_distance 205 = .ok (.iload 8, 2) := by decide +kernel
theorem dX13_distance_207 : decode cX13_distance 207 = .ok (.invokevirtual 338, 3) := by decide +kernel
theorem dX13_distance_210 : decode cX13_distance 210 = .ok (.ireturn, 1) := by decide +kernel
def kX13_distance_138 (mc ms : Nat) (X : Nat → zV) (Q : zQt) : zT :=
  zla 0 <| zgR 13 16 <| zli 2 <| zc (.int 64) <| zii (fun x y => x + y) <| zal 1 <| zic (fun x y => x = y) (zc (.int 1) <| zj X 155 [0, 3, 5, 6, 7]) <| zc (.int 0) <| zj X 155 [0, 3, 5, 6, 7]
def kX13_distance_134 (mc ms : Nat) (X : Nat → zV) (Q : zQt) : zT :=
  zli 3 <| zcs mc ms 1 wX13_sideOf <| kX13_distance_138 mc ms X Q
def kX13_distance_131 (mc ms : Nat) (X : Nat → zV) (Q : zQt) : zT :=
  zcv mc ms 12 1 wX12_work <| kX13_distance_134 mc ms X Q
def kX13_distance_40 (mc ms : Nat) (X : Nat → zV) (Q : zQt) : zT :=
  zli 9 <| zc (.int 6) <| zic (fun x y => x = y) (zli 8 <| zj X 54 [0, 2, 3, 4, 5, 7, 8, 9]) <| zli 6 <| zj X 54 [0, 2, 3, 4, 5, 7, 8, 9]
def kX13_distance_82 (mc ms : Nat) (X : Nat → zV) (Q : zQt) : zT :=
  zc (.int 6) <| zic (fun x y => x = y) (zj X 97 [0, 2, 3, 4, 5, 6, 7, 8]) <| zinc 4 1 <| zli 9 <| zsi 3 <| zli 8 <| zsi 5 <| zj X 97 [0, 2, 3, 4, 5, 6, 7, 8]
def kX13_distance_210 (mc ms : Nat) (X : Nat → zV) (Q : zQt) : zT :=
  zj X 210 []
def kX13_distance_179 (mc ms : Nat) (X : Nat → zV) (Q : zQt) : zT :=
  zj X 210 []
def aX13_distance_0 (mc ms : Nat) (X : Nat → zV) (Q : zQt) : zT :=
  zc (.int 69) <| zli 1 <| zii (fun x y => x * y) <| zsi 2 <| zc (.int 0) <| zsi 3 <| zc (.int 0) <| zsi 4 <| zc (.int 0) <| zsi 5 <| zc (.int 0) <| zsi 6 <| zc (.int 0) <| zsi 7 <| zc (.int 0) <| zsi 8 <| zj X 22 [0, 2, 3, 4, 5, 6, 7, 8]
def aX13_distance_22 (mc ms : Nat) (X : Nat → zV) (Q : zQt) : zT :=
  zli 8 <| zc (.int 64) <| zic (fun x y => y ≤ x) (zli 4 <| zc (.int 1) <| zic (fun x y => x = y) (zla 0 <| zgR 13 16 <| zli 2 <| zc (.int 65) <| zii (fun x y => x + y) <| zal 1 <| zif (fun x => x = 0) (zla 0 <| zgR 13 25 <| zli 3 <| zcs mc ms 1 wX13_kindOf <| kX13_distance_131 mc ms X Q) <| zj X 121 []) <| zj X 121 []) <| zla 0 <| zgR 13 16 <| zli 2 <| zli 8 <| zii (fun x y => x + y) <| zal 1 <| zsiN 9 <| kX13_distance_40 mc ms X Q
def aX13_distance_54 (mc ms : Nat) (X : Nat → zV) (Q : zQt) : zT :=
  zsi 6 <| zli 9 <| zc (.int 12) <| zic (fun x y => x = y) (zli 8 <| zj X 70 [0, 2, 3, 4, 5, 6, 8, 9]) <| zli 7 <| zj X 70 [0, 2, 3, 4, 5, 6, 8, 9]
def aX13_distance_70 (mc ms : Nat) (X : Nat → zV) (Q : zQt) : zT :=
  zsi 7 <| zli 9 <| zif (fun x => x ≤ 0) (zj X 97 [0, 2, 3, 4, 5, 6, 7, 8]) <| zli 9 <| zcs mc ms 1 wX13_kindOf <| kX13_distance_82 mc ms X Q
def aX13_distance_97 (mc ms : Nat) (X : Nat → zV) (Q : zQt) : zT :=
  zinc 8 1 <| zj X 22 [0, 2, 3, 4, 5, 6, 7, 8]
def aX13_distance_121 (mc ms : Nat) (X : Nat → zV) (Q : zQt) : zT :=
  zc (.int (-1)) <| zri Q
def aX13_distance_155 (mc ms : Nat) (X : Nat → zV) (Q : zQt) : zT :=
  zsi 8 <| zli 3 <| zc (.int 7) <| zic (fun x y => y ≤ x) (zla 0 <| zgR 13 25 <| zli 3 <| zc (.int 6) <| zii (fun x y => x - y) <| zli 7 <| zc (.int 56) <| zii (fun x y => x ^^^ y) <| zli 5 <| zc (.int 56) <| zii (fun x y => x ^^^ y) <| zli 6 <| zc (.int 56) <| zii (fun x y => x ^^^ y) <| zli 8 <| zcv mc ms 12 5 wX12_distanceOf <| kX13_distance_210 mc ms X Q) <| zla 0 <| zgR 13 25 <| zli 3 <| zli 6 <| zli 5 <| zli 7 <| zli 8 <| zcv mc ms 12 5 wX12_distanceOf <| kX13_distance_179 mc ms X Q
def aX13_distance_210 (mc ms : Nat) (X : Nat → zV) (Q : zQt) : zT :=
  zri Q
def lvX13_distance : Nat → List Nat := fun L => match L with
  | 0 => [0, 1]
  | 22 => [0, 2, 3, 4, 5, 6, 7, 8]
  | 54 => [0, 2, 3, 4, 5, 7, 8, 9]
  | 70 => [0, 2, 3, 4, 5, 6, 8, 9]
  | 97 => [0, 2, 3, 4, 5, 6, 7, 8]
  | 121 => []
  | 155 => [0, 3, 5, 6, 7]
  | 210 => []
  | _ => []
def wX13_distance : zSp := fun mc ms av M Q => ((zlay av).length ≤ 10 ∧ zpick (zlay av) [0, 1] = some av) ∧ ∀ X : Nat → zV, zin 10 [0, 1] (aX13_distance_0 mc ms X Q) X 0 → zin 10 [0, 2, 3, 4, 5, 6, 7, 8] (aX13_distance_22 mc ms X Q) X 22 → zin 10 [0, 2, 3, 4, 5, 7, 8, 9] (aX13_distance_54 mc ms X Q) X 54 → zin 10 [0, 2, 3, 4, 5, 6, 8, 9] (aX13_distance_70 mc ms X Q) X 70 → zin 10 [0, 2, 3, 4, 5, 6, 7, 8] (aX13_distance_97 mc ms X Q) X 97 → zin 10 [] (aX13_distance_121 mc ms X Q) X 121 → zin 10 [0, 3, 5, 6, 7] (aX13_distance_155 mc ms X Q) X 155 → zin 10 [] (aX13_distance_210 mc ms X Q) X 210 → X 0 0 0 av [] M
set_option maxRecDepth 100000 in
set_option maxHeartbeats 4000000 in
theorem sX13_distance (l : Launch) (G : zG) (hE : zXt G) : zSnd l G yX13_distance cX13_distance 10 (some .int) 9 244 wX13_distance := by
  refine zmk [0, 1] (by decide) (fun mc ms av M Q h => h.1) ?_
  intro p e R s m args below meth c mc ms av M Q hC hRf hRl hr hnm h lv hlv
  obtain ⟨X, hXe⟩ : ∃ X : Nat → zV, X = fun L u v vs st M => ∀ lv, zpick lv (lvX13_distance L) = some vs → zAt p l e R s m args below meth c (MQ below (zQ G Q) args s mc ms (zA G)) G 10 L u v lv st M := ⟨_, rfl⟩
  have hJ : ∀ L, zOk p l e R s m args below meth c (MQ below (zQ G Q) args s mc ms (zA G)) G 10 L (zj X L (lvX13_distance L)) := fun L => S_jump (fun u v lv vs st M hp hx => by rw [hXe] at hx; exact hx lv hp)
  have hB0 : zin 10 [0, 1] (aX13_distance_0 mc ms X Q) X 0 := by
    intro u v vs st M hb
    rw [hXe]
    refine fun lv hp => S_block (L := 0) (live := [0, 1]) ?_ u v lv vs st M hp hb
    unfold aX13_distance_0
    refine S_bipush (pc := 0) hC dX13_distance_0 (by decide) ?_
    refine S_iload_n (pc := 2) hC dX13_distance_2 rfl ?_
    refine S_imul (pc := 3) hC dX13_distance_3 ?_
    refine S_istore_n (pc := 4) hC dX13_distance_4 rfl (by decide) ?_
    refine S_iconst (pc := 5) hC dX13_distance_5 (by decide) ?_
    refine S_istore_n (pc := 6) hC dX13_distance_6 rfl (by decide) ?_
    refine S_iconst (pc := 7) hC dX13_distance_7 (by decide) ?_
    refine S_istore (pc := 8) hC dX13_distance_8 (by decide) ?_
    refine S_iconst (pc := 10) hC dX13_distance_10 (by decide) ?_
    refine S_istore (pc := 11) hC dX13_distance_11 (by decide) ?_
    refine S_iconst (pc := 13) hC dX13_distance_13 (by decide) ?_
    refine S_istore (pc := 14) hC dX13_distance_14 (by decide) ?_
    refine S_iconst (pc := 16) hC dX13_distance_16 (by decide) ?_
    refine S_istore (pc := 17) hC dX13_distance_17 (by decide) ?_
    refine S_iconst (pc := 19) hC dX13_distance_19 (by decide) ?_
    refine S_istore (pc := 20) hC dX13_distance_20 (by decide) ?_
    exact hJ 22
  have hB22 : zin 10 [0, 2, 3, 4, 5, 6, 7, 8] (aX13_distance_22 mc ms X Q) X 22 := by
    intro u v vs st M hb
    rw [hXe]
    refine fun lv hp => S_block (L := 22) (live := [0, 2, 3, 4, 5, 6, 7, 8]) ?_ u v lv vs st M hp hb
    unfold aX13_distance_22
    refine S_iload (pc := 22) hC dX13_distance_22 ?_
    refine S_bipush (pc := 24) hC dX13_distance_24 (by decide) ?_
    refine S_icmp_ge (pc := 26) (tgt := 103) hC dX13_distance_26 (by decide) ?_ ?_
    · refine S_iload (pc := 103) hC dX13_distance_103 ?_
      refine S_iconst (pc := 105) hC dX13_distance_105 (by decide) ?_
      refine S_icmp_ne (pc := 106) (tgt := 121) hC dX13_distance_106 (by decide) ?_ ?_
      · exact hJ 121
      · refine S_aload_n (pc := 109) hC dX13_distance_109 rfl ?_
        refine S_getR (pc := 110) hC cfX13 (by decide) (Or.inr ⟨_, rfl⟩) wd_1271 dX13_distance_110 ?_
        refine S_iload_n (pc := 113) hC dX13_distance_113 rfl ?_
        refine S_bipush (pc := 114) hC dX13_distance_114 (by decide) ?_
        refine S_iadd (pc := 116) hC dX13_distance_116 ?_
        refine S_iaload (pc := 117) hC dX13_distance_117 ?_
        refine S_if_eq (pc := 118) (tgt := 123) hC dX13_distance_118 (by decide) ?_ ?_
        · refine S_aload_n (pc := 123) hC dX13_distance_123 rfl ?_
          refine S_getR (pc := 124) hC cfX13 (by decide) (Or.inl ⟨_, rfl⟩) wd_1280 dX13_distance_124 ?_
          refine S_iload_n (pc := 127) hC dX13_distance_127 rfl ?_
          refine S_callS (pc := 128) hC (sX13_kindOf l G) wd_1376 wd_1377 wd_12 wd_1378 (by decide +kernel) ⟨by rw [hRf]; decide, by rw [hRl]; decide⟩ dX13_distance_128 ?_
          unfold kX13_distance_131
          refine S_callV (pc := 131) hC (sX12_work l G) rfl wd_1684 wd_1685 wd_1686 wd_13 wd_1687 (by decide +kernel) ⟨by rw [hRf]; decide, by rw [hRl]; decide⟩ dX13_distance_131 ?_
          unfold kX13_distance_134
          refine S_iload_n (pc := 134) hC dX13_distance_134 rfl ?_
          refine S_callS (pc := 135) hC (sX13_sideOf l G) wd_1425 wd_1426 wd_12 wd_1427 (by decide +kernel) ⟨by rw [hRf]; decide, by rw [hRl]; decide⟩ dX13_distance_135 ?_
          unfold kX13_distance_138
          refine S_aload_n (pc := 138) hC dX13_distance_138 rfl ?_
          refine S_getR (pc := 139) hC cfX13 (by decide) (Or.inr ⟨_, rfl⟩) wd_1271 dX13_distance_139 ?_
          refine S_iload_n (pc := 142) hC dX13_distance_142 rfl ?_
          refine S_bipush (pc := 143) hC dX13_distance_143 (by decide) ?_
          refine S_iadd (pc := 145) hC dX13_distance_145 ?_
          refine S_iaload (pc := 146) hC dX13_distance_146 ?_
          refine S_icmp_ne (pc := 147) (tgt := 154) hC dX13_distance_147 (by decide) ?_ ?_
          · refine S_iconst (pc := 154) hC dX13_distance_154 (by decide) ?_
            exact hJ 155
          · refine S_iconst (pc := 150) hC dX13_distance_150 (by decide) ?_
            refine S_goto (pc := 151) (tgt := 155) hC dX13_distance_151 (by decide) ?_
            exact hJ 155
        · exact hJ 121
    · refine S_aload_n (pc := 29) hC dX13_distance_29 rfl ?_
      refine S_getR (pc := 30) hC cfX13 (by decide) (Or.inr ⟨_, rfl⟩) wd_1271 dX13_distance_30 ?_
      refine S_iload_n (pc := 33) hC dX13_distance_33 rfl ?_
      refine S_iload (pc := 34) hC dX13_distance_34 ?_
      refine S_iadd (pc := 36) hC dX13_distance_36 ?_
      refine S_iaload (pc := 37) hC dX13_distance_37 ?_
      refine S_istore_N (pc := 38) hC dX13_distance_38 (by decide) ?_
      unfold kX13_distance_40
      refine S_iload (pc := 40) hC dX13_distance_40 ?_
      refine S_bipush (pc := 42) hC dX13_distance_42 (by decide) ?_
      refine S_icmp_ne (pc := 44) (tgt := 52) hC dX13_distance_44 (by decide) ?_ ?_
      · refine S_iload (pc := 52) hC dX13_distance_52 ?_
        exact hJ 54
      · refine S_iload (pc := 47) hC dX13_distance_47 ?_
        refine S_goto (pc := 49) (tgt := 54) hC dX13_distance_49 (by decide) ?_
        exact hJ 54
  have hB54 : zin 10 [0, 2, 3, 4, 5, 7, 8, 9] (aX13_distance_54 mc ms X Q) X 54 := by
    intro u v vs st M hb
    rw [hXe]
    refine fun lv hp => S_block (L := 54) (live := [0, 2, 3, 4, 5, 7, 8, 9]) ?_ u v lv vs st M hp hb
    unfold aX13_distance_54
    refine S_istore (pc := 54) hC dX13_distance_54 (by decide) ?_
    refine S_iload (pc := 56) hC dX13_distance_56 ?_
    refine S_bipush (pc := 58) hC dX13_distance_58 (by decide) ?_
    refine S_icmp_ne (pc := 60) (tgt := 68) hC dX13_distance_60 (by decide) ?_ ?_
    · refine S_iload (pc := 68) hC dX13_distance_68 ?_
      exact hJ 70
    · refine S_iload (pc := 63) hC dX13_distance_63 ?_
      refine S_goto (pc := 65) (tgt := 70) hC dX13_distance_65 (by decide) ?_
      exact hJ 70
  have hB70 : zin 10 [0, 2, 3, 4, 5, 6, 8, 9] (aX13_distance_70 mc ms X Q) X 70 := by
    intro u v vs st M hb
    rw [hXe]
    refine fun lv hp => S_block (L := 70) (live := [0, 2, 3, 4, 5, 6, 8, 9]) ?_ u v lv vs st M hp hb
    unfold aX13_distance_70
    refine S_istore (pc := 70) hC dX13_distance_70 (by decide) ?_
    refine S_iload (pc := 72) hC dX13_distance_72 ?_
    refine S_if_le (pc := 74) (tgt := 97) hC dX13_distance_74 (by decide) ?_ ?_
    · exact hJ 97
    · refine S_iload (pc := 77) hC dX13_distance_77 ?_
      refine S_callS (pc := 79) hC (sX13_kindOf l G) wd_1376 wd_1377 wd_12 wd_1378 (by decide +kernel) ⟨by rw [hRf]; decide, by rw [hRl]; decide⟩ dX13_distance_79 ?_
      unfold kX13_distance_82
      refine S_bipush (pc := 82) hC dX13_distance_82 (by decide) ?_
      refine S_icmp_eq (pc := 84) (tgt := 97) hC dX13_distance_84 (by decide) ?_ ?_
      · exact hJ 97
      · refine S_iinc (pc := 87) hC dX13_distance_87 (by decide) (by decide) ?_
        refine S_iload (pc := 90) hC dX13_distance_90 ?_
        refine S_istore_n (pc := 92) hC dX13_distance_92 rfl (by decide) ?_
        refine S_iload (pc := 93) hC dX13_distance_93 ?_
        refine S_istore (pc := 95) hC dX13_distance_95 (by decide) ?_
        exact hJ 97
  have hB97 : zin 10 [0, 2, 3, 4, 5, 6, 7, 8] (aX13_distance_97 mc ms X Q) X 97 := by
    intro u v vs st M hb
    rw [hXe]
    refine fun lv hp => S_block (L := 97) (live := [0, 2, 3, 4, 5, 6, 7, 8]) ?_ u v lv vs st M hp hb
    unfold aX13_distance_97
    refine S_iinc (pc := 97) hC dX13_distance_97 (by decide) (by decide) ?_
    refine S_goto (pc := 100) (tgt := 22) hC dX13_distance_100 (by decide) ?_
    exact hJ 22
  have hB121 : zin 10 [] (aX13_distance_121 mc ms X Q) X 121 := by
    intro u v vs st M hb
    rw [hXe]
    refine fun lv hp => S_block (L := 121) (live := []) ?_ u v lv vs st M hp hb
    unfold aX13_distance_121
    refine S_iconst (pc := 121) hC dX13_distance_121 (by decide) ?_
    exact S_ireturn (pc := 122) hC hr dX13_distance_122
  have hB155 : zin 10 [0, 3, 5, 6, 7] (aX13_distance_155 mc ms X Q) X 155 := by
    intro u v vs st M hb
    rw [hXe]
    refine fun lv hp => S_block (L := 155) (live := [0, 3, 5, 6, 7]) ?_ u v lv vs st M hp hb
    unfold aX13_distance_155
    refine S_istore (pc := 155) hC dX13_distance_155 (by decide) ?_
    refine S_iload_n (pc := 157) hC dX13_distance_157 rfl ?_
    refine S_bipush (pc := 158) hC dX13_distance_158 (by decide) ?_
    refine S_icmp_ge (pc := 160) (tgt := 182) hC dX13_distance_160 (by decide) ?_ ?_
    · refine S_aload_n (pc := 182) hC dX13_distance_182 rfl ?_
      refine S_getR (pc := 183) hC cfX13 (by decide) (Or.inl ⟨_, rfl⟩) wd_1280 dX13_distance_183 ?_
      refine S_iload_n (pc := 186) hC dX13_distance_186 rfl ?_
      refine S_bipush (pc := 187) hC dX13_distance_187 (by decide) ?_
      refine S_isub (pc := 189) hC dX13_distance_189 ?_
      refine S_iload (pc := 190) hC dX13_distance_190 ?_
      refine S_bipush (pc := 192) hC dX13_distance_192 (by decide) ?_
      refine S_ixor (pc := 194) hC dX13_distance_194 ?_
      refine S_iload (pc := 195) hC dX13_distance_195 ?_
      refine S_bipush (pc := 197) hC dX13_distance_197 (by decide) ?_
      refine S_ixor (pc := 199) hC dX13_distance_199 ?_
      refine S_iload (pc := 200) hC dX13_distance_200 ?_
      refine S_bipush (pc := 202) hC dX13_distance_202 (by decide) ?_
      refine S_ixor (pc := 204) hC dX13_distance_204 ?_
      refine S_iload (pc := 205) hC dX13_distance_205 ?_
      refine S_callVN (pc := 207) hC (sX12_distanceOf l G) rfl (hE.2.2.1 s s.heap (zF_now hC)).2.1 wd_1773 ws_136 wd_13 wd_1774 (by decide +kernel) ⟨by rw [hRf]; decide, by rw [hRl]; decide⟩ dX13_distance_207 ?_
      unfold kX13_distance_210
      exact hJ 210
    · refine S_aload_n (pc := 163) hC dX13_distance_163 rfl ?_
      refine S_getR (pc := 164) hC cfX13 (by decide) (Or.inl ⟨_, rfl⟩) wd_1280 dX13_distance_164 ?_
      refine S_iload_n (pc := 167) hC dX13_distance_167 rfl ?_
      refine S_iload (pc := 168) hC dX13_distance_168 ?_
      refine S_iload (pc := 170) hC dX13_distance_170 ?_
      refine S_iload (pc := 172) hC dX13_distance_172 ?_
      refine S_iload (pc := 174) hC dX13_distance_174 ?_
      refine S_callVN (pc := 176) hC (sX12_distanceOf l G) rfl (hE.2.2.1 s s.heap (zF_now hC)).2.1 wd_1773 ws_136 wd_13 wd_1774 (by decide +kernel) ⟨by rw [hRf]; decide, by rw [hRl]; decide⟩ dX13_distance_176 ?_
      unfold kX13_distance_179
      refine S_goto (pc := 179) (tgt := 210) hC dX13_distance_179 (by decide) ?_
      exact hJ 210
  have hB210 : zin 10 [] (aX13_distance_210 mc ms X Q) X 210 := by
    intro u v vs st M hb
    rw [hXe]
    refine fun lv hp => S_block (L := 210) (live := []) ?_ u v lv vs st M hp hb
    unfold aX13_distance_210
    exact S_ireturn (pc := 210) hC hr dX13_distance_210
  have := h.2 X hB0 hB22 hB54 hB70 hB97 hB121 hB155 hB210
  rw [hXe] at this
  exact this lv hlv
theorem vX13_distance_0 {mc ms : Nat} {X : Nat → zV} {Q : zQt} {M : zM} {x1 : Int32} (hW : zFix M)  (h : X 22 0 0 [.ref 55, .int ((69 : Int32) * x1), .int 0, .int 0, .int 0, .int 0, .int 0, .int 0] [] M) : aX13_distance_0 mc ms X Q 0 0 [some (.ref 55), some (.int x1), none, none, none, none, none, none, none, none] [] M := h
theorem vcX13_distance_40 {mc ms : Nat} {X : Nat → zV} {Q : zQt} {M : zM} {x2 : Int32} {x3 : Int32} {x4 : Int32} {x5 : Int32} {x6 : Int32} {x7 : Int32} {x8 : Int32} {x9 : Int32} (hW : zFix M)  (h : (x9 = (6 : Int32) → X 54 0 0 [.ref 55, .int x2, .int x3, .int x4, .int x5, .int x7, .int x8, .int x9] [.int x8] M) ∧ (¬ x9 = (6 : Int32) → X 54 0 0 [.ref 55, .int x2, .int x3, .int x4, .int x5, .int x7, .int x8, .int x9] [.int x6] M)) : kX13_distance_40 mc ms X Q 0 0 [some (.ref 55), none, some (.int x2), some (.int x3), some (.int x4), some (.int x5), some (.int x6), some (.int x7), some (.int x8), some (.int x9)] [] M := ⟨fun c44 => (h.1 c44), fun c44 => (h.2 c44)⟩
theorem vX13_distance_22 {mc ms : Nat} {X : Nat → zV} {Q : zQt} {M : zM} {x2 : Int32} {x3 : Int32} {x4 : Int32} {x5 : Int32} {x6 : Int32} {x7 : Int32} {x8 : Int32} (hW : zFix M)  (h : ((64 : Int32) ≤ x8 → (x4 = (1 : Int32) → vp_in ((x2 + (65 : Int32))) 414 ∧ (((M : zM).1 65 ((x2 + (65 : Int32)) : Int32).toNatClampNeg) = 0 → wX13_kindOf 0 0 [.int x3] M (fun r M1 => kX13_distance_131 mc ms X Q 0 0 [some (.ref 55), none, some (.int x2), some (.int x3), some (.int x4), some (.int x5), some (.int x6), some (.int x7), some (.int x8), none] (r.toList ++ [.ref 71]) M1)) ∧ (¬ ((M : zM).1 65 ((x2 + (65 : Int32)) : Int32).toNatClampNeg) = 0 → X 121 0 0 [] [] M)) ∧ (¬ x4 = (1 : Int32) → X 121 0 0 [] [] M)) ∧ (¬ (64 : Int32) ≤ x8 → vp_in ((x2 + x8)) 414 ∧ ∀ y38 : Int32, y38 = ((M : zM).1 65 ((x2 + x8) : Int32).toNatClampNeg) → (y38 = (6 : Int32) → X 54 0 0 [.ref 55, .int x2, .int x3, .int x4, .int x5, .int x7, .int x8, .int y38] [.int x8] M) ∧ (¬ y38 = (6 : Int32) → X 54 0 0 [.ref 55, .int x2, .int x3, .int x4, .int x5, .int x7, .int x8, .int y38] [.int x6] M))) : aX13_distance_22 mc ms X Q 0 0 [some (.ref 55), none, some (.int x2), some (.int x3), some (.int x4), some (.int x5), some (.int x6), some (.int x7), some (.int x8), none] [] M := ⟨fun c26 => ⟨fun c106 => ⟨(fxs_55 hW), 65, (fxr_55_16 hW), ⟨414, (fxs_65 hW), ((h.1 c26).1 c106).1, ⟨fun c118 => ⟨(fxs_55 hW), 71, (fxr_55_25 hW), ⟨Nat.le_of_ble_eq_true rfl, rfl, 0, 0, Nat.zero_le _, Nat.zero_le _, (((h.1 c26).1 c106).2.1 c118)⟩⟩, fun c118 => (((h.1 c26).1 c106).2.2 c118)⟩⟩⟩, fun c106 => ((h.1 c26).2 c106)⟩, fun c26 => ⟨(fxs_55 hW), 65, (fxr_55_16 hW), ⟨414, (fxs_65 hW), (h.2 c26).1, (fun y38 e38 => have h38 := (h.2 c26).2 y38 e38; (vcX13_distance_40 hW  h38))⟩⟩⟩
theorem vX13_distance_54 {mc ms : Nat} {X : Nat → zV} {Q : zQt} {M : zM} {x2 : Int32} {x3 : Int32} {x4 : Int32} {x5 : Int32} {x7 : Int32} {x8 : Int32} {x9 : Int32} {s0 : Int32} (hW : zFix M)  (h : (x9 = (12 : Int32) → X 70 0 0 [.ref 55, .int x2, .int x3, .int x4, .int x5, .int s0, .int x8, .int x9] [.int x8] M) ∧ (¬ x9 = (12 : Int32) → X 70 0 0 [.ref 55, .int x2, .int x3, .int x4, .int x5, .int s0, .int x8, .int x9] [.int x7] M)) : aX13_distance_54 mc ms X Q 0 0 [some (.ref 55), none, some (.int x2), some (.int x3), some (.int x4), some (.int x5), none, some (.int x7), some (.int x8), some (.int x9)] [.int s0] M := ⟨fun c60 => (h.1 c60), fun c60 => (h.2 c60)⟩
theorem vX13_distance_70 {mc ms : Nat} {X : Nat → zV} {Q : zQt} {M : zM} {x2 : Int32} {x3 : Int32} {x4 : Int32} {x5 : Int32} {x6 : Int32} {x8 : Int32} {x9 : Int32} {s0 : Int32} (hW : zFix M)  (h : (x9 ≤ 0 → X 97 0 0 [.ref 55, .int x2, .int x3, .int x4, .int x5, .int x6, .int s0, .int x8] [] M) ∧ (¬ x9 ≤ 0 → wX13_kindOf 0 0 [.int x9] M (fun r M1 => kX13_distance_82 mc ms X Q 0 0 [some (.ref 55), none, some (.int x2), some (.int x3), some (.int x4), some (.int x5), some (.int x6), some (.int s0), some (.int x8), some (.int x9)] (r.toList ++ []) M1))) : aX13_distance_70 mc ms X Q 0 0 [some (.ref 55), none, some (.int x2), some (.int x3), some (.int x4), some (.int x5), some (.int x6), none, some (.int x8), some (.int x9)] [.int s0] M := ⟨fun c74 => (h.1 c74), fun c74 => ⟨Nat.le_of_ble_eq_true rfl, rfl, 0, 0, Nat.zero_le _, Nat.zero_le _, (h.2 c74)⟩⟩
theorem vX13_distance_97 {mc ms : Nat} {X : Nat → zV} {Q : zQt} {M : zM} {x2 : Int32} {x3 : Int32} {x4 : Int32} {x5 : Int32} {x6 : Int32} {x7 : Int32} {x8 : Int32} (hW : zFix M)  (h : X 22 0 0 [.ref 55, .int x2, .int x3, .int x4, .int x5, .int x6, .int x7, .int (x8 + 1)] [] M) : aX13_distance_97 mc ms X Q 0 0 [some (.ref 55), none, some (.int x2), some (.int x3), some (.int x4), some (.int x5), some (.int x6), some (.int x7), some (.int x8), none] [] M := h
theorem vX13_distance_121 {mc ms : Nat} {X : Nat → zV} {Q : zQt} {M : zM}  (hW : zFix M)  (h : Q (some (.int ((-1)))) M) : aX13_distance_121 mc ms X Q 0 0 [none, none, none, none, none, none, none, none, none, none] [] M := h
theorem vX13_distance_155 {mc ms : Nat} {X : Nat → zV} {Q : zQt} {M : zM} {x3 : Int32} {x5 : Int32} {x6 : Int32} {x7 : Int32} {s0 : Int32} (hW : zFix M)  (h : ((7 : Int32) ≤ x3 → wX12_distanceOf 0 0 [.ref 71, .int (x3 - (6 : Int32)), .int (x7 ^^^ (56 : Int32)), .int (x5 ^^^ (56 : Int32)), .int (x6 ^^^ (56 : Int32)), .int s0] M (fun r M1 => kX13_distance_210 mc ms X Q 0 0 [some (.ref 55), none, none, some (.int x3), none, some (.int x5), some (.int x6), some (.int x7), some (.int s0), none] (r.toList ++ []) M1)) ∧ (¬ (7 : Int32) ≤ x3 → wX12_distanceOf 0 0 [.ref 71, .int x3, .int x6, .int x5, .int x7, .int s0] M (fun r M1 => kX13_distance_179 mc ms X Q 0 0 [some (.ref 55), none, none, some (.int x3), none, some (.int x5), some (.int x6), some (.int x7), some (.int s0), none] (r.toList ++ []) M1))) : aX13_distance_155 mc ms X Q 0 0 [some (.ref 55), none, none, some (.int x3), none, some (.int x5), some (.int x6), some (.int x7), none, none] [.int s0] M := ⟨fun c160 => ⟨(fxs_55 hW), 71, (fxr_55_25 hW), ⟨Nat.le_of_ble_eq_true rfl, rfl, (fxs_71 hW), 0, 0, Nat.zero_le _, Nat.zero_le _, (h.1 c160)⟩⟩, fun c160 => ⟨(fxs_55 hW), 71, (fxr_55_25 hW), ⟨Nat.le_of_ble_eq_true rfl, rfl, (fxs_71 hW), 0, 0, Nat.zero_le _, Nat.zero_le _, (h.2 c160)⟩⟩⟩
theorem vX13_distance_210 {mc ms : Nat} {X : Nat → zV} {Q : zQt} {M : zM} {s0 : Int32} (hW : zFix M)  (h : Q (some (.int s0)) M) : aX13_distance_210 mc ms X Q 0 0 [none, none, none, none, none, none, none, none, none, none] [.int s0] M := h
theorem vkX13_distance_82 {mc ms : Nat} {X : Nat → zV} {Q : zQt} {M : zM} {x2 : Int32} {x3 : Int32} {x4 : Int32} {x5 : Int32} {x6 : Int32} {x7 : Int32} {x8 : Int32} {x9 : Int32} {s0 : Int32} (hW : zFix M)  (h : (s0 = (6 : Int32) → X 97 0 0 [.ref 55, .int x2, .int x3, .int x4, .int x5, .int x6, .int x7, .int x8] [] M) ∧ (¬ s0 = (6 : Int32) → X 97 0 0 [.ref 55, .int x2, .int x9, .int (x4 + 1), .int x8, .int x6, .int x7, .int x8] [] M)) : kX13_distance_82 mc ms X Q 0 0 [some (.ref 55), none, some (.int x2), some (.int x3), some (.int x4), some (.int x5), some (.int x6), some (.int x7), some (.int x8), some (.int x9)] [.int s0] M := ⟨fun c84 => (h.1 c84), fun c84 => (h.2 c84)⟩
theorem vkX13_distance_131 {mc ms : Nat} {X : Nat → zV} {Q : zQt} {M : zM} {x2 : Int32} {x3 : Int32} {x4 : Int32} {x5 : Int32} {x6 : Int32} {x7 : Int32} {x8 : Int32} {s0 : Int32} (hW : zFix M)  (h : wX12_work 0 0 [.ref 71, .int s0] M (fun r M1 => kX13_distance_134 mc ms X Q 0 0 [some (.ref 55), none, some (.int x2), some (.int x3), some (.int x4), some (.int x5), some (.int x6), some (.int x7), some (.int x8), none] (r.toList ++ []) M1)) : kX13_distance_131 mc ms X Q 0 0 [some (.ref 55), none, some (.int x2), some (.int x3), some (.int x4), some (.int x5), some (.int x6), some (.int x7), some (.int x8), none] [.int s0, .ref 71] M := ⟨Nat.le_of_ble_eq_true rfl, rfl, (fxs_71 hW), 0, 0, Nat.zero_le _, Nat.zero_le _, h⟩
theorem vkX13_distance_134 {mc ms : Nat} {X : Nat → zV} {Q : zQt} {M : zM} {x2 : Int32} {x3 : Int32} {x4 : Int32} {x5 : Int32} {x6 : Int32} {x7 : Int32} {x8 : Int32} (hW : zFix M)  (h : wX13_sideOf 0 0 [.int x3] M (fun r M1 => kX13_distance_138 mc ms X Q 0 0 [some (.ref 55), none, some (.int x2), some (.int x3), some (.int x4), some (.int x5), some (.int x6), some (.int x7), some (.int x8), none] (r.toList ++ []) M1)) : kX13_distance_134 mc ms X Q 0 0 [some (.ref 55), none, some (.int x2), some (.int x3), some (.int x4), some (.int x5), some (.int x6), some (.int x7), some (.int x8), none] [] M := ⟨Nat.le_of_ble_eq_true rfl, rfl, 0, 0, Nat.zero_le _, Nat.zero_le _, h⟩
theorem vkX13_distance_138 {mc ms : Nat} {X : Nat → zV} {Q : zQt} {M : zM} {x2 : Int32} {x3 : Int32} {x4 : Int32} {x5 : Int32} {x6 : Int32} {x7 : Int32} {x8 : Int32} {s0 : Int32} (hW : zFix M)  (h : vp_in ((x2 + (64 : Int32))) 414 ∧ (s0 = ((M : zM).1 65 ((x2 + (64 : Int32)) : Int32).toNatClampNeg) → X 155 0 0 [.ref 55, .int x3, .int x5, .int x6, .int x7] [.int 1] M) ∧ (¬ s0 = ((M : zM).1 65 ((x2 + (64 : Int32)) : Int32).toNatClampNeg) → X 155 0 0 [.ref 55, .int x3, .int x5, .int x6, .int x7] [.int 0] M)) : kX13_distance_138 mc ms X Q 0 0 [some (.ref 55), none, some (.int x2), some (.int x3), some (.int x4), some (.int x5), some (.int x6), some (.int x7), some (.int x8), none] [.int s0] M := ⟨(fxs_55 hW), 65, (fxr_55_16 hW), ⟨414, (fxs_65 hW), h.1, ⟨fun c147 => (h.2.1 c147), fun c147 => (h.2.2 c147)⟩⟩⟩
theorem vkX13_distance_179 {mc ms : Nat} {X : Nat → zV} {Q : zQt} {M : zM} {x3 : Int32} {x5 : Int32} {x6 : Int32} {x7 : Int32} {x8 : Int32} {s0 : Int32} (hW : zFix M)  (h : X 210 0 0 [] [.int s0] M) : kX13_distance_179 mc ms X Q 0 0 [some (.ref 55), none, none, some (.int x3), none, some (.int x5), some (.int x6), some (.int x7), some (.int x8), none] [.int s0] M := h
theorem vkX13_distance_210 {mc ms : Nat} {X : Nat → zV} {Q : zQt} {M : zM} {x3 : Int32} {x5 : Int32} {x6 : Int32} {x7 : Int32} {x8 : Int32} {s0 : Int32} (hW : zFix M)  (h : X 210 0 0 [] [.int s0] M) : kX13_distance_210 mc ms X Q 0 0 [some (.ref 55), none, none, some (.int x3), none, some (.int x5), some (.int x6), some (.int x7), some (.int x8), none] [.int s0] M := h
theorem dX13_distanceToMate_0 : decode cX13_distanceToMate 0 = .ok (.aload_n 0, 1) := by decide +kernel
theorem dX13_distanceToMate_1 : decode cX13_distanceToMate 1 = .ok (.aload_n 0, 1) := by decide +kernel
theorem dX13_distanceToMate_2 : decode cX13_distanceToMate 2 = .ok (.getfield 177, 3) := by decide +kernel
theorem dX13_distanceToMate_5 : decode cX13_distanceToMate 5 = .ok (.ifCond .eq 7, 3) := by decide +kernel
theorem dX13_distanceToMate_8 : decode cX13_distanceToMate 8 = .ok (.iconst 0, 1) := by decide +kernel
theorem dX13_distanceToMate_9 : decode cX13_distanceToMate 9 = .ok (.goto 4, 3) := by decide +kernel
theorem dX13_distanceToMate_12 : decode cX13_distanceToMate 12 = .ok (.iconst 1, 1) := by decide +kernel
theorem dX13_distanceToMate_13 : decode cX13_distanceToMate 13 = .ok (.putfield 68, 3) := by decide +kernel
theorem dX13_distanceToMate_16 : decode cX13_distanceToMate 16 = .ok (.aload_n 0, 1) := by decide +kernel
theorem dX13_distanceToMate_17 : decode cX13_distanceToMate 17 = .ok (.getfield 68, 3) := by decide +kernel
theorem dX13_distanceToMate_20 : decode cX13_distanceToMate 20 = .ok (.ifCond .le 5, 3) := by decide +kernel
theorem dX13_distanceToMate_23 : decode cX13_distanceToMate 23 = .ok (.iconst 0, 1) := by decide +kernel
theorem dX13_distanceToMate_24 : decode cX13_distanceToMate 24 = .ok (.ireturn, 1) := by decide +kernel
theorem dX13_distanceToMate_25 : decode cX13_distanceToMate 25 = .ok (.aload_n 0, 1) := by decide +kernel
theorem dX13_distanceToMate_26 : decode cX13_distanceToMate 26 = .ok (.invokevirtual 181, 3) := by decide +kernel
theorem dX13_distanceToMate_29 : decode cX13_distanceToMate 29 = .ok (.aload_n 0, 1) := by decide +kernel
theorem dX13_distanceToMate_30 : decode cX13_distanceToMate 30 = .ok (.iconst 0, 1) := by decide +kernel
theorem dX13_distanceToMate_31 : decode cX13_distanceToMate 31 = .ok (.invokevirtual 342, 3) := by decide +kernel
theorem dX13_distanceToMate_34 : decode cX13_distanceToMate 34 = .ok (.ireturn, 1) := by decide +kernel
def kX13_distanceToMate_34 (mc ms : Nat) (X : Nat → zV) (Q : zQt) : zT :=
  zri Q
def kX13_distanceToMate_29 (mc ms : Nat) (X : Nat → zV) (Q : zQt) : zT :=
  zla 0 <| zc (.int 0) <| zcv mc ms 13 1 wX13_distance <| kX13_distanceToMate_34 mc ms X Q
def aX13_distanceToMate_0 (mc ms : Nat) (X : Nat → zV) (Q : zQt) : zT :=
  zla 0 <| zla 0 <| zgi 13 7 <| zif (fun x => x = 0) (zc (.int 1) <| zj X 13 [0]) <| zc (.int 0) <| zj X 13 [0]
def aX13_distanceToMate_13 (mc ms : Nat) (X : Nat → zV) (Q : zQt) : zT :=
  zpi 13 0 <| zla 0 <| zgi 13 0 <| zif (fun x => x ≤ 0) (zla 0 <| zcv mc ms 13 0 wX13_show <| kX13_distanceToMate_29 mc ms X Q) <| zc (.int 0) <| zri Q
def lvX13_distanceToMate : Nat → List Nat := fun L => match L with
  | 0 => [0]
  | 13 => [0]
  | _ => []
def wX13_distanceToMate : zSp := fun mc ms av M Q => ((zlay av).length ≤ 1 ∧ zpick (zlay av) [0] = some av) ∧ ∀ X : Nat → zV, zin 1 [0] (aX13_distanceToMate_0 mc ms X Q) X 0 → zin 1 [0] (aX13_distanceToMate_13 mc ms X Q) X 13 → X 0 0 0 av [] M
set_option maxRecDepth 100000 in
set_option maxHeartbeats 4000000 in
theorem sX13_distanceToMate (l : Launch) (G : zG) (hE : zXt G) : zSnd l G yX13_distanceToMate cX13_distanceToMate 1 (some .int) 10 273 wX13_distanceToMate := by
  refine zmk [0] (by decide) (fun mc ms av M Q h => h.1) ?_
  intro p e R s m args below meth c mc ms av M Q hC hRf hRl hr hnm h lv hlv
  obtain ⟨X, hXe⟩ : ∃ X : Nat → zV, X = fun L u v vs st M => ∀ lv, zpick lv (lvX13_distanceToMate L) = some vs → zAt p l e R s m args below meth c (MQ below (zQ G Q) args s mc ms (zA G)) G 1 L u v lv st M := ⟨_, rfl⟩
  have hJ : ∀ L, zOk p l e R s m args below meth c (MQ below (zQ G Q) args s mc ms (zA G)) G 1 L (zj X L (lvX13_distanceToMate L)) := fun L => S_jump (fun u v lv vs st M hp hx => by rw [hXe] at hx; exact hx lv hp)
  have hB0 : zin 1 [0] (aX13_distanceToMate_0 mc ms X Q) X 0 := by
    intro u v vs st M hb
    rw [hXe]
    refine fun lv hp => S_block (L := 0) (live := [0]) ?_ u v lv vs st M hp hb
    unfold aX13_distanceToMate_0
    refine S_aload_n (pc := 0) hC dX13_distanceToMate_0 rfl ?_
    refine S_aload_n (pc := 1) hC dX13_distanceToMate_1 rfl ?_
    refine S_geti (pc := 2) hC cfX13 (by decide) (Or.inr rfl) wd_1262 dX13_distanceToMate_2 ?_
    refine S_if_eq (pc := 5) (tgt := 12) hC dX13_distanceToMate_5 (by decide) ?_ ?_
    · refine S_iconst (pc := 12) hC dX13_distanceToMate_12 (by decide) ?_
      exact hJ 13
    · refine S_iconst (pc := 8) hC dX13_distanceToMate_8 (by decide) ?_
      refine S_goto (pc := 9) (tgt := 13) hC dX13_distanceToMate_9 (by decide) ?_
      exact hJ 13
  have hB13 : zin 1 [0] (aX13_distanceToMate_13 mc ms X Q) X 13 := by
    intro u v vs st M hb
    rw [hXe]
    refine fun lv hp => S_block (L := 13) (live := [0]) ?_ u v lv vs st M hp hb
    unfold aX13_distanceToMate_13
    refine S_puti (pc := 13) hC cfX13 (by decide) rfl (Or.inl rfl) wd_1255 dX13_distanceToMate_13 ?_
    refine S_aload_n (pc := 16) hC dX13_distanceToMate_16 rfl ?_
    refine S_geti (pc := 17) hC cfX13 (by decide) (Or.inl rfl) wd_1255 dX13_distanceToMate_17 ?_
    refine S_if_le (pc := 20) (tgt := 25) hC dX13_distanceToMate_20 (by decide) ?_ ?_
    · refine S_aload_n (pc := 25) hC dX13_distanceToMate_25 rfl ?_
      refine S_callV (pc := 26) hC (sX13_show l G) rfl wd_1585 wd_1587 ws_103 wd_12 wd_1588 (by decide +kernel) ⟨by rw [hRf]; decide, by rw [hRl]; decide⟩ dX13_distanceToMate_26 ?_
      unfold kX13_distanceToMate_29
      refine S_aload_n (pc := 29) hC dX13_distanceToMate_29 rfl ?_
      refine S_iconst (pc := 30) hC dX13_distanceToMate_30 (by decide) ?_
      refine S_callV (pc := 31) hC (sX13_distance l G hE) rfl wd_1680 wd_1682 ws_115 wd_12 wd_1683 (by decide +kernel) ⟨by rw [hRf]; decide, by rw [hRl]; decide⟩ dX13_distanceToMate_31 ?_
      unfold kX13_distanceToMate_34
      exact S_ireturn (pc := 34) hC hr dX13_distanceToMate_34
    · refine S_iconst (pc := 23) hC dX13_distanceToMate_23 (by decide) ?_
      exact S_ireturn (pc := 24) hC hr dX13_distanceToMate_24
  have := h.2 X hB0 hB13
  rw [hXe] at this
  exact this lv hlv
theorem vX13_distanceToMate_0 {mc ms : Nat} {X : Nat → zV} {Q : zQt} {M : zM}  (hW : zFix M)  (h : ((M.1 55 7) = 0 → X 13 0 0 [.ref 55] [.int 1, .ref 55] M) ∧ (¬ (M.1 55 7) = 0 → X 13 0 0 [.ref 55] [.int 0, .ref 55] M)) : aX13_distanceToMate_0 mc ms X Q 0 0 [some (.ref 55)] [] M := ⟨(fxs_55 hW), ⟨fun c5 => (h.1 c5), fun c5 => (h.2 c5)⟩⟩
theorem vX13_distanceToMate_13 {mc ms : Nat} {X : Nat → zV} {Q : zQt} {M : zM} {s0 : Int32} (hW : zFix M)  (h : ∀ M13 : zM, M13 = (zsI M 55 0 s0) → ((M13.1 55 0) ≤ 0 → wX13_show 0 0 [.ref 55] M13 (fun r M1 => kX13_distanceToMate_29 mc ms X Q 0 0 [some (.ref 55)] (r.toList ++ []) M1)) ∧ (¬ (M13.1 55 0) ≤ 0 → Q (some (.int 0)) M13)) : aX13_distanceToMate_13 mc ms X Q 0 0 [some (.ref 55)] [.int s0, .ref 55] M := ⟨(fxs_55 hW), (have h13 := h _ rfl; ⟨(fxs_55 hW), ⟨fun c20 => ⟨Nat.le_of_ble_eq_true rfl, rfl, (fxs_55 hW), 0, 0, Nat.zero_le _, Nat.zero_le _, (h13.1 c20)⟩, fun c20 => (h13.2 c20)⟩⟩)⟩
theorem vkX13_distanceToMate_29 {mc ms : Nat} {X : Nat → zV} {Q : zQt} {M : zM}  (hW : zFix M)  (h : wX13_distance 0 0 [.ref 55, .int 0] M (fun r M1 => kX13_distanceToMate_34 mc ms X Q 0 0 [some (.ref 55)] (r.toList ++ []) M1)) : kX13_distanceToMate_29 mc ms X Q 0 0 [some (.ref 55)] [] M := ⟨Nat.le_of_ble_eq_true rfl, rfl, (fxs_55 hW), 0, 0, Nat.zero_le _, Nat.zero_le _, h⟩
theorem vkX13_distanceToMate_34 {mc ms : Nat} {X : Nat → zV} {Q : zQt} {M : zM} {s0 : Int32} (hW : zFix M)  (h : Q (some (.int s0)) M) : kX13_distanceToMate_34 mc ms X Q 0 0 [some (.ref 55)] [.int s0] M := h
theorem dX13_matingMove_0 : decode cX13_matingMove 0 = .ok (.aload_n 0, 1) := by decide +kernel
theorem dX13_matingMove_1 : decode cX13_matingMove 1 = .ok (.aload_n 0, 1) := by decide +kernel
theorem dX13_matingMove_2 : decode cX13_matingMove 2 = .ok (.getfield 177, 3) := by decide +kernel
theorem dX13_matingMove_5 : decode cX13_matingMove 5 = .ok (.ifCond .eq 7, 3) := by decide +kernel
theorem dX13_matingMove_8 : decode cX13_matingMove 8 = .ok (.iconst 0, 1) := by decide +kernel
theorem dX13_matingMove_9 : decode cX13_matingMove 9 = .ok (.goto 4, 3) := by decide +kernel
theorem dX13_matingMove_12 : decode cX13_matingMove 12 = .ok (.iconst 1, 1) := by decide +kernel
theorem dX13_matingMove_13 : decode cX13_matingMove 13 = .ok (.putfield 68, 3) := by decide +kernel
theorem dX13_matingMove_16 : decode cX13_matingMove 16 = .ok (.aload_n 0, 1) := by decide +kernel
theorem dX13_matingMove_17 : decode cX13_matingMove 17 = .ok (.getfield 68, 3) := by decide +kernel
theorem dX13_matingMove_20 : decode cX13_matingMove 20 = .ok (.ifCond .le 5, 3) := by decide +kernel
theorem dX13_matingMove_23 : decode cX13_matingMove 23 = .ok (.iconst 0, 1) := by decide +kernel
theorem dX13_matingMove_24 : decode cX13_matingMove 24 = .ok (.ireturn, 1) := by decide +kernel
theorem dX13_matingMove_25 : decode cX13_matingMove 25 = .ok (.aload_n 0, 1) := by decide +kernel
theorem dX13_matingMove_26 : decode cX13_matingMove 26 = .ok (.invokevirtual 181, 3) := by decide +kernel
theorem dX13_matingMove_29 : decode cX13_matingMove 29 = .ok (.aload_n 0, 1) := by decide +kernel
theorem dX13_matingMove_30 : decode cX13_matingMove 30 = .ok (.iconst 0, 1) := by decide +kernel
theorem dX13_matingMove_31 : decode cX13_matingMove 31 = .ok (.invokevirtual 342, 3) := by decide +kernel
theorem dX13_matingMove_34 : decode cX13_matingMove 34 = .ok (.istore_n 1, 1) := by decide +kernel
theorem dX13_matingMove_35 : decode cX13_matingMove 35 = .ok (.iconst 0, 1) := by decide +kernel
theorem dX13_matingMove_36 : decode cX13_matingMove 36 = .ok (.istore_n 2, 1) := by decide +kernel
theorem dX13_matingMove_37 : decode cX13_matingMove 37 = .ok (.iload_n 2, 1) := by decide +kernel
theorem dX13_matingMove_38 : decode cX13_matingMove 38 = .ok (.aload_n 0, 1) := by decide +kernel
theorem dX13_matingMove_39 : decode cX13_matingMove 39 = .ok (.getfield 49, 3) := by decide +kernel
theorem dX13_matingMove_42 : decode cX13_matingMove 42 = .ok (.iconst 0, 1) := by decide +kernel
theorem dX13_matingMove_43 : decode cX13_matingMove 43 = .ok (.iaload, 1) := by decide +kernel
theorem dX13_matingMove_44 : decode cX13_matingMove 44 = .ok (.if_icmp .ge 37, 3) := by decide +kernel
theorem dX13_matingMove_47 : decode cX13_matingMove 47 = .ok (.iload_n 1, 1) := by decide +kernel
theorem dX13_matingMove_48 : decode cX13_matingMove 48 = .ok (.ifCond .le 33, 3) := by decide +kernel
theorem dX13_matingMove_51 : decode cX13_matingMove 51 = .ok (.aload_n 0, 1) := by decide +kernel
theorem dX13_matingMove_52 : decode cX13_matingMove 52 = .ok (.iconst 0, 1) := by decide +kernel
theorem dX13_matingMove_53 : decode cX13_matingMove 53 = .ok (.aload_n 0, 1) := by decide +kernel
theorem dX13_matingMove_54 : decode cX13_matingMove 54 = .ok (.getfield 46, 3) := by decide +kernel
theorem dX13_matingMove_57 : decode cX13_matingMove 57 = .ok (.iload_n 2, 1) := by decide +kernel
theorem dX13_matingMove_58 : decode cX13_matingMove 58 = .ok (.iaload, 1) := by decide +kernel
theorem dX13_matingMove_59 : decode cX13_matingMove 59 = .ok (.invokevirtual 112, 3) := by decide +kernel
theorem dX13_matingMove_62 : decode cX13_matingMove 62 = .ok (.aload_n 0, 1) := by decide +kernel
theorem dX13_matingMove_63 : decode cX13_matingMove 63 = .ok (.iconst 1, 1) := by decide +kernel
theorem dX13_matingMove_64 : decode cX13_matingMove 64 = .ok (.invokevirtual 342, 3) := by decide +kernel
theorem dX13_matingMove_67 : decode cX13_matingMove 67 = .ok (.iload_n 1, 1) := by decide +kernel
theorem dX13_matingMove_68 : decode cX13_matingMove 68 = .ok (.iconst 1, 1) := by decide +kernel
theorem dX13_matingMove_69 : decode cX13_matingMove 69 = .ok (.isub, 1) := by decide +kernel
theorem dX13_matingMove_70 : decode cX13_matingMove 70 = .ok (.if_icmp .ne 5, 3) := by decide +kernel
theorem dX13_matingMove_73 : decode cX13_matingMove 73 = .ok (.iload_n 2, 1) := by decide +kernel
theorem dX13_matingMove_74 : decode cX13_matingMove 74 = .ok (.ireturn, 1) := by decide +kernel
theorem dX13_matingMove_75 : decode cX13_matingMove 75 = .ok (.iinc 2 1, 3) := by decide +kernel
theorem dX13_matingMove_78 : decode cX13_matingMove 78 = .ok (.goto (-41), 3) := by decide +kernel
theorem dX13_matingMove_81 : decode cX13_matingMove 81 = .ok (.iconst (-1), 1) := by decide +kernel
theorem dX13_matingMove_82 : decode cX13_matingMove 82 = .ok (.ireturn, 1) := by decide +kernel
def kX13_matingMove_34 (mc ms : Nat) (X : Nat → zV) (Q : zQt) : zT :=
  zsi 1 <| zc (.int 0) <| zsi 2 <| zj X 37 [0, 1, 2]
def kX13_matingMove_29 (mc ms : Nat) (X : Nat → zV) (Q : zQt) : zT :=
  zla 0 <| zc (.int 0) <| zcv mc ms 13 1 wX13_distance <| kX13_matingMove_34 mc ms X Q
def kX13_matingMove_67 (mc ms : Nat) (X : Nat → zV) (Q : zQt) : zT :=
  zli 1 <| zc (.int 1) <| zii (fun x y => x - y) <| zic (fun x y => x = y) (zli 2 <| zri Q) <| zinc 2 1 <| zj X 37 [0, 1, 2]
def kX13_matingMove_62 (mc ms : Nat) (X : Nat → zV) (Q : zQt) : zT :=
  zla 0 <| zc (.int 1) <| zcv mc ms 13 1 wX13_distance <| kX13_matingMove_67 mc ms X Q
def aX13_matingMove_0 (mc ms : Nat) (X : Nat → zV) (Q : zQt) : zT :=
  zla 0 <| zla 0 <| zgi 13 7 <| zif (fun x => x = 0) (zc (.int 1) <| zj X 13 [0]) <| zc (.int 0) <| zj X 13 [0]
def aX13_matingMove_13 (mc ms : Nat) (X : Nat → zV) (Q : zQt) : zT :=
  zpi 13 0 <| zla 0 <| zgi 13 0 <| zif (fun x => x ≤ 0) (zla 0 <| zcv mc ms 13 0 wX13_show <| kX13_matingMove_29 mc ms X Q) <| zc (.int 0) <| zri Q
def aX13_matingMove_37 (mc ms : Nat) (X : Nat → zV) (Q : zQt) : zT :=
  zli 2 <| zla 0 <| zgR 13 18 <| zc (.int 0) <| zal 1 <| zic (fun x y => y ≤ x) (zj X 81 []) <| zli 1 <| zif (fun x => x ≤ 0) (zj X 81 []) <| zla 0 <| zc (.int 0) <| zla 0 <| zgR 13 17 <| zli 2 <| zal 1 <| zcv mc ms 13 2 wX13_make <| kX13_matingMove_62 mc ms X Q
def aX13_matingMove_81 (mc ms : Nat) (X : Nat → zV) (Q : zQt) : zT :=
  zc (.int (-1)) <| zri Q
def lvX13_matingMove : Nat → List Nat := fun L => match L with
  | 0 => [0]
  | 13 => [0]
  | 37 => [0, 1, 2]
  | 81 => []
  | _ => []
def wX13_matingMove : zSp := fun mc ms av M Q => ((zlay av).length ≤ 3 ∧ zpick (zlay av) [0] = some av) ∧ ∀ X : Nat → zV, zin 3 [0] (aX13_matingMove_0 mc ms X Q) X 0 → zin 3 [0] (aX13_matingMove_13 mc ms X Q) X 13 → zin 3 [0, 1, 2] (aX13_matingMove_37 mc ms X Q) X 37 → zin 3 [] (aX13_matingMove_81 mc ms X Q) X 81 → X 0 0 0 av [] M
set_option maxRecDepth 100000 in
set_option maxHeartbeats 4000000 in
theorem sX13_matingMove (l : Launch) (G : zG) (hE : zXt G) : zSnd l G yX13_matingMove cX13_matingMove 3 (some .int) 10 273 wX13_matingMove := by
  refine zmk [0] (by decide) (fun mc ms av M Q h => h.1) ?_
  intro p e R s m args below meth c mc ms av M Q hC hRf hRl hr hnm h lv hlv
  obtain ⟨X, hXe⟩ : ∃ X : Nat → zV, X = fun L u v vs st M => ∀ lv, zpick lv (lvX13_matingMove L) = some vs → zAt p l e R s m args below meth c (MQ below (zQ G Q) args s mc ms (zA G)) G 3 L u v lv st M := ⟨_, rfl⟩
  have hJ : ∀ L, zOk p l e R s m args below meth c (MQ below (zQ G Q) args s mc ms (zA G)) G 3 L (zj X L (lvX13_matingMove L)) := fun L => S_jump (fun u v lv vs st M hp hx => by rw [hXe] at hx; exact hx lv hp)
  have hB0 : zin 3 [0] (aX13_matingMove_0 mc ms X Q) X 0 := by
    intro u v vs st M hb
    rw [hXe]
    refine fun lv hp => S_block (L := 0) (live := [0]) ?_ u v lv vs st M hp hb
    unfold aX13_matingMove_0
    refine S_aload_n (pc := 0) hC dX13_matingMove_0 rfl ?_
    refine S_aload_n (pc := 1) hC dX13_matingMove_1 rfl ?_
    refine S_geti (pc := 2) hC cfX13 (by decide) (Or.inr rfl) wd_1262 dX13_matingMove_2 ?_
    refine S_if_eq (pc := 5) (tgt := 12) hC dX13_matingMove_5 (by decide) ?_ ?_
    · refine S_iconst (pc := 12) hC dX13_matingMove_12 (by decide) ?_
      exact hJ 13
    · refine S_iconst (pc := 8) hC dX13_matingMove_8 (by decide) ?_
      refine S_goto (pc := 9) (tgt := 13) hC dX13_matingMove_9 (by decide) ?_
      exact hJ 13
  have hB13 : zin 3 [0] (aX13_matingMove_13 mc ms X Q) X 13 := by
    intro u v vs st M hb
    rw [hXe]
    refine fun lv hp => S_block (L := 13) (live := [0]) ?_ u v lv vs st M hp hb
    unfold aX13_matingMove_13
    refine S_puti (pc := 13) hC cfX13 (by decide) rfl (Or.inl rfl) wd_1255 dX13_matingMove_13 ?_
    refine S_aload_n (pc := 16) hC dX13_matingMove_16 rfl ?_
    refine S_geti (pc := 17) hC cfX13 (by decide) (Or.inl rfl) wd_1255 dX13_matingMove_17 ?_
    refine S_if_le (pc := 20) (tgt := 25) hC dX13_matingMove_20 (by decide) ?_ ?_
    · refine S_aload_n (pc := 25) hC dX13_matingMove_25 rfl ?_
      refine S_callV (pc := 26) hC (sX13_show l G) rfl wd_1585 wd_1587 ws_103 wd_12 wd_1588 (by decide +kernel) ⟨by rw [hRf]; decide, by rw [hRl]; decide⟩ dX13_matingMove_26 ?_
      unfold kX13_matingMove_29
      refine S_aload_n (pc := 29) hC dX13_matingMove_29 rfl ?_
      refine S_iconst (pc := 30) hC dX13_matingMove_30 (by decide) ?_
      refine S_callV (pc := 31) hC (sX13_distance l G hE) rfl wd_1680 wd_1682 ws_115 wd_12 wd_1683 (by decide +kernel) ⟨by rw [hRf]; decide, by rw [hRl]; decide⟩ dX13_matingMove_31 ?_
      unfold kX13_matingMove_34
      refine S_istore_n (pc := 34) hC dX13_matingMove_34 rfl (by decide) ?_
      refine S_iconst (pc := 35) hC dX13_matingMove_35 (by decide) ?_
      refine S_istore_n (pc := 36) hC dX13_matingMove_36 rfl (by decide) ?_
      exact hJ 37
    · refine S_iconst (pc := 23) hC dX13_matingMove_23 (by decide) ?_
      exact S_ireturn (pc := 24) hC hr dX13_matingMove_24
  have hB37 : zin 3 [0, 1, 2] (aX13_matingMove_37 mc ms X Q) X 37 := by
    intro u v vs st M hb
    rw [hXe]
    refine fun lv hp => S_block (L := 37) (live := [0, 1, 2]) ?_ u v lv vs st M hp hb
    unfold aX13_matingMove_37
    refine S_iload_n (pc := 37) hC dX13_matingMove_37 rfl ?_
    refine S_aload_n (pc := 38) hC dX13_matingMove_38 rfl ?_
    refine S_getR (pc := 39) hC cfX13 (by decide) (Or.inr ⟨_, rfl⟩) wd_1273 dX13_matingMove_39 ?_
    refine S_iconst (pc := 42) hC dX13_matingMove_42 (by decide) ?_
    refine S_iaload (pc := 43) hC dX13_matingMove_43 ?_
    refine S_icmp_ge (pc := 44) (tgt := 81) hC dX13_matingMove_44 (by decide) ?_ ?_
    · exact hJ 81
    · refine S_iload_n (pc := 47) hC dX13_matingMove_47 rfl ?_
      refine S_if_le (pc := 48) (tgt := 81) hC dX13_matingMove_48 (by decide) ?_ ?_
      · exact hJ 81
      · refine S_aload_n (pc := 51) hC dX13_matingMove_51 rfl ?_
        refine S_iconst (pc := 52) hC dX13_matingMove_52 (by decide) ?_
        refine S_aload_n (pc := 53) hC dX13_matingMove_53 rfl ?_
        refine S_getR (pc := 54) hC cfX13 (by decide) (Or.inr ⟨_, rfl⟩) wd_1272 dX13_matingMove_54 ?_
        refine S_iload_n (pc := 57) hC dX13_matingMove_57 rfl ?_
        refine S_iaload (pc := 58) hC dX13_matingMove_58 ?_
        refine S_callV (pc := 59) hC (sX13_make l G) rfl wd_1471 wd_1473 ws_79 wd_12 wd_1474 (by decide +kernel) ⟨by rw [hRf]; decide, by rw [hRl]; decide⟩ dX13_matingMove_59 ?_
        unfold kX13_matingMove_62
        refine S_aload_n (pc := 62) hC dX13_matingMove_62 rfl ?_
        refine S_iconst (pc := 63) hC dX13_matingMove_63 (by decide) ?_
        refine S_callV (pc := 64) hC (sX13_distance l G hE) rfl wd_1680 wd_1682 ws_115 wd_12 wd_1683 (by decide +kernel) ⟨by rw [hRf]; decide, by rw [hRl]; decide⟩ dX13_matingMove_64 ?_
        unfold kX13_matingMove_67
        refine S_iload_n (pc := 67) hC dX13_matingMove_67 rfl ?_
        refine S_iconst (pc := 68) hC dX13_matingMove_68 (by decide) ?_
        refine S_isub (pc := 69) hC dX13_matingMove_69 ?_
        refine S_icmp_ne (pc := 70) (tgt := 75) hC dX13_matingMove_70 (by decide) ?_ ?_
        · refine S_iinc (pc := 75) hC dX13_matingMove_75 (by decide) (by decide) ?_
          refine S_goto (pc := 78) (tgt := 37) hC dX13_matingMove_78 (by decide) ?_
          exact hJ 37
        · refine S_iload_n (pc := 73) hC dX13_matingMove_73 rfl ?_
          exact S_ireturn (pc := 74) hC hr dX13_matingMove_74
  have hB81 : zin 3 [] (aX13_matingMove_81 mc ms X Q) X 81 := by
    intro u v vs st M hb
    rw [hXe]
    refine fun lv hp => S_block (L := 81) (live := []) ?_ u v lv vs st M hp hb
    unfold aX13_matingMove_81
    refine S_iconst (pc := 81) hC dX13_matingMove_81 (by decide) ?_
    exact S_ireturn (pc := 82) hC hr dX13_matingMove_82
  have := h.2 X hB0 hB13 hB37 hB81
  rw [hXe] at this
  exact this lv hlv
theorem vX13_matingMove_0 {mc ms : Nat} {X : Nat → zV} {Q : zQt} {M : zM}  (hW : zFix M)  (h : ((M.1 55 7) = 0 → X 13 0 0 [.ref 55] [.int 1, .ref 55] M) ∧ (¬ (M.1 55 7) = 0 → X 13 0 0 [.ref 55] [.int 0, .ref 55] M)) : aX13_matingMove_0 mc ms X Q 0 0 [some (.ref 55), none, none] [] M := ⟨(fxs_55 hW), ⟨fun c5 => (h.1 c5), fun c5 => (h.2 c5)⟩⟩
theorem vX13_matingMove_13 {mc ms : Nat} {X : Nat → zV} {Q : zQt} {M : zM} {s0 : Int32} (hW : zFix M)  (h : ∀ M13 : zM, M13 = (zsI M 55 0 s0) → ((M13.1 55 0) ≤ 0 → wX13_show 0 0 [.ref 55] M13 (fun r M1 => kX13_matingMove_29 mc ms X Q 0 0 [some (.ref 55), none, none] (r.toList ++ []) M1)) ∧ (¬ (M13.1 55 0) ≤ 0 → Q (some (.int 0)) M13)) : aX13_matingMove_13 mc ms X Q 0 0 [some (.ref 55), none, none] [.int s0, .ref 55] M := ⟨(fxs_55 hW), (have h13 := h _ rfl; ⟨(fxs_55 hW), ⟨fun c20 => ⟨Nat.le_of_ble_eq_true rfl, rfl, (fxs_55 hW), 0, 0, Nat.zero_le _, Nat.zero_le _, (h13.1 c20)⟩, fun c20 => (h13.2 c20)⟩⟩)⟩
theorem vX13_matingMove_37 {mc ms : Nat} {X : Nat → zV} {Q : zQt} {M : zM} {x1 : Int32} {x2 : Int32} (hW : zFix M)  (h : (((M : zM).1 67 (0 : Int32).toNatClampNeg) ≤ x2 → X 81 0 0 [] [] M) ∧ (¬ ((M : zM).1 67 (0 : Int32).toNatClampNeg) ≤ x2 → (x1 ≤ 0 → X 81 0 0 [] [] M) ∧ (¬ x1 ≤ 0 → vp_in x2 1980 ∧ wX13_make 0 0 [.ref 55, .int 0, .int ((M : zM).1 66 (x2 : Int32).toNatClampNeg)] M (fun r M1 => kX13_matingMove_62 mc ms X Q 0 0 [some (.ref 55), some (.int x1), some (.int x2)] (r.toList ++ []) M1)))) : aX13_matingMove_37 mc ms X Q 0 0 [some (.ref 55), some (.int x1), some (.int x2)] [] M := ⟨(fxs_55 hW), 67, (fxr_55_18 hW), ⟨6, (fxs_67 hW), by unfold vp_in; decide, ⟨fun c44 => (h.1 c44), fun c44 => ⟨fun c48 => ((h.2 c44).1 c48), fun c48 => ⟨(fxs_55 hW), 66, (fxr_55_17 hW), ⟨1980, (fxs_66 hW), ((h.2 c44).2 c48).1, ⟨Nat.le_of_ble_eq_true rfl, rfl, (fxs_55 hW), 0, 0, Nat.zero_le _, Nat.zero_le _, ((h.2 c44).2 c48).2⟩⟩⟩⟩⟩⟩⟩
theorem vX13_matingMove_81 {mc ms : Nat} {X : Nat → zV} {Q : zQt} {M : zM}  (hW : zFix M)  (h : Q (some (.int ((-1)))) M) : aX13_matingMove_81 mc ms X Q 0 0 [none, none, none] [] M := h
theorem vkX13_matingMove_29 {mc ms : Nat} {X : Nat → zV} {Q : zQt} {M : zM}  (hW : zFix M)  (h : wX13_distance 0 0 [.ref 55, .int 0] M (fun r M1 => kX13_matingMove_34 mc ms X Q 0 0 [some (.ref 55), none, none] (r.toList ++ []) M1)) : kX13_matingMove_29 mc ms X Q 0 0 [some (.ref 55), none, none] [] M := ⟨Nat.le_of_ble_eq_true rfl, rfl, (fxs_55 hW), 0, 0, Nat.zero_le _, Nat.zero_le _, h⟩
theorem vkX13_matingMove_34 {mc ms : Nat} {X : Nat → zV} {Q : zQt} {M : zM} {s0 : Int32} (hW : zFix M)  (h : X 37 0 0 [.ref 55, .int s0, .int 0] [] M) : kX13_matingMove_34 mc ms X Q 0 0 [some (.ref 55), none, none] [.int s0] M := h
theorem vkX13_matingMove_62 {mc ms : Nat} {X : Nat → zV} {Q : zQt} {M : zM} {x1 : Int32} {x2 : Int32} (hW : zFix M)  (h : wX13_distance 0 0 [.ref 55, .int 1] M (fun r M1 => kX13_matingMove_67 mc ms X Q 0 0 [some (.ref 55), some (.int x1), some (.int x2)] (r.toList ++ []) M1)) : kX13_matingMove_62 mc ms X Q 0 0 [some (.ref 55), some (.int x1), some (.int x2)] [] M := ⟨Nat.le_of_ble_eq_true rfl, rfl, (fxs_55 hW), 0, 0, Nat.zero_le _, Nat.zero_le _, h⟩
theorem vkX13_matingMove_67 {mc ms : Nat} {X : Nat → zV} {Q : zQt} {M : zM} {x1 : Int32} {x2 : Int32} {s0 : Int32} (hW : zFix M)  (h : (s0 = (x1 - (1 : Int32)) → Q (some (.int x2)) M) ∧ (¬ s0 = (x1 - (1 : Int32)) → X 37 0 0 [.ref 55, .int x1, .int (x2 + 1)] [] M)) : kX13_matingMove_67 mc ms X Q 0 0 [some (.ref 55), some (.int x1), some (.int x2)] [.int s0] M := ⟨fun c70 => (h.1 c70), fun c70 => (h.2 c70)⟩
theorem dX6_readMen_0 : decode cX6_readMen 0 = .ok (.bipush 7, 2) := by decide +kernel
theorem dX6_readMen_2 : decode cX6_readMen 2 = .ok (.istore_n 2, 1) := by decide +kernel
theorem dX6_readMen_3 : decode cX6_readMen 3 = .ok (.iload_n 2, 1) := by decide +kernel
theorem dX6_readMen_4 : decode cX6_readMen 4 = .ok (.ifCond .lt 48, 3) := by decide +kernel
theorem dX6_readMen_7 : decode cX6_readMen 7 = .ok (.aload_n 0, 1) := by decide +kernel
theorem dX6_readMen_8 : decode cX6_readMen 8 = .ok (.aload_n 1, 1) := by decide +kernel
theorem dX6_readMen_9 : decode cX6_readMen 9 = .ok (.iload_n 2, 1) := by decide +kernel
theorem dX6_readMen_10 : decode cX6_readMen 10 = .ok (.bipush 8, 2) := by decide +kernel
theorem dX6_readMen_12 : decode cX6_readMen 12 = .ok (.imul, 1) := by decide +kernel
theorem dX6_readMen_13 : decode cX6_readMen 13 = .ok (.invokevirtual 73, 3) := by decide +kernel
theorem dX6_readMen_16 : decode cX6_readMen 16 = .ok (.ifCond .ne 5, 3) := by decide +kernel
theorem dX6_readMen_19 : decode cX6_readMen 19 = .ok (.iconst 0, 1) := by decide +kernel
theorem dX6_readMen_20 : decode cX6_readMen 20 = .ok (.ireturn, 1) := by decide +kernel
theorem dX6_readMen_21 : decode cX6_readMen 21 = .ok (.iload_n 2, 1) := by decide +kernel
theorem dX6_readMen_22 : decode cX6_readMen 22 = .ok (.ifCond .le 24, 3) := by decide +kernel
theorem dX6_readMen_25 : decode cX6_readMen 25 = .ok (.aload_n 0, 1) := by decide +kernel
theorem dX6_readMen_26 : decode cX6_readMen 26 = .ok (.invokevirtual 69, 3) := by decide +kernel
theorem dX6_readMen_29 : decode cX6_readMen 29 = .ok (.bipush 47, 2) := by decide +kernel
theorem dX6_readMen_31 : decode cX6_readMen 31 = .ok (.if_icmp .eq 5, 3) := by decide +kernel
theorem dX6_readMen_34 : decode cX6_readMen 34 = .ok (.iconst 0, 1) := by decide +kernel
theorem dX6_readMen_35 : decode cX6_readMen 35 = .ok (.ireturn, 1) := by decide +kernel
theorem dX6_readMen_36 : decode cX6_readMen 36 = .ok (.aload_n 0, 1) := by decide +kernel
theorem dX6_readMen_37 : decode cX6_readMen 37 = .ok (.dup, 1) := by decide +kernel
theorem dX6_readMen_38 : decode cX6_readMen 38 = .ok (.getfield 26, 3) := by decide +kernel
theorem dX6_readMen_41 : decode cX6_readMen 41 = .ok (.iconst 1, 1) := by decide +kernel
theorem dX6_readMen_42 : decode cX6_readMen 42 = .ok (.iadd, 1) := by decide +kernel
theorem dX6_readMen_43 : decode cX6_readMen 43 = .ok (.putfield 26, 3) := by decide +kernel
theorem dX6_readMen_46 : decode cX6_readMen 46 = .ok (.iinc 2 (-1), 3) := by decide +kernel
theorem dX6_readMen_49 : decode cX6_readMen 49 = .ok (.goto (-46), 3) := by decide +kernel
theorem dX6_readMen_52 : decode cX6_readMen 52 = .ok (.iconst 1, 1) := by decide +kernel
theorem dX6_readMen_53 : decode cX6_readMen 53 = .ok (.ireturn, 1) := by decide +kernel
def kX6_readMen_29 (mc ms : Nat) (X : Nat → zV) (Q : zQt) : zT :=
  zc (.int 47) <| zic (fun x y => x = y) (zla 0 <| zdup <| zgi 6 3 <| zc (.int 1) <| zii (fun x y => x + y) <| zpi 6 3 <| zj X 46 [0, 1, 2]) <| zc (.int 0) <| zrz .boolean Q
def kX6_readMen_16 (mc ms : Nat) (X : Nat → zV) (Q : zQt) : zT :=
  zif (fun x => x = 0) (zc (.int 0) <| zrz .boolean Q) <| zli 2 <| zif (fun x => x ≤ 0) (zj X 46 [0, 1, 2]) <| zla 0 <| zcv mc ms 6 0 wX6_sign <| kX6_readMen_29 mc ms X Q
def aX6_readMen_0 (mc ms : Nat) (X : Nat → zV) (Q : zQt) : zT :=
  zc (.int 7) <| zsi 2 <| zj X 3 [0, 1, 2]
def aX6_readMen_3 (mc ms : Nat) (X : Nat → zV) (Q : zQt) : zT :=
  zli 2 <| zif (fun x => x < 0) (zc (.int 1) <| zrz .boolean Q) <| zla 0 <| zla 1 <| zli 2 <| zc (.int 8) <| zii (fun x y => x * y) <| zcv mc ms 6 2 wX6_readRank <| kX6_readMen_16 mc ms X Q
def aX6_readMen_46 (mc ms : Nat) (X : Nat → zV) (Q : zQt) : zT :=
  zinc 2 (-1) <| zj X 3 [0, 1, 2]
def lvX6_readMen : Nat → List Nat := fun L => match L with
  | 0 => [0, 1]
  | 3 => [0, 1, 2]
  | 46 => [0, 1, 2]
  | _ => []
def wX6_readMen : zSp := fun mc ms av M Q => ((zlay av).length ≤ 3 ∧ zpick (zlay av) [0, 1] = some av) ∧ ∀ X : Nat → zV, zin 3 [0, 1] (aX6_readMen_0 mc ms X Q) X 0 → zin 3 [0, 1, 2] (aX6_readMen_3 mc ms X Q) X 3 → zin 3 [0, 1, 2] (aX6_readMen_46 mc ms X Q) X 46 → X 0 0 0 av [] M
set_option maxRecDepth 100000 in
set_option maxHeartbeats 4000000 in
theorem sX6_readMen (l : Launch) (G : zG) (hE : zXt G) : zSnd l G yX6_readMen cX6_readMen 3 (some .boolean) 5 118 wX6_readMen := by
  refine zmk [0, 1] (by decide) (fun mc ms av M Q h => h.1) ?_
  intro p e R s m args below meth c mc ms av M Q hC hRf hRl hr hnm h lv hlv
  obtain ⟨X, hXe⟩ : ∃ X : Nat → zV, X = fun L u v vs st M => ∀ lv, zpick lv (lvX6_readMen L) = some vs → zAt p l e R s m args below meth c (MQ below (zQ G Q) args s mc ms (zA G)) G 3 L u v lv st M := ⟨_, rfl⟩
  have hJ : ∀ L, zOk p l e R s m args below meth c (MQ below (zQ G Q) args s mc ms (zA G)) G 3 L (zj X L (lvX6_readMen L)) := fun L => S_jump (fun u v lv vs st M hp hx => by rw [hXe] at hx; exact hx lv hp)
  have hB0 : zin 3 [0, 1] (aX6_readMen_0 mc ms X Q) X 0 := by
    intro u v vs st M hb
    rw [hXe]
    refine fun lv hp => S_block (L := 0) (live := [0, 1]) ?_ u v lv vs st M hp hb
    unfold aX6_readMen_0
    refine S_bipush (pc := 0) hC dX6_readMen_0 (by decide) ?_
    refine S_istore_n (pc := 2) hC dX6_readMen_2 rfl (by decide) ?_
    exact hJ 3
  have hB3 : zin 3 [0, 1, 2] (aX6_readMen_3 mc ms X Q) X 3 := by
    intro u v vs st M hb
    rw [hXe]
    refine fun lv hp => S_block (L := 3) (live := [0, 1, 2]) ?_ u v lv vs st M hp hb
    unfold aX6_readMen_3
    refine S_iload_n (pc := 3) hC dX6_readMen_3 rfl ?_
    refine S_if_lt (pc := 4) (tgt := 52) hC dX6_readMen_4 (by decide) ?_ ?_
    · refine S_iconst (pc := 52) hC dX6_readMen_52 (by decide) ?_
      exact S_zreturn (pc := 53) hC hr dX6_readMen_53
    · refine S_aload_n (pc := 7) hC dX6_readMen_7 rfl ?_
      refine S_aload_n (pc := 8) hC dX6_readMen_8 rfl ?_
      refine S_iload_n (pc := 9) hC dX6_readMen_9 rfl ?_
      refine S_bipush (pc := 10) hC dX6_readMen_10 (by decide) ?_
      refine S_imul (pc := 12) hC dX6_readMen_12 ?_
      refine S_callV (pc := 13) hC (sX6_readRank l G hE) rfl wd_685 wd_687 ws_15 wd_4 wd_688 (by decide +kernel) ⟨by rw [hRf]; decide, by rw [hRl]; decide⟩ dX6_readMen_13 ?_
      unfold kX6_readMen_16
      refine S_if_ne (pc := 16) (tgt := 21) hC dX6_readMen_16 (by decide) ?_ ?_
      · refine S_iload_n (pc := 21) hC dX6_readMen_21 rfl ?_
        refine S_if_le (pc := 22) (tgt := 46) hC dX6_readMen_22 (by decide) ?_ ?_
        · exact hJ 46
        · refine S_aload_n (pc := 25) hC dX6_readMen_25 rfl ?_
          refine S_callV (pc := 26) hC (sX6_sign l G) rfl wd_689 wd_691 ws_16 wd_4 wd_692 (by decide +kernel) ⟨by rw [hRf]; decide, by rw [hRl]; decide⟩ dX6_readMen_26 ?_
          unfold kX6_readMen_29
          refine S_bipush (pc := 29) hC dX6_readMen_29 (by decide) ?_
          refine S_icmp_eq (pc := 31) (tgt := 36) hC dX6_readMen_31 (by decide) ?_ ?_
          · refine S_aload_n (pc := 36) hC dX6_readMen_36 rfl ?_
            refine S_dup (pc := 37) hC dX6_readMen_37 ?_
            refine S_geti (pc := 38) hC cfX6 (by decide) (Or.inl rfl) wd_141 dX6_readMen_38 ?_
            refine S_iconst (pc := 41) hC dX6_readMen_41 (by decide) ?_
            refine S_iadd (pc := 42) hC dX6_readMen_42 ?_
            refine S_puti (pc := 43) hC cfX6 (by decide) rfl (Or.inl rfl) wd_141 dX6_readMen_43 ?_
            exact hJ 46
          · refine S_iconst (pc := 34) hC dX6_readMen_34 (by decide) ?_
            exact S_zreturn (pc := 35) hC hr dX6_readMen_35
      · refine S_iconst (pc := 19) hC dX6_readMen_19 (by decide) ?_
        exact S_zreturn (pc := 20) hC hr dX6_readMen_20
  have hB46 : zin 3 [0, 1, 2] (aX6_readMen_46 mc ms X Q) X 46 := by
    intro u v vs st M hb
    rw [hXe]
    refine fun lv hp => S_block (L := 46) (live := [0, 1, 2]) ?_ u v lv vs st M hp hb
    unfold aX6_readMen_46
    refine S_iinc (pc := 46) hC dX6_readMen_46 (by decide) (by decide) ?_
    refine S_goto (pc := 49) (tgt := 3) hC dX6_readMen_49 (by decide) ?_
    exact hJ 3
  have := h.2 X hB0 hB3 hB46
  rw [hXe] at this
  exact this lv hlv
theorem vX6_readMen_0 {mc ms : Nat} {X : Nat → zV} {Q : zQt} {M : zM} {g : Nat}  (hW : zWd M g)  (h : X 3 0 0 [.ref 27, .ref (g + 1), .int 7] [] M) : aX6_readMen_0 mc ms X Q 0 0 [some (.ref 27), some (.ref (g + 1)), none] [] M := h
theorem vX6_readMen_3 {mc ms : Nat} {X : Nat → zV} {Q : zQt} {M : zM} {g : Nat} {x2 : Int32} (hW : zWd M g)  (h : (x2 < 0 → Q (some (.int 1)) M) ∧ (¬ x2 < 0 → wX6_readRank 0 0 [.ref 27, .ref (g + 1), .int (x2 * (8 : Int32))] M (fun r M1 => kX6_readMen_16 mc ms X Q 0 0 [some (.ref 27), some (.ref (g + 1)), some (.int x2)] (r.toList ++ []) M1))) : aX6_readMen_3 mc ms X Q 0 0 [some (.ref 27), some (.ref (g + 1)), some (.int x2)] [] M := ⟨fun c4 => ⟨rfl, (h.1 c4)⟩, fun c4 => ⟨Nat.le_of_ble_eq_true rfl, rfl, (fxs_27 hW.1), 0, 0, Nat.zero_le _, Nat.zero_le _, (h.2 c4)⟩⟩
theorem vX6_readMen_46 {mc ms : Nat} {X : Nat → zV} {Q : zQt} {M : zM} {g : Nat} {x2 : Int32} (hW : zWd M g)  (h : X 3 0 0 [.ref 27, .ref (g + 1), .int (x2 + (-1))] [] M) : aX6_readMen_46 mc ms X Q 0 0 [some (.ref 27), some (.ref (g + 1)), some (.int x2)] [] M := h
theorem vkX6_readMen_16 {mc ms : Nat} {X : Nat → zV} {Q : zQt} {M : zM} {g : Nat} {x2 : Int32} {s0 : Int32} (hW : zWd M g)  (h : (s0 = 0 → Q (some (.int 0)) M) ∧ (¬ s0 = 0 → (x2 ≤ 0 → X 46 0 0 [.ref 27, .ref (g + 1), .int x2] [] M) ∧ (¬ x2 ≤ 0 → wX6_sign 0 0 [.ref 27] M (fun r M1 => kX6_readMen_29 mc ms X Q 0 0 [some (.ref 27), some (.ref (g + 1)), some (.int x2)] (r.toList ++ []) M1)))) : kX6_readMen_16 mc ms X Q 0 0 [some (.ref 27), some (.ref (g + 1)), some (.int x2)] [.int s0] M := ⟨fun c16 => ⟨rfl, (h.1 c16)⟩, fun c16 => ⟨fun c22 => ((h.2 c16).1 c22), fun c22 => ⟨Nat.le_of_ble_eq_true rfl, rfl, (fxs_27 hW.1), 0, 0, Nat.zero_le _, Nat.zero_le _, ((h.2 c16).2 c22)⟩⟩⟩
theorem vkX6_readMen_29 {mc ms : Nat} {X : Nat → zV} {Q : zQt} {M : zM} {g : Nat} {x2 : Int32} {s0 : Int32} (hW : zWd M g)  (h : (s0 = (47 : Int32) → ∀ M43 : zM, M43 = (zsI M 27 3 (((M.1 27 3) + (1 : Int32)))) → X 46 0 0 [.ref 27, .ref (g + 1), .int x2] [] M43) ∧ (¬ s0 = (47 : Int32) → Q (some (.int 0)) M)) : kX6_readMen_29 mc ms X Q 0 0 [some (.ref 27), some (.ref (g + 1)), some (.int x2)] [.int s0] M := ⟨fun c31 => ⟨(fxs_27 hW.1), ⟨(fxs_27 hW.1), (have h43 := (h.1 c31) _ rfl; h43)⟩⟩, fun c31 => ⟨rfl, (h.2 c31)⟩⟩
theorem dX7_write_0 : decode cX7_write 0 = .ok (.aload_n 0, 1) := by decide +kernel
theorem dX7_write_1 : decode cX7_write 1 = .ok (.iconst 0, 1) := by decide +kernel
theorem dX7_write_2 : decode cX7_write 2 = .ok (.putfield 19, 3) := by decide +kernel
theorem dX7_write_5 : decode cX7_write 5 = .ok (.bipush 7, 2) := by decide +kernel
theorem dX7_write_7 : decode cX7_write 7 = .ok (.istore_n 2, 1) := by decide +kernel
theorem dX7_write_8 : decode cX7_write 8 = .ok (.iload_n 2, 1) := by decide +kernel
theorem dX7_write_9 : decode cX7_write 9 = .ok (.ifCond .lt 33, 3) := by decide +kernel
theorem dX7_write_12 : decode cX7_write 12 = .ok (.aload_n 0, 1) := by decide +kernel
theorem dX7_write_13 : decode cX7_write 13 = .ok (.aload_n 1, 1) := by decide +kernel
theorem dX7_write_14 : decode cX7_write 14 = .ok (.iload_n 2, 1) := by decide +kernel
theorem dX7_write_15 : decode cX7_write 15 = .ok (.bipush 8, 2) := by decide +kernel
theorem dX7_write_17 : decode cX7_write 17 = .ok (.imul, 1) := by decide +kernel
theorem dX7_write_18 : decode cX7_write 18 = .ok (.invokevirtual 23, 3) := by decide +kernel
theorem dX7_write_21 : decode cX7_write 21 = .ok (.aload_n 0, 1) := by decide +kernel
theorem dX7_write_22 : decode cX7_write 22 = .ok (.iload_n 2, 1) := by decide +kernel
theorem dX7_write_23 : decode cX7_write 23 = .ok (.ifCond .le 8, 3) := by decide +kernel
theorem dX7_write_26 : decode cX7_write 26 = .ok (.bipush 47, 2) := by decide +kernel
theorem dX7_write_28 : decode cX7_write 28 = .ok (.goto 5, 3) := by decide +kernel
theorem dX7_write_31 : decode cX7_write 31 = .ok (.bipush 32, 2) := by decide +kernel
theorem dX7_write_33 : decode cX7_write 33 = .ok (.invokevirtual 27, 3) := by decide +kernel
theorem dX7_write_36 : decode cX7_write 36 = .ok (.iinc 2 (-1), 3) := by decide +kernel
theorem dX7_write_39 : decode cX7_write 39 = .ok (.goto (-31), 3) := by decide +kernel
theorem dX7_write_42 : decode cX7_write 42 = .ok (.aload_n 0, 1) := by decide +kernel
theorem dX7_write_43 : decode cX7_write 43 = .ok (.aload_n 1, 1) := by decide +kernel
theorem dX7_write_44 : decode cX7_write 44 = .ok (.getfield 31, 3) := by decide +kernel
theorem dX7_write_47 : decode cX7_write 47 = .ok (.ifCond .ne 8, 3) := by decide +kernel
theorem dX7_write_50 : decode cX7_write 50 = .ok (.bipush 119, 2) := by decide +kernel
theorem dX7_write_52 : decode cX7_write 52 = .ok (.goto 5, 3) := by decide +kernel
theorem dX7_write_55 : decode cX7_write 55 = .ok (.bipush 98, 2) := by decide +kernel
theorem dX7_write_57 : decode cX7_write 57 = .ok (.invokevirtual 27, 3) := by decide +kernel
theorem dX7_write_60 : decode cX7_write 60 = .ok (.aload_n 0, 1) := by decide +kernel
theorem dX7_write_61 : decode cX7_write 61 = .ok (.bipush 32, 2) := by decide +kernel
theorem dX7_write_63 : decode cX7_write 63 = .ok (.invokevirtual 27, 3) := by decide +kernel
theorem dX7_write_66 : decode cX7_write 66 = .ok (.iconst 0, 1) := by decide +kernel
theorem dX7_write_67 : decode cX7_write 67 = .ok (.istore_n 2, 1) := by decide +kernel
theorem dX7_write_68 : decode cX7_write 68 = .ok (.iload_n 2, 1) := by decide +kernel
theorem dX7_write_69 : decode cX7_write 69 = .ok (.iconst 4, 1) := by decide +kernel
theorem dX7_write_70 : decode cX7_write 70 = .ok (.if_icmp .ge 30, 3) := by decide +kernel
theorem dX7_write_73 : decode cX7_write 73 = .ok (.aload_n 1, 1) := by decide +kernel
theorem dX7_write_74 : decode cX7_write 74 = .ok (.getfield 36, 3) := by decide +kernel
theorem dX7_write_77 : decode cX7_write 77 = .ok (.iload_n 2, 1) := by decide +kernel
theorem dX7_write_78 : decode cX7_write 78 = .ok (.ishr, 1) := by decide +kernel
theorem dX7_write_79 : decode cX7_write 79 = .ok (.iconst 1, 1) := by decide +kernel
theorem dX7_write_80 : decode cX7_write 80 = .ok (.iand, 1) := by decide +kernel
theorem dX7_write_81 : decode cX7_write 81 = .ok (.ifCond .eq 13, 3) := by decide +kernel
theorem dX7_write_84 : decode cX7_write 84 = .ok (.aload_n 0, 1) := by decide +kernel
theorem dX7_write_85 : decode cX7_write 85 = .ok (.ldc 39, 2) := by decide +kernel
theorem dX7_write_87 : decode cX7_write 87 = .ok (.iload_n 2, 1) := by decide +kernel
theorem dX7_write_88 : decode cX7_write 88 = .ok (.invokevirtual 41, 3) := by decide +kernel
theorem dX7_write_91 : decode cX7_write 91 = .ok (.invokevirtual 27, 3) := by decide +kernel
theorem dX7_write_94 : decode cX7_write 94 = .ok (.iinc 2 1, 3) := by decide +kernel
theorem dX7_write_97 : decode cX7_write 97 = .ok (.goto (-29), 3) := by decide +kernel
theorem dX7_write_100 : decode cX7_write 100 = .ok (.aload_n 1, 1) := by decide +kernel
theorem dX7_write_101 : decode cX7_write 101 = .ok (.getfield 36, 3) := by decide +kernel
theorem dX7_write_104 : decode cX7_write 104 = .ok (.ifCond .ne 9, 3) := by decide +kernel
theorem dX7_write_107 : decode cX7_write 107 = .ok (.aload_n 0, 1) := by decide +kernel
theorem dX7_write_108 : decode cX7_write 108 = .ok (.bipush 45, 2) := by decide +kernel
theorem dX7_write_110 : decode cX7_write 110 = .ok (.invokevirtual 27, 3) := by decide +kernel
theorem dX7_write_113 : decode cX7_write 113 = .ok (.aload_n 0, 1) := by decide +kernel
theorem dX7_write_114 : decode cX7_write 114 = .ok (.bipush 32, 2) := by decide +kernel
theorem dX7_write_116 : decode cX7_write 116 = .ok (.invokevirtual 27, 3) := by decide +kernel
theorem dX7_write_119 : decode cX7_write 119 = .ok (.aload_n 1, 1) := by decide +kernel
theorem dX7_write_120 : decode cX7_write 120 = .ok (.getfield 47, 3) := by decide +kernel
theorem dX7_write_123 : decode cX7_write 123 = .ok (.iconst (-1), 1) := by decide +kernel
theorem dX7_write_124 : decode cX7_write 124 = .ok (.if_icmp .ne 12, 3) := by decide +kernel
theorem dX7_write_127 : decode cX7_write 127 = .ok (.aload_n 0, 1) := by decide +kernel
theorem dX7_write_128 : decode cX7_write 128 = .ok (.bipush 45, 2) := by decide +kernel
theorem dX7_write_130 : decode cX7_write 130 = .ok (.invokevirtual 27, 3) := by decide +kernel
theorem dX7_write_133 : decode cX7_write 133 = .ok (.goto 33, 3) := by decide +kernel
theorem dX7_write_136 : decode cX7_write 136 = .ok (.aload_n 0, 1) := by decide +kernel
theorem dX7_write_137 : decode cX7_write 137 = .ok (.bipush 97, 2) := by decide +kernel
theorem dX7_write_139 : decode cX7_write 139 = .ok (.aload_n 1, 1) := by decide +kernel
theorem dX7_write_140 : decode cX7_write 140 = .ok (.getfield 47, 3) := by decide +kernel
theorem dX7_write_143 : decode cX7_write 143 = .ok (.iadd, 1) := by decide +kernel
theorem dX7_write_144 : decode cX7_write 144 = .ok (.i2c, 1) := by decide +kernel
theorem dX7_write_145 : decode cX7_write 145 = .ok (.invokevirtual 27, 3) := by decide +kernel
theorem dX7_write_148 : decode cX7_write 148 = .ok (.aload_n 0, 1) := by decide +kernel
theorem dX7_write_149 : decode cX7_write 149 = .ok (.aload_n 1, 1) := by decide +kernel
theorem dX7_write_150 : decode cX7_write 150 = .ok (.getfield 31, 3) := by decide +kernel
theorem dX7_write_153 : decode cX7_write 153 = .ok (.ifCond .ne 8, 3) := by decide +kernel
theorem dX7_write_156 : decode cX7_write 156 = .ok (.bipush 54, 2) := by decide +kernel
theorem dX7_write_158 : decode cX7_write 158 = .ok (.goto 5, 3) := by decide +kernel
theorem dX7_write_161 : decode cX7_write 161 = .ok (.bipush 51, 2) := by decide +kernel
theorem dX7_write_163 : decode cX7_write 163 = .ok (.invokevirtual 27, 3) := by decide +kernel
theorem dX7_write_166 : decode cX7_write 166 = .ok (.aload_n 0, 1) := by decide +kernel
theorem dX7_write_167 : decode cX7_write 167 = .ok (.bipush 32, 2) := by decide +kernel
theorem dX7_write_169 : decode cX7_write 169 = .ok (.invokevirtual 27, 3) := by decide +kernel
theorem dX7_write_172 : decode cX7_write 172 = .ok (.aload_n 0, 1) := by decide +kernel
theorem dX7_write_173 : decode cX7_write 173 = .ok (.aload_n 1, 1) := by decide +kernel
theorem dX7_write_174 : decode cX7_write 174 = .ok (.getfield 50, 3) := by decide +kernel
theorem dX7_write_177 : decode cX7_write 177 = .ok (.invokevirtual 53, 3) := by decide +kernel
theorem dX7_write_180 : decode cX7_write 180 = .ok (.aload_n 0, 1) := by decide +kernel
theorem dX7_write_181 : decode cX7_write 181 = .ok (.bipush 32, 2) := by decide +kernel
theorem dX7_write_183 : decode cX7_write 183 = .ok (.invokevirtual 27, 3) := by decide +kernel
theorem dX7_write_186 : decode cX7_write 186 = .ok (.aload_n 0, 1) := by decide +kernel
theorem dX7_write_187 : decode cX7_write 187 = .ok (.aload_n 1, 1) := by decide +kernel
theorem dX7_write_188 : decode cX7_write 188 = .ok (.getfield 57, 3) := by decide +kernel
theorem dX7_write_191 : decode cX7_write 191 = .ok (.invokevirtual 53, 3) := by decide +kernel
theorem dX7_write_194 : decode cX7_write 194 = .ok (.return_, 1) := by decide +kernel
def kX7_write_21 (mc ms : Nat) (X : Nat → zV) (Q : zQt) : zT :=
  zla 0 <| zli 2 <| zif (fun x => x ≤ 0) (zc (.int 32) <| zj X 33 [0, 1, 2]) <| zc (.int 47) <| zj X 33 [0, 1, 2]
def kX7_write_36 (mc ms : Nat) (X : Nat → zV) (Q : zQt) : zT :=
  zinc 2 (-1) <| zj X 8 [0, 1, 2]
def kX7_write_66 (mc ms : Nat) (X : Nat → zV) (Q : zQt) : zT :=
  zc (.int 0) <| zsi 2 <| zj X 68 [0, 1, 2]
def kX7_write_60 (mc ms : Nat) (X : Nat → zV) (Q : zQt) : zT :=
  zla 0 <| zc (.int 32) <| zcv mc ms 7 1 wX7_put <| kX7_write_66 mc ms X Q
def kX7_write_113 (mc ms : Nat) (X : Nat → zV) (Q : zQt) : zT :=
  zj X 113 [0, 1]
def kX7_write_94 (mc ms : Nat) (X : Nat → zV) (Q : zQt) : zT :=
  zj X 94 [0, 1, 2]
def kX7_write_91 (mc ms : Nat) (X : Nat → zV) (Q : zQt) : zT :=
  zcv mc ms 7 1 wX7_put <| kX7_write_94 mc ms X Q
def kX7_write_148 (mc ms : Nat) (X : Nat → zV) (Q : zQt) : zT :=
  zla 0 <| zla 1 <| zgi 0 4 <| zif (fun x => x = 0) (zc (.int 54) <| zj X 163 [0, 1]) <| zc (.int 51) <| zj X 163 [0, 1]
def kX7_write_133 (mc ms : Nat) (X : Nat → zV) (Q : zQt) : zT :=
  zj X 166 [0, 1]
def kX7_write_119 (mc ms : Nat) (X : Nat → zV) (Q : zQt) : zT :=
  zla 1 <| zgi 0 6 <| zc (.int (-1)) <| zic (fun x y => x = y) (zla 0 <| zc (.int 45) <| zcv mc ms 7 1 wX7_put <| kX7_write_133 mc ms X Q) <| zla 0 <| zc (.int 97) <| zla 1 <| zgi 0 6 <| zii (fun x y => x + y) <| zi1 (fun x => (x.toUInt32 % 65536).toInt32) <| zcv mc ms 7 1 wX7_put <| kX7_write_148 mc ms X Q
def kX7_write_166 (mc ms : Nat) (X : Nat → zV) (Q : zQt) : zT :=
  zj X 166 [0, 1]
def kX7_write_194 (mc ms : Nat) (X : Nat → zV) (Q : zQt) : zT :=
  zrv Q
def kX7_write_186 (mc ms : Nat) (X : Nat → zV) (Q : zQt) : zT :=
  zla 0 <| zla 1 <| zgi 0 8 <| zcv mc ms 7 1 wX7_putNumber <| kX7_write_194 mc ms X Q
def kX7_write_180 (mc ms : Nat) (X : Nat → zV) (Q : zQt) : zT :=
  zla 0 <| zc (.int 32) <| zcv mc ms 7 1 wX7_put <| kX7_write_186 mc ms X Q
def kX7_write_172 (mc ms : Nat) (X : Nat → zV) (Q : zQt) : zT :=
  zla 0 <| zla 1 <| zgi 0 7 <| zcv mc ms 7 1 wX7_putNumber <| kX7_write_180 mc ms X Q
def aX7_write_0 (mc ms : Nat) (X : Nat → zV) (Q : zQt) : zT :=
  zla 0 <| zc (.int 0) <| zpi 7 1 <| zc (.int 7) <| zsi 2 <| zj X 8 [0, 1, 2]
def aX7_write_8 (mc ms : Nat) (X : Nat → zV) (Q : zQt) : zT :=
  zli 2 <| zif (fun x => x < 0) (zla 0 <| zla 1 <| zgi 0 4 <| zif (fun x => x = 0) (zc (.int 119) <| zj X 57 [0, 1]) <| zc (.int 98) <| zj X 57 [0, 1]) <| zla 0 <| zla 1 <| zli 2 <| zc (.int 8) <| zii (fun x y => x * y) <| zcv mc ms 7 2 wX7_writeRank <| kX7_write_21 mc ms X Q
def aX7_write_33 (mc ms : Nat) (X : Nat → zV) (Q : zQt) : zT :=
  zcv mc ms 7 1 wX7_put <| kX7_write_36 mc ms X Q
def aX7_write_57 (mc ms : Nat) (X : Nat → zV) (Q : zQt) : zT :=
  zcv mc ms 7 1 wX7_put <| kX7_write_60 mc ms X Q
def aX7_write_68 (mc ms : Nat) (X : Nat → zV) (Q : zQt) : zT :=
  zli 2 <| zc (.int 4) <| zic (fun x y => y ≤ x) (zla 1 <| zgi 0 5 <| zif (fun x => x = 0) (zla 0 <| zc (.int 45) <| zcv mc ms 7 1 wX7_put <| kX7_write_113 mc ms X Q) <| zj X 113 [0, 1]) <| zla 1 <| zgi 0 5 <| zli 2 <| zii (fun x y => x >>> (y &&& 31)) <| zc (.int 1) <| zii (fun x y => x &&& y) <| zif (fun x => x = 0) (zj X 94 [0, 1, 2]) <| zla 0 <| zgs 6 <| zli 2 <| zcx mc ms 1 wJ0_charAt_5068e <| kX7_write_91 mc ms X Q
def aX7_write_94 (mc ms : Nat) (X : Nat → zV) (Q : zQt) : zT :=
  zinc 2 1 <| zj X 68 [0, 1, 2]
def aX7_write_113 (mc ms : Nat) (X : Nat → zV) (Q : zQt) : zT :=
  zla 0 <| zc (.int 32) <| zcv mc ms 7 1 wX7_put <| kX7_write_119 mc ms X Q
def aX7_write_163 (mc ms : Nat) (X : Nat → zV) (Q : zQt) : zT :=
  zcv mc ms 7 1 wX7_put <| kX7_write_166 mc ms X Q
def aX7_write_166 (mc ms : Nat) (X : Nat → zV) (Q : zQt) : zT :=
  zla 0 <| zc (.int 32) <| zcv mc ms 7 1 wX7_put <| kX7_write_172 mc ms X Q
def lvX7_write : Nat → List Nat := fun L => match L with
  | 0 => [0, 1]
  | 8 => [0, 1, 2]
  | 33 => [0, 1, 2]
  | 57 => [0, 1]
  | 68 => [0, 1, 2]
  | 94 => [0, 1, 2]
  | 113 => [0, 1]
  | 163 => [0, 1]
  | 166 => [0, 1]
  | _ => []
def wX7_write : zSp := fun mc ms av M Q => ((zlay av).length ≤ 3 ∧ zpick (zlay av) [0, 1] = some av) ∧ ∀ X : Nat → zV, zin 3 [0, 1] (aX7_write_0 mc ms X Q) X 0 → zin 3 [0, 1, 2] (aX7_write_8 mc ms X Q) X 8 → zin 3 [0, 1, 2] (aX7_write_33 mc ms X Q) X 33 → zin 3 [0, 1] (aX7_write_57 mc ms X Q) X 57 → zin 3 [0, 1, 2] (aX7_write_68 mc ms X Q) X 68 → zin 3 [0, 1, 2] (aX7_write_94 mc ms X Q) X 94 → zin 3 [0, 1] (aX7_write_113 mc ms X Q) X 113 → zin 3 [0, 1] (aX7_write_163 mc ms X Q) X 163 → zin 3 [0, 1] (aX7_write_166 mc ms X Q) X 166 → X 0 0 0 av [] M
set_option maxRecDepth 100000 in
set_option maxHeartbeats 4000000 in
theorem sX7_write (l : Launch) (G : zG) (hE : zXt G) : zSnd l G yX7_write cX7_write 3 none 5 110 wX7_write := by
  refine zmk [0, 1] (by decide) (fun mc ms av M Q h => h.1) ?_
  intro p e R s m args below meth c mc ms av M Q hC hRf hRl hr hnm h lv hlv
  obtain ⟨X, hXe⟩ : ∃ X : Nat → zV, X = fun L u v vs st M => ∀ lv, zpick lv (lvX7_write L) = some vs → zAt p l e R s m args below meth c (MQ below (zQ G Q) args s mc ms (zA G)) G 3 L u v lv st M := ⟨_, rfl⟩
  have hJ : ∀ L, zOk p l e R s m args below meth c (MQ below (zQ G Q) args s mc ms (zA G)) G 3 L (zj X L (lvX7_write L)) := fun L => S_jump (fun u v lv vs st M hp hx => by rw [hXe] at hx; exact hx lv hp)
  have hB0 : zin 3 [0, 1] (aX7_write_0 mc ms X Q) X 0 := by
    intro u v vs st M hb
    rw [hXe]
    refine fun lv hp => S_block (L := 0) (live := [0, 1]) ?_ u v lv vs st M hp hb
    unfold aX7_write_0
    refine S_aload_n (pc := 0) hC dX7_write_0 rfl ?_
    refine S_iconst (pc := 1) hC dX7_write_1 (by decide) ?_
    refine S_puti (pc := 2) hC cfX7 (by decide) rfl (Or.inl rfl) wd_161 dX7_write_2 ?_
    refine S_bipush (pc := 5) hC dX7_write_5 (by decide) ?_
    refine S_istore_n (pc := 7) hC dX7_write_7 rfl (by decide) ?_
    exact hJ 8
  have hB8 : zin 3 [0, 1, 2] (aX7_write_8 mc ms X Q) X 8 := by
    intro u v vs st M hb
    rw [hXe]
    refine fun lv hp => S_block (L := 8) (live := [0, 1, 2]) ?_ u v lv vs st M hp hb
    unfold aX7_write_8
    refine S_iload_n (pc := 8) hC dX7_write_8 rfl ?_
    refine S_if_lt (pc := 9) (tgt := 42) hC dX7_write_9 (by decide) ?_ ?_
    · refine S_aload_n (pc := 42) hC dX7_write_42 rfl ?_
      refine S_aload_n (pc := 43) hC dX7_write_43 rfl ?_
      refine S_geti (pc := 44) hC cfX0 (by decide) (Or.inl rfl) wd_231 dX7_write_44 ?_
      refine S_if_ne (pc := 47) (tgt := 55) hC dX7_write_47 (by decide) ?_ ?_
      · refine S_bipush (pc := 55) hC dX7_write_55 (by decide) ?_
        exact hJ 57
      · refine S_bipush (pc := 50) hC dX7_write_50 (by decide) ?_
        refine S_goto (pc := 52) (tgt := 57) hC dX7_write_52 (by decide) ?_
        exact hJ 57
    · refine S_aload_n (pc := 12) hC dX7_write_12 rfl ?_
      refine S_aload_n (pc := 13) hC dX7_write_13 rfl ?_
      refine S_iload_n (pc := 14) hC dX7_write_14 rfl ?_
      refine S_bipush (pc := 15) hC dX7_write_15 (by decide) ?_
      refine S_imul (pc := 17) hC dX7_write_17 ?_
      refine S_callV (pc := 18) hC (sX7_writeRank l G hE) rfl wd_503 wd_505 ws_8 wd_6 wd_506 (by decide +kernel) ⟨by rw [hRf]; decide, by rw [hRl]; decide⟩ dX7_write_18 ?_
      unfold kX7_write_21
      refine S_aload_n (pc := 21) hC dX7_write_21 rfl ?_
      refine S_iload_n (pc := 22) hC dX7_write_22 rfl ?_
      refine S_if_le (pc := 23) (tgt := 31) hC dX7_write_23 (by decide) ?_ ?_
      · refine S_bipush (pc := 31) hC dX7_write_31 (by decide) ?_
        exact hJ 33
      · refine S_bipush (pc := 26) hC dX7_write_26 (by decide) ?_
        refine S_goto (pc := 28) (tgt := 33) hC dX7_write_28 (by decide) ?_
        exact hJ 33
  have hB33 : zin 3 [0, 1, 2] (aX7_write_33 mc ms X Q) X 33 := by
    intro u v vs st M hb
    rw [hXe]
    refine fun lv hp => S_block (L := 33) (live := [0, 1, 2]) ?_ u v lv vs st M hp hb
    unfold aX7_write_33
    refine S_callV (pc := 33) hC (sX7_put l G) rfl wd_511 wd_513 ws_10 wd_6 wd_514 (by decide +kernel) ⟨by rw [hRf]; decide, by rw [hRl]; decide⟩ dX7_write_33 ?_
    unfold kX7_write_36
    refine S_iinc (pc := 36) hC dX7_write_36 (by decide) (by decide) ?_
    refine S_goto (pc := 39) (tgt := 8) hC dX7_write_39 (by decide) ?_
    exact hJ 8
  have hB57 : zin 3 [0, 1] (aX7_write_57 mc ms X Q) X 57 := by
    intro u v vs st M hb
    rw [hXe]
    refine fun lv hp => S_block (L := 57) (live := [0, 1]) ?_ u v lv vs st M hp hb
    unfold aX7_write_57
    refine S_callV (pc := 57) hC (sX7_put l G) rfl wd_511 wd_513 ws_10 wd_6 wd_514 (by decide +kernel) ⟨by rw [hRf]; decide, by rw [hRl]; decide⟩ dX7_write_57 ?_
    unfold kX7_write_60
    refine S_aload_n (pc := 60) hC dX7_write_60 rfl ?_
    refine S_bipush (pc := 61) hC dX7_write_61 (by decide) ?_
    refine S_callV (pc := 63) hC (sX7_put l G) rfl wd_511 wd_513 ws_10 wd_6 wd_514 (by decide +kernel) ⟨by rw [hRf]; decide, by rw [hRl]; decide⟩ dX7_write_63 ?_
    unfold kX7_write_66
    refine S_iconst (pc := 66) hC dX7_write_66 (by decide) ?_
    refine S_istore_n (pc := 67) hC dX7_write_67 rfl (by decide) ?_
    exact hJ 68
  have hB68 : zin 3 [0, 1, 2] (aX7_write_68 mc ms X Q) X 68 := by
    intro u v vs st M hb
    rw [hXe]
    refine fun lv hp => S_block (L := 68) (live := [0, 1, 2]) ?_ u v lv vs st M hp hb
    unfold aX7_write_68
    refine S_iload_n (pc := 68) hC dX7_write_68 rfl ?_
    refine S_iconst (pc := 69) hC dX7_write_69 (by decide) ?_
    refine S_icmp_ge (pc := 70) (tgt := 100) hC dX7_write_70 (by decide) ?_ ?_
    · refine S_aload_n (pc := 100) hC dX7_write_100 rfl ?_
      refine S_geti (pc := 101) hC cfX0 (by decide) (Or.inl rfl) wd_239 dX7_write_101 ?_
      refine S_if_ne (pc := 104) (tgt := 113) hC dX7_write_104 (by decide) ?_ ?_
      · exact hJ 113
      · refine S_aload_n (pc := 107) hC dX7_write_107 rfl ?_
        refine S_bipush (pc := 108) hC dX7_write_108 (by decide) ?_
        refine S_callV (pc := 110) hC (sX7_put l G) rfl wd_511 wd_513 ws_10 wd_6 wd_514 (by decide +kernel) ⟨by rw [hRf]; decide, by rw [hRl]; decide⟩ dX7_write_110 ?_
        unfold kX7_write_113
        exact hJ 113
    · refine S_aload_n (pc := 73) hC dX7_write_73 rfl ?_
      refine S_geti (pc := 74) hC cfX0 (by decide) (Or.inl rfl) wd_239 dX7_write_74 ?_
      refine S_iload_n (pc := 77) hC dX7_write_77 rfl ?_
      refine S_ishr (pc := 78) hC dX7_write_78 ?_
      refine S_iconst (pc := 79) hC dX7_write_79 (by decide) ?_
      refine S_iand (pc := 80) hC dX7_write_80 ?_
      refine S_if_eq (pc := 81) (tgt := 94) hC dX7_write_81 (by decide) ?_ ?_
      · exact hJ 94
      · refine S_aload_n (pc := 84) hC dX7_write_84 rfl ?_
        refine S_ldcS (pc := 85) hC hE.2.1 (w := 1) (tx := "KQkq") (by decide) (by decide) dX7_write_85 ?_
        refine S_iload_n (pc := 87) hC dX7_write_87 rfl ?_
        refine S_callX (pc := 88) hC hE.2.1 (sJ0_charAt_5068e l G hE) wd_516 wd_517 wd_518 wd_19 wd_519 (by decide +kernel) ⟨by rw [hRf]; decide, by rw [hRl]; decide⟩ dX7_write_88 ?_
        unfold kX7_write_91
        refine S_callV (pc := 91) hC (sX7_put l G) rfl wd_511 wd_513 ws_10 wd_6 wd_514 (by decide +kernel) ⟨by rw [hRf]; decide, by rw [hRl]; decide⟩ dX7_write_91 ?_
        unfold kX7_write_94
        exact hJ 94
  have hB94 : zin 3 [0, 1, 2] (aX7_write_94 mc ms X Q) X 94 := by
    intro u v vs st M hb
    rw [hXe]
    refine fun lv hp => S_block (L := 94) (live := [0, 1, 2]) ?_ u v lv vs st M hp hb
    unfold aX7_write_94
    refine S_iinc (pc := 94) hC dX7_write_94 (by decide) (by decide) ?_
    refine S_goto (pc := 97) (tgt := 68) hC dX7_write_97 (by decide) ?_
    exact hJ 68
  have hB113 : zin 3 [0, 1] (aX7_write_113 mc ms X Q) X 113 := by
    intro u v vs st M hb
    rw [hXe]
    refine fun lv hp => S_block (L := 113) (live := [0, 1]) ?_ u v lv vs st M hp hb
    unfold aX7_write_113
    refine S_aload_n (pc := 113) hC dX7_write_113 rfl ?_
    refine S_bipush (pc := 114) hC dX7_write_114 (by decide) ?_
    refine S_callV (pc := 116) hC (sX7_put l G) rfl wd_511 wd_513 ws_10 wd_6 wd_514 (by decide +kernel) ⟨by rw [hRf]; decide, by rw [hRl]; decide⟩ dX7_write_116 ?_
    unfold kX7_write_119
    refine S_aload_n (pc := 119) hC dX7_write_119 rfl ?_
    refine S_geti (pc := 120) hC cfX0 (by decide) (Or.inl rfl) wd_246 dX7_write_120 ?_
    refine S_iconst (pc := 123) hC dX7_write_123 (by decide) ?_
    refine S_icmp_ne (pc := 124) (tgt := 136) hC dX7_write_124 (by decide) ?_ ?_
    · refine S_aload_n (pc := 136) hC dX7_write_136 rfl ?_
      refine S_bipush (pc := 137) hC dX7_write_137 (by decide) ?_
      refine S_aload_n (pc := 139) hC dX7_write_139 rfl ?_
      refine S_geti (pc := 140) hC cfX0 (by decide) (Or.inl rfl) wd_246 dX7_write_140 ?_
      refine S_iadd (pc := 143) hC dX7_write_143 ?_
      refine S_i2c (pc := 144) hC dX7_write_144 ?_
      refine S_callV (pc := 145) hC (sX7_put l G) rfl wd_511 wd_513 ws_10 wd_6 wd_514 (by decide +kernel) ⟨by rw [hRf]; decide, by rw [hRl]; decide⟩ dX7_write_145 ?_
      unfold kX7_write_148
      refine S_aload_n (pc := 148) hC dX7_write_148 rfl ?_
      refine S_aload_n (pc := 149) hC dX7_write_149 rfl ?_
      refine S_geti (pc := 150) hC cfX0 (by decide) (Or.inl rfl) wd_231 dX7_write_150 ?_
      refine S_if_ne (pc := 153) (tgt := 161) hC dX7_write_153 (by decide) ?_ ?_
      · refine S_bipush (pc := 161) hC dX7_write_161 (by decide) ?_
        exact hJ 163
      · refine S_bipush (pc := 156) hC dX7_write_156 (by decide) ?_
        refine S_goto (pc := 158) (tgt := 163) hC dX7_write_158 (by decide) ?_
        exact hJ 163
    · refine S_aload_n (pc := 127) hC dX7_write_127 rfl ?_
      refine S_bipush (pc := 128) hC dX7_write_128 (by decide) ?_
      refine S_callV (pc := 130) hC (sX7_put l G) rfl wd_511 wd_513 ws_10 wd_6 wd_514 (by decide +kernel) ⟨by rw [hRf]; decide, by rw [hRl]; decide⟩ dX7_write_130 ?_
      unfold kX7_write_133
      refine S_goto (pc := 133) (tgt := 166) hC dX7_write_133 (by decide) ?_
      exact hJ 166
  have hB163 : zin 3 [0, 1] (aX7_write_163 mc ms X Q) X 163 := by
    intro u v vs st M hb
    rw [hXe]
    refine fun lv hp => S_block (L := 163) (live := [0, 1]) ?_ u v lv vs st M hp hb
    unfold aX7_write_163
    refine S_callV (pc := 163) hC (sX7_put l G) rfl wd_511 wd_513 ws_10 wd_6 wd_514 (by decide +kernel) ⟨by rw [hRf]; decide, by rw [hRl]; decide⟩ dX7_write_163 ?_
    unfold kX7_write_166
    exact hJ 166
  have hB166 : zin 3 [0, 1] (aX7_write_166 mc ms X Q) X 166 := by
    intro u v vs st M hb
    rw [hXe]
    refine fun lv hp => S_block (L := 166) (live := [0, 1]) ?_ u v lv vs st M hp hb
    unfold aX7_write_166
    refine S_aload_n (pc := 166) hC dX7_write_166 rfl ?_
    refine S_bipush (pc := 167) hC dX7_write_167 (by decide) ?_
    refine S_callV (pc := 169) hC (sX7_put l G) rfl wd_511 wd_513 ws_10 wd_6 wd_514 (by decide +kernel) ⟨by rw [hRf]; decide, by rw [hRl]; decide⟩ dX7_write_169 ?_
    unfold kX7_write_172
    refine S_aload_n (pc := 172) hC dX7_write_172 rfl ?_
    refine S_aload_n (pc := 173) hC dX7_write_173 rfl ?_
    refine S_geti (pc := 174) hC cfX0 (by decide) (Or.inl rfl) wd_253 dX7_write_174 ?_
    refine S_callV (pc := 177) hC (sX7_putNumber l G) rfl wd_557 wd_559 ws_11 wd_6 wd_560 (by decide +kernel) ⟨by rw [hRf]; decide, by rw [hRl]; decide⟩ dX7_write_177 ?_
    unfold kX7_write_180
    refine S_aload_n (pc := 180) hC dX7_write_180 rfl ?_
    refine S_bipush (pc := 181) hC dX7_write_181 (by decide) ?_
    refine S_callV (pc := 183) hC (sX7_put l G) rfl wd_511 wd_513 ws_10 wd_6 wd_514 (by decide +kernel) ⟨by rw [hRf]; decide, by rw [hRl]; decide⟩ dX7_write_183 ?_
    unfold kX7_write_186
    refine S_aload_n (pc := 186) hC dX7_write_186 rfl ?_
    refine S_aload_n (pc := 187) hC dX7_write_187 rfl ?_
    refine S_geti (pc := 188) hC cfX0 (by decide) (Or.inl rfl) wd_257 dX7_write_188 ?_
    refine S_callV (pc := 191) hC (sX7_putNumber l G) rfl wd_557 wd_559 ws_11 wd_6 wd_560 (by decide +kernel) ⟨by rw [hRf]; decide, by rw [hRl]; decide⟩ dX7_write_191 ?_
    unfold kX7_write_194
    exact S_vreturn (pc := 194) hC hr dX7_write_194
  have := h.2 X hB0 hB8 hB33 hB57 hB68 hB94 hB113 hB163 hB166
  rw [hXe] at this
  exact this lv hlv
theorem vX7_write_0 {mc ms : Nat} {X : Nat → zV} {Q : zQt} {M : zM} {g : Nat}  (hW : zWd M g)  (h : ∀ M2 : zM, M2 = (zsI M 29 1 0) → X 8 0 0 [.ref 29, .ref (g + 1), .int 7] [] M2) : aX7_write_0 mc ms X Q 0 0 [some (.ref 29), some (.ref (g + 1)), none] [] M := ⟨(fxs_29 hW.1), (have h2 := h _ rfl; h2)⟩
theorem vX7_write_8 {mc ms : Nat} {X : Nat → zV} {Q : zQt} {M : zM} {g : Nat} {x2 : Int32} (hW : zWd M g)  (h : (x2 < 0 → ((M.1 ((g + 1)) 4) = 0 → X 57 0 0 [.ref 29, .ref (g + 1)] [.int 119, .ref 29] M) ∧ (¬ (M.1 ((g + 1)) 4) = 0 → X 57 0 0 [.ref 29, .ref (g + 1)] [.int 98, .ref 29] M)) ∧ (¬ x2 < 0 → wX7_writeRank 0 0 [.ref 29, .ref (g + 1), .int (x2 * (8 : Int32))] M (fun r M1 => kX7_write_21 mc ms X Q 0 0 [some (.ref 29), some (.ref (g + 1)), some (.int x2)] (r.toList ++ []) M1))) : aX7_write_8 mc ms X Q 0 0 [some (.ref 29), some (.ref (g + 1)), some (.int x2)] [] M := ⟨fun c9 => ⟨(fgs_1 hW), ⟨fun c47 => ((h.1 c9).1 c47), fun c47 => ((h.1 c9).2 c47)⟩⟩, fun c9 => ⟨Nat.le_of_ble_eq_true rfl, rfl, (fxs_29 hW.1), 0, 0, Nat.zero_le _, Nat.zero_le _, (h.2 c9)⟩⟩
theorem vX7_write_33 {mc ms : Nat} {X : Nat → zV} {Q : zQt} {M : zM} {g : Nat} {x2 : Int32} {s0 : Int32} (hW : zWd M g)  (h : wX7_put 0 0 [.ref 29, .int s0] M (fun r M1 => kX7_write_36 mc ms X Q 0 0 [some (.ref 29), some (.ref (g + 1)), some (.int x2)] (r.toList ++ []) M1)) : aX7_write_33 mc ms X Q 0 0 [some (.ref 29), some (.ref (g + 1)), some (.int x2)] [.int s0, .ref 29] M := ⟨Nat.le_of_ble_eq_true rfl, rfl, (fxs_29 hW.1), 0, 0, Nat.zero_le _, Nat.zero_le _, h⟩
theorem vX7_write_57 {mc ms : Nat} {X : Nat → zV} {Q : zQt} {M : zM} {g : Nat} {s0 : Int32} (hW : zWd M g)  (h : wX7_put 0 0 [.ref 29, .int s0] M (fun r M1 => kX7_write_60 mc ms X Q 0 0 [some (.ref 29), some (.ref (g + 1)), none] (r.toList ++ []) M1)) : aX7_write_57 mc ms X Q 0 0 [some (.ref 29), some (.ref (g + 1)), none] [.int s0, .ref 29] M := ⟨Nat.le_of_ble_eq_true rfl, rfl, (fxs_29 hW.1), 0, 0, Nat.zero_le _, Nat.zero_le _, h⟩
theorem vX7_write_68 {mc ms : Nat} {X : Nat → zV} {Q : zQt} {M : zM} {g : Nat} {x2 : Int32} (hW : zWd M g)  (h : ((4 : Int32) ≤ x2 → ((M.1 ((g + 1)) 5) = 0 → wX7_put 0 0 [.ref 29, .int 45] M (fun r M1 => kX7_write_113 mc ms X Q 0 0 [some (.ref 29), some (.ref (g + 1)), some (.int x2)] (r.toList ++ []) M1)) ∧ (¬ (M.1 ((g + 1)) 5) = 0 → X 113 0 0 [.ref 29, .ref (g + 1)] [] M)) ∧ (¬ (4 : Int32) ≤ x2 → ((((M.1 ((g + 1)) 5) >>> (x2 &&& 31)) &&& (1 : Int32)) = 0 → X 94 0 0 [.ref 29, .ref (g + 1), .int x2] [] M) ∧ (¬ (((M.1 ((g + 1)) 5) >>> (x2 &&& 31)) &&& (1 : Int32)) = 0 → wJ0_charAt_5068e 0 0 [.ref 6, .int x2] M (fun r M1 => kX7_write_91 mc ms X Q 0 0 [some (.ref 29), some (.ref (g + 1)), some (.int x2)] (r.toList ++ [.ref 29]) M1)))) : aX7_write_68 mc ms X Q 0 0 [some (.ref 29), some (.ref (g + 1)), some (.int x2)] [] M := ⟨fun c70 => ⟨(fgs_1 hW), ⟨fun c104 => ⟨Nat.le_of_ble_eq_true rfl, rfl, (fxs_29 hW.1), 0, 0, Nat.zero_le _, Nat.zero_le _, ((h.1 c70).1 c104)⟩, fun c104 => ((h.1 c70).2 c104)⟩⟩, fun c70 => ⟨(fgs_1 hW), ⟨fun c81 => ((h.2 c70).1 c81), fun c81 => ⟨Nat.le_of_ble_eq_true rfl, rfl, Or.inr rfl, 0, 0, Nat.zero_le _, Nat.zero_le _, ((h.2 c70).2 c81)⟩⟩⟩⟩
theorem vX7_write_94 {mc ms : Nat} {X : Nat → zV} {Q : zQt} {M : zM} {g : Nat} {x2 : Int32} (hW : zWd M g)  (h : X 68 0 0 [.ref 29, .ref (g + 1), .int (x2 + 1)] [] M) : aX7_write_94 mc ms X Q 0 0 [some (.ref 29), some (.ref (g + 1)), some (.int x2)] [] M := h
theorem vX7_write_113 {mc ms : Nat} {X : Nat → zV} {Q : zQt} {M : zM} {g : Nat}  (hW : zWd M g)  (h : wX7_put 0 0 [.ref 29, .int 32] M (fun r M1 => kX7_write_119 mc ms X Q 0 0 [some (.ref 29), some (.ref (g + 1)), none] (r.toList ++ []) M1)) : aX7_write_113 mc ms X Q 0 0 [some (.ref 29), some (.ref (g + 1)), none] [] M := ⟨Nat.le_of_ble_eq_true rfl, rfl, (fxs_29 hW.1), 0, 0, Nat.zero_le _, Nat.zero_le _, h⟩
theorem vX7_write_163 {mc ms : Nat} {X : Nat → zV} {Q : zQt} {M : zM} {g : Nat} {s0 : Int32} (hW : zWd M g)  (h : wX7_put 0 0 [.ref 29, .int s0] M (fun r M1 => kX7_write_166 mc ms X Q 0 0 [some (.ref 29), some (.ref (g + 1)), none] (r.toList ++ []) M1)) : aX7_write_163 mc ms X Q 0 0 [some (.ref 29), some (.ref (g + 1)), none] [.int s0, .ref 29] M := ⟨Nat.le_of_ble_eq_true rfl, rfl, (fxs_29 hW.1), 0, 0, Nat.zero_le _, Nat.zero_le _, h⟩
theorem vX7_write_166 {mc ms : Nat} {X : Nat → zV} {Q : zQt} {M : zM} {g : Nat}  (hW : zWd M g)  (h : wX7_put 0 0 [.ref 29, .int 32] M (fun r M1 => kX7_write_172 mc ms X Q 0 0 [some (.ref 29), some (.ref (g + 1)), none] (r.toList ++ []) M1)) : aX7_write_166 mc ms X Q 0 0 [some (.ref 29), some (.ref (g + 1)), none] [] M := ⟨Nat.le_of_ble_eq_true rfl, rfl, (fxs_29 hW.1), 0, 0, Nat.zero_le _, Nat.zero_le _, h⟩
theorem vkX7_write_21 {mc ms : Nat} {X : Nat → zV} {Q : zQt} {M : zM} {g : Nat} {x2 : Int32} (hW : zWd M g)  (h : (x2 ≤ 0 → X 33 0 0 [.ref 29, .ref (g + 1), .int x2] [.int 32, .ref 29] M) ∧ (¬ x2 ≤ 0 → X 33 0 0 [.ref 29, .ref (g + 1), .int x2] [.int 47, .ref 29] M)) : kX7_write_21 mc ms X Q 0 0 [some (.ref 29), some (.ref (g + 1)), some (.int x2)] [] M := ⟨fun c23 => (h.1 c23), fun c23 => (h.2 c23)⟩
theorem vkX7_write_36 {mc ms : Nat} {X : Nat → zV} {Q : zQt} {M : zM} {g : Nat} {x2 : Int32} (hW : zWd M g)  (h : X 8 0 0 [.ref 29, .ref (g + 1), .int (x2 + (-1))] [] M) : kX7_write_36 mc ms X Q 0 0 [some (.ref 29), some (.ref (g + 1)), some (.int x2)] [] M := h
theorem vkX7_write_60 {mc ms : Nat} {X : Nat → zV} {Q : zQt} {M : zM} {g : Nat}  (hW : zWd M g)  (h : wX7_put 0 0 [.ref 29, .int 32] M (fun r M1 => kX7_write_66 mc ms X Q 0 0 [some (.ref 29), some (.ref (g + 1)), none] (r.toList ++ []) M1)) : kX7_write_60 mc ms X Q 0 0 [some (.ref 29), some (.ref (g + 1)), none] [] M := ⟨Nat.le_of_ble_eq_true rfl, rfl, (fxs_29 hW.1), 0, 0, Nat.zero_le _, Nat.zero_le _, h⟩
theorem vkX7_write_66 {mc ms : Nat} {X : Nat → zV} {Q : zQt} {M : zM} {g : Nat}  (hW : zWd M g)  (h : X 68 0 0 [.ref 29, .ref (g + 1), .int 0] [] M) : kX7_write_66 mc ms X Q 0 0 [some (.ref 29), some (.ref (g + 1)), none] [] M := h
theorem vkX7_write_91 {mc ms : Nat} {X : Nat → zV} {Q : zQt} {M : zM} {g : Nat} {x2 : Int32} {s0 : Int32} (hW : zWd M g)  (h : wX7_put 0 0 [.ref 29, .int s0] M (fun r M1 => kX7_write_94 mc ms X Q 0 0 [some (.ref 29), some (.ref (g + 1)), some (.int x2)] (r.toList ++ []) M1)) : kX7_write_91 mc ms X Q 0 0 [some (.ref 29), some (.ref (g + 1)), some (.int x2)] [.int s0, .ref 29] M := ⟨Nat.le_of_ble_eq_true rfl, rfl, (fxs_29 hW.1), 0, 0, Nat.zero_le _, Nat.zero_le _, h⟩
theorem vkX7_write_94 {mc ms : Nat} {X : Nat → zV} {Q : zQt} {M : zM} {g : Nat} {x2 : Int32} (hW : zWd M g)  (h : X 94 0 0 [.ref 29, .ref (g + 1), .int x2] [] M) : kX7_write_94 mc ms X Q 0 0 [some (.ref 29), some (.ref (g + 1)), some (.int x2)] [] M := h
theorem vkX7_write_113 {mc ms : Nat} {X : Nat → zV} {Q : zQt} {M : zM} {g : Nat} {x2 : Int32} (hW : zWd M g)  (h : X 113 0 0 [.ref 29, .ref (g + 1)] [] M) : kX7_write_113 mc ms X Q 0 0 [some (.ref 29), some (.ref (g + 1)), some (.int x2)] [] M := h
theorem vkX7_write_119 {mc ms : Nat} {X : Nat → zV} {Q : zQt} {M : zM} {g : Nat}  (hW : zWd M g)  (h : ((M.1 ((g + 1)) 6) = ((-1) : Int32) → wX7_put 0 0 [.ref 29, .int 45] M (fun r M1 => kX7_write_133 mc ms X Q 0 0 [some (.ref 29), some (.ref (g + 1)), none] (r.toList ++ []) M1)) ∧ (¬ (M.1 ((g + 1)) 6) = ((-1) : Int32) → wX7_put 0 0 [.ref 29, .int ((((97 : Int32) + (M.1 ((g + 1)) 6)).toUInt32 % 65536).toInt32)] M (fun r M1 => kX7_write_148 mc ms X Q 0 0 [some (.ref 29), some (.ref (g + 1)), none] (r.toList ++ []) M1))) : kX7_write_119 mc ms X Q 0 0 [some (.ref 29), some (.ref (g + 1)), none] [] M := ⟨(fgs_1 hW), ⟨fun c124 => ⟨Nat.le_of_ble_eq_true rfl, rfl, (fxs_29 hW.1), 0, 0, Nat.zero_le _, Nat.zero_le _, (h.1 c124)⟩, fun c124 => ⟨(fgs_1 hW), ⟨Nat.le_of_ble_eq_true rfl, rfl, (fxs_29 hW.1), 0, 0, Nat.zero_le _, Nat.zero_le _, (h.2 c124)⟩⟩⟩⟩
theorem vkX7_write_133 {mc ms : Nat} {X : Nat → zV} {Q : zQt} {M : zM} {g : Nat}  (hW : zWd M g)  (h : X 166 0 0 [.ref 29, .ref (g + 1)] [] M) : kX7_write_133 mc ms X Q 0 0 [some (.ref 29), some (.ref (g + 1)), none] [] M := h
theorem vkX7_write_148 {mc ms : Nat} {X : Nat → zV} {Q : zQt} {M : zM} {g : Nat}  (hW : zWd M g)  (h : ((M.1 ((g + 1)) 4) = 0 → X 163 0 0 [.ref 29, .ref (g + 1)] [.int 54, .ref 29] M) ∧ (¬ (M.1 ((g + 1)) 4) = 0 → X 163 0 0 [.ref 29, .ref (g + 1)] [.int 51, .ref 29] M)) : kX7_write_148 mc ms X Q 0 0 [some (.ref 29), some (.ref (g + 1)), none] [] M := ⟨(fgs_1 hW), ⟨fun c153 => (h.1 c153), fun c153 => (h.2 c153)⟩⟩
theorem vkX7_write_166 {mc ms : Nat} {X : Nat → zV} {Q : zQt} {M : zM} {g : Nat}  (hW : zWd M g)  (h : X 166 0 0 [.ref 29, .ref (g + 1)] [] M) : kX7_write_166 mc ms X Q 0 0 [some (.ref 29), some (.ref (g + 1)), none] [] M := h
theorem vkX7_write_172 {mc ms : Nat} {X : Nat → zV} {Q : zQt} {M : zM} {g : Nat}  (hW : zWd M g)  (h : wX7_putNumber 0 0 [.ref 29, .int (M.1 ((g + 1)) 7)] M (fun r M1 => kX7_write_180 mc ms X Q 0 0 [some (.ref 29), some (.ref (g + 1)), none] (r.toList ++ []) M1)) : kX7_write_172 mc ms X Q 0 0 [some (.ref 29), some (.ref (g + 1)), none] [] M := ⟨(fgs_1 hW), ⟨Nat.le_of_ble_eq_true rfl, rfl, (fxs_29 hW.1), 0, 0, Nat.zero_le _, Nat.zero_le _, h⟩⟩
theorem vkX7_write_180 {mc ms : Nat} {X : Nat → zV} {Q : zQt} {M : zM} {g : Nat}  (hW : zWd M g)  (h : wX7_put 0 0 [.ref 29, .int 32] M (fun r M1 => kX7_write_186 mc ms X Q 0 0 [some (.ref 29), some (.ref (g + 1)), none] (r.toList ++ []) M1)) : kX7_write_180 mc ms X Q 0 0 [some (.ref 29), some (.ref (g + 1)), none] [] M := ⟨Nat.le_of_ble_eq_true rfl, rfl, (fxs_29 hW.1), 0, 0, Nat.zero_le _, Nat.zero_le _, h⟩
theorem vkX7_write_186 {mc ms : Nat} {X : Nat → zV} {Q : zQt} {M : zM} {g : Nat}  (hW : zWd M g)  (h : wX7_putNumber 0 0 [.ref 29, .int (M.1 ((g + 1)) 8)] M (fun r M1 => kX7_write_194 mc ms X Q 0 0 [some (.ref 29), some (.ref (g + 1)), none] (r.toList ++ []) M1)) : kX7_write_186 mc ms X Q 0 0 [some (.ref 29), some (.ref (g + 1)), none] [] M := ⟨(fgs_1 hW), ⟨Nat.le_of_ble_eq_true rfl, rfl, (fxs_29 hW.1), 0, 0, Nat.zero_le _, Nat.zero_le _, h⟩⟩
theorem vkX7_write_194 {mc ms : Nat} {X : Nat → zV} {Q : zQt} {M : zM} {g : Nat}  (hW : zWd M g)  (h : Q none M) : kX7_write_194 mc ms X Q 0 0 [some (.ref 29), some (.ref (g + 1)), none] [] M := h
theorem dX8_lines_0 : decode cX8_lines 0 = .ok (.aload_n 1, 1) := by decide +kernel
theorem dX8_lines_1 : decode cX8_lines 1 = .ok (.aload_n 0, 1) := by decide +kernel
theorem dX8_lines_2 : decode cX8_lines 2 = .ok (.getfield 9, 3) := by decide +kernel
theorem dX8_lines_5 : decode cX8_lines 5 = .ok (.iload_n 2, 1) := by decide +kernel
theorem dX8_lines_6 : decode cX8_lines 6 = .ok (.iconst 0, 1) := by decide +kernel
theorem dX8_lines_7 : decode cX8_lines 7 = .ok (.invokestatic 15, 3) := by decide +kernel
theorem dX8_lines_10 : decode cX8_lines 10 = .ok (.lreturn, 1) := by decide +kernel
def kX8_lines_10 (mc ms : Nat) (X : Nat → zV) (Q : zQt) : zT :=
  zrl Q
def aX8_lines_0 (mc ms : Nat) (X : Nat → zV) (Q : zQt) : zT :=
  zla 1 <| zla 0 <| zgR 8 0 <| zli 2 <| zc (.int 0) <| zcs mc ms 4 (wX8_linesBelow 6) <| kX8_lines_10 mc ms X Q
def lvX8_lines : Nat → List Nat := fun L => match L with
  | 0 => [0, 1, 2]
  | _ => []
def wX8_lines : zSp := fun mc ms av M Q => ((zlay av).length ≤ 3 ∧ zpick (zlay av) [0, 1, 2] = some av) ∧ ∀ X : Nat → zV, zin 3 [0, 1, 2] (aX8_lines_0 mc ms X Q) X 0 → X 0 0 0 av [] M
set_option maxRecDepth 100000 in
set_option maxHeartbeats 4000000 in
theorem sX8_lines (l : Launch) (G : zG) (hE : zXt G) : zSnd l G yX8_lines cX8_lines 3 (some .long) 12 327 wX8_lines := by
  refine zmk [0, 1, 2] (by decide) (fun mc ms av M Q h => h.1) ?_
  intro p e R s m args below meth c mc ms av M Q hC hRf hRl hr hnm h lv hlv
  obtain ⟨X, hXe⟩ : ∃ X : Nat → zV, X = fun L u v vs st M => ∀ lv, zpick lv (lvX8_lines L) = some vs → zAt p l e R s m args below meth c (MQ below (zQ G Q) args s mc ms (zA G)) G 3 L u v lv st M := ⟨_, rfl⟩
  have hJ : ∀ L, zOk p l e R s m args below meth c (MQ below (zQ G Q) args s mc ms (zA G)) G 3 L (zj X L (lvX8_lines L)) := fun L => S_jump (fun u v lv vs st M hp hx => by rw [hXe] at hx; exact hx lv hp)
  have hB0 : zin 3 [0, 1, 2] (aX8_lines_0 mc ms X Q) X 0 := by
    intro u v vs st M hb
    rw [hXe]
    refine fun lv hp => S_block (L := 0) (live := [0, 1, 2]) ?_ u v lv vs st M hp hb
    unfold aX8_lines_0
    refine S_aload_n (pc := 0) hC dX8_lines_0 rfl ?_
    refine S_aload_n (pc := 1) hC dX8_lines_1 rfl ?_
    refine S_getR (pc := 2) hC cfX8 (by decide) (Or.inr ⟨_, rfl⟩) wd_173 dX8_lines_2 ?_
    refine S_iload_n (pc := 5) hC dX8_lines_5 rfl ?_
    refine S_iconst (pc := 6) hC dX8_lines_6 (by decide) ?_
    refine S_callS (pc := 7) hC (sX8_linesBelow l G hE 6) wd_1016 wd_1017 wd_7 wd_1018 (by decide +kernel) ⟨by rw [hRf]; decide, by rw [hRl]; decide⟩ dX8_lines_7 ?_
    unfold kX8_lines_10
    exact S_lreturn (pc := 10) hC hr dX8_lines_10
  have := h.2 X hB0
  rw [hXe] at this
  exact this lv hlv
theorem vX8_lines_0 {mc ms : Nat} {X : Nat → zV} {Q : zQt} {M : zM} {g : Nat} {x2 : Int32} (hW : zWd M g)  (h : wX8_linesBelow 6 0 0 [.ref g, .ref 32, .int x2, .int 0] M (fun r M1 => kX8_lines_10 mc ms X Q 0 0 [some (.ref 31), some (.ref g), some (.int x2)] (r.toList ++ []) M1)) : aX8_lines_0 mc ms X Q 0 0 [some (.ref 31), some (.ref g), some (.int x2)] [] M := ⟨(fxs_31 hW.1), 32, (fxr_31_0 hW.1), ⟨Nat.le_of_ble_eq_true rfl, rfl, 0, 0, Nat.zero_le _, Nat.zero_le _, h⟩⟩
theorem vkX8_lines_10 {mc ms : Nat} {X : Nat → zV} {Q : zQt} {M : zM} {g : Nat} {x2 : Int32} {s0 : Int64} (hW : zWd M g)  (h : Q (some (.long s0)) M) : kX8_lines_10 mc ms X Q 0 0 [some (.ref 31), some (.ref g), some (.int x2)] [.long s0] M := h
theorem dX8_look_0 : decode cX8_look 0 = .ok (.aload_n 0, 1) := by decide +kernel
theorem dX8_look_1 : decode cX8_look 1 = .ok (.iconst (-1), 1) := by decide +kernel
theorem dX8_look_2 : decode cX8_look 2 = .ok (.putfield 44, 3) := by decide +kernel
theorem dX8_look_5 : decode cX8_look 5 = .ok (.iload_n 2, 1) := by decide +kernel
theorem dX8_look_6 : decode cX8_look 6 = .ok (.ifCond .eq 10, 3) := by decide +kernel
theorem dX8_look_9 : decode cX8_look 9 = .ok (.aload_n 1, 1) := by decide +kernel
theorem dX8_look_10 : decode cX8_look 10 = .ok (.getfield 48, 3) := by decide +kernel
theorem dX8_look_13 : decode cX8_look 13 = .ok (.ifCond .ne 24, 3) := by decide +kernel
theorem dX8_look_16 : decode cX8_look 16 = .ok (.aload_n 0, 1) := by decide +kernel
theorem dX8_look_17 : decode cX8_look 17 = .ok (.aload_n 1, 1) := by decide +kernel
theorem dX8_look_18 : decode cX8_look 18 = .ok (.aload_n 0, 1) := by decide +kernel
theorem dX8_look_19 : decode cX8_look 19 = .ok (.getfield 9, 3) := by decide +kernel
theorem dX8_look_22 : decode cX8_look 22 = .ok (.iconst 0, 1) := by decide +kernel
theorem dX8_look_23 : decode cX8_look 23 = .ok (.iconst 0, 1) := by decide +kernel
theorem dX8_look_24 : decode cX8_look 24 = .ok (.sipush (-2000), 3) := by decide +kernel
theorem dX8_look_27 : decode cX8_look 27 = .ok (.sipush 2000, 3) := by decide +kernel
theorem dX8_look_30 : decode cX8_look 30 = .ok (.invokestatic 51, 3) := by decide +kernel
theorem dX8_look_33 : decode cX8_look 33 = .ok (.putfield 55, 3) := by decide +kernel
theorem dX8_look_36 : decode cX8_look 36 = .ok (.return_, 1) := by decide +kernel
theorem dX8_look_37 : decode cX8_look 37 = .ok (.aload_n 0, 1) := by decide +kernel
theorem dX8_look_38 : decode cX8_look 38 = .ok (.sipush (-2000), 3) := by decide +kernel
theorem dX8_look_41 : decode cX8_look 41 = .ok (.putfield 55, 3) := by decide +kernel
theorem dX8_look_44 : decode cX8_look 44 = .ok (.iconst 0, 1) := by decide +kernel
theorem dX8_look_45 : decode cX8_look 45 = .ok (.istore_n 3, 1) := by decide +kernel
theorem dX8_look_46 : decode cX8_look 46 = .ok (.iload_n 3, 1) := by decide +kernel
theorem dX8_look_47 : decode cX8_look 47 = .ok (.aload_n 1, 1) := by decide +kernel
theorem dX8_look_48 : decode cX8_look 48 = .ok (.getfield 48, 3) := by decide +kernel
theorem dX8_look_51 : decode cX8_look 51 = .ok (.if_icmp .ge 78, 3) := by decide +kernel
theorem dX8_look_54 : decode cX8_look 54 = .ok (.aload_n 1, 1) := by decide +kernel
theorem dX8_look_55 : decode cX8_look 55 = .ok (.getfield 31, 3) := by decide +kernel
theorem dX8_look_58 : decode cX8_look 58 = .ok (.aload_n 1, 1) := by decide +kernel
theorem dX8_look_59 : decode cX8_look 59 = .ok (.getfield 58, 3) := by decide +kernel
theorem dX8_look_62 : decode cX8_look 62 = .ok (.iload_n 3, 1) := by decide +kernel
theorem dX8_look_63 : decode cX8_look 63 = .ok (.iaload, 1) := by decide +kernel
theorem dX8_look_64 : decode cX8_look 64 = .ok (.invokevirtual 35, 3) := by decide +kernel
theorem dX8_look_67 : decode cX8_look 67 = .ok (.aload_n 1, 1) := by decide +kernel
theorem dX8_look_68 : decode cX8_look 68 = .ok (.aload_n 0, 1) := by decide +kernel
theorem dX8_look_69 : decode cX8_look 69 = .ok (.getfield 9, 3) := by decide +kernel
theorem dX8_look_72 : decode cX8_look 72 = .ok (.iload_n 2, 1) := by decide +kernel
theorem dX8_look_73 : decode cX8_look 73 = .ok (.iconst 1, 1) := by decide +kernel
theorem dX8_look_74 : decode cX8_look 74 = .ok (.isub, 1) := by decide +kernel
theorem dX8_look_75 : decode cX8_look 75 = .ok (.iconst 1, 1) := by decide +kernel
theorem dX8_look_76 : decode cX8_look 76 = .ok (.sipush (-2000), 3) := by decide +kernel
theorem dX8_look_79 : decode cX8_look 79 = .ok (.aload_n 0, 1) := by decide +kernel
theorem dX8_look_80 : decode cX8_look 80 = .ok (.getfield 55, 3) := by decide +kernel
theorem dX8_look_83 : decode cX8_look 83 = .ok (.ineg, 1) := by decide +kernel
theorem dX8_look_84 : decode cX8_look 84 = .ok (.invokestatic 51, 3) := by decide +kernel
theorem dX8_look_87 : decode cX8_look 87 = .ok (.ineg, 1) := by decide +kernel
theorem dX8_look_88 : decode cX8_look 88 = .ok (.istore 4, 2) := by decide +kernel
theorem dX8_look_90 : decode cX8_look 90 = .ok (.aload_n 1, 1) := by decide +kernel
theorem dX8_look_91 : decode cX8_look 91 = .ok (.getfield 31, 3) := by decide +kernel
theorem dX8_look_94 : decode cX8_look 94 = .ok (.aload_n 1, 1) := by decide +kernel
theorem dX8_look_95 : decode cX8_look 95 = .ok (.getfield 58, 3) := by decide +kernel
theorem dX8_look_98 : decode cX8_look 98 = .ok (.iload_n 3, 1) := by decide +kernel
theorem dX8_look_99 : decode cX8_look 99 = .ok (.iaload, 1) := by decide +kernel
theorem dX8_look_100 : decode cX8_look 100 = .ok (.invokevirtual 41, 3) := by decide +kernel
theorem dX8_look_103 : decode cX8_look 103 = .ok (.iload 4, 2) := by decide +kernel
theorem dX8_look_105 : decode cX8_look 105 = .ok (.aload_n 0, 1) := by decide +kernel
theorem dX8_look_106 : decode cX8_look 106 = .ok (.getfield 55, 3) := by decide +kernel
theorem dX8_look_109 : decode cX8_look 109 = .ok (.if_icmp .le 14, 3) := by decide +kernel
theorem dX8_look_112 : decode cX8_look 112 = .ok (.aload_n 0, 1) := by decide +kernel
theorem dX8_look_113 : decode cX8_look 113 = .ok (.iload 4, 2) := by decide +kernel
theorem dX8_look_115 : decode cX8_look 115 = .ok (.putfield 55, 3) := by decide +kernel
theorem dX8_look_118 : decode cX8_look 118 = .ok (.aload_n 0, 1) := by decide +kernel
theorem dX8_look_119 : decode cX8_look 119 = .ok (.iload_n 3, 1) := by decide +kernel
theorem dX8_look_120 : decode cX8_look 120 = .ok (.putfield 44, 3) := by decide +kernel
theorem dX8_look_123 : decode cX8_look 123 = .ok (.iinc 3 1, 3) := by decide +kernel
theorem dX8_look_126 : decode cX8_look 126 = .ok (.goto (-80), 3) := by decide +kernel
theorem dX8_look_129 : decode cX8_look 129 = .ok (.return_, 1) := by decide +kernel
def kX8_look_33 (mc ms : Nat) (X : Nat → zV) (Q : zQt) : zT :=
  zpi 8 1 <| zrv Q
def kX8_look_103 (mc ms : Nat) (X : Nat → zV) (Q : zQt) : zT :=
  zli 4 <| zla 0 <| zgi 8 1 <| zic (fun x y => x ≤ y) (zj X 123 [0, 1, 2, 3]) <| zla 0 <| zli 4 <| zpi 8 1 <| zla 0 <| zli 3 <| zpi 8 2 <| zj X 123 [0, 1, 2, 3]
def kX8_look_87 (mc ms : Nat) (X : Nat → zV) (Q : zQt) : zT :=
  zi1 (fun x => -x) <| zsi 4 <| zla 1 <| zgR 4 0 <| zla 1 <| zgR 4 2 <| zli 3 <| zal 1 <| zcv mc ms 0 1 wX0_unmake <| kX8_look_103 mc ms X Q
def kX8_look_67 (mc ms : Nat) (X : Nat → zV) (Q : zQt) : zT :=
  zla 1 <| zla 0 <| zgR 8 0 <| zli 2 <| zc (.int 1) <| zii (fun x y => x - y) <| zc (.int 1) <| zc (.int (-2000)) <| zla 0 <| zgi 8 1 <| zi1 (fun x => -x) <| zcs mc ms 6 (wX8_valueBelow 6) <| kX8_look_87 mc ms X Q
def aX8_look_0 (mc ms : Nat) (X : Nat → zV) (Q : zQt) : zT :=
  zla 0 <| zc (.int (-1)) <| zpi 8 2 <| zli 2 <| zif (fun x => x = 0) (zj X 16 [0, 1]) <| zla 1 <| zgi 4 3 <| zif (fun x => x = 0) (zj X 16 [0, 1]) <| zla 0 <| zc (.int (-2000)) <| zpi 8 1 <| zc (.int 0) <| zsi 3 <| zj X 46 [0, 1, 2, 3]
def aX8_look_16 (mc ms : Nat) (X : Nat → zV) (Q : zQt) : zT :=
  zla 0 <| zla 1 <| zla 0 <| zgR 8 0 <| zc (.int 0) <| zc (.int 0) <| zc (.int (-2000)) <| zc (.int 2000) <| zcs mc ms 6 (wX8_valueBelow 6) <| kX8_look_33 mc ms X Q
def aX8_look_46 (mc ms : Nat) (X : Nat → zV) (Q : zQt) : zT :=
  zli 3 <| zla 1 <| zgi 4 3 <| zic (fun x y => y ≤ x) (zrv Q) <| zla 1 <| zgR 4 0 <| zla 1 <| zgR 4 2 <| zli 3 <| zal 1 <| zcv mc ms 0 1 wX0_make <| kX8_look_67 mc ms X Q
def aX8_look_123 (mc ms : Nat) (X : Nat → zV) (Q : zQt) : zT :=
  zinc 3 1 <| zj X 46 [0, 1, 2, 3]
def lvX8_look : Nat → List Nat := fun L => match L with
  | 0 => [0, 1, 2]
  | 16 => [0, 1]
  | 46 => [0, 1, 2, 3]
  | 123 => [0, 1, 2, 3]
  | _ => []
def wX8_look : zSp := fun mc ms av M Q => ((zlay av).length ≤ 5 ∧ zpick (zlay av) [0, 1, 2] = some av) ∧ ∀ X : Nat → zV, zin 5 [0, 1, 2] (aX8_look_0 mc ms X Q) X 0 → zin 5 [0, 1] (aX8_look_16 mc ms X Q) X 16 → zin 5 [0, 1, 2, 3] (aX8_look_46 mc ms X Q) X 46 → zin 5 [0, 1, 2, 3] (aX8_look_123 mc ms X Q) X 123 → X 0 0 0 av [] M
set_option maxRecDepth 100000 in
set_option maxHeartbeats 4000000 in
theorem sX8_look (l : Launch) (G : zG) (hE : zXt G) : zSnd l G yX8_look cX8_look 5 none 12 348 wX8_look := by
  refine zmk [0, 1, 2] (by decide) (fun mc ms av M Q h => h.1) ?_
  intro p e R s m args below meth c mc ms av M Q hC hRf hRl hr hnm h lv hlv
  obtain ⟨X, hXe⟩ : ∃ X : Nat → zV, X = fun L u v vs st M => ∀ lv, zpick lv (lvX8_look L) = some vs → zAt p l e R s m args below meth c (MQ below (zQ G Q) args s mc ms (zA G)) G 5 L u v lv st M := ⟨_, rfl⟩
  have hJ : ∀ L, zOk p l e R s m args below meth c (MQ below (zQ G Q) args s mc ms (zA G)) G 5 L (zj X L (lvX8_look L)) := fun L => S_jump (fun u v lv vs st M hp hx => by rw [hXe] at hx; exact hx lv hp)
  have hB0 : zin 5 [0, 1, 2] (aX8_look_0 mc ms X Q) X 0 := by
    intro u v vs st M hb
    rw [hXe]
    refine fun lv hp => S_block (L := 0) (live := [0, 1, 2]) ?_ u v lv vs st M hp hb
    unfold aX8_look_0
    refine S_aload_n (pc := 0) hC dX8_look_0 rfl ?_
    refine S_iconst (pc := 1) hC dX8_look_1 (by decide) ?_
    refine S_puti (pc := 2) hC cfX8 (by decide) rfl (Or.inl rfl) wd_176 dX8_look_2 ?_
    refine S_iload_n (pc := 5) hC dX8_look_5 rfl ?_
    refine S_if_eq (pc := 6) (tgt := 16) hC dX8_look_6 (by decide) ?_ ?_
    · exact hJ 16
    · refine S_aload_n (pc := 9) hC dX8_look_9 rfl ?_
      refine S_geti (pc := 10) hC cfX4 (by decide) (Or.inl rfl) wd_322 dX8_look_10 ?_
      refine S_if_ne (pc := 13) (tgt := 37) hC dX8_look_13 (by decide) ?_ ?_
      · refine S_aload_n (pc := 37) hC dX8_look_37 rfl ?_
        refine S_sipush (pc := 38) hC dX8_look_38 (by decide) ?_
        refine S_puti (pc := 41) hC cfX8 (by decide) rfl (Or.inl rfl) wd_174 dX8_look_41 ?_
        refine S_iconst (pc := 44) hC dX8_look_44 (by decide) ?_
        refine S_istore_n (pc := 45) hC dX8_look_45 rfl (by decide) ?_
        exact hJ 46
      · exact hJ 16
  have hB16 : zin 5 [0, 1] (aX8_look_16 mc ms X Q) X 16 := by
    intro u v vs st M hb
    rw [hXe]
    refine fun lv hp => S_block (L := 16) (live := [0, 1]) ?_ u v lv vs st M hp hb
    unfold aX8_look_16
    refine S_aload_n (pc := 16) hC dX8_look_16 rfl ?_
    refine S_aload_n (pc := 17) hC dX8_look_17 rfl ?_
    refine S_aload_n (pc := 18) hC dX8_look_18 rfl ?_
    refine S_getR (pc := 19) hC cfX8 (by decide) (Or.inr ⟨_, rfl⟩) wd_173 dX8_look_19 ?_
    refine S_iconst (pc := 22) hC dX8_look_22 (by decide) ?_
    refine S_iconst (pc := 23) hC dX8_look_23 (by decide) ?_
    refine S_sipush (pc := 24) hC dX8_look_24 (by decide) ?_
    refine S_sipush (pc := 27) hC dX8_look_27 (by decide) ?_
    refine S_callS (pc := 30) hC (sX8_valueBelow l G hE 6) wd_1037 wd_1038 wd_7 wd_1039 (by decide +kernel) ⟨by rw [hRf]; decide, by rw [hRl]; decide⟩ dX8_look_30 ?_
    unfold kX8_look_33
    refine S_puti (pc := 33) hC cfX8 (by decide) rfl (Or.inl rfl) wd_174 dX8_look_33 ?_
    exact S_vreturn (pc := 36) hC hr dX8_look_36
  have hB46 : zin 5 [0, 1, 2, 3] (aX8_look_46 mc ms X Q) X 46 := by
    intro u v vs st M hb
    rw [hXe]
    refine fun lv hp => S_block (L := 46) (live := [0, 1, 2, 3]) ?_ u v lv vs st M hp hb
    unfold aX8_look_46
    refine S_iload_n (pc := 46) hC dX8_look_46 rfl ?_
    refine S_aload_n (pc := 47) hC dX8_look_47 rfl ?_
    refine S_geti (pc := 48) hC cfX4 (by decide) (Or.inl rfl) wd_322 dX8_look_48 ?_
    refine S_icmp_ge (pc := 51) (tgt := 129) hC dX8_look_51 (by decide) ?_ ?_
    · exact S_vreturn (pc := 129) hC hr dX8_look_129
    · refine S_aload_n (pc := 54) hC dX8_look_54 rfl ?_
      refine S_getR (pc := 55) hC cfX4 (by decide) (Or.inl ⟨_, rfl⟩) wd_309 dX8_look_55 ?_
      refine S_aload_n (pc := 58) hC dX8_look_58 rfl ?_
      refine S_getR (pc := 59) hC cfX4 (by decide) (Or.inr ⟨_, rfl⟩) wd_318 dX8_look_59 ?_
      refine S_iload_n (pc := 62) hC dX8_look_62 rfl ?_
      refine S_iaload (pc := 63) hC dX8_look_63 ?_
      refine S_callV (pc := 64) hC (sX0_make l G hE.1) rfl wd_1020 wd_812 wd_813 wd_10 wd_814 (by decide +kernel) ⟨by rw [hRf]; decide, by rw [hRl]; decide⟩ dX8_look_64 ?_
      unfold kX8_look_67
      refine S_aload_n (pc := 67) hC dX8_look_67 rfl ?_
      refine S_aload_n (pc := 68) hC dX8_look_68 rfl ?_
      refine S_getR (pc := 69) hC cfX8 (by decide) (Or.inr ⟨_, rfl⟩) wd_173 dX8_look_69 ?_
      refine S_iload_n (pc := 72) hC dX8_look_72 rfl ?_
      refine S_iconst (pc := 73) hC dX8_look_73 (by decide) ?_
      refine S_isub (pc := 74) hC dX8_look_74 ?_
      refine S_iconst (pc := 75) hC dX8_look_75 (by decide) ?_
      refine S_sipush (pc := 76) hC dX8_look_76 (by decide) ?_
      refine S_aload_n (pc := 79) hC dX8_look_79 rfl ?_
      refine S_geti (pc := 80) hC cfX8 (by decide) (Or.inl rfl) wd_174 dX8_look_80 ?_
      refine S_ineg (pc := 83) hC dX8_look_83 ?_
      refine S_callS (pc := 84) hC (sX8_valueBelow l G hE 6) wd_1037 wd_1038 wd_7 wd_1039 (by decide +kernel) ⟨by rw [hRf]; decide, by rw [hRl]; decide⟩ dX8_look_84 ?_
      unfold kX8_look_87
      refine S_ineg (pc := 87) hC dX8_look_87 ?_
      refine S_istore (pc := 88) hC dX8_look_88 (by decide) ?_
      refine S_aload_n (pc := 90) hC dX8_look_90 rfl ?_
      refine S_getR (pc := 91) hC cfX4 (by decide) (Or.inl ⟨_, rfl⟩) wd_309 dX8_look_91 ?_
      refine S_aload_n (pc := 94) hC dX8_look_94 rfl ?_
      refine S_getR (pc := 95) hC cfX4 (by decide) (Or.inr ⟨_, rfl⟩) wd_318 dX8_look_95 ?_
      refine S_iload_n (pc := 98) hC dX8_look_98 rfl ?_
      refine S_iaload (pc := 99) hC dX8_look_99 ?_
      refine S_callV (pc := 100) hC (sX0_unmake l G hE.1) rfl wd_1021 wd_403 wd_404 wd_10 wd_405 (by decide +kernel) ⟨by rw [hRf]; decide, by rw [hRl]; decide⟩ dX8_look_100 ?_
      unfold kX8_look_103
      refine S_iload (pc := 103) hC dX8_look_103 ?_
      refine S_aload_n (pc := 105) hC dX8_look_105 rfl ?_
      refine S_geti (pc := 106) hC cfX8 (by decide) (Or.inl rfl) wd_174 dX8_look_106 ?_
      refine S_icmp_le (pc := 109) (tgt := 123) hC dX8_look_109 (by decide) ?_ ?_
      · exact hJ 123
      · refine S_aload_n (pc := 112) hC dX8_look_112 rfl ?_
        refine S_iload (pc := 113) hC dX8_look_113 ?_
        refine S_puti (pc := 115) hC cfX8 (by decide) rfl (Or.inl rfl) wd_174 dX8_look_115 ?_
        refine S_aload_n (pc := 118) hC dX8_look_118 rfl ?_
        refine S_iload_n (pc := 119) hC dX8_look_119 rfl ?_
        refine S_puti (pc := 120) hC cfX8 (by decide) rfl (Or.inl rfl) wd_176 dX8_look_120 ?_
        exact hJ 123
  have hB123 : zin 5 [0, 1, 2, 3] (aX8_look_123 mc ms X Q) X 123 := by
    intro u v vs st M hb
    rw [hXe]
    refine fun lv hp => S_block (L := 123) (live := [0, 1, 2, 3]) ?_ u v lv vs st M hp hb
    unfold aX8_look_123
    refine S_iinc (pc := 123) hC dX8_look_123 (by decide) (by decide) ?_
    refine S_goto (pc := 126) (tgt := 46) hC dX8_look_126 (by decide) ?_
    exact hJ 46
  have := h.2 X hB0 hB16 hB46 hB123
  rw [hXe] at this
  exact this lv hlv
theorem vX8_look_0 {mc ms : Nat} {X : Nat → zV} {Q : zQt} {M : zM} {g : Nat} {x2 : Int32} (hW : zWd M g)  (h : ∀ M2 : zM, M2 = (zsI M 31 2 ((-1))) → (x2 = 0 → X 16 0 0 [.ref 31, .ref g] [] M2) ∧ (¬ x2 = 0 → ((M2.1 g 3) = 0 → X 16 0 0 [.ref 31, .ref g] [] M2) ∧ (¬ (M2.1 g 3) = 0 → ∀ M41 : zM, M41 = (zsI M2 31 1 ((-2000))) → X 46 0 0 [.ref 31, .ref g, .int x2, .int 0] [] M41))) : aX8_look_0 mc ms X Q 0 0 [some (.ref 31), some (.ref g), some (.int x2), none, none] [] M := ⟨(fxs_31 hW.1), (have h2 := h _ rfl; ⟨fun c6 => (h2.1 c6), fun c6 => ⟨(fgs_0 hW), ⟨fun c13 => ((h2.2 c6).1 c13), fun c13 => ⟨(fxs_31 hW.1), (have h41 := ((h2.2 c6).2 c13) _ rfl; h41)⟩⟩⟩⟩)⟩
theorem vX8_look_16 {mc ms : Nat} {X : Nat → zV} {Q : zQt} {M : zM} {g : Nat}  (hW : zWd M g)  (h : wX8_valueBelow 6 0 0 [.ref g, .ref 32, .int 0, .int 0, .int (-2000), .int 2000] M (fun r M1 => kX8_look_33 mc ms X Q 0 0 [some (.ref 31), some (.ref g), none, none, none] (r.toList ++ [.ref 31]) M1)) : aX8_look_16 mc ms X Q 0 0 [some (.ref 31), some (.ref g), none, none, none] [] M := ⟨(fxs_31 hW.1), 32, (fxr_31_0 hW.1), ⟨Nat.le_of_ble_eq_true rfl, rfl, 0, 0, Nat.zero_le _, Nat.zero_le _, h⟩⟩
theorem vX8_look_46 {mc ms : Nat} {X : Nat → zV} {Q : zQt} {M : zM} {g : Nat} {x2 : Int32} {x3 : Int32} (hW : zWd M g)  (h : ((M.1 g 3) ≤ x3 → Q none M) ∧ (¬ (M.1 g 3) ≤ x3 → vp_in x3 384 ∧ wX0_make 0 0 [.ref (g + 1), .int ((M : zM).1 ((g + 7)) (x3 : Int32).toNatClampNeg)] M (fun r M1 => kX8_look_67 mc ms X Q 0 0 [some (.ref 31), some (.ref g), some (.int x2), some (.int x3), none] (r.toList ++ []) M1))) : aX8_look_46 mc ms X Q 0 0 [some (.ref 31), some (.ref g), some (.int x2), some (.int x3), none] [] M := ⟨(fgs_0 hW), ⟨fun c51 => (h.1 c51), fun c51 => ⟨(fgs_0 hW), (g + 1), (fgr_0_0 hW), ⟨(fgs_0 hW), (g + 7), (fgr_0_2 hW), ⟨384, (fgs_7 hW), (h.2 c51).1, ⟨Nat.le_of_ble_eq_true rfl, rfl, (fgs_1 hW), 0, 0, Nat.zero_le _, Nat.zero_le _, (h.2 c51).2⟩⟩⟩⟩⟩⟩
theorem vX8_look_123 {mc ms : Nat} {X : Nat → zV} {Q : zQt} {M : zM} {g : Nat} {x2 : Int32} {x3 : Int32} (hW : zWd M g)  (h : X 46 0 0 [.ref 31, .ref g, .int x2, .int (x3 + 1)] [] M) : aX8_look_123 mc ms X Q 0 0 [some (.ref 31), some (.ref g), some (.int x2), some (.int x3), none] [] M := h
theorem vkX8_look_33 {mc ms : Nat} {X : Nat → zV} {Q : zQt} {M : zM} {g : Nat} {s0 : Int32} (hW : zWd M g)  (h : ∀ M33 : zM, M33 = (zsI M 31 1 s0) → Q none M33) : kX8_look_33 mc ms X Q 0 0 [some (.ref 31), some (.ref g), none, none, none] [.int s0, .ref 31] M := ⟨(fxs_31 hW.1), (have h33 := h _ rfl; h33)⟩
theorem vkX8_look_67 {mc ms : Nat} {X : Nat → zV} {Q : zQt} {M : zM} {g : Nat} {x2 : Int32} {x3 : Int32} (hW : zWd M g)  (h : wX8_valueBelow 6 0 0 [.ref g, .ref 32, .int (x2 - (1 : Int32)), .int 1, .int (-2000), .int (-(M.1 31 1))] M (fun r M1 => kX8_look_87 mc ms X Q 0 0 [some (.ref 31), some (.ref g), some (.int x2), some (.int x3), none] (r.toList ++ []) M1)) : kX8_look_67 mc ms X Q 0 0 [some (.ref 31), some (.ref g), some (.int x2), some (.int x3), none] [] M := ⟨(fxs_31 hW.1), 32, (fxr_31_0 hW.1), ⟨(fxs_31 hW.1), ⟨Nat.le_of_ble_eq_true rfl, rfl, 0, 0, Nat.zero_le _, Nat.zero_le _, h⟩⟩⟩
theorem vkX8_look_87 {mc ms : Nat} {X : Nat → zV} {Q : zQt} {M : zM} {g : Nat} {x2 : Int32} {x3 : Int32} {s0 : Int32} (hW : zWd M g)  (h : vp_in x3 384 ∧ wX0_unmake 0 0 [.ref (g + 1), .int ((M : zM).1 ((g + 7)) (x3 : Int32).toNatClampNeg)] M (fun r M1 => kX8_look_103 mc ms X Q 0 0 [some (.ref 31), some (.ref g), some (.int x2), some (.int x3), some (.int (-s0))] (r.toList ++ []) M1)) : kX8_look_87 mc ms X Q 0 0 [some (.ref 31), some (.ref g), some (.int x2), some (.int x3), none] [.int s0] M := ⟨(fgs_0 hW), (g + 1), (fgr_0_0 hW), ⟨(fgs_0 hW), (g + 7), (fgr_0_2 hW), ⟨384, (fgs_7 hW), h.1, ⟨Nat.le_of_ble_eq_true rfl, rfl, (fgs_1 hW), 0, 0, Nat.zero_le _, Nat.zero_le _, h.2⟩⟩⟩⟩
theorem vkX8_look_103 {mc ms : Nat} {X : Nat → zV} {Q : zQt} {M : zM} {g : Nat} {x2 : Int32} {x3 : Int32} {x4 : Int32} (hW : zWd M g)  (h : (x4 ≤ (M.1 31 1) → X 123 0 0 [.ref 31, .ref g, .int x2, .int x3] [] M) ∧ (¬ x4 ≤ (M.1 31 1) → ∀ M115 : zM, M115 = (zsI M 31 1 x4) → ∀ M120 : zM, M120 = (zsI M115 31 2 x3) → X 123 0 0 [.ref 31, .ref g, .int x2, .int x3] [] M120)) : kX8_look_103 mc ms X Q 0 0 [some (.ref 31), some (.ref g), some (.int x2), some (.int x3), some (.int x4)] [] M := ⟨(fxs_31 hW.1), ⟨fun c109 => (h.1 c109), fun c109 => ⟨(fxs_31 hW.1), (have h115 := (h.2 c109) _ rfl; ⟨(fxs_31 hW.1), (have h120 := h115 _ rfl; h120)⟩)⟩⟩⟩
theorem dX9_whole_0 : decode cX9_whole 0 = .ok (.aload_n 0, 1) := by decide +kernel
theorem dX9_whole_1 : decode cX9_whole 1 = .ok (.aload_n 1, 1) := by decide +kernel
theorem dX9_whole_2 : decode cX9_whole 2 = .ok (.iload_n 2, 1) := by decide +kernel
theorem dX9_whole_3 : decode cX9_whole 3 = .ok (.invokevirtual 15, 3) := by decide +kernel
theorem dX9_whole_6 : decode cX9_whole 6 = .ok (.lstore_n 3, 1) := by decide +kernel
theorem dX9_whole_7 : decode cX9_whole 7 = .ok (.aload_n 0, 1) := by decide +kernel
theorem dX9_whole_8 : decode cX9_whole 8 = .ok (.aload_n 1, 1) := by decide +kernel
theorem dX9_whole_9 : decode cX9_whole 9 = .ok (.aload_n 1, 1) := by decide +kernel
theorem dX9_whole_10 : decode cX9_whole 10 = .ok (.getfield 19, 3) := by decide +kernel
theorem dX9_whole_13 : decode cX9_whole 13 = .ok (.iload_n 2, 1) := by decide +kernel
theorem dX9_whole_14 : decode cX9_whole 14 = .ok (.iaload, 1) := by decide +kernel
theorem dX9_whole_15 : decode cX9_whole 15 = .ok (.invokevirtual 24, 3) := by decide +kernel
theorem dX9_whole_18 : decode cX9_whole 18 = .ok (.istore 5, 2) := by decide +kernel
theorem dX9_whole_20 : decode cX9_whole 20 = .ok (.iload 5, 2) := by decide +kernel
theorem dX9_whole_22 : decode cX9_whole 22 = .ok (.ifCond .eq 12, 3) := by decide +kernel
theorem dX9_whole_25 : decode cX9_whole 25 = .ok (.lload_n 3, 1) := by decide +kernel
theorem dX9_whole_26 : decode cX9_whole 26 = .ok (.bipush 8, 2) := by decide +kernel
theorem dX9_whole_28 : decode cX9_whole 28 = .ok (.lshl, 1) := by decide +kernel
theorem dX9_whole_29 : decode cX9_whole 29 = .ok (.iload 5, 2) := by decide +kernel
theorem dX9_whole_31 : decode cX9_whole 31 = .ok (.i2l, 1) := by decide +kernel
theorem dX9_whole_32 : decode cX9_whole 32 = .ok (.lor, 1) := by decide +kernel
theorem dX9_whole_33 : decode cX9_whole 33 = .ok (.lstore_n 3, 1) := by decide +kernel
theorem dX9_whole_34 : decode cX9_whole 34 = .ok (.iconst 0, 1) := by decide +kernel
theorem dX9_whole_35 : decode cX9_whole 35 = .ok (.istore 6, 2) := by decide +kernel
theorem dX9_whole_37 : decode cX9_whole 37 = .ok (.iload 6, 2) := by decide +kernel
theorem dX9_whole_39 : decode cX9_whole 39 = .ok (.bipush 8, 2) := by decide +kernel
theorem dX9_whole_41 : decode cX9_whole 41 = .ok (.if_icmp .ge 23, 3) := by decide +kernel
theorem dX9_whole_44 : decode cX9_whole 44 = .ok (.lload_n 3, 1) := by decide +kernel
theorem dX9_whole_45 : decode cX9_whole 45 = .ok (.bipush 56, 2) := by decide +kernel
theorem dX9_whole_47 : decode cX9_whole 47 = .ok (.lushr, 1) := by decide +kernel
theorem dX9_whole_48 : decode cX9_whole 48 = .ok (.lconst 0, 1) := by decide +kernel
theorem dX9_whole_49 : decode cX9_whole 49 = .ok (.lcmp, 1) := by decide +kernel
theorem dX9_whole_50 : decode cX9_whole 50 = .ok (.ifCond .ne 14, 3) := by decide +kernel
theorem dX9_whole_53 : decode cX9_whole 53 = .ok (.lload_n 3, 1) := by decide +kernel
theorem dX9_whole_54 : decode cX9_whole 54 = .ok (.bipush 8, 2) := by decide +kernel
theorem dX9_whole_56 : decode cX9_whole 56 = .ok (.lshl, 1) := by decide +kernel
theorem dX9_whole_57 : decode cX9_whole 57 = .ok (.lstore_n 3, 1) := by decide +kernel
theorem dX9_whole_58 : decode cX9_whole 58 = .ok (.iinc 6 1, 3) := by decide +kernel
theorem dX9_whole_61 : decode cX9_whole 61 = .ok (.goto (-24), 3) := by decide +kernel
theorem dX9_whole_64 : decode cX9_whole 64 = .ok (.lload_n 3, 1) := by decide +kernel
theorem dX9_whole_65 : decode cX9_whole 65 = .ok (.lreturn, 1) := by decide +kernel
def kX9_whole_18 (mc ms : Nat) (X : Nat → zV) (Q : zQt) : zT :=
  zsi 5 <| zli 5 <| zif (fun x => x = 0) (zj X 34 [3]) <| zll 3 <| zc (.int 8) <| zji (fun x y => x <<< (y.toInt64 &&& 63)) <| zli 5 <| zi2l <| zjj (fun x y => x ||| y) <| zslN 3 <| zj X 34 [3]
def kX9_whole_6 (mc ms : Nat) (X : Nat → zV) (Q : zQt) : zT :=
  zsl 3 <| zla 0 <| zla 1 <| zla 1 <| zgR 4 2 <| zli 2 <| zal 1 <| zcv mc ms 9 2 wX9_sign <| kX9_whole_18 mc ms X Q
def kX9_whole_58 (mc ms : Nat) (X : Nat → zV) (Q : zQt) : zT :=
  zinc 6 1 <| zj X 37 [3, 6]
def aX9_whole_0 (mc ms : Nat) (X : Nat → zV) (Q : zQt) : zT :=
  zla 0 <| zla 1 <| zli 2 <| zcv mc ms 9 2 wX9_plain <| kX9_whole_6 mc ms X Q
def aX9_whole_34 (mc ms : Nat) (X : Nat → zV) (Q : zQt) : zT :=
  zc (.int 0) <| zsi 6 <| zj X 37 [3, 6]
def aX9_whole_37 (mc ms : Nat) (X : Nat → zV) (Q : zQt) : zT :=
  zli 6 <| zc (.int 8) <| zic (fun x y => y ≤ x) (zj X 64 [3]) <| zll 3 <| zc (.int 56) <| zji (fun x y => (x.toUInt64 >>> (y.toInt64.toUInt64 &&& Int64.toUInt64 63)).toInt64) <| zc (.long 0) <| zlc <| zif (fun x => x = 0) (zll 3 <| zc (.int 8) <| zji (fun x y => x <<< (y.toInt64 &&& 63)) <| zslN 3 <| kX9_whole_58 mc ms X Q) <| zj X 64 [3]
def aX9_whole_64 (mc ms : Nat) (X : Nat → zV) (Q : zQt) : zT :=
  zll 3 <| zrl Q
def lvX9_whole : Nat → List Nat := fun L => match L with
  | 0 => [0, 1, 2]
  | 34 => [3]
  | 37 => [3, 6]
  | 64 => [3]
  | _ => []
def wX9_whole : zSp := fun mc ms av M Q => ((zlay av).length ≤ 7 ∧ zpick (zlay av) [0, 1, 2] = some av) ∧ ∀ X : Nat → zV, zin 7 [0, 1, 2] (aX9_whole_0 mc ms X Q) X 0 → zin 7 [3] (aX9_whole_34 mc ms X Q) X 34 → zin 7 [3, 6] (aX9_whole_37 mc ms X Q) X 37 → zin 7 [3] (aX9_whole_64 mc ms X Q) X 64 → X 0 0 0 av [] M
set_option maxRecDepth 100000 in
set_option maxHeartbeats 4000000 in
theorem sX9_whole (l : Launch) (G : zG) (hE : zXt G) : zSnd l G yX9_whole cX9_whole 7 (some .long) 6 154 wX9_whole := by
  refine zmk [0, 1, 2] (by decide) (fun mc ms av M Q h => h.1) ?_
  intro p e R s m args below meth c mc ms av M Q hC hRf hRl hr hnm h lv hlv
  obtain ⟨X, hXe⟩ : ∃ X : Nat → zV, X = fun L u v vs st M => ∀ lv, zpick lv (lvX9_whole L) = some vs → zAt p l e R s m args below meth c (MQ below (zQ G Q) args s mc ms (zA G)) G 7 L u v lv st M := ⟨_, rfl⟩
  have hJ : ∀ L, zOk p l e R s m args below meth c (MQ below (zQ G Q) args s mc ms (zA G)) G 7 L (zj X L (lvX9_whole L)) := fun L => S_jump (fun u v lv vs st M hp hx => by rw [hXe] at hx; exact hx lv hp)
  have hB0 : zin 7 [0, 1, 2] (aX9_whole_0 mc ms X Q) X 0 := by
    intro u v vs st M hb
    rw [hXe]
    refine fun lv hp => S_block (L := 0) (live := [0, 1, 2]) ?_ u v lv vs st M hp hb
    unfold aX9_whole_0
    refine S_aload_n (pc := 0) hC dX9_whole_0 rfl ?_
    refine S_aload_n (pc := 1) hC dX9_whole_1 rfl ?_
    refine S_iload_n (pc := 2) hC dX9_whole_2 rfl ?_
    refine S_callV (pc := 3) hC (sX9_plain l G hE) rfl wd_914 wd_916 ws_38 wd_3 wd_917 (by decide +kernel) ⟨by rw [hRf]; decide, by rw [hRl]; decide⟩ dX9_whole_3 ?_
    unfold kX9_whole_6
    refine S_lstore_n (pc := 6) hC dX9_whole_6 rfl (by decide) ?_
    refine S_aload_n (pc := 7) hC dX9_whole_7 rfl ?_
    refine S_aload_n (pc := 8) hC dX9_whole_8 rfl ?_
    refine S_aload_n (pc := 9) hC dX9_whole_9 rfl ?_
    refine S_getR (pc := 10) hC cfX4 (by decide) (Or.inr ⟨_, rfl⟩) wd_316 dX9_whole_10 ?_
    refine S_iload_n (pc := 13) hC dX9_whole_13 rfl ?_
    refine S_iaload (pc := 14) hC dX9_whole_14 ?_
    refine S_callV (pc := 15) hC (sX9_sign l G hE.1) rfl wd_1000 wd_928 wd_929 wd_3 wd_930 (by decide +kernel) ⟨by rw [hRf]; decide, by rw [hRl]; decide⟩ dX9_whole_15 ?_
    unfold kX9_whole_18
    refine S_istore (pc := 18) hC dX9_whole_18 (by decide) ?_
    refine S_iload (pc := 20) hC dX9_whole_20 ?_
    refine S_if_eq (pc := 22) (tgt := 34) hC dX9_whole_22 (by decide) ?_ ?_
    · exact hJ 34
    · refine S_lload_n (pc := 25) hC dX9_whole_25 rfl ?_
      refine S_bipush (pc := 26) hC dX9_whole_26 (by decide) ?_
      refine S_lshl (pc := 28) hC dX9_whole_28 ?_
      refine S_iload (pc := 29) hC dX9_whole_29 ?_
      refine S_i2l (pc := 31) hC dX9_whole_31 ?_
      refine S_lor (pc := 32) hC dX9_whole_32 ?_
      refine S_lstore_n_N (pc := 33) hC dX9_whole_33 rfl (by decide) ?_
      exact hJ 34
  have hB34 : zin 7 [3] (aX9_whole_34 mc ms X Q) X 34 := by
    intro u v vs st M hb
    rw [hXe]
    refine fun lv hp => S_block (L := 34) (live := [3]) ?_ u v lv vs st M hp hb
    unfold aX9_whole_34
    refine S_iconst (pc := 34) hC dX9_whole_34 (by decide) ?_
    refine S_istore (pc := 35) hC dX9_whole_35 (by decide) ?_
    exact hJ 37
  have hB37 : zin 7 [3, 6] (aX9_whole_37 mc ms X Q) X 37 := by
    intro u v vs st M hb
    rw [hXe]
    refine fun lv hp => S_block (L := 37) (live := [3, 6]) ?_ u v lv vs st M hp hb
    unfold aX9_whole_37
    refine S_iload (pc := 37) hC dX9_whole_37 ?_
    refine S_bipush (pc := 39) hC dX9_whole_39 (by decide) ?_
    refine S_icmp_ge (pc := 41) (tgt := 64) hC dX9_whole_41 (by decide) ?_ ?_
    · exact hJ 64
    · refine S_lload_n (pc := 44) hC dX9_whole_44 rfl ?_
      refine S_bipush (pc := 45) hC dX9_whole_45 (by decide) ?_
      refine S_lushr (pc := 47) hC dX9_whole_47 ?_
      refine S_lconst (pc := 48) hC dX9_whole_48 (by decide) ?_
      refine S_lcmp (pc := 49) hC dX9_whole_49 ?_
      refine S_if_ne (pc := 50) (tgt := 64) hC dX9_whole_50 (by decide) ?_ ?_
      · exact hJ 64
      · refine S_lload_n (pc := 53) hC dX9_whole_53 rfl ?_
        refine S_bipush (pc := 54) hC dX9_whole_54 (by decide) ?_
        refine S_lshl (pc := 56) hC dX9_whole_56 ?_
        refine S_lstore_n_N (pc := 57) hC dX9_whole_57 rfl (by decide) ?_
        unfold kX9_whole_58
        refine S_iinc (pc := 58) hC dX9_whole_58 (by decide) (by decide) ?_
        refine S_goto (pc := 61) (tgt := 37) hC dX9_whole_61 (by decide) ?_
        exact hJ 37
  have hB64 : zin 7 [3] (aX9_whole_64 mc ms X Q) X 64 := by
    intro u v vs st M hb
    rw [hXe]
    refine fun lv hp => S_block (L := 64) (live := [3]) ?_ u v lv vs st M hp hb
    unfold aX9_whole_64
    refine S_lload_n (pc := 64) hC dX9_whole_64 rfl ?_
    exact S_lreturn (pc := 65) hC hr dX9_whole_65
  have := h.2 X hB0 hB34 hB37 hB64
  rw [hXe] at this
  exact this lv hlv
theorem vX9_whole_0 {mc ms : Nat} {X : Nat → zV} {Q : zQt} {M : zM} {g : Nat} {x2 : Int32} (hW : zWd M g)  (h : wX9_plain 0 0 [.ref 25, .ref g, .int x2] M (fun r M1 => kX9_whole_6 mc ms X Q 0 0 [some (.ref 25), some (.ref g), some (.int x2), none, none, none, none] (r.toList ++ []) M1)) : aX9_whole_0 mc ms X Q 0 0 [some (.ref 25), some (.ref g), some (.int x2), none, none, none, none] [] M := ⟨Nat.le_of_ble_eq_true rfl, rfl, (fxs_25 hW.1), 0, 0, Nat.zero_le _, Nat.zero_le _, h⟩
theorem vX9_whole_34 {mc ms : Nat} {X : Nat → zV} {Q : zQt} {M : zM} {g : Nat} {x3 : Int64} (hW : zWd M g)  (h : X 37 0 0 [.long x3, .int 0] [] M) : aX9_whole_34 mc ms X Q 0 0 [none, none, none, some (.long x3), none, none, none] [] M := h
theorem vcX9_whole_58 {mc ms : Nat} {X : Nat → zV} {Q : zQt} {M : zM} {g : Nat} {x3 : Int64} {x6 : Int32} (hW : zWd M g)  (h : X 37 0 0 [.long x3, .int (x6 + 1)] [] M) : kX9_whole_58 mc ms X Q 0 0 [none, none, none, some (.long x3), none, none, some (.int x6)] [] M := h
theorem vX9_whole_37 {mc ms : Nat} {X : Nat → zV} {Q : zQt} {M : zM} {g : Nat} {x3 : Int64} {x6 : Int32} (hW : zWd M g)  (h : ((8 : Int32) ≤ x6 → X 64 0 0 [.long x3] [] M) ∧ (¬ (8 : Int32) ≤ x6 → ((lg_cmp (((x3.toUInt64 >>> ((56 : Int32).toInt64.toUInt64 &&& Int64.toUInt64 63)).toInt64)) ((0 : Int64))) = 0 → ∀ y57 : Int64, y57 = (x3 <<< ((8 : Int32).toInt64 &&& 63)) → X 37 0 0 [.long y57, .int (x6 + 1)] [] M) ∧ (¬ (lg_cmp (((x3.toUInt64 >>> ((56 : Int32).toInt64.toUInt64 &&& Int64.toUInt64 63)).toInt64)) ((0 : Int64))) = 0 → X 64 0 0 [.long x3] [] M))) : aX9_whole_37 mc ms X Q 0 0 [none, none, none, some (.long x3), none, none, some (.int x6)] [] M := ⟨fun c41 => (h.1 c41), fun c41 => ⟨fun c50 => (fun y57 e57 => have h57 := ((h.2 c41).1 c50) y57 e57; (vcX9_whole_58 hW  h57)), fun c50 => ((h.2 c41).2 c50)⟩⟩
theorem vX9_whole_64 {mc ms : Nat} {X : Nat → zV} {Q : zQt} {M : zM} {g : Nat} {x3 : Int64} (hW : zWd M g)  (h : Q (some (.long x3)) M) : aX9_whole_64 mc ms X Q 0 0 [none, none, none, some (.long x3), none, none, none] [] M := h
theorem vkX9_whole_6 {mc ms : Nat} {X : Nat → zV} {Q : zQt} {M : zM} {g : Nat} {x2 : Int32} {s0 : Int64} (hW : zWd M g)  (h : vp_in x2 384 ∧ wX9_sign 0 0 [.ref 25, .ref g, .int ((M : zM).1 ((g + 7)) (x2 : Int32).toNatClampNeg)] M (fun r M1 => kX9_whole_18 mc ms X Q 0 0 [some (.ref 25), some (.ref g), some (.int x2), some (.long s0), none, none, none] (r.toList ++ []) M1)) : kX9_whole_6 mc ms X Q 0 0 [some (.ref 25), some (.ref g), some (.int x2), none, none, none, none] [.long s0] M := ⟨(fgs_0 hW), (g + 7), (fgr_0_2 hW), ⟨384, (fgs_7 hW), h.1, ⟨Nat.le_of_ble_eq_true rfl, rfl, (fxs_25 hW.1), 0, 0, Nat.zero_le _, Nat.zero_le _, h.2⟩⟩⟩
theorem vkX9_whole_18 {mc ms : Nat} {X : Nat → zV} {Q : zQt} {M : zM} {g : Nat} {x2 : Int32} {x3 : Int64} {s0 : Int32} (hW : zWd M g)  (h : (s0 = 0 → X 34 0 0 [.long x3] [] M) ∧ (¬ s0 = 0 → ∀ y33 : Int64, y33 = ((x3 <<< ((8 : Int32).toInt64 &&& 63)) ||| (s0 : Int32).toInt64) → X 34 0 0 [.long y33] [] M)) : kX9_whole_18 mc ms X Q 0 0 [some (.ref 25), some (.ref g), some (.int x2), some (.long x3), none, none, none] [.int s0] M := ⟨fun c22 => (h.1 c22), fun c22 => (fun y33 e33 => have h33 := (h.2 c22) y33 e33; h33)⟩
theorem dX10_read_0 : decode cX10_read 0 = .ok (.iload_n 3, 1) := by decide +kernel
theorem dX10_read_1 : decode cX10_read 1 = .ok (.iload_n 2, 1) := by decide +kernel
theorem dX10_read_2 : decode cX10_read 2 = .ok (.if_icmp .le 11, 3) := by decide +kernel
theorem dX10_read_5 : decode cX10_read 5 = .ok (.iload_n 3, 1) := by decide +kernel
theorem dX10_read_6 : decode cX10_read 6 = .ok (.iload_n 2, 1) := by decide +kernel
theorem dX10_read_7 : decode cX10_read 7 = .ok (.isub, 1) := by decide +kernel
theorem dX10_read_8 : decode cX10_read 8 = .ok (.bipush 7, 2) := by decide +kernel
theorem dX10_read_10 : decode cX10_read 10 = .ok (.if_icmp .le 5, 3) := by decide +kernel
theorem dX10_read_13 : decode cX10_read 13 = .ok (.iconst 0, 1) := by decide +kernel
theorem dX10_read_14 : decode cX10_read 14 = .ok (.ireturn, 1) := by decide +kernel
theorem dX10_read_15 : decode cX10_read 15 = .ok (.aload_n 1, 1) := by decide +kernel
theorem dX10_read_16 : decode cX10_read 16 = .ok (.iload_n 3, 1) := by decide +kernel
theorem dX10_read_17 : decode cX10_read 17 = .ok (.iconst 1, 1) := by decide +kernel
theorem dX10_read_18 : decode cX10_read 18 = .ok (.isub, 1) := by decide +kernel
theorem dX10_read_19 : decode cX10_read 19 = .ok (.caload, 1) := by decide +kernel
theorem dX10_read_20 : decode cX10_read 20 = .ok (.istore 4, 2) := by decide +kernel
theorem dX10_read_22 : decode cX10_read 22 = .ok (.aload_n 0, 1) := by decide +kernel
theorem dX10_read_23 : decode cX10_read 23 = .ok (.iload 4, 2) := by decide +kernel
theorem dX10_read_25 : decode cX10_read 25 = .ok (.bipush 43, 2) := by decide +kernel
theorem dX10_read_27 : decode cX10_read 27 = .ok (.if_icmp .eq 10, 3) := by decide +kernel
theorem dX10_read_30 : decode cX10_read 30 = .ok (.iload 4, 2) := by decide +kernel
theorem dX10_read_32 : decode cX10_read 32 = .ok (.bipush 35, 2) := by decide +kernel
theorem dX10_read_34 : decode cX10_read 34 = .ok (.if_icmp .ne 8, 3) := by decide +kernel
theorem dX10_read_37 : decode cX10_read 37 = .ok (.iload 4, 2) := by decide +kernel
theorem dX10_read_39 : decode cX10_read 39 = .ok (.goto 4, 3) := by decide +kernel
theorem dX10_read_42 : decode cX10_read 42 = .ok (.iconst 0, 1) := by decide +kernel
theorem dX10_read_43 : decode cX10_read 43 = .ok (.putfield 11, 3) := by decide +kernel
theorem dX10_read_46 : decode cX10_read 46 = .ok (.aload_n 0, 1) := by decide +kernel
theorem dX10_read_47 : decode cX10_read 47 = .ok (.getfield 11, 3) := by decide +kernel
theorem dX10_read_50 : decode cX10_read 50 = .ok (.ifCond .ne 7, 3) := by decide +kernel
theorem dX10_read_53 : decode cX10_read 53 = .ok (.iload_n 3, 1) := by decide +kernel
theorem dX10_read_54 : decode cX10_read 54 = .ok (.goto 6, 3) := by decide +kernel
theorem dX10_read_57 : decode cX10_read 57 = .ok (.iload_n 3, 1) := by decide +kernel
theorem dX10_read_58 : decode cX10_read 58 = .ok (.iconst 1, 1) := by decide +kernel
theorem dX10_read_59 : decode cX10_read 59 = .ok (.isub, 1) := by decide +kernel
theorem dX10_read_60 : decode cX10_read 60 = .ok (.istore 5, 2) := by decide +kernel
theorem dX10_read_62 : decode cX10_read 62 = .ok (.aload_n 0, 1) := by decide +kernel
theorem dX10_read_63 : decode cX10_read 63 = .ok (.lconst 0, 1) := by decide +kernel
theorem dX10_read_64 : decode cX10_read 64 = .ok (.putfield 15, 3) := by decide +kernel
theorem dX10_read_67 : decode cX10_read 67 = .ok (.iload_n 2, 1) := by decide +kernel
theorem dX10_read_68 : decode cX10_read 68 = .ok (.istore 6, 2) := by decide +kernel
theorem dX10_read_70 : decode cX10_read 70 = .ok (.iload 6, 2) := by decide +kernel
theorem dX10_read_72 : decode cX10_read 72 = .ok (.iload 5, 2) := by decide +kernel
theorem dX10_read_74 : decode cX10_read 74 = .ok (.if_icmp .ge 26, 3) := by decide +kernel
theorem dX10_read_77 : decode cX10_read 77 = .ok (.aload_n 0, 1) := by decide +kernel
theorem dX10_read_78 : decode cX10_read 78 = .ok (.aload_n 0, 1) := by decide +kernel
theorem dX10_read_79 : decode cX10_read 79 = .ok (.getfield 15, 3) := by decide +kernel
theorem dX10_read_82 : decode cX10_read 82 = .ok (.bipush 8, 2) := by decide +kernel
theorem dX10_read_84 : decode cX10_read 84 = .ok (.lshl, 1) := by decide +kernel
theorem dX10_read_85 : decode cX10_read 85 = .ok (.aload_n 1, 1) := by decide +kernel
theorem dX10_read_86 : decode cX10_read 86 = .ok (.iload 6, 2) := by decide +kernel
theorem dX10_read_88 : decode cX10_read 88 = .ok (.caload, 1) := by decide +kernel
theorem dX10_read_89 : decode cX10_read 89 = .ok (.i2l, 1) := by decide +kernel
theorem dX10_read_90 : decode cX10_read 90 = .ok (.lor, 1) := by decide +kernel
theorem dX10_read_91 : decode cX10_read 91 = .ok (.putfield 15, 3) := by decide +kernel
theorem dX10_read_94 : decode cX10_read 94 = .ok (.iinc 6 1, 3) := by decide +kernel
theorem dX10_read_97 : decode cX10_read 97 = .ok (.goto (-27), 3) := by decide +kernel
theorem dX10_read_100 : decode cX10_read 100 = .ok (.aload_n 0, 1) := by decide +kernel
theorem dX10_read_101 : decode cX10_read 101 = .ok (.aload_n 1, 1) := by decide +kernel
theorem dX10_read_102 : decode cX10_read 102 = .ok (.iload_n 2, 1) := by decide +kernel
theorem dX10_read_103 : decode cX10_read 103 = .ok (.iload 5, 2) := by decide +kernel
theorem dX10_read_105 : decode cX10_read 105 = .ok (.invokestatic 19, 3) := by decide +kernel
theorem dX10_read_108 : decode cX10_read 108 = .ok (.putfield 23, 3) := by decide +kernel
theorem dX10_read_111 : decode cX10_read 111 = .ok (.aload_n 0, 1) := by decide +kernel
theorem dX10_read_112 : decode cX10_read 112 = .ok (.iconst 0, 1) := by decide +kernel
theorem dX10_read_113 : decode cX10_read 113 = .ok (.putfield 26, 3) := by decide +kernel
theorem dX10_read_116 : decode cX10_read 116 = .ok (.aload_n 0, 1) := by decide +kernel
theorem dX10_read_117 : decode cX10_read 117 = .ok (.getfield 23, 3) := by decide +kernel
theorem dX10_read_120 : decode cX10_read 120 = .ok (.ifCond .ne 31, 3) := by decide +kernel
theorem dX10_read_123 : decode cX10_read 123 = .ok (.iload 5, 2) := by decide +kernel
theorem dX10_read_125 : decode cX10_read 125 = .ok (.iload_n 2, 1) := by decide +kernel
theorem dX10_read_126 : decode cX10_read 126 = .ok (.if_icmp .le 29, 3) := by decide +kernel
theorem dX10_read_129 : decode cX10_read 129 = .ok (.aload_n 0, 1) := by decide +kernel
theorem dX10_read_130 : decode cX10_read 130 = .ok (.aload_n 1, 1) := by decide +kernel
theorem dX10_read_131 : decode cX10_read 131 = .ok (.iload_n 2, 1) := by decide +kernel
theorem dX10_read_132 : decode cX10_read 132 = .ok (.iload 5, 2) := by decide +kernel
theorem dX10_read_134 : decode cX10_read 134 = .ok (.invokevirtual 29, 3) := by decide +kernel
theorem dX10_read_137 : decode cX10_read 137 = .ok (.ifCond .ne 14, 3) := by decide +kernel
theorem dX10_read_140 : decode cX10_read 140 = .ok (.aload_n 0, 1) := by decide +kernel
theorem dX10_read_141 : decode cX10_read 141 = .ok (.aload_n 1, 1) := by decide +kernel
theorem dX10_read_142 : decode cX10_read 142 = .ok (.iload_n 2, 1) := by decide +kernel
theorem dX10_read_143 : decode cX10_read 143 = .ok (.iload 5, 2) := by decide +kernel
theorem dX10_read_145 : decode cX10_read 145 = .ok (.invokevirtual 33, 3) := by decide +kernel
theorem dX10_read_148 : decode cX10_read 148 = .ok (.ifCond .eq 7, 3) := by decide +kernel
theorem dX10_read_151 : decode cX10_read 151 = .ok (.iconst 1, 1) := by decide +kernel
theorem dX10_read_152 : decode cX10_read 152 = .ok (.goto 4, 3) := by decide +kernel
theorem dX10_read_155 : decode cX10_read 155 = .ok (.iconst 0, 1) := by decide +kernel
theorem dX10_read_156 : decode cX10_read 156 = .ok (.ireturn, 1) := by decide +kernel
def kX10_read_22 (mc ms : Nat) (X : Nat → zV) (Q : zQt) : zT :=
  zla 0 <| zli 4 <| zc (.int 43) <| zic (fun x y => x = y) (zj X 37 [0, 1, 2, 3, 4]) <| zli 4 <| zc (.int 35) <| zic (fun x y => x = y) (zj X 37 [0, 1, 2, 3, 4]) <| zc (.int 0) <| zj X 43 [0, 1, 2, 3]
def kX10_read_148 (mc ms : Nat) (X : Nat → zV) (Q : zQt) : zT :=
  zif (fun x => x = 0) (zj X 155 []) <| zj X 151 []
def kX10_read_137 (mc ms : Nat) (X : Nat → zV) (Q : zQt) : zT :=
  zif (fun x => x = 0) (zla 0 <| zla 1 <| zli 2 <| zli 5 <| zcv mc ms 10 3 wX10_readPawn <| kX10_read_148 mc ms X Q) <| zj X 151 []
def kX10_read_108 (mc ms : Nat) (X : Nat → zV) (Q : zQt) : zT :=
  zpi 10 3 <| zla 0 <| zc (.int 0) <| zpi 10 2 <| zla 0 <| zgi 10 3 <| zif (fun x => x = 0) (zli 5 <| zli 2 <| zic (fun x y => x ≤ y) (zj X 155 []) <| zla 0 <| zla 1 <| zli 2 <| zli 5 <| zcv mc ms 10 3 wX10_readMan <| kX10_read_137 mc ms X Q) <| zj X 151 []
def aX10_read_0 (mc ms : Nat) (X : Nat → zV) (Q : zQt) : zT :=
  zli 3 <| zli 2 <| zic (fun x y => x ≤ y) (zj X 13 []) <| zli 3 <| zli 2 <| zii (fun x y => x - y) <| zc (.int 7) <| zic (fun x y => x ≤ y) (zla 1 <| zli 3 <| zc (.int 1) <| zii (fun x y => x - y) <| zal 4 <| zsiN 4 <| kX10_read_22 mc ms X Q) <| zj X 13 []
def aX10_read_13 (mc ms : Nat) (X : Nat → zV) (Q : zQt) : zT :=
  zc (.int 0) <| zrz .boolean Q
def aX10_read_37 (mc ms : Nat) (X : Nat → zV) (Q : zQt) : zT :=
  zli 4 <| zj X 43 [0, 1, 2, 3]
def aX10_read_43 (mc ms : Nat) (X : Nat → zV) (Q : zQt) : zT :=
  zpi 10 5 <| zla 0 <| zgi 10 5 <| zif (fun x => x = 0) (zli 3 <| zj X 60 [0, 1, 2]) <| zli 3 <| zc (.int 1) <| zii (fun x y => x - y) <| zj X 60 [0, 1, 2]
def aX10_read_60 (mc ms : Nat) (X : Nat → zV) (Q : zQt) : zT :=
  zsi 5 <| zla 0 <| zc (.long 0) <| zpl 10 4 <| zli 2 <| zsi 6 <| zj X 70 [0, 1, 2, 5, 6]
def aX10_read_70 (mc ms : Nat) (X : Nat → zV) (Q : zQt) : zT :=
  zli 6 <| zli 5 <| zic (fun x y => y ≤ x) (zla 0 <| zla 1 <| zli 2 <| zli 5 <| zcs mc ms 3 wX10_readCastle <| kX10_read_108 mc ms X Q) <| zla 0 <| zla 0 <| zgl 10 4 <| zc (.int 8) <| zji (fun x y => x <<< (y.toInt64 &&& 63)) <| zla 1 <| zli 6 <| zal 4 <| zi2l <| zjj (fun x y => x ||| y) <| zpl 10 4 <| zinc 6 1 <| zj X 70 [0, 1, 2, 5, 6]
def aX10_read_151 (mc ms : Nat) (X : Nat → zV) (Q : zQt) : zT :=
  zc (.int 1) <| zj X 156 []
def aX10_read_155 (mc ms : Nat) (X : Nat → zV) (Q : zQt) : zT :=
  zc (.int 0) <| zj X 156 []
def aX10_read_156 (mc ms : Nat) (X : Nat → zV) (Q : zQt) : zT :=
  zrz .boolean Q
def lvX10_read : Nat → List Nat := fun L => match L with
  | 0 => [0, 1, 2, 3]
  | 13 => []
  | 37 => [0, 1, 2, 3, 4]
  | 43 => [0, 1, 2, 3]
  | 60 => [0, 1, 2]
  | 70 => [0, 1, 2, 5, 6]
  | 151 => []
  | 155 => []
  | 156 => []
  | _ => []
def wX10_read : zSp := fun mc ms av M Q => ((zlay av).length ≤ 7 ∧ zpick (zlay av) [0, 1, 2, 3] = some av) ∧ ∀ X : Nat → zV, zin 7 [0, 1, 2, 3] (aX10_read_0 mc ms X Q) X 0 → zin 7 [] (aX10_read_13 mc ms X Q) X 13 → zin 7 [0, 1, 2, 3, 4] (aX10_read_37 mc ms X Q) X 37 → zin 7 [0, 1, 2, 3] (aX10_read_43 mc ms X Q) X 43 → zin 7 [0, 1, 2] (aX10_read_60 mc ms X Q) X 60 → zin 7 [0, 1, 2, 5, 6] (aX10_read_70 mc ms X Q) X 70 → zin 7 [] (aX10_read_151 mc ms X Q) X 151 → zin 7 [] (aX10_read_155 mc ms X Q) X 155 → zin 7 [] (aX10_read_156 mc ms X Q) X 156 → X 0 0 0 av [] M
set_option maxRecDepth 100000 in
set_option maxHeartbeats 4000000 in
theorem sX10_read (l : Launch) (G : zG) (hE : zXt G) : zSnd l G yX10_read cX10_read 7 (some .boolean) 5 118 wX10_read := by
  refine zmk [0, 1, 2, 3] (by decide) (fun mc ms av M Q h => h.1) ?_
  intro p e R s m args below meth c mc ms av M Q hC hRf hRl hr hnm h lv hlv
  obtain ⟨X, hXe⟩ : ∃ X : Nat → zV, X = fun L u v vs st M => ∀ lv, zpick lv (lvX10_read L) = some vs → zAt p l e R s m args below meth c (MQ below (zQ G Q) args s mc ms (zA G)) G 7 L u v lv st M := ⟨_, rfl⟩
  have hJ : ∀ L, zOk p l e R s m args below meth c (MQ below (zQ G Q) args s mc ms (zA G)) G 7 L (zj X L (lvX10_read L)) := fun L => S_jump (fun u v lv vs st M hp hx => by rw [hXe] at hx; exact hx lv hp)
  have hB0 : zin 7 [0, 1, 2, 3] (aX10_read_0 mc ms X Q) X 0 := by
    intro u v vs st M hb
    rw [hXe]
    refine fun lv hp => S_block (L := 0) (live := [0, 1, 2, 3]) ?_ u v lv vs st M hp hb
    unfold aX10_read_0
    refine S_iload_n (pc := 0) hC dX10_read_0 rfl ?_
    refine S_iload_n (pc := 1) hC dX10_read_1 rfl ?_
    refine S_icmp_le (pc := 2) (tgt := 13) hC dX10_read_2 (by decide) ?_ ?_
    · exact hJ 13
    · refine S_iload_n (pc := 5) hC dX10_read_5 rfl ?_
      refine S_iload_n (pc := 6) hC dX10_read_6 rfl ?_
      refine S_isub (pc := 7) hC dX10_read_7 ?_
      refine S_bipush (pc := 8) hC dX10_read_8 (by decide) ?_
      refine S_icmp_le (pc := 10) (tgt := 15) hC dX10_read_10 (by decide) ?_ ?_
      · refine S_aload_n (pc := 15) hC dX10_read_15 rfl ?_
        refine S_iload_n (pc := 16) hC dX10_read_16 rfl ?_
        refine S_iconst (pc := 17) hC dX10_read_17 (by decide) ?_
        refine S_isub (pc := 18) hC dX10_read_18 ?_
        refine S_caload (pc := 19) hC dX10_read_19 ?_
        refine S_istore_N (pc := 20) hC dX10_read_20 (by decide) ?_
        unfold kX10_read_22
        refine S_aload_n (pc := 22) hC dX10_read_22 rfl ?_
        refine S_iload (pc := 23) hC dX10_read_23 ?_
        refine S_bipush (pc := 25) hC dX10_read_25 (by decide) ?_
        refine S_icmp_eq (pc := 27) (tgt := 37) hC dX10_read_27 (by decide) ?_ ?_
        · exact hJ 37
        · refine S_iload (pc := 30) hC dX10_read_30 ?_
          refine S_bipush (pc := 32) hC dX10_read_32 (by decide) ?_
          refine S_icmp_ne (pc := 34) (tgt := 42) hC dX10_read_34 (by decide) ?_ ?_
          · refine S_iconst (pc := 42) hC dX10_read_42 (by decide) ?_
            exact hJ 43
          · exact hJ 37
      · exact hJ 13
  have hB13 : zin 7 [] (aX10_read_13 mc ms X Q) X 13 := by
    intro u v vs st M hb
    rw [hXe]
    refine fun lv hp => S_block (L := 13) (live := []) ?_ u v lv vs st M hp hb
    unfold aX10_read_13
    refine S_iconst (pc := 13) hC dX10_read_13 (by decide) ?_
    exact S_zreturn (pc := 14) hC hr dX10_read_14
  have hB37 : zin 7 [0, 1, 2, 3, 4] (aX10_read_37 mc ms X Q) X 37 := by
    intro u v vs st M hb
    rw [hXe]
    refine fun lv hp => S_block (L := 37) (live := [0, 1, 2, 3, 4]) ?_ u v lv vs st M hp hb
    unfold aX10_read_37
    refine S_iload (pc := 37) hC dX10_read_37 ?_
    refine S_goto (pc := 39) (tgt := 43) hC dX10_read_39 (by decide) ?_
    exact hJ 43
  have hB43 : zin 7 [0, 1, 2, 3] (aX10_read_43 mc ms X Q) X 43 := by
    intro u v vs st M hb
    rw [hXe]
    refine fun lv hp => S_block (L := 43) (live := [0, 1, 2, 3]) ?_ u v lv vs st M hp hb
    unfold aX10_read_43
    refine S_puti (pc := 43) hC cfX10 (by decide) rfl (Or.inl rfl) wd_123 dX10_read_43 ?_
    refine S_aload_n (pc := 46) hC dX10_read_46 rfl ?_
    refine S_geti (pc := 47) hC cfX10 (by decide) (Or.inl rfl) wd_123 dX10_read_47 ?_
    refine S_if_ne (pc := 50) (tgt := 57) hC dX10_read_50 (by decide) ?_ ?_
    · refine S_iload_n (pc := 57) hC dX10_read_57 rfl ?_
      refine S_iconst (pc := 58) hC dX10_read_58 (by decide) ?_
      refine S_isub (pc := 59) hC dX10_read_59 ?_
      exact hJ 60
    · refine S_iload_n (pc := 53) hC dX10_read_53 rfl ?_
      refine S_goto (pc := 54) (tgt := 60) hC dX10_read_54 (by decide) ?_
      exact hJ 60
  have hB60 : zin 7 [0, 1, 2] (aX10_read_60 mc ms X Q) X 60 := by
    intro u v vs st M hb
    rw [hXe]
    refine fun lv hp => S_block (L := 60) (live := [0, 1, 2]) ?_ u v lv vs st M hp hb
    unfold aX10_read_60
    refine S_istore (pc := 60) hC dX10_read_60 (by decide) ?_
    refine S_aload_n (pc := 62) hC dX10_read_62 rfl ?_
    refine S_lconst (pc := 63) hC dX10_read_63 (by decide) ?_
    refine S_putl (pc := 64) hC cfX10 (by decide) rfl (Or.inl rfl) wd_121 dX10_read_64 ?_
    refine S_iload_n (pc := 67) hC dX10_read_67 rfl ?_
    refine S_istore (pc := 68) hC dX10_read_68 (by decide) ?_
    exact hJ 70
  have hB70 : zin 7 [0, 1, 2, 5, 6] (aX10_read_70 mc ms X Q) X 70 := by
    intro u v vs st M hb
    rw [hXe]
    refine fun lv hp => S_block (L := 70) (live := [0, 1, 2, 5, 6]) ?_ u v lv vs st M hp hb
    unfold aX10_read_70
    refine S_iload (pc := 70) hC dX10_read_70 ?_
    refine S_iload (pc := 72) hC dX10_read_72 ?_
    refine S_icmp_ge (pc := 74) (tgt := 100) hC dX10_read_74 (by decide) ?_ ?_
    · refine S_aload_n (pc := 100) hC dX10_read_100 rfl ?_
      refine S_aload_n (pc := 101) hC dX10_read_101 rfl ?_
      refine S_iload_n (pc := 102) hC dX10_read_102 rfl ?_
      refine S_iload (pc := 103) hC dX10_read_103 ?_
      refine S_callS (pc := 105) hC (sX10_readCastle l G) wd_882 wd_883 wd_5 wd_884 (by decide +kernel) ⟨by rw [hRf]; decide, by rw [hRl]; decide⟩ dX10_read_105 ?_
      unfold kX10_read_108
      refine S_puti (pc := 108) hC cfX10 (by decide) rfl (Or.inl rfl) wd_119 dX10_read_108 ?_
      refine S_aload_n (pc := 111) hC dX10_read_111 rfl ?_
      refine S_iconst (pc := 112) hC dX10_read_112 (by decide) ?_
      refine S_puti (pc := 113) hC cfX10 (by decide) rfl (Or.inl rfl) wd_117 dX10_read_113 ?_
      refine S_aload_n (pc := 116) hC dX10_read_116 rfl ?_
      refine S_geti (pc := 117) hC cfX10 (by decide) (Or.inl rfl) wd_119 dX10_read_117 ?_
      refine S_if_ne (pc := 120) (tgt := 151) hC dX10_read_120 (by decide) ?_ ?_
      · exact hJ 151
      · refine S_iload (pc := 123) hC dX10_read_123 ?_
        refine S_iload_n (pc := 125) hC dX10_read_125 rfl ?_
        refine S_icmp_le (pc := 126) (tgt := 155) hC dX10_read_126 (by decide) ?_ ?_
        · exact hJ 155
        · refine S_aload_n (pc := 129) hC dX10_read_129 rfl ?_
          refine S_aload_n (pc := 130) hC dX10_read_130 rfl ?_
          refine S_iload_n (pc := 131) hC dX10_read_131 rfl ?_
          refine S_iload (pc := 132) hC dX10_read_132 ?_
          refine S_callV (pc := 134) hC (sX10_readMan l G hE) rfl wd_885 wd_887 ws_34 wd_5 wd_888 (by decide +kernel) ⟨by rw [hRf]; decide, by rw [hRl]; decide⟩ dX10_read_134 ?_
          unfold kX10_read_137
          refine S_if_ne (pc := 137) (tgt := 151) hC dX10_read_137 (by decide) ?_ ?_
          · exact hJ 151
          · refine S_aload_n (pc := 140) hC dX10_read_140 rfl ?_
            refine S_aload_n (pc := 141) hC dX10_read_141 rfl ?_
            refine S_iload_n (pc := 142) hC dX10_read_142 rfl ?_
            refine S_iload (pc := 143) hC dX10_read_143 ?_
            refine S_callV (pc := 145) hC (sX10_readPawn l G hE) rfl wd_901 wd_903 ws_36 wd_5 wd_904 (by decide +kernel) ⟨by rw [hRf]; decide, by rw [hRl]; decide⟩ dX10_read_145 ?_
            unfold kX10_read_148
            refine S_if_eq (pc := 148) (tgt := 155) hC dX10_read_148 (by decide) ?_ ?_
            · exact hJ 155
            · exact hJ 151
    · refine S_aload_n (pc := 77) hC dX10_read_77 rfl ?_
      refine S_aload_n (pc := 78) hC dX10_read_78 rfl ?_
      refine S_getl (pc := 79) hC cfX10 (by decide) rfl wd_121 dX10_read_79 ?_
      refine S_bipush (pc := 82) hC dX10_read_82 (by decide) ?_
      refine S_lshl (pc := 84) hC dX10_read_84 ?_
      refine S_aload_n (pc := 85) hC dX10_read_85 rfl ?_
      refine S_iload (pc := 86) hC dX10_read_86 ?_
      refine S_caload (pc := 88) hC dX10_read_88 ?_
      refine S_i2l (pc := 89) hC dX10_read_89 ?_
      refine S_lor (pc := 90) hC dX10_read_90 ?_
      refine S_putl (pc := 91) hC cfX10 (by decide) rfl (Or.inl rfl) wd_121 dX10_read_91 ?_
      refine S_iinc (pc := 94) hC dX10_read_94 (by decide) (by decide) ?_
      refine S_goto (pc := 97) (tgt := 70) hC dX10_read_97 (by decide) ?_
      exact hJ 70
  have hB151 : zin 7 [] (aX10_read_151 mc ms X Q) X 151 := by
    intro u v vs st M hb
    rw [hXe]
    refine fun lv hp => S_block (L := 151) (live := []) ?_ u v lv vs st M hp hb
    unfold aX10_read_151
    refine S_iconst (pc := 151) hC dX10_read_151 (by decide) ?_
    refine S_goto (pc := 152) (tgt := 156) hC dX10_read_152 (by decide) ?_
    exact hJ 156
  have hB155 : zin 7 [] (aX10_read_155 mc ms X Q) X 155 := by
    intro u v vs st M hb
    rw [hXe]
    refine fun lv hp => S_block (L := 155) (live := []) ?_ u v lv vs st M hp hb
    unfold aX10_read_155
    refine S_iconst (pc := 155) hC dX10_read_155 (by decide) ?_
    exact hJ 156
  have hB156 : zin 7 [] (aX10_read_156 mc ms X Q) X 156 := by
    intro u v vs st M hb
    rw [hXe]
    refine fun lv hp => S_block (L := 156) (live := []) ?_ u v lv vs st M hp hb
    unfold aX10_read_156
    exact S_zreturn (pc := 156) hC hr dX10_read_156
  have := h.2 X hB0 hB13 hB37 hB43 hB60 hB70 hB151 hB155 hB156
  rw [hXe] at this
  exact this lv hlv
theorem vcX10_read_22 {mc ms : Nat} {X : Nat → zV} {Q : zQt} {M : zM} {g : Nat} {x2 : Int32} {x3 : Int32} {x4 : Int32} (hW : zWd M g)  (h : (x4 = (43 : Int32) → X 37 0 0 [.ref 28, .ref 24, .int x2, .int x3, .int x4] [.ref 28] M) ∧ (¬ x4 = (43 : Int32) → (x4 = (35 : Int32) → X 37 0 0 [.ref 28, .ref 24, .int x2, .int x3, .int x4] [.ref 28] M) ∧ (¬ x4 = (35 : Int32) → X 43 0 0 [.ref 28, .ref 24, .int x2, .int x3] [.int 0, .ref 28] M))) : kX10_read_22 mc ms X Q 0 0 [some (.ref 28), some (.ref 24), some (.int x2), some (.int x3), some (.int x4), none, none] [] M := ⟨fun c27 => (h.1 c27), fun c27 => ⟨fun c34 => ((h.2 c27).1 c34), fun c34 => ((h.2 c27).2 c34)⟩⟩
theorem vX10_read_0 {mc ms : Nat} {X : Nat → zV} {Q : zQt} {M : zM} {g : Nat} {x2 : Int32} {x3 : Int32} (hW : zWd M g)  (h : (x3 ≤ x2 → X 13 0 0 [] [] M) ∧ (¬ x3 ≤ x2 → ((x3 - x2) ≤ (7 : Int32) → vp_in ((x3 - (1 : Int32))) 8180 ∧ ∀ y20 : Int32, y20 = ((M : zM).1 24 ((x3 - (1 : Int32)) : Int32).toNatClampNeg) → (y20 = (43 : Int32) → X 37 0 0 [.ref 28, .ref 24, .int x2, .int x3, .int y20] [.ref 28] M) ∧ (¬ y20 = (43 : Int32) → (y20 = (35 : Int32) → X 37 0 0 [.ref 28, .ref 24, .int x2, .int x3, .int y20] [.ref 28] M) ∧ (¬ y20 = (35 : Int32) → X 43 0 0 [.ref 28, .ref 24, .int x2, .int x3] [.int 0, .ref 28] M))) ∧ (¬ (x3 - x2) ≤ (7 : Int32) → X 13 0 0 [] [] M))) : aX10_read_0 mc ms X Q 0 0 [some (.ref 28), some (.ref 24), some (.int x2), some (.int x3), none, none, none] [] M := ⟨fun c2 => (h.1 c2), fun c2 => ⟨fun c10 => ⟨8180, (fxs_24 hW.1), ((h.2 c2).1 c10).1, (fun y20 e20 => have h20 := ((h.2 c2).1 c10).2 y20 e20; (vcX10_read_22 hW  h20))⟩, fun c10 => ((h.2 c2).2 c10)⟩⟩
theorem vX10_read_13 {mc ms : Nat} {X : Nat → zV} {Q : zQt} {M : zM} {g : Nat}  (hW : zWd M g)  (h : Q (some (.int 0)) M) : aX10_read_13 mc ms X Q 0 0 [none, none, none, none, none, none, none] [] M := ⟨rfl, h⟩
theorem vX10_read_37 {mc ms : Nat} {X : Nat → zV} {Q : zQt} {M : zM} {g : Nat} {x2 : Int32} {x3 : Int32} {x4 : Int32} (hW : zWd M g)  (h : X 43 0 0 [.ref 28, .ref 24, .int x2, .int x3] [.int x4, .ref 28] M) : aX10_read_37 mc ms X Q 0 0 [some (.ref 28), some (.ref 24), some (.int x2), some (.int x3), some (.int x4), none, none] [.ref 28] M := h
theorem vX10_read_43 {mc ms : Nat} {X : Nat → zV} {Q : zQt} {M : zM} {g : Nat} {x2 : Int32} {x3 : Int32} {s0 : Int32} (hW : zWd M g)  (h : ∀ M43 : zM, M43 = (zsI M 28 5 s0) → ((M43.1 28 5) = 0 → X 60 0 0 [.ref 28, .ref 24, .int x2] [.int x3] M43) ∧ (¬ (M43.1 28 5) = 0 → X 60 0 0 [.ref 28, .ref 24, .int x2] [.int (x3 - (1 : Int32))] M43)) : aX10_read_43 mc ms X Q 0 0 [some (.ref 28), some (.ref 24), some (.int x2), some (.int x3), none, none, none] [.int s0, .ref 28] M := ⟨(fxs_28 hW.1), (have h43 := h _ rfl; ⟨(fxs_28 hW.1), ⟨fun c50 => (h43.1 c50), fun c50 => (h43.2 c50)⟩⟩)⟩
theorem vX10_read_60 {mc ms : Nat} {X : Nat → zV} {Q : zQt} {M : zM} {g : Nat} {x2 : Int32} {s0 : Int32} (hW : zWd M g)  (h : ∀ M64 : zM, M64 = (zsJ M 28 4 0) → X 70 0 0 [.ref 28, .ref 24, .int x2, .int s0, .int x2] [] M64) : aX10_read_60 mc ms X Q 0 0 [some (.ref 28), some (.ref 24), some (.int x2), none, none, none, none] [.int s0] M := ⟨(fxs_28 hW.1), (have h64 := h _ rfl; h64)⟩
theorem vX10_read_70 {mc ms : Nat} {X : Nat → zV} {Q : zQt} {M : zM} {g : Nat} {x2 : Int32} {x5 : Int32} {x6 : Int32} (hW : zWd M g)  (h : (x5 ≤ x6 → wX10_readCastle 0 0 [.ref 24, .int x2, .int x5] M (fun r M1 => kX10_read_108 mc ms X Q 0 0 [some (.ref 28), some (.ref 24), some (.int x2), none, none, some (.int x5), some (.int x6)] (r.toList ++ [.ref 28]) M1)) ∧ (¬ x5 ≤ x6 → vp_in x6 8180 ∧ ∀ M91 : zM, M91 = (zsJ M 28 4 ((((M.2.1 28 4) <<< ((8 : Int32).toInt64 &&& 63)) ||| (((M : zM).1 24 (x6 : Int32).toNatClampNeg) : Int32).toInt64))) → X 70 0 0 [.ref 28, .ref 24, .int x2, .int x5, .int (x6 + 1)] [] M91)) : aX10_read_70 mc ms X Q 0 0 [some (.ref 28), some (.ref 24), some (.int x2), none, none, some (.int x5), some (.int x6)] [] M := ⟨fun c74 => ⟨Nat.le_of_ble_eq_true rfl, rfl, 0, 0, Nat.zero_le _, Nat.zero_le _, (h.1 c74)⟩, fun c74 => ⟨(fxs_28 hW.1), ⟨8180, (fxs_24 hW.1), (h.2 c74).1, ⟨(fxs_28 hW.1), (have h91 := (h.2 c74).2 _ rfl; h91)⟩⟩⟩⟩
theorem vX10_read_151 {mc ms : Nat} {X : Nat → zV} {Q : zQt} {M : zM} {g : Nat}  (hW : zWd M g)  (h : X 156 0 0 [] [.int 1] M) : aX10_read_151 mc ms X Q 0 0 [none, none, none, none, none, none, none] [] M := h
theorem vX10_read_155 {mc ms : Nat} {X : Nat → zV} {Q : zQt} {M : zM} {g : Nat}  (hW : zWd M g)  (h : X 156 0 0 [] [.int 0] M) : aX10_read_155 mc ms X Q 0 0 [none, none, none, none, none, none, none] [] M := h
theorem vX10_read_156 {mc ms : Nat} {X : Nat → zV} {Q : zQt} {M : zM} {g : Nat} {s0 : Int32} (hW : zWd M g)  (h : narrow .boolean (.int s0) = .int s0 ∧ Q (some (.int s0)) M) : aX10_read_156 mc ms X Q 0 0 [none, none, none, none, none, none, none] [.int s0] M := h
theorem vkX10_read_108 {mc ms : Nat} {X : Nat → zV} {Q : zQt} {M : zM} {g : Nat} {x2 : Int32} {x5 : Int32} {x6 : Int32} {s0 : Int32} (hW : zWd M g)  (h : ∀ M108 : zM, M108 = (zsI M 28 3 s0) → ∀ M113 : zM, M113 = (zsI M108 28 2 0) → ((M113.1 28 3) = 0 → (x5 ≤ x2 → X 155 0 0 [] [] M113) ∧ (¬ x5 ≤ x2 → wX10_readMan 0 0 [.ref 28, .ref 24, .int x2, .int x5] M113 (fun r M1 => kX10_read_137 mc ms X Q 0 0 [some (.ref 28), some (.ref 24), some (.int x2), none, none, some (.int x5), some (.int x6)] (r.toList ++ []) M1))) ∧ (¬ (M113.1 28 3) = 0 → X 151 0 0 [] [] M113)) : kX10_read_108 mc ms X Q 0 0 [some (.ref 28), some (.ref 24), some (.int x2), none, none, some (.int x5), some (.int x6)] [.int s0, .ref 28] M := ⟨(fxs_28 hW.1), (have h108 := h _ rfl; ⟨(fxs_28 hW.1), (have h113 := h108 _ rfl; ⟨(fxs_28 hW.1), ⟨fun c120 => ⟨fun c126 => ((h113.1 c120).1 c126), fun c126 => ⟨Nat.le_of_ble_eq_true rfl, rfl, (fxs_28 hW.1), 0, 0, Nat.zero_le _, Nat.zero_le _, ((h113.1 c120).2 c126)⟩⟩, fun c120 => (h113.2 c120)⟩⟩)⟩)⟩
theorem vkX10_read_137 {mc ms : Nat} {X : Nat → zV} {Q : zQt} {M : zM} {g : Nat} {x2 : Int32} {x5 : Int32} {x6 : Int32} {s0 : Int32} (hW : zWd M g)  (h : (s0 = 0 → wX10_readPawn 0 0 [.ref 28, .ref 24, .int x2, .int x5] M (fun r M1 => kX10_read_148 mc ms X Q 0 0 [some (.ref 28), some (.ref 24), some (.int x2), none, none, some (.int x5), some (.int x6)] (r.toList ++ []) M1)) ∧ (¬ s0 = 0 → X 151 0 0 [] [] M)) : kX10_read_137 mc ms X Q 0 0 [some (.ref 28), some (.ref 24), some (.int x2), none, none, some (.int x5), some (.int x6)] [.int s0] M := ⟨fun c137 => ⟨Nat.le_of_ble_eq_true rfl, rfl, (fxs_28 hW.1), 0, 0, Nat.zero_le _, Nat.zero_le _, (h.1 c137)⟩, fun c137 => (h.2 c137)⟩
theorem vkX10_read_148 {mc ms : Nat} {X : Nat → zV} {Q : zQt} {M : zM} {g : Nat} {x2 : Int32} {x5 : Int32} {x6 : Int32} {s0 : Int32} (hW : zWd M g)  (h : (s0 = 0 → X 155 0 0 [] [] M) ∧ (¬ s0 = 0 → X 151 0 0 [] [] M)) : kX10_read_148 mc ms X Q 0 0 [some (.ref 28), some (.ref 24), some (.int x2), none, none, some (.int x5), some (.int x6)] [.int s0] M := ⟨fun c148 => (h.1 c148), fun c148 => (h.2 c148)⟩
