theorem dX13_manForm_0 : decode cX13_manForm 0 = .ok (.iload_n 2, 1) := by decide +kernel
theorem dX13_manForm_1 : decode cX13_manForm 1 = .ok (.iload_n 1, 1) := by decide +kernel
theorem dX13_manForm_2 : decode cX13_manForm 2 = .ok (.isub, 1) := by decide +kernel
theorem dX13_manForm_3 : decode cX13_manForm 3 = .ok (.iconst 2, 1) := by decide +kernel
theorem dX13_manForm_4 : decode cX13_manForm 4 = .ok (.if_icmp .lt 29, 3) := by decide +kernel
theorem dX13_manForm_7 : decode cX13_manForm 7 = .ok (.aload_n 0, 1) := by decide +kernel
theorem dX13_manForm_8 : decode cX13_manForm 8 = .ok (.iload_n 2, 1) := by decide +kernel
theorem dX13_manForm_9 : decode cX13_manForm 9 = .ok (.iconst 2, 1) := by decide +kernel
theorem dX13_manForm_10 : decode cX13_manForm 10 = .ok (.isub, 1) := by decide +kernel
theorem dX13_manForm_11 : decode cX13_manForm 11 = .ok (.invokevirtual 255, 3) := by decide +kernel
theorem dX13_manForm_14 : decode cX13_manForm 14 = .ok (.invokestatic 267, 3) := by decide +kernel
theorem dX13_manForm_17 : decode cX13_manForm 17 = .ok (.ifCond .eq 16, 3) := by decide +kernel
theorem dX13_manForm_20 : decode cX13_manForm 20 = .ok (.aload_n 0, 1) := by decide +kernel
theorem dX13_manForm_21 : decode cX13_manForm 21 = .ok (.iload_n 2, 1) := by decide +kernel
theorem dX13_manForm_22 : decode cX13_manForm 22 = .ok (.iconst 1, 1) := by decide +kernel
theorem dX13_manForm_23 : decode cX13_manForm 23 = .ok (.isub, 1) := by decide +kernel
theorem dX13_manForm_24 : decode cX13_manForm 24 = .ok (.invokevirtual 255, 3) := by decide +kernel
theorem dX13_manForm_27 : decode cX13_manForm 27 = .ok (.invokestatic 270, 3) := by decide +kernel
theorem dX13_manForm_30 : decode cX13_manForm 30 = .ok (.ifCond .ne 5, 3) := by decide +kernel
theorem dX13_manForm_33 : decode cX13_manForm 33 = .ok (.iconst 0, 1) := by decide +kernel
theorem dX13_manForm_34 : decode cX13_manForm 34 = .ok (.ireturn, 1) := by decide +kernel
theorem dX13_manForm_35 : decode cX13_manForm 35 = .ok (.iload_n 1, 1) := by decide +kernel
theorem dX13_manForm_36 : decode cX13_manForm 36 = .ok (.istore_n 3, 1) := by decide +kernel
theorem dX13_manForm_37 : decode cX13_manForm 37 = .ok (.iload_n 3, 1) := by decide +kernel
theorem dX13_manForm_38 : decode cX13_manForm 38 = .ok (.iload_n 3, 1) := by decide +kernel
theorem dX13_manForm_39 : decode cX13_manForm 39 = .ok (.iload_n 2, 1) := by decide +kernel
theorem dX13_manForm_40 : decode cX13_manForm 40 = .ok (.iconst 2, 1) := by decide +kernel
theorem dX13_manForm_41 : decode cX13_manForm 41 = .ok (.isub, 1) := by decide +kernel
theorem dX13_manForm_42 : decode cX13_manForm 42 = .ok (.if_icmp .ge 18, 3) := by decide +kernel
theorem dX13_manForm_45 : decode cX13_manForm 45 = .ok (.aload_n 0, 1) := by decide +kernel
theorem dX13_manForm_46 : decode cX13_manForm 46 = .ok (.iload_n 3, 1) := by decide +kernel
theorem dX13_manForm_47 : decode cX13_manForm 47 = .ok (.invokevirtual 255, 3) := by decide +kernel
theorem dX13_manForm_50 : decode cX13_manForm 50 = .ok (.invokestatic 267, 3) := by decide +kernel
theorem dX13_manForm_53 : decode cX13_manForm 53 = .ok (.ifCond .eq 7, 3) := by decide +kernel
theorem dX13_manForm_56 : decode cX13_manForm 56 = .ok (.iconst 1, 1) := by decide +kernel
theorem dX13_manForm_57 : decode cX13_manForm 57 = .ok (.goto 4, 3) := by decide +kernel
theorem dX13_manForm_60 : decode cX13_manForm 60 = .ok (.iconst 0, 1) := by decide +kernel
theorem dX13_manForm_61 : decode cX13_manForm 61 = .ok (.iadd, 1) := by decide +kernel
theorem dX13_manForm_62 : decode cX13_manForm 62 = .ok (.istore_n 3, 1) := by decide +kernel
theorem dX13_manForm_63 : decode cX13_manForm 63 = .ok (.iload_n 3, 1) := by decide +kernel
theorem dX13_manForm_64 : decode cX13_manForm 64 = .ok (.iload_n 3, 1) := by decide +kernel
theorem dX13_manForm_65 : decode cX13_manForm 65 = .ok (.iload_n 2, 1) := by decide +kernel
theorem dX13_manForm_66 : decode cX13_manForm 66 = .ok (.iconst 2, 1) := by decide +kernel
theorem dX13_manForm_67 : decode cX13_manForm 67 = .ok (.isub, 1) := by decide +kernel
theorem dX13_manForm_68 : decode cX13_manForm 68 = .ok (.if_icmp .ge 18, 3) := by decide +kernel
theorem dX13_manForm_71 : decode cX13_manForm 71 = .ok (.aload_n 0, 1) := by decide +kernel
theorem dX13_manForm_72 : decode cX13_manForm 72 = .ok (.iload_n 3, 1) := by decide +kernel
theorem dX13_manForm_73 : decode cX13_manForm 73 = .ok (.invokevirtual 255, 3) := by decide +kernel
theorem dX13_manForm_76 : decode cX13_manForm 76 = .ok (.invokestatic 270, 3) := by decide +kernel
theorem dX13_manForm_79 : decode cX13_manForm 79 = .ok (.ifCond .eq 7, 3) := by decide +kernel
theorem dX13_manForm_82 : decode cX13_manForm 82 = .ok (.iconst 1, 1) := by decide +kernel
theorem dX13_manForm_83 : decode cX13_manForm 83 = .ok (.goto 4, 3) := by decide +kernel
theorem dX13_manForm_86 : decode cX13_manForm 86 = .ok (.iconst 0, 1) := by decide +kernel
theorem dX13_manForm_87 : decode cX13_manForm 87 = .ok (.iadd, 1) := by decide +kernel
theorem dX13_manForm_88 : decode cX13_manForm 88 = .ok (.istore_n 3, 1) := by decide +kernel
theorem dX13_manForm_89 : decode cX13_manForm 89 = .ok (.iload_n 3, 1) := by decide +kernel
theorem dX13_manForm_90 : decode cX13_manForm 90 = .ok (.iload_n 3, 1) := by decide +kernel
theorem dX13_manForm_91 : decode cX13_manForm 91 = .ok (.iload_n 2, 1) := by decide +kernel
theorem dX13_manForm_92 : decode cX13_manForm 92 = .ok (.iconst 2, 1) := by decide +kernel
theorem dX13_manForm_93 : decode cX13_manForm 93 = .ok (.isub, 1) := by decide +kernel
theorem dX13_manForm_94 : decode cX13_manForm 94 = .ok (.if_icmp .ge 17, 3) := by decide +kernel
theorem dX13_manForm_97 : decode cX13_manForm 97 = .ok (.aload_n 0, 1) := by decide +kernel
theorem dX13_manForm_98 : decode cX13_manForm 98 = .ok (.iload_n 3, 1) := by decide +kernel
theorem dX13_manForm_99 : decode cX13_manForm 99 = .ok (.invokevirtual 255, 3) := by decide +kernel
theorem dX13_manForm_102 : decode cX13_manForm 102 = .ok (.bipush 120, 2) := by decide +kernel
theorem dX13_manForm_104 : decode cX13_manForm 104 = .ok (.if_icmp .ne 7, 3) := by decide +kernel
theorem dX13_manForm_107 : decode cX13_manForm 107 = .ok (.iconst 1, 1) := by decide +kernel
theorem dX13_manForm_108 : decode cX13_manForm 108 = .ok (.goto 4, 3) := by decide +kernel
theorem dX13_manForm_111 : decode cX13_manForm 111 = .ok (.iconst 0, 1) := by decide +kernel
theorem dX13_manForm_112 : decode cX13_manForm 112 = .ok (.iadd, 1) := by decide +kernel
theorem dX13_manForm_113 : decode cX13_manForm 113 = .ok (.istore_n 3, 1) := by decide +kernel
theorem dX13_manForm_114 : decode cX13_manForm 114 = .ok (.iload_n 3, 1) := by decide +kernel
theorem dX13_manForm_115 : decode cX13_manForm 115 = .ok (.iload_n 2, 1) := by decide +kernel
theorem dX13_manForm_116 : decode cX13_manForm 116 = .ok (.iconst 2, 1) := by decide +kernel
theorem dX13_manForm_117 : decode cX13_manForm 117 = .ok (.isub, 1) := by decide +kernel
theorem dX13_manForm_118 : decode cX13_manForm 118 = .ok (.if_icmp .ne 7, 3) := by decide +kernel
theorem dX13_manForm_121 : decode cX13_manForm 121 = .ok (.iconst 1, 1) := by decide +kernel
theorem dX13_manForm_122 : decode cX13_manForm 122 = .ok (.goto 4, 3) := by decide +kernel
theorem dX13_manForm_125 : decode cX13_manForm 125 = .ok (.iconst 0, 1) := by decide +kernel
theorem dX13_manForm_126 : decode cX13_manForm 126 = .ok (.ireturn, 1) := by decide +kernel
def kX13_manForm_53 (mc ms : Nat) (X : Nat → zV) (Q : zQt) : zT :=
  zif (fun x => x = 0) (zj X 60 [0, 2]) <| zc (.int 1) <| zj X 61 [0, 2]
def kX13_manForm_50 (mc ms : Nat) (X : Nat → zV) (Q : zQt) : zT :=
  zcs mc ms 1 wX13_isFile <| kX13_manForm_53 mc ms X Q
def kX13_manForm_30 (mc ms : Nat) (X : Nat → zV) (Q : zQt) : zT :=
  zif (fun x => x = 0) (zj X 33 []) <| zli 1 <| zsi 3 <| zli 3 <| zli 3 <| zli 2 <| zc (.int 2) <| zii (fun x y => x - y) <| zic (fun x y => y ≤ x) (zj X 60 [0, 2]) <| zla 0 <| zli 3 <| zcv mc ms 13 1 wX13_sign <| kX13_manForm_50 mc ms X Q
def kX13_manForm_27 (mc ms : Nat) (X : Nat → zV) (Q : zQt) : zT :=
  zcs mc ms 1 wX13_isRank <| kX13_manForm_30 mc ms X Q
def kX13_manForm_17 (mc ms : Nat) (X : Nat → zV) (Q : zQt) : zT :=
  zif (fun x => x = 0) (zj X 33 []) <| zla 0 <| zli 2 <| zc (.int 1) <| zii (fun x y => x - y) <| zcv mc ms 13 1 wX13_sign <| kX13_manForm_27 mc ms X Q
def kX13_manForm_14 (mc ms : Nat) (X : Nat → zV) (Q : zQt) : zT :=
  zcs mc ms 1 wX13_isFile <| kX13_manForm_17 mc ms X Q
def kX13_manForm_79 (mc ms : Nat) (X : Nat → zV) (Q : zQt) : zT :=
  zif (fun x => x = 0) (zj X 86 [0, 2]) <| zc (.int 1) <| zj X 87 [0, 2]
def kX13_manForm_76 (mc ms : Nat) (X : Nat → zV) (Q : zQt) : zT :=
  zcs mc ms 1 wX13_isRank <| kX13_manForm_79 mc ms X Q
def kX13_manForm_102 (mc ms : Nat) (X : Nat → zV) (Q : zQt) : zT :=
  zc (.int 120) <| zic (fun x y => x = y) (zc (.int 1) <| zj X 112 [2]) <| zj X 111 [2]
def aX13_manForm_0 (mc ms : Nat) (X : Nat → zV) (Q : zQt) : zT :=
  zli 2 <| zli 1 <| zii (fun x y => x - y) <| zc (.int 2) <| zic (fun x y => x < y) (zj X 33 []) <| zla 0 <| zli 2 <| zc (.int 2) <| zii (fun x y => x - y) <| zcv mc ms 13 1 wX13_sign <| kX13_manForm_14 mc ms X Q
def aX13_manForm_33 (mc ms : Nat) (X : Nat → zV) (Q : zQt) : zT :=
  zc (.int 0) <| zrz .boolean Q
def aX13_manForm_60 (mc ms : Nat) (X : Nat → zV) (Q : zQt) : zT :=
  zc (.int 0) <| zj X 61 [0, 2]
def aX13_manForm_61 (mc ms : Nat) (X : Nat → zV) (Q : zQt) : zT :=
  zii (fun x y => x + y) <| zsi 3 <| zli 3 <| zli 3 <| zli 2 <| zc (.int 2) <| zii (fun x y => x - y) <| zic (fun x y => y ≤ x) (zj X 86 [0, 2]) <| zla 0 <| zli 3 <| zcv mc ms 13 1 wX13_sign <| kX13_manForm_76 mc ms X Q
def aX13_manForm_86 (mc ms : Nat) (X : Nat → zV) (Q : zQt) : zT :=
  zc (.int 0) <| zj X 87 [0, 2]
def aX13_manForm_87 (mc ms : Nat) (X : Nat → zV) (Q : zQt) : zT :=
  zii (fun x y => x + y) <| zsi 3 <| zli 3 <| zli 3 <| zli 2 <| zc (.int 2) <| zii (fun x y => x - y) <| zic (fun x y => y ≤ x) (zj X 111 [2]) <| zla 0 <| zli 3 <| zcv mc ms 13 1 wX13_sign <| kX13_manForm_102 mc ms X Q
def aX13_manForm_111 (mc ms : Nat) (X : Nat → zV) (Q : zQt) : zT :=
  zc (.int 0) <| zj X 112 [2]
def aX13_manForm_112 (mc ms : Nat) (X : Nat → zV) (Q : zQt) : zT :=
  zii (fun x y => x + y) <| zsi 3 <| zli 3 <| zli 2 <| zc (.int 2) <| zii (fun x y => x - y) <| zic (fun x y => x = y) (zc (.int 1) <| zj X 126 []) <| zc (.int 0) <| zj X 126 []
def aX13_manForm_126 (mc ms : Nat) (X : Nat → zV) (Q : zQt) : zT :=
  zrz .boolean Q
def lvX13_manForm : Nat → List Nat := fun L => match L with
  | 0 => [0, 1, 2]
  | 33 => []
  | 60 => [0, 2]
  | 61 => [0, 2]
  | 86 => [0, 2]
  | 87 => [0, 2]
  | 111 => [2]
  | 112 => [2]
  | 126 => []
  | _ => []
def wX13_manForm : zSp := fun mc ms av M Q => ((zlay av).length ≤ 4 ∧ zpick (zlay av) [0, 1, 2] = some av) ∧ ∀ X : Nat → zV, zin 4 [0, 1, 2] (aX13_manForm_0 mc ms X Q) X 0 → zin 4 [] (aX13_manForm_33 mc ms X Q) X 33 → zin 4 [0, 2] (aX13_manForm_60 mc ms X Q) X 60 → zin 4 [0, 2] (aX13_manForm_61 mc ms X Q) X 61 → zin 4 [0, 2] (aX13_manForm_86 mc ms X Q) X 86 → zin 4 [0, 2] (aX13_manForm_87 mc ms X Q) X 87 → zin 4 [2] (aX13_manForm_111 mc ms X Q) X 111 → zin 4 [2] (aX13_manForm_112 mc ms X Q) X 112 → zin 4 [] (aX13_manForm_126 mc ms X Q) X 126 → X 0 0 0 av [] M
set_option maxRecDepth 100000 in
set_option maxHeartbeats 4000000 in
theorem sX13_manForm (l : Launch) (G : zG) : zSnd l G yX13_manForm cX13_manForm 4 (some .boolean) 1 21 wX13_manForm := by
  refine zmk [0, 1, 2] (by decide) (fun mc ms av M Q h => h.1) ?_
  intro p e R s m args below meth c mc ms av M Q hC hRf hRl hr hnm h lv hlv
  obtain ⟨X, hXe⟩ : ∃ X : Nat → zV, X = fun L u v vs st M => ∀ lv, zpick lv (lvX13_manForm L) = some vs → zAt p l e R s m args below meth c (MQ below (zQ G Q) args s mc ms (zA G)) G 4 L u v lv st M := ⟨_, rfl⟩
  have hJ : ∀ L, zOk p l e R s m args below meth c (MQ below (zQ G Q) args s mc ms (zA G)) G 4 L (zj X L (lvX13_manForm L)) := fun L => S_jump (fun u v lv vs st M hp hx => by rw [hXe] at hx; exact hx lv hp)
  have hB0 : zin 4 [0, 1, 2] (aX13_manForm_0 mc ms X Q) X 0 := by
    intro u v vs st M hb
    rw [hXe]
    refine fun lv hp => S_block (L := 0) (live := [0, 1, 2]) ?_ u v lv vs st M hp hb
    unfold aX13_manForm_0
    refine S_iload_n (pc := 0) hC dX13_manForm_0 rfl ?_
    refine S_iload_n (pc := 1) hC dX13_manForm_1 rfl ?_
    refine S_isub (pc := 2) hC dX13_manForm_2 ?_
    refine S_iconst (pc := 3) hC dX13_manForm_3 (by decide) ?_
    refine S_icmp_lt (pc := 4) (tgt := 33) hC dX13_manForm_4 (by decide) ?_ ?_
    · exact hJ 33
    · refine S_aload_n (pc := 7) hC dX13_manForm_7 rfl ?_
      refine S_iload_n (pc := 8) hC dX13_manForm_8 rfl ?_
      refine S_iconst (pc := 9) hC dX13_manForm_9 (by decide) ?_
      refine S_isub (pc := 10) hC dX13_manForm_10 ?_
      refine S_callV (pc := 11) hC (sX13_sign l G) rfl wd_1516 wd_1518 ws_88 wd_12 wd_1519 (by decide +kernel) ⟨by rw [hRf]; decide, by rw [hRl]; decide⟩ dX13_manForm_11 ?_
      unfold kX13_manForm_14
      refine S_callS (pc := 14) hC (sX13_isFile l G) wd_1531 wd_1532 wd_12 wd_1533 (by decide +kernel) ⟨by rw [hRf]; decide, by rw [hRl]; decide⟩ dX13_manForm_14 ?_
      unfold kX13_manForm_17
      refine S_if_eq (pc := 17) (tgt := 33) hC dX13_manForm_17 (by decide) ?_ ?_
      · exact hJ 33
      · refine S_aload_n (pc := 20) hC dX13_manForm_20 rfl ?_
        refine S_iload_n (pc := 21) hC dX13_manForm_21 rfl ?_
        refine S_iconst (pc := 22) hC dX13_manForm_22 (by decide) ?_
        refine S_isub (pc := 23) hC dX13_manForm_23 ?_
        refine S_callV (pc := 24) hC (sX13_sign l G) rfl wd_1516 wd_1518 ws_88 wd_12 wd_1519 (by decide +kernel) ⟨by rw [hRf]; decide, by rw [hRl]; decide⟩ dX13_manForm_24 ?_
        unfold kX13_manForm_27
        refine S_callS (pc := 27) hC (sX13_isRank l G) wd_1534 wd_1535 wd_12 wd_1536 (by decide +kernel) ⟨by rw [hRf]; decide, by rw [hRl]; decide⟩ dX13_manForm_27 ?_
        unfold kX13_manForm_30
        refine S_if_ne (pc := 30) (tgt := 35) hC dX13_manForm_30 (by decide) ?_ ?_
        · refine S_iload_n (pc := 35) hC dX13_manForm_35 rfl ?_
          refine S_istore_n (pc := 36) hC dX13_manForm_36 rfl (by decide) ?_
          refine S_iload_n (pc := 37) hC dX13_manForm_37 rfl ?_
          refine S_iload_n (pc := 38) hC dX13_manForm_38 rfl ?_
          refine S_iload_n (pc := 39) hC dX13_manForm_39 rfl ?_
          refine S_iconst (pc := 40) hC dX13_manForm_40 (by decide) ?_
          refine S_isub (pc := 41) hC dX13_manForm_41 ?_
          refine S_icmp_ge (pc := 42) (tgt := 60) hC dX13_manForm_42 (by decide) ?_ ?_
          · exact hJ 60
          · refine S_aload_n (pc := 45) hC dX13_manForm_45 rfl ?_
            refine S_iload_n (pc := 46) hC dX13_manForm_46 rfl ?_
            refine S_callV (pc := 47) hC (sX13_sign l G) rfl wd_1516 wd_1518 ws_88 wd_12 wd_1519 (by decide +kernel) ⟨by rw [hRf]; decide, by rw [hRl]; decide⟩ dX13_manForm_47 ?_
            unfold kX13_manForm_50
            refine S_callS (pc := 50) hC (sX13_isFile l G) wd_1531 wd_1532 wd_12 wd_1533 (by decide +kernel) ⟨by rw [hRf]; decide, by rw [hRl]; decide⟩ dX13_manForm_50 ?_
            unfold kX13_manForm_53
            refine S_if_eq (pc := 53) (tgt := 60) hC dX13_manForm_53 (by decide) ?_ ?_
            · exact hJ 60
            · refine S_iconst (pc := 56) hC dX13_manForm_56 (by decide) ?_
              refine S_goto (pc := 57) (tgt := 61) hC dX13_manForm_57 (by decide) ?_
              exact hJ 61
        · exact hJ 33
  have hB33 : zin 4 [] (aX13_manForm_33 mc ms X Q) X 33 := by
    intro u v vs st M hb
    rw [hXe]
    refine fun lv hp => S_block (L := 33) (live := []) ?_ u v lv vs st M hp hb
    unfold aX13_manForm_33
    refine S_iconst (pc := 33) hC dX13_manForm_33 (by decide) ?_
    exact S_zreturn (pc := 34) hC hr dX13_manForm_34
  have hB60 : zin 4 [0, 2] (aX13_manForm_60 mc ms X Q) X 60 := by
    intro u v vs st M hb
    rw [hXe]
    refine fun lv hp => S_block (L := 60) (live := [0, 2]) ?_ u v lv vs st M hp hb
    unfold aX13_manForm_60
    refine S_iconst (pc := 60) hC dX13_manForm_60 (by decide) ?_
    exact hJ 61
  have hB61 : zin 4 [0, 2] (aX13_manForm_61 mc ms X Q) X 61 := by
    intro u v vs st M hb
    rw [hXe]
    refine fun lv hp => S_block (L := 61) (live := [0, 2]) ?_ u v lv vs st M hp hb
    unfold aX13_manForm_61
    refine S_iadd (pc := 61) hC dX13_manForm_61 ?_
    refine S_istore_n (pc := 62) hC dX13_manForm_62 rfl (by decide) ?_
    refine S_iload_n (pc := 63) hC dX13_manForm_63 rfl ?_
    refine S_iload_n (pc := 64) hC dX13_manForm_64 rfl ?_
    refine S_iload_n (pc := 65) hC dX13_manForm_65 rfl ?_
    refine S_iconst (pc := 66) hC dX13_manForm_66 (by decide) ?_
    refine S_isub (pc := 67) hC dX13_manForm_67 ?_
    refine S_icmp_ge (pc := 68) (tgt := 86) hC dX13_manForm_68 (by decide) ?_ ?_
    · exact hJ 86
    · refine S_aload_n (pc := 71) hC dX13_manForm_71 rfl ?_
      refine S_iload_n (pc := 72) hC dX13_manForm_72 rfl ?_
      refine S_callV (pc := 73) hC (sX13_sign l G) rfl wd_1516 wd_1518 ws_88 wd_12 wd_1519 (by decide +kernel) ⟨by rw [hRf]; decide, by rw [hRl]; decide⟩ dX13_manForm_73 ?_
      unfold kX13_manForm_76
      refine S_callS (pc := 76) hC (sX13_isRank l G) wd_1534 wd_1535 wd_12 wd_1536 (by decide +kernel) ⟨by rw [hRf]; decide, by rw [hRl]; decide⟩ dX13_manForm_76 ?_
      unfold kX13_manForm_79
      refine S_if_eq (pc := 79) (tgt := 86) hC dX13_manForm_79 (by decide) ?_ ?_
      · exact hJ 86
      · refine S_iconst (pc := 82) hC dX13_manForm_82 (by decide) ?_
        refine S_goto (pc := 83) (tgt := 87) hC dX13_manForm_83 (by decide) ?_
        exact hJ 87
  have hB86 : zin 4 [0, 2] (aX13_manForm_86 mc ms X Q) X 86 := by
    intro u v vs st M hb
    rw [hXe]
    refine fun lv hp => S_block (L := 86) (live := [0, 2]) ?_ u v lv vs st M hp hb
    unfold aX13_manForm_86
    refine S_iconst (pc := 86) hC dX13_manForm_86 (by decide) ?_
    exact hJ 87
  have hB87 : zin 4 [0, 2] (aX13_manForm_87 mc ms X Q) X 87 := by
    intro u v vs st M hb
    rw [hXe]
    refine fun lv hp => S_block (L := 87) (live := [0, 2]) ?_ u v lv vs st M hp hb
    unfold aX13_manForm_87
    refine S_iadd (pc := 87) hC dX13_manForm_87 ?_
    refine S_istore_n (pc := 88) hC dX13_manForm_88 rfl (by decide) ?_
    refine S_iload_n (pc := 89) hC dX13_manForm_89 rfl ?_
    refine S_iload_n (pc := 90) hC dX13_manForm_90 rfl ?_
    refine S_iload_n (pc := 91) hC dX13_manForm_91 rfl ?_
    refine S_iconst (pc := 92) hC dX13_manForm_92 (by decide) ?_
    refine S_isub (pc := 93) hC dX13_manForm_93 ?_
    refine S_icmp_ge (pc := 94) (tgt := 111) hC dX13_manForm_94 (by decide) ?_ ?_
    · exact hJ 111
    · refine S_aload_n (pc := 97) hC dX13_manForm_97 rfl ?_
      refine S_iload_n (pc := 98) hC dX13_manForm_98 rfl ?_
      refine S_callV (pc := 99) hC (sX13_sign l G) rfl wd_1516 wd_1518 ws_88 wd_12 wd_1519 (by decide +kernel) ⟨by rw [hRf]; decide, by rw [hRl]; decide⟩ dX13_manForm_99 ?_
      unfold kX13_manForm_102
      refine S_bipush (pc := 102) hC dX13_manForm_102 (by decide) ?_
      refine S_icmp_ne (pc := 104) (tgt := 111) hC dX13_manForm_104 (by decide) ?_ ?_
      · exact hJ 111
      · refine S_iconst (pc := 107) hC dX13_manForm_107 (by decide) ?_
        refine S_goto (pc := 108) (tgt := 112) hC dX13_manForm_108 (by decide) ?_
        exact hJ 112
  have hB111 : zin 4 [2] (aX13_manForm_111 mc ms X Q) X 111 := by
    intro u v vs st M hb
    rw [hXe]
    refine fun lv hp => S_block (L := 111) (live := [2]) ?_ u v lv vs st M hp hb
    unfold aX13_manForm_111
    refine S_iconst (pc := 111) hC dX13_manForm_111 (by decide) ?_
    exact hJ 112
  have hB112 : zin 4 [2] (aX13_manForm_112 mc ms X Q) X 112 := by
    intro u v vs st M hb
    rw [hXe]
    refine fun lv hp => S_block (L := 112) (live := [2]) ?_ u v lv vs st M hp hb
    unfold aX13_manForm_112
    refine S_iadd (pc := 112) hC dX13_manForm_112 ?_
    refine S_istore_n (pc := 113) hC dX13_manForm_113 rfl (by decide) ?_
    refine S_iload_n (pc := 114) hC dX13_manForm_114 rfl ?_
    refine S_iload_n (pc := 115) hC dX13_manForm_115 rfl ?_
    refine S_iconst (pc := 116) hC dX13_manForm_116 (by decide) ?_
    refine S_isub (pc := 117) hC dX13_manForm_117 ?_
    refine S_icmp_ne (pc := 118) (tgt := 125) hC dX13_manForm_118 (by decide) ?_ ?_
    · refine S_iconst (pc := 125) hC dX13_manForm_125 (by decide) ?_
      exact hJ 126
    · refine S_iconst (pc := 121) hC dX13_manForm_121 (by decide) ?_
      refine S_goto (pc := 122) (tgt := 126) hC dX13_manForm_122 (by decide) ?_
      exact hJ 126
  have hB126 : zin 4 [] (aX13_manForm_126 mc ms X Q) X 126 := by
    intro u v vs st M hb
    rw [hXe]
    refine fun lv hp => S_block (L := 126) (live := []) ?_ u v lv vs st M hp hb
    unfold aX13_manForm_126
    exact S_zreturn (pc := 126) hC hr dX13_manForm_126
  have := h.2 X hB0 hB33 hB60 hB61 hB86 hB87 hB111 hB112 hB126
  rw [hXe] at this
  exact this lv hlv
theorem vX13_manForm_0 {mc ms : Nat} {X : Nat → zV} {Q : zQt} {M : zM} {x1 : Int32} {x2 : Int32} (hW : zFix M)  (h : ((x2 - x1) < (2 : Int32) → X 33 0 0 [] [] M) ∧ (¬ (x2 - x1) < (2 : Int32) → wX13_sign 0 0 [.ref 55, .int (x2 - (2 : Int32))] M (fun r M1 => kX13_manForm_14 mc ms X Q 0 0 [some (.ref 55), some (.int x1), some (.int x2), none] (r.toList ++ []) M1))) : aX13_manForm_0 mc ms X Q 0 0 [some (.ref 55), some (.int x1), some (.int x2), none] [] M := ⟨fun c4 => (h.1 c4), fun c4 => ⟨Nat.le_of_ble_eq_true rfl, rfl, (fxs_55 hW), 0, 0, Nat.zero_le _, Nat.zero_le _, (h.2 c4)⟩⟩
theorem vX13_manForm_33 {mc ms : Nat} {X : Nat → zV} {Q : zQt} {M : zM}  (hW : zFix M)  (h : Q (some (.int 0)) M) : aX13_manForm_33 mc ms X Q 0 0 [none, none, none, none] [] M := ⟨rfl, h⟩
theorem vX13_manForm_60 {mc ms : Nat} {X : Nat → zV} {Q : zQt} {M : zM} {x2 : Int32} {s0 : Int32} (hW : zFix M)  (h : X 61 0 0 [.ref 55, .int x2] [.int 0, .int s0] M) : aX13_manForm_60 mc ms X Q 0 0 [some (.ref 55), none, some (.int x2), none] [.int s0] M := h
theorem vX13_manForm_61 {mc ms : Nat} {X : Nat → zV} {Q : zQt} {M : zM} {x2 : Int32} {s0 : Int32} {s1 : Int32} (hW : zFix M)  (h : ((x2 - (2 : Int32)) ≤ (s1 + s0) → X 86 0 0 [.ref 55, .int x2] [.int (s1 + s0)] M) ∧ (¬ (x2 - (2 : Int32)) ≤ (s1 + s0) → wX13_sign 0 0 [.ref 55, .int (s1 + s0)] M (fun r M1 => kX13_manForm_76 mc ms X Q 0 0 [some (.ref 55), none, some (.int x2), some (.int (s1 + s0))] (r.toList ++ [.int (s1 + s0)]) M1))) : aX13_manForm_61 mc ms X Q 0 0 [some (.ref 55), none, some (.int x2), none] [.int s0, .int s1] M := ⟨fun c68 => (h.1 c68), fun c68 => ⟨Nat.le_of_ble_eq_true rfl, rfl, (fxs_55 hW), 0, 0, Nat.zero_le _, Nat.zero_le _, (h.2 c68)⟩⟩
theorem vX13_manForm_86 {mc ms : Nat} {X : Nat → zV} {Q : zQt} {M : zM} {x2 : Int32} {s0 : Int32} (hW : zFix M)  (h : X 87 0 0 [.ref 55, .int x2] [.int 0, .int s0] M) : aX13_manForm_86 mc ms X Q 0 0 [some (.ref 55), none, some (.int x2), none] [.int s0] M := h
theorem vX13_manForm_87 {mc ms : Nat} {X : Nat → zV} {Q : zQt} {M : zM} {x2 : Int32} {s0 : Int32} {s1 : Int32} (hW : zFix M)  (h : ((x2 - (2 : Int32)) ≤ (s1 + s0) → X 111 0 0 [.int x2] [.int (s1 + s0)] M) ∧ (¬ (x2 - (2 : Int32)) ≤ (s1 + s0) → wX13_sign 0 0 [.ref 55, .int (s1 + s0)] M (fun r M1 => kX13_manForm_102 mc ms X Q 0 0 [some (.ref 55), none, some (.int x2), some (.int (s1 + s0))] (r.toList ++ [.int (s1 + s0)]) M1))) : aX13_manForm_87 mc ms X Q 0 0 [some (.ref 55), none, some (.int x2), none] [.int s0, .int s1] M := ⟨fun c94 => (h.1 c94), fun c94 => ⟨Nat.le_of_ble_eq_true rfl, rfl, (fxs_55 hW), 0, 0, Nat.zero_le _, Nat.zero_le _, (h.2 c94)⟩⟩
theorem vX13_manForm_111 {mc ms : Nat} {X : Nat → zV} {Q : zQt} {M : zM} {x2 : Int32} {s0 : Int32} (hW : zFix M)  (h : X 112 0 0 [.int x2] [.int 0, .int s0] M) : aX13_manForm_111 mc ms X Q 0 0 [none, none, some (.int x2), none] [.int s0] M := h
theorem vX13_manForm_112 {mc ms : Nat} {X : Nat → zV} {Q : zQt} {M : zM} {x2 : Int32} {s0 : Int32} {s1 : Int32} (hW : zFix M)  (h : ((s1 + s0) = (x2 - (2 : Int32)) → X 126 0 0 [] [.int 1] M) ∧ (¬ (s1 + s0) = (x2 - (2 : Int32)) → X 126 0 0 [] [.int 0] M)) : aX13_manForm_112 mc ms X Q 0 0 [none, none, some (.int x2), none] [.int s0, .int s1] M := ⟨fun c118 => (h.1 c118), fun c118 => (h.2 c118)⟩
theorem vX13_manForm_126 {mc ms : Nat} {X : Nat → zV} {Q : zQt} {M : zM} {s0 : Int32} (hW : zFix M)  (h : narrow .boolean (.int s0) = .int s0 ∧ Q (some (.int s0)) M) : aX13_manForm_126 mc ms X Q 0 0 [none, none, none, none] [.int s0] M := h
theorem vkX13_manForm_14 {mc ms : Nat} {X : Nat → zV} {Q : zQt} {M : zM} {x1 : Int32} {x2 : Int32} {s0 : Int32} (hW : zFix M)  (h : wX13_isFile 0 0 [.int s0] M (fun r M1 => kX13_manForm_17 mc ms X Q 0 0 [some (.ref 55), some (.int x1), some (.int x2), none] (r.toList ++ []) M1)) : kX13_manForm_14 mc ms X Q 0 0 [some (.ref 55), some (.int x1), some (.int x2), none] [.int s0] M := ⟨Nat.le_of_ble_eq_true rfl, rfl, 0, 0, Nat.zero_le _, Nat.zero_le _, h⟩
theorem vkX13_manForm_17 {mc ms : Nat} {X : Nat → zV} {Q : zQt} {M : zM} {x1 : Int32} {x2 : Int32} {s0 : Int32} (hW : zFix M)  (h : (s0 = 0 → X 33 0 0 [] [] M) ∧ (¬ s0 = 0 → wX13_sign 0 0 [.ref 55, .int (x2 - (1 : Int32))] M (fun r M1 => kX13_manForm_27 mc ms X Q 0 0 [some (.ref 55), some (.int x1), some (.int x2), none] (r.toList ++ []) M1))) : kX13_manForm_17 mc ms X Q 0 0 [some (.ref 55), some (.int x1), some (.int x2), none] [.int s0] M := ⟨fun c17 => (h.1 c17), fun c17 => ⟨Nat.le_of_ble_eq_true rfl, rfl, (fxs_55 hW), 0, 0, Nat.zero_le _, Nat.zero_le _, (h.2 c17)⟩⟩
theorem vkX13_manForm_27 {mc ms : Nat} {X : Nat → zV} {Q : zQt} {M : zM} {x1 : Int32} {x2 : Int32} {s0 : Int32} (hW : zFix M)  (h : wX13_isRank 0 0 [.int s0] M (fun r M1 => kX13_manForm_30 mc ms X Q 0 0 [some (.ref 55), some (.int x1), some (.int x2), none] (r.toList ++ []) M1)) : kX13_manForm_27 mc ms X Q 0 0 [some (.ref 55), some (.int x1), some (.int x2), none] [.int s0] M := ⟨Nat.le_of_ble_eq_true rfl, rfl, 0, 0, Nat.zero_le _, Nat.zero_le _, h⟩
theorem vkX13_manForm_30 {mc ms : Nat} {X : Nat → zV} {Q : zQt} {M : zM} {x1 : Int32} {x2 : Int32} {s0 : Int32} (hW : zFix M)  (h : (s0 = 0 → X 33 0 0 [] [] M) ∧ (¬ s0 = 0 → ((x2 - (2 : Int32)) ≤ x1 → X 60 0 0 [.ref 55, .int x2] [.int x1] M) ∧ (¬ (x2 - (2 : Int32)) ≤ x1 → wX13_sign 0 0 [.ref 55, .int x1] M (fun r M1 => kX13_manForm_50 mc ms X Q 0 0 [some (.ref 55), some (.int x1), some (.int x2), some (.int x1)] (r.toList ++ [.int x1]) M1)))) : kX13_manForm_30 mc ms X Q 0 0 [some (.ref 55), some (.int x1), some (.int x2), none] [.int s0] M := ⟨fun c30 => (h.1 c30), fun c30 => ⟨fun c42 => ((h.2 c30).1 c42), fun c42 => ⟨Nat.le_of_ble_eq_true rfl, rfl, (fxs_55 hW), 0, 0, Nat.zero_le _, Nat.zero_le _, ((h.2 c30).2 c42)⟩⟩⟩
theorem vkX13_manForm_50 {mc ms : Nat} {X : Nat → zV} {Q : zQt} {M : zM} {x1 : Int32} {x2 : Int32} {x3 : Int32} {s0 : Int32} {s1 : Int32} (hW : zFix M)  (h : wX13_isFile 0 0 [.int s0] M (fun r M1 => kX13_manForm_53 mc ms X Q 0 0 [some (.ref 55), some (.int x1), some (.int x2), some (.int x3)] (r.toList ++ [.int s1]) M1)) : kX13_manForm_50 mc ms X Q 0 0 [some (.ref 55), some (.int x1), some (.int x2), some (.int x3)] [.int s0, .int s1] M := ⟨Nat.le_of_ble_eq_true rfl, rfl, 0, 0, Nat.zero_le _, Nat.zero_le _, h⟩
theorem vkX13_manForm_53 {mc ms : Nat} {X : Nat → zV} {Q : zQt} {M : zM} {x1 : Int32} {x2 : Int32} {x3 : Int32} {s0 : Int32} {s1 : Int32} (hW : zFix M)  (h : (s0 = 0 → X 60 0 0 [.ref 55, .int x2] [.int s1] M) ∧ (¬ s0 = 0 → X 61 0 0 [.ref 55, .int x2] [.int 1, .int s1] M)) : kX13_manForm_53 mc ms X Q 0 0 [some (.ref 55), some (.int x1), some (.int x2), some (.int x3)] [.int s0, .int s1] M := ⟨fun c53 => (h.1 c53), fun c53 => (h.2 c53)⟩
theorem vkX13_manForm_76 {mc ms : Nat} {X : Nat → zV} {Q : zQt} {M : zM} {x2 : Int32} {x3 : Int32} {s0 : Int32} {s1 : Int32} (hW : zFix M)  (h : wX13_isRank 0 0 [.int s0] M (fun r M1 => kX13_manForm_79 mc ms X Q 0 0 [some (.ref 55), none, some (.int x2), some (.int x3)] (r.toList ++ [.int s1]) M1)) : kX13_manForm_76 mc ms X Q 0 0 [some (.ref 55), none, some (.int x2), some (.int x3)] [.int s0, .int s1] M := ⟨Nat.le_of_ble_eq_true rfl, rfl, 0, 0, Nat.zero_le _, Nat.zero_le _, h⟩
theorem vkX13_manForm_79 {mc ms : Nat} {X : Nat → zV} {Q : zQt} {M : zM} {x2 : Int32} {x3 : Int32} {s0 : Int32} {s1 : Int32} (hW : zFix M)  (h : (s0 = 0 → X 86 0 0 [.ref 55, .int x2] [.int s1] M) ∧ (¬ s0 = 0 → X 87 0 0 [.ref 55, .int x2] [.int 1, .int s1] M)) : kX13_manForm_79 mc ms X Q 0 0 [some (.ref 55), none, some (.int x2), some (.int x3)] [.int s0, .int s1] M := ⟨fun c79 => (h.1 c79), fun c79 => (h.2 c79)⟩
theorem vkX13_manForm_102 {mc ms : Nat} {X : Nat → zV} {Q : zQt} {M : zM} {x2 : Int32} {x3 : Int32} {s0 : Int32} {s1 : Int32} (hW : zFix M)  (h : (s0 = (120 : Int32) → X 112 0 0 [.int x2] [.int 1, .int s1] M) ∧ (¬ s0 = (120 : Int32) → X 111 0 0 [.int x2] [.int s1] M)) : kX13_manForm_102 mc ms X Q 0 0 [some (.ref 55), none, some (.int x2), some (.int x3)] [.int s0, .int s1] M := ⟨fun c104 => (h.1 c104), fun c104 => (h.2 c104)⟩
theorem dX13_pawnForm_0 : decode cX13_pawnForm 0 = .ok (.iload_n 2, 1) := by decide +kernel
theorem dX13_pawnForm_1 : decode cX13_pawnForm 1 = .ok (.iload_n 1, 1) := by decide +kernel
theorem dX13_pawnForm_2 : decode cX13_pawnForm 2 = .ok (.isub, 1) := by decide +kernel
theorem dX13_pawnForm_3 : decode cX13_pawnForm 3 = .ok (.iconst 2, 1) := by decide +kernel
theorem dX13_pawnForm_4 : decode cX13_pawnForm 4 = .ok (.if_icmp .le 32, 3) := by decide +kernel
theorem dX13_pawnForm_7 : decode cX13_pawnForm 7 = .ok (.aload_n 0, 1) := by decide +kernel
theorem dX13_pawnForm_8 : decode cX13_pawnForm 8 = .ok (.iload_n 1, 1) := by decide +kernel
theorem dX13_pawnForm_9 : decode cX13_pawnForm 9 = .ok (.invokevirtual 255, 3) := by decide +kernel
theorem dX13_pawnForm_12 : decode cX13_pawnForm 12 = .ok (.invokestatic 267, 3) := by decide +kernel
theorem dX13_pawnForm_15 : decode cX13_pawnForm 15 = .ok (.ifCond .eq 21, 3) := by decide +kernel
theorem dX13_pawnForm_18 : decode cX13_pawnForm 18 = .ok (.aload_n 0, 1) := by decide +kernel
theorem dX13_pawnForm_19 : decode cX13_pawnForm 19 = .ok (.iload_n 1, 1) := by decide +kernel
theorem dX13_pawnForm_20 : decode cX13_pawnForm 20 = .ok (.iconst 1, 1) := by decide +kernel
theorem dX13_pawnForm_21 : decode cX13_pawnForm 21 = .ok (.iadd, 1) := by decide +kernel
theorem dX13_pawnForm_22 : decode cX13_pawnForm 22 = .ok (.invokevirtual 255, 3) := by decide +kernel
theorem dX13_pawnForm_25 : decode cX13_pawnForm 25 = .ok (.bipush 120, 2) := by decide +kernel
theorem dX13_pawnForm_27 : decode cX13_pawnForm 27 = .ok (.if_icmp .ne 9, 3) := by decide +kernel
theorem dX13_pawnForm_30 : decode cX13_pawnForm 30 = .ok (.iload_n 1, 1) := by decide +kernel
theorem dX13_pawnForm_31 : decode cX13_pawnForm 31 = .ok (.iconst 2, 1) := by decide +kernel
theorem dX13_pawnForm_32 : decode cX13_pawnForm 32 = .ok (.iadd, 1) := by decide +kernel
theorem dX13_pawnForm_33 : decode cX13_pawnForm 33 = .ok (.goto 4, 3) := by decide +kernel
theorem dX13_pawnForm_36 : decode cX13_pawnForm 36 = .ok (.iload_n 1, 1) := by decide +kernel
theorem dX13_pawnForm_37 : decode cX13_pawnForm 37 = .ok (.istore_n 3, 1) := by decide +kernel
theorem dX13_pawnForm_38 : decode cX13_pawnForm 38 = .ok (.iload_n 2, 1) := by decide +kernel
theorem dX13_pawnForm_39 : decode cX13_pawnForm 39 = .ok (.iload_n 3, 1) := by decide +kernel
theorem dX13_pawnForm_40 : decode cX13_pawnForm 40 = .ok (.isub, 1) := by decide +kernel
theorem dX13_pawnForm_41 : decode cX13_pawnForm 41 = .ok (.iconst 3, 1) := by decide +kernel
theorem dX13_pawnForm_42 : decode cX13_pawnForm 42 = .ok (.if_icmp .ne 22, 3) := by decide +kernel
theorem dX13_pawnForm_45 : decode cX13_pawnForm 45 = .ok (.aload_n 0, 1) := by decide +kernel
theorem dX13_pawnForm_46 : decode cX13_pawnForm 46 = .ok (.iload_n 2, 1) := by decide +kernel
theorem dX13_pawnForm_47 : decode cX13_pawnForm 47 = .ok (.iconst 1, 1) := by decide +kernel
theorem dX13_pawnForm_48 : decode cX13_pawnForm 48 = .ok (.isub, 1) := by decide +kernel
theorem dX13_pawnForm_49 : decode cX13_pawnForm 49 = .ok (.invokevirtual 255, 3) := by decide +kernel
theorem dX13_pawnForm_52 : decode cX13_pawnForm 52 = .ok (.invokestatic 258, 3) := by decide +kernel
theorem dX13_pawnForm_55 : decode cX13_pawnForm 55 = .ok (.ifCond .eq 9, 3) := by decide +kernel
theorem dX13_pawnForm_58 : decode cX13_pawnForm 58 = .ok (.iload_n 2, 1) := by decide +kernel
theorem dX13_pawnForm_59 : decode cX13_pawnForm 59 = .ok (.iconst 1, 1) := by decide +kernel
theorem dX13_pawnForm_60 : decode cX13_pawnForm 60 = .ok (.isub, 1) := by decide +kernel
theorem dX13_pawnForm_61 : decode cX13_pawnForm 61 = .ok (.goto 4, 3) := by decide +kernel
theorem dX13_pawnForm_64 : decode cX13_pawnForm 64 = .ok (.iload_n 2, 1) := by decide +kernel
theorem dX13_pawnForm_65 : decode cX13_pawnForm 65 = .ok (.istore 4, 2) := by decide +kernel
theorem dX13_pawnForm_67 : decode cX13_pawnForm 67 = .ok (.iload 4, 2) := by decide +kernel
theorem dX13_pawnForm_69 : decode cX13_pawnForm 69 = .ok (.iload_n 3, 1) := by decide +kernel
theorem dX13_pawnForm_70 : decode cX13_pawnForm 70 = .ok (.isub, 1) := by decide +kernel
theorem dX13_pawnForm_71 : decode cX13_pawnForm 71 = .ok (.iconst 2, 1) := by decide +kernel
theorem dX13_pawnForm_72 : decode cX13_pawnForm 72 = .ok (.if_icmp .ne 31, 3) := by decide +kernel
theorem dX13_pawnForm_75 : decode cX13_pawnForm 75 = .ok (.aload_n 0, 1) := by decide +kernel
theorem dX13_pawnForm_76 : decode cX13_pawnForm 76 = .ok (.iload_n 3, 1) := by decide +kernel
theorem dX13_pawnForm_77 : decode cX13_pawnForm 77 = .ok (.invokevirtual 255, 3) := by decide +kernel
theorem dX13_pawnForm_80 : decode cX13_pawnForm 80 = .ok (.invokestatic 267, 3) := by decide +kernel
theorem dX13_pawnForm_83 : decode cX13_pawnForm 83 = .ok (.ifCond .eq 20, 3) := by decide +kernel
theorem dX13_pawnForm_86 : decode cX13_pawnForm 86 = .ok (.aload_n 0, 1) := by decide +kernel
theorem dX13_pawnForm_87 : decode cX13_pawnForm 87 = .ok (.iload_n 3, 1) := by decide +kernel
theorem dX13_pawnForm_88 : decode cX13_pawnForm 88 = .ok (.iconst 1, 1) := by decide +kernel
theorem dX13_pawnForm_89 : decode cX13_pawnForm 89 = .ok (.iadd, 1) := by decide +kernel
theorem dX13_pawnForm_90 : decode cX13_pawnForm 90 = .ok (.invokevirtual 255, 3) := by decide +kernel
theorem dX13_pawnForm_93 : decode cX13_pawnForm 93 = .ok (.invokestatic 270, 3) := by decide +kernel
theorem dX13_pawnForm_96 : decode cX13_pawnForm 96 = .ok (.ifCond .eq 7, 3) := by decide +kernel
theorem dX13_pawnForm_99 : decode cX13_pawnForm 99 = .ok (.iconst 1, 1) := by decide +kernel
theorem dX13_pawnForm_100 : decode cX13_pawnForm 100 = .ok (.goto 4, 3) := by decide +kernel
theorem dX13_pawnForm_103 : decode cX13_pawnForm 103 = .ok (.iconst 0, 1) := by decide +kernel
theorem dX13_pawnForm_104 : decode cX13_pawnForm 104 = .ok (.ireturn, 1) := by decide +kernel
def kX13_pawnForm_25 (mc ms : Nat) (X : Nat → zV) (Q : zQt) : zT :=
  zc (.int 120) <| zic (fun x y => x = y) (zli 1 <| zc (.int 2) <| zii (fun x y => x + y) <| zj X 37 [0, 2]) <| zj X 36 [0, 1, 2]
def kX13_pawnForm_15 (mc ms : Nat) (X : Nat → zV) (Q : zQt) : zT :=
  zif (fun x => x = 0) (zj X 36 [0, 1, 2]) <| zla 0 <| zli 1 <| zc (.int 1) <| zii (fun x y => x + y) <| zcv mc ms 13 1 wX13_sign <| kX13_pawnForm_25 mc ms X Q
def kX13_pawnForm_12 (mc ms : Nat) (X : Nat → zV) (Q : zQt) : zT :=
  zcs mc ms 1 wX13_isFile <| kX13_pawnForm_15 mc ms X Q
def kX13_pawnForm_55 (mc ms : Nat) (X : Nat → zV) (Q : zQt) : zT :=
  zif (fun x => x = 0) (zj X 64 [0, 2, 3]) <| zli 2 <| zc (.int 1) <| zii (fun x y => x - y) <| zj X 65 [0, 3]
def kX13_pawnForm_52 (mc ms : Nat) (X : Nat → zV) (Q : zQt) : zT :=
  zcs mc ms 1 wX13_isOfficer <| kX13_pawnForm_55 mc ms X Q
def kX13_pawnForm_96 (mc ms : Nat) (X : Nat → zV) (Q : zQt) : zT :=
  zif (fun x => x = 0) (zj X 103 []) <| zc (.int 1) <| zj X 104 []
def kX13_pawnForm_93 (mc ms : Nat) (X : Nat → zV) (Q : zQt) : zT :=
  zcs mc ms 1 wX13_isRank <| kX13_pawnForm_96 mc ms X Q
def kX13_pawnForm_83 (mc ms : Nat) (X : Nat → zV) (Q : zQt) : zT :=
  zif (fun x => x = 0) (zj X 103 []) <| zla 0 <| zli 3 <| zc (.int 1) <| zii (fun x y => x + y) <| zcv mc ms 13 1 wX13_sign <| kX13_pawnForm_93 mc ms X Q
def kX13_pawnForm_80 (mc ms : Nat) (X : Nat → zV) (Q : zQt) : zT :=
  zcs mc ms 1 wX13_isFile <| kX13_pawnForm_83 mc ms X Q
def aX13_pawnForm_0 (mc ms : Nat) (X : Nat → zV) (Q : zQt) : zT :=
  zli 2 <| zli 1 <| zii (fun x y => x - y) <| zc (.int 2) <| zic (fun x y => x ≤ y) (zj X 36 [0, 1, 2]) <| zla 0 <| zli 1 <| zcv mc ms 13 1 wX13_sign <| kX13_pawnForm_12 mc ms X Q
def aX13_pawnForm_36 (mc ms : Nat) (X : Nat → zV) (Q : zQt) : zT :=
  zli 1 <| zj X 37 [0, 2]
def aX13_pawnForm_37 (mc ms : Nat) (X : Nat → zV) (Q : zQt) : zT :=
  zsi 3 <| zli 2 <| zli 3 <| zii (fun x y => x - y) <| zc (.int 3) <| zic (fun x y => x = y) (zla 0 <| zli 2 <| zc (.int 1) <| zii (fun x y => x - y) <| zcv mc ms 13 1 wX13_sign <| kX13_pawnForm_52 mc ms X Q) <| zj X 64 [0, 2, 3]
def aX13_pawnForm_64 (mc ms : Nat) (X : Nat → zV) (Q : zQt) : zT :=
  zli 2 <| zj X 65 [0, 3]
def aX13_pawnForm_65 (mc ms : Nat) (X : Nat → zV) (Q : zQt) : zT :=
  zsi 4 <| zli 4 <| zli 3 <| zii (fun x y => x - y) <| zc (.int 2) <| zic (fun x y => x = y) (zla 0 <| zli 3 <| zcv mc ms 13 1 wX13_sign <| kX13_pawnForm_80 mc ms X Q) <| zj X 103 []
def aX13_pawnForm_103 (mc ms : Nat) (X : Nat → zV) (Q : zQt) : zT :=
  zc (.int 0) <| zj X 104 []
def aX13_pawnForm_104 (mc ms : Nat) (X : Nat → zV) (Q : zQt) : zT :=
  zrz .boolean Q
def lvX13_pawnForm : Nat → List Nat := fun L => match L with
  | 0 => [0, 1, 2]
  | 36 => [0, 1, 2]
  | 37 => [0, 2]
  | 64 => [0, 2, 3]
  | 65 => [0, 3]
  | 103 => []
  | 104 => []
  | _ => []
def wX13_pawnForm : zSp := fun mc ms av M Q => ((zlay av).length ≤ 5 ∧ zpick (zlay av) [0, 1, 2] = some av) ∧ ∀ X : Nat → zV, zin 5 [0, 1, 2] (aX13_pawnForm_0 mc ms X Q) X 0 → zin 5 [0, 1, 2] (aX13_pawnForm_36 mc ms X Q) X 36 → zin 5 [0, 2] (aX13_pawnForm_37 mc ms X Q) X 37 → zin 5 [0, 2, 3] (aX13_pawnForm_64 mc ms X Q) X 64 → zin 5 [0, 3] (aX13_pawnForm_65 mc ms X Q) X 65 → zin 5 [] (aX13_pawnForm_103 mc ms X Q) X 103 → zin 5 [] (aX13_pawnForm_104 mc ms X Q) X 104 → X 0 0 0 av [] M
set_option maxRecDepth 100000 in
set_option maxHeartbeats 4000000 in
theorem sX13_pawnForm (l : Launch) (G : zG) : zSnd l G yX13_pawnForm cX13_pawnForm 5 (some .boolean) 1 21 wX13_pawnForm := by
  refine zmk [0, 1, 2] (by decide) (fun mc ms av M Q h => h.1) ?_
  intro p e R s m args below meth c mc ms av M Q hC hRf hRl hr hnm h lv hlv
  obtain ⟨X, hXe⟩ : ∃ X : Nat → zV, X = fun L u v vs st M => ∀ lv, zpick lv (lvX13_pawnForm L) = some vs → zAt p l e R s m args below meth c (MQ below (zQ G Q) args s mc ms (zA G)) G 5 L u v lv st M := ⟨_, rfl⟩
  have hJ : ∀ L, zOk p l e R s m args below meth c (MQ below (zQ G Q) args s mc ms (zA G)) G 5 L (zj X L (lvX13_pawnForm L)) := fun L => S_jump (fun u v lv vs st M hp hx => by rw [hXe] at hx; exact hx lv hp)
  have hB0 : zin 5 [0, 1, 2] (aX13_pawnForm_0 mc ms X Q) X 0 := by
    intro u v vs st M hb
    rw [hXe]
    refine fun lv hp => S_block (L := 0) (live := [0, 1, 2]) ?_ u v lv vs st M hp hb
    unfold aX13_pawnForm_0
    refine S_iload_n (pc := 0) hC dX13_pawnForm_0 rfl ?_
    refine S_iload_n (pc := 1) hC dX13_pawnForm_1 rfl ?_
    refine S_isub (pc := 2) hC dX13_pawnForm_2 ?_
    refine S_iconst (pc := 3) hC dX13_pawnForm_3 (by decide) ?_
    refine S_icmp_le (pc := 4) (tgt := 36) hC dX13_pawnForm_4 (by decide) ?_ ?_
    · exact hJ 36
    · refine S_aload_n (pc := 7) hC dX13_pawnForm_7 rfl ?_
      refine S_iload_n (pc := 8) hC dX13_pawnForm_8 rfl ?_
      refine S_callV (pc := 9) hC (sX13_sign l G) rfl wd_1516 wd_1518 ws_88 wd_12 wd_1519 (by decide +kernel) ⟨by rw [hRf]; decide, by rw [hRl]; decide⟩ dX13_pawnForm_9 ?_
      unfold kX13_pawnForm_12
      refine S_callS (pc := 12) hC (sX13_isFile l G) wd_1531 wd_1532 wd_12 wd_1533 (by decide +kernel) ⟨by rw [hRf]; decide, by rw [hRl]; decide⟩ dX13_pawnForm_12 ?_
      unfold kX13_pawnForm_15
      refine S_if_eq (pc := 15) (tgt := 36) hC dX13_pawnForm_15 (by decide) ?_ ?_
      · exact hJ 36
      · refine S_aload_n (pc := 18) hC dX13_pawnForm_18 rfl ?_
        refine S_iload_n (pc := 19) hC dX13_pawnForm_19 rfl ?_
        refine S_iconst (pc := 20) hC dX13_pawnForm_20 (by decide) ?_
        refine S_iadd (pc := 21) hC dX13_pawnForm_21 ?_
        refine S_callV (pc := 22) hC (sX13_sign l G) rfl wd_1516 wd_1518 ws_88 wd_12 wd_1519 (by decide +kernel) ⟨by rw [hRf]; decide, by rw [hRl]; decide⟩ dX13_pawnForm_22 ?_
        unfold kX13_pawnForm_25
        refine S_bipush (pc := 25) hC dX13_pawnForm_25 (by decide) ?_
        refine S_icmp_ne (pc := 27) (tgt := 36) hC dX13_pawnForm_27 (by decide) ?_ ?_
        · exact hJ 36
        · refine S_iload_n (pc := 30) hC dX13_pawnForm_30 rfl ?_
          refine S_iconst (pc := 31) hC dX13_pawnForm_31 (by decide) ?_
          refine S_iadd (pc := 32) hC dX13_pawnForm_32 ?_
          refine S_goto (pc := 33) (tgt := 37) hC dX13_pawnForm_33 (by decide) ?_
          exact hJ 37
  have hB36 : zin 5 [0, 1, 2] (aX13_pawnForm_36 mc ms X Q) X 36 := by
    intro u v vs st M hb
    rw [hXe]
    refine fun lv hp => S_block (L := 36) (live := [0, 1, 2]) ?_ u v lv vs st M hp hb
    unfold aX13_pawnForm_36
    refine S_iload_n (pc := 36) hC dX13_pawnForm_36 rfl ?_
    exact hJ 37
  have hB37 : zin 5 [0, 2] (aX13_pawnForm_37 mc ms X Q) X 37 := by
    intro u v vs st M hb
    rw [hXe]
    refine fun lv hp => S_block (L := 37) (live := [0, 2]) ?_ u v lv vs st M hp hb
    unfold aX13_pawnForm_37
    refine S_istore_n (pc := 37) hC dX13_pawnForm_37 rfl (by decide) ?_
    refine S_iload_n (pc := 38) hC dX13_pawnForm_38 rfl ?_
    refine S_iload_n (pc := 39) hC dX13_pawnForm_39 rfl ?_
    refine S_isub (pc := 40) hC dX13_pawnForm_40 ?_
    refine S_iconst (pc := 41) hC dX13_pawnForm_41 (by decide) ?_
    refine S_icmp_ne (pc := 42) (tgt := 64) hC dX13_pawnForm_42 (by decide) ?_ ?_
    · exact hJ 64
    · refine S_aload_n (pc := 45) hC dX13_pawnForm_45 rfl ?_
      refine S_iload_n (pc := 46) hC dX13_pawnForm_46 rfl ?_
      refine S_iconst (pc := 47) hC dX13_pawnForm_47 (by decide) ?_
      refine S_isub (pc := 48) hC dX13_pawnForm_48 ?_
      refine S_callV (pc := 49) hC (sX13_sign l G) rfl wd_1516 wd_1518 ws_88 wd_12 wd_1519 (by decide +kernel) ⟨by rw [hRf]; decide, by rw [hRl]; decide⟩ dX13_pawnForm_49 ?_
      unfold kX13_pawnForm_52
      refine S_callS (pc := 52) hC (sX13_isOfficer l G) wd_1524 wd_1525 wd_12 wd_1526 (by decide +kernel) ⟨by rw [hRf]; decide, by rw [hRl]; decide⟩ dX13_pawnForm_52 ?_
      unfold kX13_pawnForm_55
      refine S_if_eq (pc := 55) (tgt := 64) hC dX13_pawnForm_55 (by decide) ?_ ?_
      · exact hJ 64
      · refine S_iload_n (pc := 58) hC dX13_pawnForm_58 rfl ?_
        refine S_iconst (pc := 59) hC dX13_pawnForm_59 (by decide) ?_
        refine S_isub (pc := 60) hC dX13_pawnForm_60 ?_
        refine S_goto (pc := 61) (tgt := 65) hC dX13_pawnForm_61 (by decide) ?_
        exact hJ 65
  have hB64 : zin 5 [0, 2, 3] (aX13_pawnForm_64 mc ms X Q) X 64 := by
    intro u v vs st M hb
    rw [hXe]
    refine fun lv hp => S_block (L := 64) (live := [0, 2, 3]) ?_ u v lv vs st M hp hb
    unfold aX13_pawnForm_64
    refine S_iload_n (pc := 64) hC dX13_pawnForm_64 rfl ?_
    exact hJ 65
  have hB65 : zin 5 [0, 3] (aX13_pawnForm_65 mc ms X Q) X 65 := by
    intro u v vs st M hb
    rw [hXe]
    refine fun lv hp => S_block (L := 65) (live := [0, 3]) ?_ u v lv vs st M hp hb
    unfold aX13_pawnForm_65
    refine S_istore (pc := 65) hC dX13_pawnForm_65 (by decide) ?_
    refine S_iload (pc := 67) hC dX13_pawnForm_67 ?_
    refine S_iload_n (pc := 69) hC dX13_pawnForm_69 rfl ?_
    refine S_isub (pc := 70) hC dX13_pawnForm_70 ?_
    refine S_iconst (pc := 71) hC dX13_pawnForm_71 (by decide) ?_
    refine S_icmp_ne (pc := 72) (tgt := 103) hC dX13_pawnForm_72 (by decide) ?_ ?_
    · exact hJ 103
    · refine S_aload_n (pc := 75) hC dX13_pawnForm_75 rfl ?_
      refine S_iload_n (pc := 76) hC dX13_pawnForm_76 rfl ?_
      refine S_callV (pc := 77) hC (sX13_sign l G) rfl wd_1516 wd_1518 ws_88 wd_12 wd_1519 (by decide +kernel) ⟨by rw [hRf]; decide, by rw [hRl]; decide⟩ dX13_pawnForm_77 ?_
      unfold kX13_pawnForm_80
      refine S_callS (pc := 80) hC (sX13_isFile l G) wd_1531 wd_1532 wd_12 wd_1533 (by decide +kernel) ⟨by rw [hRf]; decide, by rw [hRl]; decide⟩ dX13_pawnForm_80 ?_
      unfold kX13_pawnForm_83
      refine S_if_eq (pc := 83) (tgt := 103) hC dX13_pawnForm_83 (by decide) ?_ ?_
      · exact hJ 103
      · refine S_aload_n (pc := 86) hC dX13_pawnForm_86 rfl ?_
        refine S_iload_n (pc := 87) hC dX13_pawnForm_87 rfl ?_
        refine S_iconst (pc := 88) hC dX13_pawnForm_88 (by decide) ?_
        refine S_iadd (pc := 89) hC dX13_pawnForm_89 ?_
        refine S_callV (pc := 90) hC (sX13_sign l G) rfl wd_1516 wd_1518 ws_88 wd_12 wd_1519 (by decide +kernel) ⟨by rw [hRf]; decide, by rw [hRl]; decide⟩ dX13_pawnForm_90 ?_
        unfold kX13_pawnForm_93
        refine S_callS (pc := 93) hC (sX13_isRank l G) wd_1534 wd_1535 wd_12 wd_1536 (by decide +kernel) ⟨by rw [hRf]; decide, by rw [hRl]; decide⟩ dX13_pawnForm_93 ?_
        unfold kX13_pawnForm_96
        refine S_if_eq (pc := 96) (tgt := 103) hC dX13_pawnForm_96 (by decide) ?_ ?_
        · exact hJ 103
        · refine S_iconst (pc := 99) hC dX13_pawnForm_99 (by decide) ?_
          refine S_goto (pc := 100) (tgt := 104) hC dX13_pawnForm_100 (by decide) ?_
          exact hJ 104
  have hB103 : zin 5 [] (aX13_pawnForm_103 mc ms X Q) X 103 := by
    intro u v vs st M hb
    rw [hXe]
    refine fun lv hp => S_block (L := 103) (live := []) ?_ u v lv vs st M hp hb
    unfold aX13_pawnForm_103
    refine S_iconst (pc := 103) hC dX13_pawnForm_103 (by decide) ?_
    exact hJ 104
  have hB104 : zin 5 [] (aX13_pawnForm_104 mc ms X Q) X 104 := by
    intro u v vs st M hb
    rw [hXe]
    refine fun lv hp => S_block (L := 104) (live := []) ?_ u v lv vs st M hp hb
    unfold aX13_pawnForm_104
    exact S_zreturn (pc := 104) hC hr dX13_pawnForm_104
  have := h.2 X hB0 hB36 hB37 hB64 hB65 hB103 hB104
  rw [hXe] at this
  exact this lv hlv
theorem vX13_pawnForm_0 {mc ms : Nat} {X : Nat → zV} {Q : zQt} {M : zM} {x1 : Int32} {x2 : Int32} (hW : zFix M)  (h : ((x2 - x1) ≤ (2 : Int32) → X 36 0 0 [.ref 55, .int x1, .int x2] [] M) ∧ (¬ (x2 - x1) ≤ (2 : Int32) → wX13_sign 0 0 [.ref 55, .int x1] M (fun r M1 => kX13_pawnForm_12 mc ms X Q 0 0 [some (.ref 55), some (.int x1), some (.int x2), none, none] (r.toList ++ []) M1))) : aX13_pawnForm_0 mc ms X Q 0 0 [some (.ref 55), some (.int x1), some (.int x2), none, none] [] M := ⟨fun c4 => (h.1 c4), fun c4 => ⟨Nat.le_of_ble_eq_true rfl, rfl, (fxs_55 hW), 0, 0, Nat.zero_le _, Nat.zero_le _, (h.2 c4)⟩⟩
theorem vX13_pawnForm_36 {mc ms : Nat} {X : Nat → zV} {Q : zQt} {M : zM} {x1 : Int32} {x2 : Int32} (hW : zFix M)  (h : X 37 0 0 [.ref 55, .int x2] [.int x1] M) : aX13_pawnForm_36 mc ms X Q 0 0 [some (.ref 55), some (.int x1), some (.int x2), none, none] [] M := h
theorem vX13_pawnForm_37 {mc ms : Nat} {X : Nat → zV} {Q : zQt} {M : zM} {x2 : Int32} {s0 : Int32} (hW : zFix M)  (h : ((x2 - s0) = (3 : Int32) → wX13_sign 0 0 [.ref 55, .int (x2 - (1 : Int32))] M (fun r M1 => kX13_pawnForm_52 mc ms X Q 0 0 [some (.ref 55), none, some (.int x2), some (.int s0), none] (r.toList ++ []) M1)) ∧ (¬ (x2 - s0) = (3 : Int32) → X 64 0 0 [.ref 55, .int x2, .int s0] [] M)) : aX13_pawnForm_37 mc ms X Q 0 0 [some (.ref 55), none, some (.int x2), none, none] [.int s0] M := ⟨fun c42 => ⟨Nat.le_of_ble_eq_true rfl, rfl, (fxs_55 hW), 0, 0, Nat.zero_le _, Nat.zero_le _, (h.1 c42)⟩, fun c42 => (h.2 c42)⟩
theorem vX13_pawnForm_64 {mc ms : Nat} {X : Nat → zV} {Q : zQt} {M : zM} {x2 : Int32} {x3 : Int32} (hW : zFix M)  (h : X 65 0 0 [.ref 55, .int x3] [.int x2] M) : aX13_pawnForm_64 mc ms X Q 0 0 [some (.ref 55), none, some (.int x2), some (.int x3), none] [] M := h
theorem vX13_pawnForm_65 {mc ms : Nat} {X : Nat → zV} {Q : zQt} {M : zM} {x3 : Int32} {s0 : Int32} (hW : zFix M)  (h : ((s0 - x3) = (2 : Int32) → wX13_sign 0 0 [.ref 55, .int x3] M (fun r M1 => kX13_pawnForm_80 mc ms X Q 0 0 [some (.ref 55), none, none, some (.int x3), some (.int s0)] (r.toList ++ []) M1)) ∧ (¬ (s0 - x3) = (2 : Int32) → X 103 0 0 [] [] M)) : aX13_pawnForm_65 mc ms X Q 0 0 [some (.ref 55), none, none, some (.int x3), none] [.int s0] M := ⟨fun c72 => ⟨Nat.le_of_ble_eq_true rfl, rfl, (fxs_55 hW), 0, 0, Nat.zero_le _, Nat.zero_le _, (h.1 c72)⟩, fun c72 => (h.2 c72)⟩
theorem vX13_pawnForm_103 {mc ms : Nat} {X : Nat → zV} {Q : zQt} {M : zM}  (hW : zFix M)  (h : X 104 0 0 [] [.int 0] M) : aX13_pawnForm_103 mc ms X Q 0 0 [none, none, none, none, none] [] M := h
theorem vX13_pawnForm_104 {mc ms : Nat} {X : Nat → zV} {Q : zQt} {M : zM} {s0 : Int32} (hW : zFix M)  (h : narrow .boolean (.int s0) = .int s0 ∧ Q (some (.int s0)) M) : aX13_pawnForm_104 mc ms X Q 0 0 [none, none, none, none, none] [.int s0] M := h
theorem vkX13_pawnForm_12 {mc ms : Nat} {X : Nat → zV} {Q : zQt} {M : zM} {x1 : Int32} {x2 : Int32} {s0 : Int32} (hW : zFix M)  (h : wX13_isFile 0 0 [.int s0] M (fun r M1 => kX13_pawnForm_15 mc ms X Q 0 0 [some (.ref 55), some (.int x1), some (.int x2), none, none] (r.toList ++ []) M1)) : kX13_pawnForm_12 mc ms X Q 0 0 [some (.ref 55), some (.int x1), some (.int x2), none, none] [.int s0] M := ⟨Nat.le_of_ble_eq_true rfl, rfl, 0, 0, Nat.zero_le _, Nat.zero_le _, h⟩
theorem vkX13_pawnForm_15 {mc ms : Nat} {X : Nat → zV} {Q : zQt} {M : zM} {x1 : Int32} {x2 : Int32} {s0 : Int32} (hW : zFix M)  (h : (s0 = 0 → X 36 0 0 [.ref 55, .int x1, .int x2] [] M) ∧ (¬ s0 = 0 → wX13_sign 0 0 [.ref 55, .int (x1 + (1 : Int32))] M (fun r M1 => kX13_pawnForm_25 mc ms X Q 0 0 [some (.ref 55), some (.int x1), some (.int x2), none, none] (r.toList ++ []) M1))) : kX13_pawnForm_15 mc ms X Q 0 0 [some (.ref 55), some (.int x1), some (.int x2), none, none] [.int s0] M := ⟨fun c15 => (h.1 c15), fun c15 => ⟨Nat.le_of_ble_eq_true rfl, rfl, (fxs_55 hW), 0, 0, Nat.zero_le _, Nat.zero_le _, (h.2 c15)⟩⟩
theorem vkX13_pawnForm_25 {mc ms : Nat} {X : Nat → zV} {Q : zQt} {M : zM} {x1 : Int32} {x2 : Int32} {s0 : Int32} (hW : zFix M)  (h : (s0 = (120 : Int32) → X 37 0 0 [.ref 55, .int x2] [.int (x1 + (2 : Int32))] M) ∧ (¬ s0 = (120 : Int32) → X 36 0 0 [.ref 55, .int x1, .int x2] [] M)) : kX13_pawnForm_25 mc ms X Q 0 0 [some (.ref 55), some (.int x1), some (.int x2), none, none] [.int s0] M := ⟨fun c27 => (h.1 c27), fun c27 => (h.2 c27)⟩
theorem vkX13_pawnForm_52 {mc ms : Nat} {X : Nat → zV} {Q : zQt} {M : zM} {x2 : Int32} {x3 : Int32} {s0 : Int32} (hW : zFix M)  (h : wX13_isOfficer 0 0 [.int s0] M (fun r M1 => kX13_pawnForm_55 mc ms X Q 0 0 [some (.ref 55), none, some (.int x2), some (.int x3), none] (r.toList ++ []) M1)) : kX13_pawnForm_52 mc ms X Q 0 0 [some (.ref 55), none, some (.int x2), some (.int x3), none] [.int s0] M := ⟨Nat.le_of_ble_eq_true rfl, rfl, 0, 0, Nat.zero_le _, Nat.zero_le _, h⟩
theorem vkX13_pawnForm_55 {mc ms : Nat} {X : Nat → zV} {Q : zQt} {M : zM} {x2 : Int32} {x3 : Int32} {s0 : Int32} (hW : zFix M)  (h : (s0 = 0 → X 64 0 0 [.ref 55, .int x2, .int x3] [] M) ∧ (¬ s0 = 0 → X 65 0 0 [.ref 55, .int x3] [.int (x2 - (1 : Int32))] M)) : kX13_pawnForm_55 mc ms X Q 0 0 [some (.ref 55), none, some (.int x2), some (.int x3), none] [.int s0] M := ⟨fun c55 => (h.1 c55), fun c55 => (h.2 c55)⟩
theorem vkX13_pawnForm_80 {mc ms : Nat} {X : Nat → zV} {Q : zQt} {M : zM} {x3 : Int32} {x4 : Int32} {s0 : Int32} (hW : zFix M)  (h : wX13_isFile 0 0 [.int s0] M (fun r M1 => kX13_pawnForm_83 mc ms X Q 0 0 [some (.ref 55), none, none, some (.int x3), some (.int x4)] (r.toList ++ []) M1)) : kX13_pawnForm_80 mc ms X Q 0 0 [some (.ref 55), none, none, some (.int x3), some (.int x4)] [.int s0] M := ⟨Nat.le_of_ble_eq_true rfl, rfl, 0, 0, Nat.zero_le _, Nat.zero_le _, h⟩
theorem vkX13_pawnForm_83 {mc ms : Nat} {X : Nat → zV} {Q : zQt} {M : zM} {x3 : Int32} {x4 : Int32} {s0 : Int32} (hW : zFix M)  (h : (s0 = 0 → X 103 0 0 [] [] M) ∧ (¬ s0 = 0 → wX13_sign 0 0 [.ref 55, .int (x3 + (1 : Int32))] M (fun r M1 => kX13_pawnForm_93 mc ms X Q 0 0 [some (.ref 55), none, none, some (.int x3), some (.int x4)] (r.toList ++ []) M1))) : kX13_pawnForm_83 mc ms X Q 0 0 [some (.ref 55), none, none, some (.int x3), some (.int x4)] [.int s0] M := ⟨fun c83 => (h.1 c83), fun c83 => ⟨Nat.le_of_ble_eq_true rfl, rfl, (fxs_55 hW), 0, 0, Nat.zero_le _, Nat.zero_le _, (h.2 c83)⟩⟩
theorem vkX13_pawnForm_93 {mc ms : Nat} {X : Nat → zV} {Q : zQt} {M : zM} {x3 : Int32} {x4 : Int32} {s0 : Int32} (hW : zFix M)  (h : wX13_isRank 0 0 [.int s0] M (fun r M1 => kX13_pawnForm_96 mc ms X Q 0 0 [some (.ref 55), none, none, some (.int x3), some (.int x4)] (r.toList ++ []) M1)) : kX13_pawnForm_93 mc ms X Q 0 0 [some (.ref 55), none, none, some (.int x3), some (.int x4)] [.int s0] M := ⟨Nat.le_of_ble_eq_true rfl, rfl, 0, 0, Nat.zero_le _, Nat.zero_le _, h⟩
theorem vkX13_pawnForm_96 {mc ms : Nat} {X : Nat → zV} {Q : zQt} {M : zM} {x3 : Int32} {x4 : Int32} {s0 : Int32} (hW : zFix M)  (h : (s0 = 0 → X 103 0 0 [] [] M) ∧ (¬ s0 = 0 → X 104 0 0 [] [.int 1] M)) : kX13_pawnForm_96 mc ms X Q 0 0 [some (.ref 55), none, none, some (.int x3), some (.int x4)] [.int s0] M := ⟨fun c96 => (h.1 c96), fun c96 => (h.2 c96)⟩
theorem dX13_isLike_0 : decode cX13_isLike 0 = .ok (.aload_n 0, 1) := by decide +kernel
theorem dX13_isLike_1 : decode cX13_isLike 1 = .ok (.iload_n 1, 1) := by decide +kernel
theorem dX13_isLike_2 : decode cX13_isLike 2 = .ok (.invokevirtual 246, 3) := by decide +kernel
theorem dX13_isLike_5 : decode cX13_isLike 5 = .ok (.istore 5, 2) := by decide +kernel
theorem dX13_isLike_7 : decode cX13_isLike 7 = .ok (.iload_n 2, 1) := by decide +kernel
theorem dX13_isLike_8 : decode cX13_isLike 8 = .ok (.iconst 3, 1) := by decide +kernel
theorem dX13_isLike_9 : decode cX13_isLike 9 = .ok (.if_icmp .lt 8, 3) := by decide +kernel
theorem dX13_isLike_12 : decode cX13_isLike 12 = .ok (.iload 5, 2) := by decide +kernel
theorem dX13_isLike_14 : decode cX13_isLike 14 = .ok (.ifCond .le 15, 3) := by decide +kernel
theorem dX13_isLike_17 : decode cX13_isLike 17 = .ok (.iload 5, 2) := by decide +kernel
theorem dX13_isLike_19 : decode cX13_isLike 19 = .ok (.iload_n 2, 1) := by decide +kernel
theorem dX13_isLike_20 : decode cX13_isLike 20 = .ok (.if_icmp .ne 7, 3) := by decide +kernel
theorem dX13_isLike_23 : decode cX13_isLike 23 = .ok (.iconst 1, 1) := by decide +kernel
theorem dX13_isLike_24 : decode cX13_isLike 24 = .ok (.goto 4, 3) := by decide +kernel
theorem dX13_isLike_27 : decode cX13_isLike 27 = .ok (.iconst 0, 1) := by decide +kernel
theorem dX13_isLike_28 : decode cX13_isLike 28 = .ok (.ireturn, 1) := by decide +kernel
theorem dX13_isLike_29 : decode cX13_isLike 29 = .ok (.aload_n 0, 1) := by decide +kernel
theorem dX13_isLike_30 : decode cX13_isLike 30 = .ok (.getfield 43, 3) := by decide +kernel
theorem dX13_isLike_33 : decode cX13_isLike 33 = .ok (.iload_n 1, 1) := by decide +kernel
theorem dX13_isLike_34 : decode cX13_isLike 34 = .ok (.invokestatic 100, 3) := by decide +kernel
theorem dX13_isLike_37 : decode cX13_isLike 37 = .ok (.iaload, 1) := by decide +kernel
theorem dX13_isLike_38 : decode cX13_isLike 38 = .ok (.invokestatic 71, 3) := by decide +kernel
theorem dX13_isLike_41 : decode cX13_isLike 41 = .ok (.istore 6, 2) := by decide +kernel
theorem dX13_isLike_43 : decode cX13_isLike 43 = .ok (.iload_n 3, 1) := by decide +kernel
theorem dX13_isLike_44 : decode cX13_isLike 44 = .ok (.iload 4, 2) := by decide +kernel
theorem dX13_isLike_46 : decode cX13_isLike 46 = .ok (.iadd, 1) := by decide +kernel
theorem dX13_isLike_47 : decode cX13_isLike 47 = .ok (.iconst 1, 1) := by decide +kernel
theorem dX13_isLike_48 : decode cX13_isLike 48 = .ok (.isub, 1) := by decide +kernel
theorem dX13_isLike_49 : decode cX13_isLike 49 = .ok (.istore 7, 2) := by decide +kernel
theorem dX13_isLike_51 : decode cX13_isLike 51 = .ok (.iload_n 2, 1) := by decide +kernel
theorem dX13_isLike_52 : decode cX13_isLike 52 = .ok (.iconst 4, 1) := by decide +kernel
theorem dX13_isLike_53 : decode cX13_isLike 53 = .ok (.if_icmp .ne 19, 3) := by decide +kernel
theorem dX13_isLike_56 : decode cX13_isLike 56 = .ok (.aload_n 0, 1) := by decide +kernel
theorem dX13_isLike_57 : decode cX13_isLike 57 = .ok (.iload 7, 2) := by decide +kernel
theorem dX13_isLike_59 : decode cX13_isLike 59 = .ok (.invokevirtual 255, 3) := by decide +kernel
theorem dX13_isLike_62 : decode cX13_isLike 62 = .ok (.invokestatic 258, 3) := by decide +kernel
theorem dX13_isLike_65 : decode cX13_isLike 65 = .ok (.ifCond .eq 7, 3) := by decide +kernel
theorem dX13_isLike_68 : decode cX13_isLike 68 = .ok (.iconst 1, 1) := by decide +kernel
theorem dX13_isLike_69 : decode cX13_isLike 69 = .ok (.goto 4, 3) := by decide +kernel
theorem dX13_isLike_72 : decode cX13_isLike 72 = .ok (.iconst 0, 1) := by decide +kernel
theorem dX13_isLike_73 : decode cX13_isLike 73 = .ok (.istore 8, 2) := by decide +kernel
theorem dX13_isLike_75 : decode cX13_isLike 75 = .ok (.iload 8, 2) := by decide +kernel
theorem dX13_isLike_77 : decode cX13_isLike 77 = .ok (.ifCond .eq 10, 3) := by decide +kernel
theorem dX13_isLike_80 : decode cX13_isLike 80 = .ok (.iload 7, 2) := by decide +kernel
theorem dX13_isLike_82 : decode cX13_isLike 82 = .ok (.iconst 2, 1) := by decide +kernel
theorem dX13_isLike_83 : decode cX13_isLike 83 = .ok (.isub, 1) := by decide +kernel
theorem dX13_isLike_84 : decode cX13_isLike 84 = .ok (.goto 7, 3) := by decide +kernel
theorem dX13_isLike_87 : decode cX13_isLike 87 = .ok (.iload 7, 2) := by decide +kernel
theorem dX13_isLike_89 : decode cX13_isLike 89 = .ok (.iconst 1, 1) := by decide +kernel
theorem dX13_isLike_90 : decode cX13_isLike 90 = .ok (.isub, 1) := by decide +kernel
theorem dX13_isLike_91 : decode cX13_isLike 91 = .ok (.istore 9, 2) := by decide +kernel
theorem dX13_isLike_93 : decode cX13_isLike 93 = .ok (.iload_n 2, 1) := by decide +kernel
theorem dX13_isLike_94 : decode cX13_isLike 94 = .ok (.iconst 3, 1) := by decide +kernel
theorem dX13_isLike_95 : decode cX13_isLike 95 = .ok (.if_icmp .ne 30, 3) := by decide +kernel
theorem dX13_isLike_98 : decode cX13_isLike 98 = .ok (.iload 6, 2) := by decide +kernel
theorem dX13_isLike_100 : decode cX13_isLike 100 = .ok (.iconst 1, 1) := by decide +kernel
theorem dX13_isLike_101 : decode cX13_isLike 101 = .ok (.if_icmp .eq 20, 3) := by decide +kernel
theorem dX13_isLike_104 : decode cX13_isLike 104 = .ok (.iload 6, 2) := by decide +kernel
theorem dX13_isLike_106 : decode cX13_isLike 106 = .ok (.invokestatic 187, 3) := by decide +kernel
theorem dX13_isLike_109 : decode cX13_isLike 109 = .ok (.aload_n 0, 1) := by decide +kernel
theorem dX13_isLike_110 : decode cX13_isLike 110 = .ok (.iload_n 3, 1) := by decide +kernel
theorem dX13_isLike_111 : decode cX13_isLike 111 = .ok (.invokevirtual 255, 3) := by decide +kernel
theorem dX13_isLike_114 : decode cX13_isLike 114 = .ok (.if_icmp .ne 7, 3) := by decide +kernel
theorem dX13_isLike_117 : decode cX13_isLike 117 = .ok (.iconst 1, 1) := by decide +kernel
theorem dX13_isLike_118 : decode cX13_isLike 118 = .ok (.goto 18, 3) := by decide +kernel
theorem dX13_isLike_121 : decode cX13_isLike 121 = .ok (.iconst 0, 1) := by decide +kernel
theorem dX13_isLike_122 : decode cX13_isLike 122 = .ok (.goto 14, 3) := by decide +kernel
theorem dX13_isLike_125 : decode cX13_isLike 125 = .ok (.iload 6, 2) := by decide +kernel
theorem dX13_isLike_127 : decode cX13_isLike 127 = .ok (.iconst 1, 1) := by decide +kernel
theorem dX13_isLike_128 : decode cX13_isLike 128 = .ok (.if_icmp .ne 7, 3) := by decide +kernel
theorem dX13_isLike_131 : decode cX13_isLike 131 = .ok (.iconst 1, 1) := by decide +kernel
theorem dX13_isLike_132 : decode cX13_isLike 132 = .ok (.goto 4, 3) := by decide +kernel
theorem dX13_isLike_135 : decode cX13_isLike 135 = .ok (.iconst 0, 1) := by decide +kernel
theorem dX13_isLike_136 : decode cX13_isLike 136 = .ok (.istore 10, 2) := by decide +kernel
theorem dX13_isLike_138 : decode cX13_isLike 138 = .ok (.iload_n 1, 1) := by decide +kernel
theorem dX13_isLike_139 : decode cX13_isLike 139 = .ok (.sipush 4096, 3) := by decide +kernel
theorem dX13_isLike_142 : decode cX13_isLike 142 = .ok (.idiv, 1) := by decide +kernel
theorem dX13_isLike_143 : decode cX13_isLike 143 = .ok (.ifCond .le 14, 3) := by decide +kernel
theorem dX13_isLike_146 : decode cX13_isLike 146 = .ok (.iload_n 1, 1) := by decide +kernel
theorem dX13_isLike_147 : decode cX13_isLike 147 = .ok (.sipush 4096, 3) := by decide +kernel
theorem dX13_isLike_150 : decode cX13_isLike 150 = .ok (.idiv, 1) := by decide +kernel
theorem dX13_isLike_151 : decode cX13_isLike 151 = .ok (.invokestatic 187, 3) := by decide +kernel
theorem dX13_isLike_154 : decode cX13_isLike 154 = .ok (.goto 4, 3) := by decide +kernel
theorem dX13_isLike_157 : decode cX13_isLike 157 = .ok (.iconst 0, 1) := by decide +kernel
theorem dX13_isLike_158 : decode cX13_isLike 158 = .ok (.istore 11, 2) := by decide +kernel
theorem dX13_isLike_160 : decode cX13_isLike 160 = .ok (.iload 10, 2) := by decide +kernel
theorem dX13_isLike_162 : decode cX13_isLike 162 = .ok (.ifCond .eq 58, 3) := by decide +kernel
theorem dX13_isLike_165 : decode cX13_isLike 165 = .ok (.iload 11, 2) := by decide +kernel
theorem dX13_isLike_167 : decode cX13_isLike 167 = .ok (.iload 8, 2) := by decide +kernel
theorem dX13_isLike_169 : decode cX13_isLike 169 = .ok (.ifCond .eq 12, 3) := by decide +kernel
theorem dX13_isLike_172 : decode cX13_isLike 172 = .ok (.aload_n 0, 1) := by decide +kernel
theorem dX13_isLike_173 : decode cX13_isLike 173 = .ok (.iload 7, 2) := by decide +kernel
theorem dX13_isLike_175 : decode cX13_isLike 175 = .ok (.invokevirtual 255, 3) := by decide +kernel
theorem dX13_isLike_178 : decode cX13_isLike 178 = .ok (.goto 4, 3) := by decide +kernel
theorem dX13_isLike_181 : decode cX13_isLike 181 = .ok (.iconst 0, 1) := by decide +kernel
theorem dX13_isLike_182 : decode cX13_isLike 182 = .ok (.if_icmp .ne 38, 3) := by decide +kernel
theorem dX13_isLike_185 : decode cX13_isLike 185 = .ok (.iload_n 1, 1) := by decide +kernel
theorem dX13_isLike_186 : decode cX13_isLike 186 = .ok (.invokestatic 103, 3) := by decide +kernel
theorem dX13_isLike_189 : decode cX13_isLike 189 = .ok (.aload_n 0, 1) := by decide +kernel
theorem dX13_isLike_190 : decode cX13_isLike 190 = .ok (.iload 9, 2) := by decide +kernel
theorem dX13_isLike_192 : decode cX13_isLike 192 = .ok (.invokevirtual 255, 3) := by decide +kernel
theorem dX13_isLike_195 : decode cX13_isLike 195 = .ok (.bipush 97, 2) := by decide +kernel
theorem dX13_isLike_197 : decode cX13_isLike 197 = .ok (.isub, 1) := by decide +kernel
theorem dX13_isLike_198 : decode cX13_isLike 198 = .ok (.bipush 8, 2) := by decide +kernel
theorem dX13_isLike_200 : decode cX13_isLike 200 = .ok (.aload_n 0, 1) := by decide +kernel
theorem dX13_isLike_201 : decode cX13_isLike 201 = .ok (.iload 9, 2) := by decide +kernel
theorem dX13_isLike_203 : decode cX13_isLike 203 = .ok (.iconst 1, 1) := by decide +kernel
theorem dX13_isLike_204 : decode cX13_isLike 204 = .ok (.iadd, 1) := by decide +kernel
theorem dX13_isLike_205 : decode cX13_isLike 205 = .ok (.invokevirtual 255, 3) := by decide +kernel
theorem dX13_isLike_208 : decode cX13_isLike 208 = .ok (.bipush 49, 2) := by decide +kernel
theorem dX13_isLike_210 : decode cX13_isLike 210 = .ok (.isub, 1) := by decide +kernel
theorem dX13_isLike_211 : decode cX13_isLike 211 = .ok (.imul, 1) := by decide +kernel
theorem dX13_isLike_212 : decode cX13_isLike 212 = .ok (.iadd, 1) := by decide +kernel
theorem dX13_isLike_213 : decode cX13_isLike 213 = .ok (.if_icmp .ne 7, 3) := by decide +kernel
theorem dX13_isLike_216 : decode cX13_isLike 216 = .ok (.iconst 1, 1) := by decide +kernel
theorem dX13_isLike_217 : decode cX13_isLike 217 = .ok (.goto 4, 3) := by decide +kernel
theorem dX13_isLike_220 : decode cX13_isLike 220 = .ok (.iconst 0, 1) := by decide +kernel
theorem dX13_isLike_221 : decode cX13_isLike 221 = .ok (.ireturn, 1) := by decide +kernel
def kX13_isLike_65 (mc ms : Nat) (X : Nat → zV) (Q : zQt) : zT :=
  zif (fun x => x = 0) (zj X 72 [0, 1, 2, 3, 6, 7]) <| zc (.int 1) <| zj X 73 [0, 1, 2, 3, 6, 7]
def kX13_isLike_62 (mc ms : Nat) (X : Nat → zV) (Q : zQt) : zT :=
  zcs mc ms 1 wX13_isOfficer <| kX13_isLike_65 mc ms X Q
def kX13_isLike_41 (mc ms : Nat) (X : Nat → zV) (Q : zQt) : zT :=
  zsi 6 <| zli 3 <| zli 4 <| zii (fun x y => x + y) <| zc (.int 1) <| zii (fun x y => x - y) <| zsi 7 <| zli 2 <| zc (.int 4) <| zic (fun x y => x = y) (zla 0 <| zli 7 <| zcv mc ms 13 1 wX13_sign <| kX13_isLike_62 mc ms X Q) <| zj X 72 [0, 1, 2, 3, 6, 7]
def kX13_isLike_37 (mc ms : Nat) (X : Nat → zV) (Q : zQt) : zT :=
  zal 1 <| zcs mc ms 1 wX13_kindOf <| kX13_isLike_41 mc ms X Q
def kX13_isLike_5 (mc ms : Nat) (X : Nat → zV) (Q : zQt) : zT :=
  zsi 5 <| zli 2 <| zc (.int 3) <| zic (fun x y => x < y) (zj X 17 [2, 5]) <| zli 5 <| zif (fun x => x ≤ 0) (zla 0 <| zgR 13 16 <| zli 1 <| zcs mc ms 1 wX13_fromOf <| kX13_isLike_37 mc ms X Q) <| zj X 17 [2, 5]
def kX13_isLike_114 (mc ms : Nat) (X : Nat → zV) (Q : zQt) : zT :=
  zic (fun x y => x = y) (zc (.int 1) <| zj X 136 [0, 1, 7, 8, 9]) <| zj X 121 [0, 1, 7, 8, 9]
def kX13_isLike_109 (mc ms : Nat) (X : Nat → zV) (Q : zQt) : zT :=
  zla 0 <| zli 3 <| zcv mc ms 13 1 wX13_sign <| kX13_isLike_114 mc ms X Q
def kX13_isLike_154 (mc ms : Nat) (X : Nat → zV) (Q : zQt) : zT :=
  zj X 158 [0, 1, 7, 8, 9, 10]
def kX13_isLike_178 (mc ms : Nat) (X : Nat → zV) (Q : zQt) : zT :=
  zj X 182 [0, 1, 9]
def kX13_isLike_208 (mc ms : Nat) (X : Nat → zV) (Q : zQt) : zT :=
  zc (.int 49) <| zii (fun x y => x - y) <| zii (fun x y => x * y) <| zii (fun x y => x + y) <| zic (fun x y => x = y) (zc (.int 1) <| zj X 221 []) <| zj X 220 []
def kX13_isLike_195 (mc ms : Nat) (X : Nat → zV) (Q : zQt) : zT :=
  zc (.int 97) <| zii (fun x y => x - y) <| zc (.int 8) <| zla 0 <| zli 9 <| zc (.int 1) <| zii (fun x y => x + y) <| zcv mc ms 13 1 wX13_sign <| kX13_isLike_208 mc ms X Q
def kX13_isLike_189 (mc ms : Nat) (X : Nat → zV) (Q : zQt) : zT :=
  zla 0 <| zli 9 <| zcv mc ms 13 1 wX13_sign <| kX13_isLike_195 mc ms X Q
def aX13_isLike_0 (mc ms : Nat) (X : Nat → zV) (Q : zQt) : zT :=
  zla 0 <| zli 1 <| zcv mc ms 13 1 wX13_castling <| kX13_isLike_5 mc ms X Q
def aX13_isLike_17 (mc ms : Nat) (X : Nat → zV) (Q : zQt) : zT :=
  zli 5 <| zli 2 <| zic (fun x y => x = y) (zc (.int 1) <| zj X 28 []) <| zc (.int 0) <| zj X 28 []
def aX13_isLike_28 (mc ms : Nat) (X : Nat → zV) (Q : zQt) : zT :=
  zrz .boolean Q
def aX13_isLike_72 (mc ms : Nat) (X : Nat → zV) (Q : zQt) : zT :=
  zc (.int 0) <| zj X 73 [0, 1, 2, 3, 6, 7]
def aX13_isLike_73 (mc ms : Nat) (X : Nat → zV) (Q : zQt) : zT :=
  zsi 8 <| zli 8 <| zif (fun x => x = 0) (zli 7 <| zc (.int 1) <| zii (fun x y => x - y) <| zj X 91 [0, 1, 2, 3, 6, 7, 8]) <| zli 7 <| zc (.int 2) <| zii (fun x y => x - y) <| zj X 91 [0, 1, 2, 3, 6, 7, 8]
def aX13_isLike_91 (mc ms : Nat) (X : Nat → zV) (Q : zQt) : zT :=
  zsi 9 <| zli 2 <| zc (.int 3) <| zic (fun x y => x = y) (zli 6 <| zc (.int 1) <| zic (fun x y => x = y) (zj X 121 [0, 1, 7, 8, 9]) <| zli 6 <| zcs mc ms 1 wX13_letter <| kX13_isLike_109 mc ms X Q) <| zli 6 <| zc (.int 1) <| zic (fun x y => x = y) (zc (.int 1) <| zj X 136 [0, 1, 7, 8, 9]) <| zc (.int 0) <| zj X 136 [0, 1, 7, 8, 9]
def aX13_isLike_121 (mc ms : Nat) (X : Nat → zV) (Q : zQt) : zT :=
  zc (.int 0) <| zj X 136 [0, 1, 7, 8, 9]
def aX13_isLike_136 (mc ms : Nat) (X : Nat → zV) (Q : zQt) : zT :=
  zsi 10 <| zli 1 <| zc (.int 4096) <| zid (fun x y => x / y) <| zif (fun x => x ≤ 0) (zc (.int 0) <| zj X 158 [0, 1, 7, 8, 9, 10]) <| zli 1 <| zc (.int 4096) <| zid (fun x y => x / y) <| zcs mc ms 1 wX13_letter <| kX13_isLike_154 mc ms X Q
def aX13_isLike_158 (mc ms : Nat) (X : Nat → zV) (Q : zQt) : zT :=
  zsi 11 <| zli 10 <| zif (fun x => x = 0) (zj X 220 []) <| zli 11 <| zli 8 <| zif (fun x => x = 0) (zc (.int 0) <| zj X 182 [0, 1, 9]) <| zla 0 <| zli 7 <| zcv mc ms 13 1 wX13_sign <| kX13_isLike_178 mc ms X Q
def aX13_isLike_182 (mc ms : Nat) (X : Nat → zV) (Q : zQt) : zT :=
  zic (fun x y => x = y) (zli 1 <| zcs mc ms 1 wX13_toOf <| kX13_isLike_189 mc ms X Q) <| zj X 220 []
def aX13_isLike_220 (mc ms : Nat) (X : Nat → zV) (Q : zQt) : zT :=
  zc (.int 0) <| zj X 221 []
def aX13_isLike_221 (mc ms : Nat) (X : Nat → zV) (Q : zQt) : zT :=
  zrz .boolean Q
def lvX13_isLike : Nat → List Nat := fun L => match L with
  | 0 => [0, 1, 2, 3, 4]
  | 17 => [2, 5]
  | 28 => []
  | 72 => [0, 1, 2, 3, 6, 7]
  | 73 => [0, 1, 2, 3, 6, 7]
  | 91 => [0, 1, 2, 3, 6, 7, 8]
  | 121 => [0, 1, 7, 8, 9]
  | 136 => [0, 1, 7, 8, 9]
  | 158 => [0, 1, 7, 8, 9, 10]
  | 182 => [0, 1, 9]
  | 220 => []
  | 221 => []
  | _ => []
def wX13_isLike : zSp := fun mc ms av M Q => ((zlay av).length ≤ 12 ∧ zpick (zlay av) [0, 1, 2, 3, 4] = some av) ∧ ∀ X : Nat → zV, zin 12 [0, 1, 2, 3, 4] (aX13_isLike_0 mc ms X Q) X 0 → zin 12 [2, 5] (aX13_isLike_17 mc ms X Q) X 17 → zin 12 [] (aX13_isLike_28 mc ms X Q) X 28 → zin 12 [0, 1, 2, 3, 6, 7] (aX13_isLike_72 mc ms X Q) X 72 → zin 12 [0, 1, 2, 3, 6, 7] (aX13_isLike_73 mc ms X Q) X 73 → zin 12 [0, 1, 2, 3, 6, 7, 8] (aX13_isLike_91 mc ms X Q) X 91 → zin 12 [0, 1, 7, 8, 9] (aX13_isLike_121 mc ms X Q) X 121 → zin 12 [0, 1, 7, 8, 9] (aX13_isLike_136 mc ms X Q) X 136 → zin 12 [0, 1, 7, 8, 9, 10] (aX13_isLike_158 mc ms X Q) X 158 → zin 12 [0, 1, 9] (aX13_isLike_182 mc ms X Q) X 182 → zin 12 [] (aX13_isLike_220 mc ms X Q) X 220 → zin 12 [] (aX13_isLike_221 mc ms X Q) X 221 → X 0 0 0 av [] M
set_option maxRecDepth 100000 in
set_option maxHeartbeats 4000000 in
theorem sX13_isLike (l : Launch) (G : zG) : zSnd l G yX13_isLike cX13_isLike 12 (some .boolean) 2 42 wX13_isLike := by
  refine zmk [0, 1, 2, 3, 4] (by decide) (fun mc ms av M Q h => h.1) ?_
  intro p e R s m args below meth c mc ms av M Q hC hRf hRl hr hnm h lv hlv
  obtain ⟨X, hXe⟩ : ∃ X : Nat → zV, X = fun L u v vs st M => ∀ lv, zpick lv (lvX13_isLike L) = some vs → zAt p l e R s m args below meth c (MQ below (zQ G Q) args s mc ms (zA G)) G 12 L u v lv st M := ⟨_, rfl⟩
  have hJ : ∀ L, zOk p l e R s m args below meth c (MQ below (zQ G Q) args s mc ms (zA G)) G 12 L (zj X L (lvX13_isLike L)) := fun L => S_jump (fun u v lv vs st M hp hx => by rw [hXe] at hx; exact hx lv hp)
  have hB0 : zin 12 [0, 1, 2, 3, 4] (aX13_isLike_0 mc ms X Q) X 0 := by
    intro u v vs st M hb
    rw [hXe]
    refine fun lv hp => S_block (L := 0) (live := [0, 1, 2, 3, 4]) ?_ u v lv vs st M hp hb
    unfold aX13_isLike_0
    refine S_aload_n (pc := 0) hC dX13_isLike_0 rfl ?_
    refine S_iload_n (pc := 1) hC dX13_isLike_1 rfl ?_
    refine S_callV (pc := 2) hC (sX13_castling l G) rfl wd_1545 wd_1547 ws_93 wd_12 wd_1548 (by decide +kernel) ⟨by rw [hRf]; decide, by rw [hRl]; decide⟩ dX13_isLike_2 ?_
    unfold kX13_isLike_5
    refine S_istore (pc := 5) hC dX13_isLike_5 (by decide) ?_
    refine S_iload_n (pc := 7) hC dX13_isLike_7 rfl ?_
    refine S_iconst (pc := 8) hC dX13_isLike_8 (by decide) ?_
    refine S_icmp_lt (pc := 9) (tgt := 17) hC dX13_isLike_9 (by decide) ?_ ?_
    · exact hJ 17
    · refine S_iload (pc := 12) hC dX13_isLike_12 ?_
      refine S_if_le (pc := 14) (tgt := 29) hC dX13_isLike_14 (by decide) ?_ ?_
      · refine S_aload_n (pc := 29) hC dX13_isLike_29 rfl ?_
        refine S_getR (pc := 30) hC cfX13 (by decide) (Or.inr ⟨_, rfl⟩) wd_1271 dX13_isLike_30 ?_
        refine S_iload_n (pc := 33) hC dX13_isLike_33 rfl ?_
        refine S_callS (pc := 34) hC (sX13_fromOf l G) wd_1475 wd_1476 wd_12 wd_1477 (by decide +kernel) ⟨by rw [hRf]; decide, by rw [hRl]; decide⟩ dX13_isLike_34 ?_
        unfold kX13_isLike_37
        refine S_iaload (pc := 37) hC dX13_isLike_37 ?_
        refine S_callS (pc := 38) hC (sX13_kindOf l G) wd_1376 wd_1377 wd_12 wd_1378 (by decide +kernel) ⟨by rw [hRf]; decide, by rw [hRl]; decide⟩ dX13_isLike_38 ?_
        unfold kX13_isLike_41
        refine S_istore (pc := 41) hC dX13_isLike_41 (by decide) ?_
        refine S_iload_n (pc := 43) hC dX13_isLike_43 rfl ?_
        refine S_iload (pc := 44) hC dX13_isLike_44 ?_
        refine S_iadd (pc := 46) hC dX13_isLike_46 ?_
        refine S_iconst (pc := 47) hC dX13_isLike_47 (by decide) ?_
        refine S_isub (pc := 48) hC dX13_isLike_48 ?_
        refine S_istore (pc := 49) hC dX13_isLike_49 (by decide) ?_
        refine S_iload_n (pc := 51) hC dX13_isLike_51 rfl ?_
        refine S_iconst (pc := 52) hC dX13_isLike_52 (by decide) ?_
        refine S_icmp_ne (pc := 53) (tgt := 72) hC dX13_isLike_53 (by decide) ?_ ?_
        · exact hJ 72
        · refine S_aload_n (pc := 56) hC dX13_isLike_56 rfl ?_
          refine S_iload (pc := 57) hC dX13_isLike_57 ?_
          refine S_callV (pc := 59) hC (sX13_sign l G) rfl wd_1516 wd_1518 ws_88 wd_12 wd_1519 (by decide +kernel) ⟨by rw [hRf]; decide, by rw [hRl]; decide⟩ dX13_isLike_59 ?_
          unfold kX13_isLike_62
          refine S_callS (pc := 62) hC (sX13_isOfficer l G) wd_1524 wd_1525 wd_12 wd_1526 (by decide +kernel) ⟨by rw [hRf]; decide, by rw [hRl]; decide⟩ dX13_isLike_62 ?_
          unfold kX13_isLike_65
          refine S_if_eq (pc := 65) (tgt := 72) hC dX13_isLike_65 (by decide) ?_ ?_
          · exact hJ 72
          · refine S_iconst (pc := 68) hC dX13_isLike_68 (by decide) ?_
            refine S_goto (pc := 69) (tgt := 73) hC dX13_isLike_69 (by decide) ?_
            exact hJ 73
      · exact hJ 17
  have hB17 : zin 12 [2, 5] (aX13_isLike_17 mc ms X Q) X 17 := by
    intro u v vs st M hb
    rw [hXe]
    refine fun lv hp => S_block (L := 17) (live := [2, 5]) ?_ u v lv vs st M hp hb
    unfold aX13_isLike_17
    refine S_iload (pc := 17) hC dX13_isLike_17 ?_
    refine S_iload_n (pc := 19) hC dX13_isLike_19 rfl ?_
    refine S_icmp_ne (pc := 20) (tgt := 27) hC dX13_isLike_20 (by decide) ?_ ?_
    · refine S_iconst (pc := 27) hC dX13_isLike_27 (by decide) ?_
      exact hJ 28
    · refine S_iconst (pc := 23) hC dX13_isLike_23 (by decide) ?_
      refine S_goto (pc := 24) (tgt := 28) hC dX13_isLike_24 (by decide) ?_
      exact hJ 28
  have hB28 : zin 12 [] (aX13_isLike_28 mc ms X Q) X 28 := by
    intro u v vs st M hb
    rw [hXe]
    refine fun lv hp => S_block (L := 28) (live := []) ?_ u v lv vs st M hp hb
    unfold aX13_isLike_28
    exact S_zreturn (pc := 28) hC hr dX13_isLike_28
  have hB72 : zin 12 [0, 1, 2, 3, 6, 7] (aX13_isLike_72 mc ms X Q) X 72 := by
    intro u v vs st M hb
    rw [hXe]
    refine fun lv hp => S_block (L := 72) (live := [0, 1, 2, 3, 6, 7]) ?_ u v lv vs st M hp hb
    unfold aX13_isLike_72
    refine S_iconst (pc := 72) hC dX13_isLike_72 (by decide) ?_
    exact hJ 73
  have hB73 : zin 12 [0, 1, 2, 3, 6, 7] (aX13_isLike_73 mc ms X Q) X 73 := by
    intro u v vs st M hb
    rw [hXe]
    refine fun lv hp => S_block (L := 73) (live := [0, 1, 2, 3, 6, 7]) ?_ u v lv vs st M hp hb
    unfold aX13_isLike_73
    refine S_istore (pc := 73) hC dX13_isLike_73 (by decide) ?_
    refine S_iload (pc := 75) hC dX13_isLike_75 ?_
    refine S_if_eq (pc := 77) (tgt := 87) hC dX13_isLike_77 (by decide) ?_ ?_
    · refine S_iload (pc := 87) hC dX13_isLike_87 ?_
      refine S_iconst (pc := 89) hC dX13_isLike_89 (by decide) ?_
      refine S_isub (pc := 90) hC dX13_isLike_90 ?_
      exact hJ 91
    · refine S_iload (pc := 80) hC dX13_isLike_80 ?_
      refine S_iconst (pc := 82) hC dX13_isLike_82 (by decide) ?_
      refine S_isub (pc := 83) hC dX13_isLike_83 ?_
      refine S_goto (pc := 84) (tgt := 91) hC dX13_isLike_84 (by decide) ?_
      exact hJ 91
  have hB91 : zin 12 [0, 1, 2, 3, 6, 7, 8] (aX13_isLike_91 mc ms X Q) X 91 := by
    intro u v vs st M hb
    rw [hXe]
    refine fun lv hp => S_block (L := 91) (live := [0, 1, 2, 3, 6, 7, 8]) ?_ u v lv vs st M hp hb
    unfold aX13_isLike_91
    refine S_istore (pc := 91) hC dX13_isLike_91 (by decide) ?_
    refine S_iload_n (pc := 93) hC dX13_isLike_93 rfl ?_
    refine S_iconst (pc := 94) hC dX13_isLike_94 (by decide) ?_
    refine S_icmp_ne (pc := 95) (tgt := 125) hC dX13_isLike_95 (by decide) ?_ ?_
    · refine S_iload (pc := 125) hC dX13_isLike_125 ?_
      refine S_iconst (pc := 127) hC dX13_isLike_127 (by decide) ?_
      refine S_icmp_ne (pc := 128) (tgt := 135) hC dX13_isLike_128 (by decide) ?_ ?_
      · refine S_iconst (pc := 135) hC dX13_isLike_135 (by decide) ?_
        exact hJ 136
      · refine S_iconst (pc := 131) hC dX13_isLike_131 (by decide) ?_
        refine S_goto (pc := 132) (tgt := 136) hC dX13_isLike_132 (by decide) ?_
        exact hJ 136
    · refine S_iload (pc := 98) hC dX13_isLike_98 ?_
      refine S_iconst (pc := 100) hC dX13_isLike_100 (by decide) ?_
      refine S_icmp_eq (pc := 101) (tgt := 121) hC dX13_isLike_101 (by decide) ?_ ?_
      · exact hJ 121
      · refine S_iload (pc := 104) hC dX13_isLike_104 ?_
        refine S_callS (pc := 106) hC (sX13_letter l G) wd_1373 wd_1374 wd_12 wd_1375 (by decide +kernel) ⟨by rw [hRf]; decide, by rw [hRl]; decide⟩ dX13_isLike_106 ?_
        unfold kX13_isLike_109
        refine S_aload_n (pc := 109) hC dX13_isLike_109 rfl ?_
        refine S_iload_n (pc := 110) hC dX13_isLike_110 rfl ?_
        refine S_callV (pc := 111) hC (sX13_sign l G) rfl wd_1516 wd_1518 ws_88 wd_12 wd_1519 (by decide +kernel) ⟨by rw [hRf]; decide, by rw [hRl]; decide⟩ dX13_isLike_111 ?_
        unfold kX13_isLike_114
        refine S_icmp_ne (pc := 114) (tgt := 121) hC dX13_isLike_114 (by decide) ?_ ?_
        · exact hJ 121
        · refine S_iconst (pc := 117) hC dX13_isLike_117 (by decide) ?_
          refine S_goto (pc := 118) (tgt := 136) hC dX13_isLike_118 (by decide) ?_
          exact hJ 136
  have hB121 : zin 12 [0, 1, 7, 8, 9] (aX13_isLike_121 mc ms X Q) X 121 := by
    intro u v vs st M hb
    rw [hXe]
    refine fun lv hp => S_block (L := 121) (live := [0, 1, 7, 8, 9]) ?_ u v lv vs st M hp hb
    unfold aX13_isLike_121
    refine S_iconst (pc := 121) hC dX13_isLike_121 (by decide) ?_
    refine S_goto (pc := 122) (tgt := 136) hC dX13_isLike_122 (by decide) ?_
    exact hJ 136
  have hB136 : zin 12 [0, 1, 7, 8, 9] (aX13_isLike_136 mc ms X Q) X 136 := by
    intro u v vs st M hb
    rw [hXe]
    refine fun lv hp => S_block (L := 136) (live := [0, 1, 7, 8, 9]) ?_ u v lv vs st M hp hb
    unfold aX13_isLike_136
    refine S_istore (pc := 136) hC dX13_isLike_136 (by decide) ?_
    refine S_iload_n (pc := 138) hC dX13_isLike_138 rfl ?_
    refine S_sipush (pc := 139) hC dX13_isLike_139 (by decide) ?_
    refine S_idiv (pc := 142) hC dX13_isLike_142 ?_
    refine S_if_le (pc := 143) (tgt := 157) hC dX13_isLike_143 (by decide) ?_ ?_
    · refine S_iconst (pc := 157) hC dX13_isLike_157 (by decide) ?_
      exact hJ 158
    · refine S_iload_n (pc := 146) hC dX13_isLike_146 rfl ?_
      refine S_sipush (pc := 147) hC dX13_isLike_147 (by decide) ?_
      refine S_idiv (pc := 150) hC dX13_isLike_150 ?_
      refine S_callS (pc := 151) hC (sX13_letter l G) wd_1373 wd_1374 wd_12 wd_1375 (by decide +kernel) ⟨by rw [hRf]; decide, by rw [hRl]; decide⟩ dX13_isLike_151 ?_
      unfold kX13_isLike_154
      refine S_goto (pc := 154) (tgt := 158) hC dX13_isLike_154 (by decide) ?_
      exact hJ 158
  have hB158 : zin 12 [0, 1, 7, 8, 9, 10] (aX13_isLike_158 mc ms X Q) X 158 := by
    intro u v vs st M hb
    rw [hXe]
    refine fun lv hp => S_block (L := 158) (live := [0, 1, 7, 8, 9, 10]) ?_ u v lv vs st M hp hb
    unfold aX13_isLike_158
    refine S_istore (pc := 158) hC dX13_isLike_158 (by decide) ?_
    refine S_iload (pc := 160) hC dX13_isLike_160 ?_
    refine S_if_eq (pc := 162) (tgt := 220) hC dX13_isLike_162 (by decide) ?_ ?_
    · exact hJ 220
    · refine S_iload (pc := 165) hC dX13_isLike_165 ?_
      refine S_iload (pc := 167) hC dX13_isLike_167 ?_
      refine S_if_eq (pc := 169) (tgt := 181) hC dX13_isLike_169 (by decide) ?_ ?_
      · refine S_iconst (pc := 181) hC dX13_isLike_181 (by decide) ?_
        exact hJ 182
      · refine S_aload_n (pc := 172) hC dX13_isLike_172 rfl ?_
        refine S_iload (pc := 173) hC dX13_isLike_173 ?_
        refine S_callV (pc := 175) hC (sX13_sign l G) rfl wd_1516 wd_1518 ws_88 wd_12 wd_1519 (by decide +kernel) ⟨by rw [hRf]; decide, by rw [hRl]; decide⟩ dX13_isLike_175 ?_
        unfold kX13_isLike_178
        refine S_goto (pc := 178) (tgt := 182) hC dX13_isLike_178 (by decide) ?_
        exact hJ 182
  have hB182 : zin 12 [0, 1, 9] (aX13_isLike_182 mc ms X Q) X 182 := by
    intro u v vs st M hb
    rw [hXe]
    refine fun lv hp => S_block (L := 182) (live := [0, 1, 9]) ?_ u v lv vs st M hp hb
    unfold aX13_isLike_182
    refine S_icmp_ne (pc := 182) (tgt := 220) hC dX13_isLike_182 (by decide) ?_ ?_
    · exact hJ 220
    · refine S_iload_n (pc := 185) hC dX13_isLike_185 rfl ?_
      refine S_callS (pc := 186) hC (sX13_toOf l G) wd_1478 wd_1479 wd_12 wd_1480 (by decide +kernel) ⟨by rw [hRf]; decide, by rw [hRl]; decide⟩ dX13_isLike_186 ?_
      unfold kX13_isLike_189
      refine S_aload_n (pc := 189) hC dX13_isLike_189 rfl ?_
      refine S_iload (pc := 190) hC dX13_isLike_190 ?_
      refine S_callV (pc := 192) hC (sX13_sign l G) rfl wd_1516 wd_1518 ws_88 wd_12 wd_1519 (by decide +kernel) ⟨by rw [hRf]; decide, by rw [hRl]; decide⟩ dX13_isLike_192 ?_
      unfold kX13_isLike_195
      refine S_bipush (pc := 195) hC dX13_isLike_195 (by decide) ?_
      refine S_isub (pc := 197) hC dX13_isLike_197 ?_
      refine S_bipush (pc := 198) hC dX13_isLike_198 (by decide) ?_
      refine S_aload_n (pc := 200) hC dX13_isLike_200 rfl ?_
      refine S_iload (pc := 201) hC dX13_isLike_201 ?_
      refine S_iconst (pc := 203) hC dX13_isLike_203 (by decide) ?_
      refine S_iadd (pc := 204) hC dX13_isLike_204 ?_
      refine S_callV (pc := 205) hC (sX13_sign l G) rfl wd_1516 wd_1518 ws_88 wd_12 wd_1519 (by decide +kernel) ⟨by rw [hRf]; decide, by rw [hRl]; decide⟩ dX13_isLike_205 ?_
      unfold kX13_isLike_208
      refine S_bipush (pc := 208) hC dX13_isLike_208 (by decide) ?_
      refine S_isub (pc := 210) hC dX13_isLike_210 ?_
      refine S_imul (pc := 211) hC dX13_isLike_211 ?_
      refine S_iadd (pc := 212) hC dX13_isLike_212 ?_
      refine S_icmp_ne (pc := 213) (tgt := 220) hC dX13_isLike_213 (by decide) ?_ ?_
      · exact hJ 220
      · refine S_iconst (pc := 216) hC dX13_isLike_216 (by decide) ?_
        refine S_goto (pc := 217) (tgt := 221) hC dX13_isLike_217 (by decide) ?_
        exact hJ 221
  have hB220 : zin 12 [] (aX13_isLike_220 mc ms X Q) X 220 := by
    intro u v vs st M hb
    rw [hXe]
    refine fun lv hp => S_block (L := 220) (live := []) ?_ u v lv vs st M hp hb
    unfold aX13_isLike_220
    refine S_iconst (pc := 220) hC dX13_isLike_220 (by decide) ?_
    exact hJ 221
  have hB221 : zin 12 [] (aX13_isLike_221 mc ms X Q) X 221 := by
    intro u v vs st M hb
    rw [hXe]
    refine fun lv hp => S_block (L := 221) (live := []) ?_ u v lv vs st M hp hb
    unfold aX13_isLike_221
    exact S_zreturn (pc := 221) hC hr dX13_isLike_221
  have := h.2 X hB0 hB17 hB28 hB72 hB73 hB91 hB121 hB136 hB158 hB182 hB220 hB221
  rw [hXe] at this
  exact this lv hlv
theorem vX13_isLike_0 {mc ms : Nat} {X : Nat → zV} {Q : zQt} {M : zM} {x1 : Int32} {x2 : Int32} {x3 : Int32} {x4 : Int32} (hW : zFix M)  (h : wX13_castling 0 0 [.ref 55, .int x1] M (fun r M1 => kX13_isLike_5 mc ms X Q 0 0 [some (.ref 55), some (.int x1), some (.int x2), some (.int x3), some (.int x4), none, none, none, none, none, none, none] (r.toList ++ []) M1)) : aX13_isLike_0 mc ms X Q 0 0 [some (.ref 55), some (.int x1), some (.int x2), some (.int x3), some (.int x4), none, none, none, none, none, none, none] [] M := ⟨Nat.le_of_ble_eq_true rfl, rfl, (fxs_55 hW), 0, 0, Nat.zero_le _, Nat.zero_le _, h⟩
theorem vX13_isLike_17 {mc ms : Nat} {X : Nat → zV} {Q : zQt} {M : zM} {x2 : Int32} {x5 : Int32} (hW : zFix M)  (h : (x5 = x2 → X 28 0 0 [] [.int 1] M) ∧ (¬ x5 = x2 → X 28 0 0 [] [.int 0] M)) : aX13_isLike_17 mc ms X Q 0 0 [none, none, some (.int x2), none, none, some (.int x5), none, none, none, none, none, none] [] M := ⟨fun c20 => (h.1 c20), fun c20 => (h.2 c20)⟩
theorem vX13_isLike_28 {mc ms : Nat} {X : Nat → zV} {Q : zQt} {M : zM} {s0 : Int32} (hW : zFix M)  (h : narrow .boolean (.int s0) = .int s0 ∧ Q (some (.int s0)) M) : aX13_isLike_28 mc ms X Q 0 0 [none, none, none, none, none, none, none, none, none, none, none, none] [.int s0] M := h
theorem vX13_isLike_72 {mc ms : Nat} {X : Nat → zV} {Q : zQt} {M : zM} {x1 : Int32} {x2 : Int32} {x3 : Int32} {x6 : Int32} {x7 : Int32} (hW : zFix M)  (h : X 73 0 0 [.ref 55, .int x1, .int x2, .int x3, .int x6, .int x7] [.int 0] M) : aX13_isLike_72 mc ms X Q 0 0 [some (.ref 55), some (.int x1), some (.int x2), some (.int x3), none, none, some (.int x6), some (.int x7), none, none, none, none] [] M := h
theorem vX13_isLike_73 {mc ms : Nat} {X : Nat → zV} {Q : zQt} {M : zM} {x1 : Int32} {x2 : Int32} {x3 : Int32} {x6 : Int32} {x7 : Int32} {s0 : Int32} (hW : zFix M)  (h : (s0 = 0 → X 91 0 0 [.ref 55, .int x1, .int x2, .int x3, .int x6, .int x7, .int s0] [.int (x7 - (1 : Int32))] M) ∧ (¬ s0 = 0 → X 91 0 0 [.ref 55, .int x1, .int x2, .int x3, .int x6, .int x7, .int s0] [.int (x7 - (2 : Int32))] M)) : aX13_isLike_73 mc ms X Q 0 0 [some (.ref 55), some (.int x1), some (.int x2), some (.int x3), none, none, some (.int x6), some (.int x7), none, none, none, none] [.int s0] M := ⟨fun c77 => (h.1 c77), fun c77 => (h.2 c77)⟩
theorem vX13_isLike_91 {mc ms : Nat} {X : Nat → zV} {Q : zQt} {M : zM} {x1 : Int32} {x2 : Int32} {x3 : Int32} {x6 : Int32} {x7 : Int32} {x8 : Int32} {s0 : Int32} (hW : zFix M)  (h : (x2 = (3 : Int32) → (x6 = (1 : Int32) → X 121 0 0 [.ref 55, .int x1, .int x7, .int x8, .int s0] [] M) ∧ (¬ x6 = (1 : Int32) → wX13_letter 0 0 [.int x6] M (fun r M1 => kX13_isLike_109 mc ms X Q 0 0 [some (.ref 55), some (.int x1), some (.int x2), some (.int x3), none, none, some (.int x6), some (.int x7), some (.int x8), some (.int s0), none, none] (r.toList ++ []) M1))) ∧ (¬ x2 = (3 : Int32) → (x6 = (1 : Int32) → X 136 0 0 [.ref 55, .int x1, .int x7, .int x8, .int s0] [.int 1] M) ∧ (¬ x6 = (1 : Int32) → X 136 0 0 [.ref 55, .int x1, .int x7, .int x8, .int s0] [.int 0] M))) : aX13_isLike_91 mc ms X Q 0 0 [some (.ref 55), some (.int x1), some (.int x2), some (.int x3), none, none, some (.int x6), some (.int x7), some (.int x8), none, none, none] [.int s0] M := ⟨fun c95 => ⟨fun c101 => ((h.1 c95).1 c101), fun c101 => ⟨Nat.le_of_ble_eq_true rfl, rfl, 0, 0, Nat.zero_le _, Nat.zero_le _, ((h.1 c95).2 c101)⟩⟩, fun c95 => ⟨fun c128 => ((h.2 c95).1 c128), fun c128 => ((h.2 c95).2 c128)⟩⟩
theorem vX13_isLike_121 {mc ms : Nat} {X : Nat → zV} {Q : zQt} {M : zM} {x1 : Int32} {x7 : Int32} {x8 : Int32} {x9 : Int32} (hW : zFix M)  (h : X 136 0 0 [.ref 55, .int x1, .int x7, .int x8, .int x9] [.int 0] M) : aX13_isLike_121 mc ms X Q 0 0 [some (.ref 55), some (.int x1), none, none, none, none, none, some (.int x7), some (.int x8), some (.int x9), none, none] [] M := h
theorem vX13_isLike_136 {mc ms : Nat} {X : Nat → zV} {Q : zQt} {M : zM} {x1 : Int32} {x7 : Int32} {x8 : Int32} {x9 : Int32} {s0 : Int32} (hW : zFix M)  (h : ((x1 / (4096 : Int32)) ≤ 0 → X 158 0 0 [.ref 55, .int x1, .int x7, .int x8, .int x9, .int s0] [.int 0] M) ∧ (¬ (x1 / (4096 : Int32)) ≤ 0 → wX13_letter 0 0 [.int (x1 / (4096 : Int32))] M (fun r M1 => kX13_isLike_154 mc ms X Q 0 0 [some (.ref 55), some (.int x1), none, none, none, none, none, some (.int x7), some (.int x8), some (.int x9), some (.int s0), none] (r.toList ++ []) M1))) : aX13_isLike_136 mc ms X Q 0 0 [some (.ref 55), some (.int x1), none, none, none, none, none, some (.int x7), some (.int x8), some (.int x9), none, none] [.int s0] M := ⟨by decide, ⟨fun c143 => (h.1 c143), fun c143 => ⟨by decide, ⟨Nat.le_of_ble_eq_true rfl, rfl, 0, 0, Nat.zero_le _, Nat.zero_le _, (h.2 c143)⟩⟩⟩⟩
theorem vX13_isLike_158 {mc ms : Nat} {X : Nat → zV} {Q : zQt} {M : zM} {x1 : Int32} {x7 : Int32} {x8 : Int32} {x9 : Int32} {x10 : Int32} {s0 : Int32} (hW : zFix M)  (h : (x10 = 0 → X 220 0 0 [] [] M) ∧ (¬ x10 = 0 → (x8 = 0 → X 182 0 0 [.ref 55, .int x1, .int x9] [.int 0, .int s0] M) ∧ (¬ x8 = 0 → wX13_sign 0 0 [.ref 55, .int x7] M (fun r M1 => kX13_isLike_178 mc ms X Q 0 0 [some (.ref 55), some (.int x1), none, none, none, none, none, some (.int x7), some (.int x8), some (.int x9), some (.int x10), some (.int s0)] (r.toList ++ [.int s0]) M1)))) : aX13_isLike_158 mc ms X Q 0 0 [some (.ref 55), some (.int x1), none, none, none, none, none, some (.int x7), some (.int x8), some (.int x9), some (.int x10), none] [.int s0] M := ⟨fun c162 => (h.1 c162), fun c162 => ⟨fun c169 => ((h.2 c162).1 c169), fun c169 => ⟨Nat.le_of_ble_eq_true rfl, rfl, (fxs_55 hW), 0, 0, Nat.zero_le _, Nat.zero_le _, ((h.2 c162).2 c169)⟩⟩⟩
theorem vX13_isLike_182 {mc ms : Nat} {X : Nat → zV} {Q : zQt} {M : zM} {x1 : Int32} {x9 : Int32} {s0 : Int32} {s1 : Int32} (hW : zFix M)  (h : (s1 = s0 → wX13_toOf 0 0 [.int x1] M (fun r M1 => kX13_isLike_189 mc ms X Q 0 0 [some (.ref 55), some (.int x1), none, none, none, none, none, none, none, some (.int x9), none, none] (r.toList ++ []) M1)) ∧ (¬ s1 = s0 → X 220 0 0 [] [] M)) : aX13_isLike_182 mc ms X Q 0 0 [some (.ref 55), some (.int x1), none, none, none, none, none, none, none, some (.int x9), none, none] [.int s0, .int s1] M := ⟨fun c182 => ⟨Nat.le_of_ble_eq_true rfl, rfl, 0, 0, Nat.zero_le _, Nat.zero_le _, (h.1 c182)⟩, fun c182 => (h.2 c182)⟩
theorem vX13_isLike_220 {mc ms : Nat} {X : Nat → zV} {Q : zQt} {M : zM}  (hW : zFix M)  (h : X 221 0 0 [] [.int 0] M) : aX13_isLike_220 mc ms X Q 0 0 [none, none, none, none, none, none, none, none, none, none, none, none] [] M := h
theorem vX13_isLike_221 {mc ms : Nat} {X : Nat → zV} {Q : zQt} {M : zM} {s0 : Int32} (hW : zFix M)  (h : narrow .boolean (.int s0) = .int s0 ∧ Q (some (.int s0)) M) : aX13_isLike_221 mc ms X Q 0 0 [none, none, none, none, none, none, none, none, none, none, none, none] [.int s0] M := h
theorem vkX13_isLike_5 {mc ms : Nat} {X : Nat → zV} {Q : zQt} {M : zM} {x1 : Int32} {x2 : Int32} {x3 : Int32} {x4 : Int32} {s0 : Int32} (hW : zFix M)  (h : (x2 < (3 : Int32) → X 17 0 0 [.int x2, .int s0] [] M) ∧ (¬ x2 < (3 : Int32) → (s0 ≤ 0 → wX13_fromOf 0 0 [.int x1] M (fun r M1 => kX13_isLike_37 mc ms X Q 0 0 [some (.ref 55), some (.int x1), some (.int x2), some (.int x3), some (.int x4), some (.int s0), none, none, none, none, none, none] (r.toList ++ [.ref 65]) M1)) ∧ (¬ s0 ≤ 0 → X 17 0 0 [.int x2, .int s0] [] M))) : kX13_isLike_5 mc ms X Q 0 0 [some (.ref 55), some (.int x1), some (.int x2), some (.int x3), some (.int x4), none, none, none, none, none, none, none] [.int s0] M := ⟨fun c9 => (h.1 c9), fun c9 => ⟨fun c14 => ⟨(fxs_55 hW), 65, (fxr_55_16 hW), ⟨Nat.le_of_ble_eq_true rfl, rfl, 0, 0, Nat.zero_le _, Nat.zero_le _, ((h.2 c9).1 c14)⟩⟩, fun c14 => ((h.2 c9).2 c14)⟩⟩
theorem vkX13_isLike_37 {mc ms : Nat} {X : Nat → zV} {Q : zQt} {M : zM} {x1 : Int32} {x2 : Int32} {x3 : Int32} {x4 : Int32} {x5 : Int32} {s0 : Int32} (hW : zFix M)  (h : vp_in s0 414 ∧ wX13_kindOf 0 0 [.int ((M : zM).1 65 (s0 : Int32).toNatClampNeg)] M (fun r M1 => kX13_isLike_41 mc ms X Q 0 0 [some (.ref 55), some (.int x1), some (.int x2), some (.int x3), some (.int x4), some (.int x5), none, none, none, none, none, none] (r.toList ++ []) M1)) : kX13_isLike_37 mc ms X Q 0 0 [some (.ref 55), some (.int x1), some (.int x2), some (.int x3), some (.int x4), some (.int x5), none, none, none, none, none, none] [.int s0, .ref 65] M := ⟨414, (fxs_65 hW), h.1, ⟨Nat.le_of_ble_eq_true rfl, rfl, 0, 0, Nat.zero_le _, Nat.zero_le _, h.2⟩⟩
theorem vkX13_isLike_41 {mc ms : Nat} {X : Nat → zV} {Q : zQt} {M : zM} {x1 : Int32} {x2 : Int32} {x3 : Int32} {x4 : Int32} {x5 : Int32} {s0 : Int32} (hW : zFix M)  (h : (x2 = (4 : Int32) → wX13_sign 0 0 [.ref 55, .int ((x3 + x4) - (1 : Int32))] M (fun r M1 => kX13_isLike_62 mc ms X Q 0 0 [some (.ref 55), some (.int x1), some (.int x2), some (.int x3), some (.int x4), some (.int x5), some (.int s0), some (.int ((x3 + x4) - (1 : Int32))), none, none, none, none] (r.toList ++ []) M1)) ∧ (¬ x2 = (4 : Int32) → X 72 0 0 [.ref 55, .int x1, .int x2, .int x3, .int s0, .int ((x3 + x4) - (1 : Int32))] [] M)) : kX13_isLike_41 mc ms X Q 0 0 [some (.ref 55), some (.int x1), some (.int x2), some (.int x3), some (.int x4), some (.int x5), none, none, none, none, none, none] [.int s0] M := ⟨fun c53 => ⟨Nat.le_of_ble_eq_true rfl, rfl, (fxs_55 hW), 0, 0, Nat.zero_le _, Nat.zero_le _, (h.1 c53)⟩, fun c53 => (h.2 c53)⟩
theorem vkX13_isLike_62 {mc ms : Nat} {X : Nat → zV} {Q : zQt} {M : zM} {x1 : Int32} {x2 : Int32} {x3 : Int32} {x4 : Int32} {x5 : Int32} {x6 : Int32} {x7 : Int32} {s0 : Int32} (hW : zFix M)  (h : wX13_isOfficer 0 0 [.int s0] M (fun r M1 => kX13_isLike_65 mc ms X Q 0 0 [some (.ref 55), some (.int x1), some (.int x2), some (.int x3), some (.int x4), some (.int x5), some (.int x6), some (.int x7), none, none, none, none] (r.toList ++ []) M1)) : kX13_isLike_62 mc ms X Q 0 0 [some (.ref 55), some (.int x1), some (.int x2), some (.int x3), some (.int x4), some (.int x5), some (.int x6), some (.int x7), none, none, none, none] [.int s0] M := ⟨Nat.le_of_ble_eq_true rfl, rfl, 0, 0, Nat.zero_le _, Nat.zero_le _, h⟩
theorem vkX13_isLike_65 {mc ms : Nat} {X : Nat → zV} {Q : zQt} {M : zM} {x1 : Int32} {x2 : Int32} {x3 : Int32} {x4 : Int32} {x5 : Int32} {x6 : Int32} {x7 : Int32} {s0 : Int32} (hW : zFix M)  (h : (s0 = 0 → X 72 0 0 [.ref 55, .int x1, .int x2, .int x3, .int x6, .int x7] [] M) ∧ (¬ s0 = 0 → X 73 0 0 [.ref 55, .int x1, .int x2, .int x3, .int x6, .int x7] [.int 1] M)) : kX13_isLike_65 mc ms X Q 0 0 [some (.ref 55), some (.int x1), some (.int x2), some (.int x3), some (.int x4), some (.int x5), some (.int x6), some (.int x7), none, none, none, none] [.int s0] M := ⟨fun c65 => (h.1 c65), fun c65 => (h.2 c65)⟩
theorem vkX13_isLike_109 {mc ms : Nat} {X : Nat → zV} {Q : zQt} {M : zM} {x1 : Int32} {x2 : Int32} {x3 : Int32} {x6 : Int32} {x7 : Int32} {x8 : Int32} {x9 : Int32} {s0 : Int32} (hW : zFix M)  (h : wX13_sign 0 0 [.ref 55, .int x3] M (fun r M1 => kX13_isLike_114 mc ms X Q 0 0 [some (.ref 55), some (.int x1), some (.int x2), some (.int x3), none, none, some (.int x6), some (.int x7), some (.int x8), some (.int x9), none, none] (r.toList ++ [.int s0]) M1)) : kX13_isLike_109 mc ms X Q 0 0 [some (.ref 55), some (.int x1), some (.int x2), some (.int x3), none, none, some (.int x6), some (.int x7), some (.int x8), some (.int x9), none, none] [.int s0] M := ⟨Nat.le_of_ble_eq_true rfl, rfl, (fxs_55 hW), 0, 0, Nat.zero_le _, Nat.zero_le _, h⟩
theorem vkX13_isLike_114 {mc ms : Nat} {X : Nat → zV} {Q : zQt} {M : zM} {x1 : Int32} {x2 : Int32} {x3 : Int32} {x6 : Int32} {x7 : Int32} {x8 : Int32} {x9 : Int32} {s0 : Int32} {s1 : Int32} (hW : zFix M)  (h : (s1 = s0 → X 136 0 0 [.ref 55, .int x1, .int x7, .int x8, .int x9] [.int 1] M) ∧ (¬ s1 = s0 → X 121 0 0 [.ref 55, .int x1, .int x7, .int x8, .int x9] [] M)) : kX13_isLike_114 mc ms X Q 0 0 [some (.ref 55), some (.int x1), some (.int x2), some (.int x3), none, none, some (.int x6), some (.int x7), some (.int x8), some (.int x9), none, none] [.int s0, .int s1] M := ⟨fun c114 => (h.1 c114), fun c114 => (h.2 c114)⟩
theorem vkX13_isLike_154 {mc ms : Nat} {X : Nat → zV} {Q : zQt} {M : zM} {x1 : Int32} {x7 : Int32} {x8 : Int32} {x9 : Int32} {x10 : Int32} {s0 : Int32} (hW : zFix M)  (h : X 158 0 0 [.ref 55, .int x1, .int x7, .int x8, .int x9, .int x10] [.int s0] M) : kX13_isLike_154 mc ms X Q 0 0 [some (.ref 55), some (.int x1), none, none, none, none, none, some (.int x7), some (.int x8), some (.int x9), some (.int x10), none] [.int s0] M := h
theorem vkX13_isLike_178 {mc ms : Nat} {X : Nat → zV} {Q : zQt} {M : zM} {x1 : Int32} {x7 : Int32} {x8 : Int32} {x9 : Int32} {x10 : Int32} {x11 : Int32} {s0 : Int32} {s1 : Int32} (hW : zFix M)  (h : X 182 0 0 [.ref 55, .int x1, .int x9] [.int s0, .int s1] M) : kX13_isLike_178 mc ms X Q 0 0 [some (.ref 55), some (.int x1), none, none, none, none, none, some (.int x7), some (.int x8), some (.int x9), some (.int x10), some (.int x11)] [.int s0, .int s1] M := h
theorem vkX13_isLike_189 {mc ms : Nat} {X : Nat → zV} {Q : zQt} {M : zM} {x1 : Int32} {x9 : Int32} {s0 : Int32} (hW : zFix M)  (h : wX13_sign 0 0 [.ref 55, .int x9] M (fun r M1 => kX13_isLike_195 mc ms X Q 0 0 [some (.ref 55), some (.int x1), none, none, none, none, none, none, none, some (.int x9), none, none] (r.toList ++ [.int s0]) M1)) : kX13_isLike_189 mc ms X Q 0 0 [some (.ref 55), some (.int x1), none, none, none, none, none, none, none, some (.int x9), none, none] [.int s0] M := ⟨Nat.le_of_ble_eq_true rfl, rfl, (fxs_55 hW), 0, 0, Nat.zero_le _, Nat.zero_le _, h⟩
theorem vkX13_isLike_195 {mc ms : Nat} {X : Nat → zV} {Q : zQt} {M : zM} {x1 : Int32} {x9 : Int32} {s0 : Int32} {s1 : Int32} (hW : zFix M)  (h : wX13_sign 0 0 [.ref 55, .int (x9 + (1 : Int32))] M (fun r M1 => kX13_isLike_208 mc ms X Q 0 0 [some (.ref 55), some (.int x1), none, none, none, none, none, none, none, some (.int x9), none, none] (r.toList ++ [.int 8, .int (s0 - (97 : Int32)), .int s1]) M1)) : kX13_isLike_195 mc ms X Q 0 0 [some (.ref 55), some (.int x1), none, none, none, none, none, none, none, some (.int x9), none, none] [.int s0, .int s1] M := ⟨Nat.le_of_ble_eq_true rfl, rfl, (fxs_55 hW), 0, 0, Nat.zero_le _, Nat.zero_le _, h⟩
theorem vkX13_isLike_208 {mc ms : Nat} {X : Nat → zV} {Q : zQt} {M : zM} {x1 : Int32} {x9 : Int32} {s0 : Int32} {s1 : Int32} {s2 : Int32} {s3 : Int32} (hW : zFix M)  (h : (s3 = (s2 + (s1 * (s0 - (49 : Int32)))) → X 221 0 0 [] [.int 1] M) ∧ (¬ s3 = (s2 + (s1 * (s0 - (49 : Int32)))) → X 220 0 0 [] [] M)) : kX13_isLike_208 mc ms X Q 0 0 [some (.ref 55), some (.int x1), none, none, none, none, none, none, none, some (.int x9), none, none] [.int s0, .int s1, .int s2, .int s3] M := ⟨fun c213 => (h.1 c213), fun c213 => (h.2 c213)⟩
theorem dX13_proceed_0 : decode cX13_proceed 0 = .ok (.aload_n 0, 1) := by decide +kernel
theorem dX13_proceed_1 : decode cX13_proceed 1 = .ok (.aload_n 0, 1) := by decide +kernel
theorem dX13_proceed_2 : decode cX13_proceed 2 = .ok (.getfield 177, 3) := by decide +kernel
theorem dX13_proceed_5 : decode cX13_proceed 5 = .ok (.ifCond .eq 25, 3) := by decide +kernel
theorem dX13_proceed_8 : decode cX13_proceed 8 = .ok (.aload_n 0, 1) := by decide +kernel
theorem dX13_proceed_9 : decode cX13_proceed 9 = .ok (.invokevirtual 289, 3) := by decide +kernel
theorem dX13_proceed_12 : decode cX13_proceed 12 = .ok (.ifCond .ne 18, 3) := by decide +kernel
theorem dX13_proceed_15 : decode cX13_proceed 15 = .ok (.aload_n 0, 1) := by decide +kernel
theorem dX13_proceed_16 : decode cX13_proceed 16 = .ok (.getfield 22, 3) := by decide +kernel
theorem dX13_proceed_19 : decode cX13_proceed 19 = .ok (.aload_n 0, 1) := by decide +kernel
theorem dX13_proceed_20 : decode cX13_proceed 20 = .ok (.getfield 123, 3) := by decide +kernel
theorem dX13_proceed_23 : decode cX13_proceed 23 = .ok (.iaload, 1) := by decide +kernel
theorem dX13_proceed_24 : decode cX13_proceed 24 = .ok (.sipush 601, 3) := by decide +kernel
theorem dX13_proceed_27 : decode cX13_proceed 27 = .ok (.if_icmp .ne 7, 3) := by decide +kernel
theorem dX13_proceed_30 : decode cX13_proceed 30 = .ok (.iconst 1, 1) := by decide +kernel
theorem dX13_proceed_31 : decode cX13_proceed 31 = .ok (.goto 4, 3) := by decide +kernel
theorem dX13_proceed_34 : decode cX13_proceed 34 = .ok (.iconst 0, 1) := by decide +kernel
theorem dX13_proceed_35 : decode cX13_proceed 35 = .ok (.putfield 68, 3) := by decide +kernel
theorem dX13_proceed_38 : decode cX13_proceed 38 = .ok (.aload_n 0, 1) := by decide +kernel
theorem dX13_proceed_39 : decode cX13_proceed 39 = .ok (.getfield 68, 3) := by decide +kernel
theorem dX13_proceed_42 : decode cX13_proceed 42 = .ok (.ifCond .le 5, 3) := by decide +kernel
theorem dX13_proceed_45 : decode cX13_proceed 45 = .ok (.iconst 0, 1) := by decide +kernel
theorem dX13_proceed_46 : decode cX13_proceed 46 = .ok (.ireturn, 1) := by decide +kernel
theorem dX13_proceed_47 : decode cX13_proceed 47 = .ok (.aload_n 0, 1) := by decide +kernel
theorem dX13_proceed_48 : decode cX13_proceed 48 = .ok (.invokevirtual 181, 3) := by decide +kernel
theorem dX13_proceed_51 : decode cX13_proceed 51 = .ok (.aload_n 0, 1) := by decide +kernel
theorem dX13_proceed_52 : decode cX13_proceed 52 = .ok (.iload_n 1, 1) := by decide +kernel
theorem dX13_proceed_53 : decode cX13_proceed 53 = .ok (.ifCond .lt 13, 3) := by decide +kernel
theorem dX13_proceed_56 : decode cX13_proceed 56 = .ok (.iload_n 1, 1) := by decide +kernel
theorem dX13_proceed_57 : decode cX13_proceed 57 = .ok (.aload_n 0, 1) := by decide +kernel
theorem dX13_proceed_58 : decode cX13_proceed 58 = .ok (.getfield 49, 3) := by decide +kernel
theorem dX13_proceed_61 : decode cX13_proceed 61 = .ok (.iconst 0, 1) := by decide +kernel
theorem dX13_proceed_62 : decode cX13_proceed 62 = .ok (.iaload, 1) := by decide +kernel
theorem dX13_proceed_63 : decode cX13_proceed 63 = .ok (.if_icmp .lt 7, 3) := by decide +kernel
theorem dX13_proceed_66 : decode cX13_proceed 66 = .ok (.iconst 2, 1) := by decide +kernel
theorem dX13_proceed_67 : decode cX13_proceed 67 = .ok (.goto 4, 3) := by decide +kernel
theorem dX13_proceed_70 : decode cX13_proceed 70 = .ok (.iconst 0, 1) := by decide +kernel
theorem dX13_proceed_71 : decode cX13_proceed 71 = .ok (.putfield 68, 3) := by decide +kernel
theorem dX13_proceed_74 : decode cX13_proceed 74 = .ok (.aload_n 0, 1) := by decide +kernel
theorem dX13_proceed_75 : decode cX13_proceed 75 = .ok (.getfield 68, 3) := by decide +kernel
theorem dX13_proceed_78 : decode cX13_proceed 78 = .ok (.ifCond .le 5, 3) := by decide +kernel
theorem dX13_proceed_81 : decode cX13_proceed 81 = .ok (.iconst 0, 1) := by decide +kernel
theorem dX13_proceed_82 : decode cX13_proceed 82 = .ok (.ireturn, 1) := by decide +kernel
theorem dX13_proceed_83 : decode cX13_proceed 83 = .ok (.aload_n 0, 1) := by decide +kernel
theorem dX13_proceed_84 : decode cX13_proceed 84 = .ok (.aload_n 0, 1) := by decide +kernel
theorem dX13_proceed_85 : decode cX13_proceed 85 = .ok (.getfield 46, 3) := by decide +kernel
theorem dX13_proceed_88 : decode cX13_proceed 88 = .ok (.iload_n 1, 1) := by decide +kernel
theorem dX13_proceed_89 : decode cX13_proceed 89 = .ok (.iaload, 1) := by decide +kernel
theorem dX13_proceed_90 : decode cX13_proceed 90 = .ok (.invokevirtual 295, 3) := by decide +kernel
theorem dX13_proceed_93 : decode cX13_proceed 93 = .ok (.aload_n 0, 1) := by decide +kernel
theorem dX13_proceed_94 : decode cX13_proceed 94 = .ok (.invokevirtual 147, 3) := by decide +kernel
theorem dX13_proceed_97 : decode cX13_proceed 97 = .ok (.ireturn, 1) := by decide +kernel
def kX13_proceed_12 (mc ms : Nat) (X : Nat → zV) (Q : zQt) : zT :=
  zif (fun x => x = 0) (zla 0 <| zgR 13 9 <| zla 0 <| zgi 13 6 <| zal 1 <| zc (.int 601) <| zic (fun x y => x = y) (zj X 30 [0, 1]) <| zc (.int 0) <| zj X 35 [0, 1]) <| zj X 30 [0, 1]
def kX13_proceed_51 (mc ms : Nat) (X : Nat → zV) (Q : zQt) : zT :=
  zla 0 <| zli 1 <| zif (fun x => x < 0) (zj X 66 [0, 1]) <| zli 1 <| zla 0 <| zgR 13 18 <| zc (.int 0) <| zal 1 <| zic (fun x y => x < y) (zc (.int 0) <| zj X 71 [0, 1]) <| zj X 66 [0, 1]
def kX13_proceed_97 (mc ms : Nat) (X : Nat → zV) (Q : zQt) : zT :=
  zri Q
def kX13_proceed_93 (mc ms : Nat) (X : Nat → zV) (Q : zQt) : zT :=
  zla 0 <| zcv mc ms 13 0 wX13_verdict <| kX13_proceed_97 mc ms X Q
def aX13_proceed_0 (mc ms : Nat) (X : Nat → zV) (Q : zQt) : zT :=
  zla 0 <| zla 0 <| zgi 13 7 <| zif (fun x => x = 0) (zj X 30 [0, 1]) <| zla 0 <| zcv mc ms 13 0 wX13_hasEnded <| kX13_proceed_12 mc ms X Q
def aX13_proceed_30 (mc ms : Nat) (X : Nat → zV) (Q : zQt) : zT :=
  zc (.int 1) <| zj X 35 [0, 1]
def aX13_proceed_35 (mc ms : Nat) (X : Nat → zV) (Q : zQt) : zT :=
  zpi 13 0 <| zla 0 <| zgi 13 0 <| zif (fun x => x ≤ 0) (zla 0 <| zcv mc ms 13 0 wX13_show <| kX13_proceed_51 mc ms X Q) <| zc (.int 0) <| zri Q
def aX13_proceed_66 (mc ms : Nat) (X : Nat → zV) (Q : zQt) : zT :=
  zc (.int 2) <| zj X 71 [0, 1]
def aX13_proceed_71 (mc ms : Nat) (X : Nat → zV) (Q : zQt) : zT :=
  zpi 13 0 <| zla 0 <| zgi 13 0 <| zif (fun x => x ≤ 0) (zla 0 <| zla 0 <| zgR 13 17 <| zli 1 <| zal 1 <| zcv mc ms 13 1 wX13_play <| kX13_proceed_93 mc ms X Q) <| zc (.int 0) <| zri Q
def lvX13_proceed : Nat → List Nat := fun L => match L with
  | 0 => [0, 1]
  | 30 => [0, 1]
  | 35 => [0, 1]
  | 66 => [0, 1]
  | 71 => [0, 1]
  | _ => []
def wX13_proceed : zSp := fun mc ms av M Q => ((zlay av).length ≤ 2 ∧ zpick (zlay av) [0, 1] = some av) ∧ ∀ X : Nat → zV, zin 2 [0, 1] (aX13_proceed_0 mc ms X Q) X 0 → zin 2 [0, 1] (aX13_proceed_30 mc ms X Q) X 30 → zin 2 [0, 1] (aX13_proceed_35 mc ms X Q) X 35 → zin 2 [0, 1] (aX13_proceed_66 mc ms X Q) X 66 → zin 2 [0, 1] (aX13_proceed_71 mc ms X Q) X 71 → X 0 0 0 av [] M
set_option maxRecDepth 100000 in
set_option maxHeartbeats 4000000 in
theorem sX13_proceed (l : Launch) (G : zG) : zSnd l G yX13_proceed cX13_proceed 2 (some .int) 9 231 wX13_proceed := by
  refine zmk [0, 1] (by decide) (fun mc ms av M Q h => h.1) ?_
  intro p e R s m args below meth c mc ms av M Q hC hRf hRl hr hnm h lv hlv
  obtain ⟨X, hXe⟩ : ∃ X : Nat → zV, X = fun L u v vs st M => ∀ lv, zpick lv (lvX13_proceed L) = some vs → zAt p l e R s m args below meth c (MQ below (zQ G Q) args s mc ms (zA G)) G 2 L u v lv st M := ⟨_, rfl⟩
  have hJ : ∀ L, zOk p l e R s m args below meth c (MQ below (zQ G Q) args s mc ms (zA G)) G 2 L (zj X L (lvX13_proceed L)) := fun L => S_jump (fun u v lv vs st M hp hx => by rw [hXe] at hx; exact hx lv hp)
  have hB0 : zin 2 [0, 1] (aX13_proceed_0 mc ms X Q) X 0 := by
    intro u v vs st M hb
    rw [hXe]
    refine fun lv hp => S_block (L := 0) (live := [0, 1]) ?_ u v lv vs st M hp hb
    unfold aX13_proceed_0
    refine S_aload_n (pc := 0) hC dX13_proceed_0 rfl ?_
    refine S_aload_n (pc := 1) hC dX13_proceed_1 rfl ?_
    refine S_geti (pc := 2) hC cfX13 (by decide) (Or.inr rfl) wd_1262 dX13_proceed_2 ?_
    refine S_if_eq (pc := 5) (tgt := 30) hC dX13_proceed_5 (by decide) ?_ ?_
    · exact hJ 30
    · refine S_aload_n (pc := 8) hC dX13_proceed_8 rfl ?_
      refine S_callV (pc := 9) hC (sX13_hasEnded l G) rfl wd_1504 wd_1506 ws_85 wd_12 wd_1507 (by decide +kernel) ⟨by rw [hRf]; decide, by rw [hRl]; decide⟩ dX13_proceed_9 ?_
      unfold kX13_proceed_12
      refine S_if_ne (pc := 12) (tgt := 30) hC dX13_proceed_12 (by decide) ?_ ?_
      · exact hJ 30
      · refine S_aload_n (pc := 15) hC dX13_proceed_15 rfl ?_
        refine S_getR (pc := 16) hC cfX13 (by decide) (Or.inr ⟨_, rfl⟩) wd_1264 dX13_proceed_16 ?_
        refine S_aload_n (pc := 19) hC dX13_proceed_19 rfl ?_
        refine S_geti (pc := 20) hC cfX13 (by decide) (Or.inl rfl) wd_1261 dX13_proceed_20 ?_
        refine S_iaload (pc := 23) hC dX13_proceed_23 ?_
        refine S_sipush (pc := 24) hC dX13_proceed_24 (by decide) ?_
        refine S_icmp_ne (pc := 27) (tgt := 34) hC dX13_proceed_27 (by decide) ?_ ?_
        · refine S_iconst (pc := 34) hC dX13_proceed_34 (by decide) ?_
          exact hJ 35
        · exact hJ 30
  have hB30 : zin 2 [0, 1] (aX13_proceed_30 mc ms X Q) X 30 := by
    intro u v vs st M hb
    rw [hXe]
    refine fun lv hp => S_block (L := 30) (live := [0, 1]) ?_ u v lv vs st M hp hb
    unfold aX13_proceed_30
    refine S_iconst (pc := 30) hC dX13_proceed_30 (by decide) ?_
    refine S_goto (pc := 31) (tgt := 35) hC dX13_proceed_31 (by decide) ?_
    exact hJ 35
  have hB35 : zin 2 [0, 1] (aX13_proceed_35 mc ms X Q) X 35 := by
    intro u v vs st M hb
    rw [hXe]
    refine fun lv hp => S_block (L := 35) (live := [0, 1]) ?_ u v lv vs st M hp hb
    unfold aX13_proceed_35
    refine S_puti (pc := 35) hC cfX13 (by decide) rfl (Or.inl rfl) wd_1255 dX13_proceed_35 ?_
    refine S_aload_n (pc := 38) hC dX13_proceed_38 rfl ?_
    refine S_geti (pc := 39) hC cfX13 (by decide) (Or.inl rfl) wd_1255 dX13_proceed_39 ?_
    refine S_if_le (pc := 42) (tgt := 47) hC dX13_proceed_42 (by decide) ?_ ?_
    · refine S_aload_n (pc := 47) hC dX13_proceed_47 rfl ?_
      refine S_callV (pc := 48) hC (sX13_show l G) rfl wd_1585 wd_1587 ws_103 wd_12 wd_1588 (by decide +kernel) ⟨by rw [hRf]; decide, by rw [hRl]; decide⟩ dX13_proceed_48 ?_
      unfold kX13_proceed_51
      refine S_aload_n (pc := 51) hC dX13_proceed_51 rfl ?_
      refine S_iload_n (pc := 52) hC dX13_proceed_52 rfl ?_
      refine S_if_lt (pc := 53) (tgt := 66) hC dX13_proceed_53 (by decide) ?_ ?_
      · exact hJ 66
      · refine S_iload_n (pc := 56) hC dX13_proceed_56 rfl ?_
        refine S_aload_n (pc := 57) hC dX13_proceed_57 rfl ?_
        refine S_getR (pc := 58) hC cfX13 (by decide) (Or.inr ⟨_, rfl⟩) wd_1273 dX13_proceed_58 ?_
        refine S_iconst (pc := 61) hC dX13_proceed_61 (by decide) ?_
        refine S_iaload (pc := 62) hC dX13_proceed_62 ?_
        refine S_icmp_lt (pc := 63) (tgt := 70) hC dX13_proceed_63 (by decide) ?_ ?_
        · refine S_iconst (pc := 70) hC dX13_proceed_70 (by decide) ?_
          exact hJ 71
        · exact hJ 66
    · refine S_iconst (pc := 45) hC dX13_proceed_45 (by decide) ?_
      exact S_ireturn (pc := 46) hC hr dX13_proceed_46
  have hB66 : zin 2 [0, 1] (aX13_proceed_66 mc ms X Q) X 66 := by
    intro u v vs st M hb
    rw [hXe]
    refine fun lv hp => S_block (L := 66) (live := [0, 1]) ?_ u v lv vs st M hp hb
    unfold aX13_proceed_66
    refine S_iconst (pc := 66) hC dX13_proceed_66 (by decide) ?_
    refine S_goto (pc := 67) (tgt := 71) hC dX13_proceed_67 (by decide) ?_
    exact hJ 71
  have hB71 : zin 2 [0, 1] (aX13_proceed_71 mc ms X Q) X 71 := by
    intro u v vs st M hb
    rw [hXe]
    refine fun lv hp => S_block (L := 71) (live := [0, 1]) ?_ u v lv vs st M hp hb
    unfold aX13_proceed_71
    refine S_puti (pc := 71) hC cfX13 (by decide) rfl (Or.inl rfl) wd_1255 dX13_proceed_71 ?_
    refine S_aload_n (pc := 74) hC dX13_proceed_74 rfl ?_
    refine S_geti (pc := 75) hC cfX13 (by decide) (Or.inl rfl) wd_1255 dX13_proceed_75 ?_
    refine S_if_le (pc := 78) (tgt := 83) hC dX13_proceed_78 (by decide) ?_ ?_
    · refine S_aload_n (pc := 83) hC dX13_proceed_83 rfl ?_
      refine S_aload_n (pc := 84) hC dX13_proceed_84 rfl ?_
      refine S_getR (pc := 85) hC cfX13 (by decide) (Or.inr ⟨_, rfl⟩) wd_1272 dX13_proceed_85 ?_
      refine S_iload_n (pc := 88) hC dX13_proceed_88 rfl ?_
      refine S_iaload (pc := 89) hC dX13_proceed_89 ?_
      refine S_callV (pc := 90) hC (sX13_play l G) rfl wd_1581 wd_1583 ws_102 wd_12 wd_1584 (by decide +kernel) ⟨by rw [hRf]; decide, by rw [hRl]; decide⟩ dX13_proceed_90 ?_
      unfold kX13_proceed_93
      refine S_aload_n (pc := 93) hC dX13_proceed_93 rfl ?_
      refine S_callV (pc := 94) hC (sX13_verdict l G) rfl wd_1508 wd_1510 ws_86 wd_12 wd_1511 (by decide +kernel) ⟨by rw [hRf]; decide, by rw [hRl]; decide⟩ dX13_proceed_94 ?_
      unfold kX13_proceed_97
      exact S_ireturn (pc := 97) hC hr dX13_proceed_97
    · refine S_iconst (pc := 81) hC dX13_proceed_81 (by decide) ?_
      exact S_ireturn (pc := 82) hC hr dX13_proceed_82
  have := h.2 X hB0 hB30 hB35 hB66 hB71
  rw [hXe] at this
  exact this lv hlv
theorem vX13_proceed_0 {mc ms : Nat} {X : Nat → zV} {Q : zQt} {M : zM} {x1 : Int32} (hW : zFix M)  (h : ((M.1 55 7) = 0 → X 30 0 0 [.ref 55, .int x1] [.ref 55] M) ∧ (¬ (M.1 55 7) = 0 → wX13_hasEnded 0 0 [.ref 55] M (fun r M1 => kX13_proceed_12 mc ms X Q 0 0 [some (.ref 55), some (.int x1)] (r.toList ++ [.ref 55]) M1))) : aX13_proceed_0 mc ms X Q 0 0 [some (.ref 55), some (.int x1)] [] M := ⟨(fxs_55 hW), ⟨fun c5 => (h.1 c5), fun c5 => ⟨Nat.le_of_ble_eq_true rfl, rfl, (fxs_55 hW), 0, 0, Nat.zero_le _, Nat.zero_le _, (h.2 c5)⟩⟩⟩
theorem vX13_proceed_30 {mc ms : Nat} {X : Nat → zV} {Q : zQt} {M : zM} {x1 : Int32} (hW : zFix M)  (h : X 35 0 0 [.ref 55, .int x1] [.int 1, .ref 55] M) : aX13_proceed_30 mc ms X Q 0 0 [some (.ref 55), some (.int x1)] [.ref 55] M := h
theorem vX13_proceed_35 {mc ms : Nat} {X : Nat → zV} {Q : zQt} {M : zM} {x1 : Int32} {s0 : Int32} (hW : zFix M)  (h : ∀ M35 : zM, M35 = (zsI M 55 0 s0) → ((M35.1 55 0) ≤ 0 → wX13_show 0 0 [.ref 55] M35 (fun r M1 => kX13_proceed_51 mc ms X Q 0 0 [some (.ref 55), some (.int x1)] (r.toList ++ []) M1)) ∧ (¬ (M35.1 55 0) ≤ 0 → Q (some (.int 0)) M35)) : aX13_proceed_35 mc ms X Q 0 0 [some (.ref 55), some (.int x1)] [.int s0, .ref 55] M := ⟨(fxs_55 hW), (have h35 := h _ rfl; ⟨(fxs_55 hW), ⟨fun c42 => ⟨Nat.le_of_ble_eq_true rfl, rfl, (fxs_55 hW), 0, 0, Nat.zero_le _, Nat.zero_le _, (h35.1 c42)⟩, fun c42 => (h35.2 c42)⟩⟩)⟩
theorem vX13_proceed_66 {mc ms : Nat} {X : Nat → zV} {Q : zQt} {M : zM} {x1 : Int32} (hW : zFix M)  (h : X 71 0 0 [.ref 55, .int x1] [.int 2, .ref 55] M) : aX13_proceed_66 mc ms X Q 0 0 [some (.ref 55), some (.int x1)] [.ref 55] M := h
theorem vX13_proceed_71 {mc ms : Nat} {X : Nat → zV} {Q : zQt} {M : zM} {x1 : Int32} {s0 : Int32} (hW : zFix M)  (h : ∀ M71 : zM, M71 = (zsI M 55 0 s0) → ((M71.1 55 0) ≤ 0 → vp_in x1 1980 ∧ wX13_play 0 0 [.ref 55, .int ((M71 : zM).1 66 (x1 : Int32).toNatClampNeg)] M71 (fun r M1 => kX13_proceed_93 mc ms X Q 0 0 [some (.ref 55), some (.int x1)] (r.toList ++ []) M1)) ∧ (¬ (M71.1 55 0) ≤ 0 → Q (some (.int 0)) M71)) : aX13_proceed_71 mc ms X Q 0 0 [some (.ref 55), some (.int x1)] [.int s0, .ref 55] M := ⟨(fxs_55 hW), (have h71 := h _ rfl; ⟨(fxs_55 hW), ⟨fun c78 => ⟨(fxs_55 hW), 66, (fxr_55_17 hW), ⟨1980, (fxs_66 hW), (h71.1 c78).1, ⟨Nat.le_of_ble_eq_true rfl, rfl, (fxs_55 hW), 0, 0, Nat.zero_le _, Nat.zero_le _, (h71.1 c78).2⟩⟩⟩, fun c78 => (h71.2 c78)⟩⟩)⟩
theorem vkX13_proceed_12 {mc ms : Nat} {X : Nat → zV} {Q : zQt} {M : zM} {x1 : Int32} {s0 : Int32} (hW : zFix M)  (h : (s0 = 0 → vp_in ((M.1 55 6)) 2 ∧ (((M : zM).1 58 ((M.1 55 6) : Int32).toNatClampNeg) = (601 : Int32) → X 30 0 0 [.ref 55, .int x1] [.ref 55] M) ∧ (¬ ((M : zM).1 58 ((M.1 55 6) : Int32).toNatClampNeg) = (601 : Int32) → X 35 0 0 [.ref 55, .int x1] [.int 0, .ref 55] M)) ∧ (¬ s0 = 0 → X 30 0 0 [.ref 55, .int x1] [.ref 55] M)) : kX13_proceed_12 mc ms X Q 0 0 [some (.ref 55), some (.int x1)] [.int s0, .ref 55] M := ⟨fun c12 => ⟨(fxs_55 hW), 58, (fxr_55_9 hW), ⟨(fxs_55 hW), ⟨2, (fxs_58 hW), (h.1 c12).1, ⟨fun c27 => ((h.1 c12).2.1 c27), fun c27 => ((h.1 c12).2.2 c27)⟩⟩⟩⟩, fun c12 => (h.2 c12)⟩
theorem vkX13_proceed_51 {mc ms : Nat} {X : Nat → zV} {Q : zQt} {M : zM} {x1 : Int32} (hW : zFix M)  (h : (x1 < 0 → X 66 0 0 [.ref 55, .int x1] [.ref 55] M) ∧ (¬ x1 < 0 → (x1 < ((M : zM).1 67 (0 : Int32).toNatClampNeg) → X 71 0 0 [.ref 55, .int x1] [.int 0, .ref 55] M) ∧ (¬ x1 < ((M : zM).1 67 (0 : Int32).toNatClampNeg) → X 66 0 0 [.ref 55, .int x1] [.ref 55] M))) : kX13_proceed_51 mc ms X Q 0 0 [some (.ref 55), some (.int x1)] [] M := ⟨fun c53 => (h.1 c53), fun c53 => ⟨(fxs_55 hW), 67, (fxr_55_18 hW), ⟨6, (fxs_67 hW), by unfold vp_in; decide, ⟨fun c63 => ((h.2 c53).1 c63), fun c63 => ((h.2 c53).2 c63)⟩⟩⟩⟩
theorem vkX13_proceed_93 {mc ms : Nat} {X : Nat → zV} {Q : zQt} {M : zM} {x1 : Int32} (hW : zFix M)  (h : wX13_verdict 0 0 [.ref 55] M (fun r M1 => kX13_proceed_97 mc ms X Q 0 0 [some (.ref 55), some (.int x1)] (r.toList ++ []) M1)) : kX13_proceed_93 mc ms X Q 0 0 [some (.ref 55), some (.int x1)] [] M := ⟨Nat.le_of_ble_eq_true rfl, rfl, (fxs_55 hW), 0, 0, Nat.zero_le _, Nat.zero_le _, h⟩
theorem vkX13_proceed_97 {mc ms : Nat} {X : Nat → zV} {Q : zQt} {M : zM} {x1 : Int32} {s0 : Int32} (hW : zFix M)  (h : Q (some (.int s0)) M) : kX13_proceed_97 mc ms X Q 0 0 [some (.ref 55), some (.int x1)] [.int s0] M := h
theorem dX13_retreat_0 : decode cX13_retreat 0 = .ok (.aload_n 0, 1) := by decide +kernel
theorem dX13_retreat_1 : decode cX13_retreat 1 = .ok (.iconst 0, 1) := by decide +kernel
theorem dX13_retreat_2 : decode cX13_retreat 2 = .ok (.putfield 68, 3) := by decide +kernel
theorem dX13_retreat_5 : decode cX13_retreat 5 = .ok (.aload_n 0, 1) := by decide +kernel
theorem dX13_retreat_6 : decode cX13_retreat 6 = .ok (.getfield 177, 3) := by decide +kernel
theorem dX13_retreat_9 : decode cX13_retreat 9 = .ok (.ifCond .eq 16, 3) := by decide +kernel
theorem dX13_retreat_12 : decode cX13_retreat 12 = .ok (.aload_n 0, 1) := by decide +kernel
theorem dX13_retreat_13 : decode cX13_retreat 13 = .ok (.getfield 22, 3) := by decide +kernel
theorem dX13_retreat_16 : decode cX13_retreat 16 = .ok (.aload_n 0, 1) := by decide +kernel
theorem dX13_retreat_17 : decode cX13_retreat 17 = .ok (.getfield 123, 3) := by decide +kernel
theorem dX13_retreat_20 : decode cX13_retreat 20 = .ok (.iaload, 1) := by decide +kernel
theorem dX13_retreat_21 : decode cX13_retreat 21 = .ok (.iconst 2, 1) := by decide +kernel
theorem dX13_retreat_22 : decode cX13_retreat 22 = .ok (.if_icmp .ge 5, 3) := by decide +kernel
theorem dX13_retreat_25 : decode cX13_retreat 25 = .ok (.iconst 0, 1) := by decide +kernel
theorem dX13_retreat_26 : decode cX13_retreat 26 = .ok (.ireturn, 1) := by decide +kernel
theorem dX13_retreat_27 : decode cX13_retreat 27 = .ok (.aload_n 0, 1) := by decide +kernel
theorem dX13_retreat_28 : decode cX13_retreat 28 = .ok (.getfield 22, 3) := by decide +kernel
theorem dX13_retreat_31 : decode cX13_retreat 31 = .ok (.aload_n 0, 1) := by decide +kernel
theorem dX13_retreat_32 : decode cX13_retreat 32 = .ok (.getfield 123, 3) := by decide +kernel
theorem dX13_retreat_35 : decode cX13_retreat 35 = .ok (.dup2, 1) := by decide +kernel
theorem dX13_retreat_36 : decode cX13_retreat 36 = .ok (.iaload, 1) := by decide +kernel
theorem dX13_retreat_37 : decode cX13_retreat 37 = .ok (.iconst 1, 1) := by decide +kernel
theorem dX13_retreat_38 : decode cX13_retreat 38 = .ok (.isub, 1) := by decide +kernel
theorem dX13_retreat_39 : decode cX13_retreat 39 = .ok (.iastore, 1) := by decide +kernel
theorem dX13_retreat_40 : decode cX13_retreat 40 = .ok (.iconst 1, 1) := by decide +kernel
theorem dX13_retreat_41 : decode cX13_retreat 41 = .ok (.ireturn, 1) := by decide +kernel
def aX13_retreat_0 (mc ms : Nat) (X : Nat → zV) (Q : zQt) : zT :=
  zla 0 <| zc (.int 0) <| zpi 13 0 <| zla 0 <| zgi 13 7 <| zif (fun x => x = 0) (zj X 25 []) <| zla 0 <| zgR 13 9 <| zla 0 <| zgi 13 6 <| zal 1 <| zc (.int 2) <| zic (fun x y => y ≤ x) (zla 0 <| zgR 13 9 <| zla 0 <| zgi 13 6 <| zdp2 <| zal 1 <| zc (.int 1) <| zii (fun x y => x - y) <| zas 1 (fun x => x) <| zc (.int 1) <| zrz .boolean Q) <| zj X 25 []
def aX13_retreat_25 (mc ms : Nat) (X : Nat → zV) (Q : zQt) : zT :=
  zc (.int 0) <| zrz .boolean Q
def lvX13_retreat : Nat → List Nat := fun L => match L with
  | 0 => [0]
  | 25 => []
  | _ => []
def wX13_retreat : zSp := fun mc ms av M Q => ((zlay av).length ≤ 1 ∧ zpick (zlay av) [0] = some av) ∧ ∀ X : Nat → zV, zin 1 [0] (aX13_retreat_0 mc ms X Q) X 0 → zin 1 [] (aX13_retreat_25 mc ms X Q) X 25 → X 0 0 0 av [] M
set_option maxRecDepth 100000 in
set_option maxHeartbeats 4000000 in
theorem sX13_retreat (l : Launch) (G : zG) : zSnd l G yX13_retreat cX13_retreat 1 (some .boolean) 0 0 wX13_retreat := by
  refine zmk [0] (by decide) (fun mc ms av M Q h => h.1) ?_
  intro p e R s m args below meth c mc ms av M Q hC hRf hRl hr hnm h lv hlv
  obtain ⟨X, hXe⟩ : ∃ X : Nat → zV, X = fun L u v vs st M => ∀ lv, zpick lv (lvX13_retreat L) = some vs → zAt p l e R s m args below meth c (MQ below (zQ G Q) args s mc ms (zA G)) G 1 L u v lv st M := ⟨_, rfl⟩
  have hJ : ∀ L, zOk p l e R s m args below meth c (MQ below (zQ G Q) args s mc ms (zA G)) G 1 L (zj X L (lvX13_retreat L)) := fun L => S_jump (fun u v lv vs st M hp hx => by rw [hXe] at hx; exact hx lv hp)
  have hB0 : zin 1 [0] (aX13_retreat_0 mc ms X Q) X 0 := by
    intro u v vs st M hb
    rw [hXe]
    refine fun lv hp => S_block (L := 0) (live := [0]) ?_ u v lv vs st M hp hb
    unfold aX13_retreat_0
    refine S_aload_n (pc := 0) hC dX13_retreat_0 rfl ?_
    refine S_iconst (pc := 1) hC dX13_retreat_1 (by decide) ?_
    refine S_puti (pc := 2) hC cfX13 (by decide) rfl (Or.inl rfl) wd_1255 dX13_retreat_2 ?_
    refine S_aload_n (pc := 5) hC dX13_retreat_5 rfl ?_
    refine S_geti (pc := 6) hC cfX13 (by decide) (Or.inr rfl) wd_1262 dX13_retreat_6 ?_
    refine S_if_eq (pc := 9) (tgt := 25) hC dX13_retreat_9 (by decide) ?_ ?_
    · exact hJ 25
    · refine S_aload_n (pc := 12) hC dX13_retreat_12 rfl ?_
      refine S_getR (pc := 13) hC cfX13 (by decide) (Or.inr ⟨_, rfl⟩) wd_1264 dX13_retreat_13 ?_
      refine S_aload_n (pc := 16) hC dX13_retreat_16 rfl ?_
      refine S_geti (pc := 17) hC cfX13 (by decide) (Or.inl rfl) wd_1261 dX13_retreat_17 ?_
      refine S_iaload (pc := 20) hC dX13_retreat_20 ?_
      refine S_iconst (pc := 21) hC dX13_retreat_21 (by decide) ?_
      refine S_icmp_ge (pc := 22) (tgt := 27) hC dX13_retreat_22 (by decide) ?_ ?_
      · refine S_aload_n (pc := 27) hC dX13_retreat_27 rfl ?_
        refine S_getR (pc := 28) hC cfX13 (by decide) (Or.inr ⟨_, rfl⟩) wd_1264 dX13_retreat_28 ?_
        refine S_aload_n (pc := 31) hC dX13_retreat_31 rfl ?_
        refine S_geti (pc := 32) hC cfX13 (by decide) (Or.inl rfl) wd_1261 dX13_retreat_32 ?_
        refine S_dup2 (pc := 35) hC dX13_retreat_35 ?_
        refine S_iaload (pc := 36) hC dX13_retreat_36 ?_
        refine S_iconst (pc := 37) hC dX13_retreat_37 (by decide) ?_
        refine S_isub (pc := 38) hC dX13_retreat_38 ?_
        refine S_iastore (pc := 39) hC dX13_retreat_39 ?_
        refine S_iconst (pc := 40) hC dX13_retreat_40 (by decide) ?_
        exact S_zreturn (pc := 41) hC hr dX13_retreat_41
      · exact hJ 25
  have hB25 : zin 1 [] (aX13_retreat_25 mc ms X Q) X 25 := by
    intro u v vs st M hb
    rw [hXe]
    refine fun lv hp => S_block (L := 25) (live := []) ?_ u v lv vs st M hp hb
    unfold aX13_retreat_25
    refine S_iconst (pc := 25) hC dX13_retreat_25 (by decide) ?_
    exact S_zreturn (pc := 26) hC hr dX13_retreat_26
  have := h.2 X hB0 hB25
  rw [hXe] at this
  exact this lv hlv
theorem vX13_retreat_0 {mc ms : Nat} {X : Nat → zV} {Q : zQt} {M : zM}  (hW : zFix M)  (h : ∀ M2 : zM, M2 = (zsI M 55 0 0) → ((M2.1 55 7) = 0 → X 25 0 0 [] [] M2) ∧ (¬ (M2.1 55 7) = 0 → vp_in ((M2.1 55 6)) 2 ∧ ((2 : Int32) ≤ ((M2 : zM).1 58 ((M2.1 55 6) : Int32).toNatClampNeg) → vp_in ((M2.1 55 6)) 2 ∧ vp_in ((M2.1 55 6)) 2 ∧ ∀ M39 : zM, M39 = (zsI M2 58 ((M2.1 55 6) : Int32).toNatClampNeg ((((M2 : zM).1 58 ((M2.1 55 6) : Int32).toNatClampNeg) - (1 : Int32)))) → Q (some (.int 1)) M39) ∧ (¬ (2 : Int32) ≤ ((M2 : zM).1 58 ((M2.1 55 6) : Int32).toNatClampNeg) → X 25 0 0 [] [] M2))) : aX13_retreat_0 mc ms X Q 0 0 [some (.ref 55)] [] M := ⟨(fxs_55 hW), (have h2 := h _ rfl; ⟨(fxs_55 hW), ⟨fun c9 => (h2.1 c9), fun c9 => ⟨(fxs_55 hW), 58, (fxr_55_9 hW), ⟨(fxs_55 hW), ⟨2, (fxs_58 hW), (h2.2 c9).1, ⟨fun c22 => ⟨(fxs_55 hW), 58, (fxr_55_9 hW), ⟨(fxs_55 hW), ⟨2, (fxs_58 hW), ((h2.2 c9).2.1 c22).1, ⟨2, (fxs_58 hW), ((h2.2 c9).2.1 c22).2.1, (have h39 := ((h2.2 c9).2.1 c22).2.2 _ rfl; ⟨rfl, h39⟩)⟩⟩⟩⟩, fun c22 => ((h2.2 c9).2.2 c22)⟩⟩⟩⟩⟩⟩)⟩
theorem vX13_retreat_25 {mc ms : Nat} {X : Nat → zV} {Q : zQt} {M : zM}  (hW : zFix M)  (h : Q (some (.int 0)) M) : aX13_retreat_25 mc ms X Q 0 0 [none] [] M := ⟨rfl, h⟩
theorem dX13_legalMany_0 : decode cX13_legalMany 0 = .ok (.aload_n 0, 1) := by decide +kernel
theorem dX13_legalMany_1 : decode cX13_legalMany 1 = .ok (.iconst 0, 1) := by decide +kernel
theorem dX13_legalMany_2 : decode cX13_legalMany 2 = .ok (.putfield 68, 3) := by decide +kernel
theorem dX13_legalMany_5 : decode cX13_legalMany 5 = .ok (.aload_n 0, 1) := by decide +kernel
theorem dX13_legalMany_6 : decode cX13_legalMany 6 = .ok (.getfield 177, 3) := by decide +kernel
theorem dX13_legalMany_9 : decode cX13_legalMany 9 = .ok (.ifCond .eq 27, 3) := by decide +kernel
theorem dX13_legalMany_12 : decode cX13_legalMany 12 = .ok (.aload_n 0, 1) := by decide +kernel
theorem dX13_legalMany_13 : decode cX13_legalMany 13 = .ok (.getfield 28, 3) := by decide +kernel
theorem dX13_legalMany_16 : decode cX13_legalMany 16 = .ok (.aload_n 0, 1) := by decide +kernel
theorem dX13_legalMany_17 : decode cX13_legalMany 17 = .ok (.invokevirtual 126, 3) := by decide +kernel
theorem dX13_legalMany_20 : decode cX13_legalMany 20 = .ok (.aload_n 0, 1) := by decide +kernel
theorem dX13_legalMany_21 : decode cX13_legalMany 21 = .ok (.getfield 22, 3) := by decide +kernel
theorem dX13_legalMany_24 : decode cX13_legalMany 24 = .ok (.aload_n 0, 1) := by decide +kernel
theorem dX13_legalMany_25 : decode cX13_legalMany 25 = .ok (.getfield 123, 3) := by decide +kernel
theorem dX13_legalMany_28 : decode cX13_legalMany 28 = .ok (.iaload, 1) := by decide +kernel
theorem dX13_legalMany_29 : decode cX13_legalMany 29 = .ok (.iadd, 1) := by decide +kernel
theorem dX13_legalMany_30 : decode cX13_legalMany 30 = .ok (.iconst 1, 1) := by decide +kernel
theorem dX13_legalMany_31 : decode cX13_legalMany 31 = .ok (.isub, 1) := by decide +kernel
theorem dX13_legalMany_32 : decode cX13_legalMany 32 = .ok (.iaload, 1) := by decide +kernel
theorem dX13_legalMany_33 : decode cX13_legalMany 33 = .ok (.goto 4, 3) := by decide +kernel
theorem dX13_legalMany_36 : decode cX13_legalMany 36 = .ok (.iconst 0, 1) := by decide +kernel
theorem dX13_legalMany_37 : decode cX13_legalMany 37 = .ok (.ireturn, 1) := by decide +kernel
def kX13_legalMany_20 (mc ms : Nat) (X : Nat → zV) (Q : zQt) : zT :=
  zla 0 <| zgR 13 9 <| zla 0 <| zgi 13 6 <| zal 1 <| zii (fun x y => x + y) <| zc (.int 1) <| zii (fun x y => x - y) <| zal 1 <| zj X 37 []
def aX13_legalMany_0 (mc ms : Nat) (X : Nat → zV) (Q : zQt) : zT :=
  zla 0 <| zc (.int 0) <| zpi 13 0 <| zla 0 <| zgi 13 7 <| zif (fun x => x = 0) (zc (.int 0) <| zj X 37 []) <| zla 0 <| zgR 13 11 <| zla 0 <| zcv mc ms 13 0 wX13_base <| kX13_legalMany_20 mc ms X Q
def aX13_legalMany_37 (mc ms : Nat) (X : Nat → zV) (Q : zQt) : zT :=
  zri Q
def lvX13_legalMany : Nat → List Nat := fun L => match L with
  | 0 => [0]
  | 37 => []
  | _ => []
def wX13_legalMany : zSp := fun mc ms av M Q => ((zlay av).length ≤ 1 ∧ zpick (zlay av) [0] = some av) ∧ ∀ X : Nat → zV, zin 1 [0] (aX13_legalMany_0 mc ms X Q) X 0 → zin 1 [] (aX13_legalMany_37 mc ms X Q) X 37 → X 0 0 0 av [] M
set_option maxRecDepth 100000 in
set_option maxHeartbeats 4000000 in
theorem sX13_legalMany (l : Launch) (G : zG) : zSnd l G yX13_legalMany cX13_legalMany 1 (some .int) 1 20 wX13_legalMany := by
  refine zmk [0] (by decide) (fun mc ms av M Q h => h.1) ?_
  intro p e R s m args below meth c mc ms av M Q hC hRf hRl hr hnm h lv hlv
  obtain ⟨X, hXe⟩ : ∃ X : Nat → zV, X = fun L u v vs st M => ∀ lv, zpick lv (lvX13_legalMany L) = some vs → zAt p l e R s m args below meth c (MQ below (zQ G Q) args s mc ms (zA G)) G 1 L u v lv st M := ⟨_, rfl⟩
  have hJ : ∀ L, zOk p l e R s m args below meth c (MQ below (zQ G Q) args s mc ms (zA G)) G 1 L (zj X L (lvX13_legalMany L)) := fun L => S_jump (fun u v lv vs st M hp hx => by rw [hXe] at hx; exact hx lv hp)
  have hB0 : zin 1 [0] (aX13_legalMany_0 mc ms X Q) X 0 := by
    intro u v vs st M hb
    rw [hXe]
    refine fun lv hp => S_block (L := 0) (live := [0]) ?_ u v lv vs st M hp hb
    unfold aX13_legalMany_0
    refine S_aload_n (pc := 0) hC dX13_legalMany_0 rfl ?_
    refine S_iconst (pc := 1) hC dX13_legalMany_1 (by decide) ?_
    refine S_puti (pc := 2) hC cfX13 (by decide) rfl (Or.inl rfl) wd_1255 dX13_legalMany_2 ?_
    refine S_aload_n (pc := 5) hC dX13_legalMany_5 rfl ?_
    refine S_geti (pc := 6) hC cfX13 (by decide) (Or.inr rfl) wd_1262 dX13_legalMany_6 ?_
    refine S_if_eq (pc := 9) (tgt := 36) hC dX13_legalMany_9 (by decide) ?_ ?_
    · refine S_iconst (pc := 36) hC dX13_legalMany_36 (by decide) ?_
      exact hJ 37
    · refine S_aload_n (pc := 12) hC dX13_legalMany_12 rfl ?_
      refine S_getR (pc := 13) hC cfX13 (by decide) (Or.inr ⟨_, rfl⟩) wd_1266 dX13_legalMany_13 ?_
      refine S_aload_n (pc := 16) hC dX13_legalMany_16 rfl ?_
      refine S_callV (pc := 17) hC (sX13_base l G) rfl wd_1439 wd_1441 ws_71 wd_12 wd_1442 (by decide +kernel) ⟨by rw [hRf]; decide, by rw [hRl]; decide⟩ dX13_legalMany_17 ?_
      unfold kX13_legalMany_20
      refine S_aload_n (pc := 20) hC dX13_legalMany_20 rfl ?_
      refine S_getR (pc := 21) hC cfX13 (by decide) (Or.inr ⟨_, rfl⟩) wd_1264 dX13_legalMany_21 ?_
      refine S_aload_n (pc := 24) hC dX13_legalMany_24 rfl ?_
      refine S_geti (pc := 25) hC cfX13 (by decide) (Or.inl rfl) wd_1261 dX13_legalMany_25 ?_
      refine S_iaload (pc := 28) hC dX13_legalMany_28 ?_
      refine S_iadd (pc := 29) hC dX13_legalMany_29 ?_
      refine S_iconst (pc := 30) hC dX13_legalMany_30 (by decide) ?_
      refine S_isub (pc := 31) hC dX13_legalMany_31 ?_
      refine S_iaload (pc := 32) hC dX13_legalMany_32 ?_
      refine S_goto (pc := 33) (tgt := 37) hC dX13_legalMany_33 (by decide) ?_
      exact hJ 37
  have hB37 : zin 1 [] (aX13_legalMany_37 mc ms X Q) X 37 := by
    intro u v vs st M hb
    rw [hXe]
    refine fun lv hp => S_block (L := 37) (live := []) ?_ u v lv vs st M hp hb
    unfold aX13_legalMany_37
    exact S_ireturn (pc := 37) hC hr dX13_legalMany_37
  have := h.2 X hB0 hB37
  rw [hXe] at this
  exact this lv hlv
theorem vX13_legalMany_0 {mc ms : Nat} {X : Nat → zV} {Q : zQt} {M : zM}  (hW : zFix M)  (h : ∀ M2 : zM, M2 = (zsI M 55 0 0) → ((M2.1 55 7) = 0 → X 37 0 0 [] [.int 0] M2) ∧ (¬ (M2.1 55 7) = 0 → wX13_base 0 0 [.ref 55] M2 (fun r M1 => kX13_legalMany_20 mc ms X Q 0 0 [some (.ref 55)] (r.toList ++ [.ref 60]) M1))) : aX13_legalMany_0 mc ms X Q 0 0 [some (.ref 55)] [] M := ⟨(fxs_55 hW), (have h2 := h _ rfl; ⟨(fxs_55 hW), ⟨fun c9 => (h2.1 c9), fun c9 => ⟨(fxs_55 hW), 60, (fxr_55_11 hW), ⟨Nat.le_of_ble_eq_true rfl, rfl, (fxs_55 hW), 0, 0, Nat.zero_le _, Nat.zero_le _, (h2.2 c9)⟩⟩⟩⟩)⟩
theorem vX13_legalMany_37 {mc ms : Nat} {X : Nat → zV} {Q : zQt} {M : zM} {s0 : Int32} (hW : zFix M)  (h : Q (some (.int s0)) M) : aX13_legalMany_37 mc ms X Q 0 0 [none] [.int s0] M := h
theorem vkX13_legalMany_20 {mc ms : Nat} {X : Nat → zV} {Q : zQt} {M : zM} {s0 : Int32} (hW : zFix M)  (h : vp_in ((M.1 55 6)) 2 ∧ vp_in (((s0 + ((M : zM).1 58 ((M.1 55 6) : Int32).toNatClampNeg)) - (1 : Int32))) 1202 ∧ X 37 0 0 [] [.int ((M : zM).1 60 (((s0 + ((M : zM).1 58 ((M.1 55 6) : Int32).toNatClampNeg)) - (1 : Int32)) : Int32).toNatClampNeg)] M) : kX13_legalMany_20 mc ms X Q 0 0 [some (.ref 55)] [.int s0, .ref 60] M := ⟨(fxs_55 hW), 58, (fxr_55_9 hW), ⟨(fxs_55 hW), ⟨2, (fxs_58 hW), h.1, ⟨1202, (fxs_60 hW), h.2.1, h.2.2⟩⟩⟩⟩
theorem dX13_listed_0 : decode cX13_listed 0 = .ok (.aload_n 0, 1) := by decide +kernel
theorem dX13_listed_1 : decode cX13_listed 1 = .ok (.getfield 177, 3) := by decide +kernel
theorem dX13_listed_4 : decode cX13_listed 4 = .ok (.ifCond .eq 7, 3) := by decide +kernel
theorem dX13_listed_7 : decode cX13_listed 7 = .ok (.aload_n 0, 1) := by decide +kernel
theorem dX13_listed_8 : decode cX13_listed 8 = .ok (.invokevirtual 181, 3) := by decide +kernel
theorem dX13_listed_11 : decode cX13_listed 11 = .ok (.aload_n 0, 1) := by decide +kernel
theorem dX13_listed_12 : decode cX13_listed 12 = .ok (.getfield 177, 3) := by decide +kernel
theorem dX13_listed_15 : decode cX13_listed 15 = .ok (.ifCond .eq 21, 3) := by decide +kernel
theorem dX13_listed_18 : decode cX13_listed 18 = .ok (.iload_n 1, 1) := by decide +kernel
theorem dX13_listed_19 : decode cX13_listed 19 = .ok (.ifCond .lt 17, 3) := by decide +kernel
theorem dX13_listed_22 : decode cX13_listed 22 = .ok (.iload_n 1, 1) := by decide +kernel
theorem dX13_listed_23 : decode cX13_listed 23 = .ok (.aload_n 0, 1) := by decide +kernel
theorem dX13_listed_24 : decode cX13_listed 24 = .ok (.getfield 49, 3) := by decide +kernel
theorem dX13_listed_27 : decode cX13_listed 27 = .ok (.iconst 0, 1) := by decide +kernel
theorem dX13_listed_28 : decode cX13_listed 28 = .ok (.iaload, 1) := by decide +kernel
theorem dX13_listed_29 : decode cX13_listed 29 = .ok (.if_icmp .ge 7, 3) := by decide +kernel
theorem dX13_listed_32 : decode cX13_listed 32 = .ok (.iconst 1, 1) := by decide +kernel
theorem dX13_listed_33 : decode cX13_listed 33 = .ok (.goto 4, 3) := by decide +kernel
theorem dX13_listed_36 : decode cX13_listed 36 = .ok (.iconst 0, 1) := by decide +kernel
theorem dX13_listed_37 : decode cX13_listed 37 = .ok (.ireturn, 1) := by decide +kernel
def kX13_listed_11 (mc ms : Nat) (X : Nat → zV) (Q : zQt) : zT :=
  zj X 11 [0, 1]
def aX13_listed_0 (mc ms : Nat) (X : Nat → zV) (Q : zQt) : zT :=
  zla 0 <| zgi 13 7 <| zif (fun x => x = 0) (zj X 11 [0, 1]) <| zla 0 <| zcv mc ms 13 0 wX13_show <| kX13_listed_11 mc ms X Q
def aX13_listed_11 (mc ms : Nat) (X : Nat → zV) (Q : zQt) : zT :=
  zla 0 <| zgi 13 7 <| zif (fun x => x = 0) (zj X 36 []) <| zli 1 <| zif (fun x => x < 0) (zj X 36 []) <| zli 1 <| zla 0 <| zgR 13 18 <| zc (.int 0) <| zal 1 <| zic (fun x y => y ≤ x) (zj X 36 []) <| zc (.int 1) <| zj X 37 []
def aX13_listed_36 (mc ms : Nat) (X : Nat → zV) (Q : zQt) : zT :=
  zc (.int 0) <| zj X 37 []
def aX13_listed_37 (mc ms : Nat) (X : Nat → zV) (Q : zQt) : zT :=
  zrz .boolean Q
def lvX13_listed : Nat → List Nat := fun L => match L with
  | 0 => [0, 1]
  | 11 => [0, 1]
  | 36 => []
  | 37 => []
  | _ => []
def wX13_listed : zSp := fun mc ms av M Q => ((zlay av).length ≤ 2 ∧ zpick (zlay av) [0, 1] = some av) ∧ ∀ X : Nat → zV, zin 2 [0, 1] (aX13_listed_0 mc ms X Q) X 0 → zin 2 [0, 1] (aX13_listed_11 mc ms X Q) X 11 → zin 2 [] (aX13_listed_36 mc ms X Q) X 36 → zin 2 [] (aX13_listed_37 mc ms X Q) X 37 → X 0 0 0 av [] M
set_option maxRecDepth 100000 in
set_option maxHeartbeats 4000000 in
theorem sX13_listed (l : Launch) (G : zG) : zSnd l G yX13_listed cX13_listed 2 (some .boolean) 8 206 wX13_listed := by
  refine zmk [0, 1] (by decide) (fun mc ms av M Q h => h.1) ?_
  intro p e R s m args below meth c mc ms av M Q hC hRf hRl hr hnm h lv hlv
  obtain ⟨X, hXe⟩ : ∃ X : Nat → zV, X = fun L u v vs st M => ∀ lv, zpick lv (lvX13_listed L) = some vs → zAt p l e R s m args below meth c (MQ below (zQ G Q) args s mc ms (zA G)) G 2 L u v lv st M := ⟨_, rfl⟩
  have hJ : ∀ L, zOk p l e R s m args below meth c (MQ below (zQ G Q) args s mc ms (zA G)) G 2 L (zj X L (lvX13_listed L)) := fun L => S_jump (fun u v lv vs st M hp hx => by rw [hXe] at hx; exact hx lv hp)
  have hB0 : zin 2 [0, 1] (aX13_listed_0 mc ms X Q) X 0 := by
    intro u v vs st M hb
    rw [hXe]
    refine fun lv hp => S_block (L := 0) (live := [0, 1]) ?_ u v lv vs st M hp hb
    unfold aX13_listed_0
    refine S_aload_n (pc := 0) hC dX13_listed_0 rfl ?_
    refine S_geti (pc := 1) hC cfX13 (by decide) (Or.inr rfl) wd_1262 dX13_listed_1 ?_
    refine S_if_eq (pc := 4) (tgt := 11) hC dX13_listed_4 (by decide) ?_ ?_
    · exact hJ 11
    · refine S_aload_n (pc := 7) hC dX13_listed_7 rfl ?_
      refine S_callV (pc := 8) hC (sX13_show l G) rfl wd_1585 wd_1587 ws_103 wd_12 wd_1588 (by decide +kernel) ⟨by rw [hRf]; decide, by rw [hRl]; decide⟩ dX13_listed_8 ?_
      unfold kX13_listed_11
      exact hJ 11
  have hB11 : zin 2 [0, 1] (aX13_listed_11 mc ms X Q) X 11 := by
    intro u v vs st M hb
    rw [hXe]
    refine fun lv hp => S_block (L := 11) (live := [0, 1]) ?_ u v lv vs st M hp hb
    unfold aX13_listed_11
    refine S_aload_n (pc := 11) hC dX13_listed_11 rfl ?_
    refine S_geti (pc := 12) hC cfX13 (by decide) (Or.inr rfl) wd_1262 dX13_listed_12 ?_
    refine S_if_eq (pc := 15) (tgt := 36) hC dX13_listed_15 (by decide) ?_ ?_
    · exact hJ 36
    · refine S_iload_n (pc := 18) hC dX13_listed_18 rfl ?_
      refine S_if_lt (pc := 19) (tgt := 36) hC dX13_listed_19 (by decide) ?_ ?_
      · exact hJ 36
      · refine S_iload_n (pc := 22) hC dX13_listed_22 rfl ?_
        refine S_aload_n (pc := 23) hC dX13_listed_23 rfl ?_
        refine S_getR (pc := 24) hC cfX13 (by decide) (Or.inr ⟨_, rfl⟩) wd_1273 dX13_listed_24 ?_
        refine S_iconst (pc := 27) hC dX13_listed_27 (by decide) ?_
        refine S_iaload (pc := 28) hC dX13_listed_28 ?_
        refine S_icmp_ge (pc := 29) (tgt := 36) hC dX13_listed_29 (by decide) ?_ ?_
        · exact hJ 36
        · refine S_iconst (pc := 32) hC dX13_listed_32 (by decide) ?_
          refine S_goto (pc := 33) (tgt := 37) hC dX13_listed_33 (by decide) ?_
          exact hJ 37
  have hB36 : zin 2 [] (aX13_listed_36 mc ms X Q) X 36 := by
    intro u v vs st M hb
    rw [hXe]
    refine fun lv hp => S_block (L := 36) (live := []) ?_ u v lv vs st M hp hb
    unfold aX13_listed_36
    refine S_iconst (pc := 36) hC dX13_listed_36 (by decide) ?_
    exact hJ 37
  have hB37 : zin 2 [] (aX13_listed_37 mc ms X Q) X 37 := by
    intro u v vs st M hb
    rw [hXe]
    refine fun lv hp => S_block (L := 37) (live := []) ?_ u v lv vs st M hp hb
    unfold aX13_listed_37
    exact S_zreturn (pc := 37) hC hr dX13_listed_37
  have := h.2 X hB0 hB11 hB36 hB37
  rw [hXe] at this
  exact this lv hlv
theorem vX13_listed_0 {mc ms : Nat} {X : Nat → zV} {Q : zQt} {M : zM} {x1 : Int32} (hW : zFix M)  (h : ((M.1 55 7) = 0 → X 11 0 0 [.ref 55, .int x1] [] M) ∧ (¬ (M.1 55 7) = 0 → wX13_show 0 0 [.ref 55] M (fun r M1 => kX13_listed_11 mc ms X Q 0 0 [some (.ref 55), some (.int x1)] (r.toList ++ []) M1))) : aX13_listed_0 mc ms X Q 0 0 [some (.ref 55), some (.int x1)] [] M := ⟨(fxs_55 hW), ⟨fun c4 => (h.1 c4), fun c4 => ⟨Nat.le_of_ble_eq_true rfl, rfl, (fxs_55 hW), 0, 0, Nat.zero_le _, Nat.zero_le _, (h.2 c4)⟩⟩⟩
theorem vX13_listed_11 {mc ms : Nat} {X : Nat → zV} {Q : zQt} {M : zM} {x1 : Int32} (hW : zFix M)  (h : ((M.1 55 7) = 0 → X 36 0 0 [] [] M) ∧ (¬ (M.1 55 7) = 0 → (x1 < 0 → X 36 0 0 [] [] M) ∧ (¬ x1 < 0 → (((M : zM).1 67 (0 : Int32).toNatClampNeg) ≤ x1 → X 36 0 0 [] [] M) ∧ (¬ ((M : zM).1 67 (0 : Int32).toNatClampNeg) ≤ x1 → X 37 0 0 [] [.int 1] M)))) : aX13_listed_11 mc ms X Q 0 0 [some (.ref 55), some (.int x1)] [] M := ⟨(fxs_55 hW), ⟨fun c15 => (h.1 c15), fun c15 => ⟨fun c19 => ((h.2 c15).1 c19), fun c19 => ⟨(fxs_55 hW), 67, (fxr_55_18 hW), ⟨6, (fxs_67 hW), by unfold vp_in; decide, ⟨fun c29 => (((h.2 c15).2 c19).1 c29), fun c29 => (((h.2 c15).2 c19).2 c29)⟩⟩⟩⟩⟩⟩
theorem vX13_listed_36 {mc ms : Nat} {X : Nat → zV} {Q : zQt} {M : zM}  (hW : zFix M)  (h : X 37 0 0 [] [.int 0] M) : aX13_listed_36 mc ms X Q 0 0 [none, none] [] M := h
theorem vX13_listed_37 {mc ms : Nat} {X : Nat → zV} {Q : zQt} {M : zM} {s0 : Int32} (hW : zFix M)  (h : narrow .boolean (.int s0) = .int s0 ∧ Q (some (.int s0)) M) : aX13_listed_37 mc ms X Q 0 0 [none, none] [.int s0] M := h
theorem vkX13_listed_11 {mc ms : Nat} {X : Nat → zV} {Q : zQt} {M : zM} {x1 : Int32} (hW : zFix M)  (h : X 11 0 0 [.ref 55, .int x1] [] M) : kX13_listed_11 mc ms X Q 0 0 [some (.ref 55), some (.int x1)] [] M := h
theorem dX13_legalMove_0 : decode cX13_legalMove 0 = .ok (.aload_n 0, 1) := by decide +kernel
theorem dX13_legalMove_1 : decode cX13_legalMove 1 = .ok (.aload_n 0, 1) := by decide +kernel
theorem dX13_legalMove_2 : decode cX13_legalMove 2 = .ok (.iload_n 1, 1) := by decide +kernel
theorem dX13_legalMove_3 : decode cX13_legalMove 3 = .ok (.invokevirtual 298, 3) := by decide +kernel
theorem dX13_legalMove_6 : decode cX13_legalMove 6 = .ok (.ifCond .eq 7, 3) := by decide +kernel
theorem dX13_legalMove_9 : decode cX13_legalMove 9 = .ok (.iconst 0, 1) := by decide +kernel
theorem dX13_legalMove_10 : decode cX13_legalMove 10 = .ok (.goto 4, 3) := by decide +kernel
theorem dX13_legalMove_13 : decode cX13_legalMove 13 = .ok (.iconst 1, 1) := by decide +kernel
theorem dX13_legalMove_14 : decode cX13_legalMove 14 = .ok (.putfield 68, 3) := by decide +kernel
theorem dX13_legalMove_17 : decode cX13_legalMove 17 = .ok (.aload_n 0, 1) := by decide +kernel
theorem dX13_legalMove_18 : decode cX13_legalMove 18 = .ok (.getfield 68, 3) := by decide +kernel
theorem dX13_legalMove_21 : decode cX13_legalMove 21 = .ok (.ifCond .le 7, 3) := by decide +kernel
theorem dX13_legalMove_24 : decode cX13_legalMove 24 = .ok (.iconst 0, 1) := by decide +kernel
theorem dX13_legalMove_25 : decode cX13_legalMove 25 = .ok (.goto 9, 3) := by decide +kernel
theorem dX13_legalMove_28 : decode cX13_legalMove 28 = .ok (.aload_n 0, 1) := by decide +kernel
theorem dX13_legalMove_29 : decode cX13_legalMove 29 = .ok (.getfield 46, 3) := by decide +kernel
theorem dX13_legalMove_32 : decode cX13_legalMove 32 = .ok (.iload_n 1, 1) := by decide +kernel
theorem dX13_legalMove_33 : decode cX13_legalMove 33 = .ok (.iaload, 1) := by decide +kernel
theorem dX13_legalMove_34 : decode cX13_legalMove 34 = .ok (.ireturn, 1) := by decide +kernel
def kX13_legalMove_6 (mc ms : Nat) (X : Nat → zV) (Q : zQt) : zT :=
  zif (fun x => x = 0) (zc (.int 1) <| zj X 14 [0, 1]) <| zc (.int 0) <| zj X 14 [0, 1]
def aX13_legalMove_0 (mc ms : Nat) (X : Nat → zV) (Q : zQt) : zT :=
  zla 0 <| zla 0 <| zli 1 <| zcv mc ms 13 1 wX13_listed <| kX13_legalMove_6 mc ms X Q
def aX13_legalMove_14 (mc ms : Nat) (X : Nat → zV) (Q : zQt) : zT :=
  zpi 13 0 <| zla 0 <| zgi 13 0 <| zif (fun x => x ≤ 0) (zla 0 <| zgR 13 17 <| zli 1 <| zal 1 <| zj X 34 []) <| zc (.int 0) <| zj X 34 []
def aX13_legalMove_34 (mc ms : Nat) (X : Nat → zV) (Q : zQt) : zT :=
  zri Q
def lvX13_legalMove : Nat → List Nat := fun L => match L with
  | 0 => [0, 1]
  | 14 => [0, 1]
  | 34 => []
  | _ => []
def wX13_legalMove : zSp := fun mc ms av M Q => ((zlay av).length ≤ 2 ∧ zpick (zlay av) [0, 1] = some av) ∧ ∀ X : Nat → zV, zin 2 [0, 1] (aX13_legalMove_0 mc ms X Q) X 0 → zin 2 [0, 1] (aX13_legalMove_14 mc ms X Q) X 14 → zin 2 [] (aX13_legalMove_34 mc ms X Q) X 34 → X 0 0 0 av [] M
set_option maxRecDepth 100000 in
set_option maxHeartbeats 4000000 in
theorem sX13_legalMove (l : Launch) (G : zG) : zSnd l G yX13_legalMove cX13_legalMove 2 (some .int) 9 227 wX13_legalMove := by
  refine zmk [0, 1] (by decide) (fun mc ms av M Q h => h.1) ?_
  intro p e R s m args below meth c mc ms av M Q hC hRf hRl hr hnm h lv hlv
  obtain ⟨X, hXe⟩ : ∃ X : Nat → zV, X = fun L u v vs st M => ∀ lv, zpick lv (lvX13_legalMove L) = some vs → zAt p l e R s m args below meth c (MQ below (zQ G Q) args s mc ms (zA G)) G 2 L u v lv st M := ⟨_, rfl⟩
  have hJ : ∀ L, zOk p l e R s m args below meth c (MQ below (zQ G Q) args s mc ms (zA G)) G 2 L (zj X L (lvX13_legalMove L)) := fun L => S_jump (fun u v lv vs st M hp hx => by rw [hXe] at hx; exact hx lv hp)
  have hB0 : zin 2 [0, 1] (aX13_legalMove_0 mc ms X Q) X 0 := by
    intro u v vs st M hb
    rw [hXe]
    refine fun lv hp => S_block (L := 0) (live := [0, 1]) ?_ u v lv vs st M hp hb
    unfold aX13_legalMove_0
    refine S_aload_n (pc := 0) hC dX13_legalMove_0 rfl ?_
    refine S_aload_n (pc := 1) hC dX13_legalMove_1 rfl ?_
    refine S_iload_n (pc := 2) hC dX13_legalMove_2 rfl ?_
    refine S_callV (pc := 3) hC (sX13_listed l G) rfl wd_1605 wd_1607 ws_104 wd_12 wd_1608 (by decide +kernel) ⟨by rw [hRf]; decide, by rw [hRl]; decide⟩ dX13_legalMove_3 ?_
    unfold kX13_legalMove_6
    refine S_if_eq (pc := 6) (tgt := 13) hC dX13_legalMove_6 (by decide) ?_ ?_
    · refine S_iconst (pc := 13) hC dX13_legalMove_13 (by decide) ?_
      exact hJ 14
    · refine S_iconst (pc := 9) hC dX13_legalMove_9 (by decide) ?_
      refine S_goto (pc := 10) (tgt := 14) hC dX13_legalMove_10 (by decide) ?_
      exact hJ 14
  have hB14 : zin 2 [0, 1] (aX13_legalMove_14 mc ms X Q) X 14 := by
    intro u v vs st M hb
    rw [hXe]
    refine fun lv hp => S_block (L := 14) (live := [0, 1]) ?_ u v lv vs st M hp hb
    unfold aX13_legalMove_14
    refine S_puti (pc := 14) hC cfX13 (by decide) rfl (Or.inl rfl) wd_1255 dX13_legalMove_14 ?_
    refine S_aload_n (pc := 17) hC dX13_legalMove_17 rfl ?_
    refine S_geti (pc := 18) hC cfX13 (by decide) (Or.inl rfl) wd_1255 dX13_legalMove_18 ?_
    refine S_if_le (pc := 21) (tgt := 28) hC dX13_legalMove_21 (by decide) ?_ ?_
    · refine S_aload_n (pc := 28) hC dX13_legalMove_28 rfl ?_
      refine S_getR (pc := 29) hC cfX13 (by decide) (Or.inr ⟨_, rfl⟩) wd_1272 dX13_legalMove_29 ?_
      refine S_iload_n (pc := 32) hC dX13_legalMove_32 rfl ?_
      refine S_iaload (pc := 33) hC dX13_legalMove_33 ?_
      exact hJ 34
    · refine S_iconst (pc := 24) hC dX13_legalMove_24 (by decide) ?_
      refine S_goto (pc := 25) (tgt := 34) hC dX13_legalMove_25 (by decide) ?_
      exact hJ 34
  have hB34 : zin 2 [] (aX13_legalMove_34 mc ms X Q) X 34 := by
    intro u v vs st M hb
    rw [hXe]
    refine fun lv hp => S_block (L := 34) (live := []) ?_ u v lv vs st M hp hb
    unfold aX13_legalMove_34
    exact S_ireturn (pc := 34) hC hr dX13_legalMove_34
  have := h.2 X hB0 hB14 hB34
  rw [hXe] at this
  exact this lv hlv
theorem vX13_legalMove_0 {mc ms : Nat} {X : Nat → zV} {Q : zQt} {M : zM} {x1 : Int32} (hW : zFix M)  (h : wX13_listed 0 0 [.ref 55, .int x1] M (fun r M1 => kX13_legalMove_6 mc ms X Q 0 0 [some (.ref 55), some (.int x1)] (r.toList ++ [.ref 55]) M1)) : aX13_legalMove_0 mc ms X Q 0 0 [some (.ref 55), some (.int x1)] [] M := ⟨Nat.le_of_ble_eq_true rfl, rfl, (fxs_55 hW), 0, 0, Nat.zero_le _, Nat.zero_le _, h⟩
theorem vX13_legalMove_14 {mc ms : Nat} {X : Nat → zV} {Q : zQt} {M : zM} {x1 : Int32} {s0 : Int32} (hW : zFix M)  (h : ∀ M14 : zM, M14 = (zsI M 55 0 s0) → ((M14.1 55 0) ≤ 0 → vp_in x1 1980 ∧ X 34 0 0 [] [.int ((M14 : zM).1 66 (x1 : Int32).toNatClampNeg)] M14) ∧ (¬ (M14.1 55 0) ≤ 0 → X 34 0 0 [] [.int 0] M14)) : aX13_legalMove_14 mc ms X Q 0 0 [some (.ref 55), some (.int x1)] [.int s0, .ref 55] M := ⟨(fxs_55 hW), (have h14 := h _ rfl; ⟨(fxs_55 hW), ⟨fun c21 => ⟨(fxs_55 hW), 66, (fxr_55_17 hW), ⟨1980, (fxs_66 hW), (h14.1 c21).1, (h14.1 c21).2⟩⟩, fun c21 => (h14.2 c21)⟩⟩)⟩
theorem vX13_legalMove_34 {mc ms : Nat} {X : Nat → zV} {Q : zQt} {M : zM} {s0 : Int32} (hW : zFix M)  (h : Q (some (.int s0)) M) : aX13_legalMove_34 mc ms X Q 0 0 [none, none] [.int s0] M := h
theorem vkX13_legalMove_6 {mc ms : Nat} {X : Nat → zV} {Q : zQt} {M : zM} {x1 : Int32} {s0 : Int32} (hW : zFix M)  (h : (s0 = 0 → X 14 0 0 [.ref 55, .int x1] [.int 1, .ref 55] M) ∧ (¬ s0 = 0 → X 14 0 0 [.ref 55, .int x1] [.int 0, .ref 55] M)) : kX13_legalMove_6 mc ms X Q 0 0 [some (.ref 55), some (.int x1)] [.int s0, .ref 55] M := ⟨fun c6 => (h.1 c6), fun c6 => (h.2 c6)⟩
theorem dX13_packed_0 : decode cX13_packed 0 = .ok (.lconst 0, 1) := by decide +kernel
theorem dX13_packed_1 : decode cX13_packed 1 = .ok (.lstore_n 2, 1) := by decide +kernel
theorem dX13_packed_2 : decode cX13_packed 2 = .ok (.iload_n 1, 1) := by decide +kernel
theorem dX13_packed_3 : decode cX13_packed 3 = .ok (.istore 4, 2) := by decide +kernel
theorem dX13_packed_5 : decode cX13_packed 5 = .ok (.iload 4, 2) := by decide +kernel
theorem dX13_packed_7 : decode cX13_packed 7 = .ok (.iload_n 1, 1) := by decide +kernel
theorem dX13_packed_8 : decode cX13_packed 8 = .ok (.bipush 8, 2) := by decide +kernel
theorem dX13_packed_10 : decode cX13_packed 10 = .ok (.iadd, 1) := by decide +kernel
theorem dX13_packed_11 : decode cX13_packed 11 = .ok (.if_icmp .ge 41, 3) := by decide +kernel
theorem dX13_packed_14 : decode cX13_packed 14 = .ok (.lload_n 2, 1) := by decide +kernel
theorem dX13_packed_15 : decode cX13_packed 15 = .ok (.bipush 8, 2) := by decide +kernel
theorem dX13_packed_17 : decode cX13_packed 17 = .ok (.lshl, 1) := by decide +kernel
theorem dX13_packed_18 : decode cX13_packed 18 = .ok (.iload 4, 2) := by decide +kernel
theorem dX13_packed_20 : decode cX13_packed 20 = .ok (.ifCond .lt 22, 3) := by decide +kernel
theorem dX13_packed_23 : decode cX13_packed 23 = .ok (.iload 4, 2) := by decide +kernel
theorem dX13_packed_25 : decode cX13_packed 25 = .ok (.aload_n 0, 1) := by decide +kernel
theorem dX13_packed_26 : decode cX13_packed 26 = .ok (.getfield 234, 3) := by decide +kernel
theorem dX13_packed_29 : decode cX13_packed 29 = .ok (.if_icmp .ge 13, 3) := by decide +kernel
theorem dX13_packed_32 : decode cX13_packed 32 = .ok (.aload_n 0, 1) := by decide +kernel
theorem dX13_packed_33 : decode cX13_packed 33 = .ok (.getfield 58, 3) := by decide +kernel
theorem dX13_packed_36 : decode cX13_packed 36 = .ok (.iload 4, 2) := by decide +kernel
theorem dX13_packed_38 : decode cX13_packed 38 = .ok (.iaload, 1) := by decide +kernel
theorem dX13_packed_39 : decode cX13_packed 39 = .ok (.goto 4, 3) := by decide +kernel
theorem dX13_packed_42 : decode cX13_packed 42 = .ok (.iconst 0, 1) := by decide +kernel
theorem dX13_packed_43 : decode cX13_packed 43 = .ok (.i2l, 1) := by decide +kernel
theorem dX13_packed_44 : decode cX13_packed 44 = .ok (.lor, 1) := by decide +kernel
theorem dX13_packed_45 : decode cX13_packed 45 = .ok (.lstore_n 2, 1) := by decide +kernel
theorem dX13_packed_46 : decode cX13_packed 46 = .ok (.iinc 4 1, 3) := by decide +kernel
theorem dX13_packed_49 : decode cX13_packed 49 = .ok (.goto (-44), 3) := by decide +kernel
theorem dX13_packed_52 : decode cX13_packed 52 = .ok (.lload_n 2, 1) := by decide +kernel
theorem dX13_packed_53 : decode cX13_packed 53 = .ok (.lreturn, 1) := by decide +kernel
def aX13_packed_0 (mc ms : Nat) (X : Nat → zV) (Q : zQt) : zT :=
  zc (.long 0) <| zsl 2 <| zli 1 <| zsi 4 <| zj X 5 [0, 1, 2, 4]
def aX13_packed_5 (mc ms : Nat) (X : Nat → zV) (Q : zQt) : zT :=
  zli 4 <| zli 1 <| zc (.int 8) <| zii (fun x y => x + y) <| zic (fun x y => y ≤ x) (zll 2 <| zrl Q) <| zll 2 <| zc (.int 8) <| zji (fun x y => x <<< (y.toInt64 &&& 63)) <| zli 4 <| zif (fun x => x < 0) (zj X 42 [0, 1, 4]) <| zli 4 <| zla 0 <| zgi 13 24 <| zic (fun x y => y ≤ x) (zj X 42 [0, 1, 4]) <| zla 0 <| zgR 13 23 <| zli 4 <| zal 1 <| zj X 43 [0, 1, 4]
def aX13_packed_42 (mc ms : Nat) (X : Nat → zV) (Q : zQt) : zT :=
  zc (.int 0) <| zj X 43 [0, 1, 4]
def aX13_packed_43 (mc ms : Nat) (X : Nat → zV) (Q : zQt) : zT :=
  zi2l <| zjj (fun x y => x ||| y) <| zsl 2 <| zinc 4 1 <| zj X 5 [0, 1, 2, 4]
def lvX13_packed : Nat → List Nat := fun L => match L with
  | 0 => [0, 1]
  | 5 => [0, 1, 2, 4]
  | 42 => [0, 1, 4]
  | 43 => [0, 1, 4]
  | _ => []
def wX13_packed : zSp := fun mc ms av M Q => ((zlay av).length ≤ 5 ∧ zpick (zlay av) [0, 1] = some av) ∧ ∀ X : Nat → zV, zin 5 [0, 1] (aX13_packed_0 mc ms X Q) X 0 → zin 5 [0, 1, 2, 4] (aX13_packed_5 mc ms X Q) X 5 → zin 5 [0, 1, 4] (aX13_packed_42 mc ms X Q) X 42 → zin 5 [0, 1, 4] (aX13_packed_43 mc ms X Q) X 43 → X 0 0 0 av [] M
set_option maxRecDepth 100000 in
set_option maxHeartbeats 4000000 in
theorem sX13_packed (l : Launch) (G : zG) : zSnd l G yX13_packed cX13_packed 5 (some .long) 0 0 wX13_packed := by
  refine zmk [0, 1] (by decide) (fun mc ms av M Q h => h.1) ?_
  intro p e R s m args below meth c mc ms av M Q hC hRf hRl hr hnm h lv hlv
  obtain ⟨X, hXe⟩ : ∃ X : Nat → zV, X = fun L u v vs st M => ∀ lv, zpick lv (lvX13_packed L) = some vs → zAt p l e R s m args below meth c (MQ below (zQ G Q) args s mc ms (zA G)) G 5 L u v lv st M := ⟨_, rfl⟩
  have hJ : ∀ L, zOk p l e R s m args below meth c (MQ below (zQ G Q) args s mc ms (zA G)) G 5 L (zj X L (lvX13_packed L)) := fun L => S_jump (fun u v lv vs st M hp hx => by rw [hXe] at hx; exact hx lv hp)
  have hB0 : zin 5 [0, 1] (aX13_packed_0 mc ms X Q) X 0 := by
    intro u v vs st M hb
    rw [hXe]
    refine fun lv hp => S_block (L := 0) (live := [0, 1]) ?_ u v lv vs st M hp hb
    unfold aX13_packed_0
    refine S_lconst (pc := 0) hC dX13_packed_0 (by decide) ?_
    refine S_lstore_n (pc := 1) hC dX13_packed_1 rfl (by decide) ?_
    refine S_iload_n (pc := 2) hC dX13_packed_2 rfl ?_
    refine S_istore (pc := 3) hC dX13_packed_3 (by decide) ?_
    exact hJ 5
  have hB5 : zin 5 [0, 1, 2, 4] (aX13_packed_5 mc ms X Q) X 5 := by
    intro u v vs st M hb
    rw [hXe]
    refine fun lv hp => S_block (L := 5) (live := [0, 1, 2, 4]) ?_ u v lv vs st M hp hb
    unfold aX13_packed_5
    refine S_iload (pc := 5) hC dX13_packed_5 ?_
    refine S_iload_n (pc := 7) hC dX13_packed_7 rfl ?_
    refine S_bipush (pc := 8) hC dX13_packed_8 (by decide) ?_
    refine S_iadd (pc := 10) hC dX13_packed_10 ?_
    refine S_icmp_ge (pc := 11) (tgt := 52) hC dX13_packed_11 (by decide) ?_ ?_
    · refine S_lload_n (pc := 52) hC dX13_packed_52 rfl ?_
      exact S_lreturn (pc := 53) hC hr dX13_packed_53
    · refine S_lload_n (pc := 14) hC dX13_packed_14 rfl ?_
      refine S_bipush (pc := 15) hC dX13_packed_15 (by decide) ?_
      refine S_lshl (pc := 17) hC dX13_packed_17 ?_
      refine S_iload (pc := 18) hC dX13_packed_18 ?_
      refine S_if_lt (pc := 20) (tgt := 42) hC dX13_packed_20 (by decide) ?_ ?_
      · exact hJ 42
      · refine S_iload (pc := 23) hC dX13_packed_23 ?_
        refine S_aload_n (pc := 25) hC dX13_packed_25 rfl ?_
        refine S_geti (pc := 26) hC cfX13 (by decide) (Or.inl rfl) wd_1279 dX13_packed_26 ?_
        refine S_icmp_ge (pc := 29) (tgt := 42) hC dX13_packed_29 (by decide) ?_ ?_
        · exact hJ 42
        · refine S_aload_n (pc := 32) hC dX13_packed_32 rfl ?_
          refine S_getR (pc := 33) hC cfX13 (by decide) (Or.inr ⟨_, rfl⟩) wd_1278 dX13_packed_33 ?_
          refine S_iload (pc := 36) hC dX13_packed_36 ?_
          refine S_iaload (pc := 38) hC dX13_packed_38 ?_
          refine S_goto (pc := 39) (tgt := 43) hC dX13_packed_39 (by decide) ?_
          exact hJ 43
  have hB42 : zin 5 [0, 1, 4] (aX13_packed_42 mc ms X Q) X 42 := by
    intro u v vs st M hb
    rw [hXe]
    refine fun lv hp => S_block (L := 42) (live := [0, 1, 4]) ?_ u v lv vs st M hp hb
    unfold aX13_packed_42
    refine S_iconst (pc := 42) hC dX13_packed_42 (by decide) ?_
    exact hJ 43
  have hB43 : zin 5 [0, 1, 4] (aX13_packed_43 mc ms X Q) X 43 := by
    intro u v vs st M hb
    rw [hXe]
    refine fun lv hp => S_block (L := 43) (live := [0, 1, 4]) ?_ u v lv vs st M hp hb
    unfold aX13_packed_43
    refine S_i2l (pc := 43) hC dX13_packed_43 ?_
    refine S_lor (pc := 44) hC dX13_packed_44 ?_
    refine S_lstore_n (pc := 45) hC dX13_packed_45 rfl (by decide) ?_
    refine S_iinc (pc := 46) hC dX13_packed_46 (by decide) (by decide) ?_
    refine S_goto (pc := 49) (tgt := 5) hC dX13_packed_49 (by decide) ?_
    exact hJ 5
  have := h.2 X hB0 hB5 hB42 hB43
  rw [hXe] at this
  exact this lv hlv
theorem vX13_packed_0 {mc ms : Nat} {X : Nat → zV} {Q : zQt} {M : zM} {x1 : Int32} (hW : zFix M)  (h : X 5 0 0 [.ref 55, .int x1, .long 0, .int x1] [] M) : aX13_packed_0 mc ms X Q 0 0 [some (.ref 55), some (.int x1), none, none, none] [] M := h
theorem vX13_packed_5 {mc ms : Nat} {X : Nat → zV} {Q : zQt} {M : zM} {x1 : Int32} {x2 : Int64} {x4 : Int32} (hW : zFix M)  (h : ((x1 + (8 : Int32)) ≤ x4 → Q (some (.long x2)) M) ∧ (¬ (x1 + (8 : Int32)) ≤ x4 → (x4 < 0 → X 42 0 0 [.ref 55, .int x1, .int x4] [.long (x2 <<< ((8 : Int32).toInt64 &&& 63))] M) ∧ (¬ x4 < 0 → ((M.1 55 24) ≤ x4 → X 42 0 0 [.ref 55, .int x1, .int x4] [.long (x2 <<< ((8 : Int32).toInt64 &&& 63))] M) ∧ (¬ (M.1 55 24) ≤ x4 → vp_in x4 100 ∧ X 43 0 0 [.ref 55, .int x1, .int x4] [.int ((M : zM).1 70 (x4 : Int32).toNatClampNeg), .long (x2 <<< ((8 : Int32).toInt64 &&& 63))] M)))) : aX13_packed_5 mc ms X Q 0 0 [some (.ref 55), some (.int x1), some (.long x2), none, some (.int x4)] [] M := ⟨fun c11 => (h.1 c11), fun c11 => ⟨fun c20 => ((h.2 c11).1 c20), fun c20 => ⟨(fxs_55 hW), ⟨fun c29 => (((h.2 c11).2 c20).1 c29), fun c29 => ⟨(fxs_55 hW), 70, (fxr_55_23 hW), ⟨100, (fxs_70 hW), (((h.2 c11).2 c20).2 c29).1, (((h.2 c11).2 c20).2 c29).2⟩⟩⟩⟩⟩⟩
theorem vX13_packed_42 {mc ms : Nat} {X : Nat → zV} {Q : zQt} {M : zM} {x1 : Int32} {x4 : Int32} {s0 : Int64} (hW : zFix M)  (h : X 43 0 0 [.ref 55, .int x1, .int x4] [.int 0, .long s0] M) : aX13_packed_42 mc ms X Q 0 0 [some (.ref 55), some (.int x1), none, none, some (.int x4)] [.long s0] M := h
theorem vX13_packed_43 {mc ms : Nat} {X : Nat → zV} {Q : zQt} {M : zM} {x1 : Int32} {x4 : Int32} {s0 : Int32} {s1 : Int64} (hW : zFix M)  (h : X 5 0 0 [.ref 55, .int x1, .long (s1 ||| (s0 : Int32).toInt64), .int (x4 + 1)] [] M) : aX13_packed_43 mc ms X Q 0 0 [some (.ref 55), some (.int x1), none, none, some (.int x4)] [.int s0, .long s1] M := h
theorem dX13_spelling_0 : decode cX13_spelling 0 = .ok (.aload_n 0, 1) := by decide +kernel
theorem dX13_spelling_1 : decode cX13_spelling 1 = .ok (.aload_n 0, 1) := by decide +kernel
theorem dX13_spelling_2 : decode cX13_spelling 2 = .ok (.iload_n 1, 1) := by decide +kernel
theorem dX13_spelling_3 : decode cX13_spelling 3 = .ok (.invokevirtual 298, 3) := by decide +kernel
theorem dX13_spelling_6 : decode cX13_spelling 6 = .ok (.ifCond .eq 7, 3) := by decide +kernel
theorem dX13_spelling_9 : decode cX13_spelling 9 = .ok (.iconst 0, 1) := by decide +kernel
theorem dX13_spelling_10 : decode cX13_spelling 10 = .ok (.goto 4, 3) := by decide +kernel
theorem dX13_spelling_13 : decode cX13_spelling 13 = .ok (.iconst 1, 1) := by decide +kernel
theorem dX13_spelling_14 : decode cX13_spelling 14 = .ok (.putfield 68, 3) := by decide +kernel
theorem dX13_spelling_17 : decode cX13_spelling 17 = .ok (.aload_n 0, 1) := by decide +kernel
theorem dX13_spelling_18 : decode cX13_spelling 18 = .ok (.getfield 68, 3) := by decide +kernel
theorem dX13_spelling_21 : decode cX13_spelling 21 = .ok (.ifCond .le 5, 3) := by decide +kernel
theorem dX13_spelling_24 : decode cX13_spelling 24 = .ok (.lconst 0, 1) := by decide +kernel
theorem dX13_spelling_25 : decode cX13_spelling 25 = .ok (.lreturn, 1) := by decide +kernel
theorem dX13_spelling_26 : decode cX13_spelling 26 = .ok (.aload_n 0, 1) := by decide +kernel
theorem dX13_spelling_27 : decode cX13_spelling 27 = .ok (.aload_n 0, 1) := by decide +kernel
theorem dX13_spelling_28 : decode cX13_spelling 28 = .ok (.getfield 46, 3) := by decide +kernel
theorem dX13_spelling_31 : decode cX13_spelling 31 = .ok (.iload_n 1, 1) := by decide +kernel
theorem dX13_spelling_32 : decode cX13_spelling 32 = .ok (.iaload, 1) := by decide +kernel
theorem dX13_spelling_33 : decode cX13_spelling 33 = .ok (.invokevirtual 280, 3) := by decide +kernel
theorem dX13_spelling_36 : decode cX13_spelling 36 = .ok (.aload_n 0, 1) := by decide +kernel
theorem dX13_spelling_37 : decode cX13_spelling 37 = .ok (.aload_n 0, 1) := by decide +kernel
theorem dX13_spelling_38 : decode cX13_spelling 38 = .ok (.getfield 46, 3) := by decide +kernel
theorem dX13_spelling_41 : decode cX13_spelling 41 = .ok (.iload_n 1, 1) := by decide +kernel
theorem dX13_spelling_42 : decode cX13_spelling 42 = .ok (.iaload, 1) := by decide +kernel
theorem dX13_spelling_43 : decode cX13_spelling 43 = .ok (.invokevirtual 286, 3) := by decide +kernel
theorem dX13_spelling_46 : decode cX13_spelling 46 = .ok (.aload_n 0, 1) := by decide +kernel
theorem dX13_spelling_47 : decode cX13_spelling 47 = .ok (.iconst 0, 1) := by decide +kernel
theorem dX13_spelling_48 : decode cX13_spelling 48 = .ok (.invokevirtual 301, 3) := by decide +kernel
theorem dX13_spelling_51 : decode cX13_spelling 51 = .ok (.lreturn, 1) := by decide +kernel
def kX13_spelling_6 (mc ms : Nat) (X : Nat → zV) (Q : zQt) : zT :=
  zif (fun x => x = 0) (zc (.int 1) <| zj X 14 [0, 1]) <| zc (.int 0) <| zj X 14 [0, 1]
def kX13_spelling_51 (mc ms : Nat) (X : Nat → zV) (Q : zQt) : zT :=
  zrl Q
def kX13_spelling_46 (mc ms : Nat) (X : Nat → zV) (Q : zQt) : zT :=
  zla 0 <| zc (.int 0) <| zcv mc ms 13 1 wX13_packed <| kX13_spelling_51 mc ms X Q
def kX13_spelling_36 (mc ms : Nat) (X : Nat → zV) (Q : zQt) : zT :=
  zla 0 <| zla 0 <| zgR 13 17 <| zli 1 <| zal 1 <| zcv mc ms 13 1 wX13_saySign <| kX13_spelling_46 mc ms X Q
def aX13_spelling_0 (mc ms : Nat) (X : Nat → zV) (Q : zQt) : zT :=
  zla 0 <| zla 0 <| zli 1 <| zcv mc ms 13 1 wX13_listed <| kX13_spelling_6 mc ms X Q
def aX13_spelling_14 (mc ms : Nat) (X : Nat → zV) (Q : zQt) : zT :=
  zpi 13 0 <| zla 0 <| zgi 13 0 <| zif (fun x => x ≤ 0) (zla 0 <| zla 0 <| zgR 13 17 <| zli 1 <| zal 1 <| zcv mc ms 13 1 wX13_spell <| kX13_spelling_36 mc ms X Q) <| zc (.long 0) <| zrl Q
def lvX13_spelling : Nat → List Nat := fun L => match L with
  | 0 => [0, 1]
  | 14 => [0, 1]
  | _ => []
def wX13_spelling : zSp := fun mc ms av M Q => ((zlay av).length ≤ 2 ∧ zpick (zlay av) [0, 1] = some av) ∧ ∀ X : Nat → zV, zin 2 [0, 1] (aX13_spelling_0 mc ms X Q) X 0 → zin 2 [0, 1] (aX13_spelling_14 mc ms X Q) X 14 → X 0 0 0 av [] M
set_option maxRecDepth 100000 in
set_option maxHeartbeats 4000000 in
theorem sX13_spelling (l : Launch) (G : zG) : zSnd l G yX13_spelling cX13_spelling 2 (some .long) 9 227 wX13_spelling := by
  refine zmk [0, 1] (by decide) (fun mc ms av M Q h => h.1) ?_
  intro p e R s m args below meth c mc ms av M Q hC hRf hRl hr hnm h lv hlv
  obtain ⟨X, hXe⟩ : ∃ X : Nat → zV, X = fun L u v vs st M => ∀ lv, zpick lv (lvX13_spelling L) = some vs → zAt p l e R s m args below meth c (MQ below (zQ G Q) args s mc ms (zA G)) G 2 L u v lv st M := ⟨_, rfl⟩
  have hJ : ∀ L, zOk p l e R s m args below meth c (MQ below (zQ G Q) args s mc ms (zA G)) G 2 L (zj X L (lvX13_spelling L)) := fun L => S_jump (fun u v lv vs st M hp hx => by rw [hXe] at hx; exact hx lv hp)
  have hB0 : zin 2 [0, 1] (aX13_spelling_0 mc ms X Q) X 0 := by
    intro u v vs st M hb
    rw [hXe]
    refine fun lv hp => S_block (L := 0) (live := [0, 1]) ?_ u v lv vs st M hp hb
    unfold aX13_spelling_0
    refine S_aload_n (pc := 0) hC dX13_spelling_0 rfl ?_
    refine S_aload_n (pc := 1) hC dX13_spelling_1 rfl ?_
    refine S_iload_n (pc := 2) hC dX13_spelling_2 rfl ?_
    refine S_callV (pc := 3) hC (sX13_listed l G) rfl wd_1605 wd_1607 ws_104 wd_12 wd_1608 (by decide +kernel) ⟨by rw [hRf]; decide, by rw [hRl]; decide⟩ dX13_spelling_3 ?_
    unfold kX13_spelling_6
    refine S_if_eq (pc := 6) (tgt := 13) hC dX13_spelling_6 (by decide) ?_ ?_
    · refine S_iconst (pc := 13) hC dX13_spelling_13 (by decide) ?_
      exact hJ 14
    · refine S_iconst (pc := 9) hC dX13_spelling_9 (by decide) ?_
      refine S_goto (pc := 10) (tgt := 14) hC dX13_spelling_10 (by decide) ?_
      exact hJ 14
  have hB14 : zin 2 [0, 1] (aX13_spelling_14 mc ms X Q) X 14 := by
    intro u v vs st M hb
    rw [hXe]
    refine fun lv hp => S_block (L := 14) (live := [0, 1]) ?_ u v lv vs st M hp hb
    unfold aX13_spelling_14
    refine S_puti (pc := 14) hC cfX13 (by decide) rfl (Or.inl rfl) wd_1255 dX13_spelling_14 ?_
    refine S_aload_n (pc := 17) hC dX13_spelling_17 rfl ?_
    refine S_geti (pc := 18) hC cfX13 (by decide) (Or.inl rfl) wd_1255 dX13_spelling_18 ?_
    refine S_if_le (pc := 21) (tgt := 26) hC dX13_spelling_21 (by decide) ?_ ?_
    · refine S_aload_n (pc := 26) hC dX13_spelling_26 rfl ?_
      refine S_aload_n (pc := 27) hC dX13_spelling_27 rfl ?_
      refine S_getR (pc := 28) hC cfX13 (by decide) (Or.inr ⟨_, rfl⟩) wd_1272 dX13_spelling_28 ?_
      refine S_iload_n (pc := 31) hC dX13_spelling_31 rfl ?_
      refine S_iaload (pc := 32) hC dX13_spelling_32 ?_
      refine S_callV (pc := 33) hC (sX13_spell l G) rfl wd_1549 wd_1551 ws_94 wd_12 wd_1552 (by decide +kernel) ⟨by rw [hRf]; decide, by rw [hRl]; decide⟩ dX13_spelling_33 ?_
      unfold kX13_spelling_36
      refine S_aload_n (pc := 36) hC dX13_spelling_36 rfl ?_
      refine S_aload_n (pc := 37) hC dX13_spelling_37 rfl ?_
      refine S_getR (pc := 38) hC cfX13 (by decide) (Or.inr ⟨_, rfl⟩) wd_1272 dX13_spelling_38 ?_
      refine S_iload_n (pc := 41) hC dX13_spelling_41 rfl ?_
      refine S_iaload (pc := 42) hC dX13_spelling_42 ?_
      refine S_callV (pc := 43) hC (sX13_saySign l G) rfl wd_1573 wd_1575 ws_100 wd_12 wd_1576 (by decide +kernel) ⟨by rw [hRf]; decide, by rw [hRl]; decide⟩ dX13_spelling_43 ?_
      unfold kX13_spelling_46
      refine S_aload_n (pc := 46) hC dX13_spelling_46 rfl ?_
      refine S_iconst (pc := 47) hC dX13_spelling_47 (by decide) ?_
      refine S_callV (pc := 48) hC (sX13_packed l G) rfl wd_1613 wd_1615 ws_105 wd_12 wd_1616 (by decide +kernel) ⟨by rw [hRf]; decide, by rw [hRl]; decide⟩ dX13_spelling_48 ?_
      unfold kX13_spelling_51
      exact S_lreturn (pc := 51) hC hr dX13_spelling_51
    · refine S_lconst (pc := 24) hC dX13_spelling_24 (by decide) ?_
      exact S_lreturn (pc := 25) hC hr dX13_spelling_25
  have := h.2 X hB0 hB14
  rw [hXe] at this
  exact this lv hlv
theorem vX13_spelling_0 {mc ms : Nat} {X : Nat → zV} {Q : zQt} {M : zM} {x1 : Int32} (hW : zFix M)  (h : wX13_listed 0 0 [.ref 55, .int x1] M (fun r M1 => kX13_spelling_6 mc ms X Q 0 0 [some (.ref 55), some (.int x1)] (r.toList ++ [.ref 55]) M1)) : aX13_spelling_0 mc ms X Q 0 0 [some (.ref 55), some (.int x1)] [] M := ⟨Nat.le_of_ble_eq_true rfl, rfl, (fxs_55 hW), 0, 0, Nat.zero_le _, Nat.zero_le _, h⟩
theorem vX13_spelling_14 {mc ms : Nat} {X : Nat → zV} {Q : zQt} {M : zM} {x1 : Int32} {s0 : Int32} (hW : zFix M)  (h : ∀ M14 : zM, M14 = (zsI M 55 0 s0) → ((M14.1 55 0) ≤ 0 → vp_in x1 1980 ∧ wX13_spell 0 0 [.ref 55, .int ((M14 : zM).1 66 (x1 : Int32).toNatClampNeg)] M14 (fun r M1 => kX13_spelling_36 mc ms X Q 0 0 [some (.ref 55), some (.int x1)] (r.toList ++ []) M1)) ∧ (¬ (M14.1 55 0) ≤ 0 → Q (some (.long 0)) M14)) : aX13_spelling_14 mc ms X Q 0 0 [some (.ref 55), some (.int x1)] [.int s0, .ref 55] M := ⟨(fxs_55 hW), (have h14 := h _ rfl; ⟨(fxs_55 hW), ⟨fun c21 => ⟨(fxs_55 hW), 66, (fxr_55_17 hW), ⟨1980, (fxs_66 hW), (h14.1 c21).1, ⟨Nat.le_of_ble_eq_true rfl, rfl, (fxs_55 hW), 0, 0, Nat.zero_le _, Nat.zero_le _, (h14.1 c21).2⟩⟩⟩, fun c21 => (h14.2 c21)⟩⟩)⟩
theorem vkX13_spelling_6 {mc ms : Nat} {X : Nat → zV} {Q : zQt} {M : zM} {x1 : Int32} {s0 : Int32} (hW : zFix M)  (h : (s0 = 0 → X 14 0 0 [.ref 55, .int x1] [.int 1, .ref 55] M) ∧ (¬ s0 = 0 → X 14 0 0 [.ref 55, .int x1] [.int 0, .ref 55] M)) : kX13_spelling_6 mc ms X Q 0 0 [some (.ref 55), some (.int x1)] [.int s0, .ref 55] M := ⟨fun c6 => (h.1 c6), fun c6 => (h.2 c6)⟩
theorem vkX13_spelling_36 {mc ms : Nat} {X : Nat → zV} {Q : zQt} {M : zM} {x1 : Int32} (hW : zFix M)  (h : vp_in x1 1980 ∧ wX13_saySign 0 0 [.ref 55, .int ((M : zM).1 66 (x1 : Int32).toNatClampNeg)] M (fun r M1 => kX13_spelling_46 mc ms X Q 0 0 [some (.ref 55), some (.int x1)] (r.toList ++ []) M1)) : kX13_spelling_36 mc ms X Q 0 0 [some (.ref 55), some (.int x1)] [] M := ⟨(fxs_55 hW), 66, (fxr_55_17 hW), ⟨1980, (fxs_66 hW), h.1, ⟨Nat.le_of_ble_eq_true rfl, rfl, (fxs_55 hW), 0, 0, Nat.zero_le _, Nat.zero_le _, h.2⟩⟩⟩
theorem vkX13_spelling_46 {mc ms : Nat} {X : Nat → zV} {Q : zQt} {M : zM} {x1 : Int32} (hW : zFix M)  (h : wX13_packed 0 0 [.ref 55, .int 0] M (fun r M1 => kX13_spelling_51 mc ms X Q 0 0 [some (.ref 55), some (.int x1)] (r.toList ++ []) M1)) : kX13_spelling_46 mc ms X Q 0 0 [some (.ref 55), some (.int x1)] [] M := ⟨Nat.le_of_ble_eq_true rfl, rfl, (fxs_55 hW), 0, 0, Nat.zero_le _, Nat.zero_le _, h⟩
theorem vkX13_spelling_51 {mc ms : Nat} {X : Nat → zV} {Q : zQt} {M : zM} {x1 : Int32} {s0 : Int64} (hW : zFix M)  (h : Q (some (.long s0)) M) : kX13_spelling_51 mc ms X Q 0 0 [some (.ref 55), some (.int x1)] [.long s0] M := h
theorem dX13_sayNumber_0 : decode cX13_sayNumber 0 = .ok (.iconst 1, 1) := by decide +kernel
theorem dX13_sayNumber_1 : decode cX13_sayNumber 1 = .ok (.istore_n 2, 1) := by decide +kernel
theorem dX13_sayNumber_2 : decode cX13_sayNumber 2 = .ok (.iload_n 1, 1) := by decide +kernel
theorem dX13_sayNumber_3 : decode cX13_sayNumber 3 = .ok (.iload_n 2, 1) := by decide +kernel
theorem dX13_sayNumber_4 : decode cX13_sayNumber 4 = .ok (.idiv, 1) := by decide +kernel
theorem dX13_sayNumber_5 : decode cX13_sayNumber 5 = .ok (.bipush 9, 2) := by decide +kernel
theorem dX13_sayNumber_7 : decode cX13_sayNumber 7 = .ok (.if_icmp .le 11, 3) := by decide +kernel
theorem dX13_sayNumber_10 : decode cX13_sayNumber 10 = .ok (.iload_n 2, 1) := by decide +kernel
theorem dX13_sayNumber_11 : decode cX13_sayNumber 11 = .ok (.bipush 10, 2) := by decide +kernel
theorem dX13_sayNumber_13 : decode cX13_sayNumber 13 = .ok (.imul, 1) := by decide +kernel
theorem dX13_sayNumber_14 : decode cX13_sayNumber 14 = .ok (.istore_n 2, 1) := by decide +kernel
theorem dX13_sayNumber_15 : decode cX13_sayNumber 15 = .ok (.goto (-13), 3) := by decide +kernel
theorem dX13_sayNumber_18 : decode cX13_sayNumber 18 = .ok (.iload_n 2, 1) := by decide +kernel
theorem dX13_sayNumber_19 : decode cX13_sayNumber 19 = .ok (.istore_n 3, 1) := by decide +kernel
theorem dX13_sayNumber_20 : decode cX13_sayNumber 20 = .ok (.iload_n 3, 1) := by decide +kernel
theorem dX13_sayNumber_21 : decode cX13_sayNumber 21 = .ok (.ifCond .le 24, 3) := by decide +kernel
theorem dX13_sayNumber_24 : decode cX13_sayNumber 24 = .ok (.aload_n 0, 1) := by decide +kernel
theorem dX13_sayNumber_25 : decode cX13_sayNumber 25 = .ok (.bipush 48, 2) := by decide +kernel
theorem dX13_sayNumber_27 : decode cX13_sayNumber 27 = .ok (.iload_n 1, 1) := by decide +kernel
theorem dX13_sayNumber_28 : decode cX13_sayNumber 28 = .ok (.iload_n 3, 1) := by decide +kernel
theorem dX13_sayNumber_29 : decode cX13_sayNumber 29 = .ok (.idiv, 1) := by decide +kernel
theorem dX13_sayNumber_30 : decode cX13_sayNumber 30 = .ok (.bipush 10, 2) := by decide +kernel
theorem dX13_sayNumber_32 : decode cX13_sayNumber 32 = .ok (.irem, 1) := by decide +kernel
theorem dX13_sayNumber_33 : decode cX13_sayNumber 33 = .ok (.iadd, 1) := by decide +kernel
theorem dX13_sayNumber_34 : decode cX13_sayNumber 34 = .ok (.invokevirtual 237, 3) := by decide +kernel
theorem dX13_sayNumber_37 : decode cX13_sayNumber 37 = .ok (.iload_n 3, 1) := by decide +kernel
theorem dX13_sayNumber_38 : decode cX13_sayNumber 38 = .ok (.bipush 10, 2) := by decide +kernel
theorem dX13_sayNumber_40 : decode cX13_sayNumber 40 = .ok (.idiv, 1) := by decide +kernel
theorem dX13_sayNumber_41 : decode cX13_sayNumber 41 = .ok (.istore_n 3, 1) := by decide +kernel
theorem dX13_sayNumber_42 : decode cX13_sayNumber 42 = .ok (.goto (-22), 3) := by decide +kernel
theorem dX13_sayNumber_45 : decode cX13_sayNumber 45 = .ok (.return_, 1) := by decide +kernel
def kX13_sayNumber_37 (mc ms : Nat) (X : Nat → zV) (Q : zQt) : zT :=
  zli 3 <| zc (.int 10) <| zid (fun x y => x / y) <| zsi 3 <| zj X 20 [0, 1, 3]
def aX13_sayNumber_0 (mc ms : Nat) (X : Nat → zV) (Q : zQt) : zT :=
  zc (.int 1) <| zsi 2 <| zj X 2 [0, 1, 2]
def aX13_sayNumber_2 (mc ms : Nat) (X : Nat → zV) (Q : zQt) : zT :=
  zli 1 <| zli 2 <| zid (fun x y => x / y) <| zc (.int 9) <| zic (fun x y => x ≤ y) (zli 2 <| zsi 3 <| zj X 20 [0, 1, 3]) <| zli 2 <| zc (.int 10) <| zii (fun x y => x * y) <| zsi 2 <| zj X 2 [0, 1, 2]
def aX13_sayNumber_20 (mc ms : Nat) (X : Nat → zV) (Q : zQt) : zT :=
  zli 3 <| zif (fun x => x ≤ 0) (zrv Q) <| zla 0 <| zc (.int 48) <| zli 1 <| zli 3 <| zid (fun x y => x / y) <| zc (.int 10) <| zid (fun x y => x - x / y * y) <| zii (fun x y => x + y) <| zcv mc ms 13 1 wX13_say <| kX13_sayNumber_37 mc ms X Q
def lvX13_sayNumber : Nat → List Nat := fun L => match L with
  | 0 => [0, 1]
  | 2 => [0, 1, 2]
  | 20 => [0, 1, 3]
  | _ => []
def wX13_sayNumber : zSp := fun mc ms av M Q => ((zlay av).length ≤ 4 ∧ zpick (zlay av) [0, 1] = some av) ∧ ∀ X : Nat → zV, zin 4 [0, 1] (aX13_sayNumber_0 mc ms X Q) X 0 → zin 4 [0, 1, 2] (aX13_sayNumber_2 mc ms X Q) X 2 → zin 4 [0, 1, 3] (aX13_sayNumber_20 mc ms X Q) X 20 → X 0 0 0 av [] M
set_option maxRecDepth 100000 in
set_option maxHeartbeats 4000000 in
theorem sX13_sayNumber (l : Launch) (G : zG) : zSnd l G yX13_sayNumber cX13_sayNumber 4 none 1 21 wX13_sayNumber := by
  refine zmk [0, 1] (by decide) (fun mc ms av M Q h => h.1) ?_
  intro p e R s m args below meth c mc ms av M Q hC hRf hRl hr hnm h lv hlv
  obtain ⟨X, hXe⟩ : ∃ X : Nat → zV, X = fun L u v vs st M => ∀ lv, zpick lv (lvX13_sayNumber L) = some vs → zAt p l e R s m args below meth c (MQ below (zQ G Q) args s mc ms (zA G)) G 4 L u v lv st M := ⟨_, rfl⟩
  have hJ : ∀ L, zOk p l e R s m args below meth c (MQ below (zQ G Q) args s mc ms (zA G)) G 4 L (zj X L (lvX13_sayNumber L)) := fun L => S_jump (fun u v lv vs st M hp hx => by rw [hXe] at hx; exact hx lv hp)
  have hB0 : zin 4 [0, 1] (aX13_sayNumber_0 mc ms X Q) X 0 := by
    intro u v vs st M hb
    rw [hXe]
    refine fun lv hp => S_block (L := 0) (live := [0, 1]) ?_ u v lv vs st M hp hb
    unfold aX13_sayNumber_0
    refine S_iconst (pc := 0) hC dX13_sayNumber_0 (by decide) ?_
    refine S_istore_n (pc := 1) hC dX13_sayNumber_1 rfl (by decide) ?_
    exact hJ 2
  have hB2 : zin 4 [0, 1, 2] (aX13_sayNumber_2 mc ms X Q) X 2 := by
    intro u v vs st M hb
    rw [hXe]
    refine fun lv hp => S_block (L := 2) (live := [0, 1, 2]) ?_ u v lv vs st M hp hb
    unfold aX13_sayNumber_2
    refine S_iload_n (pc := 2) hC dX13_sayNumber_2 rfl ?_
    refine S_iload_n (pc := 3) hC dX13_sayNumber_3 rfl ?_
    refine S_idiv (pc := 4) hC dX13_sayNumber_4 ?_
    refine S_bipush (pc := 5) hC dX13_sayNumber_5 (by decide) ?_
    refine S_icmp_le (pc := 7) (tgt := 18) hC dX13_sayNumber_7 (by decide) ?_ ?_
    · refine S_iload_n (pc := 18) hC dX13_sayNumber_18 rfl ?_
      refine S_istore_n (pc := 19) hC dX13_sayNumber_19 rfl (by decide) ?_
      exact hJ 20
    · refine S_iload_n (pc := 10) hC dX13_sayNumber_10 rfl ?_
      refine S_bipush (pc := 11) hC dX13_sayNumber_11 (by decide) ?_
      refine S_imul (pc := 13) hC dX13_sayNumber_13 ?_
      refine S_istore_n (pc := 14) hC dX13_sayNumber_14 rfl (by decide) ?_
      refine S_goto (pc := 15) (tgt := 2) hC dX13_sayNumber_15 (by decide) ?_
      exact hJ 2
  have hB20 : zin 4 [0, 1, 3] (aX13_sayNumber_20 mc ms X Q) X 20 := by
    intro u v vs st M hb
    rw [hXe]
    refine fun lv hp => S_block (L := 20) (live := [0, 1, 3]) ?_ u v lv vs st M hp hb
    unfold aX13_sayNumber_20
    refine S_iload_n (pc := 20) hC dX13_sayNumber_20 rfl ?_
    refine S_if_le (pc := 21) (tgt := 45) hC dX13_sayNumber_21 (by decide) ?_ ?_
    · exact S_vreturn (pc := 45) hC hr dX13_sayNumber_45
    · refine S_aload_n (pc := 24) hC dX13_sayNumber_24 rfl ?_
      refine S_bipush (pc := 25) hC dX13_sayNumber_25 (by decide) ?_
      refine S_iload_n (pc := 27) hC dX13_sayNumber_27 rfl ?_
      refine S_iload_n (pc := 28) hC dX13_sayNumber_28 rfl ?_
      refine S_idiv (pc := 29) hC dX13_sayNumber_29 ?_
      refine S_bipush (pc := 30) hC dX13_sayNumber_30 (by decide) ?_
      refine S_irem (pc := 32) hC dX13_sayNumber_32 ?_
      refine S_iadd (pc := 33) hC dX13_sayNumber_33 ?_
      refine S_callV (pc := 34) hC (sX13_say l G) rfl wd_1553 wd_1555 ws_95 wd_12 wd_1556 (by decide +kernel) ⟨by rw [hRf]; decide, by rw [hRl]; decide⟩ dX13_sayNumber_34 ?_
      unfold kX13_sayNumber_37
      refine S_iload_n (pc := 37) hC dX13_sayNumber_37 rfl ?_
      refine S_bipush (pc := 38) hC dX13_sayNumber_38 (by decide) ?_
      refine S_idiv (pc := 40) hC dX13_sayNumber_40 ?_
      refine S_istore_n (pc := 41) hC dX13_sayNumber_41 rfl (by decide) ?_
      refine S_goto (pc := 42) (tgt := 20) hC dX13_sayNumber_42 (by decide) ?_
      exact hJ 20
  have := h.2 X hB0 hB2 hB20
  rw [hXe] at this
  exact this lv hlv
theorem vX13_sayNumber_0 {mc ms : Nat} {X : Nat → zV} {Q : zQt} {M : zM} {x1 : Int32} (hW : zFix M)  (h : X 2 0 0 [.ref 55, .int x1, .int 1] [] M) : aX13_sayNumber_0 mc ms X Q 0 0 [some (.ref 55), some (.int x1), none, none] [] M := h
theorem vX13_sayNumber_2 {mc ms : Nat} {X : Nat → zV} {Q : zQt} {M : zM} {x1 : Int32} {x2 : Int32} (hW : zFix M)  (h : ¬ x2 = 0 ∧ ((x1 / x2) ≤ (9 : Int32) → X 20 0 0 [.ref 55, .int x1, .int x2] [] M) ∧ (¬ (x1 / x2) ≤ (9 : Int32) → X 2 0 0 [.ref 55, .int x1, .int (x2 * (10 : Int32))] [] M)) : aX13_sayNumber_2 mc ms X Q 0 0 [some (.ref 55), some (.int x1), some (.int x2), none] [] M := ⟨h.1, ⟨fun c7 => (h.2.1 c7), fun c7 => (h.2.2 c7)⟩⟩
theorem vX13_sayNumber_20 {mc ms : Nat} {X : Nat → zV} {Q : zQt} {M : zM} {x1 : Int32} {x3 : Int32} (hW : zFix M)  (h : (x3 ≤ 0 → Q none M) ∧ (¬ x3 ≤ 0 → ¬ x3 = 0 ∧ wX13_say 0 0 [.ref 55, .int ((48 : Int32) + ((x1 / x3) - (x1 / x3) / (10 : Int32) * (10 : Int32)))] M (fun r M1 => kX13_sayNumber_37 mc ms X Q 0 0 [some (.ref 55), some (.int x1), none, some (.int x3)] (r.toList ++ []) M1))) : aX13_sayNumber_20 mc ms X Q 0 0 [some (.ref 55), some (.int x1), none, some (.int x3)] [] M := ⟨fun c21 => (h.1 c21), fun c21 => ⟨(h.2 c21).1, ⟨by decide, ⟨Nat.le_of_ble_eq_true rfl, rfl, (fxs_55 hW), 0, 0, Nat.zero_le _, Nat.zero_le _, (h.2 c21).2⟩⟩⟩⟩
theorem vkX13_sayNumber_37 {mc ms : Nat} {X : Nat → zV} {Q : zQt} {M : zM} {x1 : Int32} {x3 : Int32} (hW : zFix M)  (h : X 20 0 0 [.ref 55, .int x1, .int (x3 / (10 : Int32))] [] M) : kX13_sayNumber_37 mc ms X Q 0 0 [some (.ref 55), some (.int x1), none, some (.int x3)] [] M := ⟨by decide, h⟩
theorem dX13_sayRank_0 : decode cX13_sayRank 0 = .ok (.iconst 0, 1) := by decide +kernel
theorem dX13_sayRank_1 : decode cX13_sayRank 1 = .ok (.istore_n 2, 1) := by decide +kernel
theorem dX13_sayRank_2 : decode cX13_sayRank 2 = .ok (.iconst 0, 1) := by decide +kernel
theorem dX13_sayRank_3 : decode cX13_sayRank 3 = .ok (.istore_n 3, 1) := by decide +kernel
theorem dX13_sayRank_4 : decode cX13_sayRank 4 = .ok (.iload_n 3, 1) := by decide +kernel
theorem dX13_sayRank_5 : decode cX13_sayRank 5 = .ok (.bipush 8, 2) := by decide +kernel
theorem dX13_sayRank_7 : decode cX13_sayRank 7 = .ok (.if_icmp .ge 66, 3) := by decide +kernel
theorem dX13_sayRank_10 : decode cX13_sayRank 10 = .ok (.aload_n 0, 1) := by decide +kernel
theorem dX13_sayRank_11 : decode cX13_sayRank 11 = .ok (.getfield 43, 3) := by decide +kernel
theorem dX13_sayRank_14 : decode cX13_sayRank 14 = .ok (.bipush 8, 2) := by decide +kernel
theorem dX13_sayRank_16 : decode cX13_sayRank 16 = .ok (.iload_n 1, 1) := by decide +kernel
theorem dX13_sayRank_17 : decode cX13_sayRank 17 = .ok (.imul, 1) := by decide +kernel
theorem dX13_sayRank_18 : decode cX13_sayRank 18 = .ok (.iload_n 3, 1) := by decide +kernel
theorem dX13_sayRank_19 : decode cX13_sayRank 19 = .ok (.iadd, 1) := by decide +kernel
theorem dX13_sayRank_20 : decode cX13_sayRank 20 = .ok (.iaload, 1) := by decide +kernel
theorem dX13_sayRank_21 : decode cX13_sayRank 21 = .ok (.istore 4, 2) := by decide +kernel
theorem dX13_sayRank_23 : decode cX13_sayRank 23 = .ok (.iload 4, 2) := by decide +kernel
theorem dX13_sayRank_25 : decode cX13_sayRank 25 = .ok (.ifCond .le 15, 3) := by decide +kernel
theorem dX13_sayRank_28 : decode cX13_sayRank 28 = .ok (.iload_n 2, 1) := by decide +kernel
theorem dX13_sayRank_29 : decode cX13_sayRank 29 = .ok (.ifCond .le 11, 3) := by decide +kernel
theorem dX13_sayRank_32 : decode cX13_sayRank 32 = .ok (.aload_n 0, 1) := by decide +kernel
theorem dX13_sayRank_33 : decode cX13_sayRank 33 = .ok (.bipush 48, 2) := by decide +kernel
theorem dX13_sayRank_35 : decode cX13_sayRank 35 = .ok (.iload_n 2, 1) := by decide +kernel
theorem dX13_sayRank_36 : decode cX13_sayRank 36 = .ok (.iadd, 1) := by decide +kernel
theorem dX13_sayRank_37 : decode cX13_sayRank 37 = .ok (.invokevirtual 237, 3) := by decide +kernel
theorem dX13_sayRank_40 : decode cX13_sayRank 40 = .ok (.iload 4, 2) := by decide +kernel
theorem dX13_sayRank_42 : decode cX13_sayRank 42 = .ok (.ifCond .le 12, 3) := by decide +kernel
theorem dX13_sayRank_45 : decode cX13_sayRank 45 = .ok (.aload_n 0, 1) := by decide +kernel
theorem dX13_sayRank_46 : decode cX13_sayRank 46 = .ok (.iload 4, 2) := by decide +kernel
theorem dX13_sayRank_48 : decode cX13_sayRank 48 = .ok (.invokestatic 187, 3) := by decide +kernel
theorem dX13_sayRank_51 : decode cX13_sayRank 51 = .ok (.invokevirtual 237, 3) := by decide +kernel
theorem dX13_sayRank_54 : decode cX13_sayRank 54 = .ok (.iload 4, 2) := by decide +kernel
theorem dX13_sayRank_56 : decode cX13_sayRank 56 = .ok (.ifCond .le 7, 3) := by decide +kernel
theorem dX13_sayRank_59 : decode cX13_sayRank 59 = .ok (.iconst 0, 1) := by decide +kernel
theorem dX13_sayRank_60 : decode cX13_sayRank 60 = .ok (.goto 6, 3) := by decide +kernel
theorem dX13_sayRank_63 : decode cX13_sayRank 63 = .ok (.iload_n 2, 1) := by decide +kernel
theorem dX13_sayRank_64 : decode cX13_sayRank 64 = .ok (.iconst 1, 1) := by decide +kernel
theorem dX13_sayRank_65 : decode cX13_sayRank 65 = .ok (.iadd, 1) := by decide +kernel
theorem dX13_sayRank_66 : decode cX13_sayRank 66 = .ok (.istore_n 2, 1) := by decide +kernel
theorem dX13_sayRank_67 : decode cX13_sayRank 67 = .ok (.iinc 3 1, 3) := by decide +kernel
theorem dX13_sayRank_70 : decode cX13_sayRank 70 = .ok (.goto (-66), 3) := by decide +kernel
theorem dX13_sayRank_73 : decode cX13_sayRank 73 = .ok (.iload_n 2, 1) := by decide +kernel
theorem dX13_sayRank_74 : decode cX13_sayRank 74 = .ok (.ifCond .le 11, 3) := by decide +kernel
theorem dX13_sayRank_77 : decode cX13_sayRank 77 = .ok (.aload_n 0, 1) := by decide +kernel
theorem dX13_sayRank_78 : decode cX13_sayRank 78 = .ok (.bipush 48, 2) := by decide +kernel
theorem dX13_sayRank_80 : decode cX13_sayRank 80 = .ok (.iload_n 2, 1) := by decide +kernel
theorem dX13_sayRank_81 : decode cX13_sayRank 81 = .ok (.iadd, 1) := by decide +kernel
theorem dX13_sayRank_82 : decode cX13_sayRank 82 = .ok (.invokevirtual 237, 3) := by decide +kernel
theorem dX13_sayRank_85 : decode cX13_sayRank 85 = .ok (.return_, 1) := by decide +kernel
def kX13_sayRank_85 (mc ms : Nat) (X : Nat → zV) (Q : zQt) : zT :=
  zj X 85 []
def kX13_sayRank_40 (mc ms : Nat) (X : Nat → zV) (Q : zQt) : zT :=
  zj X 40 [0, 1, 2, 3, 4]
def kX13_sayRank_23 (mc ms : Nat) (X : Nat → zV) (Q : zQt) : zT :=
  zli 4 <| zif (fun x => x ≤ 0) (zj X 40 [0, 1, 2, 3, 4]) <| zli 2 <| zif (fun x => x ≤ 0) (zj X 40 [0, 1, 2, 3, 4]) <| zla 0 <| zc (.int 48) <| zli 2 <| zii (fun x y => x + y) <| zcv mc ms 13 1 wX13_say <| kX13_sayRank_40 mc ms X Q
def kX13_sayRank_54 (mc ms : Nat) (X : Nat → zV) (Q : zQt) : zT :=
  zj X 54 [0, 1, 2, 3, 4]
def kX13_sayRank_51 (mc ms : Nat) (X : Nat → zV) (Q : zQt) : zT :=
  zcv mc ms 13 1 wX13_say <| kX13_sayRank_54 mc ms X Q
def aX13_sayRank_0 (mc ms : Nat) (X : Nat → zV) (Q : zQt) : zT :=
  zc (.int 0) <| zsi 2 <| zc (.int 0) <| zsi 3 <| zj X 4 [0, 1, 2, 3]
def aX13_sayRank_4 (mc ms : Nat) (X : Nat → zV) (Q : zQt) : zT :=
  zli 3 <| zc (.int 8) <| zic (fun x y => y ≤ x) (zli 2 <| zif (fun x => x ≤ 0) (zj X 85 []) <| zla 0 <| zc (.int 48) <| zli 2 <| zii (fun x y => x + y) <| zcv mc ms 13 1 wX13_say <| kX13_sayRank_85 mc ms X Q) <| zla 0 <| zgR 13 16 <| zc (.int 8) <| zli 1 <| zii (fun x y => x * y) <| zli 3 <| zii (fun x y => x + y) <| zal 1 <| zsiN 4 <| kX13_sayRank_23 mc ms X Q
def aX13_sayRank_40 (mc ms : Nat) (X : Nat → zV) (Q : zQt) : zT :=
  zli 4 <| zif (fun x => x ≤ 0) (zj X 54 [0, 1, 2, 3, 4]) <| zla 0 <| zli 4 <| zcs mc ms 1 wX13_letter <| kX13_sayRank_51 mc ms X Q
def aX13_sayRank_54 (mc ms : Nat) (X : Nat → zV) (Q : zQt) : zT :=
  zli 4 <| zif (fun x => x ≤ 0) (zli 2 <| zc (.int 1) <| zii (fun x y => x + y) <| zj X 66 [0, 1, 3]) <| zc (.int 0) <| zj X 66 [0, 1, 3]
def aX13_sayRank_66 (mc ms : Nat) (X : Nat → zV) (Q : zQt) : zT :=
  zsi 2 <| zinc 3 1 <| zj X 4 [0, 1, 2, 3]
def aX13_sayRank_85 (mc ms : Nat) (X : Nat → zV) (Q : zQt) : zT :=
  zrv Q
def lvX13_sayRank : Nat → List Nat := fun L => match L with
  | 0 => [0, 1]
  | 4 => [0, 1, 2, 3]
  | 40 => [0, 1, 2, 3, 4]
  | 54 => [0, 1, 2, 3, 4]
  | 66 => [0, 1, 3]
  | 85 => []
  | _ => []
def wX13_sayRank : zSp := fun mc ms av M Q => ((zlay av).length ≤ 5 ∧ zpick (zlay av) [0, 1] = some av) ∧ ∀ X : Nat → zV, zin 5 [0, 1] (aX13_sayRank_0 mc ms X Q) X 0 → zin 5 [0, 1, 2, 3] (aX13_sayRank_4 mc ms X Q) X 4 → zin 5 [0, 1, 2, 3, 4] (aX13_sayRank_40 mc ms X Q) X 40 → zin 5 [0, 1, 2, 3, 4] (aX13_sayRank_54 mc ms X Q) X 54 → zin 5 [0, 1, 3] (aX13_sayRank_66 mc ms X Q) X 66 → zin 5 [] (aX13_sayRank_85 mc ms X Q) X 85 → X 0 0 0 av [] M
set_option maxRecDepth 100000 in
set_option maxHeartbeats 4000000 in
theorem sX13_sayRank (l : Launch) (G : zG) : zSnd l G yX13_sayRank cX13_sayRank 5 none 2 42 wX13_sayRank := by
  refine zmk [0, 1] (by decide) (fun mc ms av M Q h => h.1) ?_
  intro p e R s m args below meth c mc ms av M Q hC hRf hRl hr hnm h lv hlv
  obtain ⟨X, hXe⟩ : ∃ X : Nat → zV, X = fun L u v vs st M => ∀ lv, zpick lv (lvX13_sayRank L) = some vs → zAt p l e R s m args below meth c (MQ below (zQ G Q) args s mc ms (zA G)) G 5 L u v lv st M := ⟨_, rfl⟩
  have hJ : ∀ L, zOk p l e R s m args below meth c (MQ below (zQ G Q) args s mc ms (zA G)) G 5 L (zj X L (lvX13_sayRank L)) := fun L => S_jump (fun u v lv vs st M hp hx => by rw [hXe] at hx; exact hx lv hp)
  have hB0 : zin 5 [0, 1] (aX13_sayRank_0 mc ms X Q) X 0 := by
    intro u v vs st M hb
    rw [hXe]
    refine fun lv hp => S_block (L := 0) (live := [0, 1]) ?_ u v lv vs st M hp hb
    unfold aX13_sayRank_0
    refine S_iconst (pc := 0) hC dX13_sayRank_0 (by decide) ?_
    refine S_istore_n (pc := 1) hC dX13_sayRank_1 rfl (by decide) ?_
    refine S_iconst (pc := 2) hC dX13_sayRank_2 (by decide) ?_
    refine S_istore_n (pc := 3) hC dX13_sayRank_3 rfl (by decide) ?_
    exact hJ 4
  have hB4 : zin 5 [0, 1, 2, 3] (aX13_sayRank_4 mc ms X Q) X 4 := by
    intro u v vs st M hb
    rw [hXe]
    refine fun lv hp => S_block (L := 4) (live := [0, 1, 2, 3]) ?_ u v lv vs st M hp hb
    unfold aX13_sayRank_4
    refine S_iload_n (pc := 4) hC dX13_sayRank_4 rfl ?_
    refine S_bipush (pc := 5) hC dX13_sayRank_5 (by decide) ?_
    refine S_icmp_ge (pc := 7) (tgt := 73) hC dX13_sayRank_7 (by decide) ?_ ?_
    · refine S_iload_n (pc := 73) hC dX13_sayRank_73 rfl ?_
      refine S_if_le (pc := 74) (tgt := 85) hC dX13_sayRank_74 (by decide) ?_ ?_
      · exact hJ 85
      · refine S_aload_n (pc := 77) hC dX13_sayRank_77 rfl ?_
        refine S_bipush (pc := 78) hC dX13_sayRank_78 (by decide) ?_
        refine S_iload_n (pc := 80) hC dX13_sayRank_80 rfl ?_
        refine S_iadd (pc := 81) hC dX13_sayRank_81 ?_
        refine S_callV (pc := 82) hC (sX13_say l G) rfl wd_1553 wd_1555 ws_95 wd_12 wd_1556 (by decide +kernel) ⟨by rw [hRf]; decide, by rw [hRl]; decide⟩ dX13_sayRank_82 ?_
        unfold kX13_sayRank_85
        exact hJ 85
    · refine S_aload_n (pc := 10) hC dX13_sayRank_10 rfl ?_
      refine S_getR (pc := 11) hC cfX13 (by decide) (Or.inr ⟨_, rfl⟩) wd_1271 dX13_sayRank_11 ?_
      refine S_bipush (pc := 14) hC dX13_sayRank_14 (by decide) ?_
      refine S_iload_n (pc := 16) hC dX13_sayRank_16 rfl ?_
      refine S_imul (pc := 17) hC dX13_sayRank_17 ?_
      refine S_iload_n (pc := 18) hC dX13_sayRank_18 rfl ?_
      refine S_iadd (pc := 19) hC dX13_sayRank_19 ?_
      refine S_iaload (pc := 20) hC dX13_sayRank_20 ?_
      refine S_istore_N (pc := 21) hC dX13_sayRank_21 (by decide) ?_
      unfold kX13_sayRank_23
      refine S_iload (pc := 23) hC dX13_sayRank_23 ?_
      refine S_if_le (pc := 25) (tgt := 40) hC dX13_sayRank_25 (by decide) ?_ ?_
      · exact hJ 40
      · refine S_iload_n (pc := 28) hC dX13_sayRank_28 rfl ?_
        refine S_if_le (pc := 29) (tgt := 40) hC dX13_sayRank_29 (by decide) ?_ ?_
        · exact hJ 40
        · refine S_aload_n (pc := 32) hC dX13_sayRank_32 rfl ?_
          refine S_bipush (pc := 33) hC dX13_sayRank_33 (by decide) ?_
          refine S_iload_n (pc := 35) hC dX13_sayRank_35 rfl ?_
          refine S_iadd (pc := 36) hC dX13_sayRank_36 ?_
          refine S_callV (pc := 37) hC (sX13_say l G) rfl wd_1553 wd_1555 ws_95 wd_12 wd_1556 (by decide +kernel) ⟨by rw [hRf]; decide, by rw [hRl]; decide⟩ dX13_sayRank_37 ?_
          unfold kX13_sayRank_40
          exact hJ 40
  have hB40 : zin 5 [0, 1, 2, 3, 4] (aX13_sayRank_40 mc ms X Q) X 40 := by
    intro u v vs st M hb
    rw [hXe]
    refine fun lv hp => S_block (L := 40) (live := [0, 1, 2, 3, 4]) ?_ u v lv vs st M hp hb
    unfold aX13_sayRank_40
    refine S_iload (pc := 40) hC dX13_sayRank_40 ?_
    refine S_if_le (pc := 42) (tgt := 54) hC dX13_sayRank_42 (by decide) ?_ ?_
    · exact hJ 54
    · refine S_aload_n (pc := 45) hC dX13_sayRank_45 rfl ?_
      refine S_iload (pc := 46) hC dX13_sayRank_46 ?_
      refine S_callS (pc := 48) hC (sX13_letter l G) wd_1373 wd_1374 wd_12 wd_1375 (by decide +kernel) ⟨by rw [hRf]; decide, by rw [hRl]; decide⟩ dX13_sayRank_48 ?_
      unfold kX13_sayRank_51
      refine S_callV (pc := 51) hC (sX13_say l G) rfl wd_1553 wd_1555 ws_95 wd_12 wd_1556 (by decide +kernel) ⟨by rw [hRf]; decide, by rw [hRl]; decide⟩ dX13_sayRank_51 ?_
      unfold kX13_sayRank_54
      exact hJ 54
  have hB54 : zin 5 [0, 1, 2, 3, 4] (aX13_sayRank_54 mc ms X Q) X 54 := by
    intro u v vs st M hb
    rw [hXe]
    refine fun lv hp => S_block (L := 54) (live := [0, 1, 2, 3, 4]) ?_ u v lv vs st M hp hb
    unfold aX13_sayRank_54
    refine S_iload (pc := 54) hC dX13_sayRank_54 ?_
    refine S_if_le (pc := 56) (tgt := 63) hC dX13_sayRank_56 (by decide) ?_ ?_
    · refine S_iload_n (pc := 63) hC dX13_sayRank_63 rfl ?_
      refine S_iconst (pc := 64) hC dX13_sayRank_64 (by decide) ?_
      refine S_iadd (pc := 65) hC dX13_sayRank_65 ?_
      exact hJ 66
    · refine S_iconst (pc := 59) hC dX13_sayRank_59 (by decide) ?_
      refine S_goto (pc := 60) (tgt := 66) hC dX13_sayRank_60 (by decide) ?_
      exact hJ 66
  have hB66 : zin 5 [0, 1, 3] (aX13_sayRank_66 mc ms X Q) X 66 := by
    intro u v vs st M hb
    rw [hXe]
    refine fun lv hp => S_block (L := 66) (live := [0, 1, 3]) ?_ u v lv vs st M hp hb
    unfold aX13_sayRank_66
    refine S_istore_n (pc := 66) hC dX13_sayRank_66 rfl (by decide) ?_
    refine S_iinc (pc := 67) hC dX13_sayRank_67 (by decide) (by decide) ?_
    refine S_goto (pc := 70) (tgt := 4) hC dX13_sayRank_70 (by decide) ?_
    exact hJ 4
  have hB85 : zin 5 [] (aX13_sayRank_85 mc ms X Q) X 85 := by
    intro u v vs st M hb
    rw [hXe]
    refine fun lv hp => S_block (L := 85) (live := []) ?_ u v lv vs st M hp hb
    unfold aX13_sayRank_85
    exact S_vreturn (pc := 85) hC hr dX13_sayRank_85
  have := h.2 X hB0 hB4 hB40 hB54 hB66 hB85
  rw [hXe] at this
  exact this lv hlv
theorem vX13_sayRank_0 {mc ms : Nat} {X : Nat → zV} {Q : zQt} {M : zM} {x1 : Int32} (hW : zFix M)  (h : X 4 0 0 [.ref 55, .int x1, .int 0, .int 0] [] M) : aX13_sayRank_0 mc ms X Q 0 0 [some (.ref 55), some (.int x1), none, none, none] [] M := h
theorem vcX13_sayRank_23 {mc ms : Nat} {X : Nat → zV} {Q : zQt} {M : zM} {x1 : Int32} {x2 : Int32} {x3 : Int32} {x4 : Int32} (hW : zFix M)  (h : (x4 ≤ 0 → X 40 0 0 [.ref 55, .int x1, .int x2, .int x3, .int x4] [] M) ∧ (¬ x4 ≤ 0 → (x2 ≤ 0 → X 40 0 0 [.ref 55, .int x1, .int x2, .int x3, .int x4] [] M) ∧ (¬ x2 ≤ 0 → wX13_say 0 0 [.ref 55, .int ((48 : Int32) + x2)] M (fun r M1 => kX13_sayRank_40 mc ms X Q 0 0 [some (.ref 55), some (.int x1), some (.int x2), some (.int x3), some (.int x4)] (r.toList ++ []) M1)))) : kX13_sayRank_23 mc ms X Q 0 0 [some (.ref 55), some (.int x1), some (.int x2), some (.int x3), some (.int x4)] [] M := ⟨fun c25 => (h.1 c25), fun c25 => ⟨fun c29 => ((h.2 c25).1 c29), fun c29 => ⟨Nat.le_of_ble_eq_true rfl, rfl, (fxs_55 hW), 0, 0, Nat.zero_le _, Nat.zero_le _, ((h.2 c25).2 c29)⟩⟩⟩
theorem vX13_sayRank_4 {mc ms : Nat} {X : Nat → zV} {Q : zQt} {M : zM} {x1 : Int32} {x2 : Int32} {x3 : Int32} (hW : zFix M)  (h : ((8 : Int32) ≤ x3 → (x2 ≤ 0 → X 85 0 0 [] [] M) ∧ (¬ x2 ≤ 0 → wX13_say 0 0 [.ref 55, .int ((48 : Int32) + x2)] M (fun r M1 => kX13_sayRank_85 mc ms X Q 0 0 [some (.ref 55), some (.int x1), some (.int x2), some (.int x3), none] (r.toList ++ []) M1))) ∧ (¬ (8 : Int32) ≤ x3 → vp_in ((((8 : Int32) * x1) + x3)) 414 ∧ ∀ y21 : Int32, y21 = ((M : zM).1 65 ((((8 : Int32) * x1) + x3) : Int32).toNatClampNeg) → (y21 ≤ 0 → X 40 0 0 [.ref 55, .int x1, .int x2, .int x3, .int y21] [] M) ∧ (¬ y21 ≤ 0 → (x2 ≤ 0 → X 40 0 0 [.ref 55, .int x1, .int x2, .int x3, .int y21] [] M) ∧ (¬ x2 ≤ 0 → wX13_say 0 0 [.ref 55, .int ((48 : Int32) + x2)] M (fun r M1 => kX13_sayRank_40 mc ms X Q 0 0 [some (.ref 55), some (.int x1), some (.int x2), some (.int x3), some (.int y21)] (r.toList ++ []) M1))))) : aX13_sayRank_4 mc ms X Q 0 0 [some (.ref 55), some (.int x1), some (.int x2), some (.int x3), none] [] M := ⟨fun c7 => ⟨fun c74 => ((h.1 c7).1 c74), fun c74 => ⟨Nat.le_of_ble_eq_true rfl, rfl, (fxs_55 hW), 0, 0, Nat.zero_le _, Nat.zero_le _, ((h.1 c7).2 c74)⟩⟩, fun c7 => ⟨(fxs_55 hW), 65, (fxr_55_16 hW), ⟨414, (fxs_65 hW), (h.2 c7).1, (fun y21 e21 => have h21 := (h.2 c7).2 y21 e21; (vcX13_sayRank_23 hW  h21))⟩⟩⟩
theorem vX13_sayRank_40 {mc ms : Nat} {X : Nat → zV} {Q : zQt} {M : zM} {x1 : Int32} {x2 : Int32} {x3 : Int32} {x4 : Int32} (hW : zFix M)  (h : (x4 ≤ 0 → X 54 0 0 [.ref 55, .int x1, .int x2, .int x3, .int x4] [] M) ∧ (¬ x4 ≤ 0 → wX13_letter 0 0 [.int x4] M (fun r M1 => kX13_sayRank_51 mc ms X Q 0 0 [some (.ref 55), some (.int x1), some (.int x2), some (.int x3), some (.int x4)] (r.toList ++ [.ref 55]) M1))) : aX13_sayRank_40 mc ms X Q 0 0 [some (.ref 55), some (.int x1), some (.int x2), some (.int x3), some (.int x4)] [] M := ⟨fun c42 => (h.1 c42), fun c42 => ⟨Nat.le_of_ble_eq_true rfl, rfl, 0, 0, Nat.zero_le _, Nat.zero_le _, (h.2 c42)⟩⟩
theorem vX13_sayRank_54 {mc ms : Nat} {X : Nat → zV} {Q : zQt} {M : zM} {x1 : Int32} {x2 : Int32} {x3 : Int32} {x4 : Int32} (hW : zFix M)  (h : (x4 ≤ 0 → X 66 0 0 [.ref 55, .int x1, .int x3] [.int (x2 + (1 : Int32))] M) ∧ (¬ x4 ≤ 0 → X 66 0 0 [.ref 55, .int x1, .int x3] [.int 0] M)) : aX13_sayRank_54 mc ms X Q 0 0 [some (.ref 55), some (.int x1), some (.int x2), some (.int x3), some (.int x4)] [] M := ⟨fun c56 => (h.1 c56), fun c56 => (h.2 c56)⟩
theorem vX13_sayRank_66 {mc ms : Nat} {X : Nat → zV} {Q : zQt} {M : zM} {x1 : Int32} {x3 : Int32} {s0 : Int32} (hW : zFix M)  (h : X 4 0 0 [.ref 55, .int x1, .int s0, .int (x3 + 1)] [] M) : aX13_sayRank_66 mc ms X Q 0 0 [some (.ref 55), some (.int x1), none, some (.int x3), none] [.int s0] M := h
theorem vX13_sayRank_85 {mc ms : Nat} {X : Nat → zV} {Q : zQt} {M : zM}  (hW : zFix M)  (h : Q none M) : aX13_sayRank_85 mc ms X Q 0 0 [none, none, none, none, none] [] M := h
theorem vkX13_sayRank_40 {mc ms : Nat} {X : Nat → zV} {Q : zQt} {M : zM} {x1 : Int32} {x2 : Int32} {x3 : Int32} {x4 : Int32} (hW : zFix M)  (h : X 40 0 0 [.ref 55, .int x1, .int x2, .int x3, .int x4] [] M) : kX13_sayRank_40 mc ms X Q 0 0 [some (.ref 55), some (.int x1), some (.int x2), some (.int x3), some (.int x4)] [] M := h
theorem vkX13_sayRank_51 {mc ms : Nat} {X : Nat → zV} {Q : zQt} {M : zM} {x1 : Int32} {x2 : Int32} {x3 : Int32} {x4 : Int32} {s0 : Int32} (hW : zFix M)  (h : wX13_say 0 0 [.ref 55, .int s0] M (fun r M1 => kX13_sayRank_54 mc ms X Q 0 0 [some (.ref 55), some (.int x1), some (.int x2), some (.int x3), some (.int x4)] (r.toList ++ []) M1)) : kX13_sayRank_51 mc ms X Q 0 0 [some (.ref 55), some (.int x1), some (.int x2), some (.int x3), some (.int x4)] [.int s0, .ref 55] M := ⟨Nat.le_of_ble_eq_true rfl, rfl, (fxs_55 hW), 0, 0, Nat.zero_le _, Nat.zero_le _, h⟩
theorem vkX13_sayRank_54 {mc ms : Nat} {X : Nat → zV} {Q : zQt} {M : zM} {x1 : Int32} {x2 : Int32} {x3 : Int32} {x4 : Int32} (hW : zFix M)  (h : X 54 0 0 [.ref 55, .int x1, .int x2, .int x3, .int x4] [] M) : kX13_sayRank_54 mc ms X Q 0 0 [some (.ref 55), some (.int x1), some (.int x2), some (.int x3), some (.int x4)] [] M := h
theorem vkX13_sayRank_85 {mc ms : Nat} {X : Nat → zV} {Q : zQt} {M : zM} {x1 : Int32} {x2 : Int32} {x3 : Int32} (hW : zFix M)  (h : X 85 0 0 [] [] M) : kX13_sayRank_85 mc ms X Q 0 0 [some (.ref 55), some (.int x1), some (.int x2), some (.int x3), none] [] M := h
theorem dX13_sayRecord_0 : decode cX13_sayRecord 0 = .ok (.aload_n 0, 1) := by decide +kernel
theorem dX13_sayRecord_1 : decode cX13_sayRecord 1 = .ok (.iconst 0, 1) := by decide +kernel
theorem dX13_sayRecord_2 : decode cX13_sayRecord 2 = .ok (.putfield 234, 3) := by decide +kernel
theorem dX13_sayRecord_5 : decode cX13_sayRecord 5 = .ok (.bipush 7, 2) := by decide +kernel
theorem dX13_sayRecord_7 : decode cX13_sayRecord 7 = .ok (.istore_n 1, 1) := by decide +kernel
theorem dX13_sayRecord_8 : decode cX13_sayRecord 8 = .ok (.iload_n 1, 1) := by decide +kernel
theorem dX13_sayRecord_9 : decode cX13_sayRecord 9 = .ok (.ifCond .lt 29, 3) := by decide +kernel
theorem dX13_sayRecord_12 : decode cX13_sayRecord 12 = .ok (.aload_n 0, 1) := by decide +kernel
theorem dX13_sayRecord_13 : decode cX13_sayRecord 13 = .ok (.iload_n 1, 1) := by decide +kernel
theorem dX13_sayRecord_14 : decode cX13_sayRecord 14 = .ok (.invokevirtual 305, 3) := by decide +kernel
theorem dX13_sayRecord_17 : decode cX13_sayRecord 17 = .ok (.aload_n 0, 1) := by decide +kernel
theorem dX13_sayRecord_18 : decode cX13_sayRecord 18 = .ok (.iload_n 1, 1) := by decide +kernel
theorem dX13_sayRecord_19 : decode cX13_sayRecord 19 = .ok (.ifCond .le 8, 3) := by decide +kernel
theorem dX13_sayRecord_22 : decode cX13_sayRecord 22 = .ok (.bipush 47, 2) := by decide +kernel
theorem dX13_sayRecord_24 : decode cX13_sayRecord 24 = .ok (.goto 5, 3) := by decide +kernel
theorem dX13_sayRecord_27 : decode cX13_sayRecord 27 = .ok (.bipush 32, 2) := by decide +kernel
theorem dX13_sayRecord_29 : decode cX13_sayRecord 29 = .ok (.invokevirtual 237, 3) := by decide +kernel
theorem dX13_sayRecord_32 : decode cX13_sayRecord 32 = .ok (.iinc 1 (-1), 3) := by decide +kernel
theorem dX13_sayRecord_35 : decode cX13_sayRecord 35 = .ok (.goto (-27), 3) := by decide +kernel
theorem dX13_sayRecord_38 : decode cX13_sayRecord 38 = .ok (.aload_n 0, 1) := by decide +kernel
theorem dX13_sayRecord_39 : decode cX13_sayRecord 39 = .ok (.aload_n 0, 1) := by decide +kernel
theorem dX13_sayRecord_40 : decode cX13_sayRecord 40 = .ok (.getfield 43, 3) := by decide +kernel
theorem dX13_sayRecord_43 : decode cX13_sayRecord 43 = .ok (.bipush 64, 2) := by decide +kernel
theorem dX13_sayRecord_45 : decode cX13_sayRecord 45 = .ok (.iaload, 1) := by decide +kernel
theorem dX13_sayRecord_46 : decode cX13_sayRecord 46 = .ok (.ifCond .ne 8, 3) := by decide +kernel
theorem dX13_sayRecord_49 : decode cX13_sayRecord 49 = .ok (.bipush 119, 2) := by decide +kernel
theorem dX13_sayRecord_51 : decode cX13_sayRecord 51 = .ok (.goto 5, 3) := by decide +kernel
theorem dX13_sayRecord_54 : decode cX13_sayRecord 54 = .ok (.bipush 98, 2) := by decide +kernel
theorem dX13_sayRecord_56 : decode cX13_sayRecord 56 = .ok (.invokevirtual 237, 3) := by decide +kernel
theorem dX13_sayRecord_59 : decode cX13_sayRecord 59 = .ok (.aload_n 0, 1) := by decide +kernel
theorem dX13_sayRecord_60 : decode cX13_sayRecord 60 = .ok (.bipush 32, 2) := by decide +kernel
theorem dX13_sayRecord_62 : decode cX13_sayRecord 62 = .ok (.invokevirtual 237, 3) := by decide +kernel
theorem dX13_sayRecord_65 : decode cX13_sayRecord 65 = .ok (.iconst 0, 1) := by decide +kernel
theorem dX13_sayRecord_66 : decode cX13_sayRecord 66 = .ok (.istore_n 1, 1) := by decide +kernel
theorem dX13_sayRecord_67 : decode cX13_sayRecord 67 = .ok (.iload_n 1, 1) := by decide +kernel
theorem dX13_sayRecord_68 : decode cX13_sayRecord 68 = .ok (.iconst 4, 1) := by decide +kernel
theorem dX13_sayRecord_69 : decode cX13_sayRecord 69 = .ok (.if_icmp .ge 59, 3) := by decide +kernel
theorem dX13_sayRecord_72 : decode cX13_sayRecord 72 = .ok (.aload_n 0, 1) := by decide +kernel
theorem dX13_sayRecord_73 : decode cX13_sayRecord 73 = .ok (.getfield 43, 3) := by decide +kernel
theorem dX13_sayRecord_76 : decode cX13_sayRecord 76 = .ok (.bipush 65, 2) := by decide +kernel
theorem dX13_sayRecord_78 : decode cX13_sayRecord 78 = .ok (.iaload, 1) := by decide +kernel
theorem dX13_sayRecord_79 : decode cX13_sayRecord 79 = .ok (.iload_n 1, 1) := by decide +kernel
theorem dX13_sayRecord_80 : decode cX13_sayRecord 80 = .ok (.ishr, 1) := by decide +kernel
theorem dX13_sayRecord_81 : decode cX13_sayRecord 81 = .ok (.iconst 1, 1) := by decide +kernel
theorem dX13_sayRecord_82 : decode cX13_sayRecord 82 = .ok (.iand, 1) := by decide +kernel
theorem dX13_sayRecord_83 : decode cX13_sayRecord 83 = .ok (.iconst 1, 1) := by decide +kernel
theorem dX13_sayRecord_84 : decode cX13_sayRecord 84 = .ok (.if_icmp .ne 38, 3) := by decide +kernel
theorem dX13_sayRecord_87 : decode cX13_sayRecord 87 = .ok (.aload_n 0, 1) := by decide +kernel
theorem dX13_sayRecord_88 : decode cX13_sayRecord 88 = .ok (.iload_n 1, 1) := by decide +kernel
theorem dX13_sayRecord_89 : decode cX13_sayRecord 89 = .ok (.ifCond .ne 8, 3) := by decide +kernel
theorem dX13_sayRecord_92 : decode cX13_sayRecord 92 = .ok (.bipush 75, 2) := by decide +kernel
theorem dX13_sayRecord_94 : decode cX13_sayRecord 94 = .ok (.goto 25, 3) := by decide +kernel
theorem dX13_sayRecord_97 : decode cX13_sayRecord 97 = .ok (.iload_n 1, 1) := by decide +kernel
theorem dX13_sayRecord_98 : decode cX13_sayRecord 98 = .ok (.iconst 1, 1) := by decide +kernel
theorem dX13_sayRecord_99 : decode cX13_sayRecord 99 = .ok (.if_icmp .ne 8, 3) := by decide +kernel
theorem dX13_sayRecord_102 : decode cX13_sayRecord 102 = .ok (.bipush 81, 2) := by decide +kernel
theorem dX13_sayRecord_104 : decode cX13_sayRecord 104 = .ok (.goto 15, 3) := by decide +kernel
theorem dX13_sayRecord_107 : decode cX13_sayRecord 107 = .ok (.iload_n 1, 1) := by decide +kernel
theorem dX13_sayRecord_108 : decode cX13_sayRecord 108 = .ok (.iconst 2, 1) := by decide +kernel
theorem dX13_sayRecord_109 : decode cX13_sayRecord 109 = .ok (.if_icmp .ne 8, 3) := by decide +kernel
theorem dX13_sayRecord_112 : decode cX13_sayRecord 112 = .ok (.bipush 107, 2) := by decide +kernel
theorem dX13_sayRecord_114 : decode cX13_sayRecord 114 = .ok (.goto 5, 3) := by decide +kernel
theorem dX13_sayRecord_117 : decode cX13_sayRecord 117 = .ok (.bipush 113, 2) := by decide +kernel
theorem dX13_sayRecord_119 : decode cX13_sayRecord 119 = .ok (.invokevirtual 237, 3) := by decide +kernel
theorem dX13_sayRecord_122 : decode cX13_sayRecord 122 = .ok (.iinc 1 1, 3) := by decide +kernel
theorem dX13_sayRecord_125 : decode cX13_sayRecord 125 = .ok (.goto (-58), 3) := by decide +kernel
theorem dX13_sayRecord_128 : decode cX13_sayRecord 128 = .ok (.aload_n 0, 1) := by decide +kernel
theorem dX13_sayRecord_129 : decode cX13_sayRecord 129 = .ok (.getfield 43, 3) := by decide +kernel
theorem dX13_sayRecord_132 : decode cX13_sayRecord 132 = .ok (.bipush 65, 2) := by decide +kernel
theorem dX13_sayRecord_134 : decode cX13_sayRecord 134 = .ok (.iaload, 1) := by decide +kernel
theorem dX13_sayRecord_135 : decode cX13_sayRecord 135 = .ok (.ifCond .ne 9, 3) := by decide +kernel
theorem dX13_sayRecord_138 : decode cX13_sayRecord 138 = .ok (.aload_n 0, 1) := by decide +kernel
theorem dX13_sayRecord_139 : decode cX13_sayRecord 139 = .ok (.bipush 45, 2) := by decide +kernel
theorem dX13_sayRecord_141 : decode cX13_sayRecord 141 = .ok (.invokevirtual 237, 3) := by decide +kernel
theorem dX13_sayRecord_144 : decode cX13_sayRecord 144 = .ok (.aload_n 0, 1) := by decide +kernel
theorem dX13_sayRecord_145 : decode cX13_sayRecord 145 = .ok (.bipush 32, 2) := by decide +kernel
theorem dX13_sayRecord_147 : decode cX13_sayRecord 147 = .ok (.invokevirtual 237, 3) := by decide +kernel
theorem dX13_sayRecord_150 : decode cX13_sayRecord 150 = .ok (.aload_n 0, 1) := by decide +kernel
theorem dX13_sayRecord_151 : decode cX13_sayRecord 151 = .ok (.getfield 43, 3) := by decide +kernel
theorem dX13_sayRecord_154 : decode cX13_sayRecord 154 = .ok (.bipush 66, 2) := by decide +kernel
theorem dX13_sayRecord_156 : decode cX13_sayRecord 156 = .ok (.iaload, 1) := by decide +kernel
theorem dX13_sayRecord_157 : decode cX13_sayRecord 157 = .ok (.ifCond .ge 12, 3) := by decide +kernel
theorem dX13_sayRecord_160 : decode cX13_sayRecord 160 = .ok (.aload_n 0, 1) := by decide +kernel
theorem dX13_sayRecord_161 : decode cX13_sayRecord 161 = .ok (.bipush 45, 2) := by decide +kernel
theorem dX13_sayRecord_163 : decode cX13_sayRecord 163 = .ok (.invokevirtual 237, 3) := by decide +kernel
theorem dX13_sayRecord_166 : decode cX13_sayRecord 166 = .ok (.goto 38, 3) := by decide +kernel
theorem dX13_sayRecord_169 : decode cX13_sayRecord 169 = .ok (.aload_n 0, 1) := by decide +kernel
theorem dX13_sayRecord_170 : decode cX13_sayRecord 170 = .ok (.bipush 97, 2) := by decide +kernel
theorem dX13_sayRecord_172 : decode cX13_sayRecord 172 = .ok (.aload_n 0, 1) := by decide +kernel
theorem dX13_sayRecord_173 : decode cX13_sayRecord 173 = .ok (.getfield 43, 3) := by decide +kernel
theorem dX13_sayRecord_176 : decode cX13_sayRecord 176 = .ok (.bipush 66, 2) := by decide +kernel
theorem dX13_sayRecord_178 : decode cX13_sayRecord 178 = .ok (.iaload, 1) := by decide +kernel
theorem dX13_sayRecord_179 : decode cX13_sayRecord 179 = .ok (.iadd, 1) := by decide +kernel
theorem dX13_sayRecord_180 : decode cX13_sayRecord 180 = .ok (.invokevirtual 237, 3) := by decide +kernel
theorem dX13_sayRecord_183 : decode cX13_sayRecord 183 = .ok (.aload_n 0, 1) := by decide +kernel
theorem dX13_sayRecord_184 : decode cX13_sayRecord 184 = .ok (.aload_n 0, 1) := by decide +kernel
theorem dX13_sayRecord_185 : decode cX13_sayRecord 185 = .ok (.getfield 43, 3) := by decide +kernel
theorem dX13_sayRecord_188 : decode cX13_sayRecord 188 = .ok (.bipush 64, 2) := by decide +kernel
theorem dX13_sayRecord_190 : decode cX13_sayRecord 190 = .ok (.iaload, 1) := by decide +kernel
theorem dX13_sayRecord_191 : decode cX13_sayRecord 191 = .ok (.ifCond .ne 8, 3) := by decide +kernel
theorem dX13_sayRecord_194 : decode cX13_sayRecord 194 = .ok (.bipush 54, 2) := by decide +kernel
theorem dX13_sayRecord_196 : decode cX13_sayRecord 196 = .ok (.goto 5, 3) := by decide +kernel
theorem dX13_sayRecord_199 : decode cX13_sayRecord 199 = .ok (.bipush 51, 2) := by decide +kernel
theorem dX13_sayRecord_201 : decode cX13_sayRecord 201 = .ok (.invokevirtual 237, 3) := by decide +kernel
theorem dX13_sayRecord_204 : decode cX13_sayRecord 204 = .ok (.aload_n 0, 1) := by decide +kernel
theorem dX13_sayRecord_205 : decode cX13_sayRecord 205 = .ok (.bipush 32, 2) := by decide +kernel
theorem dX13_sayRecord_207 : decode cX13_sayRecord 207 = .ok (.invokevirtual 237, 3) := by decide +kernel
theorem dX13_sayRecord_210 : decode cX13_sayRecord 210 = .ok (.aload_n 0, 1) := by decide +kernel
theorem dX13_sayRecord_211 : decode cX13_sayRecord 211 = .ok (.aload_n 0, 1) := by decide +kernel
theorem dX13_sayRecord_212 : decode cX13_sayRecord 212 = .ok (.getfield 43, 3) := by decide +kernel
theorem dX13_sayRecord_215 : decode cX13_sayRecord 215 = .ok (.bipush 67, 2) := by decide +kernel
theorem dX13_sayRecord_217 : decode cX13_sayRecord 217 = .ok (.iaload, 1) := by decide +kernel
theorem dX13_sayRecord_218 : decode cX13_sayRecord 218 = .ok (.invokevirtual 308, 3) := by decide +kernel
theorem dX13_sayRecord_221 : decode cX13_sayRecord 221 = .ok (.aload_n 0, 1) := by decide +kernel
theorem dX13_sayRecord_222 : decode cX13_sayRecord 222 = .ok (.bipush 32, 2) := by decide +kernel
theorem dX13_sayRecord_224 : decode cX13_sayRecord 224 = .ok (.invokevirtual 237, 3) := by decide +kernel
theorem dX13_sayRecord_227 : decode cX13_sayRecord 227 = .ok (.aload_n 0, 1) := by decide +kernel
theorem dX13_sayRecord_228 : decode cX13_sayRecord 228 = .ok (.aload_n 0, 1) := by decide +kernel
theorem dX13_sayRecord_229 : decode cX13_sayRecord 229 = .ok (.getfield 43, 3) := by decide +kernel
theorem dX13_sayRecord_232 : decode cX13_sayRecord 232 = .ok (.bipush 68, 2) := by decide +kernel
theorem dX13_sayRecord_234 : decode cX13_sayRecord 234 = .ok (.iaload, 1) := by decide +kernel
theorem dX13_sayRecord_235 : decode cX13_sayRecord 235 = .ok (.invokevirtual 308, 3) := by decide +kernel
theorem dX13_sayRecord_238 : decode cX13_sayRecord 238 = .ok (.return_, 1) := by decide +kernel
def kX13_sayRecord_17 (mc ms : Nat) (X : Nat → zV) (Q : zQt) : zT :=
  zla 0 <| zli 1 <| zif (fun x => x ≤ 0) (zc (.int 32) <| zj X 29 [0, 1]) <| zc (.int 47) <| zj X 29 [0, 1]
def kX13_sayRecord_32 (mc ms : Nat) (X : Nat → zV) (Q : zQt) : zT :=
  zinc 1 (-1) <| zj X 8 [0, 1]
def kX13_sayRecord_65 (mc ms : Nat) (X : Nat → zV) (Q : zQt) : zT :=
  zc (.int 0) <| zsi 1 <| zj X 67 [0, 1]
def kX13_sayRecord_59 (mc ms : Nat) (X : Nat → zV) (Q : zQt) : zT :=
  zla 0 <| zc (.int 32) <| zcv mc ms 13 1 wX13_say <| kX13_sayRecord_65 mc ms X Q
def kX13_sayRecord_144 (mc ms : Nat) (X : Nat → zV) (Q : zQt) : zT :=
  zj X 144 [0]
def kX13_sayRecord_122 (mc ms : Nat) (X : Nat → zV) (Q : zQt) : zT :=
  zj X 122 [0, 1]
def kX13_sayRecord_183 (mc ms : Nat) (X : Nat → zV) (Q : zQt) : zT :=
  zla 0 <| zla 0 <| zgR 13 16 <| zc (.int 64) <| zal 1 <| zif (fun x => x = 0) (zc (.int 54) <| zj X 201 [0]) <| zc (.int 51) <| zj X 201 [0]
def kX13_sayRecord_166 (mc ms : Nat) (X : Nat → zV) (Q : zQt) : zT :=
  zj X 204 [0]
def kX13_sayRecord_150 (mc ms : Nat) (X : Nat → zV) (Q : zQt) : zT :=
  zla 0 <| zgR 13 16 <| zc (.int 66) <| zal 1 <| zif (fun x => 0 ≤ x) (zla 0 <| zc (.int 97) <| zla 0 <| zgR 13 16 <| zc (.int 66) <| zal 1 <| zii (fun x y => x + y) <| zcv mc ms 13 1 wX13_say <| kX13_sayRecord_183 mc ms X Q) <| zla 0 <| zc (.int 45) <| zcv mc ms 13 1 wX13_say <| kX13_sayRecord_166 mc ms X Q
def kX13_sayRecord_204 (mc ms : Nat) (X : Nat → zV) (Q : zQt) : zT :=
  zj X 204 [0]
def kX13_sayRecord_238 (mc ms : Nat) (X : Nat → zV) (Q : zQt) : zT :=
  zrv Q
def kX13_sayRecord_227 (mc ms : Nat) (X : Nat → zV) (Q : zQt) : zT :=
  zla 0 <| zla 0 <| zgR 13 16 <| zc (.int 68) <| zal 1 <| zcv mc ms 13 1 wX13_sayNumber <| kX13_sayRecord_238 mc ms X Q
def kX13_sayRecord_221 (mc ms : Nat) (X : Nat → zV) (Q : zQt) : zT :=
  zla 0 <| zc (.int 32) <| zcv mc ms 13 1 wX13_say <| kX13_sayRecord_227 mc ms X Q
def kX13_sayRecord_210 (mc ms : Nat) (X : Nat → zV) (Q : zQt) : zT :=
  zla 0 <| zla 0 <| zgR 13 16 <| zc (.int 67) <| zal 1 <| zcv mc ms 13 1 wX13_sayNumber <| kX13_sayRecord_221 mc ms X Q
def aX13_sayRecord_0 (mc ms : Nat) (X : Nat → zV) (Q : zQt) : zT :=
  zla 0 <| zc (.int 0) <| zpi 13 24 <| zc (.int 7) <| zsi 1 <| zj X 8 [0, 1]
def aX13_sayRecord_8 (mc ms : Nat) (X : Nat → zV) (Q : zQt) : zT :=
  zli 1 <| zif (fun x => x < 0) (zla 0 <| zla 0 <| zgR 13 16 <| zc (.int 64) <| zal 1 <| zif (fun x => x = 0) (zc (.int 119) <| zj X 56 [0]) <| zc (.int 98) <| zj X 56 [0]) <| zla 0 <| zli 1 <| zcv mc ms 13 1 wX13_sayRank <| kX13_sayRecord_17 mc ms X Q
def aX13_sayRecord_29 (mc ms : Nat) (X : Nat → zV) (Q : zQt) : zT :=
  zcv mc ms 13 1 wX13_say <| kX13_sayRecord_32 mc ms X Q
def aX13_sayRecord_56 (mc ms : Nat) (X : Nat → zV) (Q : zQt) : zT :=
  zcv mc ms 13 1 wX13_say <| kX13_sayRecord_59 mc ms X Q
def aX13_sayRecord_67 (mc ms : Nat) (X : Nat → zV) (Q : zQt) : zT :=
  zli 1 <| zc (.int 4) <| zic (fun x y => y ≤ x) (zla 0 <| zgR 13 16 <| zc (.int 65) <| zal 1 <| zif (fun x => x = 0) (zla 0 <| zc (.int 45) <| zcv mc ms 13 1 wX13_say <| kX13_sayRecord_144 mc ms X Q) <| zj X 144 [0]) <| zla 0 <| zgR 13 16 <| zc (.int 65) <| zal 1 <| zli 1 <| zii (fun x y => x >>> (y &&& 31)) <| zc (.int 1) <| zii (fun x y => x &&& y) <| zc (.int 1) <| zic (fun x y => x = y) (zla 0 <| zli 1 <| zif (fun x => x = 0) (zc (.int 75) <| zj X 119 [0, 1]) <| zli 1 <| zc (.int 1) <| zic (fun x y => x = y) (zc (.int 81) <| zj X 119 [0, 1]) <| zli 1 <| zc (.int 2) <| zic (fun x y => x = y) (zc (.int 107) <| zj X 119 [0, 1]) <| zc (.int 113) <| zj X 119 [0, 1]) <| zj X 122 [0, 1]
def aX13_sayRecord_119 (mc ms : Nat) (X : Nat → zV) (Q : zQt) : zT :=
  zcv mc ms 13 1 wX13_say <| kX13_sayRecord_122 mc ms X Q
def aX13_sayRecord_122 (mc ms : Nat) (X : Nat → zV) (Q : zQt) : zT :=
  zinc 1 1 <| zj X 67 [0, 1]
def aX13_sayRecord_144 (mc ms : Nat) (X : Nat → zV) (Q : zQt) : zT :=
  zla 0 <| zc (.int 32) <| zcv mc ms 13 1 wX13_say <| kX13_sayRecord_150 mc ms X Q
def aX13_sayRecord_201 (mc ms : Nat) (X : Nat → zV) (Q : zQt) : zT :=
  zcv mc ms 13 1 wX13_say <| kX13_sayRecord_204 mc ms X Q
def aX13_sayRecord_204 (mc ms : Nat) (X : Nat → zV) (Q : zQt) : zT :=
  zla 0 <| zc (.int 32) <| zcv mc ms 13 1 wX13_say <| kX13_sayRecord_210 mc ms X Q
def lvX13_sayRecord : Nat → List Nat := fun L => match L with
  | 0 => [0]
  | 8 => [0, 1]
  | 29 => [0, 1]
  | 56 => [0]
  | 67 => [0, 1]
  | 119 => [0, 1]
  | 122 => [0, 1]
  | 144 => [0]
  | 201 => [0]
  | 204 => [0]
  | _ => []
def wX13_sayRecord : zSp := fun mc ms av M Q => ((zlay av).length ≤ 2 ∧ zpick (zlay av) [0] = some av) ∧ ∀ X : Nat → zV, zin 2 [0] (aX13_sayRecord_0 mc ms X Q) X 0 → zin 2 [0, 1] (aX13_sayRecord_8 mc ms X Q) X 8 → zin 2 [0, 1] (aX13_sayRecord_29 mc ms X Q) X 29 → zin 2 [0] (aX13_sayRecord_56 mc ms X Q) X 56 → zin 2 [0, 1] (aX13_sayRecord_67 mc ms X Q) X 67 → zin 2 [0, 1] (aX13_sayRecord_119 mc ms X Q) X 119 → zin 2 [0, 1] (aX13_sayRecord_122 mc ms X Q) X 122 → zin 2 [0] (aX13_sayRecord_144 mc ms X Q) X 144 → zin 2 [0] (aX13_sayRecord_201 mc ms X Q) X 201 → zin 2 [0] (aX13_sayRecord_204 mc ms X Q) X 204 → X 0 0 0 av [] M
set_option maxRecDepth 100000 in
set_option maxHeartbeats 4000000 in
theorem sX13_sayRecord (l : Launch) (G : zG) : zSnd l G yX13_sayRecord cX13_sayRecord 2 none 3 66 wX13_sayRecord := by
  refine zmk [0] (by decide) (fun mc ms av M Q h => h.1) ?_
  intro p e R s m args below meth c mc ms av M Q hC hRf hRl hr hnm h lv hlv
  obtain ⟨X, hXe⟩ : ∃ X : Nat → zV, X = fun L u v vs st M => ∀ lv, zpick lv (lvX13_sayRecord L) = some vs → zAt p l e R s m args below meth c (MQ below (zQ G Q) args s mc ms (zA G)) G 2 L u v lv st M := ⟨_, rfl⟩
  have hJ : ∀ L, zOk p l e R s m args below meth c (MQ below (zQ G Q) args s mc ms (zA G)) G 2 L (zj X L (lvX13_sayRecord L)) := fun L => S_jump (fun u v lv vs st M hp hx => by rw [hXe] at hx; exact hx lv hp)
  have hB0 : zin 2 [0] (aX13_sayRecord_0 mc ms X Q) X 0 := by
    intro u v vs st M hb
    rw [hXe]
    refine fun lv hp => S_block (L := 0) (live := [0]) ?_ u v lv vs st M hp hb
    unfold aX13_sayRecord_0
    refine S_aload_n (pc := 0) hC dX13_sayRecord_0 rfl ?_
    refine S_iconst (pc := 1) hC dX13_sayRecord_1 (by decide) ?_
    refine S_puti (pc := 2) hC cfX13 (by decide) rfl (Or.inl rfl) wd_1279 dX13_sayRecord_2 ?_
    refine S_bipush (pc := 5) hC dX13_sayRecord_5 (by decide) ?_
    refine S_istore_n (pc := 7) hC dX13_sayRecord_7 rfl (by decide) ?_
    exact hJ 8
  have hB8 : zin 2 [0, 1] (aX13_sayRecord_8 mc ms X Q) X 8 := by
    intro u v vs st M hb
    rw [hXe]
    refine fun lv hp => S_block (L := 8) (live := [0, 1]) ?_ u v lv vs st M hp hb
    unfold aX13_sayRecord_8
    refine S_iload_n (pc := 8) hC dX13_sayRecord_8 rfl ?_
    refine S_if_lt (pc := 9) (tgt := 38) hC dX13_sayRecord_9 (by decide) ?_ ?_
    · refine S_aload_n (pc := 38) hC dX13_sayRecord_38 rfl ?_
      refine S_aload_n (pc := 39) hC dX13_sayRecord_39 rfl ?_
      refine S_getR (pc := 40) hC cfX13 (by decide) (Or.inr ⟨_, rfl⟩) wd_1271 dX13_sayRecord_40 ?_
      refine S_bipush (pc := 43) hC dX13_sayRecord_43 (by decide) ?_
      refine S_iaload (pc := 45) hC dX13_sayRecord_45 ?_
      refine S_if_ne (pc := 46) (tgt := 54) hC dX13_sayRecord_46 (by decide) ?_ ?_
      · refine S_bipush (pc := 54) hC dX13_sayRecord_54 (by decide) ?_
        exact hJ 56
      · refine S_bipush (pc := 49) hC dX13_sayRecord_49 (by decide) ?_
        refine S_goto (pc := 51) (tgt := 56) hC dX13_sayRecord_51 (by decide) ?_
        exact hJ 56
    · refine S_aload_n (pc := 12) hC dX13_sayRecord_12 rfl ?_
      refine S_iload_n (pc := 13) hC dX13_sayRecord_13 rfl ?_
      refine S_callV (pc := 14) hC (sX13_sayRank l G) rfl wd_1625 wd_1627 ws_107 wd_12 wd_1628 (by decide +kernel) ⟨by rw [hRf]; decide, by rw [hRl]; decide⟩ dX13_sayRecord_14 ?_
      unfold kX13_sayRecord_17
      refine S_aload_n (pc := 17) hC dX13_sayRecord_17 rfl ?_
      refine S_iload_n (pc := 18) hC dX13_sayRecord_18 rfl ?_
      refine S_if_le (pc := 19) (tgt := 27) hC dX13_sayRecord_19 (by decide) ?_ ?_
      · refine S_bipush (pc := 27) hC dX13_sayRecord_27 (by decide) ?_
        exact hJ 29
      · refine S_bipush (pc := 22) hC dX13_sayRecord_22 (by decide) ?_
        refine S_goto (pc := 24) (tgt := 29) hC dX13_sayRecord_24 (by decide) ?_
        exact hJ 29
  have hB29 : zin 2 [0, 1] (aX13_sayRecord_29 mc ms X Q) X 29 := by
    intro u v vs st M hb
    rw [hXe]
    refine fun lv hp => S_block (L := 29) (live := [0, 1]) ?_ u v lv vs st M hp hb
    unfold aX13_sayRecord_29
    refine S_callV (pc := 29) hC (sX13_say l G) rfl wd_1553 wd_1555 ws_95 wd_12 wd_1556 (by decide +kernel) ⟨by rw [hRf]; decide, by rw [hRl]; decide⟩ dX13_sayRecord_29 ?_
    unfold kX13_sayRecord_32
    refine S_iinc (pc := 32) hC dX13_sayRecord_32 (by decide) (by decide) ?_
    refine S_goto (pc := 35) (tgt := 8) hC dX13_sayRecord_35 (by decide) ?_
    exact hJ 8
  have hB56 : zin 2 [0] (aX13_sayRecord_56 mc ms X Q) X 56 := by
    intro u v vs st M hb
    rw [hXe]
    refine fun lv hp => S_block (L := 56) (live := [0]) ?_ u v lv vs st M hp hb
    unfold aX13_sayRecord_56
    refine S_callV (pc := 56) hC (sX13_say l G) rfl wd_1553 wd_1555 ws_95 wd_12 wd_1556 (by decide +kernel) ⟨by rw [hRf]; decide, by rw [hRl]; decide⟩ dX13_sayRecord_56 ?_
    unfold kX13_sayRecord_59
    refine S_aload_n (pc := 59) hC dX13_sayRecord_59 rfl ?_
    refine S_bipush (pc := 60) hC dX13_sayRecord_60 (by decide) ?_
    refine S_callV (pc := 62) hC (sX13_say l G) rfl wd_1553 wd_1555 ws_95 wd_12 wd_1556 (by decide +kernel) ⟨by rw [hRf]; decide, by rw [hRl]; decide⟩ dX13_sayRecord_62 ?_
    unfold kX13_sayRecord_65
    refine S_iconst (pc := 65) hC dX13_sayRecord_65 (by decide) ?_
    refine S_istore_n (pc := 66) hC dX13_sayRecord_66 rfl (by decide) ?_
    exact hJ 67
  have hB67 : zin 2 [0, 1] (aX13_sayRecord_67 mc ms X Q) X 67 := by
    intro u v vs st M hb
    rw [hXe]
    refine fun lv hp => S_block (L := 67) (live := [0, 1]) ?_ u v lv vs st M hp hb
    unfold aX13_sayRecord_67
    refine S_iload_n (pc := 67) hC dX13_sayRecord_67 rfl ?_
    refine S_iconst (pc := 68) hC dX13_sayRecord_68 (by decide) ?_
    refine S_icmp_ge (pc := 69) (tgt := 128) hC dX13_sayRecord_69 (by decide) ?_ ?_
    · refine S_aload_n (pc := 128) hC dX13_sayRecord_128 rfl ?_
      refine S_getR (pc := 129) hC cfX13 (by decide) (Or.inr ⟨_, rfl⟩) wd_1271 dX13_sayRecord_129 ?_
      refine S_bipush (pc := 132) hC dX13_sayRecord_132 (by decide) ?_
      refine S_iaload (pc := 134) hC dX13_sayRecord_134 ?_
      refine S_if_ne (pc := 135) (tgt := 144) hC dX13_sayRecord_135 (by decide) ?_ ?_
      · exact hJ 144
      · refine S_aload_n (pc := 138) hC dX13_sayRecord_138 rfl ?_
        refine S_bipush (pc := 139) hC dX13_sayRecord_139 (by decide) ?_
        refine S_callV (pc := 141) hC (sX13_say l G) rfl wd_1553 wd_1555 ws_95 wd_12 wd_1556 (by decide +kernel) ⟨by rw [hRf]; decide, by rw [hRl]; decide⟩ dX13_sayRecord_141 ?_
        unfold kX13_sayRecord_144
        exact hJ 144
    · refine S_aload_n (pc := 72) hC dX13_sayRecord_72 rfl ?_
      refine S_getR (pc := 73) hC cfX13 (by decide) (Or.inr ⟨_, rfl⟩) wd_1271 dX13_sayRecord_73 ?_
      refine S_bipush (pc := 76) hC dX13_sayRecord_76 (by decide) ?_
      refine S_iaload (pc := 78) hC dX13_sayRecord_78 ?_
      refine S_iload_n (pc := 79) hC dX13_sayRecord_79 rfl ?_
      refine S_ishr (pc := 80) hC dX13_sayRecord_80 ?_
      refine S_iconst (pc := 81) hC dX13_sayRecord_81 (by decide) ?_
      refine S_iand (pc := 82) hC dX13_sayRecord_82 ?_
      refine S_iconst (pc := 83) hC dX13_sayRecord_83 (by decide) ?_
      refine S_icmp_ne (pc := 84) (tgt := 122) hC dX13_sayRecord_84 (by decide) ?_ ?_
      · exact hJ 122
      · refine S_aload_n (pc := 87) hC dX13_sayRecord_87 rfl ?_
        refine S_iload_n (pc := 88) hC dX13_sayRecord_88 rfl ?_
        refine S_if_ne (pc := 89) (tgt := 97) hC dX13_sayRecord_89 (by decide) ?_ ?_
        · refine S_iload_n (pc := 97) hC dX13_sayRecord_97 rfl ?_
          refine S_iconst (pc := 98) hC dX13_sayRecord_98 (by decide) ?_
          refine S_icmp_ne (pc := 99) (tgt := 107) hC dX13_sayRecord_99 (by decide) ?_ ?_
          · refine S_iload_n (pc := 107) hC dX13_sayRecord_107 rfl ?_
            refine S_iconst (pc := 108) hC dX13_sayRecord_108 (by decide) ?_
            refine S_icmp_ne (pc := 109) (tgt := 117) hC dX13_sayRecord_109 (by decide) ?_ ?_
            · refine S_bipush (pc := 117) hC dX13_sayRecord_117 (by decide) ?_
              exact hJ 119
            · refine S_bipush (pc := 112) hC dX13_sayRecord_112 (by decide) ?_
              refine S_goto (pc := 114) (tgt := 119) hC dX13_sayRecord_114 (by decide) ?_
              exact hJ 119
          · refine S_bipush (pc := 102) hC dX13_sayRecord_102 (by decide) ?_
            refine S_goto (pc := 104) (tgt := 119) hC dX13_sayRecord_104 (by decide) ?_
            exact hJ 119
        · refine S_bipush (pc := 92) hC dX13_sayRecord_92 (by decide) ?_
          refine S_goto (pc := 94) (tgt := 119) hC dX13_sayRecord_94 (by decide) ?_
          exact hJ 119
  have hB119 : zin 2 [0, 1] (aX13_sayRecord_119 mc ms X Q) X 119 := by
    intro u v vs st M hb
    rw [hXe]
    refine fun lv hp => S_block (L := 119) (live := [0, 1]) ?_ u v lv vs st M hp hb
    unfold aX13_sayRecord_119
    refine S_callV (pc := 119) hC (sX13_say l G) rfl wd_1553 wd_1555 ws_95 wd_12 wd_1556 (by decide +kernel) ⟨by rw [hRf]; decide, by rw [hRl]; decide⟩ dX13_sayRecord_119 ?_
    unfold kX13_sayRecord_122
    exact hJ 122
  have hB122 : zin 2 [0, 1] (aX13_sayRecord_122 mc ms X Q) X 122 := by
    intro u v vs st M hb
    rw [hXe]
    refine fun lv hp => S_block (L := 122) (live := [0, 1]) ?_ u v lv vs st M hp hb
    unfold aX13_sayRecord_122
    refine S_iinc (pc := 122) hC dX13_sayRecord_122 (by decide) (by decide) ?_
    refine S_goto (pc := 125) (tgt := 67) hC dX13_sayRecord_125 (by decide) ?_
    exact hJ 67
  have hB144 : zin 2 [0] (aX13_sayRecord_144 mc ms X Q) X 144 := by
    intro u v vs st M hb
    rw [hXe]
    refine fun lv hp => S_block (L := 144) (live := [0]) ?_ u v lv vs st M hp hb
    unfold aX13_sayRecord_144
    refine S_aload_n (pc := 144) hC dX13_sayRecord_144 rfl ?_
    refine S_bipush (pc := 145) hC dX13_sayRecord_145 (by decide) ?_
    refine S_callV (pc := 147) hC (sX13_say l G) rfl wd_1553 wd_1555 ws_95 wd_12 wd_1556 (by decide +kernel) ⟨by rw [hRf]; decide, by rw [hRl]; decide⟩ dX13_sayRecord_147 ?_
    unfold kX13_sayRecord_150
    refine S_aload_n (pc := 150) hC dX13_sayRecord_150 rfl ?_
    refine S_getR (pc := 151) hC cfX13 (by decide) (Or.inr ⟨_, rfl⟩) wd_1271 dX13_sayRecord_151 ?_
    refine S_bipush (pc := 154) hC dX13_sayRecord_154 (by decide) ?_
    refine S_iaload (pc := 156) hC dX13_sayRecord_156 ?_
    refine S_if_ge (pc := 157) (tgt := 169) hC dX13_sayRecord_157 (by decide) ?_ ?_
    · refine S_aload_n (pc := 169) hC dX13_sayRecord_169 rfl ?_
      refine S_bipush (pc := 170) hC dX13_sayRecord_170 (by decide) ?_
      refine S_aload_n (pc := 172) hC dX13_sayRecord_172 rfl ?_
      refine S_getR (pc := 173) hC cfX13 (by decide) (Or.inr ⟨_, rfl⟩) wd_1271 dX13_sayRecord_173 ?_
      refine S_bipush (pc := 176) hC dX13_sayRecord_176 (by decide) ?_
      refine S_iaload (pc := 178) hC dX13_sayRecord_178 ?_
      refine S_iadd (pc := 179) hC dX13_sayRecord_179 ?_
      refine S_callV (pc := 180) hC (sX13_say l G) rfl wd_1553 wd_1555 ws_95 wd_12 wd_1556 (by decide +kernel) ⟨by rw [hRf]; decide, by rw [hRl]; decide⟩ dX13_sayRecord_180 ?_
      unfold kX13_sayRecord_183
      refine S_aload_n (pc := 183) hC dX13_sayRecord_183 rfl ?_
      refine S_aload_n (pc := 184) hC dX13_sayRecord_184 rfl ?_
      refine S_getR (pc := 185) hC cfX13 (by decide) (Or.inr ⟨_, rfl⟩) wd_1271 dX13_sayRecord_185 ?_
      refine S_bipush (pc := 188) hC dX13_sayRecord_188 (by decide) ?_
      refine S_iaload (pc := 190) hC dX13_sayRecord_190 ?_
      refine S_if_ne (pc := 191) (tgt := 199) hC dX13_sayRecord_191 (by decide) ?_ ?_
      · refine S_bipush (pc := 199) hC dX13_sayRecord_199 (by decide) ?_
        exact hJ 201
      · refine S_bipush (pc := 194) hC dX13_sayRecord_194 (by decide) ?_
        refine S_goto (pc := 196) (tgt := 201) hC dX13_sayRecord_196 (by decide) ?_
        exact hJ 201
    · refine S_aload_n (pc := 160) hC dX13_sayRecord_160 rfl ?_
      refine S_bipush (pc := 161) hC dX13_sayRecord_161 (by decide) ?_
      refine S_callV (pc := 163) hC (sX13_say l G) rfl wd_1553 wd_1555 ws_95 wd_12 wd_1556 (by decide +kernel) ⟨by rw [hRf]; decide, by rw [hRl]; decide⟩ dX13_sayRecord_163 ?_
      unfold kX13_sayRecord_166
      refine S_goto (pc := 166) (tgt := 204) hC dX13_sayRecord_166 (by decide) ?_
      exact hJ 204
  have hB201 : zin 2 [0] (aX13_sayRecord_201 mc ms X Q) X 201 := by
    intro u v vs st M hb
    rw [hXe]
    refine fun lv hp => S_block (L := 201) (live := [0]) ?_ u v lv vs st M hp hb
    unfold aX13_sayRecord_201
    refine S_callV (pc := 201) hC (sX13_say l G) rfl wd_1553 wd_1555 ws_95 wd_12 wd_1556 (by decide +kernel) ⟨by rw [hRf]; decide, by rw [hRl]; decide⟩ dX13_sayRecord_201 ?_
    unfold kX13_sayRecord_204
    exact hJ 204
  have hB204 : zin 2 [0] (aX13_sayRecord_204 mc ms X Q) X 204 := by
    intro u v vs st M hb
    rw [hXe]
    refine fun lv hp => S_block (L := 204) (live := [0]) ?_ u v lv vs st M hp hb
    unfold aX13_sayRecord_204
    refine S_aload_n (pc := 204) hC dX13_sayRecord_204 rfl ?_
    refine S_bipush (pc := 205) hC dX13_sayRecord_205 (by decide) ?_
    refine S_callV (pc := 207) hC (sX13_say l G) rfl wd_1553 wd_1555 ws_95 wd_12 wd_1556 (by decide +kernel) ⟨by rw [hRf]; decide, by rw [hRl]; decide⟩ dX13_sayRecord_207 ?_
    unfold kX13_sayRecord_210
    refine S_aload_n (pc := 210) hC dX13_sayRecord_210 rfl ?_
    refine S_aload_n (pc := 211) hC dX13_sayRecord_211 rfl ?_
    refine S_getR (pc := 212) hC cfX13 (by decide) (Or.inr ⟨_, rfl⟩) wd_1271 dX13_sayRecord_212 ?_
    refine S_bipush (pc := 215) hC dX13_sayRecord_215 (by decide) ?_
    refine S_iaload (pc := 217) hC dX13_sayRecord_217 ?_
    refine S_callV (pc := 218) hC (sX13_sayNumber l G) rfl wd_1629 wd_1631 ws_108 wd_12 wd_1632 (by decide +kernel) ⟨by rw [hRf]; decide, by rw [hRl]; decide⟩ dX13_sayRecord_218 ?_
    unfold kX13_sayRecord_221
    refine S_aload_n (pc := 221) hC dX13_sayRecord_221 rfl ?_
    refine S_bipush (pc := 222) hC dX13_sayRecord_222 (by decide) ?_
    refine S_callV (pc := 224) hC (sX13_say l G) rfl wd_1553 wd_1555 ws_95 wd_12 wd_1556 (by decide +kernel) ⟨by rw [hRf]; decide, by rw [hRl]; decide⟩ dX13_sayRecord_224 ?_
    unfold kX13_sayRecord_227
    refine S_aload_n (pc := 227) hC dX13_sayRecord_227 rfl ?_
    refine S_aload_n (pc := 228) hC dX13_sayRecord_228 rfl ?_
    refine S_getR (pc := 229) hC cfX13 (by decide) (Or.inr ⟨_, rfl⟩) wd_1271 dX13_sayRecord_229 ?_
    refine S_bipush (pc := 232) hC dX13_sayRecord_232 (by decide) ?_
    refine S_iaload (pc := 234) hC dX13_sayRecord_234 ?_
    refine S_callV (pc := 235) hC (sX13_sayNumber l G) rfl wd_1629 wd_1631 ws_108 wd_12 wd_1632 (by decide +kernel) ⟨by rw [hRf]; decide, by rw [hRl]; decide⟩ dX13_sayRecord_235 ?_
    unfold kX13_sayRecord_238
    exact S_vreturn (pc := 238) hC hr dX13_sayRecord_238
  have := h.2 X hB0 hB8 hB29 hB56 hB67 hB119 hB122 hB144 hB201 hB204
  rw [hXe] at this
  exact this lv hlv
theorem vX13_sayRecord_0 {mc ms : Nat} {X : Nat → zV} {Q : zQt} {M : zM}  (hW : zFix M)  (h : ∀ M2 : zM, M2 = (zsI M 55 24 0) → X 8 0 0 [.ref 55, .int 7] [] M2) : aX13_sayRecord_0 mc ms X Q 0 0 [some (.ref 55), none] [] M := ⟨(fxs_55 hW), (have h2 := h _ rfl; h2)⟩
theorem vX13_sayRecord_8 {mc ms : Nat} {X : Nat → zV} {Q : zQt} {M : zM} {x1 : Int32} (hW : zFix M)  (h : (x1 < 0 → (((M : zM).1 65 (64 : Int32).toNatClampNeg) = 0 → X 56 0 0 [.ref 55] [.int 119, .ref 55] M) ∧ (¬ ((M : zM).1 65 (64 : Int32).toNatClampNeg) = 0 → X 56 0 0 [.ref 55] [.int 98, .ref 55] M)) ∧ (¬ x1 < 0 → wX13_sayRank 0 0 [.ref 55, .int x1] M (fun r M1 => kX13_sayRecord_17 mc ms X Q 0 0 [some (.ref 55), some (.int x1)] (r.toList ++ []) M1))) : aX13_sayRecord_8 mc ms X Q 0 0 [some (.ref 55), some (.int x1)] [] M := ⟨fun c9 => ⟨(fxs_55 hW), 65, (fxr_55_16 hW), ⟨414, (fxs_65 hW), by unfold vp_in; decide, ⟨fun c46 => ((h.1 c9).1 c46), fun c46 => ((h.1 c9).2 c46)⟩⟩⟩, fun c9 => ⟨Nat.le_of_ble_eq_true rfl, rfl, (fxs_55 hW), 0, 0, Nat.zero_le _, Nat.zero_le _, (h.2 c9)⟩⟩
theorem vX13_sayRecord_29 {mc ms : Nat} {X : Nat → zV} {Q : zQt} {M : zM} {x1 : Int32} {s0 : Int32} (hW : zFix M)  (h : wX13_say 0 0 [.ref 55, .int s0] M (fun r M1 => kX13_sayRecord_32 mc ms X Q 0 0 [some (.ref 55), some (.int x1)] (r.toList ++ []) M1)) : aX13_sayRecord_29 mc ms X Q 0 0 [some (.ref 55), some (.int x1)] [.int s0, .ref 55] M := ⟨Nat.le_of_ble_eq_true rfl, rfl, (fxs_55 hW), 0, 0, Nat.zero_le _, Nat.zero_le _, h⟩
theorem vX13_sayRecord_56 {mc ms : Nat} {X : Nat → zV} {Q : zQt} {M : zM} {s0 : Int32} (hW : zFix M)  (h : wX13_say 0 0 [.ref 55, .int s0] M (fun r M1 => kX13_sayRecord_59 mc ms X Q 0 0 [some (.ref 55), none] (r.toList ++ []) M1)) : aX13_sayRecord_56 mc ms X Q 0 0 [some (.ref 55), none] [.int s0, .ref 55] M := ⟨Nat.le_of_ble_eq_true rfl, rfl, (fxs_55 hW), 0, 0, Nat.zero_le _, Nat.zero_le _, h⟩
theorem vX13_sayRecord_67 {mc ms : Nat} {X : Nat → zV} {Q : zQt} {M : zM} {x1 : Int32} (hW : zFix M)  (h : ((4 : Int32) ≤ x1 → (((M : zM).1 65 (65 : Int32).toNatClampNeg) = 0 → wX13_say 0 0 [.ref 55, .int 45] M (fun r M1 => kX13_sayRecord_144 mc ms X Q 0 0 [some (.ref 55), some (.int x1)] (r.toList ++ []) M1)) ∧ (¬ ((M : zM).1 65 (65 : Int32).toNatClampNeg) = 0 → X 144 0 0 [.ref 55] [] M)) ∧ (¬ (4 : Int32) ≤ x1 → (((((M : zM).1 65 (65 : Int32).toNatClampNeg) >>> (x1 &&& 31)) &&& (1 : Int32)) = (1 : Int32) → (x1 = 0 → X 119 0 0 [.ref 55, .int x1] [.int 75, .ref 55] M) ∧ (¬ x1 = 0 → (x1 = (1 : Int32) → X 119 0 0 [.ref 55, .int x1] [.int 81, .ref 55] M) ∧ (¬ x1 = (1 : Int32) → (x1 = (2 : Int32) → X 119 0 0 [.ref 55, .int x1] [.int 107, .ref 55] M) ∧ (¬ x1 = (2 : Int32) → X 119 0 0 [.ref 55, .int x1] [.int 113, .ref 55] M)))) ∧ (¬ ((((M : zM).1 65 (65 : Int32).toNatClampNeg) >>> (x1 &&& 31)) &&& (1 : Int32)) = (1 : Int32) → X 122 0 0 [.ref 55, .int x1] [] M))) : aX13_sayRecord_67 mc ms X Q 0 0 [some (.ref 55), some (.int x1)] [] M := ⟨fun c69 => ⟨(fxs_55 hW), 65, (fxr_55_16 hW), ⟨414, (fxs_65 hW), by unfold vp_in; decide, ⟨fun c135 => ⟨Nat.le_of_ble_eq_true rfl, rfl, (fxs_55 hW), 0, 0, Nat.zero_le _, Nat.zero_le _, ((h.1 c69).1 c135)⟩, fun c135 => ((h.1 c69).2 c135)⟩⟩⟩, fun c69 => ⟨(fxs_55 hW), 65, (fxr_55_16 hW), ⟨414, (fxs_65 hW), by unfold vp_in; decide, ⟨fun c84 => ⟨fun c89 => (((h.2 c69).1 c84).1 c89), fun c89 => ⟨fun c99 => ((((h.2 c69).1 c84).2 c89).1 c99), fun c99 => ⟨fun c109 => (((((h.2 c69).1 c84).2 c89).2 c99).1 c109), fun c109 => (((((h.2 c69).1 c84).2 c89).2 c99).2 c109)⟩⟩⟩, fun c84 => ((h.2 c69).2 c84)⟩⟩⟩⟩
theorem vX13_sayRecord_119 {mc ms : Nat} {X : Nat → zV} {Q : zQt} {M : zM} {x1 : Int32} {s0 : Int32} (hW : zFix M)  (h : wX13_say 0 0 [.ref 55, .int s0] M (fun r M1 => kX13_sayRecord_122 mc ms X Q 0 0 [some (.ref 55), some (.int x1)] (r.toList ++ []) M1)) : aX13_sayRecord_119 mc ms X Q 0 0 [some (.ref 55), some (.int x1)] [.int s0, .ref 55] M := ⟨Nat.le_of_ble_eq_true rfl, rfl, (fxs_55 hW), 0, 0, Nat.zero_le _, Nat.zero_le _, h⟩
theorem vX13_sayRecord_122 {mc ms : Nat} {X : Nat → zV} {Q : zQt} {M : zM} {x1 : Int32} (hW : zFix M)  (h : X 67 0 0 [.ref 55, .int (x1 + 1)] [] M) : aX13_sayRecord_122 mc ms X Q 0 0 [some (.ref 55), some (.int x1)] [] M := h
theorem vX13_sayRecord_144 {mc ms : Nat} {X : Nat → zV} {Q : zQt} {M : zM}  (hW : zFix M)  (h : wX13_say 0 0 [.ref 55, .int 32] M (fun r M1 => kX13_sayRecord_150 mc ms X Q 0 0 [some (.ref 55), none] (r.toList ++ []) M1)) : aX13_sayRecord_144 mc ms X Q 0 0 [some (.ref 55), none] [] M := ⟨Nat.le_of_ble_eq_true rfl, rfl, (fxs_55 hW), 0, 0, Nat.zero_le _, Nat.zero_le _, h⟩
theorem vX13_sayRecord_201 {mc ms : Nat} {X : Nat → zV} {Q : zQt} {M : zM} {s0 : Int32} (hW : zFix M)  (h : wX13_say 0 0 [.ref 55, .int s0] M (fun r M1 => kX13_sayRecord_204 mc ms X Q 0 0 [some (.ref 55), none] (r.toList ++ []) M1)) : aX13_sayRecord_201 mc ms X Q 0 0 [some (.ref 55), none] [.int s0, .ref 55] M := ⟨Nat.le_of_ble_eq_true rfl, rfl, (fxs_55 hW), 0, 0, Nat.zero_le _, Nat.zero_le _, h⟩
theorem vX13_sayRecord_204 {mc ms : Nat} {X : Nat → zV} {Q : zQt} {M : zM}  (hW : zFix M)  (h : wX13_say 0 0 [.ref 55, .int 32] M (fun r M1 => kX13_sayRecord_210 mc ms X Q 0 0 [some (.ref 55), none] (r.toList ++ []) M1)) : aX13_sayRecord_204 mc ms X Q 0 0 [some (.ref 55), none] [] M := ⟨Nat.le_of_ble_eq_true rfl, rfl, (fxs_55 hW), 0, 0, Nat.zero_le _, Nat.zero_le _, h⟩
theorem vkX13_sayRecord_17 {mc ms : Nat} {X : Nat → zV} {Q : zQt} {M : zM} {x1 : Int32} (hW : zFix M)  (h : (x1 ≤ 0 → X 29 0 0 [.ref 55, .int x1] [.int 32, .ref 55] M) ∧ (¬ x1 ≤ 0 → X 29 0 0 [.ref 55, .int x1] [.int 47, .ref 55] M)) : kX13_sayRecord_17 mc ms X Q 0 0 [some (.ref 55), some (.int x1)] [] M := ⟨fun c19 => (h.1 c19), fun c19 => (h.2 c19)⟩
theorem vkX13_sayRecord_32 {mc ms : Nat} {X : Nat → zV} {Q : zQt} {M : zM} {x1 : Int32} (hW : zFix M)  (h : X 8 0 0 [.ref 55, .int (x1 + (-1))] [] M) : kX13_sayRecord_32 mc ms X Q 0 0 [some (.ref 55), some (.int x1)] [] M := h
theorem vkX13_sayRecord_59 {mc ms : Nat} {X : Nat → zV} {Q : zQt} {M : zM}  (hW : zFix M)  (h : wX13_say 0 0 [.ref 55, .int 32] M (fun r M1 => kX13_sayRecord_65 mc ms X Q 0 0 [some (.ref 55), none] (r.toList ++ []) M1)) : kX13_sayRecord_59 mc ms X Q 0 0 [some (.ref 55), none] [] M := ⟨Nat.le_of_ble_eq_true rfl, rfl, (fxs_55 hW), 0, 0, Nat.zero_le _, Nat.zero_le _, h⟩
theorem vkX13_sayRecord_65 {mc ms : Nat} {X : Nat → zV} {Q : zQt} {M : zM}  (hW : zFix M)  (h : X 67 0 0 [.ref 55, .int 0] [] M) : kX13_sayRecord_65 mc ms X Q 0 0 [some (.ref 55), none] [] M := h
theorem vkX13_sayRecord_122 {mc ms : Nat} {X : Nat → zV} {Q : zQt} {M : zM} {x1 : Int32} (hW : zFix M)  (h : X 122 0 0 [.ref 55, .int x1] [] M) : kX13_sayRecord_122 mc ms X Q 0 0 [some (.ref 55), some (.int x1)] [] M := h
theorem vkX13_sayRecord_144 {mc ms : Nat} {X : Nat → zV} {Q : zQt} {M : zM} {x1 : Int32} (hW : zFix M)  (h : X 144 0 0 [.ref 55] [] M) : kX13_sayRecord_144 mc ms X Q 0 0 [some (.ref 55), some (.int x1)] [] M := h
theorem vkX13_sayRecord_150 {mc ms : Nat} {X : Nat → zV} {Q : zQt} {M : zM}  (hW : zFix M)  (h : (0 ≤ ((M : zM).1 65 (66 : Int32).toNatClampNeg) → wX13_say 0 0 [.ref 55, .int ((97 : Int32) + ((M : zM).1 65 (66 : Int32).toNatClampNeg))] M (fun r M1 => kX13_sayRecord_183 mc ms X Q 0 0 [some (.ref 55), none] (r.toList ++ []) M1)) ∧ (¬ 0 ≤ ((M : zM).1 65 (66 : Int32).toNatClampNeg) → wX13_say 0 0 [.ref 55, .int 45] M (fun r M1 => kX13_sayRecord_166 mc ms X Q 0 0 [some (.ref 55), none] (r.toList ++ []) M1))) : kX13_sayRecord_150 mc ms X Q 0 0 [some (.ref 55), none] [] M := ⟨(fxs_55 hW), 65, (fxr_55_16 hW), ⟨414, (fxs_65 hW), by unfold vp_in; decide, ⟨fun c157 => ⟨(fxs_55 hW), 65, (fxr_55_16 hW), ⟨414, (fxs_65 hW), by unfold vp_in; decide, ⟨Nat.le_of_ble_eq_true rfl, rfl, (fxs_55 hW), 0, 0, Nat.zero_le _, Nat.zero_le _, (h.1 c157)⟩⟩⟩, fun c157 => ⟨Nat.le_of_ble_eq_true rfl, rfl, (fxs_55 hW), 0, 0, Nat.zero_le _, Nat.zero_le _, (h.2 c157)⟩⟩⟩⟩
theorem vkX13_sayRecord_166 {mc ms : Nat} {X : Nat → zV} {Q : zQt} {M : zM}  (hW : zFix M)  (h : X 204 0 0 [.ref 55] [] M) : kX13_sayRecord_166 mc ms X Q 0 0 [some (.ref 55), none] [] M := h
theorem vkX13_sayRecord_183 {mc ms : Nat} {X : Nat → zV} {Q : zQt} {M : zM}  (hW : zFix M)  (h : (((M : zM).1 65 (64 : Int32).toNatClampNeg) = 0 → X 201 0 0 [.ref 55] [.int 54, .ref 55] M) ∧ (¬ ((M : zM).1 65 (64 : Int32).toNatClampNeg) = 0 → X 201 0 0 [.ref 55] [.int 51, .ref 55] M)) : kX13_sayRecord_183 mc ms X Q 0 0 [some (.ref 55), none] [] M := ⟨(fxs_55 hW), 65, (fxr_55_16 hW), ⟨414, (fxs_65 hW), by unfold vp_in; decide, ⟨fun c191 => (h.1 c191), fun c191 => (h.2 c191)⟩⟩⟩
theorem vkX13_sayRecord_204 {mc ms : Nat} {X : Nat → zV} {Q : zQt} {M : zM}  (hW : zFix M)  (h : X 204 0 0 [.ref 55] [] M) : kX13_sayRecord_204 mc ms X Q 0 0 [some (.ref 55), none] [] M := h
theorem vkX13_sayRecord_210 {mc ms : Nat} {X : Nat → zV} {Q : zQt} {M : zM}  (hW : zFix M)  (h : wX13_sayNumber 0 0 [.ref 55, .int ((M : zM).1 65 (67 : Int32).toNatClampNeg)] M (fun r M1 => kX13_sayRecord_221 mc ms X Q 0 0 [some (.ref 55), none] (r.toList ++ []) M1)) : kX13_sayRecord_210 mc ms X Q 0 0 [some (.ref 55), none] [] M := ⟨(fxs_55 hW), 65, (fxr_55_16 hW), ⟨414, (fxs_65 hW), by unfold vp_in; decide, ⟨Nat.le_of_ble_eq_true rfl, rfl, (fxs_55 hW), 0, 0, Nat.zero_le _, Nat.zero_le _, h⟩⟩⟩
theorem vkX13_sayRecord_221 {mc ms : Nat} {X : Nat → zV} {Q : zQt} {M : zM}  (hW : zFix M)  (h : wX13_say 0 0 [.ref 55, .int 32] M (fun r M1 => kX13_sayRecord_227 mc ms X Q 0 0 [some (.ref 55), none] (r.toList ++ []) M1)) : kX13_sayRecord_221 mc ms X Q 0 0 [some (.ref 55), none] [] M := ⟨Nat.le_of_ble_eq_true rfl, rfl, (fxs_55 hW), 0, 0, Nat.zero_le _, Nat.zero_le _, h⟩
theorem vkX13_sayRecord_227 {mc ms : Nat} {X : Nat → zV} {Q : zQt} {M : zM}  (hW : zFix M)  (h : wX13_sayNumber 0 0 [.ref 55, .int ((M : zM).1 65 (68 : Int32).toNatClampNeg)] M (fun r M1 => kX13_sayRecord_238 mc ms X Q 0 0 [some (.ref 55), none] (r.toList ++ []) M1)) : kX13_sayRecord_227 mc ms X Q 0 0 [some (.ref 55), none] [] M := ⟨(fxs_55 hW), 65, (fxr_55_16 hW), ⟨414, (fxs_65 hW), by unfold vp_in; decide, ⟨Nat.le_of_ble_eq_true rfl, rfl, (fxs_55 hW), 0, 0, Nat.zero_le _, Nat.zero_le _, h⟩⟩⟩
theorem vkX13_sayRecord_238 {mc ms : Nat} {X : Nat → zV} {Q : zQt} {M : zM}  (hW : zFix M)  (h : Q none M) : kX13_sayRecord_238 mc ms X Q 0 0 [some (.ref 55), none] [] M := h
theorem dX13_recordAt_0 : decode cX13_recordAt 0 = .ok (.aload_n 0, 1) := by decide +kernel
theorem dX13_recordAt_1 : decode cX13_recordAt 1 = .ok (.iconst 0, 1) := by decide +kernel
theorem dX13_recordAt_2 : decode cX13_recordAt 2 = .ok (.putfield 68, 3) := by decide +kernel
theorem dX13_recordAt_5 : decode cX13_recordAt 5 = .ok (.aload_n 0, 1) := by decide +kernel
theorem dX13_recordAt_6 : decode cX13_recordAt 6 = .ok (.getfield 177, 3) := by decide +kernel
theorem dX13_recordAt_9 : decode cX13_recordAt 9 = .ok (.ifCond .eq 13, 3) := by decide +kernel
theorem dX13_recordAt_12 : decode cX13_recordAt 12 = .ok (.iload_n 1, 1) := by decide +kernel
theorem dX13_recordAt_13 : decode cX13_recordAt 13 = .ok (.ifCond .lt 9, 3) := by decide +kernel
theorem dX13_recordAt_16 : decode cX13_recordAt 16 = .ok (.iload_n 1, 1) := by decide +kernel
theorem dX13_recordAt_17 : decode cX13_recordAt 17 = .ok (.bipush 20, 2) := by decide +kernel
theorem dX13_recordAt_19 : decode cX13_recordAt 19 = .ok (.if_icmp .le 5, 3) := by decide +kernel
theorem dX13_recordAt_22 : decode cX13_recordAt 22 = .ok (.lconst 0, 1) := by decide +kernel
theorem dX13_recordAt_23 : decode cX13_recordAt 23 = .ok (.lreturn, 1) := by decide +kernel
theorem dX13_recordAt_24 : decode cX13_recordAt 24 = .ok (.aload_n 0, 1) := by decide +kernel
theorem dX13_recordAt_25 : decode cX13_recordAt 25 = .ok (.invokevirtual 181, 3) := by decide +kernel
theorem dX13_recordAt_28 : decode cX13_recordAt 28 = .ok (.aload_n 0, 1) := by decide +kernel
theorem dX13_recordAt_29 : decode cX13_recordAt 29 = .ok (.invokevirtual 311, 3) := by decide +kernel
theorem dX13_recordAt_32 : decode cX13_recordAt 32 = .ok (.aload_n 0, 1) := by decide +kernel
theorem dX13_recordAt_33 : decode cX13_recordAt 33 = .ok (.bipush 8, 2) := by decide +kernel
theorem dX13_recordAt_35 : decode cX13_recordAt 35 = .ok (.iload_n 1, 1) := by decide +kernel
theorem dX13_recordAt_36 : decode cX13_recordAt 36 = .ok (.imul, 1) := by decide +kernel
theorem dX13_recordAt_37 : decode cX13_recordAt 37 = .ok (.invokevirtual 301, 3) := by decide +kernel
theorem dX13_recordAt_40 : decode cX13_recordAt 40 = .ok (.lreturn, 1) := by decide +kernel
def kX13_recordAt_40 (mc ms : Nat) (X : Nat → zV) (Q : zQt) : zT :=
  zrl Q
def kX13_recordAt_32 (mc ms : Nat) (X : Nat → zV) (Q : zQt) : zT :=
  zla 0 <| zc (.int 8) <| zli 1 <| zii (fun x y => x * y) <| zcv mc ms 13 1 wX13_packed <| kX13_recordAt_40 mc ms X Q
def kX13_recordAt_28 (mc ms : Nat) (X : Nat → zV) (Q : zQt) : zT :=
  zla 0 <| zcv mc ms 13 0 wX13_sayRecord <| kX13_recordAt_32 mc ms X Q
def aX13_recordAt_0 (mc ms : Nat) (X : Nat → zV) (Q : zQt) : zT :=
  zla 0 <| zc (.int 0) <| zpi 13 0 <| zla 0 <| zgi 13 7 <| zif (fun x => x = 0) (zj X 22 []) <| zli 1 <| zif (fun x => x < 0) (zj X 22 []) <| zli 1 <| zc (.int 20) <| zic (fun x y => x ≤ y) (zla 0 <| zcv mc ms 13 0 wX13_show <| kX13_recordAt_28 mc ms X Q) <| zj X 22 []
def aX13_recordAt_22 (mc ms : Nat) (X : Nat → zV) (Q : zQt) : zT :=
  zc (.long 0) <| zrl Q
def lvX13_recordAt : Nat → List Nat := fun L => match L with
  | 0 => [0, 1]
  | 22 => []
  | _ => []
def wX13_recordAt : zSp := fun mc ms av M Q => ((zlay av).length ≤ 2 ∧ zpick (zlay av) [0, 1] = some av) ∧ ∀ X : Nat → zV, zin 2 [0, 1] (aX13_recordAt_0 mc ms X Q) X 0 → zin 2 [] (aX13_recordAt_22 mc ms X Q) X 22 → X 0 0 0 av [] M
set_option maxRecDepth 100000 in
set_option maxHeartbeats 4000000 in
theorem sX13_recordAt (l : Launch) (G : zG) : zSnd l G yX13_recordAt cX13_recordAt 2 (some .long) 8 206 wX13_recordAt := by
  refine zmk [0, 1] (by decide) (fun mc ms av M Q h => h.1) ?_
  intro p e R s m args below meth c mc ms av M Q hC hRf hRl hr hnm h lv hlv
  obtain ⟨X, hXe⟩ : ∃ X : Nat → zV, X = fun L u v vs st M => ∀ lv, zpick lv (lvX13_recordAt L) = some vs → zAt p l e R s m args below meth c (MQ below (zQ G Q) args s mc ms (zA G)) G 2 L u v lv st M := ⟨_, rfl⟩
  have hJ : ∀ L, zOk p l e R s m args below meth c (MQ below (zQ G Q) args s mc ms (zA G)) G 2 L (zj X L (lvX13_recordAt L)) := fun L => S_jump (fun u v lv vs st M hp hx => by rw [hXe] at hx; exact hx lv hp)
  have hB0 : zin 2 [0, 1] (aX13_recordAt_0 mc ms X Q) X 0 := by
    intro u v vs st M hb
    rw [hXe]
    refine fun lv hp => S_block (L := 0) (live := [0, 1]) ?_ u v lv vs st M hp hb
    unfold aX13_recordAt_0
    refine S_aload_n (pc := 0) hC dX13_recordAt_0 rfl ?_
    refine S_iconst (pc := 1) hC dX13_recordAt_1 (by decide) ?_
    refine S_puti (pc := 2) hC cfX13 (by decide) rfl (Or.inl rfl) wd_1255 dX13_recordAt_2 ?_
    refine S_aload_n (pc := 5) hC dX13_recordAt_5 rfl ?_
    refine S_geti (pc := 6) hC cfX13 (by decide) (Or.inr rfl) wd_1262 dX13_recordAt_6 ?_
    refine S_if_eq (pc := 9) (tgt := 22) hC dX13_recordAt_9 (by decide) ?_ ?_
    · exact hJ 22
    · refine S_iload_n (pc := 12) hC dX13_recordAt_12 rfl ?_
      refine S_if_lt (pc := 13) (tgt := 22) hC dX13_recordAt_13 (by decide) ?_ ?_
      · exact hJ 22
      · refine S_iload_n (pc := 16) hC dX13_recordAt_16 rfl ?_
        refine S_bipush (pc := 17) hC dX13_recordAt_17 (by decide) ?_
        refine S_icmp_le (pc := 19) (tgt := 24) hC dX13_recordAt_19 (by decide) ?_ ?_
        · refine S_aload_n (pc := 24) hC dX13_recordAt_24 rfl ?_
          refine S_callV (pc := 25) hC (sX13_show l G) rfl wd_1585 wd_1587 ws_103 wd_12 wd_1588 (by decide +kernel) ⟨by rw [hRf]; decide, by rw [hRl]; decide⟩ dX13_recordAt_25 ?_
          unfold kX13_recordAt_28
          refine S_aload_n (pc := 28) hC dX13_recordAt_28 rfl ?_
          refine S_callV (pc := 29) hC (sX13_sayRecord l G) rfl wd_1621 wd_1623 ws_106 wd_12 wd_1624 (by decide +kernel) ⟨by rw [hRf]; decide, by rw [hRl]; decide⟩ dX13_recordAt_29 ?_
          unfold kX13_recordAt_32
          refine S_aload_n (pc := 32) hC dX13_recordAt_32 rfl ?_
          refine S_bipush (pc := 33) hC dX13_recordAt_33 (by decide) ?_
          refine S_iload_n (pc := 35) hC dX13_recordAt_35 rfl ?_
          refine S_imul (pc := 36) hC dX13_recordAt_36 ?_
          refine S_callV (pc := 37) hC (sX13_packed l G) rfl wd_1613 wd_1615 ws_105 wd_12 wd_1616 (by decide +kernel) ⟨by rw [hRf]; decide, by rw [hRl]; decide⟩ dX13_recordAt_37 ?_
          unfold kX13_recordAt_40
          exact S_lreturn (pc := 40) hC hr dX13_recordAt_40
        · exact hJ 22
  have hB22 : zin 2 [] (aX13_recordAt_22 mc ms X Q) X 22 := by
    intro u v vs st M hb
    rw [hXe]
    refine fun lv hp => S_block (L := 22) (live := []) ?_ u v lv vs st M hp hb
    unfold aX13_recordAt_22
    refine S_lconst (pc := 22) hC dX13_recordAt_22 (by decide) ?_
    exact S_lreturn (pc := 23) hC hr dX13_recordAt_23
  have := h.2 X hB0 hB22
  rw [hXe] at this
  exact this lv hlv
theorem vX13_recordAt_0 {mc ms : Nat} {X : Nat → zV} {Q : zQt} {M : zM} {x1 : Int32} (hW : zFix M)  (h : ∀ M2 : zM, M2 = (zsI M 55 0 0) → ((M2.1 55 7) = 0 → X 22 0 0 [] [] M2) ∧ (¬ (M2.1 55 7) = 0 → (x1 < 0 → X 22 0 0 [] [] M2) ∧ (¬ x1 < 0 → (x1 ≤ (20 : Int32) → wX13_show 0 0 [.ref 55] M2 (fun r M1 => kX13_recordAt_28 mc ms X Q 0 0 [some (.ref 55), some (.int x1)] (r.toList ++ []) M1)) ∧ (¬ x1 ≤ (20 : Int32) → X 22 0 0 [] [] M2)))) : aX13_recordAt_0 mc ms X Q 0 0 [some (.ref 55), some (.int x1)] [] M := ⟨(fxs_55 hW), (have h2 := h _ rfl; ⟨(fxs_55 hW), ⟨fun c9 => (h2.1 c9), fun c9 => ⟨fun c13 => ((h2.2 c9).1 c13), fun c13 => ⟨fun c19 => ⟨Nat.le_of_ble_eq_true rfl, rfl, (fxs_55 hW), 0, 0, Nat.zero_le _, Nat.zero_le _, (((h2.2 c9).2 c13).1 c19)⟩, fun c19 => (((h2.2 c9).2 c13).2 c19)⟩⟩⟩⟩)⟩
theorem vX13_recordAt_22 {mc ms : Nat} {X : Nat → zV} {Q : zQt} {M : zM}  (hW : zFix M)  (h : Q (some (.long 0)) M) : aX13_recordAt_22 mc ms X Q 0 0 [none, none] [] M := h
theorem vkX13_recordAt_28 {mc ms : Nat} {X : Nat → zV} {Q : zQt} {M : zM} {x1 : Int32} (hW : zFix M)  (h : wX13_sayRecord 0 0 [.ref 55] M (fun r M1 => kX13_recordAt_32 mc ms X Q 0 0 [some (.ref 55), some (.int x1)] (r.toList ++ []) M1)) : kX13_recordAt_28 mc ms X Q 0 0 [some (.ref 55), some (.int x1)] [] M := ⟨Nat.le_of_ble_eq_true rfl, rfl, (fxs_55 hW), 0, 0, Nat.zero_le _, Nat.zero_le _, h⟩
theorem vkX13_recordAt_32 {mc ms : Nat} {X : Nat → zV} {Q : zQt} {M : zM} {x1 : Int32} (hW : zFix M)  (h : wX13_packed 0 0 [.ref 55, .int ((8 : Int32) * x1)] M (fun r M1 => kX13_recordAt_40 mc ms X Q 0 0 [some (.ref 55), some (.int x1)] (r.toList ++ []) M1)) : kX13_recordAt_32 mc ms X Q 0 0 [some (.ref 55), some (.int x1)] [] M := ⟨Nat.le_of_ble_eq_true rfl, rfl, (fxs_55 hW), 0, 0, Nat.zero_le _, Nat.zero_le _, h⟩
theorem vkX13_recordAt_40 {mc ms : Nat} {X : Nat → zV} {Q : zQt} {M : zM} {x1 : Int32} {s0 : Int64} (hW : zFix M)  (h : Q (some (.long s0)) M) : kX13_recordAt_40 mc ms X Q 0 0 [some (.ref 55), some (.int x1)] [.long s0] M := h
theorem dX13_manOn_0 : decode cX13_manOn 0 = .ok (.aload_n 0, 1) := by decide +kernel
theorem dX13_manOn_1 : decode cX13_manOn 1 = .ok (.iconst 0, 1) := by decide +kernel
theorem dX13_manOn_2 : decode cX13_manOn 2 = .ok (.putfield 68, 3) := by decide +kernel
theorem dX13_manOn_5 : decode cX13_manOn 5 = .ok (.aload_n 0, 1) := by decide +kernel
theorem dX13_manOn_6 : decode cX13_manOn 6 = .ok (.getfield 177, 3) := by decide +kernel
theorem dX13_manOn_9 : decode cX13_manOn 9 = .ok (.ifCond .eq 13, 3) := by decide +kernel
theorem dX13_manOn_12 : decode cX13_manOn 12 = .ok (.iload_n 1, 1) := by decide +kernel
theorem dX13_manOn_13 : decode cX13_manOn 13 = .ok (.ifCond .lt 9, 3) := by decide +kernel
theorem dX13_manOn_16 : decode cX13_manOn 16 = .ok (.iload_n 1, 1) := by decide +kernel
theorem dX13_manOn_17 : decode cX13_manOn 17 = .ok (.bipush 63, 2) := by decide +kernel
theorem dX13_manOn_19 : decode cX13_manOn 19 = .ok (.if_icmp .le 7, 3) := by decide +kernel
theorem dX13_manOn_22 : decode cX13_manOn 22 = .ok (.iconst (-1), 1) := by decide +kernel
theorem dX13_manOn_23 : decode cX13_manOn 23 = .ok (.goto 29, 3) := by decide +kernel
theorem dX13_manOn_26 : decode cX13_manOn 26 = .ok (.aload_n 0, 1) := by decide +kernel
theorem dX13_manOn_27 : decode cX13_manOn 27 = .ok (.getfield 18, 3) := by decide +kernel
theorem dX13_manOn_30 : decode cX13_manOn 30 = .ok (.bipush 69, 2) := by decide +kernel
theorem dX13_manOn_32 : decode cX13_manOn 32 = .ok (.aload_n 0, 1) := by decide +kernel
theorem dX13_manOn_33 : decode cX13_manOn 33 = .ok (.invokevirtual 126, 3) := by decide +kernel
theorem dX13_manOn_36 : decode cX13_manOn 36 = .ok (.aload_n 0, 1) := by decide +kernel
theorem dX13_manOn_37 : decode cX13_manOn 37 = .ok (.getfield 22, 3) := by decide +kernel
theorem dX13_manOn_40 : decode cX13_manOn 40 = .ok (.aload_n 0, 1) := by decide +kernel
theorem dX13_manOn_41 : decode cX13_manOn 41 = .ok (.getfield 123, 3) := by decide +kernel
theorem dX13_manOn_44 : decode cX13_manOn 44 = .ok (.iaload, 1) := by decide +kernel
theorem dX13_manOn_45 : decode cX13_manOn 45 = .ok (.iadd, 1) := by decide +kernel
theorem dX13_manOn_46 : decode cX13_manOn 46 = .ok (.iconst 1, 1) := by decide +kernel
theorem dX13_manOn_47 : decode cX13_manOn 47 = .ok (.isub, 1) := by decide +kernel
theorem dX13_manOn_48 : decode cX13_manOn 48 = .ok (.imul, 1) := by decide +kernel
theorem dX13_manOn_49 : decode cX13_manOn 49 = .ok (.iload_n 1, 1) := by decide +kernel
theorem dX13_manOn_50 : decode cX13_manOn 50 = .ok (.iadd, 1) := by decide +kernel
theorem dX13_manOn_51 : decode cX13_manOn 51 = .ok (.iaload, 1) := by decide +kernel
theorem dX13_manOn_52 : decode cX13_manOn 52 = .ok (.ireturn, 1) := by decide +kernel
def kX13_manOn_36 (mc ms : Nat) (X : Nat → zV) (Q : zQt) : zT :=
  zla 0 <| zgR 13 9 <| zla 0 <| zgi 13 6 <| zal 1 <| zii (fun x y => x + y) <| zc (.int 1) <| zii (fun x y => x - y) <| zii (fun x y => x * y) <| zli 1 <| zii (fun x y => x + y) <| zal 1 <| zj X 52 []
def aX13_manOn_0 (mc ms : Nat) (X : Nat → zV) (Q : zQt) : zT :=
  zla 0 <| zc (.int 0) <| zpi 13 0 <| zla 0 <| zgi 13 7 <| zif (fun x => x = 0) (zj X 22 []) <| zli 1 <| zif (fun x => x < 0) (zj X 22 []) <| zli 1 <| zc (.int 63) <| zic (fun x y => x ≤ y) (zla 0 <| zgR 13 8 <| zc (.int 69) <| zla 0 <| zcv mc ms 13 0 wX13_base <| kX13_manOn_36 mc ms X Q) <| zj X 22 []
def aX13_manOn_22 (mc ms : Nat) (X : Nat → zV) (Q : zQt) : zT :=
  zc (.int (-1)) <| zj X 52 []
def aX13_manOn_52 (mc ms : Nat) (X : Nat → zV) (Q : zQt) : zT :=
  zri Q
def lvX13_manOn : Nat → List Nat := fun L => match L with
  | 0 => [0, 1]
  | 22 => []
  | 52 => []
  | _ => []
def wX13_manOn : zSp := fun mc ms av M Q => ((zlay av).length ≤ 2 ∧ zpick (zlay av) [0, 1] = some av) ∧ ∀ X : Nat → zV, zin 2 [0, 1] (aX13_manOn_0 mc ms X Q) X 0 → zin 2 [] (aX13_manOn_22 mc ms X Q) X 22 → zin 2 [] (aX13_manOn_52 mc ms X Q) X 52 → X 0 0 0 av [] M
set_option maxRecDepth 100000 in
set_option maxHeartbeats 4000000 in
theorem sX13_manOn (l : Launch) (G : zG) : zSnd l G yX13_manOn cX13_manOn 2 (some .int) 1 20 wX13_manOn := by
  refine zmk [0, 1] (by decide) (fun mc ms av M Q h => h.1) ?_
  intro p e R s m args below meth c mc ms av M Q hC hRf hRl hr hnm h lv hlv
  obtain ⟨X, hXe⟩ : ∃ X : Nat → zV, X = fun L u v vs st M => ∀ lv, zpick lv (lvX13_manOn L) = some vs → zAt p l e R s m args below meth c (MQ below (zQ G Q) args s mc ms (zA G)) G 2 L u v lv st M := ⟨_, rfl⟩
  have hJ : ∀ L, zOk p l e R s m args below meth c (MQ below (zQ G Q) args s mc ms (zA G)) G 2 L (zj X L (lvX13_manOn L)) := fun L => S_jump (fun u v lv vs st M hp hx => by rw [hXe] at hx; exact hx lv hp)
  have hB0 : zin 2 [0, 1] (aX13_manOn_0 mc ms X Q) X 0 := by
    intro u v vs st M hb
    rw [hXe]
    refine fun lv hp => S_block (L := 0) (live := [0, 1]) ?_ u v lv vs st M hp hb
    unfold aX13_manOn_0
    refine S_aload_n (pc := 0) hC dX13_manOn_0 rfl ?_
    refine S_iconst (pc := 1) hC dX13_manOn_1 (by decide) ?_
    refine S_puti (pc := 2) hC cfX13 (by decide) rfl (Or.inl rfl) wd_1255 dX13_manOn_2 ?_
    refine S_aload_n (pc := 5) hC dX13_manOn_5 rfl ?_
    refine S_geti (pc := 6) hC cfX13 (by decide) (Or.inr rfl) wd_1262 dX13_manOn_6 ?_
    refine S_if_eq (pc := 9) (tgt := 22) hC dX13_manOn_9 (by decide) ?_ ?_
    · exact hJ 22
    · refine S_iload_n (pc := 12) hC dX13_manOn_12 rfl ?_
      refine S_if_lt (pc := 13) (tgt := 22) hC dX13_manOn_13 (by decide) ?_ ?_
      · exact hJ 22
      · refine S_iload_n (pc := 16) hC dX13_manOn_16 rfl ?_
        refine S_bipush (pc := 17) hC dX13_manOn_17 (by decide) ?_
        refine S_icmp_le (pc := 19) (tgt := 26) hC dX13_manOn_19 (by decide) ?_ ?_
        · refine S_aload_n (pc := 26) hC dX13_manOn_26 rfl ?_
          refine S_getR (pc := 27) hC cfX13 (by decide) (Or.inr ⟨_, rfl⟩) wd_1263 dX13_manOn_27 ?_
          refine S_bipush (pc := 30) hC dX13_manOn_30 (by decide) ?_
          refine S_aload_n (pc := 32) hC dX13_manOn_32 rfl ?_
          refine S_callV (pc := 33) hC (sX13_base l G) rfl wd_1439 wd_1441 ws_71 wd_12 wd_1442 (by decide +kernel) ⟨by rw [hRf]; decide, by rw [hRl]; decide⟩ dX13_manOn_33 ?_
          unfold kX13_manOn_36
          refine S_aload_n (pc := 36) hC dX13_manOn_36 rfl ?_
          refine S_getR (pc := 37) hC cfX13 (by decide) (Or.inr ⟨_, rfl⟩) wd_1264 dX13_manOn_37 ?_
          refine S_aload_n (pc := 40) hC dX13_manOn_40 rfl ?_
          refine S_geti (pc := 41) hC cfX13 (by decide) (Or.inl rfl) wd_1261 dX13_manOn_41 ?_
          refine S_iaload (pc := 44) hC dX13_manOn_44 ?_
          refine S_iadd (pc := 45) hC dX13_manOn_45 ?_
          refine S_iconst (pc := 46) hC dX13_manOn_46 (by decide) ?_
          refine S_isub (pc := 47) hC dX13_manOn_47 ?_
          refine S_imul (pc := 48) hC dX13_manOn_48 ?_
          refine S_iload_n (pc := 49) hC dX13_manOn_49 rfl ?_
          refine S_iadd (pc := 50) hC dX13_manOn_50 ?_
          refine S_iaload (pc := 51) hC dX13_manOn_51 ?_
          exact hJ 52
        · exact hJ 22
  have hB22 : zin 2 [] (aX13_manOn_22 mc ms X Q) X 22 := by
    intro u v vs st M hb
    rw [hXe]
    refine fun lv hp => S_block (L := 22) (live := []) ?_ u v lv vs st M hp hb
    unfold aX13_manOn_22
    refine S_iconst (pc := 22) hC dX13_manOn_22 (by decide) ?_
    refine S_goto (pc := 23) (tgt := 52) hC dX13_manOn_23 (by decide) ?_
    exact hJ 52
  have hB52 : zin 2 [] (aX13_manOn_52 mc ms X Q) X 52 := by
    intro u v vs st M hb
    rw [hXe]
    refine fun lv hp => S_block (L := 52) (live := []) ?_ u v lv vs st M hp hb
    unfold aX13_manOn_52
    exact S_ireturn (pc := 52) hC hr dX13_manOn_52
  have := h.2 X hB0 hB22 hB52
  rw [hXe] at this
  exact this lv hlv
theorem vX13_manOn_0 {mc ms : Nat} {X : Nat → zV} {Q : zQt} {M : zM} {x1 : Int32} (hW : zFix M)  (h : ∀ M2 : zM, M2 = (zsI M 55 0 0) → ((M2.1 55 7) = 0 → X 22 0 0 [] [] M2) ∧ (¬ (M2.1 55 7) = 0 → (x1 < 0 → X 22 0 0 [] [] M2) ∧ (¬ x1 < 0 → (x1 ≤ (63 : Int32) → wX13_base 0 0 [.ref 55] M2 (fun r M1 => kX13_manOn_36 mc ms X Q 0 0 [some (.ref 55), some (.int x1)] (r.toList ++ [.int 69, .ref 57]) M1)) ∧ (¬ x1 ≤ (63 : Int32) → X 22 0 0 [] [] M2)))) : aX13_manOn_0 mc ms X Q 0 0 [some (.ref 55), some (.int x1)] [] M := ⟨(fxs_55 hW), (have h2 := h _ rfl; ⟨(fxs_55 hW), ⟨fun c9 => (h2.1 c9), fun c9 => ⟨fun c13 => ((h2.2 c9).1 c13), fun c13 => ⟨fun c19 => ⟨(fxs_55 hW), 57, (fxr_55_8 hW), ⟨Nat.le_of_ble_eq_true rfl, rfl, (fxs_55 hW), 0, 0, Nat.zero_le _, Nat.zero_le _, (((h2.2 c9).2 c13).1 c19)⟩⟩, fun c19 => (((h2.2 c9).2 c13).2 c19)⟩⟩⟩⟩)⟩
theorem vX13_manOn_22 {mc ms : Nat} {X : Nat → zV} {Q : zQt} {M : zM}  (hW : zFix M)  (h : X 52 0 0 [] [.int (-1)] M) : aX13_manOn_22 mc ms X Q 0 0 [none, none] [] M := h
theorem vX13_manOn_52 {mc ms : Nat} {X : Nat → zV} {Q : zQt} {M : zM} {s0 : Int32} (hW : zFix M)  (h : Q (some (.int s0)) M) : aX13_manOn_52 mc ms X Q 0 0 [none, none] [.int s0] M := h
theorem vkX13_manOn_36 {mc ms : Nat} {X : Nat → zV} {Q : zQt} {M : zM} {x1 : Int32} {s0 : Int32} {s1 : Int32} (hW : zFix M)  (h : vp_in ((M.1 55 6)) 2 ∧ vp_in (((s1 * ((s0 + ((M : zM).1 58 ((M.1 55 6) : Int32).toNatClampNeg)) - (1 : Int32))) + x1)) 82938 ∧ X 52 0 0 [] [.int ((M : zM).1 57 (((s1 * ((s0 + ((M : zM).1 58 ((M.1 55 6) : Int32).toNatClampNeg)) - (1 : Int32))) + x1) : Int32).toNatClampNeg)] M) : kX13_manOn_36 mc ms X Q 0 0 [some (.ref 55), some (.int x1)] [.int s0, .int s1, .ref 57] M := ⟨(fxs_55 hW), 58, (fxr_55_9 hW), ⟨(fxs_55 hW), ⟨2, (fxs_58 hW), h.1, ⟨82938, (fxs_57 hW), h.2.1, h.2.2⟩⟩⟩⟩
