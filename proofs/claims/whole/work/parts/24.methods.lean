theorem dX13_readMoves_0 : decode cX13_readMoves 0 = .ok (.aload_n 0, 1) := by decide +kernel
theorem dX13_readMoves_1 : decode cX13_readMoves 1 = .ok (.getfield 171, 3) := by decide +kernel
theorem dX13_readMoves_4 : decode cX13_readMoves 4 = .ok (.ifCond .ne 142, 3) := by decide +kernel
theorem dX13_readMoves_7 : decode cX13_readMoves 7 = .ok (.aload_n 0, 1) := by decide +kernel
theorem dX13_readMoves_8 : decode cX13_readMoves 8 = .ok (.getfield 159, 3) := by decide +kernel
theorem dX13_readMoves_11 : decode cX13_readMoves 11 = .ok (.aload_n 0, 1) := by decide +kernel
theorem dX13_readMoves_12 : decode cX13_readMoves 12 = .ok (.getfield 162, 3) := by decide +kernel
theorem dX13_readMoves_15 : decode cX13_readMoves 15 = .ok (.if_icmp .ge 131, 3) := by decide +kernel
theorem dX13_readMoves_18 : decode cX13_readMoves 18 = .ok (.aload_n 0, 1) := by decide +kernel
theorem dX13_readMoves_19 : decode cX13_readMoves 19 = .ok (.dup, 1) := by decide +kernel
theorem dX13_readMoves_20 : decode cX13_readMoves 20 = .ok (.getfield 159, 3) := by decide +kernel
theorem dX13_readMoves_23 : decode cX13_readMoves 23 = .ok (.iconst 1, 1) := by decide +kernel
theorem dX13_readMoves_24 : decode cX13_readMoves 24 = .ok (.iadd, 1) := by decide +kernel
theorem dX13_readMoves_25 : decode cX13_readMoves 25 = .ok (.putfield 159, 3) := by decide +kernel
theorem dX13_readMoves_28 : decode cX13_readMoves 28 = .ok (.aload_n 0, 1) := by decide +kernel
theorem dX13_readMoves_29 : decode cX13_readMoves 29 = .ok (.getfield 159, 3) := by decide +kernel
theorem dX13_readMoves_32 : decode cX13_readMoves 32 = .ok (.istore_n 1, 1) := by decide +kernel
theorem dX13_readMoves_33 : decode cX13_readMoves 33 = .ok (.aload_n 0, 1) := by decide +kernel
theorem dX13_readMoves_34 : decode cX13_readMoves 34 = .ok (.getfield 159, 3) := by decide +kernel
theorem dX13_readMoves_37 : decode cX13_readMoves 37 = .ok (.aload_n 0, 1) := by decide +kernel
theorem dX13_readMoves_38 : decode cX13_readMoves 38 = .ok (.getfield 162, 3) := by decide +kernel
theorem dX13_readMoves_41 : decode cX13_readMoves 41 = .ok (.if_icmp .ge 30, 3) := by decide +kernel
theorem dX13_readMoves_44 : decode cX13_readMoves 44 = .ok (.aload_n 0, 1) := by decide +kernel
theorem dX13_readMoves_45 : decode cX13_readMoves 45 = .ok (.getfield 7, 3) := by decide +kernel
theorem dX13_readMoves_48 : decode cX13_readMoves 48 = .ok (.aload_n 0, 1) := by decide +kernel
theorem dX13_readMoves_49 : decode cX13_readMoves 49 = .ok (.getfield 159, 3) := by decide +kernel
theorem dX13_readMoves_52 : decode cX13_readMoves 52 = .ok (.baload, 1) := by decide +kernel
theorem dX13_readMoves_53 : decode cX13_readMoves 53 = .ok (.bipush 32, 2) := by decide +kernel
theorem dX13_readMoves_55 : decode cX13_readMoves 55 = .ok (.if_icmp .eq 16, 3) := by decide +kernel
theorem dX13_readMoves_58 : decode cX13_readMoves 58 = .ok (.aload_n 0, 1) := by decide +kernel
theorem dX13_readMoves_59 : decode cX13_readMoves 59 = .ok (.dup, 1) := by decide +kernel
theorem dX13_readMoves_60 : decode cX13_readMoves 60 = .ok (.getfield 159, 3) := by decide +kernel
theorem dX13_readMoves_63 : decode cX13_readMoves 63 = .ok (.iconst 1, 1) := by decide +kernel
theorem dX13_readMoves_64 : decode cX13_readMoves 64 = .ok (.iadd, 1) := by decide +kernel
theorem dX13_readMoves_65 : decode cX13_readMoves 65 = .ok (.putfield 159, 3) := by decide +kernel
theorem dX13_readMoves_68 : decode cX13_readMoves 68 = .ok (.goto (-35), 3) := by decide +kernel
theorem dX13_readMoves_71 : decode cX13_readMoves 71 = .ok (.aload_n 0, 1) := by decide +kernel
theorem dX13_readMoves_72 : decode cX13_readMoves 72 = .ok (.invokevirtual 289, 3) := by decide +kernel
theorem dX13_readMoves_75 : decode cX13_readMoves 75 = .ok (.ifCond .ne 18, 3) := by decide +kernel
theorem dX13_readMoves_78 : decode cX13_readMoves 78 = .ok (.aload_n 0, 1) := by decide +kernel
theorem dX13_readMoves_79 : decode cX13_readMoves 79 = .ok (.getfield 22, 3) := by decide +kernel
theorem dX13_readMoves_82 : decode cX13_readMoves 82 = .ok (.aload_n 0, 1) := by decide +kernel
theorem dX13_readMoves_83 : decode cX13_readMoves 83 = .ok (.getfield 123, 3) := by decide +kernel
theorem dX13_readMoves_86 : decode cX13_readMoves 86 = .ok (.iaload, 1) := by decide +kernel
theorem dX13_readMoves_87 : decode cX13_readMoves 87 = .ok (.sipush 601, 3) := by decide +kernel
theorem dX13_readMoves_90 : decode cX13_readMoves 90 = .ok (.if_icmp .ne 8, 3) := by decide +kernel
theorem dX13_readMoves_93 : decode cX13_readMoves 93 = .ok (.bipush (-20), 2) := by decide +kernel
theorem dX13_readMoves_95 : decode cX13_readMoves 95 = .ok (.goto 14, 3) := by decide +kernel
theorem dX13_readMoves_98 : decode cX13_readMoves 98 = .ok (.aload_n 0, 1) := by decide +kernel
theorem dX13_readMoves_99 : decode cX13_readMoves 99 = .ok (.iload_n 1, 1) := by decide +kernel
theorem dX13_readMoves_100 : decode cX13_readMoves 100 = .ok (.aload_n 0, 1) := by decide +kernel
theorem dX13_readMoves_101 : decode cX13_readMoves 101 = .ok (.getfield 159, 3) := by decide +kernel
theorem dX13_readMoves_104 : decode cX13_readMoves 104 = .ok (.iload_n 1, 1) := by decide +kernel
theorem dX13_readMoves_105 : decode cX13_readMoves 105 = .ok (.isub, 1) := by decide +kernel
theorem dX13_readMoves_106 : decode cX13_readMoves 106 = .ok (.invokevirtual 292, 3) := by decide +kernel
theorem dX13_readMoves_109 : decode cX13_readMoves 109 = .ok (.istore_n 2, 1) := by decide +kernel
theorem dX13_readMoves_110 : decode cX13_readMoves 110 = .ok (.iload_n 2, 1) := by decide +kernel
theorem dX13_readMoves_111 : decode cX13_readMoves 111 = .ok (.ifCond .ge 27, 3) := by decide +kernel
theorem dX13_readMoves_114 : decode cX13_readMoves 114 = .ok (.aload_n 0, 1) := by decide +kernel
theorem dX13_readMoves_115 : decode cX13_readMoves 115 = .ok (.iload_n 2, 1) := by decide +kernel
theorem dX13_readMoves_116 : decode cX13_readMoves 116 = .ok (.ineg, 1) := by decide +kernel
theorem dX13_readMoves_117 : decode cX13_readMoves 117 = .ok (.putfield 171, 3) := by decide +kernel
theorem dX13_readMoves_120 : decode cX13_readMoves 120 = .ok (.aload_n 0, 1) := by decide +kernel
theorem dX13_readMoves_121 : decode cX13_readMoves 121 = .ok (.aload_n 0, 1) := by decide +kernel
theorem dX13_readMoves_122 : decode cX13_readMoves 122 = .ok (.getfield 22, 3) := by decide +kernel
theorem dX13_readMoves_125 : decode cX13_readMoves 125 = .ok (.aload_n 0, 1) := by decide +kernel
theorem dX13_readMoves_126 : decode cX13_readMoves 126 = .ok (.getfield 123, 3) := by decide +kernel
theorem dX13_readMoves_129 : decode cX13_readMoves 129 = .ok (.iaload, 1) := by decide +kernel
theorem dX13_readMoves_130 : decode cX13_readMoves 130 = .ok (.iconst 1, 1) := by decide +kernel
theorem dX13_readMoves_131 : decode cX13_readMoves 131 = .ok (.isub, 1) := by decide +kernel
theorem dX13_readMoves_132 : decode cX13_readMoves 132 = .ok (.putfield 13, 3) := by decide +kernel
theorem dX13_readMoves_135 : decode cX13_readMoves 135 = .ok (.goto 8, 3) := by decide +kernel
theorem dX13_readMoves_138 : decode cX13_readMoves 138 = .ok (.aload_n 0, 1) := by decide +kernel
theorem dX13_readMoves_139 : decode cX13_readMoves 139 = .ok (.iload_n 2, 1) := by decide +kernel
theorem dX13_readMoves_140 : decode cX13_readMoves 140 = .ok (.invokevirtual 295, 3) := by decide +kernel
theorem dX13_readMoves_143 : decode cX13_readMoves 143 = .ok (.goto (-143), 3) := by decide +kernel
theorem dX13_readMoves_146 : decode cX13_readMoves 146 = .ok (.return_, 1) := by decide +kernel
def kX13_readMoves_109 (mc ms : Nat) (X : Nat → zV) (Q : zQt) : zT :=
  zj X 109 [0]
def kX13_readMoves_75 (mc ms : Nat) (X : Nat → zV) (Q : zQt) : zT :=
  zif (fun x => x = 0) (zla 0 <| zgR 13 9 <| zla 0 <| zgi 13 6 <| zal 1 <| zc (.int 601) <| zic (fun x y => x = y) (zj X 93 [0]) <| zla 0 <| zli 1 <| zla 0 <| zgi 13 21 <| zli 1 <| zii (fun x y => x - y) <| zcv mc ms 13 2 wX13_find <| kX13_readMoves_109 mc ms X Q) <| zj X 93 [0]
def kX13_readMoves_143 (mc ms : Nat) (X : Nat → zV) (Q : zQt) : zT :=
  zj X 143 [0]
def aX13_readMoves_0 (mc ms : Nat) (X : Nat → zV) (Q : zQt) : zT :=
  zla 0 <| zgi 13 3 <| zif (fun x => x = 0) (zla 0 <| zgi 13 21 <| zla 0 <| zgi 13 22 <| zic (fun x y => y ≤ x) (zj X 146 []) <| zla 0 <| zdup <| zgi 13 21 <| zc (.int 1) <| zii (fun x y => x + y) <| zpi 13 21 <| zla 0 <| zgi 13 21 <| zsi 1 <| zj X 33 [0, 1]) <| zj X 146 []
def aX13_readMoves_33 (mc ms : Nat) (X : Nat → zV) (Q : zQt) : zT :=
  zla 0 <| zgi 13 21 <| zla 0 <| zgi 13 22 <| zic (fun x y => y ≤ x) (zj X 71 [0, 1]) <| zla 0 <| zgR 13 1 <| zla 0 <| zgi 13 21 <| zal 3 <| zc (.int 32) <| zic (fun x y => x = y) (zj X 71 [0, 1]) <| zla 0 <| zdup <| zgi 13 21 <| zc (.int 1) <| zii (fun x y => x + y) <| zpi 13 21 <| zj X 33 [0, 1]
def aX13_readMoves_71 (mc ms : Nat) (X : Nat → zV) (Q : zQt) : zT :=
  zla 0 <| zcv mc ms 13 0 wX13_hasEnded <| kX13_readMoves_75 mc ms X Q
def aX13_readMoves_93 (mc ms : Nat) (X : Nat → zV) (Q : zQt) : zT :=
  zc (.int (-20)) <| zj X 109 [0]
def aX13_readMoves_109 (mc ms : Nat) (X : Nat → zV) (Q : zQt) : zT :=
  zsi 2 <| zli 2 <| zif (fun x => 0 ≤ x) (zla 0 <| zli 2 <| zcv mc ms 13 1 wX13_play <| kX13_readMoves_143 mc ms X Q) <| zla 0 <| zli 2 <| zi1 (fun x => -x) <| zpi 13 3 <| zla 0 <| zla 0 <| zgR 13 9 <| zla 0 <| zgi 13 6 <| zal 1 <| zc (.int 1) <| zii (fun x y => x - y) <| zpi 13 4 <| zj X 143 [0]
def aX13_readMoves_143 (mc ms : Nat) (X : Nat → zV) (Q : zQt) : zT :=
  zj X 0 [0]
def aX13_readMoves_146 (mc ms : Nat) (X : Nat → zV) (Q : zQt) : zT :=
  zrv Q
def lvX13_readMoves : Nat → List Nat := fun L => match L with
  | 0 => [0]
  | 33 => [0, 1]
  | 71 => [0, 1]
  | 93 => [0]
  | 109 => [0]
  | 143 => [0]
  | 146 => []
  | _ => []
def wX13_readMoves : zSp := fun mc ms av M Q => ((zlay av).length ≤ 3 ∧ zpick (zlay av) [0] = some av) ∧ ∀ X : Nat → zV, zin 3 [0] (aX13_readMoves_0 mc ms X Q) X 0 → zin 3 [0, 1] (aX13_readMoves_33 mc ms X Q) X 33 → zin 3 [0, 1] (aX13_readMoves_71 mc ms X Q) X 71 → zin 3 [0] (aX13_readMoves_93 mc ms X Q) X 93 → zin 3 [0] (aX13_readMoves_109 mc ms X Q) X 109 → zin 3 [0] (aX13_readMoves_143 mc ms X Q) X 143 → zin 3 [] (aX13_readMoves_146 mc ms X Q) X 146 → X 0 0 0 av [] M
set_option maxRecDepth 100000 in
set_option maxHeartbeats 4000000 in
theorem sX13_readMoves (l : Launch) (G : zG) : zSnd l G yX13_readMoves cX13_readMoves 3 none 9 231 wX13_readMoves := by
  refine zmk [0] (by decide) (fun mc ms av M Q h => h.1) ?_
  intro p e R s m args below meth c mc ms av M Q hC hRf hRl hr hnm h lv hlv
  obtain ⟨X, hXe⟩ : ∃ X : Nat → zV, X = fun L u v vs st M => ∀ lv, zpick lv (lvX13_readMoves L) = some vs → zAt p l e R s m args below meth c (MQ below (zQ G Q) args s mc ms (zA G)) G 3 L u v lv st M := ⟨_, rfl⟩
  have hJ : ∀ L, zOk p l e R s m args below meth c (MQ below (zQ G Q) args s mc ms (zA G)) G 3 L (zj X L (lvX13_readMoves L)) := fun L => S_jump (fun u v lv vs st M hp hx => by rw [hXe] at hx; exact hx lv hp)
  have hB0 : zin 3 [0] (aX13_readMoves_0 mc ms X Q) X 0 := by
    intro u v vs st M hb
    rw [hXe]
    refine fun lv hp => S_block (L := 0) (live := [0]) ?_ u v lv vs st M hp hb
    unfold aX13_readMoves_0
    refine S_aload_n (pc := 0) hC dX13_readMoves_0 rfl ?_
    refine S_geti (pc := 1) hC cfX13 (by decide) (Or.inl rfl) wd_1258 dX13_readMoves_1 ?_
    refine S_if_ne (pc := 4) (tgt := 146) hC dX13_readMoves_4 (by decide) ?_ ?_
    · exact hJ 146
    · refine S_aload_n (pc := 7) hC dX13_readMoves_7 rfl ?_
      refine S_geti (pc := 8) hC cfX13 (by decide) (Or.inl rfl) wd_1276 dX13_readMoves_8 ?_
      refine S_aload_n (pc := 11) hC dX13_readMoves_11 rfl ?_
      refine S_geti (pc := 12) hC cfX13 (by decide) (Or.inl rfl) wd_1277 dX13_readMoves_12 ?_
      refine S_icmp_ge (pc := 15) (tgt := 146) hC dX13_readMoves_15 (by decide) ?_ ?_
      · exact hJ 146
      · refine S_aload_n (pc := 18) hC dX13_readMoves_18 rfl ?_
        refine S_dup (pc := 19) hC dX13_readMoves_19 ?_
        refine S_geti (pc := 20) hC cfX13 (by decide) (Or.inl rfl) wd_1276 dX13_readMoves_20 ?_
        refine S_iconst (pc := 23) hC dX13_readMoves_23 (by decide) ?_
        refine S_iadd (pc := 24) hC dX13_readMoves_24 ?_
        refine S_puti (pc := 25) hC cfX13 (by decide) rfl (Or.inl rfl) wd_1276 dX13_readMoves_25 ?_
        refine S_aload_n (pc := 28) hC dX13_readMoves_28 rfl ?_
        refine S_geti (pc := 29) hC cfX13 (by decide) (Or.inl rfl) wd_1276 dX13_readMoves_29 ?_
        refine S_istore_n (pc := 32) hC dX13_readMoves_32 rfl (by decide) ?_
        exact hJ 33
  have hB33 : zin 3 [0, 1] (aX13_readMoves_33 mc ms X Q) X 33 := by
    intro u v vs st M hb
    rw [hXe]
    refine fun lv hp => S_block (L := 33) (live := [0, 1]) ?_ u v lv vs st M hp hb
    unfold aX13_readMoves_33
    refine S_aload_n (pc := 33) hC dX13_readMoves_33 rfl ?_
    refine S_geti (pc := 34) hC cfX13 (by decide) (Or.inl rfl) wd_1276 dX13_readMoves_34 ?_
    refine S_aload_n (pc := 37) hC dX13_readMoves_37 rfl ?_
    refine S_geti (pc := 38) hC cfX13 (by decide) (Or.inl rfl) wd_1277 dX13_readMoves_38 ?_
    refine S_icmp_ge (pc := 41) (tgt := 71) hC dX13_readMoves_41 (by decide) ?_ ?_
    · exact hJ 71
    · refine S_aload_n (pc := 44) hC dX13_readMoves_44 rfl ?_
      refine S_getR (pc := 45) hC cfX13 (by decide) (Or.inr ⟨_, rfl⟩) wd_1256 dX13_readMoves_45 ?_
      refine S_aload_n (pc := 48) hC dX13_readMoves_48 rfl ?_
      refine S_geti (pc := 49) hC cfX13 (by decide) (Or.inl rfl) wd_1276 dX13_readMoves_49 ?_
      refine S_baload (pc := 52) hC dX13_readMoves_52 ?_
      refine S_bipush (pc := 53) hC dX13_readMoves_53 (by decide) ?_
      refine S_icmp_eq (pc := 55) (tgt := 71) hC dX13_readMoves_55 (by decide) ?_ ?_
      · exact hJ 71
      · refine S_aload_n (pc := 58) hC dX13_readMoves_58 rfl ?_
        refine S_dup (pc := 59) hC dX13_readMoves_59 ?_
        refine S_geti (pc := 60) hC cfX13 (by decide) (Or.inl rfl) wd_1276 dX13_readMoves_60 ?_
        refine S_iconst (pc := 63) hC dX13_readMoves_63 (by decide) ?_
        refine S_iadd (pc := 64) hC dX13_readMoves_64 ?_
        refine S_puti (pc := 65) hC cfX13 (by decide) rfl (Or.inl rfl) wd_1276 dX13_readMoves_65 ?_
        refine S_goto (pc := 68) (tgt := 33) hC dX13_readMoves_68 (by decide) ?_
        exact hJ 33
  have hB71 : zin 3 [0, 1] (aX13_readMoves_71 mc ms X Q) X 71 := by
    intro u v vs st M hb
    rw [hXe]
    refine fun lv hp => S_block (L := 71) (live := [0, 1]) ?_ u v lv vs st M hp hb
    unfold aX13_readMoves_71
    refine S_aload_n (pc := 71) hC dX13_readMoves_71 rfl ?_
    refine S_callV (pc := 72) hC (sX13_hasEnded l G) rfl wd_1504 wd_1506 ws_85 wd_12 wd_1507 (by decide +kernel) ⟨by rw [hRf]; decide, by rw [hRl]; decide⟩ dX13_readMoves_72 ?_
    unfold kX13_readMoves_75
    refine S_if_ne (pc := 75) (tgt := 93) hC dX13_readMoves_75 (by decide) ?_ ?_
    · exact hJ 93
    · refine S_aload_n (pc := 78) hC dX13_readMoves_78 rfl ?_
      refine S_getR (pc := 79) hC cfX13 (by decide) (Or.inr ⟨_, rfl⟩) wd_1264 dX13_readMoves_79 ?_
      refine S_aload_n (pc := 82) hC dX13_readMoves_82 rfl ?_
      refine S_geti (pc := 83) hC cfX13 (by decide) (Or.inl rfl) wd_1261 dX13_readMoves_83 ?_
      refine S_iaload (pc := 86) hC dX13_readMoves_86 ?_
      refine S_sipush (pc := 87) hC dX13_readMoves_87 (by decide) ?_
      refine S_icmp_ne (pc := 90) (tgt := 98) hC dX13_readMoves_90 (by decide) ?_ ?_
      · refine S_aload_n (pc := 98) hC dX13_readMoves_98 rfl ?_
        refine S_iload_n (pc := 99) hC dX13_readMoves_99 rfl ?_
        refine S_aload_n (pc := 100) hC dX13_readMoves_100 rfl ?_
        refine S_geti (pc := 101) hC cfX13 (by decide) (Or.inl rfl) wd_1276 dX13_readMoves_101 ?_
        refine S_iload_n (pc := 104) hC dX13_readMoves_104 rfl ?_
        refine S_isub (pc := 105) hC dX13_readMoves_105 ?_
        refine S_callV (pc := 106) hC (sX13_find l G) rfl wd_1512 wd_1514 ws_87 wd_12 wd_1515 (by decide +kernel) ⟨by rw [hRf]; decide, by rw [hRl]; decide⟩ dX13_readMoves_106 ?_
        unfold kX13_readMoves_109
        exact hJ 109
      · exact hJ 93
  have hB93 : zin 3 [0] (aX13_readMoves_93 mc ms X Q) X 93 := by
    intro u v vs st M hb
    rw [hXe]
    refine fun lv hp => S_block (L := 93) (live := [0]) ?_ u v lv vs st M hp hb
    unfold aX13_readMoves_93
    refine S_bipush (pc := 93) hC dX13_readMoves_93 (by decide) ?_
    refine S_goto (pc := 95) (tgt := 109) hC dX13_readMoves_95 (by decide) ?_
    exact hJ 109
  have hB109 : zin 3 [0] (aX13_readMoves_109 mc ms X Q) X 109 := by
    intro u v vs st M hb
    rw [hXe]
    refine fun lv hp => S_block (L := 109) (live := [0]) ?_ u v lv vs st M hp hb
    unfold aX13_readMoves_109
    refine S_istore_n (pc := 109) hC dX13_readMoves_109 rfl (by decide) ?_
    refine S_iload_n (pc := 110) hC dX13_readMoves_110 rfl ?_
    refine S_if_ge (pc := 111) (tgt := 138) hC dX13_readMoves_111 (by decide) ?_ ?_
    · refine S_aload_n (pc := 138) hC dX13_readMoves_138 rfl ?_
      refine S_iload_n (pc := 139) hC dX13_readMoves_139 rfl ?_
      refine S_callV (pc := 140) hC (sX13_play l G) rfl wd_1581 wd_1583 ws_102 wd_12 wd_1584 (by decide +kernel) ⟨by rw [hRf]; decide, by rw [hRl]; decide⟩ dX13_readMoves_140 ?_
      unfold kX13_readMoves_143
      exact hJ 143
    · refine S_aload_n (pc := 114) hC dX13_readMoves_114 rfl ?_
      refine S_iload_n (pc := 115) hC dX13_readMoves_115 rfl ?_
      refine S_ineg (pc := 116) hC dX13_readMoves_116 ?_
      refine S_puti (pc := 117) hC cfX13 (by decide) rfl (Or.inl rfl) wd_1258 dX13_readMoves_117 ?_
      refine S_aload_n (pc := 120) hC dX13_readMoves_120 rfl ?_
      refine S_aload_n (pc := 121) hC dX13_readMoves_121 rfl ?_
      refine S_getR (pc := 122) hC cfX13 (by decide) (Or.inr ⟨_, rfl⟩) wd_1264 dX13_readMoves_122 ?_
      refine S_aload_n (pc := 125) hC dX13_readMoves_125 rfl ?_
      refine S_geti (pc := 126) hC cfX13 (by decide) (Or.inl rfl) wd_1261 dX13_readMoves_126 ?_
      refine S_iaload (pc := 129) hC dX13_readMoves_129 ?_
      refine S_iconst (pc := 130) hC dX13_readMoves_130 (by decide) ?_
      refine S_isub (pc := 131) hC dX13_readMoves_131 ?_
      refine S_puti (pc := 132) hC cfX13 (by decide) rfl (Or.inl rfl) wd_1259 dX13_readMoves_132 ?_
      refine S_goto (pc := 135) (tgt := 143) hC dX13_readMoves_135 (by decide) ?_
      exact hJ 143
  have hB143 : zin 3 [0] (aX13_readMoves_143 mc ms X Q) X 143 := by
    intro u v vs st M hb
    rw [hXe]
    refine fun lv hp => S_block (L := 143) (live := [0]) ?_ u v lv vs st M hp hb
    unfold aX13_readMoves_143
    refine S_goto (pc := 143) (tgt := 0) hC dX13_readMoves_143 (by decide) ?_
    exact hJ 0
  have hB146 : zin 3 [] (aX13_readMoves_146 mc ms X Q) X 146 := by
    intro u v vs st M hb
    rw [hXe]
    refine fun lv hp => S_block (L := 146) (live := []) ?_ u v lv vs st M hp hb
    unfold aX13_readMoves_146
    exact S_vreturn (pc := 146) hC hr dX13_readMoves_146
  have := h.2 X hB0 hB33 hB71 hB93 hB109 hB143 hB146
  rw [hXe] at this
  exact this lv hlv
theorem vX13_readMoves_0 {mc ms : Nat} {X : Nat → zV} {Q : zQt} {M : zM}  (hW : zFix M)  (h : ((M.1 55 3) = 0 → ((M.1 55 22) ≤ (M.1 55 21) → X 146 0 0 [] [] M) ∧ (¬ (M.1 55 22) ≤ (M.1 55 21) → ∀ M25 : zM, M25 = (zsI M 55 21 (((M.1 55 21) + (1 : Int32)))) → X 33 0 0 [.ref 55, .int (M25.1 55 21)] [] M25)) ∧ (¬ (M.1 55 3) = 0 → X 146 0 0 [] [] M)) : aX13_readMoves_0 mc ms X Q 0 0 [some (.ref 55), none, none] [] M := ⟨(fxs_55 hW), ⟨fun c4 => ⟨(fxs_55 hW), ⟨(fxs_55 hW), ⟨fun c15 => ((h.1 c4).1 c15), fun c15 => ⟨(fxs_55 hW), ⟨(fxs_55 hW), (have h25 := ((h.1 c4).2 c15) _ rfl; ⟨(fxs_55 hW), h25⟩)⟩⟩⟩⟩⟩, fun c4 => (h.2 c4)⟩⟩
theorem vX13_readMoves_33 {mc ms : Nat} {X : Nat → zV} {Q : zQt} {M : zM} {x1 : Int32} (hW : zFix M)  (h : ((M.1 55 22) ≤ (M.1 55 21) → X 71 0 0 [.ref 55, .int x1] [] M) ∧ (¬ (M.1 55 22) ≤ (M.1 55 21) → vp_in ((M.1 55 21)) 8200 ∧ (((M : zM).1 56 ((M.1 55 21) : Int32).toNatClampNeg) = (32 : Int32) → X 71 0 0 [.ref 55, .int x1] [] M) ∧ (¬ ((M : zM).1 56 ((M.1 55 21) : Int32).toNatClampNeg) = (32 : Int32) → ∀ M65 : zM, M65 = (zsI M 55 21 (((M.1 55 21) + (1 : Int32)))) → X 33 0 0 [.ref 55, .int x1] [] M65))) : aX13_readMoves_33 mc ms X Q 0 0 [some (.ref 55), some (.int x1), none] [] M := ⟨(fxs_55 hW), ⟨(fxs_55 hW), ⟨fun c41 => (h.1 c41), fun c41 => ⟨(fxs_55 hW), 56, (fxr_55_1 hW), ⟨(fxs_55 hW), ⟨8200, (fxs_56 hW), (h.2 c41).1, ⟨fun c55 => ((h.2 c41).2.1 c55), fun c55 => ⟨(fxs_55 hW), ⟨(fxs_55 hW), (have h65 := ((h.2 c41).2.2 c55) _ rfl; h65)⟩⟩⟩⟩⟩⟩⟩⟩⟩
theorem vX13_readMoves_71 {mc ms : Nat} {X : Nat → zV} {Q : zQt} {M : zM} {x1 : Int32} (hW : zFix M)  (h : wX13_hasEnded 0 0 [.ref 55] M (fun r M1 => kX13_readMoves_75 mc ms X Q 0 0 [some (.ref 55), some (.int x1), none] (r.toList ++ []) M1)) : aX13_readMoves_71 mc ms X Q 0 0 [some (.ref 55), some (.int x1), none] [] M := ⟨Nat.le_of_ble_eq_true rfl, rfl, (fxs_55 hW), 0, 0, Nat.zero_le _, Nat.zero_le _, h⟩
theorem vX13_readMoves_93 {mc ms : Nat} {X : Nat → zV} {Q : zQt} {M : zM}  (hW : zFix M)  (h : X 109 0 0 [.ref 55] [.int (-20)] M) : aX13_readMoves_93 mc ms X Q 0 0 [some (.ref 55), none, none] [] M := h
theorem vX13_readMoves_109 {mc ms : Nat} {X : Nat → zV} {Q : zQt} {M : zM} {s0 : Int32} (hW : zFix M)  (h : (0 ≤ s0 → wX13_play 0 0 [.ref 55, .int s0] M (fun r M1 => kX13_readMoves_143 mc ms X Q 0 0 [some (.ref 55), none, some (.int s0)] (r.toList ++ []) M1)) ∧ (¬ 0 ≤ s0 → ∀ M117 : zM, M117 = (zsI M 55 3 ((-s0))) → vp_in ((M117.1 55 6)) 2 ∧ ∀ M132 : zM, M132 = (zsI M117 55 4 ((((M117 : zM).1 58 ((M117.1 55 6) : Int32).toNatClampNeg) - (1 : Int32)))) → X 143 0 0 [.ref 55] [] M132)) : aX13_readMoves_109 mc ms X Q 0 0 [some (.ref 55), none, none] [.int s0] M := ⟨fun c111 => ⟨Nat.le_of_ble_eq_true rfl, rfl, (fxs_55 hW), 0, 0, Nat.zero_le _, Nat.zero_le _, (h.1 c111)⟩, fun c111 => ⟨(fxs_55 hW), (have h117 := (h.2 c111) _ rfl; ⟨(fxs_55 hW), 58, (fxr_55_9 hW), ⟨(fxs_55 hW), ⟨2, (fxs_58 hW), h117.1, ⟨(fxs_55 hW), (have h132 := h117.2 _ rfl; h132)⟩⟩⟩⟩)⟩⟩
theorem vX13_readMoves_143 {mc ms : Nat} {X : Nat → zV} {Q : zQt} {M : zM}  (hW : zFix M)  (h : X 0 0 0 [.ref 55] [] M) : aX13_readMoves_143 mc ms X Q 0 0 [some (.ref 55), none, none] [] M := h
theorem vX13_readMoves_146 {mc ms : Nat} {X : Nat → zV} {Q : zQt} {M : zM}  (hW : zFix M)  (h : Q none M) : aX13_readMoves_146 mc ms X Q 0 0 [none, none, none] [] M := h
theorem vkX13_readMoves_75 {mc ms : Nat} {X : Nat → zV} {Q : zQt} {M : zM} {x1 : Int32} {s0 : Int32} (hW : zFix M)  (h : (s0 = 0 → vp_in ((M.1 55 6)) 2 ∧ (((M : zM).1 58 ((M.1 55 6) : Int32).toNatClampNeg) = (601 : Int32) → X 93 0 0 [.ref 55] [] M) ∧ (¬ ((M : zM).1 58 ((M.1 55 6) : Int32).toNatClampNeg) = (601 : Int32) → wX13_find 0 0 [.ref 55, .int x1, .int ((M.1 55 21) - x1)] M (fun r M1 => kX13_readMoves_109 mc ms X Q 0 0 [some (.ref 55), some (.int x1), none] (r.toList ++ []) M1))) ∧ (¬ s0 = 0 → X 93 0 0 [.ref 55] [] M)) : kX13_readMoves_75 mc ms X Q 0 0 [some (.ref 55), some (.int x1), none] [.int s0] M := ⟨fun c75 => ⟨(fxs_55 hW), 58, (fxr_55_9 hW), ⟨(fxs_55 hW), ⟨2, (fxs_58 hW), (h.1 c75).1, ⟨fun c90 => ((h.1 c75).2.1 c90), fun c90 => ⟨(fxs_55 hW), ⟨Nat.le_of_ble_eq_true rfl, rfl, (fxs_55 hW), 0, 0, Nat.zero_le _, Nat.zero_le _, ((h.1 c75).2.2 c90)⟩⟩⟩⟩⟩⟩, fun c75 => (h.2 c75)⟩
theorem vkX13_readMoves_109 {mc ms : Nat} {X : Nat → zV} {Q : zQt} {M : zM} {x1 : Int32} {s0 : Int32} (hW : zFix M)  (h : X 109 0 0 [.ref 55] [.int s0] M) : kX13_readMoves_109 mc ms X Q 0 0 [some (.ref 55), some (.int x1), none] [.int s0] M := h
theorem vkX13_readMoves_143 {mc ms : Nat} {X : Nat → zV} {Q : zQt} {M : zM} {x2 : Int32} (hW : zFix M)  (h : X 143 0 0 [.ref 55] [] M) : kX13_readMoves_143 mc ms X Q 0 0 [some (.ref 55), none, some (.int x2)] [] M := h
theorem dX0_inCheck_0 : decode cX0_inCheck 0 = .ok (.aload_n 0, 1) := by decide +kernel
theorem dX0_inCheck_1 : decode cX0_inCheck 1 = .ok (.aload_n 0, 1) := by decide +kernel
theorem dX0_inCheck_2 : decode cX0_inCheck 2 = .ok (.aload_n 0, 1) := by decide +kernel
theorem dX0_inCheck_3 : decode cX0_inCheck 3 = .ok (.getfield 38, 3) := by decide +kernel
theorem dX0_inCheck_6 : decode cX0_inCheck 6 = .ok (.invokevirtual 74, 3) := by decide +kernel
theorem dX0_inCheck_9 : decode cX0_inCheck 9 = .ok (.iconst 1, 1) := by decide +kernel
theorem dX0_inCheck_10 : decode cX0_inCheck 10 = .ok (.aload_n 0, 1) := by decide +kernel
theorem dX0_inCheck_11 : decode cX0_inCheck 11 = .ok (.getfield 38, 3) := by decide +kernel
theorem dX0_inCheck_14 : decode cX0_inCheck 14 = .ok (.isub, 1) := by decide +kernel
theorem dX0_inCheck_15 : decode cX0_inCheck 15 = .ok (.aload_n 0, 1) := by decide +kernel
theorem dX0_inCheck_16 : decode cX0_inCheck 16 = .ok (.invokevirtual 78, 3) := by decide +kernel
theorem dX0_inCheck_19 : decode cX0_inCheck 19 = .ok (.lconst 0, 1) := by decide +kernel
theorem dX0_inCheck_20 : decode cX0_inCheck 20 = .ok (.invokevirtual 82, 3) := by decide +kernel
theorem dX0_inCheck_23 : decode cX0_inCheck 23 = .ok (.ireturn, 1) := by decide +kernel
def kX0_inCheck_23 (mc ms : Nat) (X : Nat → zV) (Q : zQt) : zT :=
  zrz .boolean Q
def kX0_inCheck_19 (mc ms : Nat) (X : Nat → zV) (Q : zQt) : zT :=
  zc (.long 0) <| zcv mc ms 0 4 wX0_attacked <| kX0_inCheck_23 mc ms X Q
def kX0_inCheck_9 (mc ms : Nat) (X : Nat → zV) (Q : zQt) : zT :=
  zc (.int 1) <| zla 0 <| zgi 0 4 <| zii (fun x y => x - y) <| zla 0 <| zcv mc ms 0 0 wX0_occupied <| kX0_inCheck_19 mc ms X Q
def aX0_inCheck_0 (mc ms : Nat) (X : Nat → zV) (Q : zQt) : zT :=
  zla 0 <| zla 0 <| zla 0 <| zgi 0 4 <| zcv mc ms 0 1 wX0_kingOf <| kX0_inCheck_9 mc ms X Q
def lvX0_inCheck : Nat → List Nat := fun L => match L with
  | 0 => [0]
  | _ => []
def wX0_inCheck : zSp := fun mc ms av M Q => ((zlay av).length ≤ 1 ∧ zpick (zlay av) [0] = some av) ∧ ∀ X : Nat → zV, zin 1 [0] (aX0_inCheck_0 mc ms X Q) X 0 → X 0 0 0 av [] M
set_option maxRecDepth 100000 in
set_option maxHeartbeats 4000000 in
theorem sX0_inCheck (l : Launch) (G : zG) : zSnd l G yX0_inCheck cX0_inCheck 1 (some .boolean) 3 66 wX0_inCheck := by
  refine zmk [0] (by decide) (fun mc ms av M Q h => h.1) ?_
  intro p e R s m args below meth c mc ms av M Q hC hRf hRl hr hnm h lv hlv
  obtain ⟨X, hXe⟩ : ∃ X : Nat → zV, X = fun L u v vs st M => ∀ lv, zpick lv (lvX0_inCheck L) = some vs → zAt p l e R s m args below meth c (MQ below (zQ G Q) args s mc ms (zA G)) G 1 L u v lv st M := ⟨_, rfl⟩
  have hJ : ∀ L, zOk p l e R s m args below meth c (MQ below (zQ G Q) args s mc ms (zA G)) G 1 L (zj X L (lvX0_inCheck L)) := fun L => S_jump (fun u v lv vs st M hp hx => by rw [hXe] at hx; exact hx lv hp)
  have hB0 : zin 1 [0] (aX0_inCheck_0 mc ms X Q) X 0 := by
    intro u v vs st M hb
    rw [hXe]
    refine fun lv hp => S_block (L := 0) (live := [0]) ?_ u v lv vs st M hp hb
    unfold aX0_inCheck_0
    refine S_aload_n (pc := 0) hC dX0_inCheck_0 rfl ?_
    refine S_aload_n (pc := 1) hC dX0_inCheck_1 rfl ?_
    refine S_aload_n (pc := 2) hC dX0_inCheck_2 rfl ?_
    refine S_geti (pc := 3) hC cfX0 (by decide) (Or.inl rfl) wd_229 dX0_inCheck_3 ?_
    refine S_callV (pc := 6) hC (sX0_kingOf l G) rfl wd_830 wd_431 wd_432 wd_10 wd_433 (by decide +kernel) ⟨by rw [hRf]; decide, by rw [hRl]; decide⟩ dX0_inCheck_6 ?_
    unfold kX0_inCheck_9
    refine S_iconst (pc := 9) hC dX0_inCheck_9 (by decide) ?_
    refine S_aload_n (pc := 10) hC dX0_inCheck_10 rfl ?_
    refine S_geti (pc := 11) hC cfX0 (by decide) (Or.inl rfl) wd_229 dX0_inCheck_11 ?_
    refine S_isub (pc := 14) hC dX0_inCheck_14 ?_
    refine S_aload_n (pc := 15) hC dX0_inCheck_15 rfl ?_
    refine S_callV (pc := 16) hC (sX0_occupied l G) rfl wd_831 wd_444 wd_445 wd_10 wd_446 (by decide +kernel) ⟨by rw [hRf]; decide, by rw [hRl]; decide⟩ dX0_inCheck_16 ?_
    unfold kX0_inCheck_19
    refine S_lconst (pc := 19) hC dX0_inCheck_19 (by decide) ?_
    refine S_callV (pc := 20) hC (sX0_attacked l G) rfl wd_832 wd_448 wd_449 wd_10 wd_450 (by decide +kernel) ⟨by rw [hRf]; decide, by rw [hRl]; decide⟩ dX0_inCheck_20 ?_
    unfold kX0_inCheck_23
    exact S_zreturn (pc := 23) hC hr dX0_inCheck_23
  have := h.2 X hB0
  rw [hXe] at this
  exact this lv hlv
theorem vX0_inCheck_0 {mc ms : Nat} {X : Nat → zV} {Q : zQt} {M : zM} {g : Nat}  (hW : zWd M g)  (h : wX0_kingOf 0 0 [.ref (g + 1), .int (M.1 ((g + 1)) 4)] M (fun r M1 => kX0_inCheck_9 mc ms X Q 0 0 [some (.ref (g + 1))] (r.toList ++ [.ref (g + 1)]) M1)) : aX0_inCheck_0 mc ms X Q 0 0 [some (.ref (g + 1))] [] M := ⟨(fgs_1 hW), ⟨Nat.le_of_ble_eq_true rfl, rfl, (fgs_1 hW), 0, 0, Nat.zero_le _, Nat.zero_le _, h⟩⟩
theorem vkX0_inCheck_9 {mc ms : Nat} {X : Nat → zV} {Q : zQt} {M : zM} {g : Nat} {s0 : Int32} (hW : zWd M g)  (h : wX0_occupied 0 0 [.ref (g + 1)] M (fun r M1 => kX0_inCheck_19 mc ms X Q 0 0 [some (.ref (g + 1))] (r.toList ++ [.int ((1 : Int32) - (M.1 ((g + 1)) 4)), .int s0, .ref (g + 1)]) M1)) : kX0_inCheck_9 mc ms X Q 0 0 [some (.ref (g + 1))] [.int s0, .ref (g + 1)] M := ⟨(fgs_1 hW), ⟨Nat.le_of_ble_eq_true rfl, rfl, (fgs_1 hW), 0, 0, Nat.zero_le _, Nat.zero_le _, h⟩⟩
theorem vkX0_inCheck_19 {mc ms : Nat} {X : Nat → zV} {Q : zQt} {M : zM} {g : Nat} {s0 : Int64} {s1 : Int32} {s2 : Int32} (hW : zWd M g)  (h : wX0_attacked 0 0 [.ref (g + 1), .int s2, .int s1, .long s0, .long 0] M (fun r M1 => kX0_inCheck_23 mc ms X Q 0 0 [some (.ref (g + 1))] (r.toList ++ []) M1)) : kX0_inCheck_19 mc ms X Q 0 0 [some (.ref (g + 1))] [.long s0, .int s1, .int s2, .ref (g + 1)] M := ⟨Nat.le_of_ble_eq_true rfl, rfl, (fgs_1 hW), 0, 0, Nat.zero_le _, Nat.zero_le _, h⟩
theorem vkX0_inCheck_23 {mc ms : Nat} {X : Nat → zV} {Q : zQt} {M : zM} {g : Nat} {s0 : Int32} (hW : zWd M g)  (h : narrow .boolean (.int s0) = .int s0 ∧ Q (some (.int s0)) M) : kX0_inCheck_23 mc ms X Q 0 0 [some (.ref (g + 1))] [.int s0] M := h
theorem dX2_build_0 : decode cX2_build 0 = .ok (.iconst 0, 1) := by decide +kernel
theorem dX2_build_1 : decode cX2_build 1 = .ok (.istore_n 1, 1) := by decide +kernel
theorem dX2_build_2 : decode cX2_build 2 = .ok (.iload_n 1, 1) := by decide +kernel
theorem dX2_build_3 : decode cX2_build 3 = .ok (.sipush 4096, 3) := by decide +kernel
theorem dX2_build_6 : decode cX2_build 6 = .ok (.if_icmp .ge 14, 3) := by decide +kernel
theorem dX2_build_9 : decode cX2_build 9 = .ok (.aload_n 0, 1) := by decide +kernel
theorem dX2_build_10 : decode cX2_build 10 = .ok (.iload_n 1, 1) := by decide +kernel
theorem dX2_build_11 : decode cX2_build 11 = .ok (.invokevirtual 49, 3) := by decide +kernel
theorem dX2_build_14 : decode cX2_build 14 = .ok (.iinc 1 1, 3) := by decide +kernel
theorem dX2_build_17 : decode cX2_build 17 = .ok (.goto (-15), 3) := by decide +kernel
theorem dX2_build_20 : decode cX2_build 20 = .ok (.aload_n 0, 1) := by decide +kernel
theorem dX2_build_21 : decode cX2_build 21 = .ok (.getfield 19, 3) := by decide +kernel
theorem dX2_build_24 : decode cX2_build 24 = .ok (.ifnull 14, 3) := by decide +kernel
theorem dX2_build_27 : decode cX2_build 27 = .ok (.aload_n 0, 1) := by decide +kernel
theorem dX2_build_28 : decode cX2_build 28 = .ok (.getfield 23, 3) := by decide +kernel
theorem dX2_build_31 : decode cX2_build 31 = .ok (.ifnull 7, 3) := by decide +kernel
theorem dX2_build_34 : decode cX2_build 34 = .ok (.iconst 1, 1) := by decide +kernel
theorem dX2_build_35 : decode cX2_build 35 = .ok (.goto 4, 3) := by decide +kernel
theorem dX2_build_38 : decode cX2_build 38 = .ok (.iconst 0, 1) := by decide +kernel
theorem dX2_build_39 : decode cX2_build 39 = .ok (.istore_n 1, 1) := by decide +kernel
theorem dX2_build_40 : decode cX2_build 40 = .ok (.iload_n 1, 1) := by decide +kernel
theorem dX2_build_41 : decode cX2_build 41 = .ok (.ifCond .eq 25, 3) := by decide +kernel
theorem dX2_build_44 : decode cX2_build 44 = .ok (.aload_n 0, 1) := by decide +kernel
theorem dX2_build_45 : decode cX2_build 45 = .ok (.getfield 19, 3) := by decide +kernel
theorem dX2_build_48 : decode cX2_build 48 = .ok (.getfield 53, 3) := by decide +kernel
theorem dX2_build_51 : decode cX2_build 51 = .ok (.aload_n 0, 1) := by decide +kernel
theorem dX2_build_52 : decode cX2_build 52 = .ok (.getfield 23, 3) := by decide +kernel
theorem dX2_build_55 : decode cX2_build 55 = .ok (.getfield 53, 3) := by decide +kernel
theorem dX2_build_58 : decode cX2_build 58 = .ok (.invokestatic 56, 3) := by decide +kernel
theorem dX2_build_61 : decode cX2_build 61 = .ok (.iconst 1, 1) := by decide +kernel
theorem dX2_build_62 : decode cX2_build 62 = .ok (.iadd, 1) := by decide +kernel
theorem dX2_build_63 : decode cX2_build 63 = .ok (.goto 4, 3) := by decide +kernel
theorem dX2_build_66 : decode cX2_build 66 = .ok (.iconst 0, 1) := by decide +kernel
theorem dX2_build_67 : decode cX2_build 67 = .ok (.istore_n 2, 1) := by decide +kernel
theorem dX2_build_68 : decode cX2_build 68 = .ok (.iconst 0, 1) := by decide +kernel
theorem dX2_build_69 : decode cX2_build 69 = .ok (.istore_n 3, 1) := by decide +kernel
theorem dX2_build_70 : decode cX2_build 70 = .ok (.iconst 1, 1) := by decide +kernel
theorem dX2_build_71 : decode cX2_build 71 = .ok (.istore 4, 2) := by decide +kernel
theorem dX2_build_73 : decode cX2_build 73 = .ok (.iload 4, 2) := by decide +kernel
theorem dX2_build_75 : decode cX2_build 75 = .ok (.bipush 64, 2) := by decide +kernel
theorem dX2_build_77 : decode cX2_build 77 = .ok (.if_icmp .ge 99, 3) := by decide +kernel
theorem dX2_build_80 : decode cX2_build 80 = .ok (.iload_n 3, 1) := by decide +kernel
theorem dX2_build_81 : decode cX2_build 81 = .ok (.iconst 2, 1) := by decide +kernel
theorem dX2_build_82 : decode cX2_build 82 = .ok (.if_icmp .lt 9, 3) := by decide +kernel
theorem dX2_build_85 : decode cX2_build 85 = .ok (.iload 4, 2) := by decide +kernel
theorem dX2_build_87 : decode cX2_build 87 = .ok (.iload_n 2, 1) := by decide +kernel
theorem dX2_build_88 : decode cX2_build 88 = .ok (.if_icmp .gt 88, 3) := by decide +kernel
theorem dX2_build_91 : decode cX2_build 91 = .ok (.iload 4, 2) := by decide +kernel
theorem dX2_build_93 : decode cX2_build 93 = .ok (.iconst 2, 1) := by decide +kernel
theorem dX2_build_94 : decode cX2_build 94 = .ok (.irem, 1) := by decide +kernel
theorem dX2_build_95 : decode cX2_build 95 = .ok (.iconst 1, 1) := by decide +kernel
theorem dX2_build_96 : decode cX2_build 96 = .ok (.if_icmp .ne 12, 3) := by decide +kernel
theorem dX2_build_99 : decode cX2_build 99 = .ok (.aload_n 0, 1) := by decide +kernel
theorem dX2_build_100 : decode cX2_build 100 = .ok (.iload 4, 2) := by decide +kernel
theorem dX2_build_102 : decode cX2_build 102 = .ok (.invokevirtual 62, 3) := by decide +kernel
theorem dX2_build_105 : decode cX2_build 105 = .ok (.goto 9, 3) := by decide +kernel
theorem dX2_build_108 : decode cX2_build 108 = .ok (.aload_n 0, 1) := by decide +kernel
theorem dX2_build_109 : decode cX2_build 109 = .ok (.iload 4, 2) := by decide +kernel
theorem dX2_build_111 : decode cX2_build 111 = .ok (.invokevirtual 66, 3) := by decide +kernel
theorem dX2_build_114 : decode cX2_build 114 = .ok (.istore 5, 2) := by decide +kernel
theorem dX2_build_116 : decode cX2_build 116 = .ok (.iload_n 1, 1) := by decide +kernel
theorem dX2_build_117 : decode cX2_build 117 = .ok (.ifCond .eq 22, 3) := by decide +kernel
theorem dX2_build_120 : decode cX2_build 120 = .ok (.iload 4, 2) := by decide +kernel
theorem dX2_build_122 : decode cX2_build 122 = .ok (.iconst 2, 1) := by decide +kernel
theorem dX2_build_123 : decode cX2_build 123 = .ok (.irem, 1) := by decide +kernel
theorem dX2_build_124 : decode cX2_build 124 = .ok (.iconst 1, 1) := by decide +kernel
theorem dX2_build_125 : decode cX2_build 125 = .ok (.if_icmp .ne 14, 3) := by decide +kernel
theorem dX2_build_128 : decode cX2_build 128 = .ok (.iload 5, 2) := by decide +kernel
theorem dX2_build_130 : decode cX2_build 130 = .ok (.aload_n 0, 1) := by decide +kernel
theorem dX2_build_131 : decode cX2_build 131 = .ok (.iload 4, 2) := by decide +kernel
theorem dX2_build_133 : decode cX2_build 133 = .ok (.invokevirtual 69, 3) := by decide +kernel
theorem dX2_build_136 : decode cX2_build 136 = .ok (.ior, 1) := by decide +kernel
theorem dX2_build_137 : decode cX2_build 137 = .ok (.istore 5, 2) := by decide +kernel
theorem dX2_build_139 : decode cX2_build 139 = .ok (.iload 5, 2) := by decide +kernel
theorem dX2_build_141 : decode cX2_build 141 = .ok (.ifCond .eq 7, 3) := by decide +kernel
theorem dX2_build_144 : decode cX2_build 144 = .ok (.iconst 0, 1) := by decide +kernel
theorem dX2_build_145 : decode cX2_build 145 = .ok (.goto 6, 3) := by decide +kernel
theorem dX2_build_148 : decode cX2_build 148 = .ok (.iload_n 3, 1) := by decide +kernel
theorem dX2_build_149 : decode cX2_build 149 = .ok (.iconst 1, 1) := by decide +kernel
theorem dX2_build_150 : decode cX2_build 150 = .ok (.iadd, 1) := by decide +kernel
theorem dX2_build_151 : decode cX2_build 151 = .ok (.istore_n 3, 1) := by decide +kernel
theorem dX2_build_152 : decode cX2_build 152 = .ok (.aload_n 0, 1) := by decide +kernel
theorem dX2_build_153 : decode cX2_build 153 = .ok (.iload 5, 2) := by decide +kernel
theorem dX2_build_155 : decode cX2_build 155 = .ok (.ifCond .eq 8, 3) := by decide +kernel
theorem dX2_build_158 : decode cX2_build 158 = .ok (.iload 4, 2) := by decide +kernel
theorem dX2_build_160 : decode cX2_build 160 = .ok (.goto 7, 3) := by decide +kernel
theorem dX2_build_163 : decode cX2_build 163 = .ok (.aload_n 0, 1) := by decide +kernel
theorem dX2_build_164 : decode cX2_build 164 = .ok (.getfield 53, 3) := by decide +kernel
theorem dX2_build_167 : decode cX2_build 167 = .ok (.putfield 53, 3) := by decide +kernel
theorem dX2_build_170 : decode cX2_build 170 = .ok (.iinc 4 1, 3) := by decide +kernel
theorem dX2_build_173 : decode cX2_build 173 = .ok (.goto (-100), 3) := by decide +kernel
theorem dX2_build_176 : decode cX2_build 176 = .ok (.return_, 1) := by decide +kernel
def kX2_build_14 (mc ms : Nat) (X : Nat → zV) (Q : zQt) : zT :=
  zinc 1 1 <| zj X 2 [0, 1]
def kX2_build_114 (mc ms : Nat) (X : Nat → zV) (Q : zQt) : zT :=
  zj X 114 [0, 1, 2, 3, 4]
def kX2_build_105 (mc ms : Nat) (X : Nat → zV) (Q : zQt) : zT :=
  zj X 114 [0, 1, 2, 3, 4]
def kX2_build_136 (mc ms : Nat) (X : Nat → zV) (Q : zQt) : zT :=
  zii (fun x y => x ||| y) <| zsi 5 <| zj X 139 [0, 1, 2, 3, 4, 5]
def aX2_build_0 (mc ms : Nat) (X : Nat → zV) (Q : zQt) : zT :=
  zc (.int 0) <| zsi 1 <| zj X 2 [0, 1]
def aX2_build_2 (mc ms : Nat) (X : Nat → zV) (Q : zQt) : zT :=
  zli 1 <| zc (.int 4096) <| zic (fun x y => y ≤ x) (zla 0 <| zgr 2 2 <| znl (zj X 38 [0]) <| zla 0 <| zgr 2 3 <| znl (zj X 38 [0]) <| zc (.int 1) <| zj X 39 [0]) <| zla 0 <| zli 1 <| zcv mc ms 2 1 wX2_start <| kX2_build_14 mc ms X Q
def aX2_build_38 (mc ms : Nat) (X : Nat → zV) (Q : zQt) : zT :=
  zc (.int 0) <| zj X 39 [0]
def aX2_build_39 (mc ms : Nat) (X : Nat → zV) (Q : zQt) : zT :=
  zsi 1 <| zli 1 <| zif (fun x => x = 0) (zc (.int 0) <| zj X 67 [0, 1]) <| zla 0 <| zgR 2 2 <| zgi 2 11 <| zla 0 <| zgR 2 3 <| zgi 2 11 <| zmx <| zc (.int 1) <| zii (fun x y => x + y) <| zj X 67 [0, 1]
def aX2_build_67 (mc ms : Nat) (X : Nat → zV) (Q : zQt) : zT :=
  zsi 2 <| zc (.int 0) <| zsi 3 <| zc (.int 1) <| zsi 4 <| zj X 73 [0, 1, 2, 3, 4]
def aX2_build_73 (mc ms : Nat) (X : Nat → zV) (Q : zQt) : zT :=
  zli 4 <| zc (.int 64) <| zic (fun x y => y ≤ x) (zj X 176 []) <| zli 3 <| zc (.int 2) <| zic (fun x y => x < y) (zj X 91 [0, 1, 2, 3, 4]) <| zli 4 <| zli 2 <| zic (fun x y => y < x) (zj X 176 []) <| zj X 91 [0, 1, 2, 3, 4]
def aX2_build_91 (mc ms : Nat) (X : Nat → zV) (Q : zQt) : zT :=
  zli 4 <| zc (.int 2) <| zid (fun x y => x - x / y * y) <| zc (.int 1) <| zic (fun x y => x = y) (zla 0 <| zli 4 <| zcv mc ms 2 1 wX2_stepStrong <| kX2_build_105 mc ms X Q) <| zla 0 <| zli 4 <| zcv mc ms 2 1 wX2_stepWeak <| kX2_build_114 mc ms X Q
def aX2_build_114 (mc ms : Nat) (X : Nat → zV) (Q : zQt) : zT :=
  zsi 5 <| zli 1 <| zif (fun x => x = 0) (zj X 139 [0, 1, 2, 3, 4, 5]) <| zli 4 <| zc (.int 2) <| zid (fun x y => x - x / y * y) <| zc (.int 1) <| zic (fun x y => x = y) (zli 5 <| zla 0 <| zli 4 <| zcv mc ms 2 1 wX2_stepBecoming <| kX2_build_136 mc ms X Q) <| zj X 139 [0, 1, 2, 3, 4, 5]
def aX2_build_139 (mc ms : Nat) (X : Nat → zV) (Q : zQt) : zT :=
  zli 5 <| zif (fun x => x = 0) (zli 3 <| zc (.int 1) <| zii (fun x y => x + y) <| zj X 151 [0, 1, 2, 4, 5]) <| zc (.int 0) <| zj X 151 [0, 1, 2, 4, 5]
def aX2_build_151 (mc ms : Nat) (X : Nat → zV) (Q : zQt) : zT :=
  zsi 3 <| zla 0 <| zli 5 <| zif (fun x => x = 0) (zla 0 <| zgi 2 11 <| zj X 167 [0, 1, 2, 3, 4]) <| zli 4 <| zj X 167 [0, 1, 2, 3, 4]
def aX2_build_167 (mc ms : Nat) (X : Nat → zV) (Q : zQt) : zT :=
  zpi 2 11 <| zinc 4 1 <| zj X 73 [0, 1, 2, 3, 4]
def aX2_build_176 (mc ms : Nat) (X : Nat → zV) (Q : zQt) : zT :=
  zrv Q
def lvX2_build : Nat → List Nat := fun L => match L with
  | 0 => [0]
  | 2 => [0, 1]
  | 38 => [0]
  | 39 => [0]
  | 67 => [0, 1]
  | 73 => [0, 1, 2, 3, 4]
  | 91 => [0, 1, 2, 3, 4]
  | 114 => [0, 1, 2, 3, 4]
  | 139 => [0, 1, 2, 3, 4, 5]
  | 151 => [0, 1, 2, 4, 5]
  | 167 => [0, 1, 2, 3, 4]
  | 176 => []
  | _ => []
def wX2_build : zSp := fun mc ms av M Q => ((zlay av).length ≤ 6 ∧ zpick (zlay av) [0] = some av) ∧ ∀ X : Nat → zV, zin 6 [0] (aX2_build_0 mc ms X Q) X 0 → zin 6 [0, 1] (aX2_build_2 mc ms X Q) X 2 → zin 6 [0] (aX2_build_38 mc ms X Q) X 38 → zin 6 [0] (aX2_build_39 mc ms X Q) X 39 → zin 6 [0, 1] (aX2_build_67 mc ms X Q) X 67 → zin 6 [0, 1, 2, 3, 4] (aX2_build_73 mc ms X Q) X 73 → zin 6 [0, 1, 2, 3, 4] (aX2_build_91 mc ms X Q) X 91 → zin 6 [0, 1, 2, 3, 4] (aX2_build_114 mc ms X Q) X 114 → zin 6 [0, 1, 2, 3, 4, 5] (aX2_build_139 mc ms X Q) X 139 → zin 6 [0, 1, 2, 4, 5] (aX2_build_151 mc ms X Q) X 151 → zin 6 [0, 1, 2, 3, 4] (aX2_build_167 mc ms X Q) X 167 → zin 6 [] (aX2_build_176 mc ms X Q) X 176 → X 0 0 0 av [] M
set_option maxRecDepth 100000 in
set_option maxHeartbeats 4000000 in
theorem sX2_build (l : Launch) (G : zG) : zSnd l G yX2_build cX2_build 6 none 3 85 wX2_build := by
  refine zmk [0] (by decide) (fun mc ms av M Q h => h.1) ?_
  intro p e R s m args below meth c mc ms av M Q hC hRf hRl hr hnm h lv hlv
  obtain ⟨X, hXe⟩ : ∃ X : Nat → zV, X = fun L u v vs st M => ∀ lv, zpick lv (lvX2_build L) = some vs → zAt p l e R s m args below meth c (MQ below (zQ G Q) args s mc ms (zA G)) G 6 L u v lv st M := ⟨_, rfl⟩
  have hJ : ∀ L, zOk p l e R s m args below meth c (MQ below (zQ G Q) args s mc ms (zA G)) G 6 L (zj X L (lvX2_build L)) := fun L => S_jump (fun u v lv vs st M hp hx => by rw [hXe] at hx; exact hx lv hp)
  have hB0 : zin 6 [0] (aX2_build_0 mc ms X Q) X 0 := by
    intro u v vs st M hb
    rw [hXe]
    refine fun lv hp => S_block (L := 0) (live := [0]) ?_ u v lv vs st M hp hb
    unfold aX2_build_0
    refine S_iconst (pc := 0) hC dX2_build_0 (by decide) ?_
    refine S_istore_n (pc := 1) hC dX2_build_1 rfl (by decide) ?_
    exact hJ 2
  have hB2 : zin 6 [0, 1] (aX2_build_2 mc ms X Q) X 2 := by
    intro u v vs st M hb
    rw [hXe]
    refine fun lv hp => S_block (L := 2) (live := [0, 1]) ?_ u v lv vs st M hp hb
    unfold aX2_build_2
    refine S_iload_n (pc := 2) hC dX2_build_2 rfl ?_
    refine S_sipush (pc := 3) hC dX2_build_3 (by decide) ?_
    refine S_icmp_ge (pc := 6) (tgt := 20) hC dX2_build_6 (by decide) ?_ ?_
    · refine S_aload_n (pc := 20) hC dX2_build_20 rfl ?_
      refine S_getr (pc := 21) hC cfX2 (by decide) (Or.inl ⟨_, rfl⟩) wd_1076 dX2_build_21 ?_
      refine S_ifnull (pc := 24) (tgt := 38) hC dX2_build_24 (by decide) ?_ ?_
      · exact hJ 38
      · refine S_aload_n (pc := 27) hC dX2_build_27 rfl ?_
        refine S_getr (pc := 28) hC cfX2 (by decide) (Or.inl ⟨_, rfl⟩) wd_1077 dX2_build_28 ?_
        refine S_ifnull (pc := 31) (tgt := 38) hC dX2_build_31 (by decide) ?_ ?_
        · exact hJ 38
        · refine S_iconst (pc := 34) hC dX2_build_34 (by decide) ?_
          refine S_goto (pc := 35) (tgt := 39) hC dX2_build_35 (by decide) ?_
          exact hJ 39
    · refine S_aload_n (pc := 9) hC dX2_build_9 rfl ?_
      refine S_iload_n (pc := 10) hC dX2_build_10 rfl ?_
      refine S_callV (pc := 11) hC (sX2_start l G) rfl wd_1115 wd_1117 ws_44 wd_28 wd_1118 (by decide +kernel) ⟨by rw [hRf]; decide, by rw [hRl]; decide⟩ dX2_build_11 ?_
      unfold kX2_build_14
      refine S_iinc (pc := 14) hC dX2_build_14 (by decide) (by decide) ?_
      refine S_goto (pc := 17) (tgt := 2) hC dX2_build_17 (by decide) ?_
      exact hJ 2
  have hB38 : zin 6 [0] (aX2_build_38 mc ms X Q) X 38 := by
    intro u v vs st M hb
    rw [hXe]
    refine fun lv hp => S_block (L := 38) (live := [0]) ?_ u v lv vs st M hp hb
    unfold aX2_build_38
    refine S_iconst (pc := 38) hC dX2_build_38 (by decide) ?_
    exact hJ 39
  have hB39 : zin 6 [0] (aX2_build_39 mc ms X Q) X 39 := by
    intro u v vs st M hb
    rw [hXe]
    refine fun lv hp => S_block (L := 39) (live := [0]) ?_ u v lv vs st M hp hb
    unfold aX2_build_39
    refine S_istore_n (pc := 39) hC dX2_build_39 rfl (by decide) ?_
    refine S_iload_n (pc := 40) hC dX2_build_40 rfl ?_
    refine S_if_eq (pc := 41) (tgt := 66) hC dX2_build_41 (by decide) ?_ ?_
    · refine S_iconst (pc := 66) hC dX2_build_66 (by decide) ?_
      exact hJ 67
    · refine S_aload_n (pc := 44) hC dX2_build_44 rfl ?_
      refine S_getR (pc := 45) hC cfX2 (by decide) (Or.inl ⟨_, rfl⟩) wd_1076 dX2_build_45 ?_
      refine S_geti (pc := 48) hC cfX2 (by decide) (Or.inl rfl) wd_1085 dX2_build_48 ?_
      refine S_aload_n (pc := 51) hC dX2_build_51 rfl ?_
      refine S_getR (pc := 52) hC cfX2 (by decide) (Or.inl ⟨_, rfl⟩) wd_1077 dX2_build_52 ?_
      refine S_geti (pc := 55) hC cfX2 (by decide) (Or.inl rfl) wd_1085 dX2_build_55 ?_
      refine S_max (pc := 58) hC wd_1131 wd_583 wd_21 wd_584 (by rw [hRf]; decide) (by rw [hRl]; decide) dX2_build_58 ?_
      refine S_iconst (pc := 61) hC dX2_build_61 (by decide) ?_
      refine S_iadd (pc := 62) hC dX2_build_62 ?_
      refine S_goto (pc := 63) (tgt := 67) hC dX2_build_63 (by decide) ?_
      exact hJ 67
  have hB67 : zin 6 [0, 1] (aX2_build_67 mc ms X Q) X 67 := by
    intro u v vs st M hb
    rw [hXe]
    refine fun lv hp => S_block (L := 67) (live := [0, 1]) ?_ u v lv vs st M hp hb
    unfold aX2_build_67
    refine S_istore_n (pc := 67) hC dX2_build_67 rfl (by decide) ?_
    refine S_iconst (pc := 68) hC dX2_build_68 (by decide) ?_
    refine S_istore_n (pc := 69) hC dX2_build_69 rfl (by decide) ?_
    refine S_iconst (pc := 70) hC dX2_build_70 (by decide) ?_
    refine S_istore (pc := 71) hC dX2_build_71 (by decide) ?_
    exact hJ 73
  have hB73 : zin 6 [0, 1, 2, 3, 4] (aX2_build_73 mc ms X Q) X 73 := by
    intro u v vs st M hb
    rw [hXe]
    refine fun lv hp => S_block (L := 73) (live := [0, 1, 2, 3, 4]) ?_ u v lv vs st M hp hb
    unfold aX2_build_73
    refine S_iload (pc := 73) hC dX2_build_73 ?_
    refine S_bipush (pc := 75) hC dX2_build_75 (by decide) ?_
    refine S_icmp_ge (pc := 77) (tgt := 176) hC dX2_build_77 (by decide) ?_ ?_
    · exact hJ 176
    · refine S_iload_n (pc := 80) hC dX2_build_80 rfl ?_
      refine S_iconst (pc := 81) hC dX2_build_81 (by decide) ?_
      refine S_icmp_lt (pc := 82) (tgt := 91) hC dX2_build_82 (by decide) ?_ ?_
      · exact hJ 91
      · refine S_iload (pc := 85) hC dX2_build_85 ?_
        refine S_iload_n (pc := 87) hC dX2_build_87 rfl ?_
        refine S_icmp_gt (pc := 88) (tgt := 176) hC dX2_build_88 (by decide) ?_ ?_
        · exact hJ 176
        · exact hJ 91
  have hB91 : zin 6 [0, 1, 2, 3, 4] (aX2_build_91 mc ms X Q) X 91 := by
    intro u v vs st M hb
    rw [hXe]
    refine fun lv hp => S_block (L := 91) (live := [0, 1, 2, 3, 4]) ?_ u v lv vs st M hp hb
    unfold aX2_build_91
    refine S_iload (pc := 91) hC dX2_build_91 ?_
    refine S_iconst (pc := 93) hC dX2_build_93 (by decide) ?_
    refine S_irem (pc := 94) hC dX2_build_94 ?_
    refine S_iconst (pc := 95) hC dX2_build_95 (by decide) ?_
    refine S_icmp_ne (pc := 96) (tgt := 108) hC dX2_build_96 (by decide) ?_ ?_
    · refine S_aload_n (pc := 108) hC dX2_build_108 rfl ?_
      refine S_iload (pc := 109) hC dX2_build_109 ?_
      refine S_callV (pc := 111) hC (sX2_stepWeak l G) rfl wd_1147 wd_1149 ws_49 wd_28 wd_1150 (by decide +kernel) ⟨by rw [hRf]; decide, by rw [hRl]; decide⟩ dX2_build_111 ?_
      unfold kX2_build_114
      exact hJ 114
    · refine S_aload_n (pc := 99) hC dX2_build_99 rfl ?_
      refine S_iload (pc := 100) hC dX2_build_100 ?_
      refine S_callV (pc := 102) hC (sX2_stepStrong l G) rfl wd_1132 wd_1134 ws_46 wd_28 wd_1135 (by decide +kernel) ⟨by rw [hRf]; decide, by rw [hRl]; decide⟩ dX2_build_102 ?_
      unfold kX2_build_105
      refine S_goto (pc := 105) (tgt := 114) hC dX2_build_105 (by decide) ?_
      exact hJ 114
  have hB114 : zin 6 [0, 1, 2, 3, 4] (aX2_build_114 mc ms X Q) X 114 := by
    intro u v vs st M hb
    rw [hXe]
    refine fun lv hp => S_block (L := 114) (live := [0, 1, 2, 3, 4]) ?_ u v lv vs st M hp hb
    unfold aX2_build_114
    refine S_istore (pc := 114) hC dX2_build_114 (by decide) ?_
    refine S_iload_n (pc := 116) hC dX2_build_116 rfl ?_
    refine S_if_eq (pc := 117) (tgt := 139) hC dX2_build_117 (by decide) ?_ ?_
    · exact hJ 139
    · refine S_iload (pc := 120) hC dX2_build_120 ?_
      refine S_iconst (pc := 122) hC dX2_build_122 (by decide) ?_
      refine S_irem (pc := 123) hC dX2_build_123 ?_
      refine S_iconst (pc := 124) hC dX2_build_124 (by decide) ?_
      refine S_icmp_ne (pc := 125) (tgt := 139) hC dX2_build_125 (by decide) ?_ ?_
      · exact hJ 139
      · refine S_iload (pc := 128) hC dX2_build_128 ?_
        refine S_aload_n (pc := 130) hC dX2_build_130 rfl ?_
        refine S_iload (pc := 131) hC dX2_build_131 ?_
        refine S_callV (pc := 133) hC (sX2_stepBecoming l G) rfl wd_1151 wd_1153 ws_50 wd_28 wd_1154 (by decide +kernel) ⟨by rw [hRf]; decide, by rw [hRl]; decide⟩ dX2_build_133 ?_
        unfold kX2_build_136
        refine S_ior (pc := 136) hC dX2_build_136 ?_
        refine S_istore (pc := 137) hC dX2_build_137 (by decide) ?_
        exact hJ 139
  have hB139 : zin 6 [0, 1, 2, 3, 4, 5] (aX2_build_139 mc ms X Q) X 139 := by
    intro u v vs st M hb
    rw [hXe]
    refine fun lv hp => S_block (L := 139) (live := [0, 1, 2, 3, 4, 5]) ?_ u v lv vs st M hp hb
    unfold aX2_build_139
    refine S_iload (pc := 139) hC dX2_build_139 ?_
    refine S_if_eq (pc := 141) (tgt := 148) hC dX2_build_141 (by decide) ?_ ?_
    · refine S_iload_n (pc := 148) hC dX2_build_148 rfl ?_
      refine S_iconst (pc := 149) hC dX2_build_149 (by decide) ?_
      refine S_iadd (pc := 150) hC dX2_build_150 ?_
      exact hJ 151
    · refine S_iconst (pc := 144) hC dX2_build_144 (by decide) ?_
      refine S_goto (pc := 145) (tgt := 151) hC dX2_build_145 (by decide) ?_
      exact hJ 151
  have hB151 : zin 6 [0, 1, 2, 4, 5] (aX2_build_151 mc ms X Q) X 151 := by
    intro u v vs st M hb
    rw [hXe]
    refine fun lv hp => S_block (L := 151) (live := [0, 1, 2, 4, 5]) ?_ u v lv vs st M hp hb
    unfold aX2_build_151
    refine S_istore_n (pc := 151) hC dX2_build_151 rfl (by decide) ?_
    refine S_aload_n (pc := 152) hC dX2_build_152 rfl ?_
    refine S_iload (pc := 153) hC dX2_build_153 ?_
    refine S_if_eq (pc := 155) (tgt := 163) hC dX2_build_155 (by decide) ?_ ?_
    · refine S_aload_n (pc := 163) hC dX2_build_163 rfl ?_
      refine S_geti (pc := 164) hC cfX2 (by decide) (Or.inl rfl) wd_1085 dX2_build_164 ?_
      exact hJ 167
    · refine S_iload (pc := 158) hC dX2_build_158 ?_
      refine S_goto (pc := 160) (tgt := 167) hC dX2_build_160 (by decide) ?_
      exact hJ 167
  have hB167 : zin 6 [0, 1, 2, 3, 4] (aX2_build_167 mc ms X Q) X 167 := by
    intro u v vs st M hb
    rw [hXe]
    refine fun lv hp => S_block (L := 167) (live := [0, 1, 2, 3, 4]) ?_ u v lv vs st M hp hb
    unfold aX2_build_167
    refine S_puti (pc := 167) hC cfX2 (by decide) rfl (Or.inl rfl) wd_1085 dX2_build_167 ?_
    refine S_iinc (pc := 170) hC dX2_build_170 (by decide) (by decide) ?_
    refine S_goto (pc := 173) (tgt := 73) hC dX2_build_173 (by decide) ?_
    exact hJ 73
  have hB176 : zin 6 [] (aX2_build_176 mc ms X Q) X 176 := by
    intro u v vs st M hb
    rw [hXe]
    refine fun lv hp => S_block (L := 176) (live := []) ?_ u v lv vs st M hp hb
    unfold aX2_build_176
    exact S_vreturn (pc := 176) hC hr dX2_build_176
  have := h.2 X hB0 hB2 hB38 hB39 hB67 hB73 hB91 hB114 hB139 hB151 hB167 hB176
  rw [hXe] at this
  exact this lv hlv
theorem vX2_build_0 {mc ms : Nat} {X : Nat → zV} {Q : zQt} {M : zM} {g : Nat} {x0 : Nat} (hW : zWd M g) (hx0 : zsh M x0 = some (0, 2)) (h : X 2 0 0 [.ref x0, .int 0] [] M) : aX2_build_0 mc ms X Q 0 0 [some (.ref x0), none, none, none, none, none] [] M := h
theorem vX2_build_2 {mc ms : Nat} {X : Nat → zV} {Q : zQt} {M : zM} {g : Nat} {x0 : Nat} {x1 : Int32} (hW : zWd M g) (hx0 : zsh M x0 = some (0, 2)) (h : ((4096 : Int32) ≤ x1 → ((M : zM).2.2.1 x0 2 = none ∨ (M : zM).2.2.1 x0 3 = none → X 38 0 0 [.ref x0] [] M) ∧ (¬ ((M : zM).2.2.1 x0 2 = none ∨ (M : zM).2.2.1 x0 3 = none) → X 39 0 0 [.ref x0] [.int 1] M)) ∧ (¬ (4096 : Int32) ≤ x1 → wX2_start 0 0 [.ref x0, .int x1] M (fun r M1 => kX2_build_14 mc ms X Q 0 0 [some (.ref x0), some (.int x1), none, none, none, none] (r.toList ++ []) M1))) : aX2_build_2 mc ms X Q 0 0 [some (.ref x0), some (.int x1), none, none, none, none] [] M := by
  refine ⟨fun c6 => ⟨hx0, ?_⟩, fun c6 => ⟨Nat.le_of_ble_eq_true rfl, rfl, hx0, 0, 0, Nat.zero_le _, Nat.zero_le _, h.2 c6⟩⟩
  have h1 := h.1 c6
  cases e2 : (M : zM).2.2.1 x0 2 with
  | none => exact h1.1 (Or.inl e2)
  | some r =>
    refine ⟨hx0, ?_⟩
    cases e3 : (M : zM).2.2.1 x0 3 with
    | none => exact h1.1 (Or.inr e3)
    | some r2 => exact h1.2 (by rw [e2, e3]; simp)
theorem vX2_build_38 {mc ms : Nat} {X : Nat → zV} {Q : zQt} {M : zM} {g : Nat} {x0 : Nat} (hW : zWd M g) (hx0 : zsh M x0 = some (0, 2)) (h : X 39 0 0 [.ref x0] [.int 0] M) : aX2_build_38 mc ms X Q 0 0 [some (.ref x0), none, none, none, none, none] [] M := h
theorem vX2_build_39 {mc ms : Nat} {X : Nat → zV} {Q : zQt} {M : zM} {g : Nat} {x0 : Nat} {s0 : Int32} (hW : zWd M g) (hx0 : zsh M x0 = some (0, 2)) (h : (s0 = 0 → X 67 0 0 [.ref x0, .int s0] [.int 0] M) ∧ (¬ s0 = 0 → ∃ r45, ((M : zM).2.2.1 x0 2) = some r45 ∧ zsh M r45 = some (0, 2) ∧ ∃ r52, ((M : zM).2.2.1 x0 3) = some r52 ∧ zsh M r52 = some (0, 2) ∧ X 67 0 0 [.ref x0, .int s0] [.int ((if (M.1 r45 11) < (M.1 r52 11) then (M.1 r52 11) else (M.1 r45 11)) + (1 : Int32))] M)) : aX2_build_39 mc ms X Q 0 0 [some (.ref x0), none, none, none, none, none] [.int s0] M := ⟨fun c41 => (h.1 c41), fun c41 => (let ⟨r45, q45, hr45, h45⟩ := (h.2 c41); ⟨hx0, r45, q45, ⟨hr45, (let ⟨r52, q52, hr52, h52⟩ := h45; ⟨hx0, r52, q52, ⟨hr52, ⟨Nat.le_of_ble_eq_true rfl, h52⟩⟩⟩)⟩⟩)⟩
theorem vX2_build_67 {mc ms : Nat} {X : Nat → zV} {Q : zQt} {M : zM} {g : Nat} {x0 : Nat} {x1 : Int32} {s0 : Int32} (hW : zWd M g) (hx0 : zsh M x0 = some (0, 2)) (h : X 73 0 0 [.ref x0, .int x1, .int s0, .int 0, .int 1] [] M) : aX2_build_67 mc ms X Q 0 0 [some (.ref x0), some (.int x1), none, none, none, none] [.int s0] M := h
theorem vX2_build_73 {mc ms : Nat} {X : Nat → zV} {Q : zQt} {M : zM} {g : Nat} {x0 : Nat} {x1 : Int32} {x2 : Int32} {x3 : Int32} {x4 : Int32} (hW : zWd M g) (hx0 : zsh M x0 = some (0, 2)) (h : ((64 : Int32) ≤ x4 → X 176 0 0 [] [] M) ∧ (¬ (64 : Int32) ≤ x4 → (x3 < (2 : Int32) → X 91 0 0 [.ref x0, .int x1, .int x2, .int x3, .int x4] [] M) ∧ (¬ x3 < (2 : Int32) → (x2 < x4 → X 176 0 0 [] [] M) ∧ (¬ x2 < x4 → X 91 0 0 [.ref x0, .int x1, .int x2, .int x3, .int x4] [] M)))) : aX2_build_73 mc ms X Q 0 0 [some (.ref x0), some (.int x1), some (.int x2), some (.int x3), some (.int x4), none] [] M := ⟨fun c77 => (h.1 c77), fun c77 => ⟨fun c82 => ((h.2 c77).1 c82), fun c82 => ⟨fun c88 => (((h.2 c77).2 c82).1 c88), fun c88 => (((h.2 c77).2 c82).2 c88)⟩⟩⟩
theorem vX2_build_91 {mc ms : Nat} {X : Nat → zV} {Q : zQt} {M : zM} {g : Nat} {x0 : Nat} {x1 : Int32} {x2 : Int32} {x3 : Int32} {x4 : Int32} (hW : zWd M g) (hx0 : zsh M x0 = some (0, 2)) (h : ((x4 - x4 / (2 : Int32) * (2 : Int32)) = (1 : Int32) → wX2_stepStrong 0 0 [.ref x0, .int x4] M (fun r M1 => kX2_build_105 mc ms X Q 0 0 [some (.ref x0), some (.int x1), some (.int x2), some (.int x3), some (.int x4), none] (r.toList ++ []) M1)) ∧ (¬ (x4 - x4 / (2 : Int32) * (2 : Int32)) = (1 : Int32) → wX2_stepWeak 0 0 [.ref x0, .int x4] M (fun r M1 => kX2_build_114 mc ms X Q 0 0 [some (.ref x0), some (.int x1), some (.int x2), some (.int x3), some (.int x4), none] (r.toList ++ []) M1))) : aX2_build_91 mc ms X Q 0 0 [some (.ref x0), some (.int x1), some (.int x2), some (.int x3), some (.int x4), none] [] M := ⟨by decide, ⟨fun c96 => ⟨Nat.le_of_ble_eq_true rfl, rfl, hx0, 0, 0, Nat.zero_le _, Nat.zero_le _, (h.1 c96)⟩, fun c96 => ⟨Nat.le_of_ble_eq_true rfl, rfl, hx0, 0, 0, Nat.zero_le _, Nat.zero_le _, (h.2 c96)⟩⟩⟩
theorem vX2_build_114 {mc ms : Nat} {X : Nat → zV} {Q : zQt} {M : zM} {g : Nat} {x0 : Nat} {x1 : Int32} {x2 : Int32} {x3 : Int32} {x4 : Int32} {s0 : Int32} (hW : zWd M g) (hx0 : zsh M x0 = some (0, 2)) (h : (x1 = 0 → X 139 0 0 [.ref x0, .int x1, .int x2, .int x3, .int x4, .int s0] [] M) ∧ (¬ x1 = 0 → ((x4 - x4 / (2 : Int32) * (2 : Int32)) = (1 : Int32) → wX2_stepBecoming 0 0 [.ref x0, .int x4] M (fun r M1 => kX2_build_136 mc ms X Q 0 0 [some (.ref x0), some (.int x1), some (.int x2), some (.int x3), some (.int x4), some (.int s0)] (r.toList ++ [.int s0]) M1)) ∧ (¬ (x4 - x4 / (2 : Int32) * (2 : Int32)) = (1 : Int32) → X 139 0 0 [.ref x0, .int x1, .int x2, .int x3, .int x4, .int s0] [] M))) : aX2_build_114 mc ms X Q 0 0 [some (.ref x0), some (.int x1), some (.int x2), some (.int x3), some (.int x4), none] [.int s0] M := ⟨fun c117 => (h.1 c117), fun c117 => ⟨by decide, ⟨fun c125 => ⟨Nat.le_of_ble_eq_true rfl, rfl, hx0, 0, 0, Nat.zero_le _, Nat.zero_le _, ((h.2 c117).1 c125)⟩, fun c125 => ((h.2 c117).2 c125)⟩⟩⟩
theorem vX2_build_139 {mc ms : Nat} {X : Nat → zV} {Q : zQt} {M : zM} {g : Nat} {x0 : Nat} {x1 : Int32} {x2 : Int32} {x3 : Int32} {x4 : Int32} {x5 : Int32} (hW : zWd M g) (hx0 : zsh M x0 = some (0, 2)) (h : (x5 = 0 → X 151 0 0 [.ref x0, .int x1, .int x2, .int x4, .int x5] [.int (x3 + (1 : Int32))] M) ∧ (¬ x5 = 0 → X 151 0 0 [.ref x0, .int x1, .int x2, .int x4, .int x5] [.int 0] M)) : aX2_build_139 mc ms X Q 0 0 [some (.ref x0), some (.int x1), some (.int x2), some (.int x3), some (.int x4), some (.int x5)] [] M := ⟨fun c141 => (h.1 c141), fun c141 => (h.2 c141)⟩
theorem vX2_build_151 {mc ms : Nat} {X : Nat → zV} {Q : zQt} {M : zM} {g : Nat} {x0 : Nat} {x1 : Int32} {x2 : Int32} {x4 : Int32} {x5 : Int32} {s0 : Int32} (hW : zWd M g) (hx0 : zsh M x0 = some (0, 2)) (h : (x5 = 0 → X 167 0 0 [.ref x0, .int x1, .int x2, .int s0, .int x4] [.int (M.1 x0 11), .ref x0] M) ∧ (¬ x5 = 0 → X 167 0 0 [.ref x0, .int x1, .int x2, .int s0, .int x4] [.int x4, .ref x0] M)) : aX2_build_151 mc ms X Q 0 0 [some (.ref x0), some (.int x1), some (.int x2), none, some (.int x4), some (.int x5)] [.int s0] M := ⟨fun c155 => ⟨hx0, (h.1 c155)⟩, fun c155 => (h.2 c155)⟩
theorem vX2_build_167 {mc ms : Nat} {X : Nat → zV} {Q : zQt} {M : zM} {g : Nat} {x0 : Nat} {x1 : Int32} {x2 : Int32} {x3 : Int32} {x4 : Int32} {s0 : Int32} {s1 : Nat} (hW : zWd M g) (hx0 : zsh M x0 = some (0, 2)) (hs1 : zsh M s1 = some (0, 2)) (h : ∀ M167 : zM, M167 = (zsI M s1 11 s0) → X 73 0 0 [.ref x0, .int x1, .int x2, .int x3, .int (x4 + 1)] [] M167) : aX2_build_167 mc ms X Q 0 0 [some (.ref x0), some (.int x1), some (.int x2), some (.int x3), some (.int x4), none] [.int s0, .ref s1] M := ⟨hs1, (have h167 := h _ rfl; h167)⟩
theorem vX2_build_176 {mc ms : Nat} {X : Nat → zV} {Q : zQt} {M : zM} {g : Nat}  (hW : zWd M g)  (h : Q none M) : aX2_build_176 mc ms X Q 0 0 [none, none, none, none, none, none] [] M := h
theorem vkX2_build_14 {mc ms : Nat} {X : Nat → zV} {Q : zQt} {M : zM} {g : Nat} {x0 : Nat} {x1 : Int32} (hW : zWd M g) (hx0 : zsh M x0 = some (0, 2)) (h : X 2 0 0 [.ref x0, .int (x1 + 1)] [] M) : kX2_build_14 mc ms X Q 0 0 [some (.ref x0), some (.int x1), none, none, none, none] [] M := h
theorem vkX2_build_105 {mc ms : Nat} {X : Nat → zV} {Q : zQt} {M : zM} {g : Nat} {x0 : Nat} {x1 : Int32} {x2 : Int32} {x3 : Int32} {x4 : Int32} {s0 : Int32} (hW : zWd M g) (hx0 : zsh M x0 = some (0, 2)) (h : X 114 0 0 [.ref x0, .int x1, .int x2, .int x3, .int x4] [.int s0] M) : kX2_build_105 mc ms X Q 0 0 [some (.ref x0), some (.int x1), some (.int x2), some (.int x3), some (.int x4), none] [.int s0] M := h
theorem vkX2_build_114 {mc ms : Nat} {X : Nat → zV} {Q : zQt} {M : zM} {g : Nat} {x0 : Nat} {x1 : Int32} {x2 : Int32} {x3 : Int32} {x4 : Int32} {s0 : Int32} (hW : zWd M g) (hx0 : zsh M x0 = some (0, 2)) (h : X 114 0 0 [.ref x0, .int x1, .int x2, .int x3, .int x4] [.int s0] M) : kX2_build_114 mc ms X Q 0 0 [some (.ref x0), some (.int x1), some (.int x2), some (.int x3), some (.int x4), none] [.int s0] M := h
theorem vkX2_build_136 {mc ms : Nat} {X : Nat → zV} {Q : zQt} {M : zM} {g : Nat} {x0 : Nat} {x1 : Int32} {x2 : Int32} {x3 : Int32} {x4 : Int32} {x5 : Int32} {s0 : Int32} {s1 : Int32} (hW : zWd M g) (hx0 : zsh M x0 = some (0, 2)) (h : X 139 0 0 [.ref x0, .int x1, .int x2, .int x3, .int x4, .int (s1 ||| s0)] [] M) : kX2_build_136 mc ms X Q 0 0 [some (.ref x0), some (.int x1), some (.int x2), some (.int x3), some (.int x4), some (.int x5)] [.int s0, .int s1] M := h
theorem dX3_prepare_0 : decode cX3_prepare 0 = .ok (.aload_n 0, 1) := by decide +kernel
theorem dX3_prepare_1 : decode cX3_prepare 1 = .ok (.getfield 17, 3) := by decide +kernel
theorem dX3_prepare_4 : decode cX3_prepare 4 = .ok (.iload_n 1, 1) := by decide +kernel
theorem dX3_prepare_5 : decode cX3_prepare 5 = .ok (.aaload, 1) := by decide +kernel
theorem dX3_prepare_6 : decode cX3_prepare 6 = .ok (.ifnonnull 69, 3) := by decide +kernel
theorem dX3_prepare_9 : decode cX3_prepare 9 = .ok (.iload_n 1, 1) := by decide +kernel
theorem dX3_prepare_10 : decode cX3_prepare 10 = .ok (.iconst 1, 1) := by decide +kernel
theorem dX3_prepare_11 : decode cX3_prepare 11 = .ok (.if_icmp .ne 7, 3) := by decide +kernel
theorem dX3_prepare_14 : decode cX3_prepare 14 = .ok (.iconst 1, 1) := by decide +kernel
theorem dX3_prepare_15 : decode cX3_prepare 15 = .ok (.goto 4, 3) := by decide +kernel
theorem dX3_prepare_18 : decode cX3_prepare 18 = .ok (.iconst 0, 1) := by decide +kernel
theorem dX3_prepare_19 : decode cX3_prepare 19 = .ok (.istore_n 2, 1) := by decide +kernel
theorem dX3_prepare_20 : decode cX3_prepare 20 = .ok (.aload_n 0, 1) := by decide +kernel
theorem dX3_prepare_21 : decode cX3_prepare 21 = .ok (.getfield 17, 3) := by decide +kernel
theorem dX3_prepare_24 : decode cX3_prepare 24 = .ok (.iload_n 1, 1) := by decide +kernel
theorem dX3_prepare_25 : decode cX3_prepare 25 = .ok (.new 15, 3) := by decide +kernel
theorem dX3_prepare_28 : decode cX3_prepare 28 = .ok (.dup, 1) := by decide +kernel
theorem dX3_prepare_29 : decode cX3_prepare 29 = .ok (.aload_n 0, 1) := by decide +kernel
theorem dX3_prepare_30 : decode cX3_prepare 30 = .ok (.getfield 9, 3) := by decide +kernel
theorem dX3_prepare_33 : decode cX3_prepare 33 = .ok (.iload_n 1, 1) := by decide +kernel
theorem dX3_prepare_34 : decode cX3_prepare 34 = .ok (.iload_n 2, 1) := by decide +kernel
theorem dX3_prepare_35 : decode cX3_prepare 35 = .ok (.ifCond .eq 12, 3) := by decide +kernel
theorem dX3_prepare_38 : decode cX3_prepare 38 = .ok (.aload_n 0, 1) := by decide +kernel
theorem dX3_prepare_39 : decode cX3_prepare 39 = .ok (.getfield 17, 3) := by decide +kernel
theorem dX3_prepare_42 : decode cX3_prepare 42 = .ok (.iconst 5, 1) := by decide +kernel
theorem dX3_prepare_43 : decode cX3_prepare 43 = .ok (.aaload, 1) := by decide +kernel
theorem dX3_prepare_44 : decode cX3_prepare 44 = .ok (.goto 4, 3) := by decide +kernel
theorem dX3_prepare_47 : decode cX3_prepare 47 = .ok (.aconst_null, 1) := by decide +kernel
theorem dX3_prepare_48 : decode cX3_prepare 48 = .ok (.iload_n 2, 1) := by decide +kernel
theorem dX3_prepare_49 : decode cX3_prepare 49 = .ok (.ifCond .eq 12, 3) := by decide +kernel
theorem dX3_prepare_52 : decode cX3_prepare 52 = .ok (.aload_n 0, 1) := by decide +kernel
theorem dX3_prepare_53 : decode cX3_prepare 53 = .ok (.getfield 17, 3) := by decide +kernel
theorem dX3_prepare_56 : decode cX3_prepare 56 = .ok (.iconst 4, 1) := by decide +kernel
theorem dX3_prepare_57 : decode cX3_prepare 57 = .ok (.aaload, 1) := by decide +kernel
theorem dX3_prepare_58 : decode cX3_prepare 58 = .ok (.goto 4, 3) := by decide +kernel
theorem dX3_prepare_61 : decode cX3_prepare 61 = .ok (.aconst_null, 1) := by decide +kernel
theorem dX3_prepare_62 : decode cX3_prepare 62 = .ok (.invokespecial 68, 3) := by decide +kernel
theorem dX3_prepare_65 : decode cX3_prepare 65 = .ok (.aastore, 1) := by decide +kernel
theorem dX3_prepare_66 : decode cX3_prepare 66 = .ok (.aload_n 0, 1) := by decide +kernel
theorem dX3_prepare_67 : decode cX3_prepare 67 = .ok (.getfield 17, 3) := by decide +kernel
theorem dX3_prepare_70 : decode cX3_prepare 70 = .ok (.iload_n 1, 1) := by decide +kernel
theorem dX3_prepare_71 : decode cX3_prepare 71 = .ok (.aaload, 1) := by decide +kernel
theorem dX3_prepare_72 : decode cX3_prepare 72 = .ok (.invokevirtual 71, 3) := by decide +kernel
theorem dX3_prepare_75 : decode cX3_prepare 75 = .ok (.return_, 1) := by decide +kernel
def kX3_prepare_75 (mc ms : Nat) (X : Nat → zV) (Q : zQt) : zT :=
  zj X 75 []
def kX3_prepare_65 (mc ms : Nat) (X : Nat → zV) (Q : zQt) : zT :=
  zasr <| zla 0 <| zgR 3 1 <| zli 1 <| zalR <| zcv mc ms 2 0 wX2_build <| kX3_prepare_75 mc ms X Q
def aX3_prepare_0 (mc ms : Nat) (X : Nat → zV) (Q : zQt) : zT :=
  zla 0 <| zgR 3 1 <| zli 1 <| zalr <| znl (zli 1 <| zc (.int 1) <| zic (fun x y => x = y) (zc (.int 1) <| zj X 19 [0, 1]) <| zc (.int 0) <| zj X 19 [0, 1]) <| zj X 75 []
def aX3_prepare_19 (mc ms : Nat) (X : Nat → zV) (Q : zQt) : zT :=
  zsi 2 <| zla 0 <| zgR 3 1 <| zli 1 <| znew mc ms 2 <| zdup <| zla 0 <| zgR 3 0 <| zli 1 <| zli 2 <| zif (fun x => x = 0) (zc .null <| zj X 48 [0, 1, 2]) <| zla 0 <| zgR 3 1 <| zc (.int 5) <| zalR <| zj X 48 [0, 1, 2]
def aX3_prepare_48 (mc ms : Nat) (X : Nat → zV) (Q : zQt) : zT :=
  zli 2 <| zif (fun x => x = 0) (zc .null <| zj X 62 [0, 1]) <| zla 0 <| zgR 3 1 <| zc (.int 4) <| zalR <| zj X 62 [0, 1]
def aX3_prepare_62 (mc ms : Nat) (X : Nat → zV) (Q : zQt) : zT :=
  zci mc ms 4 wX2_init <| kX3_prepare_65 mc ms X Q
def aX3_prepare_75 (mc ms : Nat) (X : Nat → zV) (Q : zQt) : zT :=
  zrv Q
def lvX3_prepare : Nat → List Nat := fun L => match L with
  | 0 => [0, 1]
  | 19 => [0, 1]
  | 48 => [0, 1, 2]
  | 62 => [0, 1]
  | 75 => []
  | _ => []
def wX3_prepare : zSp := fun mc ms av M Q => ((zlay av).length ≤ 3 ∧ zpick (zlay av) [0, 1] = some av) ∧ ∀ X : Nat → zV, zin 3 [0, 1] (aX3_prepare_0 mc ms X Q) X 0 → zin 3 [0, 1] (aX3_prepare_19 mc ms X Q) X 19 → zin 3 [0, 1, 2] (aX3_prepare_48 mc ms X Q) X 48 → zin 3 [0, 1] (aX3_prepare_62 mc ms X Q) X 62 → zin 3 [] (aX3_prepare_75 mc ms X Q) X 75 → X 0 0 0 av [] M
set_option maxRecDepth 100000 in
set_option maxHeartbeats 4000000 in
theorem sX3_prepare (l : Launch) (G : zG) : zSnd l G yX3_prepare cX3_prepare 3 none 4 110 wX3_prepare := by
  refine zmk [0, 1] (by decide) (fun mc ms av M Q h => h.1) ?_
  intro p e R s m args below meth c mc ms av M Q hC hRf hRl hr hnm h lv hlv
  obtain ⟨X, hXe⟩ : ∃ X : Nat → zV, X = fun L u v vs st M => ∀ lv, zpick lv (lvX3_prepare L) = some vs → zAt p l e R s m args below meth c (MQ below (zQ G Q) args s mc ms (zA G)) G 3 L u v lv st M := ⟨_, rfl⟩
  have hJ : ∀ L, zOk p l e R s m args below meth c (MQ below (zQ G Q) args s mc ms (zA G)) G 3 L (zj X L (lvX3_prepare L)) := fun L => S_jump (fun u v lv vs st M hp hx => by rw [hXe] at hx; exact hx lv hp)
  have hB0 : zin 3 [0, 1] (aX3_prepare_0 mc ms X Q) X 0 := by
    intro u v vs st M hb
    rw [hXe]
    refine fun lv hp => S_block (L := 0) (live := [0, 1]) ?_ u v lv vs st M hp hb
    unfold aX3_prepare_0
    refine S_aload_n (pc := 0) hC dX3_prepare_0 rfl ?_
    refine S_getR (pc := 1) hC cfX3 (by decide) (Or.inr ⟨_, rfl⟩) wd_194 dX3_prepare_1 ?_
    refine S_iload_n (pc := 4) hC dX3_prepare_4 rfl ?_
    refine S_aaload (pc := 5) hC dX3_prepare_5 ?_
    refine S_ifnonnull (pc := 6) (tgt := 75) hC dX3_prepare_6 (by decide) ?_ ?_
    · exact hJ 75
    · refine S_iload_n (pc := 9) hC dX3_prepare_9 rfl ?_
      refine S_iconst (pc := 10) hC dX3_prepare_10 (by decide) ?_
      refine S_icmp_ne (pc := 11) (tgt := 18) hC dX3_prepare_11 (by decide) ?_ ?_
      · refine S_iconst (pc := 18) hC dX3_prepare_18 (by decide) ?_
        exact hJ 19
      · refine S_iconst (pc := 14) hC dX3_prepare_14 (by decide) ?_
        refine S_goto (pc := 15) (tgt := 19) hC dX3_prepare_15 (by decide) ?_
        exact hJ 19
  have hB19 : zin 3 [0, 1] (aX3_prepare_19 mc ms X Q) X 19 := by
    intro u v vs st M hb
    rw [hXe]
    refine fun lv hp => S_block (L := 19) (live := [0, 1]) ?_ u v lv vs st M hp hb
    unfold aX3_prepare_19
    refine S_istore_n (pc := 19) hC dX3_prepare_19 rfl (by decide) ?_
    refine S_aload_n (pc := 20) hC dX3_prepare_20 rfl ?_
    refine S_getR (pc := 21) hC cfX3 (by decide) (Or.inr ⟨_, rfl⟩) wd_194 dX3_prepare_21 ?_
    refine S_iload_n (pc := 24) hC dX3_prepare_24 rfl ?_
    refine S_new (pc := 25) hC cfX2 (by decide) wd_191 wd_1068 wd_28 dX3_prepare_25 ?_
    refine S_dup (pc := 28) hC dX3_prepare_28 ?_
    refine S_aload_n (pc := 29) hC dX3_prepare_29 rfl ?_
    refine S_getR (pc := 30) hC cfX3 (by decide) (Or.inl ⟨_, rfl⟩) wd_193 dX3_prepare_30 ?_
    refine S_iload_n (pc := 33) hC dX3_prepare_33 rfl ?_
    refine S_iload_n (pc := 34) hC dX3_prepare_34 rfl ?_
    refine S_if_eq (pc := 35) (tgt := 47) hC dX3_prepare_35 (by decide) ?_ ?_
    · refine S_null (pc := 47) hC dX3_prepare_47 ?_
      exact hJ 48
    · refine S_aload_n (pc := 38) hC dX3_prepare_38 rfl ?_
      refine S_getR (pc := 39) hC cfX3 (by decide) (Or.inr ⟨_, rfl⟩) wd_194 dX3_prepare_39 ?_
      refine S_iconst (pc := 42) hC dX3_prepare_42 (by decide) ?_
      refine S_aaloadR (pc := 43) hC dX3_prepare_43 ?_
      refine S_goto (pc := 44) (tgt := 48) hC dX3_prepare_44 (by decide) ?_
      exact hJ 48
  have hB48 : zin 3 [0, 1, 2] (aX3_prepare_48 mc ms X Q) X 48 := by
    intro u v vs st M hb
    rw [hXe]
    refine fun lv hp => S_block (L := 48) (live := [0, 1, 2]) ?_ u v lv vs st M hp hb
    unfold aX3_prepare_48
    refine S_iload_n (pc := 48) hC dX3_prepare_48 rfl ?_
    refine S_if_eq (pc := 49) (tgt := 61) hC dX3_prepare_49 (by decide) ?_ ?_
    · refine S_null (pc := 61) hC dX3_prepare_61 ?_
      exact hJ 62
    · refine S_aload_n (pc := 52) hC dX3_prepare_52 rfl ?_
      refine S_getR (pc := 53) hC cfX3 (by decide) (Or.inr ⟨_, rfl⟩) wd_194 dX3_prepare_53 ?_
      refine S_iconst (pc := 56) hC dX3_prepare_56 (by decide) ?_
      refine S_aaloadR (pc := 57) hC dX3_prepare_57 ?_
      refine S_goto (pc := 58) (tgt := 62) hC dX3_prepare_58 (by decide) ?_
      exact hJ 62
  have hB62 : zin 3 [0, 1] (aX3_prepare_62 mc ms X Q) X 62 := by
    intro u v vs st M hb
    rw [hXe]
    refine fun lv hp => S_block (L := 62) (live := [0, 1]) ?_ u v lv vs st M hp hb
    unfold aX3_prepare_62
    refine S_callI (pc := 62) hC (sX2_init l G) wd_1069 wd_1070 wd_28 wd_1071 rfl (by decide +kernel) ⟨by rw [hRf]; decide, by rw [hRl]; decide⟩ dX3_prepare_62 ?_
    unfold kX3_prepare_65
    refine S_aastore (pc := 65) hC dX3_prepare_65 ?_
    refine S_aload_n (pc := 66) hC dX3_prepare_66 rfl ?_
    refine S_getR (pc := 67) hC cfX3 (by decide) (Or.inr ⟨_, rfl⟩) wd_194 dX3_prepare_67 ?_
    refine S_iload_n (pc := 70) hC dX3_prepare_70 rfl ?_
    refine S_aaloadR (pc := 71) hC dX3_prepare_71 ?_
    refine S_callV (pc := 72) hC (sX2_build l G) rfl wd_1111 wd_1112 wd_1113 wd_28 wd_1114 (by decide +kernel) ⟨by rw [hRf]; decide, by rw [hRl]; decide⟩ dX3_prepare_72 ?_
    unfold kX3_prepare_75
    exact hJ 75
  have hB75 : zin 3 [] (aX3_prepare_75 mc ms X Q) X 75 := by
    intro u v vs st M hb
    rw [hXe]
    refine fun lv hp => S_block (L := 75) (live := []) ?_ u v lv vs st M hp hb
    unfold aX3_prepare_75
    exact S_vreturn (pc := 75) hC hr dX3_prepare_75
  have := h.2 X hB0 hB19 hB48 hB62 hB75
  rw [hXe] at this
  exact this lv hlv
theorem dX5_goals_0 : decode cX5_goals 0 = .ok (.aload_n 0, 1) := by decide +kernel
theorem dX5_goals_1 : decode cX5_goals 1 = .ok (.getfield 9, 3) := by decide +kernel
theorem dX5_goals_4 : decode cX5_goals 4 = .ok (.getfield 45, 3) := by decide +kernel
theorem dX5_goals_7 : decode cX5_goals 7 = .ok (.iload_n 1, 1) := by decide +kernel
theorem dX5_goals_8 : decode cX5_goals 8 = .ok (.iaload, 1) := by decide +kernel
theorem dX5_goals_9 : decode cX5_goals 9 = .ok (.istore_n 2, 1) := by decide +kernel
theorem dX5_goals_10 : decode cX5_goals 10 = .ok (.aload_n 0, 1) := by decide +kernel
theorem dX5_goals_11 : decode cX5_goals 11 = .ok (.getfield 9, 3) := by decide +kernel
theorem dX5_goals_14 : decode cX5_goals 14 = .ok (.invokevirtual 70, 3) := by decide +kernel
theorem dX5_goals_17 : decode cX5_goals 17 = .ok (.lstore_n 3, 1) := by decide +kernel
theorem dX5_goals_18 : decode cX5_goals 18 = .ok (.iload_n 2, 1) := by decide +kernel
theorem dX5_goals_19 : decode cX5_goals 19 = .ok (.bipush 6, 2) := by decide +kernel
theorem dX5_goals_21 : decode cX5_goals 21 = .ok (.if_icmp .le 10, 3) := by decide +kernel
theorem dX5_goals_24 : decode cX5_goals 24 = .ok (.iload_n 2, 1) := by decide +kernel
theorem dX5_goals_25 : decode cX5_goals 25 = .ok (.bipush 6, 2) := by decide +kernel
theorem dX5_goals_27 : decode cX5_goals 27 = .ok (.isub, 1) := by decide +kernel
theorem dX5_goals_28 : decode cX5_goals 28 = .ok (.goto 4, 3) := by decide +kernel
theorem dX5_goals_31 : decode cX5_goals 31 = .ok (.iload_n 2, 1) := by decide +kernel
theorem dX5_goals_32 : decode cX5_goals 32 = .ok (.tableswitch 116 1 5 #[36, 46, 60, 75, 90], 36) := by decide +kernel
theorem dX5_goals_68 : decode cX5_goals 68 = .ok (.aload_n 0, 1) := by decide +kernel
theorem dX5_goals_69 : decode cX5_goals 69 = .ok (.iload_n 1, 1) := by decide +kernel
theorem dX5_goals_70 : decode cX5_goals 70 = .ok (.invokevirtual 91, 3) := by decide +kernel
theorem dX5_goals_73 : decode cX5_goals 73 = .ok (.lstore 5, 2) := by decide +kernel
theorem dX5_goals_75 : decode cX5_goals 75 = .ok (.goto 84, 3) := by decide +kernel
theorem dX5_goals_78 : decode cX5_goals 78 = .ok (.aload_n 0, 1) := by decide +kernel
theorem dX5_goals_79 : decode cX5_goals 79 = .ok (.getfield 15, 3) := by decide +kernel
theorem dX5_goals_82 : decode cX5_goals 82 = .ok (.getfield 94, 3) := by decide +kernel
theorem dX5_goals_85 : decode cX5_goals 85 = .ok (.iload_n 1, 1) := by decide +kernel
theorem dX5_goals_86 : decode cX5_goals 86 = .ok (.laload, 1) := by decide +kernel
theorem dX5_goals_87 : decode cX5_goals 87 = .ok (.lstore 5, 2) := by decide +kernel
theorem dX5_goals_89 : decode cX5_goals 89 = .ok (.goto 70, 3) := by decide +kernel
theorem dX5_goals_92 : decode cX5_goals 92 = .ok (.aload_n 0, 1) := by decide +kernel
theorem dX5_goals_93 : decode cX5_goals 93 = .ok (.getfield 15, 3) := by decide +kernel
theorem dX5_goals_96 : decode cX5_goals 96 = .ok (.iload_n 1, 1) := by decide +kernel
theorem dX5_goals_97 : decode cX5_goals 97 = .ok (.lload_n 3, 1) := by decide +kernel
theorem dX5_goals_98 : decode cX5_goals 98 = .ok (.iconst 2, 1) := by decide +kernel
theorem dX5_goals_99 : decode cX5_goals 99 = .ok (.invokevirtual 97, 3) := by decide +kernel
theorem dX5_goals_102 : decode cX5_goals 102 = .ok (.lstore 5, 2) := by decide +kernel
theorem dX5_goals_104 : decode cX5_goals 104 = .ok (.goto 55, 3) := by decide +kernel
theorem dX5_goals_107 : decode cX5_goals 107 = .ok (.aload_n 0, 1) := by decide +kernel
theorem dX5_goals_108 : decode cX5_goals 108 = .ok (.getfield 15, 3) := by decide +kernel
theorem dX5_goals_111 : decode cX5_goals 111 = .ok (.iload_n 1, 1) := by decide +kernel
theorem dX5_goals_112 : decode cX5_goals 112 = .ok (.lload_n 3, 1) := by decide +kernel
theorem dX5_goals_113 : decode cX5_goals 113 = .ok (.iconst 0, 1) := by decide +kernel
theorem dX5_goals_114 : decode cX5_goals 114 = .ok (.invokevirtual 97, 3) := by decide +kernel
theorem dX5_goals_117 : decode cX5_goals 117 = .ok (.lstore 5, 2) := by decide +kernel
theorem dX5_goals_119 : decode cX5_goals 119 = .ok (.goto 40, 3) := by decide +kernel
theorem dX5_goals_122 : decode cX5_goals 122 = .ok (.aload_n 0, 1) := by decide +kernel
theorem dX5_goals_123 : decode cX5_goals 123 = .ok (.getfield 15, 3) := by decide +kernel
theorem dX5_goals_126 : decode cX5_goals 126 = .ok (.iload_n 1, 1) := by decide +kernel
theorem dX5_goals_127 : decode cX5_goals 127 = .ok (.lload_n 3, 1) := by decide +kernel
theorem dX5_goals_128 : decode cX5_goals 128 = .ok (.iconst 2, 1) := by decide +kernel
theorem dX5_goals_129 : decode cX5_goals 129 = .ok (.invokevirtual 97, 3) := by decide +kernel
theorem dX5_goals_132 : decode cX5_goals 132 = .ok (.aload_n 0, 1) := by decide +kernel
theorem dX5_goals_133 : decode cX5_goals 133 = .ok (.getfield 15, 3) := by decide +kernel
theorem dX5_goals_136 : decode cX5_goals 136 = .ok (.iload_n 1, 1) := by decide +kernel
theorem dX5_goals_137 : decode cX5_goals 137 = .ok (.lload_n 3, 1) := by decide +kernel
theorem dX5_goals_138 : decode cX5_goals 138 = .ok (.iconst 0, 1) := by decide +kernel
theorem dX5_goals_139 : decode cX5_goals 139 = .ok (.invokevirtual 97, 3) := by decide +kernel
theorem dX5_goals_142 : decode cX5_goals 142 = .ok (.lor, 1) := by decide +kernel
theorem dX5_goals_143 : decode cX5_goals 143 = .ok (.lstore 5, 2) := by decide +kernel
theorem dX5_goals_145 : decode cX5_goals 145 = .ok (.goto 14, 3) := by decide +kernel
theorem dX5_goals_148 : decode cX5_goals 148 = .ok (.aload_n 0, 1) := by decide +kernel
theorem dX5_goals_149 : decode cX5_goals 149 = .ok (.getfield 15, 3) := by decide +kernel
theorem dX5_goals_152 : decode cX5_goals 152 = .ok (.getfield 101, 3) := by decide +kernel
theorem dX5_goals_155 : decode cX5_goals 155 = .ok (.iload_n 1, 1) := by decide +kernel
theorem dX5_goals_156 : decode cX5_goals 156 = .ok (.laload, 1) := by decide +kernel
theorem dX5_goals_157 : decode cX5_goals 157 = .ok (.lstore 5, 2) := by decide +kernel
theorem dX5_goals_159 : decode cX5_goals 159 = .ok (.lload 5, 2) := by decide +kernel
theorem dX5_goals_161 : decode cX5_goals 161 = .ok (.aload_n 0, 1) := by decide +kernel
theorem dX5_goals_162 : decode cX5_goals 162 = .ok (.getfield 9, 3) := by decide +kernel
theorem dX5_goals_165 : decode cX5_goals 165 = .ok (.getfield 22, 3) := by decide +kernel
theorem dX5_goals_168 : decode cX5_goals 168 = .ok (.aload_n 0, 1) := by decide +kernel
theorem dX5_goals_169 : decode cX5_goals 169 = .ok (.getfield 9, 3) := by decide +kernel
theorem dX5_goals_172 : decode cX5_goals 172 = .ok (.getfield 28, 3) := by decide +kernel
theorem dX5_goals_175 : decode cX5_goals 175 = .ok (.laload, 1) := by decide +kernel
theorem dX5_goals_176 : decode cX5_goals 176 = .ok (.aload_n 0, 1) := by decide +kernel
theorem dX5_goals_177 : decode cX5_goals 177 = .ok (.getfield 9, 3) := by decide +kernel
theorem dX5_goals_180 : decode cX5_goals 180 = .ok (.getfield 88, 3) := by decide +kernel
theorem dX5_goals_183 : decode cX5_goals 183 = .ok (.bipush 6, 2) := by decide +kernel
theorem dX5_goals_185 : decode cX5_goals 185 = .ok (.bipush 6, 2) := by decide +kernel
theorem dX5_goals_187 : decode cX5_goals 187 = .ok (.iconst 1, 1) := by decide +kernel
theorem dX5_goals_188 : decode cX5_goals 188 = .ok (.aload_n 0, 1) := by decide +kernel
theorem dX5_goals_189 : decode cX5_goals 189 = .ok (.getfield 9, 3) := by decide +kernel
theorem dX5_goals_192 : decode cX5_goals 192 = .ok (.getfield 28, 3) := by decide +kernel
theorem dX5_goals_195 : decode cX5_goals 195 = .ok (.isub, 1) := by decide +kernel
theorem dX5_goals_196 : decode cX5_goals 196 = .ok (.imul, 1) := by decide +kernel
theorem dX5_goals_197 : decode cX5_goals 197 = .ok (.iadd, 1) := by decide +kernel
theorem dX5_goals_198 : decode cX5_goals 198 = .ok (.laload, 1) := by decide +kernel
theorem dX5_goals_199 : decode cX5_goals 199 = .ok (.lor, 1) := by decide +kernel
theorem dX5_goals_200 : decode cX5_goals 200 = .ok (.ldc2_w 103, 3) := by decide +kernel
theorem dX5_goals_203 : decode cX5_goals 203 = .ok (.lxor, 1) := by decide +kernel
theorem dX5_goals_204 : decode cX5_goals 204 = .ok (.land, 1) := by decide +kernel
theorem dX5_goals_205 : decode cX5_goals 205 = .ok (.lreturn, 1) := by decide +kernel
def kX5_goals_17 (mc ms : Nat) (X : Nat → zV) (Q : zQt) : zT :=
  zsl 3 <| zli 2 <| zc (.int 6) <| zic (fun x y => x ≤ y) (zli 2 <| zj X 32 [0, 1, 3]) <| zli 2 <| zc (.int 6) <| zii (fun x y => x - y) <| zj X 32 [0, 1, 3]
def kX5_goals_10 (mc ms : Nat) (X : Nat → zV) (Q : zQt) : zT :=
  zla 0 <| zgR 5 0 <| zcv mc ms 0 0 wX0_occupied <| kX5_goals_17 mc ms X Q
def kX5_goals_73 (mc ms : Nat) (X : Nat → zV) (Q : zQt) : zT :=
  zsl 5 <| zj X 159 [0, 5]
def kX5_goals_89 (mc ms : Nat) (X : Nat → zV) (Q : zQt) : zT :=
  zj X 159 [0, 5]
def kX5_goals_102 (mc ms : Nat) (X : Nat → zV) (Q : zQt) : zT :=
  zsl 5 <| zj X 159 [0, 5]
def kX5_goals_117 (mc ms : Nat) (X : Nat → zV) (Q : zQt) : zT :=
  zsl 5 <| zj X 159 [0, 5]
def kX5_goals_142 (mc ms : Nat) (X : Nat → zV) (Q : zQt) : zT :=
  zjj (fun x y => x ||| y) <| zsl 5 <| zj X 159 [0, 5]
def kX5_goals_132 (mc ms : Nat) (X : Nat → zV) (Q : zQt) : zT :=
  zla 0 <| zgR 5 1 <| zli 1 <| zll 3 <| zc (.int 0) <| zcv mc ms 1 3 wX1_lines <| kX5_goals_142 mc ms X Q
def aX5_goals_0 (mc ms : Nat) (X : Nat → zV) (Q : zQt) : zT :=
  zla 0 <| zgR 5 0 <| zgR 0 1 <| zli 1 <| zal 1 <| zsiN 2 <| kX5_goals_10 mc ms X Q
def aX5_goals_32 (mc ms : Nat) (X : Nat → zV) (Q : zQt) : zT :=
  zsw 1 5 [(zla 0 <| zli 1 <| zcv mc ms 5 1 wX5_pawnGoals <| kX5_goals_73 mc ms X Q), (zla 0 <| zgR 5 1 <| zgR 1 0 <| zli 1 <| zall <| zslN 5 <| kX5_goals_89 mc ms X Q), (zla 0 <| zgR 5 1 <| zli 1 <| zll 3 <| zc (.int 2) <| zcv mc ms 1 3 wX1_lines <| kX5_goals_102 mc ms X Q), (zla 0 <| zgR 5 1 <| zli 1 <| zll 3 <| zc (.int 0) <| zcv mc ms 1 3 wX1_lines <| kX5_goals_117 mc ms X Q), (zla 0 <| zgR 5 1 <| zli 1 <| zll 3 <| zc (.int 2) <| zcv mc ms 1 3 wX1_lines <| kX5_goals_132 mc ms X Q)] <| zla 0 <| zgR 5 1 <| zgR 1 1 <| zli 1 <| zall <| zslN 5 <| zj X 159 [0, 5]
def aX5_goals_159 (mc ms : Nat) (X : Nat → zV) (Q : zQt) : zT :=
  zll 5 <| zla 0 <| zgR 5 0 <| zgR 0 3 <| zla 0 <| zgR 5 0 <| zgi 0 4 <| zall <| zla 0 <| zgR 5 0 <| zgR 0 2 <| zc (.int 6) <| zc (.int 6) <| zc (.int 1) <| zla 0 <| zgR 5 0 <| zgi 0 4 <| zii (fun x y => x - y) <| zii (fun x y => x * y) <| zii (fun x y => x + y) <| zall <| zjj (fun x y => x ||| y) <| zc (.long (-1)) <| zjj (fun x y => x ^^^ y) <| zjj (fun x y => x &&& y) <| zrl Q
def lvX5_goals : Nat → List Nat := fun L => match L with
  | 0 => [0, 1]
  | 32 => [0, 1, 3]
  | 159 => [0, 5]
  | _ => []
def wX5_goals : zSp := fun mc ms av M Q => ((zlay av).length ≤ 7 ∧ zpick (zlay av) [0, 1] = some av) ∧ ∀ X : Nat → zV, zin 7 [0, 1] (aX5_goals_0 mc ms X Q) X 0 → zin 7 [0, 1, 3] (aX5_goals_32 mc ms X Q) X 32 → zin 7 [0, 5] (aX5_goals_159 mc ms X Q) X 159 → X 0 0 0 av [] M
set_option maxRecDepth 100000 in
set_option maxHeartbeats 4000000 in
theorem sX5_goals (l : Launch) (G : zG) : zSnd l G yX5_goals cX5_goals 7 (some .long) 2 49 wX5_goals := by
  refine zmk [0, 1] (by decide) (fun mc ms av M Q h => h.1) ?_
  intro p e R s m args below meth c mc ms av M Q hC hRf hRl hr hnm h lv hlv
  obtain ⟨X, hXe⟩ : ∃ X : Nat → zV, X = fun L u v vs st M => ∀ lv, zpick lv (lvX5_goals L) = some vs → zAt p l e R s m args below meth c (MQ below (zQ G Q) args s mc ms (zA G)) G 7 L u v lv st M := ⟨_, rfl⟩
  have hJ : ∀ L, zOk p l e R s m args below meth c (MQ below (zQ G Q) args s mc ms (zA G)) G 7 L (zj X L (lvX5_goals L)) := fun L => S_jump (fun u v lv vs st M hp hx => by rw [hXe] at hx; exact hx lv hp)
  have hB0 : zin 7 [0, 1] (aX5_goals_0 mc ms X Q) X 0 := by
    intro u v vs st M hb
    rw [hXe]
    refine fun lv hp => S_block (L := 0) (live := [0, 1]) ?_ u v lv vs st M hp hb
    unfold aX5_goals_0
    refine S_aload_n (pc := 0) hC dX5_goals_0 rfl ?_
    refine S_getR (pc := 1) hC cfX5 (by decide) (Or.inl ⟨_, rfl⟩) wd_294 dX5_goals_1 ?_
    refine S_getR (pc := 4) hC cfX0 (by decide) (Or.inr ⟨_, rfl⟩) wd_215 dX5_goals_4 ?_
    refine S_iload_n (pc := 7) hC dX5_goals_7 rfl ?_
    refine S_iaload (pc := 8) hC dX5_goals_8 ?_
    refine S_istore_n_N (pc := 9) hC dX5_goals_9 rfl (by decide) ?_
    unfold kX5_goals_10
    refine S_aload_n (pc := 10) hC dX5_goals_10 rfl ?_
    refine S_getR (pc := 11) hC cfX5 (by decide) (Or.inl ⟨_, rfl⟩) wd_294 dX5_goals_11 ?_
    refine S_callV (pc := 14) hC (sX0_occupied l G) rfl wd_443 wd_444 wd_445 wd_10 wd_446 (by decide +kernel) ⟨by rw [hRf]; decide, by rw [hRl]; decide⟩ dX5_goals_14 ?_
    unfold kX5_goals_17
    refine S_lstore_n (pc := 17) hC dX5_goals_17 rfl (by decide) ?_
    refine S_iload_n (pc := 18) hC dX5_goals_18 rfl ?_
    refine S_bipush (pc := 19) hC dX5_goals_19 (by decide) ?_
    refine S_icmp_le (pc := 21) (tgt := 31) hC dX5_goals_21 (by decide) ?_ ?_
    · refine S_iload_n (pc := 31) hC dX5_goals_31 rfl ?_
      exact hJ 32
    · refine S_iload_n (pc := 24) hC dX5_goals_24 rfl ?_
      refine S_bipush (pc := 25) hC dX5_goals_25 (by decide) ?_
      refine S_isub (pc := 27) hC dX5_goals_27 ?_
      refine S_goto (pc := 28) (tgt := 32) hC dX5_goals_28 (by decide) ?_
      exact hJ 32
  have hB32 : zin 7 [0, 1, 3] (aX5_goals_32 mc ms X Q) X 32 := by
    intro u v vs st M hb
    rw [hXe]
    refine fun lv hp => S_block (L := 32) (live := [0, 1, 3]) ?_ u v lv vs st M hp hb
    unfold aX5_goals_32
    refine S_table (pc := 32) (tgd := 148) hC dX5_goals_32 (by decide) ?_ (fun i hi => ?_)
    · refine S_aload_n (pc := 148) hC dX5_goals_148 rfl ?_
      refine S_getR (pc := 149) hC cfX5 (by decide) (Or.inl ⟨_, rfl⟩) wd_295 dX5_goals_149 ?_
      refine S_getR (pc := 152) hC cfX1 (by decide) (Or.inr ⟨_, rfl⟩) wd_62 dX5_goals_152 ?_
      refine S_iload_n (pc := 155) hC dX5_goals_155 rfl ?_
      refine S_laload (pc := 156) hC dX5_goals_156 ?_
      refine S_lstore_N (pc := 157) hC dX5_goals_157 (by decide) ?_
      exact hJ 159
    · match i, hi with
        | 0, _ =>
          refine ⟨_, 68, _, rfl, by decide, rfl, ?_⟩
          refine S_aload_n (pc := 68) hC dX5_goals_68 rfl ?_
          refine S_iload_n (pc := 69) hC dX5_goals_69 rfl ?_
          refine S_callV (pc := 70) hC (sX5_pawnGoals l G) rfl wd_462 wd_464 ws_3 wd_11 wd_465 (by decide +kernel) ⟨by rw [hRf]; decide, by rw [hRl]; decide⟩ dX5_goals_70 ?_
          unfold kX5_goals_73
          refine S_lstore (pc := 73) hC dX5_goals_73 (by decide) ?_
          refine S_goto (pc := 75) (tgt := 159) hC dX5_goals_75 (by decide) ?_
          exact hJ 159
        | 1, _ =>
          refine ⟨_, 78, _, rfl, by decide, rfl, ?_⟩
          refine S_aload_n (pc := 78) hC dX5_goals_78 rfl ?_
          refine S_getR (pc := 79) hC cfX5 (by decide) (Or.inl ⟨_, rfl⟩) wd_295 dX5_goals_79 ?_
          refine S_getR (pc := 82) hC cfX1 (by decide) (Or.inr ⟨_, rfl⟩) wd_58 dX5_goals_82 ?_
          refine S_iload_n (pc := 85) hC dX5_goals_85 rfl ?_
          refine S_laload (pc := 86) hC dX5_goals_86 ?_
          refine S_lstore_N (pc := 87) hC dX5_goals_87 (by decide) ?_
          unfold kX5_goals_89
          refine S_goto (pc := 89) (tgt := 159) hC dX5_goals_89 (by decide) ?_
          exact hJ 159
        | 2, _ =>
          refine ⟨_, 92, _, rfl, by decide, rfl, ?_⟩
          refine S_aload_n (pc := 92) hC dX5_goals_92 rfl ?_
          refine S_getR (pc := 93) hC cfX5 (by decide) (Or.inl ⟨_, rfl⟩) wd_295 dX5_goals_93 ?_
          refine S_iload_n (pc := 96) hC dX5_goals_96 rfl ?_
          refine S_lload_n (pc := 97) hC dX5_goals_97 rfl ?_
          refine S_iconst (pc := 98) hC dX5_goals_98 (by decide) ?_
          refine S_callV (pc := 99) hC (sX1_lines l G) rfl wd_471 wd_452 wd_453 wd_2 wd_454 (by decide +kernel) ⟨by rw [hRf]; decide, by rw [hRl]; decide⟩ dX5_goals_99 ?_
          unfold kX5_goals_102
          refine S_lstore (pc := 102) hC dX5_goals_102 (by decide) ?_
          refine S_goto (pc := 104) (tgt := 159) hC dX5_goals_104 (by decide) ?_
          exact hJ 159
        | 3, _ =>
          refine ⟨_, 107, _, rfl, by decide, rfl, ?_⟩
          refine S_aload_n (pc := 107) hC dX5_goals_107 rfl ?_
          refine S_getR (pc := 108) hC cfX5 (by decide) (Or.inl ⟨_, rfl⟩) wd_295 dX5_goals_108 ?_
          refine S_iload_n (pc := 111) hC dX5_goals_111 rfl ?_
          refine S_lload_n (pc := 112) hC dX5_goals_112 rfl ?_
          refine S_iconst (pc := 113) hC dX5_goals_113 (by decide) ?_
          refine S_callV (pc := 114) hC (sX1_lines l G) rfl wd_471 wd_452 wd_453 wd_2 wd_454 (by decide +kernel) ⟨by rw [hRf]; decide, by rw [hRl]; decide⟩ dX5_goals_114 ?_
          unfold kX5_goals_117
          refine S_lstore (pc := 117) hC dX5_goals_117 (by decide) ?_
          refine S_goto (pc := 119) (tgt := 159) hC dX5_goals_119 (by decide) ?_
          exact hJ 159
        | 4, _ =>
          refine ⟨_, 122, _, rfl, by decide, rfl, ?_⟩
          refine S_aload_n (pc := 122) hC dX5_goals_122 rfl ?_
          refine S_getR (pc := 123) hC cfX5 (by decide) (Or.inl ⟨_, rfl⟩) wd_295 dX5_goals_123 ?_
          refine S_iload_n (pc := 126) hC dX5_goals_126 rfl ?_
          refine S_lload_n (pc := 127) hC dX5_goals_127 rfl ?_
          refine S_iconst (pc := 128) hC dX5_goals_128 (by decide) ?_
          refine S_callV (pc := 129) hC (sX1_lines l G) rfl wd_471 wd_452 wd_453 wd_2 wd_454 (by decide +kernel) ⟨by rw [hRf]; decide, by rw [hRl]; decide⟩ dX5_goals_129 ?_
          unfold kX5_goals_132
          refine S_aload_n (pc := 132) hC dX5_goals_132 rfl ?_
          refine S_getR (pc := 133) hC cfX5 (by decide) (Or.inl ⟨_, rfl⟩) wd_295 dX5_goals_133 ?_
          refine S_iload_n (pc := 136) hC dX5_goals_136 rfl ?_
          refine S_lload_n (pc := 137) hC dX5_goals_137 rfl ?_
          refine S_iconst (pc := 138) hC dX5_goals_138 (by decide) ?_
          refine S_callV (pc := 139) hC (sX1_lines l G) rfl wd_471 wd_452 wd_453 wd_2 wd_454 (by decide +kernel) ⟨by rw [hRf]; decide, by rw [hRl]; decide⟩ dX5_goals_139 ?_
          unfold kX5_goals_142
          refine S_lor (pc := 142) hC dX5_goals_142 ?_
          refine S_lstore (pc := 143) hC dX5_goals_143 (by decide) ?_
          refine S_goto (pc := 145) (tgt := 159) hC dX5_goals_145 (by decide) ?_
          exact hJ 159
        | n + 5, h => exact absurd h (by omega)
  have hB159 : zin 7 [0, 5] (aX5_goals_159 mc ms X Q) X 159 := by
    intro u v vs st M hb
    rw [hXe]
    refine fun lv hp => S_block (L := 159) (live := [0, 5]) ?_ u v lv vs st M hp hb
    unfold aX5_goals_159
    refine S_lload (pc := 159) hC dX5_goals_159 ?_
    refine S_aload_n (pc := 161) hC dX5_goals_161 rfl ?_
    refine S_getR (pc := 162) hC cfX5 (by decide) (Or.inl ⟨_, rfl⟩) wd_294 dX5_goals_162 ?_
    refine S_getR (pc := 165) hC cfX0 (by decide) (Or.inr ⟨_, rfl⟩) wd_226 dX5_goals_165 ?_
    refine S_aload_n (pc := 168) hC dX5_goals_168 rfl ?_
    refine S_getR (pc := 169) hC cfX5 (by decide) (Or.inl ⟨_, rfl⟩) wd_294 dX5_goals_169 ?_
    refine S_geti (pc := 172) hC cfX0 (by decide) (Or.inl rfl) wd_228 dX5_goals_172 ?_
    refine S_laload (pc := 175) hC dX5_goals_175 ?_
    refine S_aload_n (pc := 176) hC dX5_goals_176 rfl ?_
    refine S_getR (pc := 177) hC cfX5 (by decide) (Or.inl ⟨_, rfl⟩) wd_294 dX5_goals_177 ?_
    refine S_getR (pc := 180) hC cfX0 (by decide) (Or.inr ⟨_, rfl⟩) wd_222 dX5_goals_180 ?_
    refine S_bipush (pc := 183) hC dX5_goals_183 (by decide) ?_
    refine S_bipush (pc := 185) hC dX5_goals_185 (by decide) ?_
    refine S_iconst (pc := 187) hC dX5_goals_187 (by decide) ?_
    refine S_aload_n (pc := 188) hC dX5_goals_188 rfl ?_
    refine S_getR (pc := 189) hC cfX5 (by decide) (Or.inl ⟨_, rfl⟩) wd_294 dX5_goals_189 ?_
    refine S_geti (pc := 192) hC cfX0 (by decide) (Or.inl rfl) wd_228 dX5_goals_192 ?_
    refine S_isub (pc := 195) hC dX5_goals_195 ?_
    refine S_imul (pc := 196) hC dX5_goals_196 ?_
    refine S_iadd (pc := 197) hC dX5_goals_197 ?_
    refine S_laload (pc := 198) hC dX5_goals_198 ?_
    refine S_lor (pc := 199) hC dX5_goals_199 ?_
    refine S_ldc2 (pc := 200) hC wd_466 dX5_goals_200 ?_
    refine S_lxor (pc := 203) hC dX5_goals_203 ?_
    refine S_land (pc := 204) hC dX5_goals_204 ?_
    exact S_lreturn (pc := 205) hC hr dX5_goals_205
  have := h.2 X hB0 hB32 hB159
  rw [hXe] at this
  exact this lv hlv
theorem vcX5_goals_10 {mc ms : Nat} {X : Nat → zV} {Q : zQt} {M : zM} {g : Nat} {x1 : Int32} {x2 : Int32} (hW : zWd M g)  (h : wX0_occupied 0 0 [.ref (g + 1)] M (fun r M1 => kX5_goals_17 mc ms X Q 0 0 [some (.ref (g + 6)), some (.int x1), some (.int x2), none, none, none, none] (r.toList ++ []) M1)) : kX5_goals_10 mc ms X Q 0 0 [some (.ref (g + 6)), some (.int x1), some (.int x2), none, none, none, none] [] M := ⟨(fgs_6 hW), (g + 1), (fgr_6_0 hW), ⟨Nat.le_of_ble_eq_true rfl, rfl, (fgs_1 hW), 0, 0, Nat.zero_le _, Nat.zero_le _, h⟩⟩
theorem vX5_goals_0 {mc ms : Nat} {X : Nat → zV} {Q : zQt} {M : zM} {g : Nat} {x1 : Int32} (hW : zWd M g)  (h : vp_in x1 64 ∧ ∀ y9 : Int32, y9 = ((M : zM).1 ((g + 2)) (x1 : Int32).toNatClampNeg) → wX0_occupied 0 0 [.ref (g + 1)] M (fun r M1 => kX5_goals_17 mc ms X Q 0 0 [some (.ref (g + 6)), some (.int x1), some (.int y9), none, none, none, none] (r.toList ++ []) M1)) : aX5_goals_0 mc ms X Q 0 0 [some (.ref (g + 6)), some (.int x1), none, none, none, none, none] [] M := ⟨(fgs_6 hW), (g + 1), (fgr_6_0 hW), ⟨(fgs_1 hW), (g + 2), (fgr_1_1 hW), ⟨64, (fgs_2 hW), h.1, (fun y9 e9 => have h9 := h.2 y9 e9; (vcX5_goals_10 hW  h9))⟩⟩⟩
theorem vcX5_goals_89 {mc ms : Nat} {X : Nat → zV} {Q : zQt} {M : zM} {g : Nat} {x1 : Int32} {x3 : Int64} {x5 : Int64} (hW : zWd M g)  (h : X 159 0 0 [.ref (g + 6), .long x5] [] M) : kX5_goals_89 mc ms X Q 0 0 [some (.ref (g + 6)), some (.int x1), none, some (.long x3), none, some (.long x5), none] [] M := h
theorem vX5_goals_32 {mc ms : Nat} {X : Nat → zV} {Q : zQt} {M : zM} {g : Nat} {x1 : Int32} {x3 : Int64} {s0 : Int32} (hW : zWd M g)  (h : ((s0 : Int32).toInt < 1 ∨ 5 < (s0 : Int32).toInt → vp_in x1 64 ∧ ∀ y157 : Int64, y157 = ((M : zM).2.1 19 (x1 : Int32).toNatClampNeg) → X 159 0 0 [.ref (g + 6), .long y157] [] M) ∧ ((s0 : Int32).toInt = 1 → wX5_pawnGoals 0 0 [.ref (g + 6), .int x1] M (fun r M1 => kX5_goals_73 mc ms X Q 0 0 [some (.ref (g + 6)), some (.int x1), none, some (.long x3), none, none, none] (r.toList ++ []) M1)) ∧ ((s0 : Int32).toInt = 2 → vp_in x1 64 ∧ ∀ y87 : Int64, y87 = ((M : zM).2.1 18 (x1 : Int32).toNatClampNeg) → X 159 0 0 [.ref (g + 6), .long y87] [] M) ∧ ((s0 : Int32).toInt = 3 → wX1_lines 0 0 [.ref 17, .int x1, .long x3, .int 2] M (fun r M1 => kX5_goals_102 mc ms X Q 0 0 [some (.ref (g + 6)), some (.int x1), none, some (.long x3), none, none, none] (r.toList ++ []) M1)) ∧ ((s0 : Int32).toInt = 4 → wX1_lines 0 0 [.ref 17, .int x1, .long x3, .int 0] M (fun r M1 => kX5_goals_117 mc ms X Q 0 0 [some (.ref (g + 6)), some (.int x1), none, some (.long x3), none, none, none] (r.toList ++ []) M1)) ∧ ((s0 : Int32).toInt = 5 → wX1_lines 0 0 [.ref 17, .int x1, .long x3, .int 2] M (fun r M1 => kX5_goals_132 mc ms X Q 0 0 [some (.ref (g + 6)), some (.int x1), none, some (.long x3), none, none, none] (r.toList ++ []) M1))) : aX5_goals_32 mc ms X Q 0 0 [some (.ref (g + 6)), some (.int x1), none, some (.long x3), none, none, none] [.int s0] M := ⟨fun c32 => ⟨(fgs_6 hW), 17, (fgr_6_1 hW), ⟨(fxs_17 hW.1), 19, (fxr_17_1 hW.1), ⟨64, (fxs_19 hW.1), (h.1 c32).1, (fun y157 e157 => have h157 := (h.1 c32).2 y157 e157; h157)⟩⟩⟩, ⟨fun c32 => ⟨Nat.le_of_ble_eq_true rfl, rfl, (fgs_6 hW), 0, 0, Nat.zero_le _, Nat.zero_le _, (h.2.1 c32)⟩, ⟨fun c32 => ⟨(fgs_6 hW), 17, (fgr_6_1 hW), ⟨(fxs_17 hW.1), 18, (fxr_17_0 hW.1), ⟨64, (fxs_18 hW.1), (h.2.2.1 c32).1, (fun y87 e87 => have h87 := (h.2.2.1 c32).2 y87 e87; (vcX5_goals_89 hW  h87))⟩⟩⟩, ⟨fun c32 => ⟨(fgs_6 hW), 17, (fgr_6_1 hW), ⟨Nat.le_of_ble_eq_true rfl, rfl, (fxs_17 hW.1), 0, 0, Nat.zero_le _, Nat.zero_le _, (h.2.2.2.1 c32)⟩⟩, ⟨fun c32 => ⟨(fgs_6 hW), 17, (fgr_6_1 hW), ⟨Nat.le_of_ble_eq_true rfl, rfl, (fxs_17 hW.1), 0, 0, Nat.zero_le _, Nat.zero_le _, (h.2.2.2.2.1 c32)⟩⟩, ⟨fun c32 => ⟨(fgs_6 hW), 17, (fgr_6_1 hW), ⟨Nat.le_of_ble_eq_true rfl, rfl, (fxs_17 hW.1), 0, 0, Nat.zero_le _, Nat.zero_le _, (h.2.2.2.2.2 c32)⟩⟩, trivial⟩⟩⟩⟩⟩⟩
theorem vX5_goals_159 {mc ms : Nat} {X : Nat → zV} {Q : zQt} {M : zM} {g : Nat} {x5 : Int64} (hW : zWd M g)  (h : vp_in ((M.1 ((g + 1)) 4)) 2 ∧ vp_in (((6 : Int32) + ((6 : Int32) * ((1 : Int32) - (M.1 ((g + 1)) 4))))) 13 ∧ Q (some (.long ((x5 &&& ((((M : zM).2.1 ((g + 4)) ((M.1 ((g + 1)) 4) : Int32).toNatClampNeg) ||| ((M : zM).2.1 ((g + 3)) (((6 : Int32) + ((6 : Int32) * ((1 : Int32) - (M.1 ((g + 1)) 4)))) : Int32).toNatClampNeg)) ^^^ ((-1) : Int64)))))) M) : aX5_goals_159 mc ms X Q 0 0 [some (.ref (g + 6)), none, none, none, none, some (.long x5), none] [] M := ⟨(fgs_6 hW), (g + 1), (fgr_6_0 hW), ⟨(fgs_1 hW), (g + 4), (fgr_1_3 hW), ⟨(fgs_6 hW), (g + 1), (fgr_6_0 hW), ⟨(fgs_1 hW), ⟨2, (fgs_4 hW), h.1, ⟨(fgs_6 hW), (g + 1), (fgr_6_0 hW), ⟨(fgs_1 hW), (g + 3), (fgr_1_2 hW), ⟨(fgs_6 hW), (g + 1), (fgr_6_0 hW), ⟨(fgs_1 hW), ⟨13, (fgs_3 hW), h.2.1, h.2.2⟩⟩⟩⟩⟩⟩⟩⟩⟩⟩
theorem vkX5_goals_17 {mc ms : Nat} {X : Nat → zV} {Q : zQt} {M : zM} {g : Nat} {x1 : Int32} {x2 : Int32} {s0 : Int64} (hW : zWd M g)  (h : (x2 ≤ (6 : Int32) → X 32 0 0 [.ref (g + 6), .int x1, .long s0] [.int x2] M) ∧ (¬ x2 ≤ (6 : Int32) → X 32 0 0 [.ref (g + 6), .int x1, .long s0] [.int (x2 - (6 : Int32))] M)) : kX5_goals_17 mc ms X Q 0 0 [some (.ref (g + 6)), some (.int x1), some (.int x2), none, none, none, none] [.long s0] M := ⟨fun c21 => (h.1 c21), fun c21 => (h.2 c21)⟩
theorem vkX5_goals_73 {mc ms : Nat} {X : Nat → zV} {Q : zQt} {M : zM} {g : Nat} {x1 : Int32} {x3 : Int64} {s0 : Int64} (hW : zWd M g)  (h : X 159 0 0 [.ref (g + 6), .long s0] [] M) : kX5_goals_73 mc ms X Q 0 0 [some (.ref (g + 6)), some (.int x1), none, some (.long x3), none, none, none] [.long s0] M := h
theorem vkX5_goals_102 {mc ms : Nat} {X : Nat → zV} {Q : zQt} {M : zM} {g : Nat} {x1 : Int32} {x3 : Int64} {s0 : Int64} (hW : zWd M g)  (h : X 159 0 0 [.ref (g + 6), .long s0] [] M) : kX5_goals_102 mc ms X Q 0 0 [some (.ref (g + 6)), some (.int x1), none, some (.long x3), none, none, none] [.long s0] M := h
theorem vkX5_goals_117 {mc ms : Nat} {X : Nat → zV} {Q : zQt} {M : zM} {g : Nat} {x1 : Int32} {x3 : Int64} {s0 : Int64} (hW : zWd M g)  (h : X 159 0 0 [.ref (g + 6), .long s0] [] M) : kX5_goals_117 mc ms X Q 0 0 [some (.ref (g + 6)), some (.int x1), none, some (.long x3), none, none, none] [.long s0] M := h
theorem vkX5_goals_132 {mc ms : Nat} {X : Nat → zV} {Q : zQt} {M : zM} {g : Nat} {x1 : Int32} {x3 : Int64} {s0 : Int64} (hW : zWd M g)  (h : wX1_lines 0 0 [.ref 17, .int x1, .long x3, .int 0] M (fun r M1 => kX5_goals_142 mc ms X Q 0 0 [some (.ref (g + 6)), some (.int x1), none, some (.long x3), none, none, none] (r.toList ++ [.long s0]) M1)) : kX5_goals_132 mc ms X Q 0 0 [some (.ref (g + 6)), some (.int x1), none, some (.long x3), none, none, none] [.long s0] M := ⟨(fgs_6 hW), 17, (fgr_6_1 hW), ⟨Nat.le_of_ble_eq_true rfl, rfl, (fxs_17 hW.1), 0, 0, Nat.zero_le _, Nat.zero_le _, h⟩⟩
theorem vkX5_goals_142 {mc ms : Nat} {X : Nat → zV} {Q : zQt} {M : zM} {g : Nat} {x1 : Int32} {x3 : Int64} {s0 : Int64} {s1 : Int64} (hW : zWd M g)  (h : X 159 0 0 [.ref (g + 6), .long (s1 ||| s0)] [] M) : kX5_goals_142 mc ms X Q 0 0 [some (.ref (g + 6)), some (.int x1), none, some (.long x3), none, none, none] [.long s0, .long s1] M := h
theorem dX12_work_0 : decode cX12_work 0 = .ok (.iconst (-1), 1) := by decide +kernel
theorem dX12_work_1 : decode cX12_work 1 = .ok (.istore_n 2, 1) := by decide +kernel
theorem dX12_work_2 : decode cX12_work 2 = .ok (.iload_n 1, 1) := by decide +kernel
theorem dX12_work_3 : decode cX12_work 3 = .ok (.iconst 1, 1) := by decide +kernel
theorem dX12_work_4 : decode cX12_work 4 = .ok (.if_icmp .ne 7, 3) := by decide +kernel
theorem dX12_work_7 : decode cX12_work 7 = .ok (.iconst 2, 1) := by decide +kernel
theorem dX12_work_8 : decode cX12_work 8 = .ok (.goto 4, 3) := by decide +kernel
theorem dX12_work_11 : decode cX12_work 11 = .ok (.iload_n 1, 1) := by decide +kernel
theorem dX12_work_12 : decode cX12_work 12 = .ok (.istore_n 3, 1) := by decide +kernel
theorem dX12_work_13 : decode cX12_work 13 = .ok (.iload_n 3, 1) := by decide +kernel
theorem dX12_work_14 : decode cX12_work 14 = .ok (.iload_n 1, 1) := by decide +kernel
theorem dX12_work_15 : decode cX12_work 15 = .ok (.iconst 1, 1) := by decide +kernel
theorem dX12_work_16 : decode cX12_work 16 = .ok (.if_icmp .ne 7, 3) := by decide +kernel
theorem dX12_work_19 : decode cX12_work 19 = .ok (.iconst 5, 1) := by decide +kernel
theorem dX12_work_20 : decode cX12_work 20 = .ok (.goto 4, 3) := by decide +kernel
theorem dX12_work_23 : decode cX12_work 23 = .ok (.iload_n 1, 1) := by decide +kernel
theorem dX12_work_24 : decode cX12_work 24 = .ok (.if_icmp .gt 36, 3) := by decide +kernel
theorem dX12_work_27 : decode cX12_work 27 = .ok (.aload_n 0, 1) := by decide +kernel
theorem dX12_work_28 : decode cX12_work 28 = .ok (.iload_n 3, 1) := by decide +kernel
theorem dX12_work_29 : decode cX12_work 29 = .ok (.iconst (-1), 1) := by decide +kernel
theorem dX12_work_30 : decode cX12_work 30 = .ok (.invokevirtual 133, 3) := by decide +kernel
theorem dX12_work_33 : decode cX12_work 33 = .ok (.aload_n 0, 1) := by decide +kernel
theorem dX12_work_34 : decode cX12_work 34 = .ok (.getfield 22, 3) := by decide +kernel
theorem dX12_work_37 : decode cX12_work 37 = .ok (.iload_n 3, 1) := by decide +kernel
theorem dX12_work_38 : decode cX12_work 38 = .ok (.iaload, 1) := by decide +kernel
theorem dX12_work_39 : decode cX12_work 39 = .ok (.iload_n 2, 1) := by decide +kernel
theorem dX12_work_40 : decode cX12_work 40 = .ok (.if_icmp .le 12, 3) := by decide +kernel
theorem dX12_work_43 : decode cX12_work 43 = .ok (.aload_n 0, 1) := by decide +kernel
theorem dX12_work_44 : decode cX12_work 44 = .ok (.getfield 22, 3) := by decide +kernel
theorem dX12_work_47 : decode cX12_work 47 = .ok (.iload_n 3, 1) := by decide +kernel
theorem dX12_work_48 : decode cX12_work 48 = .ok (.iaload, 1) := by decide +kernel
theorem dX12_work_49 : decode cX12_work 49 = .ok (.goto 4, 3) := by decide +kernel
theorem dX12_work_52 : decode cX12_work 52 = .ok (.iload_n 2, 1) := by decide +kernel
theorem dX12_work_53 : decode cX12_work 53 = .ok (.istore_n 2, 1) := by decide +kernel
theorem dX12_work_54 : decode cX12_work 54 = .ok (.iinc 3 1, 3) := by decide +kernel
theorem dX12_work_57 : decode cX12_work 57 = .ok (.goto (-44), 3) := by decide +kernel
theorem dX12_work_60 : decode cX12_work 60 = .ok (.iload_n 1, 1) := by decide +kernel
theorem dX12_work_61 : decode cX12_work 61 = .ok (.iconst 1, 1) := by decide +kernel
theorem dX12_work_62 : decode cX12_work 62 = .ok (.if_icmp .ne 9, 3) := by decide +kernel
theorem dX12_work_65 : decode cX12_work 65 = .ok (.aload_n 0, 1) := by decide +kernel
theorem dX12_work_66 : decode cX12_work 66 = .ok (.iconst 1, 1) := by decide +kernel
theorem dX12_work_67 : decode cX12_work 67 = .ok (.iload_n 2, 1) := by decide +kernel
theorem dX12_work_68 : decode cX12_work 68 = .ok (.invokevirtual 133, 3) := by decide +kernel
theorem dX12_work_71 : decode cX12_work 71 = .ok (.return_, 1) := by decide +kernel
def kX12_work_71 (mc ms : Nat) (X : Nat → zV) (Q : zQt) : zT :=
  zj X 71 []
def kX12_work_33 (mc ms : Nat) (X : Nat → zV) (Q : zQt) : zT :=
  zla 0 <| zgR 12 3 <| zli 3 <| zal 1 <| zli 2 <| zic (fun x y => x ≤ y) (zli 2 <| zj X 53 [0, 1, 3]) <| zla 0 <| zgR 12 3 <| zli 3 <| zal 1 <| zj X 53 [0, 1, 3]
def aX12_work_0 (mc ms : Nat) (X : Nat → zV) (Q : zQt) : zT :=
  zc (.int (-1)) <| zsi 2 <| zli 1 <| zc (.int 1) <| zic (fun x y => x = y) (zc (.int 2) <| zj X 12 [0, 1, 2]) <| zli 1 <| zj X 12 [0, 1, 2]
def aX12_work_12 (mc ms : Nat) (X : Nat → zV) (Q : zQt) : zT :=
  zsi 3 <| zj X 13 [0, 1, 2, 3]
def aX12_work_13 (mc ms : Nat) (X : Nat → zV) (Q : zQt) : zT :=
  zli 3 <| zli 1 <| zc (.int 1) <| zic (fun x y => x = y) (zc (.int 5) <| zj X 24 [0, 1, 2, 3]) <| zli 1 <| zj X 24 [0, 1, 2, 3]
def aX12_work_24 (mc ms : Nat) (X : Nat → zV) (Q : zQt) : zT :=
  zic (fun x y => y < x) (zli 1 <| zc (.int 1) <| zic (fun x y => x = y) (zla 0 <| zc (.int 1) <| zli 2 <| zcv mc ms 12 2 wX12_rounds <| kX12_work_71 mc ms X Q) <| zj X 71 []) <| zla 0 <| zli 3 <| zc (.int (-1)) <| zcv mc ms 12 2 wX12_rounds <| kX12_work_33 mc ms X Q
def aX12_work_53 (mc ms : Nat) (X : Nat → zV) (Q : zQt) : zT :=
  zsi 2 <| zinc 3 1 <| zj X 13 [0, 1, 2, 3]
def aX12_work_71 (mc ms : Nat) (X : Nat → zV) (Q : zQt) : zT :=
  zrv Q
def lvX12_work : Nat → List Nat := fun L => match L with
  | 0 => [0, 1]
  | 12 => [0, 1, 2]
  | 13 => [0, 1, 2, 3]
  | 24 => [0, 1, 2, 3]
  | 53 => [0, 1, 3]
  | 71 => []
  | _ => []
def wX12_work : zSp := fun mc ms av M Q => ((zlay av).length ≤ 4 ∧ zpick (zlay av) [0, 1] = some av) ∧ ∀ X : Nat → zV, zin 4 [0, 1] (aX12_work_0 mc ms X Q) X 0 → zin 4 [0, 1, 2] (aX12_work_12 mc ms X Q) X 12 → zin 4 [0, 1, 2, 3] (aX12_work_13 mc ms X Q) X 13 → zin 4 [0, 1, 2, 3] (aX12_work_24 mc ms X Q) X 24 → zin 4 [0, 1, 3] (aX12_work_53 mc ms X Q) X 53 → zin 4 [] (aX12_work_71 mc ms X Q) X 71 → X 0 0 0 av [] M
set_option maxRecDepth 100000 in
set_option maxHeartbeats 4000000 in
theorem sX12_work (l : Launch) (G : zG) : zSnd l G yX12_work cX12_work 4 none 8 221 wX12_work := by
  refine zmk [0, 1] (by decide) (fun mc ms av M Q h => h.1) ?_
  intro p e R s m args below meth c mc ms av M Q hC hRf hRl hr hnm h lv hlv
  obtain ⟨X, hXe⟩ : ∃ X : Nat → zV, X = fun L u v vs st M => ∀ lv, zpick lv (lvX12_work L) = some vs → zAt p l e R s m args below meth c (MQ below (zQ G Q) args s mc ms (zA G)) G 4 L u v lv st M := ⟨_, rfl⟩
  have hJ : ∀ L, zOk p l e R s m args below meth c (MQ below (zQ G Q) args s mc ms (zA G)) G 4 L (zj X L (lvX12_work L)) := fun L => S_jump (fun u v lv vs st M hp hx => by rw [hXe] at hx; exact hx lv hp)
  have hB0 : zin 4 [0, 1] (aX12_work_0 mc ms X Q) X 0 := by
    intro u v vs st M hb
    rw [hXe]
    refine fun lv hp => S_block (L := 0) (live := [0, 1]) ?_ u v lv vs st M hp hb
    unfold aX12_work_0
    refine S_iconst (pc := 0) hC dX12_work_0 (by decide) ?_
    refine S_istore_n (pc := 1) hC dX12_work_1 rfl (by decide) ?_
    refine S_iload_n (pc := 2) hC dX12_work_2 rfl ?_
    refine S_iconst (pc := 3) hC dX12_work_3 (by decide) ?_
    refine S_icmp_ne (pc := 4) (tgt := 11) hC dX12_work_4 (by decide) ?_ ?_
    · refine S_iload_n (pc := 11) hC dX12_work_11 rfl ?_
      exact hJ 12
    · refine S_iconst (pc := 7) hC dX12_work_7 (by decide) ?_
      refine S_goto (pc := 8) (tgt := 12) hC dX12_work_8 (by decide) ?_
      exact hJ 12
  have hB12 : zin 4 [0, 1, 2] (aX12_work_12 mc ms X Q) X 12 := by
    intro u v vs st M hb
    rw [hXe]
    refine fun lv hp => S_block (L := 12) (live := [0, 1, 2]) ?_ u v lv vs st M hp hb
    unfold aX12_work_12
    refine S_istore_n (pc := 12) hC dX12_work_12 rfl (by decide) ?_
    exact hJ 13
  have hB13 : zin 4 [0, 1, 2, 3] (aX12_work_13 mc ms X Q) X 13 := by
    intro u v vs st M hb
    rw [hXe]
    refine fun lv hp => S_block (L := 13) (live := [0, 1, 2, 3]) ?_ u v lv vs st M hp hb
    unfold aX12_work_13
    refine S_iload_n (pc := 13) hC dX12_work_13 rfl ?_
    refine S_iload_n (pc := 14) hC dX12_work_14 rfl ?_
    refine S_iconst (pc := 15) hC dX12_work_15 (by decide) ?_
    refine S_icmp_ne (pc := 16) (tgt := 23) hC dX12_work_16 (by decide) ?_ ?_
    · refine S_iload_n (pc := 23) hC dX12_work_23 rfl ?_
      exact hJ 24
    · refine S_iconst (pc := 19) hC dX12_work_19 (by decide) ?_
      refine S_goto (pc := 20) (tgt := 24) hC dX12_work_20 (by decide) ?_
      exact hJ 24
  have hB24 : zin 4 [0, 1, 2, 3] (aX12_work_24 mc ms X Q) X 24 := by
    intro u v vs st M hb
    rw [hXe]
    refine fun lv hp => S_block (L := 24) (live := [0, 1, 2, 3]) ?_ u v lv vs st M hp hb
    unfold aX12_work_24
    refine S_icmp_gt (pc := 24) (tgt := 60) hC dX12_work_24 (by decide) ?_ ?_
    · refine S_iload_n (pc := 60) hC dX12_work_60 rfl ?_
      refine S_iconst (pc := 61) hC dX12_work_61 (by decide) ?_
      refine S_icmp_ne (pc := 62) (tgt := 71) hC dX12_work_62 (by decide) ?_ ?_
      · exact hJ 71
      · refine S_aload_n (pc := 65) hC dX12_work_65 rfl ?_
        refine S_iconst (pc := 66) hC dX12_work_66 (by decide) ?_
        refine S_iload_n (pc := 67) hC dX12_work_67 rfl ?_
        refine S_callV (pc := 68) hC (sX12_rounds l G) rfl wd_1688 wd_1690 ws_116 wd_13 wd_1691 (by decide +kernel) ⟨by rw [hRf]; decide, by rw [hRl]; decide⟩ dX12_work_68 ?_
        unfold kX12_work_71
        exact hJ 71
    · refine S_aload_n (pc := 27) hC dX12_work_27 rfl ?_
      refine S_iload_n (pc := 28) hC dX12_work_28 rfl ?_
      refine S_iconst (pc := 29) hC dX12_work_29 (by decide) ?_
      refine S_callV (pc := 30) hC (sX12_rounds l G) rfl wd_1688 wd_1690 ws_116 wd_13 wd_1691 (by decide +kernel) ⟨by rw [hRf]; decide, by rw [hRl]; decide⟩ dX12_work_30 ?_
      unfold kX12_work_33
      refine S_aload_n (pc := 33) hC dX12_work_33 rfl ?_
      refine S_getR (pc := 34) hC cfX12 (by decide) (Or.inr ⟨_, rfl⟩) wd_1205 dX12_work_34 ?_
      refine S_iload_n (pc := 37) hC dX12_work_37 rfl ?_
      refine S_iaload (pc := 38) hC dX12_work_38 ?_
      refine S_iload_n (pc := 39) hC dX12_work_39 rfl ?_
      refine S_icmp_le (pc := 40) (tgt := 52) hC dX12_work_40 (by decide) ?_ ?_
      · refine S_iload_n (pc := 52) hC dX12_work_52 rfl ?_
        exact hJ 53
      · refine S_aload_n (pc := 43) hC dX12_work_43 rfl ?_
        refine S_getR (pc := 44) hC cfX12 (by decide) (Or.inr ⟨_, rfl⟩) wd_1205 dX12_work_44 ?_
        refine S_iload_n (pc := 47) hC dX12_work_47 rfl ?_
        refine S_iaload (pc := 48) hC dX12_work_48 ?_
        refine S_goto (pc := 49) (tgt := 53) hC dX12_work_49 (by decide) ?_
        exact hJ 53
  have hB53 : zin 4 [0, 1, 3] (aX12_work_53 mc ms X Q) X 53 := by
    intro u v vs st M hb
    rw [hXe]
    refine fun lv hp => S_block (L := 53) (live := [0, 1, 3]) ?_ u v lv vs st M hp hb
    unfold aX12_work_53
    refine S_istore_n (pc := 53) hC dX12_work_53 rfl (by decide) ?_
    refine S_iinc (pc := 54) hC dX12_work_54 (by decide) (by decide) ?_
    refine S_goto (pc := 57) (tgt := 13) hC dX12_work_57 (by decide) ?_
    exact hJ 13
  have hB71 : zin 4 [] (aX12_work_71 mc ms X Q) X 71 := by
    intro u v vs st M hb
    rw [hXe]
    refine fun lv hp => S_block (L := 71) (live := []) ?_ u v lv vs st M hp hb
    unfold aX12_work_71
    exact S_vreturn (pc := 71) hC hr dX12_work_71
  have := h.2 X hB0 hB12 hB13 hB24 hB53 hB71
  rw [hXe] at this
  exact this lv hlv
theorem vX12_work_0 {mc ms : Nat} {X : Nat → zV} {Q : zQt} {M : zM} {x1 : Int32} (hW : zFix M)  (h : (x1 = (1 : Int32) → X 12 0 0 [.ref 71, .int x1, .int (-1)] [.int 2] M) ∧ (¬ x1 = (1 : Int32) → X 12 0 0 [.ref 71, .int x1, .int (-1)] [.int x1] M)) : aX12_work_0 mc ms X Q 0 0 [some (.ref 71), some (.int x1), none, none] [] M := ⟨fun c4 => (h.1 c4), fun c4 => (h.2 c4)⟩
theorem vX12_work_12 {mc ms : Nat} {X : Nat → zV} {Q : zQt} {M : zM} {x1 : Int32} {x2 : Int32} {s0 : Int32} (hW : zFix M)  (h : X 13 0 0 [.ref 71, .int x1, .int x2, .int s0] [] M) : aX12_work_12 mc ms X Q 0 0 [some (.ref 71), some (.int x1), some (.int x2), none] [.int s0] M := h
theorem vX12_work_13 {mc ms : Nat} {X : Nat → zV} {Q : zQt} {M : zM} {x1 : Int32} {x2 : Int32} {x3 : Int32} (hW : zFix M)  (h : (x1 = (1 : Int32) → X 24 0 0 [.ref 71, .int x1, .int x2, .int x3] [.int 5, .int x3] M) ∧ (¬ x1 = (1 : Int32) → X 24 0 0 [.ref 71, .int x1, .int x2, .int x3] [.int x1, .int x3] M)) : aX12_work_13 mc ms X Q 0 0 [some (.ref 71), some (.int x1), some (.int x2), some (.int x3)] [] M := ⟨fun c16 => (h.1 c16), fun c16 => (h.2 c16)⟩
theorem vX12_work_24 {mc ms : Nat} {X : Nat → zV} {Q : zQt} {M : zM} {x1 : Int32} {x2 : Int32} {x3 : Int32} {s0 : Int32} {s1 : Int32} (hW : zFix M)  (h : (s0 < s1 → (x1 = (1 : Int32) → wX12_rounds 0 0 [.ref 71, .int 1, .int x2] M (fun r M1 => kX12_work_71 mc ms X Q 0 0 [some (.ref 71), some (.int x1), some (.int x2), some (.int x3)] (r.toList ++ []) M1)) ∧ (¬ x1 = (1 : Int32) → X 71 0 0 [] [] M)) ∧ (¬ s0 < s1 → wX12_rounds 0 0 [.ref 71, .int x3, .int (-1)] M (fun r M1 => kX12_work_33 mc ms X Q 0 0 [some (.ref 71), some (.int x1), some (.int x2), some (.int x3)] (r.toList ++ []) M1))) : aX12_work_24 mc ms X Q 0 0 [some (.ref 71), some (.int x1), some (.int x2), some (.int x3)] [.int s0, .int s1] M := ⟨fun c24 => ⟨fun c62 => ⟨Nat.le_of_ble_eq_true rfl, rfl, (fxs_71 hW), 0, 0, Nat.zero_le _, Nat.zero_le _, ((h.1 c24).1 c62)⟩, fun c62 => ((h.1 c24).2 c62)⟩, fun c24 => ⟨Nat.le_of_ble_eq_true rfl, rfl, (fxs_71 hW), 0, 0, Nat.zero_le _, Nat.zero_le _, (h.2 c24)⟩⟩
theorem vX12_work_53 {mc ms : Nat} {X : Nat → zV} {Q : zQt} {M : zM} {x1 : Int32} {x3 : Int32} {s0 : Int32} (hW : zFix M)  (h : X 13 0 0 [.ref 71, .int x1, .int s0, .int (x3 + 1)] [] M) : aX12_work_53 mc ms X Q 0 0 [some (.ref 71), some (.int x1), none, some (.int x3)] [.int s0] M := h
theorem vX12_work_71 {mc ms : Nat} {X : Nat → zV} {Q : zQt} {M : zM}  (hW : zFix M)  (h : Q none M) : aX12_work_71 mc ms X Q 0 0 [none, none, none, none] [] M := h
theorem vkX12_work_33 {mc ms : Nat} {X : Nat → zV} {Q : zQt} {M : zM} {x1 : Int32} {x2 : Int32} {x3 : Int32} (hW : zFix M)  (h : vp_in x3 6 ∧ (((M : zM).1 73 (x3 : Int32).toNatClampNeg) ≤ x2 → X 53 0 0 [.ref 71, .int x1, .int x3] [.int x2] M) ∧ (¬ ((M : zM).1 73 (x3 : Int32).toNatClampNeg) ≤ x2 → vp_in x3 6 ∧ X 53 0 0 [.ref 71, .int x1, .int x3] [.int ((M : zM).1 73 (x3 : Int32).toNatClampNeg)] M)) : kX12_work_33 mc ms X Q 0 0 [some (.ref 71), some (.int x1), some (.int x2), some (.int x3)] [] M := ⟨(fxs_71 hW), 73, (fxr_71_3 hW), ⟨6, (fxs_73 hW), h.1, ⟨fun c40 => (h.2.1 c40), fun c40 => ⟨(fxs_71 hW), 73, (fxr_71_3 hW), ⟨6, (fxs_73 hW), (h.2.2 c40).1, (h.2.2 c40).2⟩⟩⟩⟩⟩
theorem vkX12_work_71 {mc ms : Nat} {X : Nat → zV} {Q : zQt} {M : zM} {x1 : Int32} {x2 : Int32} {x3 : Int32} (hW : zFix M)  (h : X 71 0 0 [] [] M) : kX12_work_71 mc ms X Q 0 0 [some (.ref 71), some (.int x1), some (.int x2), some (.int x3)] [] M := h
theorem dX13_submit_0 : decode cX13_submit 0 = .ok (.aload_n 0, 1) := by decide +kernel
theorem dX13_submit_1 : decode cX13_submit 1 = .ok (.iload_n 1, 1) := by decide +kernel
theorem dX13_submit_2 : decode cX13_submit 2 = .ok (.iconst 1, 1) := by decide +kernel
theorem dX13_submit_3 : decode cX13_submit 3 = .ok (.if_icmp .lt 9, 3) := by decide +kernel
theorem dX13_submit_6 : decode cX13_submit 6 = .ok (.iload_n 1, 1) := by decide +kernel
theorem dX13_submit_7 : decode cX13_submit 7 = .ok (.bipush 20, 2) := by decide +kernel
theorem dX13_submit_9 : decode cX13_submit 9 = .ok (.if_icmp .le 7, 3) := by decide +kernel
theorem dX13_submit_12 : decode cX13_submit 12 = .ok (.iconst 1, 1) := by decide +kernel
theorem dX13_submit_13 : decode cX13_submit 13 = .ok (.goto 4, 3) := by decide +kernel
theorem dX13_submit_16 : decode cX13_submit 16 = .ok (.iconst 0, 1) := by decide +kernel
theorem dX13_submit_17 : decode cX13_submit 17 = .ok (.putfield 68, 3) := by decide +kernel
theorem dX13_submit_20 : decode cX13_submit 20 = .ok (.aload_n 0, 1) := by decide +kernel
theorem dX13_submit_21 : decode cX13_submit 21 = .ok (.getfield 68, 3) := by decide +kernel
theorem dX13_submit_24 : decode cX13_submit 24 = .ok (.ifCond .le 5, 3) := by decide +kernel
theorem dX13_submit_27 : decode cX13_submit 27 = .ok (.iconst 0, 1) := by decide +kernel
theorem dX13_submit_28 : decode cX13_submit 28 = .ok (.ireturn, 1) := by decide +kernel
theorem dX13_submit_29 : decode cX13_submit 29 = .ok (.aload_n 0, 1) := by decide +kernel
theorem dX13_submit_30 : decode cX13_submit 30 = .ok (.aload_n 0, 1) := by decide +kernel
theorem dX13_submit_31 : decode cX13_submit 31 = .ok (.getfield 153, 3) := by decide +kernel
theorem dX13_submit_34 : decode cX13_submit 34 = .ok (.ifCond .ne 7, 3) := by decide +kernel
theorem dX13_submit_37 : decode cX13_submit 37 = .ok (.iconst 0, 1) := by decide +kernel
theorem dX13_submit_38 : decode cX13_submit 38 = .ok (.goto 12, 3) := by decide +kernel
theorem dX13_submit_41 : decode cX13_submit 41 = .ok (.aload_n 0, 1) := by decide +kernel
theorem dX13_submit_42 : decode cX13_submit 42 = .ok (.getfield 153, 3) := by decide +kernel
theorem dX13_submit_45 : decode cX13_submit 45 = .ok (.bipush 20, 2) := by decide +kernel
theorem dX13_submit_47 : decode cX13_submit 47 = .ok (.isub, 1) := by decide +kernel
theorem dX13_submit_48 : decode cX13_submit 48 = .ok (.iload_n 1, 1) := by decide +kernel
theorem dX13_submit_49 : decode cX13_submit 49 = .ok (.iadd, 1) := by decide +kernel
theorem dX13_submit_50 : decode cX13_submit 50 = .ok (.putfield 162, 3) := by decide +kernel
theorem dX13_submit_53 : decode cX13_submit 53 = .ok (.aload_n 0, 1) := by decide +kernel
theorem dX13_submit_54 : decode cX13_submit 54 = .ok (.iconst 0, 1) := by decide +kernel
theorem dX13_submit_55 : decode cX13_submit 55 = .ok (.putfield 153, 3) := by decide +kernel
theorem dX13_submit_58 : decode cX13_submit 58 = .ok (.aload_n 0, 1) := by decide +kernel
theorem dX13_submit_59 : decode cX13_submit 59 = .ok (.iconst 0, 1) := by decide +kernel
theorem dX13_submit_60 : decode cX13_submit 60 = .ok (.putfield 159, 3) := by decide +kernel
theorem dX13_submit_63 : decode cX13_submit 63 = .ok (.aload_n 0, 1) := by decide +kernel
theorem dX13_submit_64 : decode cX13_submit 64 = .ok (.iconst (-1), 1) := by decide +kernel
theorem dX13_submit_65 : decode cX13_submit 65 = .ok (.putfield 13, 3) := by decide +kernel
theorem dX13_submit_68 : decode cX13_submit 68 = .ok (.aload_n 0, 1) := by decide +kernel
theorem dX13_submit_69 : decode cX13_submit 69 = .ok (.getfield 123, 3) := by decide +kernel
theorem dX13_submit_72 : decode cX13_submit 72 = .ok (.istore_n 2, 1) := by decide +kernel
theorem dX13_submit_73 : decode cX13_submit 73 = .ok (.aload_n 0, 1) := by decide +kernel
theorem dX13_submit_74 : decode cX13_submit 74 = .ok (.iconst 1, 1) := by decide +kernel
theorem dX13_submit_75 : decode cX13_submit 75 = .ok (.aload_n 0, 1) := by decide +kernel
theorem dX13_submit_76 : decode cX13_submit 76 = .ok (.getfield 123, 3) := by decide +kernel
theorem dX13_submit_79 : decode cX13_submit 79 = .ok (.isub, 1) := by decide +kernel
theorem dX13_submit_80 : decode cX13_submit 80 = .ok (.putfield 123, 3) := by decide +kernel
theorem dX13_submit_83 : decode cX13_submit 83 = .ok (.aload_n 0, 1) := by decide +kernel
theorem dX13_submit_84 : decode cX13_submit 84 = .ok (.getfield 22, 3) := by decide +kernel
theorem dX13_submit_87 : decode cX13_submit 87 = .ok (.aload_n 0, 1) := by decide +kernel
theorem dX13_submit_88 : decode cX13_submit 88 = .ok (.getfield 123, 3) := by decide +kernel
theorem dX13_submit_91 : decode cX13_submit 91 = .ok (.iconst 0, 1) := by decide +kernel
theorem dX13_submit_92 : decode cX13_submit 92 = .ok (.iastore, 1) := by decide +kernel
theorem dX13_submit_93 : decode cX13_submit 93 = .ok (.aload_n 0, 1) := by decide +kernel
theorem dX13_submit_94 : decode cX13_submit 94 = .ok (.aload_n 0, 1) := by decide +kernel
theorem dX13_submit_95 : decode cX13_submit 95 = .ok (.invokevirtual 168, 3) := by decide +kernel
theorem dX13_submit_98 : decode cX13_submit 98 = .ok (.putfield 171, 3) := by decide +kernel
theorem dX13_submit_101 : decode cX13_submit 101 = .ok (.aload_n 0, 1) := by decide +kernel
theorem dX13_submit_102 : decode cX13_submit 102 = .ok (.getfield 171, 3) := by decide +kernel
theorem dX13_submit_105 : decode cX13_submit 105 = .ok (.ifCond .ne 12, 3) := by decide +kernel
theorem dX13_submit_108 : decode cX13_submit 108 = .ok (.aload_n 0, 1) := by decide +kernel
theorem dX13_submit_109 : decode cX13_submit 109 = .ok (.iconst (-1), 1) := by decide +kernel
theorem dX13_submit_110 : decode cX13_submit 110 = .ok (.invokevirtual 150, 3) := by decide +kernel
theorem dX13_submit_113 : decode cX13_submit 113 = .ok (.aload_n 0, 1) := by decide +kernel
theorem dX13_submit_114 : decode cX13_submit 114 = .ok (.invokevirtual 174, 3) := by decide +kernel
theorem dX13_submit_117 : decode cX13_submit 117 = .ok (.aload_n 0, 1) := by decide +kernel
theorem dX13_submit_118 : decode cX13_submit 118 = .ok (.getfield 171, 3) := by decide +kernel
theorem dX13_submit_121 : decode cX13_submit 121 = .ok (.ifCond .le 21, 3) := by decide +kernel
theorem dX13_submit_124 : decode cX13_submit 124 = .ok (.aload_n 0, 1) := by decide +kernel
theorem dX13_submit_125 : decode cX13_submit 125 = .ok (.iload_n 2, 1) := by decide +kernel
theorem dX13_submit_126 : decode cX13_submit 126 = .ok (.putfield 123, 3) := by decide +kernel
theorem dX13_submit_129 : decode cX13_submit 129 = .ok (.aload_n 0, 1) := by decide +kernel
theorem dX13_submit_130 : decode cX13_submit 130 = .ok (.getfield 177, 3) := by decide +kernel
theorem dX13_submit_133 : decode cX13_submit 133 = .ok (.ifCond .eq 7, 3) := by decide +kernel
theorem dX13_submit_136 : decode cX13_submit 136 = .ok (.aload_n 0, 1) := by decide +kernel
theorem dX13_submit_137 : decode cX13_submit 137 = .ok (.invokevirtual 181, 3) := by decide +kernel
theorem dX13_submit_140 : decode cX13_submit 140 = .ok (.iconst (-1), 1) := by decide +kernel
theorem dX13_submit_141 : decode cX13_submit 141 = .ok (.ireturn, 1) := by decide +kernel
theorem dX13_submit_142 : decode cX13_submit 142 = .ok (.aload_n 0, 1) := by decide +kernel
theorem dX13_submit_143 : decode cX13_submit 143 = .ok (.iconst 1, 1) := by decide +kernel
theorem dX13_submit_144 : decode cX13_submit 144 = .ok (.putfield 177, 3) := by decide +kernel
theorem dX13_submit_147 : decode cX13_submit 147 = .ok (.aload_n 0, 1) := by decide +kernel
theorem dX13_submit_148 : decode cX13_submit 148 = .ok (.dup, 1) := by decide +kernel
theorem dX13_submit_149 : decode cX13_submit 149 = .ok (.getfield 184, 3) := by decide +kernel
theorem dX13_submit_152 : decode cX13_submit 152 = .ok (.iconst 1, 1) := by decide +kernel
theorem dX13_submit_153 : decode cX13_submit 153 = .ok (.iadd, 1) := by decide +kernel
theorem dX13_submit_154 : decode cX13_submit 154 = .ok (.putfield 184, 3) := by decide +kernel
theorem dX13_submit_157 : decode cX13_submit 157 = .ok (.aload_n 0, 1) := by decide +kernel
theorem dX13_submit_158 : decode cX13_submit 158 = .ok (.getfield 22, 3) := by decide +kernel
theorem dX13_submit_161 : decode cX13_submit 161 = .ok (.aload_n 0, 1) := by decide +kernel
theorem dX13_submit_162 : decode cX13_submit 162 = .ok (.getfield 123, 3) := by decide +kernel
theorem dX13_submit_165 : decode cX13_submit 165 = .ok (.iaload, 1) := by decide +kernel
theorem dX13_submit_166 : decode cX13_submit 166 = .ok (.iconst 1, 1) := by decide +kernel
theorem dX13_submit_167 : decode cX13_submit 167 = .ok (.isub, 1) := by decide +kernel
theorem dX13_submit_168 : decode cX13_submit 168 = .ok (.ireturn, 1) := by decide +kernel
def kX13_submit_117 (mc ms : Nat) (X : Nat → zV) (Q : zQt) : zT :=
  zj X 117 [0, 2]
def kX13_submit_113 (mc ms : Nat) (X : Nat → zV) (Q : zQt) : zT :=
  zla 0 <| zcv mc ms 13 0 wX13_readMoves <| kX13_submit_117 mc ms X Q
def kX13_submit_98 (mc ms : Nat) (X : Nat → zV) (Q : zQt) : zT :=
  zpi 13 3 <| zla 0 <| zgi 13 3 <| zif (fun x => x = 0) (zla 0 <| zc (.int (-1)) <| zcv mc ms 13 1 wX13_add <| kX13_submit_113 mc ms X Q) <| zj X 117 [0, 2]
def kX13_submit_140 (mc ms : Nat) (X : Nat → zV) (Q : zQt) : zT :=
  zj X 140 []
def aX13_submit_0 (mc ms : Nat) (X : Nat → zV) (Q : zQt) : zT :=
  zla 0 <| zli 1 <| zc (.int 1) <| zic (fun x y => x < y) (zj X 12 [0, 1]) <| zli 1 <| zc (.int 20) <| zic (fun x y => x ≤ y) (zc (.int 0) <| zj X 17 [0, 1]) <| zj X 12 [0, 1]
def aX13_submit_12 (mc ms : Nat) (X : Nat → zV) (Q : zQt) : zT :=
  zc (.int 1) <| zj X 17 [0, 1]
def aX13_submit_17 (mc ms : Nat) (X : Nat → zV) (Q : zQt) : zT :=
  zpi 13 0 <| zla 0 <| zgi 13 0 <| zif (fun x => x ≤ 0) (zla 0 <| zla 0 <| zgi 13 2 <| zif (fun x => x = 0) (zc (.int 0) <| zj X 50 [0]) <| zla 0 <| zgi 13 2 <| zc (.int 20) <| zii (fun x y => x - y) <| zli 1 <| zii (fun x y => x + y) <| zj X 50 [0]) <| zc (.int 0) <| zri Q
def aX13_submit_50 (mc ms : Nat) (X : Nat → zV) (Q : zQt) : zT :=
  zpi 13 22 <| zla 0 <| zc (.int 0) <| zpi 13 2 <| zla 0 <| zc (.int 0) <| zpi 13 21 <| zla 0 <| zc (.int (-1)) <| zpi 13 4 <| zla 0 <| zgi 13 6 <| zsi 2 <| zla 0 <| zc (.int 1) <| zla 0 <| zgi 13 6 <| zii (fun x y => x - y) <| zpi 13 6 <| zla 0 <| zgR 13 9 <| zla 0 <| zgi 13 6 <| zc (.int 0) <| zas 1 (fun x => x) <| zla 0 <| zla 0 <| zcv mc ms 13 0 wX13_readRecord <| kX13_submit_98 mc ms X Q
def aX13_submit_117 (mc ms : Nat) (X : Nat → zV) (Q : zQt) : zT :=
  zla 0 <| zgi 13 3 <| zif (fun x => x ≤ 0) (zla 0 <| zc (.int 1) <| zpz 13 7 <| zla 0 <| zdup <| zgi 13 5 <| zc (.int 1) <| zii (fun x y => x + y) <| zpi 13 5 <| zla 0 <| zgR 13 9 <| zla 0 <| zgi 13 6 <| zal 1 <| zc (.int 1) <| zii (fun x y => x - y) <| zri Q) <| zla 0 <| zli 2 <| zpi 13 6 <| zla 0 <| zgi 13 7 <| zif (fun x => x = 0) (zj X 140 []) <| zla 0 <| zcv mc ms 13 0 wX13_show <| kX13_submit_140 mc ms X Q
def aX13_submit_140 (mc ms : Nat) (X : Nat → zV) (Q : zQt) : zT :=
  zc (.int (-1)) <| zri Q
def lvX13_submit : Nat → List Nat := fun L => match L with
  | 0 => [0, 1]
  | 12 => [0, 1]
  | 17 => [0, 1]
  | 50 => [0]
  | 117 => [0, 2]
  | 140 => []
  | _ => []
def wX13_submit : zSp := fun mc ms av M Q => ((zlay av).length ≤ 3 ∧ zpick (zlay av) [0, 1] = some av) ∧ ∀ X : Nat → zV, zin 3 [0, 1] (aX13_submit_0 mc ms X Q) X 0 → zin 3 [0, 1] (aX13_submit_12 mc ms X Q) X 12 → zin 3 [0, 1] (aX13_submit_17 mc ms X Q) X 17 → zin 3 [0] (aX13_submit_50 mc ms X Q) X 50 → zin 3 [0, 2] (aX13_submit_117 mc ms X Q) X 117 → zin 3 [] (aX13_submit_140 mc ms X Q) X 140 → X 0 0 0 av [] M
set_option maxRecDepth 100000 in
set_option maxHeartbeats 4000000 in
theorem sX13_submit (l : Launch) (G : zG) : zSnd l G yX13_submit cX13_submit 3 (some .int) 10 253 wX13_submit := by
  refine zmk [0, 1] (by decide) (fun mc ms av M Q h => h.1) ?_
  intro p e R s m args below meth c mc ms av M Q hC hRf hRl hr hnm h lv hlv
  obtain ⟨X, hXe⟩ : ∃ X : Nat → zV, X = fun L u v vs st M => ∀ lv, zpick lv (lvX13_submit L) = some vs → zAt p l e R s m args below meth c (MQ below (zQ G Q) args s mc ms (zA G)) G 3 L u v lv st M := ⟨_, rfl⟩
  have hJ : ∀ L, zOk p l e R s m args below meth c (MQ below (zQ G Q) args s mc ms (zA G)) G 3 L (zj X L (lvX13_submit L)) := fun L => S_jump (fun u v lv vs st M hp hx => by rw [hXe] at hx; exact hx lv hp)
  have hB0 : zin 3 [0, 1] (aX13_submit_0 mc ms X Q) X 0 := by
    intro u v vs st M hb
    rw [hXe]
    refine fun lv hp => S_block (L := 0) (live := [0, 1]) ?_ u v lv vs st M hp hb
    unfold aX13_submit_0
    refine S_aload_n (pc := 0) hC dX13_submit_0 rfl ?_
    refine S_iload_n (pc := 1) hC dX13_submit_1 rfl ?_
    refine S_iconst (pc := 2) hC dX13_submit_2 (by decide) ?_
    refine S_icmp_lt (pc := 3) (tgt := 12) hC dX13_submit_3 (by decide) ?_ ?_
    · exact hJ 12
    · refine S_iload_n (pc := 6) hC dX13_submit_6 rfl ?_
      refine S_bipush (pc := 7) hC dX13_submit_7 (by decide) ?_
      refine S_icmp_le (pc := 9) (tgt := 16) hC dX13_submit_9 (by decide) ?_ ?_
      · refine S_iconst (pc := 16) hC dX13_submit_16 (by decide) ?_
        exact hJ 17
      · exact hJ 12
  have hB12 : zin 3 [0, 1] (aX13_submit_12 mc ms X Q) X 12 := by
    intro u v vs st M hb
    rw [hXe]
    refine fun lv hp => S_block (L := 12) (live := [0, 1]) ?_ u v lv vs st M hp hb
    unfold aX13_submit_12
    refine S_iconst (pc := 12) hC dX13_submit_12 (by decide) ?_
    refine S_goto (pc := 13) (tgt := 17) hC dX13_submit_13 (by decide) ?_
    exact hJ 17
  have hB17 : zin 3 [0, 1] (aX13_submit_17 mc ms X Q) X 17 := by
    intro u v vs st M hb
    rw [hXe]
    refine fun lv hp => S_block (L := 17) (live := [0, 1]) ?_ u v lv vs st M hp hb
    unfold aX13_submit_17
    refine S_puti (pc := 17) hC cfX13 (by decide) rfl (Or.inl rfl) wd_1255 dX13_submit_17 ?_
    refine S_aload_n (pc := 20) hC dX13_submit_20 rfl ?_
    refine S_geti (pc := 21) hC cfX13 (by decide) (Or.inl rfl) wd_1255 dX13_submit_21 ?_
    refine S_if_le (pc := 24) (tgt := 29) hC dX13_submit_24 (by decide) ?_ ?_
    · refine S_aload_n (pc := 29) hC dX13_submit_29 rfl ?_
      refine S_aload_n (pc := 30) hC dX13_submit_30 rfl ?_
      refine S_geti (pc := 31) hC cfX13 (by decide) (Or.inl rfl) wd_1257 dX13_submit_31 ?_
      refine S_if_ne (pc := 34) (tgt := 41) hC dX13_submit_34 (by decide) ?_ ?_
      · refine S_aload_n (pc := 41) hC dX13_submit_41 rfl ?_
        refine S_geti (pc := 42) hC cfX13 (by decide) (Or.inl rfl) wd_1257 dX13_submit_42 ?_
        refine S_bipush (pc := 45) hC dX13_submit_45 (by decide) ?_
        refine S_isub (pc := 47) hC dX13_submit_47 ?_
        refine S_iload_n (pc := 48) hC dX13_submit_48 rfl ?_
        refine S_iadd (pc := 49) hC dX13_submit_49 ?_
        exact hJ 50
      · refine S_iconst (pc := 37) hC dX13_submit_37 (by decide) ?_
        refine S_goto (pc := 38) (tgt := 50) hC dX13_submit_38 (by decide) ?_
        exact hJ 50
    · refine S_iconst (pc := 27) hC dX13_submit_27 (by decide) ?_
      exact S_ireturn (pc := 28) hC hr dX13_submit_28
  have hB50 : zin 3 [0] (aX13_submit_50 mc ms X Q) X 50 := by
    intro u v vs st M hb
    rw [hXe]
    refine fun lv hp => S_block (L := 50) (live := [0]) ?_ u v lv vs st M hp hb
    unfold aX13_submit_50
    refine S_puti (pc := 50) hC cfX13 (by decide) rfl (Or.inl rfl) wd_1277 dX13_submit_50 ?_
    refine S_aload_n (pc := 53) hC dX13_submit_53 rfl ?_
    refine S_iconst (pc := 54) hC dX13_submit_54 (by decide) ?_
    refine S_puti (pc := 55) hC cfX13 (by decide) rfl (Or.inl rfl) wd_1257 dX13_submit_55 ?_
    refine S_aload_n (pc := 58) hC dX13_submit_58 rfl ?_
    refine S_iconst (pc := 59) hC dX13_submit_59 (by decide) ?_
    refine S_puti (pc := 60) hC cfX13 (by decide) rfl (Or.inl rfl) wd_1276 dX13_submit_60 ?_
    refine S_aload_n (pc := 63) hC dX13_submit_63 rfl ?_
    refine S_iconst (pc := 64) hC dX13_submit_64 (by decide) ?_
    refine S_puti (pc := 65) hC cfX13 (by decide) rfl (Or.inl rfl) wd_1259 dX13_submit_65 ?_
    refine S_aload_n (pc := 68) hC dX13_submit_68 rfl ?_
    refine S_geti (pc := 69) hC cfX13 (by decide) (Or.inl rfl) wd_1261 dX13_submit_69 ?_
    refine S_istore_n (pc := 72) hC dX13_submit_72 rfl (by decide) ?_
    refine S_aload_n (pc := 73) hC dX13_submit_73 rfl ?_
    refine S_iconst (pc := 74) hC dX13_submit_74 (by decide) ?_
    refine S_aload_n (pc := 75) hC dX13_submit_75 rfl ?_
    refine S_geti (pc := 76) hC cfX13 (by decide) (Or.inl rfl) wd_1261 dX13_submit_76 ?_
    refine S_isub (pc := 79) hC dX13_submit_79 ?_
    refine S_puti (pc := 80) hC cfX13 (by decide) rfl (Or.inl rfl) wd_1261 dX13_submit_80 ?_
    refine S_aload_n (pc := 83) hC dX13_submit_83 rfl ?_
    refine S_getR (pc := 84) hC cfX13 (by decide) (Or.inr ⟨_, rfl⟩) wd_1264 dX13_submit_84 ?_
    refine S_aload_n (pc := 87) hC dX13_submit_87 rfl ?_
    refine S_geti (pc := 88) hC cfX13 (by decide) (Or.inl rfl) wd_1261 dX13_submit_88 ?_
    refine S_iconst (pc := 91) hC dX13_submit_91 (by decide) ?_
    refine S_iastore (pc := 92) hC dX13_submit_92 ?_
    refine S_aload_n (pc := 93) hC dX13_submit_93 rfl ?_
    refine S_aload_n (pc := 94) hC dX13_submit_94 rfl ?_
    refine S_callV (pc := 95) hC (sX13_readRecord l G) rfl wd_1350 wd_1352 ws_54 wd_12 wd_1353 (by decide +kernel) ⟨by rw [hRf]; decide, by rw [hRl]; decide⟩ dX13_submit_95 ?_
    unfold kX13_submit_98
    refine S_puti (pc := 98) hC cfX13 (by decide) rfl (Or.inl rfl) wd_1258 dX13_submit_98 ?_
    refine S_aload_n (pc := 101) hC dX13_submit_101 rfl ?_
    refine S_geti (pc := 102) hC cfX13 (by decide) (Or.inl rfl) wd_1258 dX13_submit_102 ?_
    refine S_if_ne (pc := 105) (tgt := 117) hC dX13_submit_105 (by decide) ?_ ?_
    · exact hJ 117
    · refine S_aload_n (pc := 108) hC dX13_submit_108 rfl ?_
      refine S_iconst (pc := 109) hC dX13_submit_109 (by decide) ?_
      refine S_callV (pc := 110) hC (sX13_add l G) rfl wd_1435 wd_1437 ws_70 wd_12 wd_1438 (by decide +kernel) ⟨by rw [hRf]; decide, by rw [hRl]; decide⟩ dX13_submit_110 ?_
      unfold kX13_submit_113
      refine S_aload_n (pc := 113) hC dX13_submit_113 rfl ?_
      refine S_callV (pc := 114) hC (sX13_readMoves l G) rfl wd_1500 wd_1502 ws_84 wd_12 wd_1503 (by decide +kernel) ⟨by rw [hRf]; decide, by rw [hRl]; decide⟩ dX13_submit_114 ?_
      unfold kX13_submit_117
      exact hJ 117
  have hB117 : zin 3 [0, 2] (aX13_submit_117 mc ms X Q) X 117 := by
    intro u v vs st M hb
    rw [hXe]
    refine fun lv hp => S_block (L := 117) (live := [0, 2]) ?_ u v lv vs st M hp hb
    unfold aX13_submit_117
    refine S_aload_n (pc := 117) hC dX13_submit_117 rfl ?_
    refine S_geti (pc := 118) hC cfX13 (by decide) (Or.inl rfl) wd_1258 dX13_submit_118 ?_
    refine S_if_le (pc := 121) (tgt := 142) hC dX13_submit_121 (by decide) ?_ ?_
    · refine S_aload_n (pc := 142) hC dX13_submit_142 rfl ?_
      refine S_iconst (pc := 143) hC dX13_submit_143 (by decide) ?_
      refine S_putz (pc := 144) hC cfX13 (by decide) rfl (Or.inl rfl) wd_1262 dX13_submit_144 ?_
      refine S_aload_n (pc := 147) hC dX13_submit_147 rfl ?_
      refine S_dup (pc := 148) hC dX13_submit_148 ?_
      refine S_geti (pc := 149) hC cfX13 (by decide) (Or.inl rfl) wd_1260 dX13_submit_149 ?_
      refine S_iconst (pc := 152) hC dX13_submit_152 (by decide) ?_
      refine S_iadd (pc := 153) hC dX13_submit_153 ?_
      refine S_puti (pc := 154) hC cfX13 (by decide) rfl (Or.inl rfl) wd_1260 dX13_submit_154 ?_
      refine S_aload_n (pc := 157) hC dX13_submit_157 rfl ?_
      refine S_getR (pc := 158) hC cfX13 (by decide) (Or.inr ⟨_, rfl⟩) wd_1264 dX13_submit_158 ?_
      refine S_aload_n (pc := 161) hC dX13_submit_161 rfl ?_
      refine S_geti (pc := 162) hC cfX13 (by decide) (Or.inl rfl) wd_1261 dX13_submit_162 ?_
      refine S_iaload (pc := 165) hC dX13_submit_165 ?_
      refine S_iconst (pc := 166) hC dX13_submit_166 (by decide) ?_
      refine S_isub (pc := 167) hC dX13_submit_167 ?_
      exact S_ireturn (pc := 168) hC hr dX13_submit_168
    · refine S_aload_n (pc := 124) hC dX13_submit_124 rfl ?_
      refine S_iload_n (pc := 125) hC dX13_submit_125 rfl ?_
      refine S_puti (pc := 126) hC cfX13 (by decide) rfl (Or.inl rfl) wd_1261 dX13_submit_126 ?_
      refine S_aload_n (pc := 129) hC dX13_submit_129 rfl ?_
      refine S_geti (pc := 130) hC cfX13 (by decide) (Or.inr rfl) wd_1262 dX13_submit_130 ?_
      refine S_if_eq (pc := 133) (tgt := 140) hC dX13_submit_133 (by decide) ?_ ?_
      · exact hJ 140
      · refine S_aload_n (pc := 136) hC dX13_submit_136 rfl ?_
        refine S_callV (pc := 137) hC (sX13_show l G) rfl wd_1585 wd_1587 ws_103 wd_12 wd_1588 (by decide +kernel) ⟨by rw [hRf]; decide, by rw [hRl]; decide⟩ dX13_submit_137 ?_
        unfold kX13_submit_140
        exact hJ 140
  have hB140 : zin 3 [] (aX13_submit_140 mc ms X Q) X 140 := by
    intro u v vs st M hb
    rw [hXe]
    refine fun lv hp => S_block (L := 140) (live := []) ?_ u v lv vs st M hp hb
    unfold aX13_submit_140
    refine S_iconst (pc := 140) hC dX13_submit_140 (by decide) ?_
    exact S_ireturn (pc := 141) hC hr dX13_submit_141
  have := h.2 X hB0 hB12 hB17 hB50 hB117 hB140
  rw [hXe] at this
  exact this lv hlv
theorem vX13_submit_0 {mc ms : Nat} {X : Nat → zV} {Q : zQt} {M : zM} {x1 : Int32} (hW : zFix M)  (h : (x1 < (1 : Int32) → X 12 0 0 [.ref 55, .int x1] [.ref 55] M) ∧ (¬ x1 < (1 : Int32) → (x1 ≤ (20 : Int32) → X 17 0 0 [.ref 55, .int x1] [.int 0, .ref 55] M) ∧ (¬ x1 ≤ (20 : Int32) → X 12 0 0 [.ref 55, .int x1] [.ref 55] M))) : aX13_submit_0 mc ms X Q 0 0 [some (.ref 55), some (.int x1), none] [] M := ⟨fun c3 => (h.1 c3), fun c3 => ⟨fun c9 => ((h.2 c3).1 c9), fun c9 => ((h.2 c3).2 c9)⟩⟩
theorem vX13_submit_12 {mc ms : Nat} {X : Nat → zV} {Q : zQt} {M : zM} {x1 : Int32} (hW : zFix M)  (h : X 17 0 0 [.ref 55, .int x1] [.int 1, .ref 55] M) : aX13_submit_12 mc ms X Q 0 0 [some (.ref 55), some (.int x1), none] [.ref 55] M := h
theorem vX13_submit_17 {mc ms : Nat} {X : Nat → zV} {Q : zQt} {M : zM} {x1 : Int32} {s0 : Int32} (hW : zFix M)  (h : ∀ M17 : zM, M17 = (zsI M 55 0 s0) → ((M17.1 55 0) ≤ 0 → ((M17.1 55 2) = 0 → X 50 0 0 [.ref 55] [.int 0, .ref 55] M17) ∧ (¬ (M17.1 55 2) = 0 → X 50 0 0 [.ref 55] [.int (((M17.1 55 2) - (20 : Int32)) + x1), .ref 55] M17)) ∧ (¬ (M17.1 55 0) ≤ 0 → Q (some (.int 0)) M17)) : aX13_submit_17 mc ms X Q 0 0 [some (.ref 55), some (.int x1), none] [.int s0, .ref 55] M := ⟨(fxs_55 hW), (have h17 := h _ rfl; ⟨(fxs_55 hW), ⟨fun c24 => ⟨(fxs_55 hW), ⟨fun c34 => ((h17.1 c24).1 c34), fun c34 => ⟨(fxs_55 hW), ((h17.1 c24).2 c34)⟩⟩⟩, fun c24 => (h17.2 c24)⟩⟩)⟩
theorem vX13_submit_50 {mc ms : Nat} {X : Nat → zV} {Q : zQt} {M : zM} {s0 : Int32} (hW : zFix M)  (h : ∀ M50 : zM, M50 = (zsI M 55 22 s0) → ∀ M55 : zM, M55 = (zsI M50 55 2 0) → ∀ M60 : zM, M60 = (zsI M55 55 21 0) → ∀ M65 : zM, M65 = (zsI M60 55 4 ((-1))) → ∀ M80 : zM, M80 = (zsI M65 55 6 (((1 : Int32) - (M65.1 55 6)))) → vp_in ((M80.1 55 6)) 2 ∧ ∀ M92 : zM, M92 = (zsI M80 58 ((M80.1 55 6) : Int32).toNatClampNeg 0) → wX13_readRecord 0 0 [.ref 55] M92 (fun r M1 => kX13_submit_98 mc ms X Q 0 0 [some (.ref 55), none, some (.int (M65.1 55 6))] (r.toList ++ [.ref 55]) M1)) : aX13_submit_50 mc ms X Q 0 0 [some (.ref 55), none, none] [.int s0, .ref 55] M := ⟨(fxs_55 hW), (have h50 := h _ rfl; ⟨(fxs_55 hW), (have h55 := h50 _ rfl; ⟨(fxs_55 hW), (have h60 := h55 _ rfl; ⟨(fxs_55 hW), (have h65 := h60 _ rfl; ⟨(fxs_55 hW), ⟨(fxs_55 hW), ⟨(fxs_55 hW), (have h80 := h65 _ rfl; ⟨(fxs_55 hW), 58, (fxr_55_9 hW), ⟨(fxs_55 hW), ⟨2, (fxs_58 hW), h80.1, (have h92 := h80.2 _ rfl; ⟨Nat.le_of_ble_eq_true rfl, rfl, (fxs_55 hW), 0, 0, Nat.zero_le _, Nat.zero_le _, h92⟩)⟩⟩⟩)⟩⟩⟩)⟩)⟩)⟩)⟩
theorem vX13_submit_117 {mc ms : Nat} {X : Nat → zV} {Q : zQt} {M : zM} {x2 : Int32} (hW : zFix M)  (h : ((M.1 55 3) ≤ 0 → ∀ M144 : zM, M144 = (zsI M 55 7 1) → ∀ M154 : zM, M154 = (zsI M144 55 5 (((M144.1 55 5) + (1 : Int32)))) → vp_in ((M154.1 55 6)) 2 ∧ Q (some (.int ((((M154 : zM).1 58 ((M154.1 55 6) : Int32).toNatClampNeg) - (1 : Int32))))) M154) ∧ (¬ (M.1 55 3) ≤ 0 → ∀ M126 : zM, M126 = (zsI M 55 6 x2) → ((M126.1 55 7) = 0 → X 140 0 0 [] [] M126) ∧ (¬ (M126.1 55 7) = 0 → wX13_show 0 0 [.ref 55] M126 (fun r M1 => kX13_submit_140 mc ms X Q 0 0 [some (.ref 55), none, some (.int x2)] (r.toList ++ []) M1)))) : aX13_submit_117 mc ms X Q 0 0 [some (.ref 55), none, some (.int x2)] [] M := ⟨(fxs_55 hW), ⟨fun c121 => ⟨(fxs_55 hW), rfl, (have h144 := (h.1 c121) _ rfl; ⟨(fxs_55 hW), ⟨(fxs_55 hW), (have h154 := h144 _ rfl; ⟨(fxs_55 hW), 58, (fxr_55_9 hW), ⟨(fxs_55 hW), ⟨2, (fxs_58 hW), h154.1, h154.2⟩⟩⟩)⟩⟩)⟩, fun c121 => ⟨(fxs_55 hW), (have h126 := (h.2 c121) _ rfl; ⟨(fxs_55 hW), ⟨fun c133 => (h126.1 c133), fun c133 => ⟨Nat.le_of_ble_eq_true rfl, rfl, (fxs_55 hW), 0, 0, Nat.zero_le _, Nat.zero_le _, (h126.2 c133)⟩⟩⟩)⟩⟩⟩
theorem vX13_submit_140 {mc ms : Nat} {X : Nat → zV} {Q : zQt} {M : zM}  (hW : zFix M)  (h : Q (some (.int ((-1)))) M) : aX13_submit_140 mc ms X Q 0 0 [none, none, none] [] M := h
theorem vkX13_submit_98 {mc ms : Nat} {X : Nat → zV} {Q : zQt} {M : zM} {x2 : Int32} {s0 : Int32} (hW : zFix M)  (h : ∀ M98 : zM, M98 = (zsI M 55 3 s0) → ((M98.1 55 3) = 0 → wX13_add 0 0 [.ref 55, .int (-1)] M98 (fun r M1 => kX13_submit_113 mc ms X Q 0 0 [some (.ref 55), none, some (.int x2)] (r.toList ++ []) M1)) ∧ (¬ (M98.1 55 3) = 0 → X 117 0 0 [.ref 55, .int x2] [] M98)) : kX13_submit_98 mc ms X Q 0 0 [some (.ref 55), none, some (.int x2)] [.int s0, .ref 55] M := ⟨(fxs_55 hW), (have h98 := h _ rfl; ⟨(fxs_55 hW), ⟨fun c105 => ⟨Nat.le_of_ble_eq_true rfl, rfl, (fxs_55 hW), 0, 0, Nat.zero_le _, Nat.zero_le _, (h98.1 c105)⟩, fun c105 => (h98.2 c105)⟩⟩)⟩
theorem vkX13_submit_113 {mc ms : Nat} {X : Nat → zV} {Q : zQt} {M : zM} {x2 : Int32} (hW : zFix M)  (h : wX13_readMoves 0 0 [.ref 55] M (fun r M1 => kX13_submit_117 mc ms X Q 0 0 [some (.ref 55), none, some (.int x2)] (r.toList ++ []) M1)) : kX13_submit_113 mc ms X Q 0 0 [some (.ref 55), none, some (.int x2)] [] M := ⟨Nat.le_of_ble_eq_true rfl, rfl, (fxs_55 hW), 0, 0, Nat.zero_le _, Nat.zero_le _, h⟩
theorem vkX13_submit_117 {mc ms : Nat} {X : Nat → zV} {Q : zQt} {M : zM} {x2 : Int32} (hW : zFix M)  (h : X 117 0 0 [.ref 55, .int x2] [] M) : kX13_submit_117 mc ms X Q 0 0 [some (.ref 55), none, some (.int x2)] [] M := h
theorem vkX13_submit_140 {mc ms : Nat} {X : Nat → zV} {Q : zQt} {M : zM} {x2 : Int32} (hW : zFix M)  (h : X 140 0 0 [] [] M) : kX13_submit_140 mc ms X Q 0 0 [some (.ref 55), none, some (.int x2)] [] M := h
theorem dX3_distance_0 : decode cX3_distance 0 = .ok (.aload_n 1, 1) := by decide +kernel
theorem dX3_distance_1 : decode cX3_distance 1 = .ok (.getfield 21, 3) := by decide +kernel
theorem dX3_distance_4 : decode cX3_distance 4 = .ok (.ifCond .ne 11, 3) := by decide +kernel
theorem dX3_distance_7 : decode cX3_distance 7 = .ok (.aload_n 1, 1) := by decide +kernel
theorem dX3_distance_8 : decode cX3_distance 8 = .ok (.invokevirtual 27, 3) := by decide +kernel
theorem dX3_distance_11 : decode cX3_distance 11 = .ok (.iconst 3, 1) := by decide +kernel
theorem dX3_distance_12 : decode cX3_distance 12 = .ok (.if_icmp .eq 5, 3) := by decide +kernel
theorem dX3_distance_15 : decode cX3_distance 15 = .ok (.iconst (-1), 1) := by decide +kernel
theorem dX3_distance_16 : decode cX3_distance 16 = .ok (.ireturn, 1) := by decide +kernel
theorem dX3_distance_17 : decode cX3_distance 17 = .ok (.aload_n 1, 1) := by decide +kernel
theorem dX3_distance_18 : decode cX3_distance 18 = .ok (.getfield 31, 3) := by decide +kernel
theorem dX3_distance_21 : decode cX3_distance 21 = .ok (.iconst 0, 1) := by decide +kernel
theorem dX3_distance_22 : decode cX3_distance 22 = .ok (.laload, 1) := by decide +kernel
theorem dX3_distance_23 : decode cX3_distance 23 = .ok (.invokestatic 35, 3) := by decide +kernel
theorem dX3_distance_26 : decode cX3_distance 26 = .ok (.iconst 2, 1) := by decide +kernel
theorem dX3_distance_27 : decode cX3_distance 27 = .ok (.if_icmp .ne 7, 3) := by decide +kernel
theorem dX3_distance_30 : decode cX3_distance 30 = .ok (.iconst 0, 1) := by decide +kernel
theorem dX3_distance_31 : decode cX3_distance 31 = .ok (.goto 4, 3) := by decide +kernel
theorem dX3_distance_34 : decode cX3_distance 34 = .ok (.iconst 1, 1) := by decide +kernel
theorem dX3_distance_35 : decode cX3_distance 35 = .ok (.istore_n 2, 1) := by decide +kernel
theorem dX3_distance_36 : decode cX3_distance 36 = .ok (.aload_n 1, 1) := by decide +kernel
theorem dX3_distance_37 : decode cX3_distance 37 = .ok (.getfield 31, 3) := by decide +kernel
theorem dX3_distance_40 : decode cX3_distance 40 = .ok (.iload_n 2, 1) := by decide +kernel
theorem dX3_distance_41 : decode cX3_distance 41 = .ok (.laload, 1) := by decide +kernel
theorem dX3_distance_42 : decode cX3_distance 42 = .ok (.aload_n 1, 1) := by decide +kernel
theorem dX3_distance_43 : decode cX3_distance 43 = .ok (.getfield 41, 3) := by decide +kernel
theorem dX3_distance_46 : decode cX3_distance 46 = .ok (.bipush 6, 2) := by decide +kernel
theorem dX3_distance_48 : decode cX3_distance 48 = .ok (.bipush 6, 2) := by decide +kernel
theorem dX3_distance_50 : decode cX3_distance 50 = .ok (.iload_n 2, 1) := by decide +kernel
theorem dX3_distance_51 : decode cX3_distance 51 = .ok (.imul, 1) := by decide +kernel
theorem dX3_distance_52 : decode cX3_distance 52 = .ok (.iadd, 1) := by decide +kernel
theorem dX3_distance_53 : decode cX3_distance 53 = .ok (.laload, 1) := by decide +kernel
theorem dX3_distance_54 : decode cX3_distance 54 = .ok (.ldc2_w 44, 3) := by decide +kernel
theorem dX3_distance_57 : decode cX3_distance 57 = .ok (.lxor, 1) := by decide +kernel
theorem dX3_distance_58 : decode cX3_distance 58 = .ok (.land, 1) := by decide +kernel
theorem dX3_distance_59 : decode cX3_distance 59 = .ok (.invokestatic 46, 3) := by decide +kernel
theorem dX3_distance_62 : decode cX3_distance 62 = .ok (.istore_n 3, 1) := by decide +kernel
theorem dX3_distance_63 : decode cX3_distance 63 = .ok (.aload_n 1, 1) := by decide +kernel
theorem dX3_distance_64 : decode cX3_distance 64 = .ok (.getfield 49, 3) := by decide +kernel
theorem dX3_distance_67 : decode cX3_distance 67 = .ok (.iload_n 3, 1) := by decide +kernel
theorem dX3_distance_68 : decode cX3_distance 68 = .ok (.iaload, 1) := by decide +kernel
theorem dX3_distance_69 : decode cX3_distance 69 = .ok (.bipush 6, 2) := by decide +kernel
theorem dX3_distance_71 : decode cX3_distance 71 = .ok (.iload_n 2, 1) := by decide +kernel
theorem dX3_distance_72 : decode cX3_distance 72 = .ok (.imul, 1) := by decide +kernel
theorem dX3_distance_73 : decode cX3_distance 73 = .ok (.isub, 1) := by decide +kernel
theorem dX3_distance_74 : decode cX3_distance 74 = .ok (.istore 4, 2) := by decide +kernel
theorem dX3_distance_76 : decode cX3_distance 76 = .ok (.iload 4, 2) := by decide +kernel
theorem dX3_distance_78 : decode cX3_distance 78 = .ok (.iconst 2, 1) := by decide +kernel
theorem dX3_distance_79 : decode cX3_distance 79 = .ok (.if_icmp .eq 9, 3) := by decide +kernel
theorem dX3_distance_82 : decode cX3_distance 82 = .ok (.iload 4, 2) := by decide +kernel
theorem dX3_distance_84 : decode cX3_distance 84 = .ok (.iconst 3, 1) := by decide +kernel
theorem dX3_distance_85 : decode cX3_distance 85 = .ok (.if_icmp .ne 5, 3) := by decide +kernel
theorem dX3_distance_88 : decode cX3_distance 88 = .ok (.iconst (-1), 1) := by decide +kernel
theorem dX3_distance_89 : decode cX3_distance 89 = .ok (.ireturn, 1) := by decide +kernel
theorem dX3_distance_90 : decode cX3_distance 90 = .ok (.iload 4, 2) := by decide +kernel
theorem dX3_distance_92 : decode cX3_distance 92 = .ok (.iconst 1, 1) := by decide +kernel
theorem dX3_distance_93 : decode cX3_distance 93 = .ok (.if_icmp .ne 13, 3) := by decide +kernel
theorem dX3_distance_96 : decode cX3_distance 96 = .ok (.aload_n 0, 1) := by decide +kernel
theorem dX3_distance_97 : decode cX3_distance 97 = .ok (.iconst 5, 1) := by decide +kernel
theorem dX3_distance_98 : decode cX3_distance 98 = .ok (.invokevirtual 53, 3) := by decide +kernel
theorem dX3_distance_101 : decode cX3_distance 101 = .ok (.aload_n 0, 1) := by decide +kernel
theorem dX3_distance_102 : decode cX3_distance 102 = .ok (.iconst 4, 1) := by decide +kernel
theorem dX3_distance_103 : decode cX3_distance 103 = .ok (.invokevirtual 53, 3) := by decide +kernel
theorem dX3_distance_106 : decode cX3_distance 106 = .ok (.aload_n 0, 1) := by decide +kernel
theorem dX3_distance_107 : decode cX3_distance 107 = .ok (.iload 4, 2) := by decide +kernel
theorem dX3_distance_109 : decode cX3_distance 109 = .ok (.invokevirtual 53, 3) := by decide +kernel
theorem dX3_distance_112 : decode cX3_distance 112 = .ok (.iload_n 2, 1) := by decide +kernel
theorem dX3_distance_113 : decode cX3_distance 113 = .ok (.ifCond .ne 7, 3) := by decide +kernel
theorem dX3_distance_116 : decode cX3_distance 116 = .ok (.iconst 0, 1) := by decide +kernel
theorem dX3_distance_117 : decode cX3_distance 117 = .ok (.goto 5, 3) := by decide +kernel
theorem dX3_distance_120 : decode cX3_distance 120 = .ok (.bipush 56, 2) := by decide +kernel
theorem dX3_distance_122 : decode cX3_distance 122 = .ok (.istore 5, 2) := by decide +kernel
theorem dX3_distance_124 : decode cX3_distance 124 = .ok (.iload_n 3, 1) := by decide +kernel
theorem dX3_distance_125 : decode cX3_distance 125 = .ok (.iload 5, 2) := by decide +kernel
theorem dX3_distance_127 : decode cX3_distance 127 = .ok (.ixor, 1) := by decide +kernel
theorem dX3_distance_128 : decode cX3_distance 128 = .ok (.bipush 64, 2) := by decide +kernel
theorem dX3_distance_130 : decode cX3_distance 130 = .ok (.imul, 1) := by decide +kernel
theorem dX3_distance_131 : decode cX3_distance 131 = .ok (.aload_n 1, 1) := by decide +kernel
theorem dX3_distance_132 : decode cX3_distance 132 = .ok (.iload_n 2, 1) := by decide +kernel
theorem dX3_distance_133 : decode cX3_distance 133 = .ok (.invokevirtual 57, 3) := by decide +kernel
theorem dX3_distance_136 : decode cX3_distance 136 = .ok (.iload 5, 2) := by decide +kernel
theorem dX3_distance_138 : decode cX3_distance 138 = .ok (.ixor, 1) := by decide +kernel
theorem dX3_distance_139 : decode cX3_distance 139 = .ok (.iadd, 1) := by decide +kernel
theorem dX3_distance_140 : decode cX3_distance 140 = .ok (.istore 6, 2) := by decide +kernel
theorem dX3_distance_142 : decode cX3_distance 142 = .ok (.aload_n 0, 1) := by decide +kernel
theorem dX3_distance_143 : decode cX3_distance 143 = .ok (.getfield 17, 3) := by decide +kernel
theorem dX3_distance_146 : decode cX3_distance 146 = .ok (.iload 4, 2) := by decide +kernel
theorem dX3_distance_148 : decode cX3_distance 148 = .ok (.aaload, 1) := by decide +kernel
theorem dX3_distance_149 : decode cX3_distance 149 = .ok (.iload 6, 2) := by decide +kernel
theorem dX3_distance_151 : decode cX3_distance 151 = .ok (.aload_n 1, 1) := by decide +kernel
theorem dX3_distance_152 : decode cX3_distance 152 = .ok (.iconst 1, 1) := by decide +kernel
theorem dX3_distance_153 : decode cX3_distance 153 = .ok (.iload_n 2, 1) := by decide +kernel
theorem dX3_distance_154 : decode cX3_distance 154 = .ok (.isub, 1) := by decide +kernel
theorem dX3_distance_155 : decode cX3_distance 155 = .ok (.invokevirtual 57, 3) := by decide +kernel
theorem dX3_distance_158 : decode cX3_distance 158 = .ok (.iload 5, 2) := by decide +kernel
theorem dX3_distance_160 : decode cX3_distance 160 = .ok (.ixor, 1) := by decide +kernel
theorem dX3_distance_161 : decode cX3_distance 161 = .ok (.aload_n 1, 1) := by decide +kernel
theorem dX3_distance_162 : decode cX3_distance 162 = .ok (.getfield 61, 3) := by decide +kernel
theorem dX3_distance_165 : decode cX3_distance 165 = .ok (.iload_n 2, 1) := by decide +kernel
theorem dX3_distance_166 : decode cX3_distance 166 = .ok (.if_icmp .ne 7, 3) := by decide +kernel
theorem dX3_distance_169 : decode cX3_distance 169 = .ok (.iconst 1, 1) := by decide +kernel
theorem dX3_distance_170 : decode cX3_distance 170 = .ok (.goto 4, 3) := by decide +kernel
theorem dX3_distance_173 : decode cX3_distance 173 = .ok (.iconst 0, 1) := by decide +kernel
theorem dX3_distance_174 : decode cX3_distance 174 = .ok (.invokevirtual 64, 3) := by decide +kernel
theorem dX3_distance_177 : decode cX3_distance 177 = .ok (.ireturn, 1) := by decide +kernel
def kX3_distance_26 (mc ms : Nat) (X : Nat → zV) (Q : zQt) : zT :=
  zc (.int 2) <| zic (fun x y => x = y) (zc (.int 0) <| zj X 35 [0, 1]) <| zc (.int 1) <| zj X 35 [0, 1]
def kX3_distance_11 (mc ms : Nat) (X : Nat → zV) (Q : zQt) : zT :=
  zc (.int 3) <| zic (fun x y => x = y) (zla 1 <| zgR 0 3 <| zc (.int 0) <| zall <| zcs mc ms 1 wJ13_bitCount_95d88 <| kX3_distance_26 mc ms X Q) <| zj X 15 []
def kX3_distance_106 (mc ms : Nat) (X : Nat → zV) (Q : zQt) : zT :=
  zj X 106 [0, 1, 2, 3, 4]
def kX3_distance_101 (mc ms : Nat) (X : Nat → zV) (Q : zQt) : zT :=
  zla 0 <| zc (.int 4) <| zcv mc ms 3 1 wX3_prepare <| kX3_distance_106 mc ms X Q
def kX3_distance_62 (mc ms : Nat) (X : Nat → zV) (Q : zQt) : zT :=
  zsi 3 <| zla 1 <| zgR 0 1 <| zli 3 <| zal 1 <| zc (.int 6) <| zli 2 <| zii (fun x y => x * y) <| zii (fun x y => x - y) <| zsi 4 <| zli 4 <| zc (.int 2) <| zic (fun x y => x = y) (zj X 88 []) <| zli 4 <| zc (.int 3) <| zic (fun x y => x = y) (zj X 88 []) <| zli 4 <| zc (.int 1) <| zic (fun x y => x = y) (zla 0 <| zc (.int 5) <| zcv mc ms 3 1 wX3_prepare <| kX3_distance_101 mc ms X Q) <| zj X 106 [0, 1, 2, 3, 4]
def kX3_distance_112 (mc ms : Nat) (X : Nat → zV) (Q : zQt) : zT :=
  zli 2 <| zif (fun x => x = 0) (zc (.int 0) <| zj X 122 [0, 1, 2, 3, 4]) <| zc (.int 56) <| zj X 122 [0, 1, 2, 3, 4]
def kX3_distance_158 (mc ms : Nat) (X : Nat → zV) (Q : zQt) : zT :=
  zli 5 <| zii (fun x y => x ^^^ y) <| zla 1 <| zgi 0 4 <| zli 2 <| zic (fun x y => x = y) (zc (.int 1) <| zj X 174 []) <| zc (.int 0) <| zj X 174 []
def kX3_distance_136 (mc ms : Nat) (X : Nat → zV) (Q : zQt) : zT :=
  zli 5 <| zii (fun x y => x ^^^ y) <| zii (fun x y => x + y) <| zsi 6 <| zla 0 <| zgR 3 1 <| zli 4 <| zalR <| zli 6 <| zla 1 <| zc (.int 1) <| zli 2 <| zii (fun x y => x - y) <| zcv mc ms 0 1 wX0_kingOf <| kX3_distance_158 mc ms X Q
def kX3_distance_177 (mc ms : Nat) (X : Nat → zV) (Q : zQt) : zT :=
  zri Q
def aX3_distance_0 (mc ms : Nat) (X : Nat → zV) (Q : zQt) : zT :=
  zla 1 <| zgi 0 5 <| zif (fun x => x = 0) (zla 1 <| zcv mc ms 0 0 wX0_manyMen <| kX3_distance_11 mc ms X Q) <| zj X 15 []
def aX3_distance_15 (mc ms : Nat) (X : Nat → zV) (Q : zQt) : zT :=
  zc (.int (-1)) <| zri Q
def aX3_distance_35 (mc ms : Nat) (X : Nat → zV) (Q : zQt) : zT :=
  zsi 2 <| zla 1 <| zgR 0 3 <| zli 2 <| zall <| zla 1 <| zgR 0 2 <| zc (.int 6) <| zc (.int 6) <| zli 2 <| zii (fun x y => x * y) <| zii (fun x y => x + y) <| zall <| zc (.long (-1)) <| zjj (fun x y => x ^^^ y) <| zjj (fun x y => x &&& y) <| zcs mc ms 1 wX0_lowest <| kX3_distance_62 mc ms X Q
def aX3_distance_88 (mc ms : Nat) (X : Nat → zV) (Q : zQt) : zT :=
  zc (.int (-1)) <| zri Q
def aX3_distance_106 (mc ms : Nat) (X : Nat → zV) (Q : zQt) : zT :=
  zla 0 <| zli 4 <| zcv mc ms 3 1 wX3_prepare <| kX3_distance_112 mc ms X Q
def aX3_distance_122 (mc ms : Nat) (X : Nat → zV) (Q : zQt) : zT :=
  zsi 5 <| zli 3 <| zli 5 <| zii (fun x y => x ^^^ y) <| zc (.int 64) <| zii (fun x y => x * y) <| zla 1 <| zli 2 <| zcv mc ms 0 1 wX0_kingOf <| kX3_distance_136 mc ms X Q
def aX3_distance_174 (mc ms : Nat) (X : Nat → zV) (Q : zQt) : zT :=
  zcv mc ms 2 3 wX2_read <| kX3_distance_177 mc ms X Q
def lvX3_distance : Nat → List Nat := fun L => match L with
  | 0 => [0, 1]
  | 15 => []
  | 35 => [0, 1]
  | 88 => []
  | 106 => [0, 1, 2, 3, 4]
  | 122 => [0, 1, 2, 3, 4]
  | 174 => []
  | _ => []
def wX3_distance : zSp := fun mc ms av M Q => ((zlay av).length ≤ 7 ∧ zpick (zlay av) [0, 1] = some av) ∧ ∀ X : Nat → zV, zin 7 [0, 1] (aX3_distance_0 mc ms X Q) X 0 → zin 7 [] (aX3_distance_15 mc ms X Q) X 15 → zin 7 [0, 1] (aX3_distance_35 mc ms X Q) X 35 → zin 7 [] (aX3_distance_88 mc ms X Q) X 88 → zin 7 [0, 1, 2, 3, 4] (aX3_distance_106 mc ms X Q) X 106 → zin 7 [0, 1, 2, 3, 4] (aX3_distance_122 mc ms X Q) X 122 → zin 7 [] (aX3_distance_174 mc ms X Q) X 174 → X 0 0 0 av [] M
set_option maxRecDepth 100000 in
set_option maxHeartbeats 4000000 in
theorem sX3_distance (l : Launch) (G : zG) : zSnd l G yX3_distance cX3_distance 7 (some .int) 5 132 wX3_distance := by
  refine zmk [0, 1] (by decide) (fun mc ms av M Q h => h.1) ?_
  intro p e R s m args below meth c mc ms av M Q hC hRf hRl hr hnm h lv hlv
  obtain ⟨X, hXe⟩ : ∃ X : Nat → zV, X = fun L u v vs st M => ∀ lv, zpick lv (lvX3_distance L) = some vs → zAt p l e R s m args below meth c (MQ below (zQ G Q) args s mc ms (zA G)) G 7 L u v lv st M := ⟨_, rfl⟩
  have hJ : ∀ L, zOk p l e R s m args below meth c (MQ below (zQ G Q) args s mc ms (zA G)) G 7 L (zj X L (lvX3_distance L)) := fun L => S_jump (fun u v lv vs st M hp hx => by rw [hXe] at hx; exact hx lv hp)
  have hB0 : zin 7 [0, 1] (aX3_distance_0 mc ms X Q) X 0 := by
    intro u v vs st M hb
    rw [hXe]
    refine fun lv hp => S_block (L := 0) (live := [0, 1]) ?_ u v lv vs st M hp hb
    unfold aX3_distance_0
    refine S_aload_n (pc := 0) hC dX3_distance_0 rfl ?_
    refine S_geti (pc := 1) hC cfX0 (by decide) (Or.inl rfl) wd_237 dX3_distance_1 ?_
    refine S_if_ne (pc := 4) (tgt := 15) hC dX3_distance_4 (by decide) ?_ ?_
    · exact hJ 15
    · refine S_aload_n (pc := 7) hC dX3_distance_7 rfl ?_
      refine S_callV (pc := 8) hC (sX0_manyMen l G) rfl wd_1060 wd_571 wd_572 wd_10 wd_573 (by decide +kernel) ⟨by rw [hRf]; decide, by rw [hRl]; decide⟩ dX3_distance_8 ?_
      unfold kX3_distance_11
      refine S_iconst (pc := 11) hC dX3_distance_11 (by decide) ?_
      refine S_icmp_eq (pc := 12) (tgt := 17) hC dX3_distance_12 (by decide) ?_ ?_
      · refine S_aload_n (pc := 17) hC dX3_distance_17 rfl ?_
        refine S_getR (pc := 18) hC cfX0 (by decide) (Or.inr ⟨_, rfl⟩) wd_227 dX3_distance_18 ?_
        refine S_iconst (pc := 21) hC dX3_distance_21 (by decide) ?_
        refine S_laload (pc := 22) hC dX3_distance_22 ?_
        refine S_callS (pc := 23) hC (sJ13_bitCount_95d88 l G) wd_1061 wd_438 wd_25 wd_439 (by decide +kernel) ⟨by rw [hRf]; decide, by rw [hRl]; decide⟩ dX3_distance_23 ?_
        unfold kX3_distance_26
        refine S_iconst (pc := 26) hC dX3_distance_26 (by decide) ?_
        refine S_icmp_ne (pc := 27) (tgt := 34) hC dX3_distance_27 (by decide) ?_ ?_
        · refine S_iconst (pc := 34) hC dX3_distance_34 (by decide) ?_
          exact hJ 35
        · refine S_iconst (pc := 30) hC dX3_distance_30 (by decide) ?_
          refine S_goto (pc := 31) (tgt := 35) hC dX3_distance_31 (by decide) ?_
          exact hJ 35
      · exact hJ 15
  have hB15 : zin 7 [] (aX3_distance_15 mc ms X Q) X 15 := by
    intro u v vs st M hb
    rw [hXe]
    refine fun lv hp => S_block (L := 15) (live := []) ?_ u v lv vs st M hp hb
    unfold aX3_distance_15
    refine S_iconst (pc := 15) hC dX3_distance_15 (by decide) ?_
    exact S_ireturn (pc := 16) hC hr dX3_distance_16
  have hB35 : zin 7 [0, 1] (aX3_distance_35 mc ms X Q) X 35 := by
    intro u v vs st M hb
    rw [hXe]
    refine fun lv hp => S_block (L := 35) (live := [0, 1]) ?_ u v lv vs st M hp hb
    unfold aX3_distance_35
    refine S_istore_n (pc := 35) hC dX3_distance_35 rfl (by decide) ?_
    refine S_aload_n (pc := 36) hC dX3_distance_36 rfl ?_
    refine S_getR (pc := 37) hC cfX0 (by decide) (Or.inr ⟨_, rfl⟩) wd_227 dX3_distance_37 ?_
    refine S_iload_n (pc := 40) hC dX3_distance_40 rfl ?_
    refine S_laload (pc := 41) hC dX3_distance_41 ?_
    refine S_aload_n (pc := 42) hC dX3_distance_42 rfl ?_
    refine S_getR (pc := 43) hC cfX0 (by decide) (Or.inr ⟨_, rfl⟩) wd_221 dX3_distance_43 ?_
    refine S_bipush (pc := 46) hC dX3_distance_46 (by decide) ?_
    refine S_bipush (pc := 48) hC dX3_distance_48 (by decide) ?_
    refine S_iload_n (pc := 50) hC dX3_distance_50 rfl ?_
    refine S_imul (pc := 51) hC dX3_distance_51 ?_
    refine S_iadd (pc := 52) hC dX3_distance_52 ?_
    refine S_laload (pc := 53) hC dX3_distance_53 ?_
    refine S_ldc2 (pc := 54) hC wd_1062 dX3_distance_54 ?_
    refine S_lxor (pc := 57) hC dX3_distance_57 ?_
    refine S_land (pc := 58) hC dX3_distance_58 ?_
    refine S_callS (pc := 59) hC (sX0_lowest l G) wd_1063 wd_435 wd_10 wd_436 (by decide +kernel) ⟨by rw [hRf]; decide, by rw [hRl]; decide⟩ dX3_distance_59 ?_
    unfold kX3_distance_62
    refine S_istore_n (pc := 62) hC dX3_distance_62 rfl (by decide) ?_
    refine S_aload_n (pc := 63) hC dX3_distance_63 rfl ?_
    refine S_getR (pc := 64) hC cfX0 (by decide) (Or.inr ⟨_, rfl⟩) wd_214 dX3_distance_64 ?_
    refine S_iload_n (pc := 67) hC dX3_distance_67 rfl ?_
    refine S_iaload (pc := 68) hC dX3_distance_68 ?_
    refine S_bipush (pc := 69) hC dX3_distance_69 (by decide) ?_
    refine S_iload_n (pc := 71) hC dX3_distance_71 rfl ?_
    refine S_imul (pc := 72) hC dX3_distance_72 ?_
    refine S_isub (pc := 73) hC dX3_distance_73 ?_
    refine S_istore (pc := 74) hC dX3_distance_74 (by decide) ?_
    refine S_iload (pc := 76) hC dX3_distance_76 ?_
    refine S_iconst (pc := 78) hC dX3_distance_78 (by decide) ?_
    refine S_icmp_eq (pc := 79) (tgt := 88) hC dX3_distance_79 (by decide) ?_ ?_
    · exact hJ 88
    · refine S_iload (pc := 82) hC dX3_distance_82 ?_
      refine S_iconst (pc := 84) hC dX3_distance_84 (by decide) ?_
      refine S_icmp_ne (pc := 85) (tgt := 90) hC dX3_distance_85 (by decide) ?_ ?_
      · refine S_iload (pc := 90) hC dX3_distance_90 ?_
        refine S_iconst (pc := 92) hC dX3_distance_92 (by decide) ?_
        refine S_icmp_ne (pc := 93) (tgt := 106) hC dX3_distance_93 (by decide) ?_ ?_
        · exact hJ 106
        · refine S_aload_n (pc := 96) hC dX3_distance_96 rfl ?_
          refine S_iconst (pc := 97) hC dX3_distance_97 (by decide) ?_
          refine S_callV (pc := 98) hC (sX3_prepare l G) rfl wd_1064 wd_1066 ws_43 wd_8 wd_1067 (by decide +kernel) ⟨by rw [hRf]; decide, by rw [hRl]; decide⟩ dX3_distance_98 ?_
          unfold kX3_distance_101
          refine S_aload_n (pc := 101) hC dX3_distance_101 rfl ?_
          refine S_iconst (pc := 102) hC dX3_distance_102 (by decide) ?_
          refine S_callV (pc := 103) hC (sX3_prepare l G) rfl wd_1064 wd_1066 ws_43 wd_8 wd_1067 (by decide +kernel) ⟨by rw [hRf]; decide, by rw [hRl]; decide⟩ dX3_distance_103 ?_
          unfold kX3_distance_106
          exact hJ 106
      · exact hJ 88
  have hB88 : zin 7 [] (aX3_distance_88 mc ms X Q) X 88 := by
    intro u v vs st M hb
    rw [hXe]
    refine fun lv hp => S_block (L := 88) (live := []) ?_ u v lv vs st M hp hb
    unfold aX3_distance_88
    refine S_iconst (pc := 88) hC dX3_distance_88 (by decide) ?_
    exact S_ireturn (pc := 89) hC hr dX3_distance_89
  have hB106 : zin 7 [0, 1, 2, 3, 4] (aX3_distance_106 mc ms X Q) X 106 := by
    intro u v vs st M hb
    rw [hXe]
    refine fun lv hp => S_block (L := 106) (live := [0, 1, 2, 3, 4]) ?_ u v lv vs st M hp hb
    unfold aX3_distance_106
    refine S_aload_n (pc := 106) hC dX3_distance_106 rfl ?_
    refine S_iload (pc := 107) hC dX3_distance_107 ?_
    refine S_callV (pc := 109) hC (sX3_prepare l G) rfl wd_1064 wd_1066 ws_43 wd_8 wd_1067 (by decide +kernel) ⟨by rw [hRf]; decide, by rw [hRl]; decide⟩ dX3_distance_109 ?_
    unfold kX3_distance_112
    refine S_iload_n (pc := 112) hC dX3_distance_112 rfl ?_
    refine S_if_ne (pc := 113) (tgt := 120) hC dX3_distance_113 (by decide) ?_ ?_
    · refine S_bipush (pc := 120) hC dX3_distance_120 (by decide) ?_
      exact hJ 122
    · refine S_iconst (pc := 116) hC dX3_distance_116 (by decide) ?_
      refine S_goto (pc := 117) (tgt := 122) hC dX3_distance_117 (by decide) ?_
      exact hJ 122
  have hB122 : zin 7 [0, 1, 2, 3, 4] (aX3_distance_122 mc ms X Q) X 122 := by
    intro u v vs st M hb
    rw [hXe]
    refine fun lv hp => S_block (L := 122) (live := [0, 1, 2, 3, 4]) ?_ u v lv vs st M hp hb
    unfold aX3_distance_122
    refine S_istore (pc := 122) hC dX3_distance_122 (by decide) ?_
    refine S_iload_n (pc := 124) hC dX3_distance_124 rfl ?_
    refine S_iload (pc := 125) hC dX3_distance_125 ?_
    refine S_ixor (pc := 127) hC dX3_distance_127 ?_
    refine S_bipush (pc := 128) hC dX3_distance_128 (by decide) ?_
    refine S_imul (pc := 130) hC dX3_distance_130 ?_
    refine S_aload_n (pc := 131) hC dX3_distance_131 rfl ?_
    refine S_iload_n (pc := 132) hC dX3_distance_132 rfl ?_
    refine S_callV (pc := 133) hC (sX0_kingOf l G) rfl wd_1159 wd_431 wd_432 wd_10 wd_433 (by decide +kernel) ⟨by rw [hRf]; decide, by rw [hRl]; decide⟩ dX3_distance_133 ?_
    unfold kX3_distance_136
    refine S_iload (pc := 136) hC dX3_distance_136 ?_
    refine S_ixor (pc := 138) hC dX3_distance_138 ?_
    refine S_iadd (pc := 139) hC dX3_distance_139 ?_
    refine S_istore (pc := 140) hC dX3_distance_140 (by decide) ?_
    refine S_aload_n (pc := 142) hC dX3_distance_142 rfl ?_
    refine S_getR (pc := 143) hC cfX3 (by decide) (Or.inr ⟨_, rfl⟩) wd_194 dX3_distance_143 ?_
    refine S_iload (pc := 146) hC dX3_distance_146 ?_
    refine S_aaloadR (pc := 148) hC dX3_distance_148 ?_
    refine S_iload (pc := 149) hC dX3_distance_149 ?_
    refine S_aload_n (pc := 151) hC dX3_distance_151 rfl ?_
    refine S_iconst (pc := 152) hC dX3_distance_152 (by decide) ?_
    refine S_iload_n (pc := 153) hC dX3_distance_153 rfl ?_
    refine S_isub (pc := 154) hC dX3_distance_154 ?_
    refine S_callV (pc := 155) hC (sX0_kingOf l G) rfl wd_1159 wd_431 wd_432 wd_10 wd_433 (by decide +kernel) ⟨by rw [hRf]; decide, by rw [hRl]; decide⟩ dX3_distance_155 ?_
    unfold kX3_distance_158
    refine S_iload (pc := 158) hC dX3_distance_158 ?_
    refine S_ixor (pc := 160) hC dX3_distance_160 ?_
    refine S_aload_n (pc := 161) hC dX3_distance_161 rfl ?_
    refine S_geti (pc := 162) hC cfX0 (by decide) (Or.inl rfl) wd_230 dX3_distance_162 ?_
    refine S_iload_n (pc := 165) hC dX3_distance_165 rfl ?_
    refine S_icmp_ne (pc := 166) (tgt := 173) hC dX3_distance_166 (by decide) ?_ ?_
    · refine S_iconst (pc := 173) hC dX3_distance_173 (by decide) ?_
      exact hJ 174
    · refine S_iconst (pc := 169) hC dX3_distance_169 (by decide) ?_
      refine S_goto (pc := 170) (tgt := 174) hC dX3_distance_170 (by decide) ?_
      exact hJ 174
  have hB174 : zin 7 [] (aX3_distance_174 mc ms X Q) X 174 := by
    intro u v vs st M hb
    rw [hXe]
    refine fun lv hp => S_block (L := 174) (live := []) ?_ u v lv vs st M hp hb
    unfold aX3_distance_174
    refine S_callV (pc := 174) hC (sX2_read l G) rfl wd_1160 wd_1161 wd_1162 wd_28 wd_1163 (by decide +kernel) ⟨by rw [hRf]; decide, by rw [hRl]; decide⟩ dX3_distance_174 ?_
    unfold kX3_distance_177
    exact S_ireturn (pc := 177) hC hr dX3_distance_177
  have := h.2 X hB0 hB15 hB35 hB88 hB106 hB122 hB174
  rw [hXe] at this
  exact this lv hlv
theorem dX3_nearer_0 : decode cX3_nearer 0 = .ok (.aload_n 0, 1) := by decide +kernel
theorem dX3_nearer_1 : decode cX3_nearer 1 = .ok (.aload_n 1, 1) := by decide +kernel
theorem dX3_nearer_2 : decode cX3_nearer 2 = .ok (.getfield 74, 3) := by decide +kernel
theorem dX3_nearer_5 : decode cX3_nearer 5 = .ok (.invokevirtual 80, 3) := by decide +kernel
theorem dX3_nearer_8 : decode cX3_nearer 8 = .ok (.istore_n 2, 1) := by decide +kernel
theorem dX3_nearer_9 : decode cX3_nearer 9 = .ok (.iload_n 2, 1) := by decide +kernel
theorem dX3_nearer_10 : decode cX3_nearer 10 = .ok (.ifCond .gt 5, 3) := by decide +kernel
theorem dX3_nearer_13 : decode cX3_nearer 13 = .ok (.iconst (-1), 1) := by decide +kernel
theorem dX3_nearer_14 : decode cX3_nearer 14 = .ok (.ireturn, 1) := by decide +kernel
theorem dX3_nearer_15 : decode cX3_nearer 15 = .ok (.iconst 0, 1) := by decide +kernel
theorem dX3_nearer_16 : decode cX3_nearer 16 = .ok (.istore_n 3, 1) := by decide +kernel
theorem dX3_nearer_17 : decode cX3_nearer 17 = .ok (.iload_n 3, 1) := by decide +kernel
theorem dX3_nearer_18 : decode cX3_nearer 18 = .ok (.aload_n 1, 1) := by decide +kernel
theorem dX3_nearer_19 : decode cX3_nearer 19 = .ok (.getfield 84, 3) := by decide +kernel
theorem dX3_nearer_22 : decode cX3_nearer 22 = .ok (.if_icmp .ge 55, 3) := by decide +kernel
theorem dX3_nearer_25 : decode cX3_nearer 25 = .ok (.aload_n 1, 1) := by decide +kernel
theorem dX3_nearer_26 : decode cX3_nearer 26 = .ok (.getfield 74, 3) := by decide +kernel
theorem dX3_nearer_29 : decode cX3_nearer 29 = .ok (.aload_n 1, 1) := by decide +kernel
theorem dX3_nearer_30 : decode cX3_nearer 30 = .ok (.getfield 87, 3) := by decide +kernel
theorem dX3_nearer_33 : decode cX3_nearer 33 = .ok (.iload_n 3, 1) := by decide +kernel
theorem dX3_nearer_34 : decode cX3_nearer 34 = .ok (.iaload, 1) := by decide +kernel
theorem dX3_nearer_35 : decode cX3_nearer 35 = .ok (.invokevirtual 90, 3) := by decide +kernel
theorem dX3_nearer_38 : decode cX3_nearer 38 = .ok (.aload_n 0, 1) := by decide +kernel
theorem dX3_nearer_39 : decode cX3_nearer 39 = .ok (.aload_n 1, 1) := by decide +kernel
theorem dX3_nearer_40 : decode cX3_nearer 40 = .ok (.getfield 74, 3) := by decide +kernel
theorem dX3_nearer_43 : decode cX3_nearer 43 = .ok (.invokevirtual 80, 3) := by decide +kernel
theorem dX3_nearer_46 : decode cX3_nearer 46 = .ok (.istore 4, 2) := by decide +kernel
theorem dX3_nearer_48 : decode cX3_nearer 48 = .ok (.aload_n 1, 1) := by decide +kernel
theorem dX3_nearer_49 : decode cX3_nearer 49 = .ok (.getfield 74, 3) := by decide +kernel
theorem dX3_nearer_52 : decode cX3_nearer 52 = .ok (.aload_n 1, 1) := by decide +kernel
theorem dX3_nearer_53 : decode cX3_nearer 53 = .ok (.getfield 87, 3) := by decide +kernel
theorem dX3_nearer_56 : decode cX3_nearer 56 = .ok (.iload_n 3, 1) := by decide +kernel
theorem dX3_nearer_57 : decode cX3_nearer 57 = .ok (.iaload, 1) := by decide +kernel
theorem dX3_nearer_58 : decode cX3_nearer 58 = .ok (.invokevirtual 93, 3) := by decide +kernel
theorem dX3_nearer_61 : decode cX3_nearer 61 = .ok (.iload 4, 2) := by decide +kernel
theorem dX3_nearer_63 : decode cX3_nearer 63 = .ok (.iload_n 2, 1) := by decide +kernel
theorem dX3_nearer_64 : decode cX3_nearer 64 = .ok (.iconst 1, 1) := by decide +kernel
theorem dX3_nearer_65 : decode cX3_nearer 65 = .ok (.isub, 1) := by decide +kernel
theorem dX3_nearer_66 : decode cX3_nearer 66 = .ok (.if_icmp .ne 5, 3) := by decide +kernel
theorem dX3_nearer_69 : decode cX3_nearer 69 = .ok (.iload_n 3, 1) := by decide +kernel
theorem dX3_nearer_70 : decode cX3_nearer 70 = .ok (.ireturn, 1) := by decide +kernel
theorem dX3_nearer_71 : decode cX3_nearer 71 = .ok (.iinc 3 1, 3) := by decide +kernel
theorem dX3_nearer_74 : decode cX3_nearer 74 = .ok (.goto (-57), 3) := by decide +kernel
theorem dX3_nearer_77 : decode cX3_nearer 77 = .ok (.iconst (-1), 1) := by decide +kernel
theorem dX3_nearer_78 : decode cX3_nearer 78 = .ok (.ireturn, 1) := by decide +kernel
def kX3_nearer_8 (mc ms : Nat) (X : Nat → zV) (Q : zQt) : zT :=
  zsi 2 <| zli 2 <| zif (fun x => 0 < x) (zc (.int 0) <| zsi 3 <| zj X 17 [0, 1, 2, 3]) <| zc (.int (-1)) <| zri Q
def kX3_nearer_61 (mc ms : Nat) (X : Nat → zV) (Q : zQt) : zT :=
  zli 4 <| zli 2 <| zc (.int 1) <| zii (fun x y => x - y) <| zic (fun x y => x = y) (zli 3 <| zri Q) <| zinc 3 1 <| zj X 17 [0, 1, 2, 3]
def kX3_nearer_46 (mc ms : Nat) (X : Nat → zV) (Q : zQt) : zT :=
  zsi 4 <| zla 1 <| zgR 4 0 <| zla 1 <| zgR 4 2 <| zli 3 <| zal 1 <| zcv mc ms 0 1 wX0_unmake <| kX3_nearer_61 mc ms X Q
def kX3_nearer_38 (mc ms : Nat) (X : Nat → zV) (Q : zQt) : zT :=
  zla 0 <| zla 1 <| zgR 4 0 <| zcv mc ms 3 1 wX3_distance <| kX3_nearer_46 mc ms X Q
def aX3_nearer_0 (mc ms : Nat) (X : Nat → zV) (Q : zQt) : zT :=
  zla 0 <| zla 1 <| zgR 4 0 <| zcv mc ms 3 1 wX3_distance <| kX3_nearer_8 mc ms X Q
def aX3_nearer_17 (mc ms : Nat) (X : Nat → zV) (Q : zQt) : zT :=
  zli 3 <| zla 1 <| zgi 4 3 <| zic (fun x y => y ≤ x) (zc (.int (-1)) <| zri Q) <| zla 1 <| zgR 4 0 <| zla 1 <| zgR 4 2 <| zli 3 <| zal 1 <| zcv mc ms 0 1 wX0_make <| kX3_nearer_38 mc ms X Q
def lvX3_nearer : Nat → List Nat := fun L => match L with
  | 0 => [0, 1]
  | 17 => [0, 1, 2, 3]
  | _ => []
def wX3_nearer : zSp := fun mc ms av M Q => ((zlay av).length ≤ 5 ∧ zpick (zlay av) [0, 1] = some av) ∧ ∀ X : Nat → zV, zin 5 [0, 1] (aX3_nearer_0 mc ms X Q) X 0 → zin 5 [0, 1, 2, 3] (aX3_nearer_17 mc ms X Q) X 17 → X 0 0 0 av [] M
set_option maxRecDepth 100000 in
set_option maxHeartbeats 4000000 in
theorem sX3_nearer (l : Launch) (G : zG) (hG : zStat G) : zSnd l G yX3_nearer cX3_nearer 5 (some .int) 6 158 wX3_nearer := by
  refine zmk [0, 1] (by decide) (fun mc ms av M Q h => h.1) ?_
  intro p e R s m args below meth c mc ms av M Q hC hRf hRl hr hnm h lv hlv
  obtain ⟨X, hXe⟩ : ∃ X : Nat → zV, X = fun L u v vs st M => ∀ lv, zpick lv (lvX3_nearer L) = some vs → zAt p l e R s m args below meth c (MQ below (zQ G Q) args s mc ms (zA G)) G 5 L u v lv st M := ⟨_, rfl⟩
  have hJ : ∀ L, zOk p l e R s m args below meth c (MQ below (zQ G Q) args s mc ms (zA G)) G 5 L (zj X L (lvX3_nearer L)) := fun L => S_jump (fun u v lv vs st M hp hx => by rw [hXe] at hx; exact hx lv hp)
  have hB0 : zin 5 [0, 1] (aX3_nearer_0 mc ms X Q) X 0 := by
    intro u v vs st M hb
    rw [hXe]
    refine fun lv hp => S_block (L := 0) (live := [0, 1]) ?_ u v lv vs st M hp hb
    unfold aX3_nearer_0
    refine S_aload_n (pc := 0) hC dX3_nearer_0 rfl ?_
    refine S_aload_n (pc := 1) hC dX3_nearer_1 rfl ?_
    refine S_getR (pc := 2) hC cfX4 (by decide) (Or.inl ⟨_, rfl⟩) wd_310 dX3_nearer_2 ?_
    refine S_callV (pc := 5) hC (sX3_distance l G) rfl wd_1175 wd_1057 wd_1058 wd_8 wd_1059 (by decide +kernel) ⟨by rw [hRf]; decide, by rw [hRl]; decide⟩ dX3_nearer_5 ?_
    unfold kX3_nearer_8
    refine S_istore_n (pc := 8) hC dX3_nearer_8 rfl (by decide) ?_
    refine S_iload_n (pc := 9) hC dX3_nearer_9 rfl ?_
    refine S_if_gt (pc := 10) (tgt := 15) hC dX3_nearer_10 (by decide) ?_ ?_
    · refine S_iconst (pc := 15) hC dX3_nearer_15 (by decide) ?_
      refine S_istore_n (pc := 16) hC dX3_nearer_16 rfl (by decide) ?_
      exact hJ 17
    · refine S_iconst (pc := 13) hC dX3_nearer_13 (by decide) ?_
      exact S_ireturn (pc := 14) hC hr dX3_nearer_14
  have hB17 : zin 5 [0, 1, 2, 3] (aX3_nearer_17 mc ms X Q) X 17 := by
    intro u v vs st M hb
    rw [hXe]
    refine fun lv hp => S_block (L := 17) (live := [0, 1, 2, 3]) ?_ u v lv vs st M hp hb
    unfold aX3_nearer_17
    refine S_iload_n (pc := 17) hC dX3_nearer_17 rfl ?_
    refine S_aload_n (pc := 18) hC dX3_nearer_18 rfl ?_
    refine S_geti (pc := 19) hC cfX4 (by decide) (Or.inl rfl) wd_323 dX3_nearer_19 ?_
    refine S_icmp_ge (pc := 22) (tgt := 77) hC dX3_nearer_22 (by decide) ?_ ?_
    · refine S_iconst (pc := 77) hC dX3_nearer_77 (by decide) ?_
      exact S_ireturn (pc := 78) hC hr dX3_nearer_78
    · refine S_aload_n (pc := 25) hC dX3_nearer_25 rfl ?_
      refine S_getR (pc := 26) hC cfX4 (by decide) (Or.inl ⟨_, rfl⟩) wd_310 dX3_nearer_26 ?_
      refine S_aload_n (pc := 29) hC dX3_nearer_29 rfl ?_
      refine S_getR (pc := 30) hC cfX4 (by decide) (Or.inr ⟨_, rfl⟩) wd_317 dX3_nearer_30 ?_
      refine S_iload_n (pc := 33) hC dX3_nearer_33 rfl ?_
      refine S_iaload (pc := 34) hC dX3_nearer_34 ?_
      refine S_callV (pc := 35) hC (sX0_make l G hG) rfl wd_1176 wd_812 wd_813 wd_10 wd_814 (by decide +kernel) ⟨by rw [hRf]; decide, by rw [hRl]; decide⟩ dX3_nearer_35 ?_
      unfold kX3_nearer_38
      refine S_aload_n (pc := 38) hC dX3_nearer_38 rfl ?_
      refine S_aload_n (pc := 39) hC dX3_nearer_39 rfl ?_
      refine S_getR (pc := 40) hC cfX4 (by decide) (Or.inl ⟨_, rfl⟩) wd_310 dX3_nearer_40 ?_
      refine S_callV (pc := 43) hC (sX3_distance l G) rfl wd_1175 wd_1057 wd_1058 wd_8 wd_1059 (by decide +kernel) ⟨by rw [hRf]; decide, by rw [hRl]; decide⟩ dX3_nearer_43 ?_
      unfold kX3_nearer_46
      refine S_istore (pc := 46) hC dX3_nearer_46 (by decide) ?_
      refine S_aload_n (pc := 48) hC dX3_nearer_48 rfl ?_
      refine S_getR (pc := 49) hC cfX4 (by decide) (Or.inl ⟨_, rfl⟩) wd_310 dX3_nearer_49 ?_
      refine S_aload_n (pc := 52) hC dX3_nearer_52 rfl ?_
      refine S_getR (pc := 53) hC cfX4 (by decide) (Or.inr ⟨_, rfl⟩) wd_317 dX3_nearer_53 ?_
      refine S_iload_n (pc := 56) hC dX3_nearer_56 rfl ?_
      refine S_iaload (pc := 57) hC dX3_nearer_57 ?_
      refine S_callV (pc := 58) hC (sX0_unmake l G hG) rfl wd_1177 wd_403 wd_404 wd_10 wd_405 (by decide +kernel) ⟨by rw [hRf]; decide, by rw [hRl]; decide⟩ dX3_nearer_58 ?_
      unfold kX3_nearer_61
      refine S_iload (pc := 61) hC dX3_nearer_61 ?_
      refine S_iload_n (pc := 63) hC dX3_nearer_63 rfl ?_
      refine S_iconst (pc := 64) hC dX3_nearer_64 (by decide) ?_
      refine S_isub (pc := 65) hC dX3_nearer_65 ?_
      refine S_icmp_ne (pc := 66) (tgt := 71) hC dX3_nearer_66 (by decide) ?_ ?_
      · refine S_iinc (pc := 71) hC dX3_nearer_71 (by decide) (by decide) ?_
        refine S_goto (pc := 74) (tgt := 17) hC dX3_nearer_74 (by decide) ?_
        exact hJ 17
      · refine S_iload_n (pc := 69) hC dX3_nearer_69 rfl ?_
        exact S_ireturn (pc := 70) hC hr dX3_nearer_70
  have := h.2 X hB0 hB17
  rw [hXe] at this
  exact this lv hlv
theorem vX3_nearer_0 {mc ms : Nat} {X : Nat → zV} {Q : zQt} {M : zM} {g : Nat}  (hW : zWd M g)  (h : wX3_distance 0 0 [.ref 33, .ref (g + 1)] M (fun r M1 => kX3_nearer_8 mc ms X Q 0 0 [some (.ref 33), some (.ref g), none, none, none] (r.toList ++ []) M1)) : aX3_nearer_0 mc ms X Q 0 0 [some (.ref 33), some (.ref g), none, none, none] [] M := ⟨(fgs_0 hW), (g + 1), (fgr_0_0 hW), ⟨Nat.le_of_ble_eq_true rfl, rfl, (fxs_33 hW.1), 0, 0, Nat.zero_le _, Nat.zero_le _, h⟩⟩
theorem vX3_nearer_17 {mc ms : Nat} {X : Nat → zV} {Q : zQt} {M : zM} {g : Nat} {x2 : Int32} {x3 : Int32} (hW : zWd M g)  (h : ((M.1 g 3) ≤ x3 → Q (some (.int ((-1)))) M) ∧ (¬ (M.1 g 3) ≤ x3 → vp_in x3 384 ∧ wX0_make 0 0 [.ref (g + 1), .int ((M : zM).1 ((g + 7)) (x3 : Int32).toNatClampNeg)] M (fun r M1 => kX3_nearer_38 mc ms X Q 0 0 [some (.ref 33), some (.ref g), some (.int x2), some (.int x3), none] (r.toList ++ []) M1))) : aX3_nearer_17 mc ms X Q 0 0 [some (.ref 33), some (.ref g), some (.int x2), some (.int x3), none] [] M := ⟨(fgs_0 hW), ⟨fun c22 => (h.1 c22), fun c22 => ⟨(fgs_0 hW), (g + 1), (fgr_0_0 hW), ⟨(fgs_0 hW), (g + 7), (fgr_0_2 hW), ⟨384, (fgs_7 hW), (h.2 c22).1, ⟨Nat.le_of_ble_eq_true rfl, rfl, (fgs_1 hW), 0, 0, Nat.zero_le _, Nat.zero_le _, (h.2 c22).2⟩⟩⟩⟩⟩⟩
theorem vkX3_nearer_8 {mc ms : Nat} {X : Nat → zV} {Q : zQt} {M : zM} {g : Nat} {s0 : Int32} (hW : zWd M g)  (h : (0 < s0 → X 17 0 0 [.ref 33, .ref g, .int s0, .int 0] [] M) ∧ (¬ 0 < s0 → Q (some (.int ((-1)))) M)) : kX3_nearer_8 mc ms X Q 0 0 [some (.ref 33), some (.ref g), none, none, none] [.int s0] M := ⟨fun c10 => (h.1 c10), fun c10 => (h.2 c10)⟩
theorem vkX3_nearer_38 {mc ms : Nat} {X : Nat → zV} {Q : zQt} {M : zM} {g : Nat} {x2 : Int32} {x3 : Int32} (hW : zWd M g)  (h : wX3_distance 0 0 [.ref 33, .ref (g + 1)] M (fun r M1 => kX3_nearer_46 mc ms X Q 0 0 [some (.ref 33), some (.ref g), some (.int x2), some (.int x3), none] (r.toList ++ []) M1)) : kX3_nearer_38 mc ms X Q 0 0 [some (.ref 33), some (.ref g), some (.int x2), some (.int x3), none] [] M := ⟨(fgs_0 hW), (g + 1), (fgr_0_0 hW), ⟨Nat.le_of_ble_eq_true rfl, rfl, (fxs_33 hW.1), 0, 0, Nat.zero_le _, Nat.zero_le _, h⟩⟩
theorem vkX3_nearer_46 {mc ms : Nat} {X : Nat → zV} {Q : zQt} {M : zM} {g : Nat} {x2 : Int32} {x3 : Int32} {s0 : Int32} (hW : zWd M g)  (h : vp_in x3 384 ∧ wX0_unmake 0 0 [.ref (g + 1), .int ((M : zM).1 ((g + 7)) (x3 : Int32).toNatClampNeg)] M (fun r M1 => kX3_nearer_61 mc ms X Q 0 0 [some (.ref 33), some (.ref g), some (.int x2), some (.int x3), some (.int s0)] (r.toList ++ []) M1)) : kX3_nearer_46 mc ms X Q 0 0 [some (.ref 33), some (.ref g), some (.int x2), some (.int x3), none] [.int s0] M := ⟨(fgs_0 hW), (g + 1), (fgr_0_0 hW), ⟨(fgs_0 hW), (g + 7), (fgr_0_2 hW), ⟨384, (fgs_7 hW), h.1, ⟨Nat.le_of_ble_eq_true rfl, rfl, (fgs_1 hW), 0, 0, Nat.zero_le _, Nat.zero_le _, h.2⟩⟩⟩⟩
theorem vkX3_nearer_61 {mc ms : Nat} {X : Nat → zV} {Q : zQt} {M : zM} {g : Nat} {x2 : Int32} {x3 : Int32} {x4 : Int32} (hW : zWd M g)  (h : (x4 = (x2 - (1 : Int32)) → Q (some (.int x3)) M) ∧ (¬ x4 = (x2 - (1 : Int32)) → X 17 0 0 [.ref 33, .ref g, .int x2, .int (x3 + 1)] [] M)) : kX3_nearer_61 mc ms X Q 0 0 [some (.ref 33), some (.ref g), some (.int x2), some (.int x3), some (.int x4)] [] M := ⟨fun c66 => (h.1 c66), fun c66 => (h.2 c66)⟩
theorem dX5_fill_0 : decode cX5_fill 0 = .ok (.aload_n 0, 1) := by decide +kernel
theorem dX5_fill_1 : decode cX5_fill 1 = .ok (.invokevirtual 19, 3) := by decide +kernel
theorem dX5_fill_4 : decode cX5_fill 4 = .ok (.iconst 0, 1) := by decide +kernel
theorem dX5_fill_5 : decode cX5_fill 5 = .ok (.istore 4, 2) := by decide +kernel
theorem dX5_fill_7 : decode cX5_fill 7 = .ok (.aload_n 0, 1) := by decide +kernel
theorem dX5_fill_8 : decode cX5_fill 8 = .ok (.getfield 9, 3) := by decide +kernel
theorem dX5_fill_11 : decode cX5_fill 11 = .ok (.getfield 22, 3) := by decide +kernel
theorem dX5_fill_14 : decode cX5_fill 14 = .ok (.aload_n 0, 1) := by decide +kernel
theorem dX5_fill_15 : decode cX5_fill 15 = .ok (.getfield 9, 3) := by decide +kernel
theorem dX5_fill_18 : decode cX5_fill 18 = .ok (.getfield 28, 3) := by decide +kernel
theorem dX5_fill_21 : decode cX5_fill 21 = .ok (.laload, 1) := by decide +kernel
theorem dX5_fill_22 : decode cX5_fill 22 = .ok (.lstore 5, 2) := by decide +kernel
theorem dX5_fill_24 : decode cX5_fill 24 = .ok (.lload 5, 2) := by decide +kernel
theorem dX5_fill_26 : decode cX5_fill 26 = .ok (.invokestatic 32, 3) := by decide +kernel
theorem dX5_fill_29 : decode cX5_fill 29 = .ok (.istore 7, 2) := by decide +kernel
theorem dX5_fill_31 : decode cX5_fill 31 = .ok (.iload 7, 2) := by decide +kernel
theorem dX5_fill_33 : decode cX5_fill 33 = .ok (.ifCond .le 250, 3) := by decide +kernel
theorem dX5_fill_36 : decode cX5_fill 36 = .ok (.iload 4, 2) := by decide +kernel
theorem dX5_fill_38 : decode cX5_fill 38 = .ok (.iload_n 3, 1) := by decide +kernel
theorem dX5_fill_39 : decode cX5_fill 39 = .ok (.if_icmp .ge 244, 3) := by decide +kernel
theorem dX5_fill_42 : decode cX5_fill 42 = .ok (.lload 5, 2) := by decide +kernel
theorem dX5_fill_44 : decode cX5_fill 44 = .ok (.invokestatic 38, 3) := by decide +kernel
theorem dX5_fill_47 : decode cX5_fill 47 = .ok (.istore 8, 2) := by decide +kernel
theorem dX5_fill_49 : decode cX5_fill 49 = .ok (.lload 5, 2) := by decide +kernel
theorem dX5_fill_51 : decode cX5_fill 51 = .ok (.lload 5, 2) := by decide +kernel
theorem dX5_fill_53 : decode cX5_fill 53 = .ok (.lconst 1, 1) := by decide +kernel
theorem dX5_fill_54 : decode cX5_fill 54 = .ok (.lsub, 1) := by decide +kernel
theorem dX5_fill_55 : decode cX5_fill 55 = .ok (.land, 1) := by decide +kernel
theorem dX5_fill_56 : decode cX5_fill 56 = .ok (.lstore 5, 2) := by decide +kernel
theorem dX5_fill_58 : decode cX5_fill 58 = .ok (.aload_n 0, 1) := by decide +kernel
theorem dX5_fill_59 : decode cX5_fill 59 = .ok (.getfield 41, 3) := by decide +kernel
theorem dX5_fill_62 : decode cX5_fill 62 = .ok (.iload 8, 2) := by decide +kernel
theorem dX5_fill_64 : decode cX5_fill 64 = .ok (.lushr, 1) := by decide +kernel
theorem dX5_fill_65 : decode cX5_fill 65 = .ok (.lconst 1, 1) := by decide +kernel
theorem dX5_fill_66 : decode cX5_fill 66 = .ok (.land, 1) := by decide +kernel
theorem dX5_fill_67 : decode cX5_fill 67 = .ok (.lconst 0, 1) := by decide +kernel
theorem dX5_fill_68 : decode cX5_fill 68 = .ok (.lcmp, 1) := by decide +kernel
theorem dX5_fill_69 : decode cX5_fill 69 = .ok (.ifCond .eq 7, 3) := by decide +kernel
theorem dX5_fill_72 : decode cX5_fill 72 = .ok (.iconst 1, 1) := by decide +kernel
theorem dX5_fill_73 : decode cX5_fill 73 = .ok (.goto 4, 3) := by decide +kernel
theorem dX5_fill_76 : decode cX5_fill 76 = .ok (.iconst 0, 1) := by decide +kernel
theorem dX5_fill_77 : decode cX5_fill 77 = .ok (.istore 9, 2) := by decide +kernel
theorem dX5_fill_79 : decode cX5_fill 79 = .ok (.aload_n 0, 1) := by decide +kernel
theorem dX5_fill_80 : decode cX5_fill 80 = .ok (.getfield 9, 3) := by decide +kernel
theorem dX5_fill_83 : decode cX5_fill 83 = .ok (.getfield 45, 3) := by decide +kernel
theorem dX5_fill_86 : decode cX5_fill 86 = .ok (.iload 8, 2) := by decide +kernel
theorem dX5_fill_88 : decode cX5_fill 88 = .ok (.iaload, 1) := by decide +kernel
theorem dX5_fill_89 : decode cX5_fill 89 = .ok (.iconst 1, 1) := by decide +kernel
theorem dX5_fill_90 : decode cX5_fill 90 = .ok (.bipush 6, 2) := by decide +kernel
theorem dX5_fill_92 : decode cX5_fill 92 = .ok (.aload_n 0, 1) := by decide +kernel
theorem dX5_fill_93 : decode cX5_fill 93 = .ok (.getfield 9, 3) := by decide +kernel
theorem dX5_fill_96 : decode cX5_fill 96 = .ok (.getfield 28, 3) := by decide +kernel
theorem dX5_fill_99 : decode cX5_fill 99 = .ok (.imul, 1) := by decide +kernel
theorem dX5_fill_100 : decode cX5_fill 100 = .ok (.iadd, 1) := by decide +kernel
theorem dX5_fill_101 : decode cX5_fill 101 = .ok (.if_icmp .ne 7, 3) := by decide +kernel
theorem dX5_fill_104 : decode cX5_fill 104 = .ok (.iconst 1, 1) := by decide +kernel
theorem dX5_fill_105 : decode cX5_fill 105 = .ok (.goto 4, 3) := by decide +kernel
theorem dX5_fill_108 : decode cX5_fill 108 = .ok (.iconst 0, 1) := by decide +kernel
theorem dX5_fill_109 : decode cX5_fill 109 = .ok (.istore 10, 2) := by decide +kernel
theorem dX5_fill_111 : decode cX5_fill 111 = .ok (.aload_n 0, 1) := by decide +kernel
theorem dX5_fill_112 : decode cX5_fill 112 = .ok (.iload 8, 2) := by decide +kernel
theorem dX5_fill_114 : decode cX5_fill 114 = .ok (.invokevirtual 49, 3) := by decide +kernel
theorem dX5_fill_117 : decode cX5_fill 117 = .ok (.lstore 11, 2) := by decide +kernel
theorem dX5_fill_119 : decode cX5_fill 119 = .ok (.iload 8, 2) := by decide +kernel
theorem dX5_fill_121 : decode cX5_fill 121 = .ok (.aload_n 0, 1) := by decide +kernel
theorem dX5_fill_122 : decode cX5_fill 122 = .ok (.getfield 53, 3) := by decide +kernel
theorem dX5_fill_125 : decode cX5_fill 125 = .ok (.if_icmp .ne 12, 3) := by decide +kernel
theorem dX5_fill_128 : decode cX5_fill 128 = .ok (.lload 11, 2) := by decide +kernel
theorem dX5_fill_130 : decode cX5_fill 130 = .ok (.aload_n 0, 1) := by decide +kernel
theorem dX5_fill_131 : decode cX5_fill 131 = .ok (.invokevirtual 56, 3) := by decide +kernel
theorem dX5_fill_134 : decode cX5_fill 134 = .ok (.lor, 1) := by decide +kernel
theorem dX5_fill_135 : decode cX5_fill 135 = .ok (.lstore 11, 2) := by decide +kernel
theorem dX5_fill_137 : decode cX5_fill 137 = .ok (.lload 11, 2) := by decide +kernel
theorem dX5_fill_139 : decode cX5_fill 139 = .ok (.invokestatic 32, 3) := by decide +kernel
theorem dX5_fill_142 : decode cX5_fill 142 = .ok (.istore 13, 2) := by decide +kernel
theorem dX5_fill_144 : decode cX5_fill 144 = .ok (.iload 13, 2) := by decide +kernel
theorem dX5_fill_146 : decode cX5_fill 146 = .ok (.ifCond .le 131, 3) := by decide +kernel
theorem dX5_fill_149 : decode cX5_fill 149 = .ok (.iload 4, 2) := by decide +kernel
theorem dX5_fill_151 : decode cX5_fill 151 = .ok (.iload_n 3, 1) := by decide +kernel
theorem dX5_fill_152 : decode cX5_fill 152 = .ok (.if_icmp .ge 125, 3) := by decide +kernel
theorem dX5_fill_155 : decode cX5_fill 155 = .ok (.lload 11, 2) := by decide +kernel
theorem dX5_fill_157 : decode cX5_fill 157 = .ok (.invokestatic 38, 3) := by decide +kernel
theorem dX5_fill_160 : decode cX5_fill 160 = .ok (.istore 14, 2) := by decide +kernel
theorem dX5_fill_162 : decode cX5_fill 162 = .ok (.lload 11, 2) := by decide +kernel
theorem dX5_fill_164 : decode cX5_fill 164 = .ok (.lload 11, 2) := by decide +kernel
theorem dX5_fill_166 : decode cX5_fill 166 = .ok (.lconst 1, 1) := by decide +kernel
theorem dX5_fill_167 : decode cX5_fill 167 = .ok (.lsub, 1) := by decide +kernel
theorem dX5_fill_168 : decode cX5_fill 168 = .ok (.land, 1) := by decide +kernel
theorem dX5_fill_169 : decode cX5_fill 169 = .ok (.lstore 11, 2) := by decide +kernel
theorem dX5_fill_171 : decode cX5_fill 171 = .ok (.iload 9, 2) := by decide +kernel
theorem dX5_fill_173 : decode cX5_fill 173 = .ok (.ifCond .eq 17, 3) := by decide +kernel
theorem dX5_fill_176 : decode cX5_fill 176 = .ok (.aload_n 0, 1) := by decide +kernel
theorem dX5_fill_177 : decode cX5_fill 177 = .ok (.iload 8, 2) := by decide +kernel
theorem dX5_fill_179 : decode cX5_fill 179 = .ok (.iload 14, 2) := by decide +kernel
theorem dX5_fill_181 : decode cX5_fill 181 = .ok (.invokevirtual 60, 3) := by decide +kernel
theorem dX5_fill_184 : decode cX5_fill 184 = .ok (.ifCond .eq 6, 3) := by decide +kernel
theorem dX5_fill_187 : decode cX5_fill 187 = .ok (.goto 84, 3) := by decide +kernel
theorem dX5_fill_190 : decode cX5_fill 190 = .ok (.iload 10, 2) := by decide +kernel
theorem dX5_fill_192 : decode cX5_fill 192 = .ok (.ifCond .eq 20, 3) := by decide +kernel
theorem dX5_fill_195 : decode cX5_fill 195 = .ok (.ldc2_w 64, 3) := by decide +kernel
theorem dX5_fill_198 : decode cX5_fill 198 = .ok (.iload 14, 2) := by decide +kernel
theorem dX5_fill_200 : decode cX5_fill 200 = .ok (.lushr, 1) := by decide +kernel
theorem dX5_fill_201 : decode cX5_fill 201 = .ok (.lconst 1, 1) := by decide +kernel
theorem dX5_fill_202 : decode cX5_fill 202 = .ok (.land, 1) := by decide +kernel
theorem dX5_fill_203 : decode cX5_fill 203 = .ok (.lconst 0, 1) := by decide +kernel
theorem dX5_fill_204 : decode cX5_fill 204 = .ok (.lcmp, 1) := by decide +kernel
theorem dX5_fill_205 : decode cX5_fill 205 = .ok (.ifCond .eq 7, 3) := by decide +kernel
theorem dX5_fill_208 : decode cX5_fill 208 = .ok (.iconst 1, 1) := by decide +kernel
theorem dX5_fill_209 : decode cX5_fill 209 = .ok (.goto 4, 3) := by decide +kernel
theorem dX5_fill_212 : decode cX5_fill 212 = .ok (.iconst 0, 1) := by decide +kernel
theorem dX5_fill_213 : decode cX5_fill 213 = .ok (.istore 15, 2) := by decide +kernel
theorem dX5_fill_215 : decode cX5_fill 215 = .ok (.iload 15, 2) := by decide +kernel
theorem dX5_fill_217 : decode cX5_fill 217 = .ok (.ifCond .eq 7, 3) := by decide +kernel
theorem dX5_fill_220 : decode cX5_fill 220 = .ok (.iconst 2, 1) := by decide +kernel
theorem dX5_fill_221 : decode cX5_fill 221 = .ok (.goto 4, 3) := by decide +kernel
theorem dX5_fill_224 : decode cX5_fill 224 = .ok (.iconst 0, 1) := by decide +kernel
theorem dX5_fill_225 : decode cX5_fill 225 = .ok (.istore 16, 2) := by decide +kernel
theorem dX5_fill_227 : decode cX5_fill 227 = .ok (.iload 16, 2) := by decide +kernel
theorem dX5_fill_229 : decode cX5_fill 229 = .ok (.iload 15, 2) := by decide +kernel
theorem dX5_fill_231 : decode cX5_fill 231 = .ok (.ifCond .eq 7, 3) := by decide +kernel
theorem dX5_fill_234 : decode cX5_fill 234 = .ok (.iconst 5, 1) := by decide +kernel
theorem dX5_fill_235 : decode cX5_fill 235 = .ok (.goto 4, 3) := by decide +kernel
theorem dX5_fill_238 : decode cX5_fill 238 = .ok (.iconst 0, 1) := by decide +kernel
theorem dX5_fill_239 : decode cX5_fill 239 = .ok (.if_icmp .gt 32, 3) := by decide +kernel
theorem dX5_fill_242 : decode cX5_fill 242 = .ok (.aload_n 1, 1) := by decide +kernel
theorem dX5_fill_243 : decode cX5_fill 243 = .ok (.iload_n 2, 1) := by decide +kernel
theorem dX5_fill_244 : decode cX5_fill 244 = .ok (.iload 4, 2) := by decide +kernel
theorem dX5_fill_246 : decode cX5_fill 246 = .ok (.iadd, 1) := by decide +kernel
theorem dX5_fill_247 : decode cX5_fill 247 = .ok (.iload 8, 2) := by decide +kernel
theorem dX5_fill_249 : decode cX5_fill 249 = .ok (.iload 14, 2) := by decide +kernel
theorem dX5_fill_251 : decode cX5_fill 251 = .ok (.bipush 6, 2) := by decide +kernel
theorem dX5_fill_253 : decode cX5_fill 253 = .ok (.ishl, 1) := by decide +kernel
theorem dX5_fill_254 : decode cX5_fill 254 = .ok (.ior, 1) := by decide +kernel
theorem dX5_fill_255 : decode cX5_fill 255 = .ok (.iload 16, 2) := by decide +kernel
theorem dX5_fill_257 : decode cX5_fill 257 = .ok (.bipush 12, 2) := by decide +kernel
theorem dX5_fill_259 : decode cX5_fill 259 = .ok (.ishl, 1) := by decide +kernel
theorem dX5_fill_260 : decode cX5_fill 260 = .ok (.ior, 1) := by decide +kernel
theorem dX5_fill_261 : decode cX5_fill 261 = .ok (.iastore, 1) := by decide +kernel
theorem dX5_fill_262 : decode cX5_fill 262 = .ok (.iinc 4 1, 3) := by decide +kernel
theorem dX5_fill_265 : decode cX5_fill 265 = .ok (.iinc 16 1, 3) := by decide +kernel
theorem dX5_fill_268 : decode cX5_fill 268 = .ok (.goto (-41), 3) := by decide +kernel
theorem dX5_fill_271 : decode cX5_fill 271 = .ok (.iinc 13 (-1), 3) := by decide +kernel
theorem dX5_fill_274 : decode cX5_fill 274 = .ok (.goto (-130), 3) := by decide +kernel
theorem dX5_fill_277 : decode cX5_fill 277 = .ok (.iinc 7 (-1), 3) := by decide +kernel
theorem dX5_fill_280 : decode cX5_fill 280 = .ok (.goto (-249), 3) := by decide +kernel
theorem dX5_fill_283 : decode cX5_fill 283 = .ok (.iload 4, 2) := by decide +kernel
theorem dX5_fill_285 : decode cX5_fill 285 = .ok (.ireturn, 1) := by decide +kernel
def kX5_fill_29 (mc ms : Nat) (X : Nat → zV) (Q : zQt) : zT :=
  zsi 7 <| zj X 31 [0, 1, 2, 3, 4, 5, 7]
def kX5_fill_24 (mc ms : Nat) (X : Nat → zV) (Q : zQt) : zT :=
  zll 5 <| zcs mc ms 1 wJ13_bitCount_95d88 <| kX5_fill_29 mc ms X Q
def kX5_fill_4 (mc ms : Nat) (X : Nat → zV) (Q : zQt) : zT :=
  zc (.int 0) <| zsi 4 <| zla 0 <| zgR 5 0 <| zgR 0 3 <| zla 0 <| zgR 5 0 <| zgi 0 4 <| zall <| zslN 5 <| kX5_fill_24 mc ms X Q
def kX5_fill_47 (mc ms : Nat) (X : Nat → zV) (Q : zQt) : zT :=
  zsi 8 <| zll 5 <| zll 5 <| zc (.long 1) <| zjj (fun x y => x - y) <| zjj (fun x y => x &&& y) <| zsl 5 <| zla 0 <| zgl 5 3 <| zli 8 <| zji (fun x y => (x.toUInt64 >>> (y.toInt64.toUInt64 &&& Int64.toUInt64 63)).toInt64) <| zc (.long 1) <| zjj (fun x y => x &&& y) <| zc (.long 0) <| zlc <| zif (fun x => x = 0) (zc (.int 0) <| zj X 77 [0, 1, 2, 3, 4, 5, 7, 8]) <| zc (.int 1) <| zj X 77 [0, 1, 2, 3, 4, 5, 7, 8]
def kX5_fill_134 (mc ms : Nat) (X : Nat → zV) (Q : zQt) : zT :=
  zjj (fun x y => x ||| y) <| zsl 11 <| zj X 137 [0, 1, 2, 3, 4, 5, 7, 8, 9, 10, 11]
def kX5_fill_117 (mc ms : Nat) (X : Nat → zV) (Q : zQt) : zT :=
  zsl 11 <| zli 8 <| zla 0 <| zgi 5 2 <| zic (fun x y => x = y) (zll 11 <| zla 0 <| zcv mc ms 5 0 wX5_castlings <| kX5_fill_134 mc ms X Q) <| zj X 137 [0, 1, 2, 3, 4, 5, 7, 8, 9, 10, 11]
def kX5_fill_142 (mc ms : Nat) (X : Nat → zV) (Q : zQt) : zT :=
  zsi 13 <| zj X 144 [0, 1, 2, 3, 4, 5, 7, 8, 9, 10, 11, 13]
def kX5_fill_184 (mc ms : Nat) (X : Nat → zV) (Q : zQt) : zT :=
  zif (fun x => x = 0) (zj X 190 [0, 1, 2, 3, 4, 5, 7, 8, 9, 10, 11, 13, 14]) <| zj X 271 [0, 1, 2, 3, 4, 5, 7, 8, 9, 10, 11, 13]
def kX5_fill_160 (mc ms : Nat) (X : Nat → zV) (Q : zQt) : zT :=
  zsi 14 <| zll 11 <| zll 11 <| zc (.long 1) <| zjj (fun x y => x - y) <| zjj (fun x y => x &&& y) <| zsl 11 <| zli 9 <| zif (fun x => x = 0) (zj X 190 [0, 1, 2, 3, 4, 5, 7, 8, 9, 10, 11, 13, 14]) <| zla 0 <| zli 8 <| zli 14 <| zcv mc ms 5 2 wX5_exposes <| kX5_fill_184 mc ms X Q
def aX5_fill_0 (mc ms : Nat) (X : Nat → zV) (Q : zQt) : zT :=
  zla 0 <| zcv mc ms 5 0 wX5_lookRound <| kX5_fill_4 mc ms X Q
def aX5_fill_31 (mc ms : Nat) (X : Nat → zV) (Q : zQt) : zT :=
  zli 7 <| zif (fun x => x ≤ 0) (zj X 283 [4]) <| zli 4 <| zli 3 <| zic (fun x y => y ≤ x) (zj X 283 [4]) <| zll 5 <| zcs mc ms 1 wX0_lowest <| kX5_fill_47 mc ms X Q
def aX5_fill_77 (mc ms : Nat) (X : Nat → zV) (Q : zQt) : zT :=
  zsi 9 <| zla 0 <| zgR 5 0 <| zgR 0 1 <| zli 8 <| zal 1 <| zc (.int 1) <| zc (.int 6) <| zla 0 <| zgR 5 0 <| zgi 0 4 <| zii (fun x y => x * y) <| zii (fun x y => x + y) <| zic (fun x y => x = y) (zc (.int 1) <| zj X 109 [0, 1, 2, 3, 4, 5, 7, 8, 9]) <| zc (.int 0) <| zj X 109 [0, 1, 2, 3, 4, 5, 7, 8, 9]
def aX5_fill_109 (mc ms : Nat) (X : Nat → zV) (Q : zQt) : zT :=
  zsi 10 <| zla 0 <| zli 8 <| zcv mc ms 5 1 wX5_goals <| kX5_fill_117 mc ms X Q
def aX5_fill_137 (mc ms : Nat) (X : Nat → zV) (Q : zQt) : zT :=
  zll 11 <| zcs mc ms 1 wJ13_bitCount_95d88 <| kX5_fill_142 mc ms X Q
def aX5_fill_144 (mc ms : Nat) (X : Nat → zV) (Q : zQt) : zT :=
  zli 13 <| zif (fun x => x ≤ 0) (zj X 277 [0, 1, 2, 3, 4, 5, 7]) <| zli 4 <| zli 3 <| zic (fun x y => y ≤ x) (zj X 277 [0, 1, 2, 3, 4, 5, 7]) <| zll 11 <| zcs mc ms 1 wX0_lowest <| kX5_fill_160 mc ms X Q
def aX5_fill_190 (mc ms : Nat) (X : Nat → zV) (Q : zQt) : zT :=
  zli 10 <| zif (fun x => x = 0) (zj X 212 [0, 1, 2, 3, 4, 5, 7, 8, 9, 10, 11, 13, 14]) <| zc (.long (-72057594037927681)) <| zli 14 <| zji (fun x y => (x.toUInt64 >>> (y.toInt64.toUInt64 &&& Int64.toUInt64 63)).toInt64) <| zc (.long 1) <| zjj (fun x y => x &&& y) <| zc (.long 0) <| zlc <| zif (fun x => x = 0) (zj X 212 [0, 1, 2, 3, 4, 5, 7, 8, 9, 10, 11, 13, 14]) <| zc (.int 1) <| zj X 213 [0, 1, 2, 3, 4, 5, 7, 8, 9, 10, 11, 13, 14]
def aX5_fill_212 (mc ms : Nat) (X : Nat → zV) (Q : zQt) : zT :=
  zc (.int 0) <| zj X 213 [0, 1, 2, 3, 4, 5, 7, 8, 9, 10, 11, 13, 14]
def aX5_fill_213 (mc ms : Nat) (X : Nat → zV) (Q : zQt) : zT :=
  zsi 15 <| zli 15 <| zif (fun x => x = 0) (zc (.int 0) <| zj X 225 [0, 1, 2, 3, 4, 5, 7, 8, 9, 10, 11, 13, 14, 15]) <| zc (.int 2) <| zj X 225 [0, 1, 2, 3, 4, 5, 7, 8, 9, 10, 11, 13, 14, 15]
def aX5_fill_225 (mc ms : Nat) (X : Nat → zV) (Q : zQt) : zT :=
  zsi 16 <| zj X 227 [0, 1, 2, 3, 4, 5, 7, 8, 9, 10, 11, 13, 14, 15, 16]
def aX5_fill_227 (mc ms : Nat) (X : Nat → zV) (Q : zQt) : zT :=
  zli 16 <| zli 15 <| zif (fun x => x = 0) (zc (.int 0) <| zj X 239 [0, 1, 2, 3, 4, 5, 7, 8, 9, 10, 11, 13, 14, 15, 16]) <| zc (.int 5) <| zj X 239 [0, 1, 2, 3, 4, 5, 7, 8, 9, 10, 11, 13, 14, 15, 16]
def aX5_fill_239 (mc ms : Nat) (X : Nat → zV) (Q : zQt) : zT :=
  zic (fun x y => y < x) (zj X 271 [0, 1, 2, 3, 4, 5, 7, 8, 9, 10, 11, 13]) <| zla 1 <| zli 2 <| zli 4 <| zii (fun x y => x + y) <| zli 8 <| zli 14 <| zc (.int 6) <| zii (fun x y => x <<< (y &&& 31)) <| zii (fun x y => x ||| y) <| zli 16 <| zc (.int 12) <| zii (fun x y => x <<< (y &&& 31)) <| zii (fun x y => x ||| y) <| zas 1 (fun x => x) <| zinc 4 1 <| zinc 16 1 <| zj X 227 [0, 1, 2, 3, 4, 5, 7, 8, 9, 10, 11, 13, 14, 15, 16]
def aX5_fill_271 (mc ms : Nat) (X : Nat → zV) (Q : zQt) : zT :=
  zinc 13 (-1) <| zj X 144 [0, 1, 2, 3, 4, 5, 7, 8, 9, 10, 11, 13]
def aX5_fill_277 (mc ms : Nat) (X : Nat → zV) (Q : zQt) : zT :=
  zinc 7 (-1) <| zj X 31 [0, 1, 2, 3, 4, 5, 7]
def aX5_fill_283 (mc ms : Nat) (X : Nat → zV) (Q : zQt) : zT :=
  zli 4 <| zri Q
def lvX5_fill : Nat → List Nat := fun L => match L with
  | 0 => [0, 1, 2, 3]
  | 31 => [0, 1, 2, 3, 4, 5, 7]
  | 77 => [0, 1, 2, 3, 4, 5, 7, 8]
  | 109 => [0, 1, 2, 3, 4, 5, 7, 8, 9]
  | 137 => [0, 1, 2, 3, 4, 5, 7, 8, 9, 10, 11]
  | 144 => [0, 1, 2, 3, 4, 5, 7, 8, 9, 10, 11, 13]
  | 190 => [0, 1, 2, 3, 4, 5, 7, 8, 9, 10, 11, 13, 14]
  | 212 => [0, 1, 2, 3, 4, 5, 7, 8, 9, 10, 11, 13, 14]
  | 213 => [0, 1, 2, 3, 4, 5, 7, 8, 9, 10, 11, 13, 14]
  | 225 => [0, 1, 2, 3, 4, 5, 7, 8, 9, 10, 11, 13, 14, 15]
  | 227 => [0, 1, 2, 3, 4, 5, 7, 8, 9, 10, 11, 13, 14, 15, 16]
  | 239 => [0, 1, 2, 3, 4, 5, 7, 8, 9, 10, 11, 13, 14, 15, 16]
  | 271 => [0, 1, 2, 3, 4, 5, 7, 8, 9, 10, 11, 13]
  | 277 => [0, 1, 2, 3, 4, 5, 7]
  | 283 => [4]
  | _ => []
def wX5_fill : zSp := fun mc ms av M Q => ((zlay av).length ≤ 17 ∧ zpick (zlay av) [0, 1, 2, 3] = some av) ∧ ∀ X : Nat → zV, zin 17 [0, 1, 2, 3] (aX5_fill_0 mc ms X Q) X 0 → zin 17 [0, 1, 2, 3, 4, 5, 7] (aX5_fill_31 mc ms X Q) X 31 → zin 17 [0, 1, 2, 3, 4, 5, 7, 8] (aX5_fill_77 mc ms X Q) X 77 → zin 17 [0, 1, 2, 3, 4, 5, 7, 8, 9] (aX5_fill_109 mc ms X Q) X 109 → zin 17 [0, 1, 2, 3, 4, 5, 7, 8, 9, 10, 11] (aX5_fill_137 mc ms X Q) X 137 → zin 17 [0, 1, 2, 3, 4, 5, 7, 8, 9, 10, 11, 13] (aX5_fill_144 mc ms X Q) X 144 → zin 17 [0, 1, 2, 3, 4, 5, 7, 8, 9, 10, 11, 13, 14] (aX5_fill_190 mc ms X Q) X 190 → zin 17 [0, 1, 2, 3, 4, 5, 7, 8, 9, 10, 11, 13, 14] (aX5_fill_212 mc ms X Q) X 212 → zin 17 [0, 1, 2, 3, 4, 5, 7, 8, 9, 10, 11, 13, 14] (aX5_fill_213 mc ms X Q) X 213 → zin 17 [0, 1, 2, 3, 4, 5, 7, 8, 9, 10, 11, 13, 14, 15] (aX5_fill_225 mc ms X Q) X 225 → zin 17 [0, 1, 2, 3, 4, 5, 7, 8, 9, 10, 11, 13, 14, 15, 16] (aX5_fill_227 mc ms X Q) X 227 → zin 17 [0, 1, 2, 3, 4, 5, 7, 8, 9, 10, 11, 13, 14, 15, 16] (aX5_fill_239 mc ms X Q) X 239 → zin 17 [0, 1, 2, 3, 4, 5, 7, 8, 9, 10, 11, 13] (aX5_fill_271 mc ms X Q) X 271 → zin 17 [0, 1, 2, 3, 4, 5, 7] (aX5_fill_277 mc ms X Q) X 277 → zin 17 [4] (aX5_fill_283 mc ms X Q) X 283 → X 0 0 0 av [] M
set_option maxRecDepth 100000 in
set_option maxHeartbeats 4000000 in
theorem sX5_fill (l : Launch) (G : zG) : zSnd l G yX5_fill cX5_fill 17 (some .int) 4 95 wX5_fill := by
  refine zmk [0, 1, 2, 3] (by decide) (fun mc ms av M Q h => h.1) ?_
  intro p e R s m args below meth c mc ms av M Q hC hRf hRl hr hnm h lv hlv
  obtain ⟨X, hXe⟩ : ∃ X : Nat → zV, X = fun L u v vs st M => ∀ lv, zpick lv (lvX5_fill L) = some vs → zAt p l e R s m args below meth c (MQ below (zQ G Q) args s mc ms (zA G)) G 17 L u v lv st M := ⟨_, rfl⟩
  have hJ : ∀ L, zOk p l e R s m args below meth c (MQ below (zQ G Q) args s mc ms (zA G)) G 17 L (zj X L (lvX5_fill L)) := fun L => S_jump (fun u v lv vs st M hp hx => by rw [hXe] at hx; exact hx lv hp)
  have hB0 : zin 17 [0, 1, 2, 3] (aX5_fill_0 mc ms X Q) X 0 := by
    intro u v vs st M hb
    rw [hXe]
    refine fun lv hp => S_block (L := 0) (live := [0, 1, 2, 3]) ?_ u v lv vs st M hp hb
    unfold aX5_fill_0
    refine S_aload_n (pc := 0) hC dX5_fill_0 rfl ?_
    refine S_callV (pc := 1) hC (sX5_lookRound l G) rfl wd_426 wd_428 ws_1 wd_11 wd_429 (by decide +kernel) ⟨by rw [hRf]; decide, by rw [hRl]; decide⟩ dX5_fill_1 ?_
    unfold kX5_fill_4
    refine S_iconst (pc := 4) hC dX5_fill_4 (by decide) ?_
    refine S_istore (pc := 5) hC dX5_fill_5 (by decide) ?_
    refine S_aload_n (pc := 7) hC dX5_fill_7 rfl ?_
    refine S_getR (pc := 8) hC cfX5 (by decide) (Or.inl ⟨_, rfl⟩) wd_294 dX5_fill_8 ?_
    refine S_getR (pc := 11) hC cfX0 (by decide) (Or.inr ⟨_, rfl⟩) wd_226 dX5_fill_11 ?_
    refine S_aload_n (pc := 14) hC dX5_fill_14 rfl ?_
    refine S_getR (pc := 15) hC cfX5 (by decide) (Or.inl ⟨_, rfl⟩) wd_294 dX5_fill_15 ?_
    refine S_geti (pc := 18) hC cfX0 (by decide) (Or.inl rfl) wd_228 dX5_fill_18 ?_
    refine S_laload (pc := 21) hC dX5_fill_21 ?_
    refine S_lstore_N (pc := 22) hC dX5_fill_22 (by decide) ?_
    unfold kX5_fill_24
    refine S_lload (pc := 24) hC dX5_fill_24 ?_
    refine S_callS (pc := 26) hC (sJ13_bitCount_95d88 l G) wd_456 wd_438 wd_25 wd_439 (by decide +kernel) ⟨by rw [hRf]; decide, by rw [hRl]; decide⟩ dX5_fill_26 ?_
    unfold kX5_fill_29
    refine S_istore (pc := 29) hC dX5_fill_29 (by decide) ?_
    exact hJ 31
  have hB31 : zin 17 [0, 1, 2, 3, 4, 5, 7] (aX5_fill_31 mc ms X Q) X 31 := by
    intro u v vs st M hb
    rw [hXe]
    refine fun lv hp => S_block (L := 31) (live := [0, 1, 2, 3, 4, 5, 7]) ?_ u v lv vs st M hp hb
    unfold aX5_fill_31
    refine S_iload (pc := 31) hC dX5_fill_31 ?_
    refine S_if_le (pc := 33) (tgt := 283) hC dX5_fill_33 (by decide) ?_ ?_
    · exact hJ 283
    · refine S_iload (pc := 36) hC dX5_fill_36 ?_
      refine S_iload_n (pc := 38) hC dX5_fill_38 rfl ?_
      refine S_icmp_ge (pc := 39) (tgt := 283) hC dX5_fill_39 (by decide) ?_ ?_
      · exact hJ 283
      · refine S_lload (pc := 42) hC dX5_fill_42 ?_
        refine S_callS (pc := 44) hC (sX0_lowest l G) wd_457 wd_435 wd_10 wd_436 (by decide +kernel) ⟨by rw [hRf]; decide, by rw [hRl]; decide⟩ dX5_fill_44 ?_
        unfold kX5_fill_47
        refine S_istore (pc := 47) hC dX5_fill_47 (by decide) ?_
        refine S_lload (pc := 49) hC dX5_fill_49 ?_
        refine S_lload (pc := 51) hC dX5_fill_51 ?_
        refine S_lconst (pc := 53) hC dX5_fill_53 (by decide) ?_
        refine S_lsub (pc := 54) hC dX5_fill_54 ?_
        refine S_land (pc := 55) hC dX5_fill_55 ?_
        refine S_lstore (pc := 56) hC dX5_fill_56 (by decide) ?_
        refine S_aload_n (pc := 58) hC dX5_fill_58 rfl ?_
        refine S_getl (pc := 59) hC cfX5 (by decide) rfl wd_297 dX5_fill_59 ?_
        refine S_iload (pc := 62) hC dX5_fill_62 ?_
        refine S_lushr (pc := 64) hC dX5_fill_64 ?_
        refine S_lconst (pc := 65) hC dX5_fill_65 (by decide) ?_
        refine S_land (pc := 66) hC dX5_fill_66 ?_
        refine S_lconst (pc := 67) hC dX5_fill_67 (by decide) ?_
        refine S_lcmp (pc := 68) hC dX5_fill_68 ?_
        refine S_if_eq (pc := 69) (tgt := 76) hC dX5_fill_69 (by decide) ?_ ?_
        · refine S_iconst (pc := 76) hC dX5_fill_76 (by decide) ?_
          exact hJ 77
        · refine S_iconst (pc := 72) hC dX5_fill_72 (by decide) ?_
          refine S_goto (pc := 73) (tgt := 77) hC dX5_fill_73 (by decide) ?_
          exact hJ 77
  have hB77 : zin 17 [0, 1, 2, 3, 4, 5, 7, 8] (aX5_fill_77 mc ms X Q) X 77 := by
    intro u v vs st M hb
    rw [hXe]
    refine fun lv hp => S_block (L := 77) (live := [0, 1, 2, 3, 4, 5, 7, 8]) ?_ u v lv vs st M hp hb
    unfold aX5_fill_77
    refine S_istore (pc := 77) hC dX5_fill_77 (by decide) ?_
    refine S_aload_n (pc := 79) hC dX5_fill_79 rfl ?_
    refine S_getR (pc := 80) hC cfX5 (by decide) (Or.inl ⟨_, rfl⟩) wd_294 dX5_fill_80 ?_
    refine S_getR (pc := 83) hC cfX0 (by decide) (Or.inr ⟨_, rfl⟩) wd_215 dX5_fill_83 ?_
    refine S_iload (pc := 86) hC dX5_fill_86 ?_
    refine S_iaload (pc := 88) hC dX5_fill_88 ?_
    refine S_iconst (pc := 89) hC dX5_fill_89 (by decide) ?_
    refine S_bipush (pc := 90) hC dX5_fill_90 (by decide) ?_
    refine S_aload_n (pc := 92) hC dX5_fill_92 rfl ?_
    refine S_getR (pc := 93) hC cfX5 (by decide) (Or.inl ⟨_, rfl⟩) wd_294 dX5_fill_93 ?_
    refine S_geti (pc := 96) hC cfX0 (by decide) (Or.inl rfl) wd_228 dX5_fill_96 ?_
    refine S_imul (pc := 99) hC dX5_fill_99 ?_
    refine S_iadd (pc := 100) hC dX5_fill_100 ?_
    refine S_icmp_ne (pc := 101) (tgt := 108) hC dX5_fill_101 (by decide) ?_ ?_
    · refine S_iconst (pc := 108) hC dX5_fill_108 (by decide) ?_
      exact hJ 109
    · refine S_iconst (pc := 104) hC dX5_fill_104 (by decide) ?_
      refine S_goto (pc := 105) (tgt := 109) hC dX5_fill_105 (by decide) ?_
      exact hJ 109
  have hB109 : zin 17 [0, 1, 2, 3, 4, 5, 7, 8, 9] (aX5_fill_109 mc ms X Q) X 109 := by
    intro u v vs st M hb
    rw [hXe]
    refine fun lv hp => S_block (L := 109) (live := [0, 1, 2, 3, 4, 5, 7, 8, 9]) ?_ u v lv vs st M hp hb
    unfold aX5_fill_109
    refine S_istore (pc := 109) hC dX5_fill_109 (by decide) ?_
    refine S_aload_n (pc := 111) hC dX5_fill_111 rfl ?_
    refine S_iload (pc := 112) hC dX5_fill_112 ?_
    refine S_callV (pc := 114) hC (sX5_goals l G) rfl wd_458 wd_460 ws_2 wd_11 wd_461 (by decide +kernel) ⟨by rw [hRf]; decide, by rw [hRl]; decide⟩ dX5_fill_114 ?_
    unfold kX5_fill_117
    refine S_lstore (pc := 117) hC dX5_fill_117 (by decide) ?_
    refine S_iload (pc := 119) hC dX5_fill_119 ?_
    refine S_aload_n (pc := 121) hC dX5_fill_121 rfl ?_
    refine S_geti (pc := 122) hC cfX5 (by decide) (Or.inl rfl) wd_296 dX5_fill_122 ?_
    refine S_icmp_ne (pc := 125) (tgt := 137) hC dX5_fill_125 (by decide) ?_ ?_
    · exact hJ 137
    · refine S_lload (pc := 128) hC dX5_fill_128 ?_
      refine S_aload_n (pc := 130) hC dX5_fill_130 rfl ?_
      refine S_callV (pc := 131) hC (sX5_castlings l G) rfl wd_472 wd_474 ws_5 wd_11 wd_475 (by decide +kernel) ⟨by rw [hRf]; decide, by rw [hRl]; decide⟩ dX5_fill_131 ?_
      unfold kX5_fill_134
      refine S_lor (pc := 134) hC dX5_fill_134 ?_
      refine S_lstore (pc := 135) hC dX5_fill_135 (by decide) ?_
      exact hJ 137
  have hB137 : zin 17 [0, 1, 2, 3, 4, 5, 7, 8, 9, 10, 11] (aX5_fill_137 mc ms X Q) X 137 := by
    intro u v vs st M hb
    rw [hXe]
    refine fun lv hp => S_block (L := 137) (live := [0, 1, 2, 3, 4, 5, 7, 8, 9, 10, 11]) ?_ u v lv vs st M hp hb
    unfold aX5_fill_137
    refine S_lload (pc := 137) hC dX5_fill_137 ?_
    refine S_callS (pc := 139) hC (sJ13_bitCount_95d88 l G) wd_456 wd_438 wd_25 wd_439 (by decide +kernel) ⟨by rw [hRf]; decide, by rw [hRl]; decide⟩ dX5_fill_139 ?_
    unfold kX5_fill_142
    refine S_istore (pc := 142) hC dX5_fill_142 (by decide) ?_
    exact hJ 144
  have hB144 : zin 17 [0, 1, 2, 3, 4, 5, 7, 8, 9, 10, 11, 13] (aX5_fill_144 mc ms X Q) X 144 := by
    intro u v vs st M hb
    rw [hXe]
    refine fun lv hp => S_block (L := 144) (live := [0, 1, 2, 3, 4, 5, 7, 8, 9, 10, 11, 13]) ?_ u v lv vs st M hp hb
    unfold aX5_fill_144
    refine S_iload (pc := 144) hC dX5_fill_144 ?_
    refine S_if_le (pc := 146) (tgt := 277) hC dX5_fill_146 (by decide) ?_ ?_
    · exact hJ 277
    · refine S_iload (pc := 149) hC dX5_fill_149 ?_
      refine S_iload_n (pc := 151) hC dX5_fill_151 rfl ?_
      refine S_icmp_ge (pc := 152) (tgt := 277) hC dX5_fill_152 (by decide) ?_ ?_
      · exact hJ 277
      · refine S_lload (pc := 155) hC dX5_fill_155 ?_
        refine S_callS (pc := 157) hC (sX0_lowest l G) wd_457 wd_435 wd_10 wd_436 (by decide +kernel) ⟨by rw [hRf]; decide, by rw [hRl]; decide⟩ dX5_fill_157 ?_
        unfold kX5_fill_160
        refine S_istore (pc := 160) hC dX5_fill_160 (by decide) ?_
        refine S_lload (pc := 162) hC dX5_fill_162 ?_
        refine S_lload (pc := 164) hC dX5_fill_164 ?_
        refine S_lconst (pc := 166) hC dX5_fill_166 (by decide) ?_
        refine S_lsub (pc := 167) hC dX5_fill_167 ?_
        refine S_land (pc := 168) hC dX5_fill_168 ?_
        refine S_lstore (pc := 169) hC dX5_fill_169 (by decide) ?_
        refine S_iload (pc := 171) hC dX5_fill_171 ?_
        refine S_if_eq (pc := 173) (tgt := 190) hC dX5_fill_173 (by decide) ?_ ?_
        · exact hJ 190
        · refine S_aload_n (pc := 176) hC dX5_fill_176 rfl ?_
          refine S_iload (pc := 177) hC dX5_fill_177 ?_
          refine S_iload (pc := 179) hC dX5_fill_179 ?_
          refine S_callV (pc := 181) hC (sX5_exposes l G) rfl wd_478 wd_480 ws_6 wd_11 wd_481 (by decide +kernel) ⟨by rw [hRf]; decide, by rw [hRl]; decide⟩ dX5_fill_181 ?_
          unfold kX5_fill_184
          refine S_if_eq (pc := 184) (tgt := 190) hC dX5_fill_184 (by decide) ?_ ?_
          · exact hJ 190
          · refine S_goto (pc := 187) (tgt := 271) hC dX5_fill_187 (by decide) ?_
            exact hJ 271
  have hB190 : zin 17 [0, 1, 2, 3, 4, 5, 7, 8, 9, 10, 11, 13, 14] (aX5_fill_190 mc ms X Q) X 190 := by
    intro u v vs st M hb
    rw [hXe]
    refine fun lv hp => S_block (L := 190) (live := [0, 1, 2, 3, 4, 5, 7, 8, 9, 10, 11, 13, 14]) ?_ u v lv vs st M hp hb
    unfold aX5_fill_190
    refine S_iload (pc := 190) hC dX5_fill_190 ?_
    refine S_if_eq (pc := 192) (tgt := 212) hC dX5_fill_192 (by decide) ?_ ?_
    · exact hJ 212
    · refine S_ldc2 (pc := 195) hC wd_486 dX5_fill_195 ?_
      refine S_iload (pc := 198) hC dX5_fill_198 ?_
      refine S_lushr (pc := 200) hC dX5_fill_200 ?_
      refine S_lconst (pc := 201) hC dX5_fill_201 (by decide) ?_
      refine S_land (pc := 202) hC dX5_fill_202 ?_
      refine S_lconst (pc := 203) hC dX5_fill_203 (by decide) ?_
      refine S_lcmp (pc := 204) hC dX5_fill_204 ?_
      refine S_if_eq (pc := 205) (tgt := 212) hC dX5_fill_205 (by decide) ?_ ?_
      · exact hJ 212
      · refine S_iconst (pc := 208) hC dX5_fill_208 (by decide) ?_
        refine S_goto (pc := 209) (tgt := 213) hC dX5_fill_209 (by decide) ?_
        exact hJ 213
  have hB212 : zin 17 [0, 1, 2, 3, 4, 5, 7, 8, 9, 10, 11, 13, 14] (aX5_fill_212 mc ms X Q) X 212 := by
    intro u v vs st M hb
    rw [hXe]
    refine fun lv hp => S_block (L := 212) (live := [0, 1, 2, 3, 4, 5, 7, 8, 9, 10, 11, 13, 14]) ?_ u v lv vs st M hp hb
    unfold aX5_fill_212
    refine S_iconst (pc := 212) hC dX5_fill_212 (by decide) ?_
    exact hJ 213
  have hB213 : zin 17 [0, 1, 2, 3, 4, 5, 7, 8, 9, 10, 11, 13, 14] (aX5_fill_213 mc ms X Q) X 213 := by
    intro u v vs st M hb
    rw [hXe]
    refine fun lv hp => S_block (L := 213) (live := [0, 1, 2, 3, 4, 5, 7, 8, 9, 10, 11, 13, 14]) ?_ u v lv vs st M hp hb
    unfold aX5_fill_213
    refine S_istore (pc := 213) hC dX5_fill_213 (by decide) ?_
    refine S_iload (pc := 215) hC dX5_fill_215 ?_
    refine S_if_eq (pc := 217) (tgt := 224) hC dX5_fill_217 (by decide) ?_ ?_
    · refine S_iconst (pc := 224) hC dX5_fill_224 (by decide) ?_
      exact hJ 225
    · refine S_iconst (pc := 220) hC dX5_fill_220 (by decide) ?_
      refine S_goto (pc := 221) (tgt := 225) hC dX5_fill_221 (by decide) ?_
      exact hJ 225
  have hB225 : zin 17 [0, 1, 2, 3, 4, 5, 7, 8, 9, 10, 11, 13, 14, 15] (aX5_fill_225 mc ms X Q) X 225 := by
    intro u v vs st M hb
    rw [hXe]
    refine fun lv hp => S_block (L := 225) (live := [0, 1, 2, 3, 4, 5, 7, 8, 9, 10, 11, 13, 14, 15]) ?_ u v lv vs st M hp hb
    unfold aX5_fill_225
    refine S_istore (pc := 225) hC dX5_fill_225 (by decide) ?_
    exact hJ 227
  have hB227 : zin 17 [0, 1, 2, 3, 4, 5, 7, 8, 9, 10, 11, 13, 14, 15, 16] (aX5_fill_227 mc ms X Q) X 227 := by
    intro u v vs st M hb
    rw [hXe]
    refine fun lv hp => S_block (L := 227) (live := [0, 1, 2, 3, 4, 5, 7, 8, 9, 10, 11, 13, 14, 15, 16]) ?_ u v lv vs st M hp hb
    unfold aX5_fill_227
    refine S_iload (pc := 227) hC dX5_fill_227 ?_
    refine S_iload (pc := 229) hC dX5_fill_229 ?_
    refine S_if_eq (pc := 231) (tgt := 238) hC dX5_fill_231 (by decide) ?_ ?_
    · refine S_iconst (pc := 238) hC dX5_fill_238 (by decide) ?_
      exact hJ 239
    · refine S_iconst (pc := 234) hC dX5_fill_234 (by decide) ?_
      refine S_goto (pc := 235) (tgt := 239) hC dX5_fill_235 (by decide) ?_
      exact hJ 239
  have hB239 : zin 17 [0, 1, 2, 3, 4, 5, 7, 8, 9, 10, 11, 13, 14, 15, 16] (aX5_fill_239 mc ms X Q) X 239 := by
    intro u v vs st M hb
    rw [hXe]
    refine fun lv hp => S_block (L := 239) (live := [0, 1, 2, 3, 4, 5, 7, 8, 9, 10, 11, 13, 14, 15, 16]) ?_ u v lv vs st M hp hb
    unfold aX5_fill_239
    refine S_icmp_gt (pc := 239) (tgt := 271) hC dX5_fill_239 (by decide) ?_ ?_
    · exact hJ 271
    · refine S_aload_n (pc := 242) hC dX5_fill_242 rfl ?_
      refine S_iload_n (pc := 243) hC dX5_fill_243 rfl ?_
      refine S_iload (pc := 244) hC dX5_fill_244 ?_
      refine S_iadd (pc := 246) hC dX5_fill_246 ?_
      refine S_iload (pc := 247) hC dX5_fill_247 ?_
      refine S_iload (pc := 249) hC dX5_fill_249 ?_
      refine S_bipush (pc := 251) hC dX5_fill_251 (by decide) ?_
      refine S_ishl (pc := 253) hC dX5_fill_253 ?_
      refine S_ior (pc := 254) hC dX5_fill_254 ?_
      refine S_iload (pc := 255) hC dX5_fill_255 ?_
      refine S_bipush (pc := 257) hC dX5_fill_257 (by decide) ?_
      refine S_ishl (pc := 259) hC dX5_fill_259 ?_
      refine S_ior (pc := 260) hC dX5_fill_260 ?_
      refine S_iastore (pc := 261) hC dX5_fill_261 ?_
      refine S_iinc (pc := 262) hC dX5_fill_262 (by decide) (by decide) ?_
      refine S_iinc (pc := 265) hC dX5_fill_265 (by decide) (by decide) ?_
      refine S_goto (pc := 268) (tgt := 227) hC dX5_fill_268 (by decide) ?_
      exact hJ 227
  have hB271 : zin 17 [0, 1, 2, 3, 4, 5, 7, 8, 9, 10, 11, 13] (aX5_fill_271 mc ms X Q) X 271 := by
    intro u v vs st M hb
    rw [hXe]
    refine fun lv hp => S_block (L := 271) (live := [0, 1, 2, 3, 4, 5, 7, 8, 9, 10, 11, 13]) ?_ u v lv vs st M hp hb
    unfold aX5_fill_271
    refine S_iinc (pc := 271) hC dX5_fill_271 (by decide) (by decide) ?_
    refine S_goto (pc := 274) (tgt := 144) hC dX5_fill_274 (by decide) ?_
    exact hJ 144
  have hB277 : zin 17 [0, 1, 2, 3, 4, 5, 7] (aX5_fill_277 mc ms X Q) X 277 := by
    intro u v vs st M hb
    rw [hXe]
    refine fun lv hp => S_block (L := 277) (live := [0, 1, 2, 3, 4, 5, 7]) ?_ u v lv vs st M hp hb
    unfold aX5_fill_277
    refine S_iinc (pc := 277) hC dX5_fill_277 (by decide) (by decide) ?_
    refine S_goto (pc := 280) (tgt := 31) hC dX5_fill_280 (by decide) ?_
    exact hJ 31
  have hB283 : zin 17 [4] (aX5_fill_283 mc ms X Q) X 283 := by
    intro u v vs st M hb
    rw [hXe]
    refine fun lv hp => S_block (L := 283) (live := [4]) ?_ u v lv vs st M hp hb
    unfold aX5_fill_283
    refine S_iload (pc := 283) hC dX5_fill_283 ?_
    exact S_ireturn (pc := 285) hC hr dX5_fill_285
  have := h.2 X hB0 hB31 hB77 hB109 hB137 hB144 hB190 hB212 hB213 hB225 hB227 hB239 hB271 hB277 hB283
  rw [hXe] at this
  exact this lv hlv
theorem vX5_fill_0 {mc ms : Nat} {X : Nat → zV} {Q : zQt} {M : zM} {g : Nat} {x1 : Nat} {x1n : Nat} {x2 : Int32} {x3 : Int32} (hW : zWd M g) (hx1 : zsh M x1 = some (1, x1n)) (h : wX5_lookRound 0 0 [.ref (g + 6)] M (fun r M1 => kX5_fill_4 mc ms X Q 0 0 [some (.ref (g + 6)), some (.ref x1), some (.int x2), some (.int x3), none, none, none, none, none, none, none, none, none, none, none, none, none] (r.toList ++ []) M1)) : aX5_fill_0 mc ms X Q 0 0 [some (.ref (g + 6)), some (.ref x1), some (.int x2), some (.int x3), none, none, none, none, none, none, none, none, none, none, none, none, none] [] M := ⟨Nat.le_of_ble_eq_true rfl, rfl, (fgs_6 hW), 0, 0, Nat.zero_le _, Nat.zero_le _, h⟩
theorem vX5_fill_31 {mc ms : Nat} {X : Nat → zV} {Q : zQt} {M : zM} {g : Nat} {x1 : Nat} {x1n : Nat} {x2 : Int32} {x3 : Int32} {x4 : Int32} {x5 : Int64} {x7 : Int32} (hW : zWd M g) (hx1 : zsh M x1 = some (1, x1n)) (h : (x7 ≤ 0 → X 283 0 0 [.int x4] [] M) ∧ (¬ x7 ≤ 0 → (x3 ≤ x4 → X 283 0 0 [.int x4] [] M) ∧ (¬ x3 ≤ x4 → wX0_lowest 0 0 [.long x5] M (fun r M1 => kX5_fill_47 mc ms X Q 0 0 [some (.ref (g + 6)), some (.ref x1), some (.int x2), some (.int x3), some (.int x4), some (.long x5), none, some (.int x7), none, none, none, none, none, none, none, none, none] (r.toList ++ []) M1)))) : aX5_fill_31 mc ms X Q 0 0 [some (.ref (g + 6)), some (.ref x1), some (.int x2), some (.int x3), some (.int x4), some (.long x5), none, some (.int x7), none, none, none, none, none, none, none, none, none] [] M := ⟨fun c33 => (h.1 c33), fun c33 => ⟨fun c39 => ((h.2 c33).1 c39), fun c39 => ⟨Nat.le_of_ble_eq_true rfl, rfl, 0, 0, Nat.zero_le _, Nat.zero_le _, ((h.2 c33).2 c39)⟩⟩⟩
theorem vX5_fill_77 {mc ms : Nat} {X : Nat → zV} {Q : zQt} {M : zM} {g : Nat} {x1 : Nat} {x1n : Nat} {x2 : Int32} {x3 : Int32} {x4 : Int32} {x5 : Int64} {x7 : Int32} {x8 : Int32} {s0 : Int32} (hW : zWd M g) (hx1 : zsh M x1 = some (1, x1n)) (h : vp_in x8 64 ∧ (((M : zM).1 ((g + 2)) (x8 : Int32).toNatClampNeg) = ((1 : Int32) + ((6 : Int32) * (M.1 ((g + 1)) 4))) → X 109 0 0 [.ref (g + 6), .ref x1, .int x2, .int x3, .int x4, .long x5, .int x7, .int x8, .int s0] [.int 1] M) ∧ (¬ ((M : zM).1 ((g + 2)) (x8 : Int32).toNatClampNeg) = ((1 : Int32) + ((6 : Int32) * (M.1 ((g + 1)) 4))) → X 109 0 0 [.ref (g + 6), .ref x1, .int x2, .int x3, .int x4, .long x5, .int x7, .int x8, .int s0] [.int 0] M)) : aX5_fill_77 mc ms X Q 0 0 [some (.ref (g + 6)), some (.ref x1), some (.int x2), some (.int x3), some (.int x4), some (.long x5), none, some (.int x7), some (.int x8), none, none, none, none, none, none, none, none] [.int s0] M := ⟨(fgs_6 hW), (g + 1), (fgr_6_0 hW), ⟨(fgs_1 hW), (g + 2), (fgr_1_1 hW), ⟨64, (fgs_2 hW), h.1, ⟨(fgs_6 hW), (g + 1), (fgr_6_0 hW), ⟨(fgs_1 hW), ⟨fun c101 => (h.2.1 c101), fun c101 => (h.2.2 c101)⟩⟩⟩⟩⟩⟩
theorem vX5_fill_109 {mc ms : Nat} {X : Nat → zV} {Q : zQt} {M : zM} {g : Nat} {x1 : Nat} {x1n : Nat} {x2 : Int32} {x3 : Int32} {x4 : Int32} {x5 : Int64} {x7 : Int32} {x8 : Int32} {x9 : Int32} {s0 : Int32} (hW : zWd M g) (hx1 : zsh M x1 = some (1, x1n)) (h : wX5_goals 0 0 [.ref (g + 6), .int x8] M (fun r M1 => kX5_fill_117 mc ms X Q 0 0 [some (.ref (g + 6)), some (.ref x1), some (.int x2), some (.int x3), some (.int x4), some (.long x5), none, some (.int x7), some (.int x8), some (.int x9), some (.int s0), none, none, none, none, none, none] (r.toList ++ []) M1)) : aX5_fill_109 mc ms X Q 0 0 [some (.ref (g + 6)), some (.ref x1), some (.int x2), some (.int x3), some (.int x4), some (.long x5), none, some (.int x7), some (.int x8), some (.int x9), none, none, none, none, none, none, none] [.int s0] M := ⟨Nat.le_of_ble_eq_true rfl, rfl, (fgs_6 hW), 0, 0, Nat.zero_le _, Nat.zero_le _, h⟩
theorem vX5_fill_137 {mc ms : Nat} {X : Nat → zV} {Q : zQt} {M : zM} {g : Nat} {x1 : Nat} {x1n : Nat} {x2 : Int32} {x3 : Int32} {x4 : Int32} {x5 : Int64} {x7 : Int32} {x8 : Int32} {x9 : Int32} {x10 : Int32} {x11 : Int64} (hW : zWd M g) (hx1 : zsh M x1 = some (1, x1n)) (h : wJ13_bitCount_95d88 0 0 [.long x11] M (fun r M1 => kX5_fill_142 mc ms X Q 0 0 [some (.ref (g + 6)), some (.ref x1), some (.int x2), some (.int x3), some (.int x4), some (.long x5), none, some (.int x7), some (.int x8), some (.int x9), some (.int x10), some (.long x11), none, none, none, none, none] (r.toList ++ []) M1)) : aX5_fill_137 mc ms X Q 0 0 [some (.ref (g + 6)), some (.ref x1), some (.int x2), some (.int x3), some (.int x4), some (.long x5), none, some (.int x7), some (.int x8), some (.int x9), some (.int x10), some (.long x11), none, none, none, none, none] [] M := ⟨Nat.le_of_ble_eq_true rfl, rfl, 0, 0, Nat.zero_le _, Nat.zero_le _, h⟩
theorem vX5_fill_144 {mc ms : Nat} {X : Nat → zV} {Q : zQt} {M : zM} {g : Nat} {x1 : Nat} {x1n : Nat} {x2 : Int32} {x3 : Int32} {x4 : Int32} {x5 : Int64} {x7 : Int32} {x8 : Int32} {x9 : Int32} {x10 : Int32} {x11 : Int64} {x13 : Int32} (hW : zWd M g) (hx1 : zsh M x1 = some (1, x1n)) (h : (x13 ≤ 0 → X 277 0 0 [.ref (g + 6), .ref x1, .int x2, .int x3, .int x4, .long x5, .int x7] [] M) ∧ (¬ x13 ≤ 0 → (x3 ≤ x4 → X 277 0 0 [.ref (g + 6), .ref x1, .int x2, .int x3, .int x4, .long x5, .int x7] [] M) ∧ (¬ x3 ≤ x4 → wX0_lowest 0 0 [.long x11] M (fun r M1 => kX5_fill_160 mc ms X Q 0 0 [some (.ref (g + 6)), some (.ref x1), some (.int x2), some (.int x3), some (.int x4), some (.long x5), none, some (.int x7), some (.int x8), some (.int x9), some (.int x10), some (.long x11), none, some (.int x13), none, none, none] (r.toList ++ []) M1)))) : aX5_fill_144 mc ms X Q 0 0 [some (.ref (g + 6)), some (.ref x1), some (.int x2), some (.int x3), some (.int x4), some (.long x5), none, some (.int x7), some (.int x8), some (.int x9), some (.int x10), some (.long x11), none, some (.int x13), none, none, none] [] M := ⟨fun c146 => (h.1 c146), fun c146 => ⟨fun c152 => ((h.2 c146).1 c152), fun c152 => ⟨Nat.le_of_ble_eq_true rfl, rfl, 0, 0, Nat.zero_le _, Nat.zero_le _, ((h.2 c146).2 c152)⟩⟩⟩
theorem vX5_fill_190 {mc ms : Nat} {X : Nat → zV} {Q : zQt} {M : zM} {g : Nat} {x1 : Nat} {x1n : Nat} {x2 : Int32} {x3 : Int32} {x4 : Int32} {x5 : Int64} {x7 : Int32} {x8 : Int32} {x9 : Int32} {x10 : Int32} {x11 : Int64} {x13 : Int32} {x14 : Int32} (hW : zWd M g) (hx1 : zsh M x1 = some (1, x1n)) (h : (x10 = 0 → X 212 0 0 [.ref (g + 6), .ref x1, .int x2, .int x3, .int x4, .long x5, .int x7, .int x8, .int x9, .int x10, .long x11, .int x13, .int x14] [] M) ∧ (¬ x10 = 0 → ((lg_cmp ((((((-72057594037927681) : Int64).toUInt64 >>> (x14.toInt64.toUInt64 &&& Int64.toUInt64 63)).toInt64) &&& (1 : Int64))) ((0 : Int64))) = 0 → X 212 0 0 [.ref (g + 6), .ref x1, .int x2, .int x3, .int x4, .long x5, .int x7, .int x8, .int x9, .int x10, .long x11, .int x13, .int x14] [] M) ∧ (¬ (lg_cmp ((((((-72057594037927681) : Int64).toUInt64 >>> (x14.toInt64.toUInt64 &&& Int64.toUInt64 63)).toInt64) &&& (1 : Int64))) ((0 : Int64))) = 0 → X 213 0 0 [.ref (g + 6), .ref x1, .int x2, .int x3, .int x4, .long x5, .int x7, .int x8, .int x9, .int x10, .long x11, .int x13, .int x14] [.int 1] M))) : aX5_fill_190 mc ms X Q 0 0 [some (.ref (g + 6)), some (.ref x1), some (.int x2), some (.int x3), some (.int x4), some (.long x5), none, some (.int x7), some (.int x8), some (.int x9), some (.int x10), some (.long x11), none, some (.int x13), some (.int x14), none, none] [] M := ⟨fun c192 => (h.1 c192), fun c192 => ⟨fun c205 => ((h.2 c192).1 c205), fun c205 => ((h.2 c192).2 c205)⟩⟩
theorem vX5_fill_212 {mc ms : Nat} {X : Nat → zV} {Q : zQt} {M : zM} {g : Nat} {x1 : Nat} {x1n : Nat} {x2 : Int32} {x3 : Int32} {x4 : Int32} {x5 : Int64} {x7 : Int32} {x8 : Int32} {x9 : Int32} {x10 : Int32} {x11 : Int64} {x13 : Int32} {x14 : Int32} (hW : zWd M g) (hx1 : zsh M x1 = some (1, x1n)) (h : X 213 0 0 [.ref (g + 6), .ref x1, .int x2, .int x3, .int x4, .long x5, .int x7, .int x8, .int x9, .int x10, .long x11, .int x13, .int x14] [.int 0] M) : aX5_fill_212 mc ms X Q 0 0 [some (.ref (g + 6)), some (.ref x1), some (.int x2), some (.int x3), some (.int x4), some (.long x5), none, some (.int x7), some (.int x8), some (.int x9), some (.int x10), some (.long x11), none, some (.int x13), some (.int x14), none, none] [] M := h
theorem vX5_fill_213 {mc ms : Nat} {X : Nat → zV} {Q : zQt} {M : zM} {g : Nat} {x1 : Nat} {x1n : Nat} {x2 : Int32} {x3 : Int32} {x4 : Int32} {x5 : Int64} {x7 : Int32} {x8 : Int32} {x9 : Int32} {x10 : Int32} {x11 : Int64} {x13 : Int32} {x14 : Int32} {s0 : Int32} (hW : zWd M g) (hx1 : zsh M x1 = some (1, x1n)) (h : (s0 = 0 → X 225 0 0 [.ref (g + 6), .ref x1, .int x2, .int x3, .int x4, .long x5, .int x7, .int x8, .int x9, .int x10, .long x11, .int x13, .int x14, .int s0] [.int 0] M) ∧ (¬ s0 = 0 → X 225 0 0 [.ref (g + 6), .ref x1, .int x2, .int x3, .int x4, .long x5, .int x7, .int x8, .int x9, .int x10, .long x11, .int x13, .int x14, .int s0] [.int 2] M)) : aX5_fill_213 mc ms X Q 0 0 [some (.ref (g + 6)), some (.ref x1), some (.int x2), some (.int x3), some (.int x4), some (.long x5), none, some (.int x7), some (.int x8), some (.int x9), some (.int x10), some (.long x11), none, some (.int x13), some (.int x14), none, none] [.int s0] M := ⟨fun c217 => (h.1 c217), fun c217 => (h.2 c217)⟩
theorem vX5_fill_225 {mc ms : Nat} {X : Nat → zV} {Q : zQt} {M : zM} {g : Nat} {x1 : Nat} {x1n : Nat} {x2 : Int32} {x3 : Int32} {x4 : Int32} {x5 : Int64} {x7 : Int32} {x8 : Int32} {x9 : Int32} {x10 : Int32} {x11 : Int64} {x13 : Int32} {x14 : Int32} {x15 : Int32} {s0 : Int32} (hW : zWd M g) (hx1 : zsh M x1 = some (1, x1n)) (h : X 227 0 0 [.ref (g + 6), .ref x1, .int x2, .int x3, .int x4, .long x5, .int x7, .int x8, .int x9, .int x10, .long x11, .int x13, .int x14, .int x15, .int s0] [] M) : aX5_fill_225 mc ms X Q 0 0 [some (.ref (g + 6)), some (.ref x1), some (.int x2), some (.int x3), some (.int x4), some (.long x5), none, some (.int x7), some (.int x8), some (.int x9), some (.int x10), some (.long x11), none, some (.int x13), some (.int x14), some (.int x15), none] [.int s0] M := h
theorem vX5_fill_227 {mc ms : Nat} {X : Nat → zV} {Q : zQt} {M : zM} {g : Nat} {x1 : Nat} {x1n : Nat} {x2 : Int32} {x3 : Int32} {x4 : Int32} {x5 : Int64} {x7 : Int32} {x8 : Int32} {x9 : Int32} {x10 : Int32} {x11 : Int64} {x13 : Int32} {x14 : Int32} {x15 : Int32} {x16 : Int32} (hW : zWd M g) (hx1 : zsh M x1 = some (1, x1n)) (h : (x15 = 0 → X 239 0 0 [.ref (g + 6), .ref x1, .int x2, .int x3, .int x4, .long x5, .int x7, .int x8, .int x9, .int x10, .long x11, .int x13, .int x14, .int x15, .int x16] [.int 0, .int x16] M) ∧ (¬ x15 = 0 → X 239 0 0 [.ref (g + 6), .ref x1, .int x2, .int x3, .int x4, .long x5, .int x7, .int x8, .int x9, .int x10, .long x11, .int x13, .int x14, .int x15, .int x16] [.int 5, .int x16] M)) : aX5_fill_227 mc ms X Q 0 0 [some (.ref (g + 6)), some (.ref x1), some (.int x2), some (.int x3), some (.int x4), some (.long x5), none, some (.int x7), some (.int x8), some (.int x9), some (.int x10), some (.long x11), none, some (.int x13), some (.int x14), some (.int x15), some (.int x16)] [] M := ⟨fun c231 => (h.1 c231), fun c231 => (h.2 c231)⟩
theorem vX5_fill_239 {mc ms : Nat} {X : Nat → zV} {Q : zQt} {M : zM} {g : Nat} {x1 : Nat} {x1n : Nat} {x2 : Int32} {x3 : Int32} {x4 : Int32} {x5 : Int64} {x7 : Int32} {x8 : Int32} {x9 : Int32} {x10 : Int32} {x11 : Int64} {x13 : Int32} {x14 : Int32} {x15 : Int32} {x16 : Int32} {s0 : Int32} {s1 : Int32} (hW : zWd M g) (hx1 : zsh M x1 = some (1, x1n)) (h : (s0 < s1 → X 271 0 0 [.ref (g + 6), .ref x1, .int x2, .int x3, .int x4, .long x5, .int x7, .int x8, .int x9, .int x10, .long x11, .int x13] [] M) ∧ (¬ s0 < s1 → vp_in ((x2 + x4)) x1n ∧ ∀ M261 : zM, M261 = (zsI M x1 ((x2 + x4) : Int32).toNatClampNeg (((x8 ||| (x14 <<< ((6 : Int32) &&& 31))) ||| (x16 <<< ((12 : Int32) &&& 31))))) → X 227 0 0 [.ref (g + 6), .ref x1, .int x2, .int x3, .int (x4 + 1), .long x5, .int x7, .int x8, .int x9, .int x10, .long x11, .int x13, .int x14, .int x15, .int (x16 + 1)] [] M261)) : aX5_fill_239 mc ms X Q 0 0 [some (.ref (g + 6)), some (.ref x1), some (.int x2), some (.int x3), some (.int x4), some (.long x5), none, some (.int x7), some (.int x8), some (.int x9), some (.int x10), some (.long x11), none, some (.int x13), some (.int x14), some (.int x15), some (.int x16)] [.int s0, .int s1] M := ⟨fun c239 => (h.1 c239), fun c239 => ⟨x1n, hx1, (h.2 c239).1, (have h261 := (h.2 c239).2 _ rfl; h261)⟩⟩
theorem vX5_fill_271 {mc ms : Nat} {X : Nat → zV} {Q : zQt} {M : zM} {g : Nat} {x1 : Nat} {x1n : Nat} {x2 : Int32} {x3 : Int32} {x4 : Int32} {x5 : Int64} {x7 : Int32} {x8 : Int32} {x9 : Int32} {x10 : Int32} {x11 : Int64} {x13 : Int32} (hW : zWd M g) (hx1 : zsh M x1 = some (1, x1n)) (h : X 144 0 0 [.ref (g + 6), .ref x1, .int x2, .int x3, .int x4, .long x5, .int x7, .int x8, .int x9, .int x10, .long x11, .int (x13 + (-1))] [] M) : aX5_fill_271 mc ms X Q 0 0 [some (.ref (g + 6)), some (.ref x1), some (.int x2), some (.int x3), some (.int x4), some (.long x5), none, some (.int x7), some (.int x8), some (.int x9), some (.int x10), some (.long x11), none, some (.int x13), none, none, none] [] M := h
theorem vX5_fill_277 {mc ms : Nat} {X : Nat → zV} {Q : zQt} {M : zM} {g : Nat} {x1 : Nat} {x1n : Nat} {x2 : Int32} {x3 : Int32} {x4 : Int32} {x5 : Int64} {x7 : Int32} (hW : zWd M g) (hx1 : zsh M x1 = some (1, x1n)) (h : X 31 0 0 [.ref (g + 6), .ref x1, .int x2, .int x3, .int x4, .long x5, .int (x7 + (-1))] [] M) : aX5_fill_277 mc ms X Q 0 0 [some (.ref (g + 6)), some (.ref x1), some (.int x2), some (.int x3), some (.int x4), some (.long x5), none, some (.int x7), none, none, none, none, none, none, none, none, none] [] M := h
theorem vX5_fill_283 {mc ms : Nat} {X : Nat → zV} {Q : zQt} {M : zM} {g : Nat} {x4 : Int32} (hW : zWd M g)  (h : Q (some (.int x4)) M) : aX5_fill_283 mc ms X Q 0 0 [none, none, none, none, some (.int x4), none, none, none, none, none, none, none, none, none, none, none, none] [] M := h
theorem vcX5_fill_24 {mc ms : Nat} {X : Nat → zV} {Q : zQt} {M : zM} {g : Nat} {x1 : Nat} {x1n : Nat} {x2 : Int32} {x3 : Int32} {x4 : Int32} {x5 : Int64} (hW : zWd M g) (hx1 : zsh M x1 = some (1, x1n)) (h : wJ13_bitCount_95d88 0 0 [.long x5] M (fun r M1 => kX5_fill_29 mc ms X Q 0 0 [some (.ref (g + 6)), some (.ref x1), some (.int x2), some (.int x3), some (.int x4), some (.long x5), none, none, none, none, none, none, none, none, none, none, none] (r.toList ++ []) M1)) : kX5_fill_24 mc ms X Q 0 0 [some (.ref (g + 6)), some (.ref x1), some (.int x2), some (.int x3), some (.int x4), some (.long x5), none, none, none, none, none, none, none, none, none, none, none] [] M := ⟨Nat.le_of_ble_eq_true rfl, rfl, 0, 0, Nat.zero_le _, Nat.zero_le _, h⟩
theorem vkX5_fill_4 {mc ms : Nat} {X : Nat → zV} {Q : zQt} {M : zM} {g : Nat} {x1 : Nat} {x1n : Nat} {x2 : Int32} {x3 : Int32} (hW : zWd M g) (hx1 : zsh M x1 = some (1, x1n)) (h : vp_in ((M.1 ((g + 1)) 4)) 2 ∧ ∀ y22 : Int64, y22 = ((M : zM).2.1 ((g + 4)) ((M.1 ((g + 1)) 4) : Int32).toNatClampNeg) → wJ13_bitCount_95d88 0 0 [.long y22] M (fun r M1 => kX5_fill_29 mc ms X Q 0 0 [some (.ref (g + 6)), some (.ref x1), some (.int x2), some (.int x3), some (.int 0), some (.long y22), none, none, none, none, none, none, none, none, none, none, none] (r.toList ++ []) M1)) : kX5_fill_4 mc ms X Q 0 0 [some (.ref (g + 6)), some (.ref x1), some (.int x2), some (.int x3), none, none, none, none, none, none, none, none, none, none, none, none, none] [] M := ⟨(fgs_6 hW), (g + 1), (fgr_6_0 hW), ⟨(fgs_1 hW), (g + 4), (fgr_1_3 hW), ⟨(fgs_6 hW), (g + 1), (fgr_6_0 hW), ⟨(fgs_1 hW), ⟨2, (fgs_4 hW), h.1, (fun y22 e22 => have h22 := h.2 y22 e22; (vcX5_fill_24 hW hx1 h22))⟩⟩⟩⟩⟩
theorem vkX5_fill_29 {mc ms : Nat} {X : Nat → zV} {Q : zQt} {M : zM} {g : Nat} {x1 : Nat} {x1n : Nat} {x2 : Int32} {x3 : Int32} {x4 : Int32} {x5 : Int64} {s0 : Int32} (hW : zWd M g) (hx1 : zsh M x1 = some (1, x1n)) (h : X 31 0 0 [.ref (g + 6), .ref x1, .int x2, .int x3, .int x4, .long x5, .int s0] [] M) : kX5_fill_29 mc ms X Q 0 0 [some (.ref (g + 6)), some (.ref x1), some (.int x2), some (.int x3), some (.int x4), some (.long x5), none, none, none, none, none, none, none, none, none, none, none] [.int s0] M := h
theorem vkX5_fill_47 {mc ms : Nat} {X : Nat → zV} {Q : zQt} {M : zM} {g : Nat} {x1 : Nat} {x1n : Nat} {x2 : Int32} {x3 : Int32} {x4 : Int32} {x5 : Int64} {x7 : Int32} {s0 : Int32} (hW : zWd M g) (hx1 : zsh M x1 = some (1, x1n)) (h : ((lg_cmp (((((M.2.1 ((g + 6)) 3).toUInt64 >>> (s0.toInt64.toUInt64 &&& Int64.toUInt64 63)).toInt64) &&& (1 : Int64))) ((0 : Int64))) = 0 → X 77 0 0 [.ref (g + 6), .ref x1, .int x2, .int x3, .int x4, .long (x5 &&& (x5 - (1 : Int64))), .int x7, .int s0] [.int 0] M) ∧ (¬ (lg_cmp (((((M.2.1 ((g + 6)) 3).toUInt64 >>> (s0.toInt64.toUInt64 &&& Int64.toUInt64 63)).toInt64) &&& (1 : Int64))) ((0 : Int64))) = 0 → X 77 0 0 [.ref (g + 6), .ref x1, .int x2, .int x3, .int x4, .long (x5 &&& (x5 - (1 : Int64))), .int x7, .int s0] [.int 1] M)) : kX5_fill_47 mc ms X Q 0 0 [some (.ref (g + 6)), some (.ref x1), some (.int x2), some (.int x3), some (.int x4), some (.long x5), none, some (.int x7), none, none, none, none, none, none, none, none, none] [.int s0] M := ⟨(fgs_6 hW), ⟨fun c69 => (h.1 c69), fun c69 => (h.2 c69)⟩⟩
theorem vkX5_fill_117 {mc ms : Nat} {X : Nat → zV} {Q : zQt} {M : zM} {g : Nat} {x1 : Nat} {x1n : Nat} {x2 : Int32} {x3 : Int32} {x4 : Int32} {x5 : Int64} {x7 : Int32} {x8 : Int32} {x9 : Int32} {x10 : Int32} {s0 : Int64} (hW : zWd M g) (hx1 : zsh M x1 = some (1, x1n)) (h : (x8 = (M.1 ((g + 6)) 2) → wX5_castlings 0 0 [.ref (g + 6)] M (fun r M1 => kX5_fill_134 mc ms X Q 0 0 [some (.ref (g + 6)), some (.ref x1), some (.int x2), some (.int x3), some (.int x4), some (.long x5), none, some (.int x7), some (.int x8), some (.int x9), some (.int x10), some (.long s0), none, none, none, none, none] (r.toList ++ [.long s0]) M1)) ∧ (¬ x8 = (M.1 ((g + 6)) 2) → X 137 0 0 [.ref (g + 6), .ref x1, .int x2, .int x3, .int x4, .long x5, .int x7, .int x8, .int x9, .int x10, .long s0] [] M)) : kX5_fill_117 mc ms X Q 0 0 [some (.ref (g + 6)), some (.ref x1), some (.int x2), some (.int x3), some (.int x4), some (.long x5), none, some (.int x7), some (.int x8), some (.int x9), some (.int x10), none, none, none, none, none, none] [.long s0] M := ⟨(fgs_6 hW), ⟨fun c125 => ⟨Nat.le_of_ble_eq_true rfl, rfl, (fgs_6 hW), 0, 0, Nat.zero_le _, Nat.zero_le _, (h.1 c125)⟩, fun c125 => (h.2 c125)⟩⟩
theorem vkX5_fill_134 {mc ms : Nat} {X : Nat → zV} {Q : zQt} {M : zM} {g : Nat} {x1 : Nat} {x1n : Nat} {x2 : Int32} {x3 : Int32} {x4 : Int32} {x5 : Int64} {x7 : Int32} {x8 : Int32} {x9 : Int32} {x10 : Int32} {x11 : Int64} {s0 : Int64} {s1 : Int64} (hW : zWd M g) (hx1 : zsh M x1 = some (1, x1n)) (h : X 137 0 0 [.ref (g + 6), .ref x1, .int x2, .int x3, .int x4, .long x5, .int x7, .int x8, .int x9, .int x10, .long (s1 ||| s0)] [] M) : kX5_fill_134 mc ms X Q 0 0 [some (.ref (g + 6)), some (.ref x1), some (.int x2), some (.int x3), some (.int x4), some (.long x5), none, some (.int x7), some (.int x8), some (.int x9), some (.int x10), some (.long x11), none, none, none, none, none] [.long s0, .long s1] M := h
theorem vkX5_fill_142 {mc ms : Nat} {X : Nat → zV} {Q : zQt} {M : zM} {g : Nat} {x1 : Nat} {x1n : Nat} {x2 : Int32} {x3 : Int32} {x4 : Int32} {x5 : Int64} {x7 : Int32} {x8 : Int32} {x9 : Int32} {x10 : Int32} {x11 : Int64} {s0 : Int32} (hW : zWd M g) (hx1 : zsh M x1 = some (1, x1n)) (h : X 144 0 0 [.ref (g + 6), .ref x1, .int x2, .int x3, .int x4, .long x5, .int x7, .int x8, .int x9, .int x10, .long x11, .int s0] [] M) : kX5_fill_142 mc ms X Q 0 0 [some (.ref (g + 6)), some (.ref x1), some (.int x2), some (.int x3), some (.int x4), some (.long x5), none, some (.int x7), some (.int x8), some (.int x9), some (.int x10), some (.long x11), none, none, none, none, none] [.int s0] M := h
theorem vkX5_fill_160 {mc ms : Nat} {X : Nat → zV} {Q : zQt} {M : zM} {g : Nat} {x1 : Nat} {x1n : Nat} {x2 : Int32} {x3 : Int32} {x4 : Int32} {x5 : Int64} {x7 : Int32} {x8 : Int32} {x9 : Int32} {x10 : Int32} {x11 : Int64} {x13 : Int32} {s0 : Int32} (hW : zWd M g) (hx1 : zsh M x1 = some (1, x1n)) (h : (x9 = 0 → X 190 0 0 [.ref (g + 6), .ref x1, .int x2, .int x3, .int x4, .long x5, .int x7, .int x8, .int x9, .int x10, .long (x11 &&& (x11 - (1 : Int64))), .int x13, .int s0] [] M) ∧ (¬ x9 = 0 → wX5_exposes 0 0 [.ref (g + 6), .int x8, .int s0] M (fun r M1 => kX5_fill_184 mc ms X Q 0 0 [some (.ref (g + 6)), some (.ref x1), some (.int x2), some (.int x3), some (.int x4), some (.long x5), none, some (.int x7), some (.int x8), some (.int x9), some (.int x10), some (.long (x11 &&& (x11 - (1 : Int64)))), none, some (.int x13), some (.int s0), none, none] (r.toList ++ []) M1))) : kX5_fill_160 mc ms X Q 0 0 [some (.ref (g + 6)), some (.ref x1), some (.int x2), some (.int x3), some (.int x4), some (.long x5), none, some (.int x7), some (.int x8), some (.int x9), some (.int x10), some (.long x11), none, some (.int x13), none, none, none] [.int s0] M := ⟨fun c173 => (h.1 c173), fun c173 => ⟨Nat.le_of_ble_eq_true rfl, rfl, (fgs_6 hW), 0, 0, Nat.zero_le _, Nat.zero_le _, (h.2 c173)⟩⟩
theorem vkX5_fill_184 {mc ms : Nat} {X : Nat → zV} {Q : zQt} {M : zM} {g : Nat} {x1 : Nat} {x1n : Nat} {x2 : Int32} {x3 : Int32} {x4 : Int32} {x5 : Int64} {x7 : Int32} {x8 : Int32} {x9 : Int32} {x10 : Int32} {x11 : Int64} {x13 : Int32} {x14 : Int32} {s0 : Int32} (hW : zWd M g) (hx1 : zsh M x1 = some (1, x1n)) (h : (s0 = 0 → X 190 0 0 [.ref (g + 6), .ref x1, .int x2, .int x3, .int x4, .long x5, .int x7, .int x8, .int x9, .int x10, .long x11, .int x13, .int x14] [] M) ∧ (¬ s0 = 0 → X 271 0 0 [.ref (g + 6), .ref x1, .int x2, .int x3, .int x4, .long x5, .int x7, .int x8, .int x9, .int x10, .long x11, .int x13] [] M)) : kX5_fill_184 mc ms X Q 0 0 [some (.ref (g + 6)), some (.ref x1), some (.int x2), some (.int x3), some (.int x4), some (.long x5), none, some (.int x7), some (.int x8), some (.int x9), some (.int x10), some (.long x11), none, some (.int x13), some (.int x14), none, none] [.int s0] M := ⟨fun c184 => (h.1 c184), fun c184 => (h.2 c184)⟩
