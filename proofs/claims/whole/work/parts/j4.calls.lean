/-! THE CLASS'S CALLS THAT MAY THROW -/
def ktX11_submit_95 (mc ms : Nat) (X : Nat → zV) (Q : zQt) (EX : zEt) : zT :=
  zpi 11 10 <| zla 0 <| zla 0 <| zgi 11 10 <| zif (fun x => x = 0) (zc (.int (-1)) <| zj X 119 [0]) <| zla 0 <| zgR 11 7 <| zgi 4 4 <| zc (.int 1) <| zii (fun x y => x - y) <| zj X 119 [0]
def ktX11_submit_83 (mc ms : Nat) (X : Nat → zV) (Q : zQt) (EX : zEt) : zT :=
  zla 0 <| zla 0 <| zgR 11 1 <| zla 0 <| zgR 11 7 <| zcv mc ms 6 1 wX6_readMoves <| ktX11_submit_95 mc ms X Q EX
def ktX11_submit_61 (mc ms : Nat) (X : Nat → zV) (Q : zQt) (EX : zEt) : zT :=
  zpi 11 10 <| zla 0 <| zc (.int (-1)) <| zpi 11 11 <| zla 0 <| zgi 11 10 <| zif (fun x => x = 0) (zla 0 <| zgR 11 7 <| zcv mc ms 4 0 wX4_begin <| ktX11_submit_83 mc ms X Q EX) <| zj X 122 [0]
def atX11_submit_0 (mc ms : Nat) (X : Nat → zV) (Q : zQt) (EX : zEt) : zT :=
  zli 1 <| zc (.int 1) <| zic (fun x y => x < y) (zj X 11 []) <| zli 1 <| zc (.int 20) <| zic (fun x y => x ≤ y) (zla 0 <| zgi 11 9 <| zif (fun x => x = 0) (zc (.int 0) <| zj X 39 [0]) <| zla 0 <| zgi 11 9 <| zc (.int 20) <| zii (fun x y => x - y) <| zli 1 <| zii (fun x y => x + y) <| zj X 39 [0]) <| zj X 11 []
def atX11_submit_11 (mc ms : Nat) (X : Nat → zV) (Q : zQt) (EX : zEt) : zT :=
  zth mc ms "java/lang/IllegalArgumentException" EX
def atX11_submit_39 (mc ms : Nat) (X : Nat → zV) (Q : zQt) (EX : zEt) : zT :=
  zsi 2 <| zla 0 <| zc (.int 0) <| zpi 11 9 <| zla 0 <| zla 0 <| zgR 11 1 <| zla 0 <| zgR 11 7 <| zgR 4 0 <| zli 2 <| zcv mc ms 6 2 wX6_readRecord <| ktX11_submit_61 mc ms X Q EX
def atX11_submit_119 (mc ms : Nat) (X : Nat → zV) (Q : zQt) (EX : zEt) : zT :=
  zpi 11 11 <| zj X 122 [0]
def atX11_submit_122 (mc ms : Nat) (X : Nat → zV) (Q : zQt) (EX : zEt) : zT :=
  zla 0 <| zgi 11 10 <| zif (fun x => x = 0) (zla 0 <| zgR 11 7 <| zsa 3 <| zla 0 <| zla 0 <| zgR 11 6 <| zpr 11 7 <| zla 0 <| zla 3 <| zpr 11 6 <| zla 0 <| zc (.int 1) <| zpz 11 8 <| zla 0 <| zdup <| zgi 11 12 <| zc (.int 1) <| zii (fun x y => x + y) <| zpi 11 12 <| zla 0 <| zgR 11 6 <| zgi 4 4 <| zc (.int 1) <| zii (fun x y => x - y) <| zri Q) <| zc (.int (-1)) <| zri Q
def lvtX11_submit : Nat → List Nat := fun L => match L with
  | 0 => [0, 1]
  | 11 => []
  | 39 => [0]
  | 119 => [0]
  | 122 => [0]
  | _ => []
def wtX11_submit : zSpX := fun mc ms av M Q EX => ((zlay av).length ≤ 4 ∧ zpick (zlay av) [0, 1] = some av) ∧ ∀ X : Nat → zV, zin 4 [0, 1] (atX11_submit_0 mc ms X Q EX) X 0 → zin 4 [] (atX11_submit_11 mc ms X Q EX) X 11 → zin 4 [0] (atX11_submit_39 mc ms X Q EX) X 39 → zin 4 [0] (atX11_submit_119 mc ms X Q EX) X 119 → zin 4 [0] (atX11_submit_122 mc ms X Q EX) X 122 → X 0 0 0 av [] M
set_option maxRecDepth 100000 in
set_option maxHeartbeats 4000000 in
theorem stX11_submit (l : Launch) (G : zG) (hE : zXt G) (hTh : zThr G) (hl : l.stackTraces = false) : zSndX l G yX11_submit cX11_submit 4 (some .int) 7 179 wtX11_submit := by
  refine zmkX [0, 1] (by decide) (fun mc ms av M Q EX h => h.1) ?_
  intro p e R s m args below meth c mc ms av M Q EX hC hx hRf hRl hr hnm h lv hlv
  obtain ⟨X, hXe⟩ : ∃ X : Nat → zV, X = fun L u v vs st M => ∀ lv, zpick lv (lvtX11_submit L) = some vs → zAt p l e R s m args below meth c (vx_MQ below (zQ G Q) (zXC G EX) args s mc ms (zA G)) G 4 L u v lv st M := ⟨_, rfl⟩
  have hJ : ∀ L, zOk p l e R s m args below meth c (vx_MQ below (zQ G Q) (zXC G EX) args s mc ms (zA G)) G 4 L (zj X L (lvtX11_submit L)) := fun L => S_jump (fun u v lv vs st M hp hx => by rw [hXe] at hx; exact hx lv hp)
  have hB0 : zin 4 [0, 1] (atX11_submit_0 mc ms X Q EX) X 0 := by
    intro u v vs st M hb
    rw [hXe]
    refine fun lv hp => S_block (L := 0) (live := [0, 1]) ?_ u v lv vs st M hp hb
    unfold atX11_submit_0
    refine S_iload_n (pc := 0) hC dX11_submit_0 rfl ?_
    refine S_iconst (pc := 1) hC dX11_submit_1 (by decide) ?_
    refine S_icmp_lt (pc := 2) (tgt := 11) hC dX11_submit_2 (by decide) ?_ ?_
    · exact hJ 11
    · refine S_iload_n (pc := 5) hC dX11_submit_5 rfl ?_
      refine S_bipush (pc := 6) hC dX11_submit_6 (by decide) ?_
      refine S_icmp_le (pc := 8) (tgt := 19) hC dX11_submit_8 (by decide) ?_ ?_
      · refine S_aload_n (pc := 19) hC dX11_submit_19 rfl ?_
        refine S_geti (pc := 20) hC cfX11 (by decide) (Or.inl rfl) wd_355 dX11_submit_20 ?_
        refine S_if_ne (pc := 23) (tgt := 30) hC dX11_submit_23 (by decide) ?_ ?_
        · refine S_aload_n (pc := 30) hC dX11_submit_30 rfl ?_
          refine S_geti (pc := 31) hC cfX11 (by decide) (Or.inl rfl) wd_355 dX11_submit_31 ?_
          refine S_bipush (pc := 34) hC dX11_submit_34 (by decide) ?_
          refine S_isub (pc := 36) hC dX11_submit_36 ?_
          refine S_iload_n (pc := 37) hC dX11_submit_37 rfl ?_
          refine S_iadd (pc := 38) hC dX11_submit_38 ?_
          exact hJ 39
        · refine S_iconst (pc := 26) hC dX11_submit_26 (by decide) ?_
          refine S_goto (pc := 27) (tgt := 39) hC dX11_submit_27 (by decide) ?_
          exact hJ 39
      · exact hJ 11
  have hB11 : zin 4 [] (atX11_submit_11 mc ms X Q EX) X 11 := by
    intro u v vs st M hb
    rw [hXe]
    refine fun lv hp => S_block (L := 11) (live := []) ?_ u v lv vs st M hp hb
    unfold atX11_submit_11
    exact S_th (pc := 11) hC hTh hl hx (by decide) (by decide) wd_604 wd_17 thw_86 thx_86 tho_86 dX11_submit_11 dX11_submit_14 dX11_submit_15 dX11_submit_18 (by rw [hRf]; decide) (by rw [hRl]; decide)
  have hB39 : zin 4 [0] (atX11_submit_39 mc ms X Q EX) X 39 := by
    intro u v vs st M hb
    rw [hXe]
    refine fun lv hp => S_block (L := 39) (live := [0]) ?_ u v lv vs st M hp hb
    unfold atX11_submit_39
    refine S_istore_n (pc := 39) hC dX11_submit_39 rfl (by decide) ?_
    refine S_aload_n (pc := 40) hC dX11_submit_40 rfl ?_
    refine S_iconst (pc := 41) hC dX11_submit_41 (by decide) ?_
    refine S_puti (pc := 42) hC cfX11 (by decide) rfl (Or.inl rfl) wd_355 dX11_submit_42 ?_
    refine S_aload_n (pc := 45) hC dX11_submit_45 rfl ?_
    refine S_aload_n (pc := 46) hC dX11_submit_46 rfl ?_
    refine S_getR (pc := 47) hC cfX11 (by decide) (Or.inl ⟨_, rfl⟩) wd_347 dX11_submit_47 ?_
    refine S_aload_n (pc := 50) hC dX11_submit_50 rfl ?_
    refine S_getR (pc := 51) hC cfX11 (by decide) (Or.inl ⟨_, rfl⟩) wd_353 dX11_submit_51 ?_
    refine S_getR (pc := 54) hC cfX4 (by decide) (Or.inl ⟨_, rfl⟩) wd_311 dX11_submit_54 ?_
    refine S_iload_n (pc := 57) hC dX11_submit_57 rfl ?_
    refine S_callV (pc := 58) hC (sX6_readRecord l G hE) rfl wd_667 wd_668 wd_669 wd_4 wd_670 (by decide +kernel) ⟨by rw [hRf]; decide, by rw [hRl]; decide⟩ dX11_submit_58 ?_
    unfold ktX11_submit_61
    refine S_puti (pc := 61) hC cfX11 (by decide) rfl (Or.inl rfl) wd_356 dX11_submit_61 ?_
    refine S_aload_n (pc := 64) hC dX11_submit_64 rfl ?_
    refine S_iconst (pc := 65) hC dX11_submit_65 (by decide) ?_
    refine S_puti (pc := 66) hC cfX11 (by decide) rfl (Or.inl rfl) wd_357 dX11_submit_66 ?_
    refine S_aload_n (pc := 69) hC dX11_submit_69 rfl ?_
    refine S_geti (pc := 70) hC cfX11 (by decide) (Or.inl rfl) wd_356 dX11_submit_70 ?_
    refine S_if_ne (pc := 73) (tgt := 122) hC dX11_submit_73 (by decide) ?_ ?_
    · exact hJ 122
    · refine S_aload_n (pc := 76) hC dX11_submit_76 rfl ?_
      refine S_getR (pc := 77) hC cfX11 (by decide) (Or.inl ⟨_, rfl⟩) wd_353 dX11_submit_77 ?_
      refine S_callV (pc := 80) hC (sX4_begin l G hE.1) rfl wd_803 wd_804 wd_805 wd_9 wd_806 (by decide +kernel) ⟨by rw [hRf]; decide, by rw [hRl]; decide⟩ dX11_submit_80 ?_
      unfold ktX11_submit_83
      refine S_aload_n (pc := 83) hC dX11_submit_83 rfl ?_
      refine S_aload_n (pc := 84) hC dX11_submit_84 rfl ?_
      refine S_getR (pc := 85) hC cfX11 (by decide) (Or.inl ⟨_, rfl⟩) wd_347 dX11_submit_85 ?_
      refine S_aload_n (pc := 88) hC dX11_submit_88 rfl ?_
      refine S_getR (pc := 89) hC cfX11 (by decide) (Or.inl ⟨_, rfl⟩) wd_353 dX11_submit_89 ?_
      refine S_callV (pc := 92) hC (sX6_readMoves l G hE) rfl wd_861 wd_862 wd_863 wd_4 wd_864 (by decide +kernel) ⟨by rw [hRf]; decide, by rw [hRl]; decide⟩ dX11_submit_92 ?_
      unfold ktX11_submit_95
      refine S_puti (pc := 95) hC cfX11 (by decide) rfl (Or.inl rfl) wd_356 dX11_submit_95 ?_
      refine S_aload_n (pc := 98) hC dX11_submit_98 rfl ?_
      refine S_aload_n (pc := 99) hC dX11_submit_99 rfl ?_
      refine S_geti (pc := 100) hC cfX11 (by decide) (Or.inl rfl) wd_356 dX11_submit_100 ?_
      refine S_if_ne (pc := 103) (tgt := 110) hC dX11_submit_103 (by decide) ?_ ?_
      · refine S_aload_n (pc := 110) hC dX11_submit_110 rfl ?_
        refine S_getR (pc := 111) hC cfX11 (by decide) (Or.inl ⟨_, rfl⟩) wd_353 dX11_submit_111 ?_
        refine S_geti (pc := 114) hC cfX4 (by decide) (Or.inl rfl) wd_327 dX11_submit_114 ?_
        refine S_iconst (pc := 117) hC dX11_submit_117 (by decide) ?_
        refine S_isub (pc := 118) hC dX11_submit_118 ?_
        exact hJ 119
      · refine S_iconst (pc := 106) hC dX11_submit_106 (by decide) ?_
        refine S_goto (pc := 107) (tgt := 119) hC dX11_submit_107 (by decide) ?_
        exact hJ 119
  have hB119 : zin 4 [0] (atX11_submit_119 mc ms X Q EX) X 119 := by
    intro u v vs st M hb
    rw [hXe]
    refine fun lv hp => S_block (L := 119) (live := [0]) ?_ u v lv vs st M hp hb
    unfold atX11_submit_119
    refine S_puti (pc := 119) hC cfX11 (by decide) rfl (Or.inl rfl) wd_357 dX11_submit_119 ?_
    exact hJ 122
  have hB122 : zin 4 [0] (atX11_submit_122 mc ms X Q EX) X 122 := by
    intro u v vs st M hb
    rw [hXe]
    refine fun lv hp => S_block (L := 122) (live := [0]) ?_ u v lv vs st M hp hb
    unfold atX11_submit_122
    refine S_aload_n (pc := 122) hC dX11_submit_122 rfl ?_
    refine S_geti (pc := 123) hC cfX11 (by decide) (Or.inl rfl) wd_356 dX11_submit_123 ?_
    refine S_if_eq (pc := 126) (tgt := 131) hC dX11_submit_126 (by decide) ?_ ?_
    · refine S_aload_n (pc := 131) hC dX11_submit_131 rfl ?_
      refine S_getR (pc := 132) hC cfX11 (by decide) (Or.inl ⟨_, rfl⟩) wd_353 dX11_submit_132 ?_
      refine S_astore_n (pc := 135) hC dX11_submit_135 rfl (by decide) ?_
      refine S_aload_n (pc := 136) hC dX11_submit_136 rfl ?_
      refine S_aload_n (pc := 137) hC dX11_submit_137 rfl ?_
      refine S_getR (pc := 138) hC cfX11 (by decide) (Or.inl ⟨_, rfl⟩) wd_352 dX11_submit_138 ?_
      refine S_putr (pc := 141) hC cfX11 (by decide) (Or.inl ⟨_, rfl⟩) (Or.inl rfl) wd_353 dX11_submit_141 ?_
      refine S_aload_n (pc := 144) hC dX11_submit_144 rfl ?_
      refine S_aload_n (pc := 145) hC dX11_submit_145 rfl ?_
      refine S_putr (pc := 146) hC cfX11 (by decide) (Or.inl ⟨_, rfl⟩) (Or.inl rfl) wd_352 dX11_submit_146 ?_
      refine S_aload_n (pc := 149) hC dX11_submit_149 rfl ?_
      refine S_iconst (pc := 150) hC dX11_submit_150 (by decide) ?_
      refine S_putz (pc := 151) hC cfX11 (by decide) rfl (Or.inl rfl) wd_354 dX11_submit_151 ?_
      refine S_aload_n (pc := 154) hC dX11_submit_154 rfl ?_
      refine S_dup (pc := 155) hC dX11_submit_155 ?_
      refine S_geti (pc := 156) hC cfX11 (by decide) (Or.inl rfl) wd_358 dX11_submit_156 ?_
      refine S_iconst (pc := 159) hC dX11_submit_159 (by decide) ?_
      refine S_iadd (pc := 160) hC dX11_submit_160 ?_
      refine S_puti (pc := 161) hC cfX11 (by decide) rfl (Or.inl rfl) wd_358 dX11_submit_161 ?_
      refine S_aload_n (pc := 164) hC dX11_submit_164 rfl ?_
      refine S_getR (pc := 165) hC cfX11 (by decide) (Or.inl ⟨_, rfl⟩) wd_352 dX11_submit_165 ?_
      refine S_geti (pc := 168) hC cfX4 (by decide) (Or.inl rfl) wd_327 dX11_submit_168 ?_
      refine S_iconst (pc := 171) hC dX11_submit_171 (by decide) ?_
      refine S_isub (pc := 172) hC dX11_submit_172 ?_
      exact zX_ret (S_ireturn (pc := 173) hC hr dX11_submit_173)
    · refine S_iconst (pc := 129) hC dX11_submit_129 (by decide) ?_
      exact zX_ret (S_ireturn (pc := 130) hC hr dX11_submit_130)
  have := h.2 X hB0 hB11 hB39 hB119 hB122
  rw [hXe] at this
  exact this lv hlv
def ktX11_proceed_81 (mc ms : Nat) (X : Nat → zV) (Q : zQt) (EX : zEt) : zT :=
  zri Q
def ktX11_proceed_74 (mc ms : Nat) (X : Nat → zV) (Q : zQt) (EX : zEt) : zT :=
  zla 0 <| zgR 11 6 <| zcv mc ms 4 0 wX4_verdict <| ktX11_proceed_81 mc ms X Q EX
def ktX11_proceed_24 (mc ms : Nat) (X : Nat → zV) (Q : zQt) (EX : zEt) : zT :=
  zif (fun x => x = 0) (zli 1 <| zif (fun x => x < 0) (zj X 50 []) <| zli 1 <| zla 0 <| zgR 11 6 <| zgi 4 3 <| zic (fun x y => x < y) (zla 0 <| zgR 11 6 <| zla 0 <| zgR 11 6 <| zgR 4 2 <| zli 1 <| zal 1 <| zcv mc ms 4 1 wX4_add <| ktX11_proceed_74 mc ms X Q EX) <| zj X 50 []) <| zj X 27 []
def ktX11_proceed_14 (mc ms : Nat) (X : Nat → zV) (Q : zQt) (EX : zEt) : zT :=
  zif (fun x => x = 0) (zla 0 <| zgR 11 6 <| zcv mc ms 4 0 wX4_isFull <| ktX11_proceed_24 mc ms X Q EX) <| zj X 27 []
def atX11_proceed_0 (mc ms : Nat) (X : Nat → zV) (Q : zQt) (EX : zEt) : zT :=
  zla 0 <| zgi 11 8 <| zif (fun x => x = 0) (zj X 27 []) <| zla 0 <| zgR 11 6 <| zcv mc ms 4 0 wX4_isOver <| ktX11_proceed_14 mc ms X Q EX
def atX11_proceed_27 (mc ms : Nat) (X : Nat → zV) (Q : zQt) (EX : zEt) : zT :=
  zth mc ms "java/lang/IllegalStateException" EX
def atX11_proceed_50 (mc ms : Nat) (X : Nat → zV) (Q : zQt) (EX : zEt) : zT :=
  zth mc ms "java/lang/IndexOutOfBoundsException" EX
def lvtX11_proceed : Nat → List Nat := fun L => match L with
  | 0 => [0, 1]
  | 27 => []
  | 50 => []
  | _ => []
def wtX11_proceed : zSpX := fun mc ms av M Q EX => ((zlay av).length ≤ 2 ∧ zpick (zlay av) [0, 1] = some av) ∧ ∀ X : Nat → zV, zin 2 [0, 1] (atX11_proceed_0 mc ms X Q EX) X 0 → zin 2 [] (atX11_proceed_27 mc ms X Q EX) X 27 → zin 2 [] (atX11_proceed_50 mc ms X Q EX) X 50 → X 0 0 0 av [] M
set_option maxRecDepth 100000 in
set_option maxHeartbeats 4000000 in
theorem stX11_proceed (l : Launch) (G : zG) (hE : zXt G) (hTh : zThr G) (hl : l.stackTraces = false) : zSndX l G yX11_proceed cX11_proceed 2 (some .int) 6 155 wtX11_proceed := by
  refine zmkX [0, 1] (by decide) (fun mc ms av M Q EX h => h.1) ?_
  intro p e R s m args below meth c mc ms av M Q EX hC hx hRf hRl hr hnm h lv hlv
  obtain ⟨X, hXe⟩ : ∃ X : Nat → zV, X = fun L u v vs st M => ∀ lv, zpick lv (lvtX11_proceed L) = some vs → zAt p l e R s m args below meth c (vx_MQ below (zQ G Q) (zXC G EX) args s mc ms (zA G)) G 2 L u v lv st M := ⟨_, rfl⟩
  have hJ : ∀ L, zOk p l e R s m args below meth c (vx_MQ below (zQ G Q) (zXC G EX) args s mc ms (zA G)) G 2 L (zj X L (lvtX11_proceed L)) := fun L => S_jump (fun u v lv vs st M hp hx => by rw [hXe] at hx; exact hx lv hp)
  have hB0 : zin 2 [0, 1] (atX11_proceed_0 mc ms X Q EX) X 0 := by
    intro u v vs st M hb
    rw [hXe]
    refine fun lv hp => S_block (L := 0) (live := [0, 1]) ?_ u v lv vs st M hp hb
    unfold atX11_proceed_0
    refine S_aload_n (pc := 0) hC dX11_proceed_0 rfl ?_
    refine S_geti (pc := 1) hC cfX11 (by decide) (Or.inr rfl) wd_354 dX11_proceed_1 ?_
    refine S_if_eq (pc := 4) (tgt := 27) hC dX11_proceed_4 (by decide) ?_ ?_
    · exact hJ 27
    · refine S_aload_n (pc := 7) hC dX11_proceed_7 rfl ?_
      refine S_getR (pc := 8) hC cfX11 (by decide) (Or.inl ⟨_, rfl⟩) wd_352 dX11_proceed_8 ?_
      refine S_callV (pc := 11) hC (sX4_isOver l G) rfl wd_945 wd_866 wd_867 wd_9 wd_868 (by decide +kernel) ⟨by rw [hRf]; decide, by rw [hRl]; decide⟩ dX11_proceed_11 ?_
      unfold ktX11_proceed_14
      refine S_if_ne (pc := 14) (tgt := 27) hC dX11_proceed_14 (by decide) ?_ ?_
      · exact hJ 27
      · refine S_aload_n (pc := 17) hC dX11_proceed_17 rfl ?_
        refine S_getR (pc := 18) hC cfX11 (by decide) (Or.inl ⟨_, rfl⟩) wd_352 dX11_proceed_18 ?_
        refine S_callV (pc := 21) hC (sX4_isFull l G) rfl wd_946 wd_871 wd_872 wd_9 wd_873 (by decide +kernel) ⟨by rw [hRf]; decide, by rw [hRl]; decide⟩ dX11_proceed_21 ?_
        unfold ktX11_proceed_24
        refine S_if_eq (pc := 24) (tgt := 35) hC dX11_proceed_24 (by decide) ?_ ?_
        · refine S_iload_n (pc := 35) hC dX11_proceed_35 rfl ?_
          refine S_if_lt (pc := 36) (tgt := 50) hC dX11_proceed_36 (by decide) ?_ ?_
          · exact hJ 50
          · refine S_iload_n (pc := 39) hC dX11_proceed_39 rfl ?_
            refine S_aload_n (pc := 40) hC dX11_proceed_40 rfl ?_
            refine S_getR (pc := 41) hC cfX11 (by decide) (Or.inl ⟨_, rfl⟩) wd_352 dX11_proceed_41 ?_
            refine S_geti (pc := 44) hC cfX4 (by decide) (Or.inl rfl) wd_325 dX11_proceed_44 ?_
            refine S_icmp_lt (pc := 47) (tgt := 58) hC dX11_proceed_47 (by decide) ?_ ?_
            · refine S_aload_n (pc := 58) hC dX11_proceed_58 rfl ?_
              refine S_getR (pc := 59) hC cfX11 (by decide) (Or.inl ⟨_, rfl⟩) wd_352 dX11_proceed_59 ?_
              refine S_aload_n (pc := 62) hC dX11_proceed_62 rfl ?_
              refine S_getR (pc := 63) hC cfX11 (by decide) (Or.inl ⟨_, rfl⟩) wd_352 dX11_proceed_63 ?_
              refine S_getR (pc := 66) hC cfX4 (by decide) (Or.inr ⟨_, rfl⟩) wd_319 dX11_proceed_66 ?_
              refine S_iload_n (pc := 69) hC dX11_proceed_69 rfl ?_
              refine S_iaload (pc := 70) hC dX11_proceed_70 ?_
              refine S_callV (pc := 71) hC (sX4_add l G hE.1) rfl wd_977 wd_808 wd_809 wd_9 wd_810 (by decide +kernel) ⟨by rw [hRf]; decide, by rw [hRl]; decide⟩ dX11_proceed_71 ?_
              unfold ktX11_proceed_74
              refine S_aload_n (pc := 74) hC dX11_proceed_74 rfl ?_
              refine S_getR (pc := 75) hC cfX11 (by decide) (Or.inl ⟨_, rfl⟩) wd_352 dX11_proceed_75 ?_
              refine S_callV (pc := 78) hC (sX4_verdict l G) rfl wd_589 wd_590 wd_591 wd_9 wd_592 (by decide +kernel) ⟨by rw [hRf]; decide, by rw [hRl]; decide⟩ dX11_proceed_78 ?_
              unfold ktX11_proceed_81
              exact zX_ret (S_ireturn (pc := 81) hC hr dX11_proceed_81)
            · exact hJ 50
        · exact hJ 27
  have hB27 : zin 2 [] (atX11_proceed_27 mc ms X Q EX) X 27 := by
    intro u v vs st M hb
    rw [hXe]
    refine fun lv hp => S_block (L := 27) (live := []) ?_ u v lv vs st M hp hb
    unfold atX11_proceed_27
    exact S_th (pc := 27) hC hTh hl hx (by decide) (by decide) wd_947 wd_26 thw_114 thx_114 tho_114 dX11_proceed_27 dX11_proceed_30 dX11_proceed_31 dX11_proceed_34 (by rw [hRf]; decide) (by rw [hRl]; decide)
  have hB50 : zin 2 [] (atX11_proceed_50 mc ms X Q EX) X 50 := by
    intro u v vs st M hb
    rw [hXe]
    refine fun lv hp => S_block (L := 50) (live := []) ?_ u v lv vs st M hp hb
    unfold atX11_proceed_50
    exact S_th (pc := 50) hC hTh hl hx (by decide) (by decide) wd_962 wd_27 thw_120 thx_120 tho_120 dX11_proceed_50 dX11_proceed_53 dX11_proceed_54 dX11_proceed_57 (by rw [hRf]; decide) (by rw [hRl]; decide)
  have := h.2 X hB0 hB27 hB50
  rw [hXe] at this
  exact this lv hlv
def ktX11_legalMove_5 (mc ms : Nat) (X : Nat → zV) (Q : zQt) (EX : zEt) : zT :=
  zif (fun x => x = 0) (zth mc ms "java/lang/IndexOutOfBoundsException" EX) <| zla 0 <| zgR 11 6 <| zgR 4 2 <| zli 1 <| zal 1 <| zri Q
def atX11_legalMove_0 (mc ms : Nat) (X : Nat → zV) (Q : zQt) (EX : zEt) : zT :=
  zla 0 <| zli 1 <| zcv mc ms 11 1 wX11_hasPlace <| ktX11_legalMove_5 mc ms X Q EX
def lvtX11_legalMove : Nat → List Nat := fun L => match L with
  | 0 => [0, 1]
  | _ => []
def wtX11_legalMove : zSpX := fun mc ms av M Q EX => ((zlay av).length ≤ 2 ∧ zpick (zlay av) [0, 1] = some av) ∧ ∀ X : Nat → zV, zin 2 [0, 1] (atX11_legalMove_0 mc ms X Q EX) X 0 → X 0 0 0 av [] M
set_option maxRecDepth 100000 in
set_option maxHeartbeats 4000000 in
theorem stX11_legalMove (l : Launch) (G : zG) (hE : zXt G) (hTh : zThr G) (hl : l.stackTraces = false) : zSndX l G yX11_legalMove cX11_legalMove 2 (some .int) 6 81 wtX11_legalMove := by
  refine zmkX [0, 1] (by decide) (fun mc ms av M Q EX h => h.1) ?_
  intro p e R s m args below meth c mc ms av M Q EX hC hx hRf hRl hr hnm h lv hlv
  obtain ⟨X, hXe⟩ : ∃ X : Nat → zV, X = fun L u v vs st M => ∀ lv, zpick lv (lvtX11_legalMove L) = some vs → zAt p l e R s m args below meth c (vx_MQ below (zQ G Q) (zXC G EX) args s mc ms (zA G)) G 2 L u v lv st M := ⟨_, rfl⟩
  have hJ : ∀ L, zOk p l e R s m args below meth c (vx_MQ below (zQ G Q) (zXC G EX) args s mc ms (zA G)) G 2 L (zj X L (lvtX11_legalMove L)) := fun L => S_jump (fun u v lv vs st M hp hx => by rw [hXe] at hx; exact hx lv hp)
  have hB0 : zin 2 [0, 1] (atX11_legalMove_0 mc ms X Q EX) X 0 := by
    intro u v vs st M hb
    rw [hXe]
    refine fun lv hp => S_block (L := 0) (live := [0, 1]) ?_ u v lv vs st M hp hb
    unfold atX11_legalMove_0
    refine S_aload_n (pc := 0) hC dX11_legalMove_0 rfl ?_
    refine S_iload_n (pc := 1) hC dX11_legalMove_1 rfl ?_
    refine S_callV (pc := 2) hC (sX11_hasPlace l G) rfl wd_985 wd_987 ws_40 wd_1 wd_988 (by decide +kernel) ⟨by rw [hRf]; decide, by rw [hRl]; decide⟩ dX11_legalMove_2 ?_
    unfold ktX11_legalMove_5
    refine S_if_ne (pc := 5) (tgt := 16) hC dX11_legalMove_5 (by decide) ?_ ?_
    · refine S_aload_n (pc := 16) hC dX11_legalMove_16 rfl ?_
      refine S_getR (pc := 17) hC cfX11 (by decide) (Or.inl ⟨_, rfl⟩) wd_352 dX11_legalMove_17 ?_
      refine S_getR (pc := 20) hC cfX4 (by decide) (Or.inr ⟨_, rfl⟩) wd_319 dX11_legalMove_20 ?_
      refine S_iload_n (pc := 23) hC dX11_legalMove_23 rfl ?_
      refine S_iaload (pc := 24) hC dX11_legalMove_24 ?_
      exact zX_ret (S_ireturn (pc := 25) hC hr dX11_legalMove_25)
    · exact S_th (pc := 8) hC hTh hl hx (by decide) (by decide) wd_962 wd_27 thw_120 thx_120 tho_120 dX11_legalMove_8 dX11_legalMove_11 dX11_legalMove_12 dX11_legalMove_15 (by rw [hRf]; decide) (by rw [hRl]; decide)
  have := h.2 X hB0
  rw [hXe] at this
  exact this lv hlv
def ktX11_spelling_28 (mc ms : Nat) (X : Nat → zV) (Q : zQt) (EX : zEt) : zT :=
  zrl Q
def ktX11_spelling_5 (mc ms : Nat) (X : Nat → zV) (Q : zQt) (EX : zEt) : zT :=
  zif (fun x => x = 0) (zth mc ms "java/lang/IndexOutOfBoundsException" EX) <| zla 0 <| zgR 11 2 <| zla 0 <| zgR 11 6 <| zli 1 <| zcv mc ms 9 2 wX9_whole <| ktX11_spelling_28 mc ms X Q EX
def atX11_spelling_0 (mc ms : Nat) (X : Nat → zV) (Q : zQt) (EX : zEt) : zT :=
  zla 0 <| zli 1 <| zcv mc ms 11 1 wX11_hasPlace <| ktX11_spelling_5 mc ms X Q EX
def lvtX11_spelling : Nat → List Nat := fun L => match L with
  | 0 => [0, 1]
  | _ => []
def wtX11_spelling : zSpX := fun mc ms av M Q EX => ((zlay av).length ≤ 2 ∧ zpick (zlay av) [0, 1] = some av) ∧ ∀ X : Nat → zV, zin 2 [0, 1] (atX11_spelling_0 mc ms X Q EX) X 0 → X 0 0 0 av [] M
set_option maxRecDepth 100000 in
set_option maxHeartbeats 4000000 in
theorem stX11_spelling (l : Launch) (G : zG) (hE : zXt G) (hTh : zThr G) (hl : l.stackTraces = false) : zSndX l G yX11_spelling cX11_spelling 2 (some .long) 7 180 wtX11_spelling := by
  refine zmkX [0, 1] (by decide) (fun mc ms av M Q EX h => h.1) ?_
  intro p e R s m args below meth c mc ms av M Q EX hC hx hRf hRl hr hnm h lv hlv
  obtain ⟨X, hXe⟩ : ∃ X : Nat → zV, X = fun L u v vs st M => ∀ lv, zpick lv (lvtX11_spelling L) = some vs → zAt p l e R s m args below meth c (vx_MQ below (zQ G Q) (zXC G EX) args s mc ms (zA G)) G 2 L u v lv st M := ⟨_, rfl⟩
  have hJ : ∀ L, zOk p l e R s m args below meth c (vx_MQ below (zQ G Q) (zXC G EX) args s mc ms (zA G)) G 2 L (zj X L (lvtX11_spelling L)) := fun L => S_jump (fun u v lv vs st M hp hx => by rw [hXe] at hx; exact hx lv hp)
  have hB0 : zin 2 [0, 1] (atX11_spelling_0 mc ms X Q EX) X 0 := by
    intro u v vs st M hb
    rw [hXe]
    refine fun lv hp => S_block (L := 0) (live := [0, 1]) ?_ u v lv vs st M hp hb
    unfold atX11_spelling_0
    refine S_aload_n (pc := 0) hC dX11_spelling_0 rfl ?_
    refine S_iload_n (pc := 1) hC dX11_spelling_1 rfl ?_
    refine S_callV (pc := 2) hC (sX11_hasPlace l G) rfl wd_985 wd_987 ws_40 wd_1 wd_988 (by decide +kernel) ⟨by rw [hRf]; decide, by rw [hRl]; decide⟩ dX11_spelling_2 ?_
    unfold ktX11_spelling_5
    refine S_if_ne (pc := 5) (tgt := 16) hC dX11_spelling_5 (by decide) ?_ ?_
    · refine S_aload_n (pc := 16) hC dX11_spelling_16 rfl ?_
      refine S_getR (pc := 17) hC cfX11 (by decide) (Or.inl ⟨_, rfl⟩) wd_348 dX11_spelling_17 ?_
      refine S_aload_n (pc := 20) hC dX11_spelling_20 rfl ?_
      refine S_getR (pc := 21) hC cfX11 (by decide) (Or.inl ⟨_, rfl⟩) wd_352 dX11_spelling_21 ?_
      refine S_iload_n (pc := 24) hC dX11_spelling_24 rfl ?_
      refine S_callV (pc := 25) hC (sX9_whole l G hE) rfl wd_996 wd_997 wd_998 wd_3 wd_999 (by decide +kernel) ⟨by rw [hRf]; decide, by rw [hRl]; decide⟩ dX11_spelling_25 ?_
      unfold ktX11_spelling_28
      exact zX_ret (S_lreturn (pc := 28) hC hr dX11_spelling_28)
    · exact S_th (pc := 8) hC hTh hl hx (by decide) (by decide) wd_962 wd_27 thw_120 thx_120 tho_120 dX11_spelling_8 dX11_spelling_11 dX11_spelling_12 dX11_spelling_15 (by rw [hRf]; decide) (by rw [hRl]; decide)
  have := h.2 X hB0
  rw [hXe] at this
  exact this lv hlv
def ktX11_linesTo_47 (mc ms : Nat) (X : Nat → zV) (Q : zQt) (EX : zEt) : zT :=
  zrl Q
def ktX11_linesTo_24 (mc ms : Nat) (X : Nat → zV) (Q : zQt) (EX : zEt) : zT :=
  zic (fun x y => x ≤ y) (zla 0 <| zgR 11 4 <| zla 0 <| zgR 11 6 <| zli 1 <| zcv mc ms 8 2 wX8_lines <| ktX11_linesTo_47 mc ms X Q EX) <| zj X 27 []
def atX11_linesTo_0 (mc ms : Nat) (X : Nat → zV) (Q : zQt) (EX : zEt) : zT :=
  zla 0 <| zgi 11 8 <| zif (fun x => x = 0) (zth mc ms "java/lang/IllegalStateException" EX) <| zli 1 <| zif (fun x => x < 0) (zj X 27 []) <| zli 1 <| zla 0 <| zcv mc ms 11 0 wX11_shortDepth <| ktX11_linesTo_24 mc ms X Q EX
def atX11_linesTo_27 (mc ms : Nat) (X : Nat → zV) (Q : zQt) (EX : zEt) : zT :=
  zth mc ms "java/lang/IllegalArgumentException" EX
def lvtX11_linesTo : Nat → List Nat := fun L => match L with
  | 0 => [0, 1]
  | 27 => []
  | _ => []
def wtX11_linesTo : zSpX := fun mc ms av M Q EX => ((zlay av).length ≤ 2 ∧ zpick (zlay av) [0, 1] = some av) ∧ ∀ X : Nat → zV, zin 2 [0, 1] (atX11_linesTo_0 mc ms X Q EX) X 0 → zin 2 [] (atX11_linesTo_27 mc ms X Q EX) X 27 → X 0 0 0 av [] M
set_option maxRecDepth 100000 in
set_option maxHeartbeats 4000000 in
theorem stX11_linesTo (l : Launch) (G : zG) (hE : zXt G) (hTh : zThr G) (hl : l.stackTraces = false) : zSndX l G yX11_linesTo cX11_linesTo 2 (some .long) 13 349 wtX11_linesTo := by
  refine zmkX [0, 1] (by decide) (fun mc ms av M Q EX h => h.1) ?_
  intro p e R s m args below meth c mc ms av M Q EX hC hx hRf hRl hr hnm h lv hlv
  obtain ⟨X, hXe⟩ : ∃ X : Nat → zV, X = fun L u v vs st M => ∀ lv, zpick lv (lvtX11_linesTo L) = some vs → zAt p l e R s m args below meth c (vx_MQ below (zQ G Q) (zXC G EX) args s mc ms (zA G)) G 2 L u v lv st M := ⟨_, rfl⟩
  have hJ : ∀ L, zOk p l e R s m args below meth c (vx_MQ below (zQ G Q) (zXC G EX) args s mc ms (zA G)) G 2 L (zj X L (lvtX11_linesTo L)) := fun L => S_jump (fun u v lv vs st M hp hx => by rw [hXe] at hx; exact hx lv hp)
  have hB0 : zin 2 [0, 1] (atX11_linesTo_0 mc ms X Q EX) X 0 := by
    intro u v vs st M hb
    rw [hXe]
    refine fun lv hp => S_block (L := 0) (live := [0, 1]) ?_ u v lv vs st M hp hb
    unfold atX11_linesTo_0
    refine S_aload_n (pc := 0) hC dX11_linesTo_0 rfl ?_
    refine S_geti (pc := 1) hC cfX11 (by decide) (Or.inr rfl) wd_354 dX11_linesTo_1 ?_
    refine S_if_ne (pc := 4) (tgt := 15) hC dX11_linesTo_4 (by decide) ?_ ?_
    · refine S_iload_n (pc := 15) hC dX11_linesTo_15 rfl ?_
      refine S_if_lt (pc := 16) (tgt := 27) hC dX11_linesTo_16 (by decide) ?_ ?_
      · exact hJ 27
      · refine S_iload_n (pc := 19) hC dX11_linesTo_19 rfl ?_
        refine S_aload_n (pc := 20) hC dX11_linesTo_20 rfl ?_
        refine S_callV (pc := 21) hC (sX11_shortDepth l G) rfl wd_1008 wd_1010 ws_41 wd_1 wd_1011 (by decide +kernel) ⟨by rw [hRf]; decide, by rw [hRl]; decide⟩ dX11_linesTo_21 ?_
        unfold ktX11_linesTo_24
        refine S_icmp_le (pc := 24) (tgt := 35) hC dX11_linesTo_24 (by decide) ?_ ?_
        · refine S_aload_n (pc := 35) hC dX11_linesTo_35 rfl ?_
          refine S_getR (pc := 36) hC cfX11 (by decide) (Or.inl ⟨_, rfl⟩) wd_350 dX11_linesTo_36 ?_
          refine S_aload_n (pc := 39) hC dX11_linesTo_39 rfl ?_
          refine S_getR (pc := 40) hC cfX11 (by decide) (Or.inl ⟨_, rfl⟩) wd_352 dX11_linesTo_40 ?_
          refine S_iload_n (pc := 43) hC dX11_linesTo_43 rfl ?_
          refine S_callV (pc := 44) hC (sX8_lines l G hE) rfl wd_1012 wd_1013 wd_1014 wd_7 wd_1015 (by decide +kernel) ⟨by rw [hRf]; decide, by rw [hRl]; decide⟩ dX11_linesTo_44 ?_
          unfold ktX11_linesTo_47
          exact zX_ret (S_lreturn (pc := 47) hC hr dX11_linesTo_47)
        · exact hJ 27
    · exact S_th (pc := 7) hC hTh hl hx (by decide) (by decide) wd_947 wd_26 thw_114 thx_114 tho_114 dX11_linesTo_7 dX11_linesTo_10 dX11_linesTo_11 dX11_linesTo_14 (by rw [hRf]; decide) (by rw [hRl]; decide)
  have hB27 : zin 2 [] (atX11_linesTo_27 mc ms X Q EX) X 27 := by
    intro u v vs st M hb
    rw [hXe]
    refine fun lv hp => S_block (L := 27) (live := []) ?_ u v lv vs st M hp hb
    unfold atX11_linesTo_27
    exact S_th (pc := 27) hC hTh hl hx (by decide) (by decide) wd_604 wd_17 thw_86 thx_86 tho_86 dX11_linesTo_27 dX11_linesTo_30 dX11_linesTo_31 dX11_linesTo_34 (by rw [hRf]; decide) (by rw [hRl]; decide)
  have := h.2 X hB0 hB27
  rw [hXe] at this
  exact this lv hlv
def ktX11_valueAt_47 (mc ms : Nat) (X : Nat → zV) (Q : zQt) (EX : zEt) : zT :=
  zla 0 <| zgR 11 4 <| zgi 8 1 <| zri Q
def ktX11_valueAt_24 (mc ms : Nat) (X : Nat → zV) (Q : zQt) (EX : zEt) : zT :=
  zic (fun x y => x ≤ y) (zla 0 <| zgR 11 4 <| zla 0 <| zgR 11 6 <| zli 1 <| zcv mc ms 8 2 wX8_look <| ktX11_valueAt_47 mc ms X Q EX) <| zj X 27 []
def atX11_valueAt_0 (mc ms : Nat) (X : Nat → zV) (Q : zQt) (EX : zEt) : zT :=
  zla 0 <| zgi 11 8 <| zif (fun x => x = 0) (zth mc ms "java/lang/IllegalStateException" EX) <| zli 1 <| zif (fun x => x < 0) (zj X 27 []) <| zli 1 <| zla 0 <| zcv mc ms 11 0 wX11_lookDepth <| ktX11_valueAt_24 mc ms X Q EX
def atX11_valueAt_27 (mc ms : Nat) (X : Nat → zV) (Q : zQt) (EX : zEt) : zT :=
  zth mc ms "java/lang/IllegalArgumentException" EX
def lvtX11_valueAt : Nat → List Nat := fun L => match L with
  | 0 => [0, 1]
  | 27 => []
  | _ => []
def wtX11_valueAt : zSpX := fun mc ms av M Q EX => ((zlay av).length ≤ 2 ∧ zpick (zlay av) [0, 1] = some av) ∧ ∀ X : Nat → zV, zin 2 [0, 1] (atX11_valueAt_0 mc ms X Q EX) X 0 → zin 2 [] (atX11_valueAt_27 mc ms X Q EX) X 27 → X 0 0 0 av [] M
set_option maxRecDepth 100000 in
set_option maxHeartbeats 4000000 in
theorem stX11_valueAt (l : Launch) (G : zG) (hE : zXt G) (hTh : zThr G) (hl : l.stackTraces = false) : zSndX l G yX11_valueAt cX11_valueAt 2 (some .int) 13 372 wtX11_valueAt := by
  refine zmkX [0, 1] (by decide) (fun mc ms av M Q EX h => h.1) ?_
  intro p e R s m args below meth c mc ms av M Q EX hC hx hRf hRl hr hnm h lv hlv
  obtain ⟨X, hXe⟩ : ∃ X : Nat → zV, X = fun L u v vs st M => ∀ lv, zpick lv (lvtX11_valueAt L) = some vs → zAt p l e R s m args below meth c (vx_MQ below (zQ G Q) (zXC G EX) args s mc ms (zA G)) G 2 L u v lv st M := ⟨_, rfl⟩
  have hJ : ∀ L, zOk p l e R s m args below meth c (vx_MQ below (zQ G Q) (zXC G EX) args s mc ms (zA G)) G 2 L (zj X L (lvtX11_valueAt L)) := fun L => S_jump (fun u v lv vs st M hp hx => by rw [hXe] at hx; exact hx lv hp)
  have hB0 : zin 2 [0, 1] (atX11_valueAt_0 mc ms X Q EX) X 0 := by
    intro u v vs st M hb
    rw [hXe]
    refine fun lv hp => S_block (L := 0) (live := [0, 1]) ?_ u v lv vs st M hp hb
    unfold atX11_valueAt_0
    refine S_aload_n (pc := 0) hC dX11_valueAt_0 rfl ?_
    refine S_geti (pc := 1) hC cfX11 (by decide) (Or.inr rfl) wd_354 dX11_valueAt_1 ?_
    refine S_if_ne (pc := 4) (tgt := 15) hC dX11_valueAt_4 (by decide) ?_ ?_
    · refine S_iload_n (pc := 15) hC dX11_valueAt_15 rfl ?_
      refine S_if_lt (pc := 16) (tgt := 27) hC dX11_valueAt_16 (by decide) ?_ ?_
      · exact hJ 27
      · refine S_iload_n (pc := 19) hC dX11_valueAt_19 rfl ?_
        refine S_aload_n (pc := 20) hC dX11_valueAt_20 rfl ?_
        refine S_callV (pc := 21) hC (sX11_lookDepth l G) rfl wd_1029 wd_1031 ws_42 wd_1 wd_1032 (by decide +kernel) ⟨by rw [hRf]; decide, by rw [hRl]; decide⟩ dX11_valueAt_21 ?_
        unfold ktX11_valueAt_24
        refine S_icmp_le (pc := 24) (tgt := 35) hC dX11_valueAt_24 (by decide) ?_ ?_
        · refine S_aload_n (pc := 35) hC dX11_valueAt_35 rfl ?_
          refine S_getR (pc := 36) hC cfX11 (by decide) (Or.inl ⟨_, rfl⟩) wd_350 dX11_valueAt_36 ?_
          refine S_aload_n (pc := 39) hC dX11_valueAt_39 rfl ?_
          refine S_getR (pc := 40) hC cfX11 (by decide) (Or.inl ⟨_, rfl⟩) wd_352 dX11_valueAt_40 ?_
          refine S_iload_n (pc := 43) hC dX11_valueAt_43 rfl ?_
          refine S_callV (pc := 44) hC (sX8_look l G hE) rfl wd_1033 wd_1034 wd_1035 wd_7 wd_1036 (by decide +kernel) ⟨by rw [hRf]; decide, by rw [hRl]; decide⟩ dX11_valueAt_44 ?_
          unfold ktX11_valueAt_47
          refine S_aload_n (pc := 47) hC dX11_valueAt_47 rfl ?_
          refine S_getR (pc := 48) hC cfX11 (by decide) (Or.inl ⟨_, rfl⟩) wd_350 dX11_valueAt_48 ?_
          refine S_geti (pc := 51) hC cfX8 (by decide) (Or.inl rfl) wd_175 dX11_valueAt_51 ?_
          exact zX_ret (S_ireturn (pc := 54) hC hr dX11_valueAt_54)
        · exact hJ 27
    · exact S_th (pc := 7) hC hTh hl hx (by decide) (by decide) wd_947 wd_26 thw_114 thx_114 tho_114 dX11_valueAt_7 dX11_valueAt_10 dX11_valueAt_11 dX11_valueAt_14 (by rw [hRf]; decide) (by rw [hRl]; decide)
  have hB27 : zin 2 [] (atX11_valueAt_27 mc ms X Q EX) X 27 := by
    intro u v vs st M hb
    rw [hXe]
    refine fun lv hp => S_block (L := 27) (live := []) ?_ u v lv vs st M hp hb
    unfold atX11_valueAt_27
    exact S_th (pc := 27) hC hTh hl hx (by decide) (by decide) wd_604 wd_17 thw_86 thx_86 tho_86 dX11_valueAt_27 dX11_valueAt_30 dX11_valueAt_31 dX11_valueAt_34 (by rw [hRf]; decide) (by rw [hRl]; decide)
  have := h.2 X hB0 hB27
  rw [hXe] at this
  exact this lv hlv
def ktX11_bestAt_47 (mc ms : Nat) (X : Nat → zV) (Q : zQt) (EX : zEt) : zT :=
  zla 0 <| zgR 11 4 <| zgi 8 2 <| zri Q
def ktX11_bestAt_24 (mc ms : Nat) (X : Nat → zV) (Q : zQt) (EX : zEt) : zT :=
  zic (fun x y => x ≤ y) (zla 0 <| zgR 11 4 <| zla 0 <| zgR 11 6 <| zli 1 <| zcv mc ms 8 2 wX8_look <| ktX11_bestAt_47 mc ms X Q EX) <| zj X 27 []
def atX11_bestAt_0 (mc ms : Nat) (X : Nat → zV) (Q : zQt) (EX : zEt) : zT :=
  zla 0 <| zgi 11 8 <| zif (fun x => x = 0) (zth mc ms "java/lang/IllegalStateException" EX) <| zli 1 <| zif (fun x => x < 0) (zj X 27 []) <| zli 1 <| zla 0 <| zcv mc ms 11 0 wX11_lookDepth <| ktX11_bestAt_24 mc ms X Q EX
def atX11_bestAt_27 (mc ms : Nat) (X : Nat → zV) (Q : zQt) (EX : zEt) : zT :=
  zth mc ms "java/lang/IllegalArgumentException" EX
def lvtX11_bestAt : Nat → List Nat := fun L => match L with
  | 0 => [0, 1]
  | 27 => []
  | _ => []
def wtX11_bestAt : zSpX := fun mc ms av M Q EX => ((zlay av).length ≤ 2 ∧ zpick (zlay av) [0, 1] = some av) ∧ ∀ X : Nat → zV, zin 2 [0, 1] (atX11_bestAt_0 mc ms X Q EX) X 0 → zin 2 [] (atX11_bestAt_27 mc ms X Q EX) X 27 → X 0 0 0 av [] M
set_option maxRecDepth 100000 in
set_option maxHeartbeats 4000000 in
theorem stX11_bestAt (l : Launch) (G : zG) (hE : zXt G) (hTh : zThr G) (hl : l.stackTraces = false) : zSndX l G yX11_bestAt cX11_bestAt 2 (some .int) 13 372 wtX11_bestAt := by
  refine zmkX [0, 1] (by decide) (fun mc ms av M Q EX h => h.1) ?_
  intro p e R s m args below meth c mc ms av M Q EX hC hx hRf hRl hr hnm h lv hlv
  obtain ⟨X, hXe⟩ : ∃ X : Nat → zV, X = fun L u v vs st M => ∀ lv, zpick lv (lvtX11_bestAt L) = some vs → zAt p l e R s m args below meth c (vx_MQ below (zQ G Q) (zXC G EX) args s mc ms (zA G)) G 2 L u v lv st M := ⟨_, rfl⟩
  have hJ : ∀ L, zOk p l e R s m args below meth c (vx_MQ below (zQ G Q) (zXC G EX) args s mc ms (zA G)) G 2 L (zj X L (lvtX11_bestAt L)) := fun L => S_jump (fun u v lv vs st M hp hx => by rw [hXe] at hx; exact hx lv hp)
  have hB0 : zin 2 [0, 1] (atX11_bestAt_0 mc ms X Q EX) X 0 := by
    intro u v vs st M hb
    rw [hXe]
    refine fun lv hp => S_block (L := 0) (live := [0, 1]) ?_ u v lv vs st M hp hb
    unfold atX11_bestAt_0
    refine S_aload_n (pc := 0) hC dX11_bestAt_0 rfl ?_
    refine S_geti (pc := 1) hC cfX11 (by decide) (Or.inr rfl) wd_354 dX11_bestAt_1 ?_
    refine S_if_ne (pc := 4) (tgt := 15) hC dX11_bestAt_4 (by decide) ?_ ?_
    · refine S_iload_n (pc := 15) hC dX11_bestAt_15 rfl ?_
      refine S_if_lt (pc := 16) (tgt := 27) hC dX11_bestAt_16 (by decide) ?_ ?_
      · exact hJ 27
      · refine S_iload_n (pc := 19) hC dX11_bestAt_19 rfl ?_
        refine S_aload_n (pc := 20) hC dX11_bestAt_20 rfl ?_
        refine S_callV (pc := 21) hC (sX11_lookDepth l G) rfl wd_1029 wd_1031 ws_42 wd_1 wd_1032 (by decide +kernel) ⟨by rw [hRf]; decide, by rw [hRl]; decide⟩ dX11_bestAt_21 ?_
        unfold ktX11_bestAt_24
        refine S_icmp_le (pc := 24) (tgt := 35) hC dX11_bestAt_24 (by decide) ?_ ?_
        · refine S_aload_n (pc := 35) hC dX11_bestAt_35 rfl ?_
          refine S_getR (pc := 36) hC cfX11 (by decide) (Or.inl ⟨_, rfl⟩) wd_350 dX11_bestAt_36 ?_
          refine S_aload_n (pc := 39) hC dX11_bestAt_39 rfl ?_
          refine S_getR (pc := 40) hC cfX11 (by decide) (Or.inl ⟨_, rfl⟩) wd_352 dX11_bestAt_40 ?_
          refine S_iload_n (pc := 43) hC dX11_bestAt_43 rfl ?_
          refine S_callV (pc := 44) hC (sX8_look l G hE) rfl wd_1033 wd_1034 wd_1035 wd_7 wd_1036 (by decide +kernel) ⟨by rw [hRf]; decide, by rw [hRl]; decide⟩ dX11_bestAt_44 ?_
          unfold ktX11_bestAt_47
          refine S_aload_n (pc := 47) hC dX11_bestAt_47 rfl ?_
          refine S_getR (pc := 48) hC cfX11 (by decide) (Or.inl ⟨_, rfl⟩) wd_350 dX11_bestAt_48 ?_
          refine S_geti (pc := 51) hC cfX8 (by decide) (Or.inl rfl) wd_177 dX11_bestAt_51 ?_
          exact zX_ret (S_ireturn (pc := 54) hC hr dX11_bestAt_54)
        · exact hJ 27
    · exact S_th (pc := 7) hC hTh hl hx (by decide) (by decide) wd_947 wd_26 thw_114 thx_114 tho_114 dX11_bestAt_7 dX11_bestAt_10 dX11_bestAt_11 dX11_bestAt_14 (by rw [hRf]; decide) (by rw [hRl]; decide)
  have hB27 : zin 2 [] (atX11_bestAt_27 mc ms X Q EX) X 27 := by
    intro u v vs st M hb
    rw [hXe]
    refine fun lv hp => S_block (L := 27) (live := []) ?_ u v lv vs st M hp hb
    unfold atX11_bestAt_27
    exact S_th (pc := 27) hC hTh hl hx (by decide) (by decide) wd_604 wd_17 thw_86 thx_86 tho_86 dX11_bestAt_27 dX11_bestAt_30 dX11_bestAt_31 dX11_bestAt_34 (by rw [hRf]; decide) (by rw [hRl]; decide)
  have := h.2 X hB0 hB27
  rw [hXe] at this
  exact this lv hlv
def ktX11_distanceToMate_29 (mc ms : Nat) (X : Nat → zV) (Q : zQt) (EX : zEt) : zT :=
  zri Q
def atX11_distanceToMate_0 (mc ms : Nat) (X : Nat → zV) (Q : zQt) (EX : zEt) : zT :=
  zla 0 <| zgi 11 8 <| zif (fun x => x = 0) (zth mc ms "java/lang/IllegalStateException" EX) <| zla 0 <| zgR 11 5 <| zla 0 <| zgR 11 6 <| zgR 4 0 <| zcv mc ms 3 1 wX3_distance <| ktX11_distanceToMate_29 mc ms X Q EX
def lvtX11_distanceToMate : Nat → List Nat := fun L => match L with
  | 0 => [0]
  | _ => []
def wtX11_distanceToMate : zSpX := fun mc ms av M Q EX => ((zlay av).length ≤ 1 ∧ zpick (zlay av) [0] = some av) ∧ ∀ X : Nat → zV, zin 1 [0] (atX11_distanceToMate_0 mc ms X Q EX) X 0 → X 0 0 0 av [] M
set_option maxRecDepth 100000 in
set_option maxHeartbeats 4000000 in
theorem stX11_distanceToMate (l : Launch) (G : zG) (hE : zXt G) (hTh : zThr G) (hl : l.stackTraces = false) : zSndX l G yX11_distanceToMate cX11_distanceToMate 1 (some .int) 6 158 wtX11_distanceToMate := by
  refine zmkX [0] (by decide) (fun mc ms av M Q EX h => h.1) ?_
  intro p e R s m args below meth c mc ms av M Q EX hC hx hRf hRl hr hnm h lv hlv
  obtain ⟨X, hXe⟩ : ∃ X : Nat → zV, X = fun L u v vs st M => ∀ lv, zpick lv (lvtX11_distanceToMate L) = some vs → zAt p l e R s m args below meth c (vx_MQ below (zQ G Q) (zXC G EX) args s mc ms (zA G)) G 1 L u v lv st M := ⟨_, rfl⟩
  have hJ : ∀ L, zOk p l e R s m args below meth c (vx_MQ below (zQ G Q) (zXC G EX) args s mc ms (zA G)) G 1 L (zj X L (lvtX11_distanceToMate L)) := fun L => S_jump (fun u v lv vs st M hp hx => by rw [hXe] at hx; exact hx lv hp)
  have hB0 : zin 1 [0] (atX11_distanceToMate_0 mc ms X Q EX) X 0 := by
    intro u v vs st M hb
    rw [hXe]
    refine fun lv hp => S_block (L := 0) (live := [0]) ?_ u v lv vs st M hp hb
    unfold atX11_distanceToMate_0
    refine S_aload_n (pc := 0) hC dX11_distanceToMate_0 rfl ?_
    refine S_geti (pc := 1) hC cfX11 (by decide) (Or.inr rfl) wd_354 dX11_distanceToMate_1 ?_
    refine S_if_ne (pc := 4) (tgt := 15) hC dX11_distanceToMate_4 (by decide) ?_ ?_
    · refine S_aload_n (pc := 15) hC dX11_distanceToMate_15 rfl ?_
      refine S_getR (pc := 16) hC cfX11 (by decide) (Or.inl ⟨_, rfl⟩) wd_351 dX11_distanceToMate_16 ?_
      refine S_aload_n (pc := 19) hC dX11_distanceToMate_19 rfl ?_
      refine S_getR (pc := 20) hC cfX11 (by decide) (Or.inl ⟨_, rfl⟩) wd_352 dX11_distanceToMate_20 ?_
      refine S_getR (pc := 23) hC cfX4 (by decide) (Or.inl ⟨_, rfl⟩) wd_311 dX11_distanceToMate_23 ?_
      refine S_callV (pc := 26) hC (sX3_distance l G) rfl wd_1056 wd_1057 wd_1058 wd_8 wd_1059 (by decide +kernel) ⟨by rw [hRf]; decide, by rw [hRl]; decide⟩ dX11_distanceToMate_26 ?_
      unfold ktX11_distanceToMate_29
      exact zX_ret (S_ireturn (pc := 29) hC hr dX11_distanceToMate_29)
    · exact S_th (pc := 7) hC hTh hl hx (by decide) (by decide) wd_947 wd_26 thw_114 thx_114 tho_114 dX11_distanceToMate_7 dX11_distanceToMate_10 dX11_distanceToMate_11 dX11_distanceToMate_14 (by rw [hRf]; decide) (by rw [hRl]; decide)
  have := h.2 X hB0
  rw [hXe] at this
  exact this lv hlv
def ktX11_matingMove_26 (mc ms : Nat) (X : Nat → zV) (Q : zQt) (EX : zEt) : zT :=
  zri Q
def atX11_matingMove_0 (mc ms : Nat) (X : Nat → zV) (Q : zQt) (EX : zEt) : zT :=
  zla 0 <| zgi 11 8 <| zif (fun x => x = 0) (zth mc ms "java/lang/IllegalStateException" EX) <| zla 0 <| zgR 11 5 <| zla 0 <| zgR 11 6 <| zcv mc ms 3 1 wX3_nearer <| ktX11_matingMove_26 mc ms X Q EX
def lvtX11_matingMove : Nat → List Nat := fun L => match L with
  | 0 => [0]
  | _ => []
def wtX11_matingMove : zSpX := fun mc ms av M Q EX => ((zlay av).length ≤ 1 ∧ zpick (zlay av) [0] = some av) ∧ ∀ X : Nat → zV, zin 1 [0] (atX11_matingMove_0 mc ms X Q EX) X 0 → X 0 0 0 av [] M
set_option maxRecDepth 100000 in
set_option maxHeartbeats 4000000 in
theorem stX11_matingMove (l : Launch) (G : zG) (hE : zXt G) (hTh : zThr G) (hl : l.stackTraces = false) : zSndX l G yX11_matingMove cX11_matingMove 1 (some .int) 7 182 wtX11_matingMove := by
  refine zmkX [0] (by decide) (fun mc ms av M Q EX h => h.1) ?_
  intro p e R s m args below meth c mc ms av M Q EX hC hx hRf hRl hr hnm h lv hlv
  obtain ⟨X, hXe⟩ : ∃ X : Nat → zV, X = fun L u v vs st M => ∀ lv, zpick lv (lvtX11_matingMove L) = some vs → zAt p l e R s m args below meth c (vx_MQ below (zQ G Q) (zXC G EX) args s mc ms (zA G)) G 1 L u v lv st M := ⟨_, rfl⟩
  have hJ : ∀ L, zOk p l e R s m args below meth c (vx_MQ below (zQ G Q) (zXC G EX) args s mc ms (zA G)) G 1 L (zj X L (lvtX11_matingMove L)) := fun L => S_jump (fun u v lv vs st M hp hx => by rw [hXe] at hx; exact hx lv hp)
  have hB0 : zin 1 [0] (atX11_matingMove_0 mc ms X Q EX) X 0 := by
    intro u v vs st M hb
    rw [hXe]
    refine fun lv hp => S_block (L := 0) (live := [0]) ?_ u v lv vs st M hp hb
    unfold atX11_matingMove_0
    refine S_aload_n (pc := 0) hC dX11_matingMove_0 rfl ?_
    refine S_geti (pc := 1) hC cfX11 (by decide) (Or.inr rfl) wd_354 dX11_matingMove_1 ?_
    refine S_if_ne (pc := 4) (tgt := 15) hC dX11_matingMove_4 (by decide) ?_ ?_
    · refine S_aload_n (pc := 15) hC dX11_matingMove_15 rfl ?_
      refine S_getR (pc := 16) hC cfX11 (by decide) (Or.inl ⟨_, rfl⟩) wd_351 dX11_matingMove_16 ?_
      refine S_aload_n (pc := 19) hC dX11_matingMove_19 rfl ?_
      refine S_getR (pc := 20) hC cfX11 (by decide) (Or.inl ⟨_, rfl⟩) wd_352 dX11_matingMove_20 ?_
      refine S_callV (pc := 23) hC (sX3_nearer l G hE.1) rfl wd_1171 wd_1172 wd_1173 wd_8 wd_1174 (by decide +kernel) ⟨by rw [hRf]; decide, by rw [hRl]; decide⟩ dX11_matingMove_23 ?_
      unfold ktX11_matingMove_26
      exact zX_ret (S_ireturn (pc := 26) hC hr dX11_matingMove_26)
    · exact S_th (pc := 7) hC hTh hl hx (by decide) (by decide) wd_947 wd_26 thw_114 thx_114 tho_114 dX11_matingMove_7 dX11_matingMove_10 dX11_matingMove_11 dX11_matingMove_14 (by rw [hRf]; decide) (by rw [hRl]; decide)
  have := h.2 X hB0
  rw [hXe] at this
  exact this lv hlv
def atX11_historyOf_0 (mc ms : Nat) (X : Nat → zV) (Q : zQt) (EX : zEt) : zT :=
  zla 0 <| zgi 11 8 <| zif (fun x => x = 0) (zj X 32 []) <| zli 1 <| zif (fun x => x < 0) (zj X 32 []) <| zli 1 <| zla 0 <| zgR 11 6 <| zgi 4 4 <| zic (fun x y => y ≤ x) (zj X 32 []) <| zli 2 <| zif (fun x => x < 0) (zj X 32 []) <| zli 2 <| zc (.int 8) <| zic (fun x y => x < y) (zla 0 <| zgR 11 6 <| zgR 4 5 <| zli 1 <| zc (.int 8) <| zii (fun x y => x * y) <| zli 2 <| zii (fun x y => x + y) <| zal 1 <| zri Q) <| zj X 32 []
def atX11_historyOf_32 (mc ms : Nat) (X : Nat → zV) (Q : zQt) (EX : zEt) : zT :=
  zth mc ms "java/lang/IndexOutOfBoundsException" EX
def lvtX11_historyOf : Nat → List Nat := fun L => match L with
  | 0 => [0, 1, 2]
  | 32 => []
  | _ => []
def wtX11_historyOf : zSpX := fun mc ms av M Q EX => ((zlay av).length ≤ 3 ∧ zpick (zlay av) [0, 1, 2] = some av) ∧ ∀ X : Nat → zV, zin 3 [0, 1, 2] (atX11_historyOf_0 mc ms X Q EX) X 0 → zin 3 [] (atX11_historyOf_32 mc ms X Q EX) X 32 → X 0 0 0 av [] M
set_option maxRecDepth 100000 in
set_option maxHeartbeats 4000000 in
theorem stX11_historyOf (l : Launch) (G : zG) (hE : zXt G) (hTh : zThr G) (hl : l.stackTraces = false) : zSndX l G yX11_historyOf cX11_historyOf 3 (some .int) 6 81 wtX11_historyOf := by
  refine zmkX [0, 1, 2] (by decide) (fun mc ms av M Q EX h => h.1) ?_
  intro p e R s m args below meth c mc ms av M Q EX hC hx hRf hRl hr hnm h lv hlv
  obtain ⟨X, hXe⟩ : ∃ X : Nat → zV, X = fun L u v vs st M => ∀ lv, zpick lv (lvtX11_historyOf L) = some vs → zAt p l e R s m args below meth c (vx_MQ below (zQ G Q) (zXC G EX) args s mc ms (zA G)) G 3 L u v lv st M := ⟨_, rfl⟩
  have hJ : ∀ L, zOk p l e R s m args below meth c (vx_MQ below (zQ G Q) (zXC G EX) args s mc ms (zA G)) G 3 L (zj X L (lvtX11_historyOf L)) := fun L => S_jump (fun u v lv vs st M hp hx => by rw [hXe] at hx; exact hx lv hp)
  have hB0 : zin 3 [0, 1, 2] (atX11_historyOf_0 mc ms X Q EX) X 0 := by
    intro u v vs st M hb
    rw [hXe]
    refine fun lv hp => S_block (L := 0) (live := [0, 1, 2]) ?_ u v lv vs st M hp hb
    unfold atX11_historyOf_0
    refine S_aload_n (pc := 0) hC dX11_historyOf_0 rfl ?_
    refine S_geti (pc := 1) hC cfX11 (by decide) (Or.inr rfl) wd_354 dX11_historyOf_1 ?_
    refine S_if_eq (pc := 4) (tgt := 32) hC dX11_historyOf_4 (by decide) ?_ ?_
    · exact hJ 32
    · refine S_iload_n (pc := 7) hC dX11_historyOf_7 rfl ?_
      refine S_if_lt (pc := 8) (tgt := 32) hC dX11_historyOf_8 (by decide) ?_ ?_
      · exact hJ 32
      · refine S_iload_n (pc := 11) hC dX11_historyOf_11 rfl ?_
        refine S_aload_n (pc := 12) hC dX11_historyOf_12 rfl ?_
        refine S_getR (pc := 13) hC cfX11 (by decide) (Or.inl ⟨_, rfl⟩) wd_352 dX11_historyOf_13 ?_
        refine S_geti (pc := 16) hC cfX4 (by decide) (Or.inl rfl) wd_327 dX11_historyOf_16 ?_
        refine S_icmp_ge (pc := 19) (tgt := 32) hC dX11_historyOf_19 (by decide) ?_ ?_
        · exact hJ 32
        · refine S_iload_n (pc := 22) hC dX11_historyOf_22 rfl ?_
          refine S_if_lt (pc := 23) (tgt := 32) hC dX11_historyOf_23 (by decide) ?_ ?_
          · exact hJ 32
          · refine S_iload_n (pc := 26) hC dX11_historyOf_26 rfl ?_
            refine S_bipush (pc := 27) hC dX11_historyOf_27 (by decide) ?_
            refine S_icmp_lt (pc := 29) (tgt := 40) hC dX11_historyOf_29 (by decide) ?_ ?_
            · refine S_aload_n (pc := 40) hC dX11_historyOf_40 rfl ?_
              refine S_getR (pc := 41) hC cfX11 (by decide) (Or.inl ⟨_, rfl⟩) wd_352 dX11_historyOf_41 ?_
              refine S_getR (pc := 44) hC cfX4 (by decide) (Or.inr ⟨_, rfl⟩) wd_329 dX11_historyOf_44 ?_
              refine S_iload_n (pc := 47) hC dX11_historyOf_47 rfl ?_
              refine S_bipush (pc := 48) hC dX11_historyOf_48 (by decide) ?_
              refine S_imul (pc := 50) hC dX11_historyOf_50 ?_
              refine S_iload_n (pc := 51) hC dX11_historyOf_51 rfl ?_
              refine S_iadd (pc := 52) hC dX11_historyOf_52 ?_
              refine S_iaload (pc := 53) hC dX11_historyOf_53 ?_
              exact zX_ret (S_ireturn (pc := 54) hC hr dX11_historyOf_54)
            · exact hJ 32
  have hB32 : zin 3 [] (atX11_historyOf_32 mc ms X Q EX) X 32 := by
    intro u v vs st M hb
    rw [hXe]
    refine fun lv hp => S_block (L := 32) (live := []) ?_ u v lv vs st M hp hb
    unfold atX11_historyOf_32
    exact S_th (pc := 32) hC hTh hl hx (by decide) (by decide) wd_962 wd_27 thw_120 thx_120 tho_120 dX11_historyOf_32 dX11_historyOf_35 dX11_historyOf_36 dX11_historyOf_39 (by rw [hRf]; decide) (by rw [hRl]; decide)
  have := h.2 X hB0 hB32
  rw [hXe] at this
  exact this lv hlv
