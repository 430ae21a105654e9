theorem dX12_attacked_0 : decode cX12_attacked 0 = .ok (.iload_n 3, 1) := by decide +kernel
theorem dX12_attacked_1 : decode cX12_attacked 1 = .ok (.bipush 8, 2) := by decide +kernel
theorem dX12_attacked_3 : decode cX12_attacked 3 = .ok (.irem, 1) := by decide +kernel
theorem dX12_attacked_4 : decode cX12_attacked 4 = .ok (.iload 5, 2) := by decide +kernel
theorem dX12_attacked_6 : decode cX12_attacked 6 = .ok (.bipush 8, 2) := by decide +kernel
theorem dX12_attacked_8 : decode cX12_attacked 8 = .ok (.irem, 1) := by decide +kernel
theorem dX12_attacked_9 : decode cX12_attacked 9 = .ok (.isub, 1) := by decide +kernel
theorem dX12_attacked_10 : decode cX12_attacked 10 = .ok (.invokestatic 50, 3) := by decide +kernel
theorem dX12_attacked_13 : decode cX12_attacked 13 = .ok (.istore 6, 2) := by decide +kernel
theorem dX12_attacked_15 : decode cX12_attacked 15 = .ok (.iload_n 3, 1) := by decide +kernel
theorem dX12_attacked_16 : decode cX12_attacked 16 = .ok (.bipush 8, 2) := by decide +kernel
theorem dX12_attacked_18 : decode cX12_attacked 18 = .ok (.idiv, 1) := by decide +kernel
theorem dX12_attacked_19 : decode cX12_attacked 19 = .ok (.iload 5, 2) := by decide +kernel
theorem dX12_attacked_21 : decode cX12_attacked 21 = .ok (.bipush 8, 2) := by decide +kernel
theorem dX12_attacked_23 : decode cX12_attacked 23 = .ok (.idiv, 1) := by decide +kernel
theorem dX12_attacked_24 : decode cX12_attacked 24 = .ok (.isub, 1) := by decide +kernel
theorem dX12_attacked_25 : decode cX12_attacked 25 = .ok (.invokestatic 50, 3) := by decide +kernel
theorem dX12_attacked_28 : decode cX12_attacked 28 = .ok (.istore 7, 2) := by decide +kernel
theorem dX12_attacked_30 : decode cX12_attacked 30 = .ok (.iload_n 1, 1) := by decide +kernel
theorem dX12_attacked_31 : decode cX12_attacked 31 = .ok (.iconst 1, 1) := by decide +kernel
theorem dX12_attacked_32 : decode cX12_attacked 32 = .ok (.if_icmp .ne 29, 3) := by decide +kernel
theorem dX12_attacked_35 : decode cX12_attacked 35 = .ok (.iload 6, 2) := by decide +kernel
theorem dX12_attacked_37 : decode cX12_attacked 37 = .ok (.iconst 1, 1) := by decide +kernel
theorem dX12_attacked_38 : decode cX12_attacked 38 = .ok (.if_icmp .ne 21, 3) := by decide +kernel
theorem dX12_attacked_41 : decode cX12_attacked 41 = .ok (.iload 5, 2) := by decide +kernel
theorem dX12_attacked_43 : decode cX12_attacked 43 = .ok (.bipush 8, 2) := by decide +kernel
theorem dX12_attacked_45 : decode cX12_attacked 45 = .ok (.idiv, 1) := by decide +kernel
theorem dX12_attacked_46 : decode cX12_attacked 46 = .ok (.iload_n 3, 1) := by decide +kernel
theorem dX12_attacked_47 : decode cX12_attacked 47 = .ok (.bipush 8, 2) := by decide +kernel
theorem dX12_attacked_49 : decode cX12_attacked 49 = .ok (.idiv, 1) := by decide +kernel
theorem dX12_attacked_50 : decode cX12_attacked 50 = .ok (.iconst 1, 1) := by decide +kernel
theorem dX12_attacked_51 : decode cX12_attacked 51 = .ok (.iadd, 1) := by decide +kernel
theorem dX12_attacked_52 : decode cX12_attacked 52 = .ok (.if_icmp .ne 7, 3) := by decide +kernel
theorem dX12_attacked_55 : decode cX12_attacked 55 = .ok (.iconst 1, 1) := by decide +kernel
theorem dX12_attacked_56 : decode cX12_attacked 56 = .ok (.goto 4, 3) := by decide +kernel
theorem dX12_attacked_59 : decode cX12_attacked 59 = .ok (.iconst 0, 1) := by decide +kernel
theorem dX12_attacked_60 : decode cX12_attacked 60 = .ok (.ireturn, 1) := by decide +kernel
theorem dX12_attacked_61 : decode cX12_attacked 61 = .ok (.iload_n 1, 1) := by decide +kernel
theorem dX12_attacked_62 : decode cX12_attacked 62 = .ok (.iconst 2, 1) := by decide +kernel
theorem dX12_attacked_63 : decode cX12_attacked 63 = .ok (.if_icmp .ne 28, 3) := by decide +kernel
theorem dX12_attacked_66 : decode cX12_attacked 66 = .ok (.iload 6, 2) := by decide +kernel
theorem dX12_attacked_68 : decode cX12_attacked 68 = .ok (.iload 7, 2) := by decide +kernel
theorem dX12_attacked_70 : decode cX12_attacked 70 = .ok (.iadd, 1) := by decide +kernel
theorem dX12_attacked_71 : decode cX12_attacked 71 = .ok (.iconst 3, 1) := by decide +kernel
theorem dX12_attacked_72 : decode cX12_attacked 72 = .ok (.if_icmp .ne 17, 3) := by decide +kernel
theorem dX12_attacked_75 : decode cX12_attacked 75 = .ok (.iload 6, 2) := by decide +kernel
theorem dX12_attacked_77 : decode cX12_attacked 77 = .ok (.ifCond .le 12, 3) := by decide +kernel
theorem dX12_attacked_80 : decode cX12_attacked 80 = .ok (.iload 7, 2) := by decide +kernel
theorem dX12_attacked_82 : decode cX12_attacked 82 = .ok (.ifCond .le 7, 3) := by decide +kernel
theorem dX12_attacked_85 : decode cX12_attacked 85 = .ok (.iconst 1, 1) := by decide +kernel
theorem dX12_attacked_86 : decode cX12_attacked 86 = .ok (.goto 4, 3) := by decide +kernel
theorem dX12_attacked_89 : decode cX12_attacked 89 = .ok (.iconst 0, 1) := by decide +kernel
theorem dX12_attacked_90 : decode cX12_attacked 90 = .ok (.ireturn, 1) := by decide +kernel
theorem dX12_attacked_91 : decode cX12_attacked 91 = .ok (.iload 6, 2) := by decide +kernel
theorem dX12_attacked_93 : decode cX12_attacked 93 = .ok (.ifCond .ne 7, 3) := by decide +kernel
theorem dX12_attacked_96 : decode cX12_attacked 96 = .ok (.iconst 1, 1) := by decide +kernel
theorem dX12_attacked_97 : decode cX12_attacked 97 = .ok (.goto 4, 3) := by decide +kernel
theorem dX12_attacked_100 : decode cX12_attacked 100 = .ok (.iconst 0, 1) := by decide +kernel
theorem dX12_attacked_101 : decode cX12_attacked 101 = .ok (.iload 7, 2) := by decide +kernel
theorem dX12_attacked_103 : decode cX12_attacked 103 = .ok (.ifCond .ne 7, 3) := by decide +kernel
theorem dX12_attacked_106 : decode cX12_attacked 106 = .ok (.iconst 1, 1) := by decide +kernel
theorem dX12_attacked_107 : decode cX12_attacked 107 = .ok (.goto 4, 3) := by decide +kernel
theorem dX12_attacked_110 : decode cX12_attacked 110 = .ok (.iconst 0, 1) := by decide +kernel
theorem dX12_attacked_111 : decode cX12_attacked 111 = .ok (.if_icmp .eq 7, 3) := by decide +kernel
theorem dX12_attacked_114 : decode cX12_attacked 114 = .ok (.iconst 1, 1) := by decide +kernel
theorem dX12_attacked_115 : decode cX12_attacked 115 = .ok (.goto 4, 3) := by decide +kernel
theorem dX12_attacked_118 : decode cX12_attacked 118 = .ok (.iconst 0, 1) := by decide +kernel
theorem dX12_attacked_119 : decode cX12_attacked 119 = .ok (.istore 8, 2) := by decide +kernel
theorem dX12_attacked_121 : decode cX12_attacked 121 = .ok (.iload 6, 2) := by decide +kernel
theorem dX12_attacked_123 : decode cX12_attacked 123 = .ok (.iload 7, 2) := by decide +kernel
theorem dX12_attacked_125 : decode cX12_attacked 125 = .ok (.if_icmp .ne 12, 3) := by decide +kernel
theorem dX12_attacked_128 : decode cX12_attacked 128 = .ok (.iload 6, 2) := by decide +kernel
theorem dX12_attacked_130 : decode cX12_attacked 130 = .ok (.ifCond .le 7, 3) := by decide +kernel
theorem dX12_attacked_133 : decode cX12_attacked 133 = .ok (.iconst 1, 1) := by decide +kernel
theorem dX12_attacked_134 : decode cX12_attacked 134 = .ok (.goto 4, 3) := by decide +kernel
theorem dX12_attacked_137 : decode cX12_attacked 137 = .ok (.iconst 0, 1) := by decide +kernel
theorem dX12_attacked_138 : decode cX12_attacked 138 = .ok (.istore 9, 2) := by decide +kernel
theorem dX12_attacked_140 : decode cX12_attacked 140 = .ok (.iload_n 1, 1) := by decide +kernel
theorem dX12_attacked_141 : decode cX12_attacked 141 = .ok (.iconst 3, 1) := by decide +kernel
theorem dX12_attacked_142 : decode cX12_attacked 142 = .ok (.if_icmp .ne 8, 3) := by decide +kernel
theorem dX12_attacked_145 : decode cX12_attacked 145 = .ok (.iload 9, 2) := by decide +kernel
theorem dX12_attacked_147 : decode cX12_attacked 147 = .ok (.goto 28, 3) := by decide +kernel
theorem dX12_attacked_150 : decode cX12_attacked 150 = .ok (.iload_n 1, 1) := by decide +kernel
theorem dX12_attacked_151 : decode cX12_attacked 151 = .ok (.iconst 4, 1) := by decide +kernel
theorem dX12_attacked_152 : decode cX12_attacked 152 = .ok (.if_icmp .ne 8, 3) := by decide +kernel
theorem dX12_attacked_155 : decode cX12_attacked 155 = .ok (.iload 8, 2) := by decide +kernel
theorem dX12_attacked_157 : decode cX12_attacked 157 = .ok (.goto 18, 3) := by decide +kernel
theorem dX12_attacked_160 : decode cX12_attacked 160 = .ok (.iload 8, 2) := by decide +kernel
theorem dX12_attacked_162 : decode cX12_attacked 162 = .ok (.ifCond .ne 8, 3) := by decide +kernel
theorem dX12_attacked_165 : decode cX12_attacked 165 = .ok (.iload 9, 2) := by decide +kernel
theorem dX12_attacked_167 : decode cX12_attacked 167 = .ok (.ifCond .eq 7, 3) := by decide +kernel
theorem dX12_attacked_170 : decode cX12_attacked 170 = .ok (.iconst 1, 1) := by decide +kernel
theorem dX12_attacked_171 : decode cX12_attacked 171 = .ok (.goto 4, 3) := by decide +kernel
theorem dX12_attacked_174 : decode cX12_attacked 174 = .ok (.iconst 0, 1) := by decide +kernel
theorem dX12_attacked_175 : decode cX12_attacked 175 = .ok (.istore 10, 2) := by decide +kernel
theorem dX12_attacked_177 : decode cX12_attacked 177 = .ok (.iload 10, 2) := by decide +kernel
theorem dX12_attacked_179 : decode cX12_attacked 179 = .ok (.ifCond .eq 20, 3) := by decide +kernel
theorem dX12_attacked_182 : decode cX12_attacked 182 = .ok (.aload_n 0, 1) := by decide +kernel
theorem dX12_attacked_183 : decode cX12_attacked 183 = .ok (.iload_n 3, 1) := by decide +kernel
theorem dX12_attacked_184 : decode cX12_attacked 184 = .ok (.iload 5, 2) := by decide +kernel
theorem dX12_attacked_186 : decode cX12_attacked 186 = .ok (.iload_n 2, 1) := by decide +kernel
theorem dX12_attacked_187 : decode cX12_attacked 187 = .ok (.iload 4, 2) := by decide +kernel
theorem dX12_attacked_189 : decode cX12_attacked 189 = .ok (.invokevirtual 54, 3) := by decide +kernel
theorem dX12_attacked_192 : decode cX12_attacked 192 = .ok (.ifCond .eq 7, 3) := by decide +kernel
theorem dX12_attacked_195 : decode cX12_attacked 195 = .ok (.iconst 1, 1) := by decide +kernel
theorem dX12_attacked_196 : decode cX12_attacked 196 = .ok (.goto 4, 3) := by decide +kernel
theorem dX12_attacked_199 : decode cX12_attacked 199 = .ok (.iconst 0, 1) := by decide +kernel
theorem dX12_attacked_200 : decode cX12_attacked 200 = .ok (.ireturn, 1) := by decide +kernel
def kX12_attacked_28 (mc ms : Nat) (X : Nat → zV) (Q : zQt) : zT :=
  zsi 7 <| zli 1 <| zc (.int 1) <| zic (fun x y => x = y) (zli 6 <| zc (.int 1) <| zic (fun x y => x = y) (zli 5 <| zc (.int 8) <| zid (fun x y => x / y) <| zli 3 <| zc (.int 8) <| zid (fun x y => x / y) <| zc (.int 1) <| zii (fun x y => x + y) <| zic (fun x y => x = y) (zc (.int 1) <| zj X 60 []) <| zj X 59 []) <| zj X 59 []) <| zli 1 <| zc (.int 2) <| zic (fun x y => x = y) (zli 6 <| zli 7 <| zii (fun x y => x + y) <| zc (.int 3) <| zic (fun x y => x = y) (zli 6 <| zif (fun x => x ≤ 0) (zj X 89 []) <| zli 7 <| zif (fun x => x ≤ 0) (zj X 89 []) <| zc (.int 1) <| zj X 90 []) <| zj X 89 []) <| zli 6 <| zif (fun x => x = 0) (zc (.int 1) <| zj X 101 [0, 1, 2, 3, 4, 5, 6, 7]) <| zc (.int 0) <| zj X 101 [0, 1, 2, 3, 4, 5, 6, 7]
def kX12_attacked_13 (mc ms : Nat) (X : Nat → zV) (Q : zQt) : zT :=
  zsi 6 <| zli 3 <| zc (.int 8) <| zid (fun x y => x / y) <| zli 5 <| zc (.int 8) <| zid (fun x y => x / y) <| zii (fun x y => x - y) <| zcs mc ms 1 wX12_amount <| kX12_attacked_28 mc ms X Q
def kX12_attacked_192 (mc ms : Nat) (X : Nat → zV) (Q : zQt) : zT :=
  zif (fun x => x = 0) (zj X 199 []) <| zc (.int 1) <| zj X 200 []
def aX12_attacked_0 (mc ms : Nat) (X : Nat → zV) (Q : zQt) : zT :=
  zli 3 <| zc (.int 8) <| zid (fun x y => x - x / y * y) <| zli 5 <| zc (.int 8) <| zid (fun x y => x - x / y * y) <| zii (fun x y => x - y) <| zcs mc ms 1 wX12_amount <| kX12_attacked_13 mc ms X Q
def aX12_attacked_59 (mc ms : Nat) (X : Nat → zV) (Q : zQt) : zT :=
  zc (.int 0) <| zj X 60 []
def aX12_attacked_60 (mc ms : Nat) (X : Nat → zV) (Q : zQt) : zT :=
  zrz .boolean Q
def aX12_attacked_89 (mc ms : Nat) (X : Nat → zV) (Q : zQt) : zT :=
  zc (.int 0) <| zj X 90 []
def aX12_attacked_90 (mc ms : Nat) (X : Nat → zV) (Q : zQt) : zT :=
  zrz .boolean Q
def aX12_attacked_101 (mc ms : Nat) (X : Nat → zV) (Q : zQt) : zT :=
  zli 7 <| zif (fun x => x = 0) (zc (.int 1) <| zj X 111 [0, 1, 2, 3, 4, 5, 6, 7]) <| zc (.int 0) <| zj X 111 [0, 1, 2, 3, 4, 5, 6, 7]
def aX12_attacked_111 (mc ms : Nat) (X : Nat → zV) (Q : zQt) : zT :=
  zic (fun x y => x = y) (zc (.int 0) <| zj X 119 [0, 1, 2, 3, 4, 5, 6, 7]) <| zc (.int 1) <| zj X 119 [0, 1, 2, 3, 4, 5, 6, 7]
def aX12_attacked_119 (mc ms : Nat) (X : Nat → zV) (Q : zQt) : zT :=
  zsi 8 <| zli 6 <| zli 7 <| zic (fun x y => x = y) (zli 6 <| zif (fun x => x ≤ 0) (zj X 137 [0, 1, 2, 3, 4, 5, 8]) <| zc (.int 1) <| zj X 138 [0, 1, 2, 3, 4, 5, 8]) <| zj X 137 [0, 1, 2, 3, 4, 5, 8]
def aX12_attacked_137 (mc ms : Nat) (X : Nat → zV) (Q : zQt) : zT :=
  zc (.int 0) <| zj X 138 [0, 1, 2, 3, 4, 5, 8]
def aX12_attacked_138 (mc ms : Nat) (X : Nat → zV) (Q : zQt) : zT :=
  zsi 9 <| zli 1 <| zc (.int 3) <| zic (fun x y => x = y) (zli 9 <| zj X 175 [0, 2, 3, 4, 5]) <| zli 1 <| zc (.int 4) <| zic (fun x y => x = y) (zli 8 <| zj X 175 [0, 2, 3, 4, 5]) <| zli 8 <| zif (fun x => x = 0) (zli 9 <| zif (fun x => x = 0) (zc (.int 0) <| zj X 175 [0, 2, 3, 4, 5]) <| zj X 170 [0, 2, 3, 4, 5]) <| zj X 170 [0, 2, 3, 4, 5]
def aX12_attacked_170 (mc ms : Nat) (X : Nat → zV) (Q : zQt) : zT :=
  zc (.int 1) <| zj X 175 [0, 2, 3, 4, 5]
def aX12_attacked_175 (mc ms : Nat) (X : Nat → zV) (Q : zQt) : zT :=
  zsi 10 <| zli 10 <| zif (fun x => x = 0) (zj X 199 []) <| zla 0 <| zli 3 <| zli 5 <| zli 2 <| zli 4 <| zcv mc ms 12 4 wX12_isOpen <| kX12_attacked_192 mc ms X Q
def aX12_attacked_199 (mc ms : Nat) (X : Nat → zV) (Q : zQt) : zT :=
  zc (.int 0) <| zj X 200 []
def aX12_attacked_200 (mc ms : Nat) (X : Nat → zV) (Q : zQt) : zT :=
  zrz .boolean Q
def lvX12_attacked : Nat → List Nat := fun L => match L with
  | 0 => [0, 1, 2, 3, 4, 5]
  | 59 => []
  | 60 => []
  | 89 => []
  | 90 => []
  | 101 => [0, 1, 2, 3, 4, 5, 6, 7]
  | 111 => [0, 1, 2, 3, 4, 5, 6, 7]
  | 119 => [0, 1, 2, 3, 4, 5, 6, 7]
  | 137 => [0, 1, 2, 3, 4, 5, 8]
  | 138 => [0, 1, 2, 3, 4, 5, 8]
  | 170 => [0, 2, 3, 4, 5]
  | 175 => [0, 2, 3, 4, 5]
  | 199 => []
  | 200 => []
  | _ => []
def wX12_attacked : zSp := fun mc ms av M Q => ((zlay av).length ≤ 11 ∧ zpick (zlay av) [0, 1, 2, 3, 4, 5] = some av) ∧ ∀ X : Nat → zV, zin 11 [0, 1, 2, 3, 4, 5] (aX12_attacked_0 mc ms X Q) X 0 → zin 11 [] (aX12_attacked_59 mc ms X Q) X 59 → zin 11 [] (aX12_attacked_60 mc ms X Q) X 60 → zin 11 [] (aX12_attacked_89 mc ms X Q) X 89 → zin 11 [] (aX12_attacked_90 mc ms X Q) X 90 → zin 11 [0, 1, 2, 3, 4, 5, 6, 7] (aX12_attacked_101 mc ms X Q) X 101 → zin 11 [0, 1, 2, 3, 4, 5, 6, 7] (aX12_attacked_111 mc ms X Q) X 111 → zin 11 [0, 1, 2, 3, 4, 5, 6, 7] (aX12_attacked_119 mc ms X Q) X 119 → zin 11 [0, 1, 2, 3, 4, 5, 8] (aX12_attacked_137 mc ms X Q) X 137 → zin 11 [0, 1, 2, 3, 4, 5, 8] (aX12_attacked_138 mc ms X Q) X 138 → zin 11 [0, 2, 3, 4, 5] (aX12_attacked_170 mc ms X Q) X 170 → zin 11 [0, 2, 3, 4, 5] (aX12_attacked_175 mc ms X Q) X 175 → zin 11 [] (aX12_attacked_199 mc ms X Q) X 199 → zin 11 [] (aX12_attacked_200 mc ms X Q) X 200 → X 0 0 0 av [] M
set_option maxRecDepth 100000 in
set_option maxHeartbeats 4000000 in
theorem sX12_attacked (l : Launch) (G : zG) : zSnd l G yX12_attacked cX12_attacked 11 (some .boolean) 1 29 wX12_attacked := by
  refine zmk [0, 1, 2, 3, 4, 5] (by decide) (fun mc ms av M Q h => h.1) ?_
  intro p e R s m args below meth c mc ms av M Q hC hRf hRl hr hnm h lv hlv
  obtain ⟨X, hXe⟩ : ∃ X : Nat → zV, X = fun L u v vs st M => ∀ lv, zpick lv (lvX12_attacked L) = some vs → zAt p l e R s m args below meth c (MQ below (zQ G Q) args s mc ms (zA G)) G 11 L u v lv st M := ⟨_, rfl⟩
  have hJ : ∀ L, zOk p l e R s m args below meth c (MQ below (zQ G Q) args s mc ms (zA G)) G 11 L (zj X L (lvX12_attacked L)) := fun L => S_jump (fun u v lv vs st M hp hx => by rw [hXe] at hx; exact hx lv hp)
  have hB0 : zin 11 [0, 1, 2, 3, 4, 5] (aX12_attacked_0 mc ms X Q) X 0 := by
    intro u v vs st M hb
    rw [hXe]
    refine fun lv hp => S_block (L := 0) (live := [0, 1, 2, 3, 4, 5]) ?_ u v lv vs st M hp hb
    unfold aX12_attacked_0
    refine S_iload_n (pc := 0) hC dX12_attacked_0 rfl ?_
    refine S_bipush (pc := 1) hC dX12_attacked_1 (by decide) ?_
    refine S_irem (pc := 3) hC dX12_attacked_3 ?_
    refine S_iload (pc := 4) hC dX12_attacked_4 ?_
    refine S_bipush (pc := 6) hC dX12_attacked_6 (by decide) ?_
    refine S_irem (pc := 8) hC dX12_attacked_8 ?_
    refine S_isub (pc := 9) hC dX12_attacked_9 ?_
    refine S_callS (pc := 10) hC (sX12_amount l G) wd_1716 wd_1717 wd_13 wd_1718 (by decide +kernel) ⟨by rw [hRf]; decide, by rw [hRl]; decide⟩ dX12_attacked_10 ?_
    unfold kX12_attacked_13
    refine S_istore (pc := 13) hC dX12_attacked_13 (by decide) ?_
    refine S_iload_n (pc := 15) hC dX12_attacked_15 rfl ?_
    refine S_bipush (pc := 16) hC dX12_attacked_16 (by decide) ?_
    refine S_idiv (pc := 18) hC dX12_attacked_18 ?_
    refine S_iload (pc := 19) hC dX12_attacked_19 ?_
    refine S_bipush (pc := 21) hC dX12_attacked_21 (by decide) ?_
    refine S_idiv (pc := 23) hC dX12_attacked_23 ?_
    refine S_isub (pc := 24) hC dX12_attacked_24 ?_
    refine S_callS (pc := 25) hC (sX12_amount l G) wd_1716 wd_1717 wd_13 wd_1718 (by decide +kernel) ⟨by rw [hRf]; decide, by rw [hRl]; decide⟩ dX12_attacked_25 ?_
    unfold kX12_attacked_28
    refine S_istore (pc := 28) hC dX12_attacked_28 (by decide) ?_
    refine S_iload_n (pc := 30) hC dX12_attacked_30 rfl ?_
    refine S_iconst (pc := 31) hC dX12_attacked_31 (by decide) ?_
    refine S_icmp_ne (pc := 32) (tgt := 61) hC dX12_attacked_32 (by decide) ?_ ?_
    · refine S_iload_n (pc := 61) hC dX12_attacked_61 rfl ?_
      refine S_iconst (pc := 62) hC dX12_attacked_62 (by decide) ?_
      refine S_icmp_ne (pc := 63) (tgt := 91) hC dX12_attacked_63 (by decide) ?_ ?_
      · refine S_iload (pc := 91) hC dX12_attacked_91 ?_
        refine S_if_ne (pc := 93) (tgt := 100) hC dX12_attacked_93 (by decide) ?_ ?_
        · refine S_iconst (pc := 100) hC dX12_attacked_100 (by decide) ?_
          exact hJ 101
        · refine S_iconst (pc := 96) hC dX12_attacked_96 (by decide) ?_
          refine S_goto (pc := 97) (tgt := 101) hC dX12_attacked_97 (by decide) ?_
          exact hJ 101
      · refine S_iload (pc := 66) hC dX12_attacked_66 ?_
        refine S_iload (pc := 68) hC dX12_attacked_68 ?_
        refine S_iadd (pc := 70) hC dX12_attacked_70 ?_
        refine S_iconst (pc := 71) hC dX12_attacked_71 (by decide) ?_
        refine S_icmp_ne (pc := 72) (tgt := 89) hC dX12_attacked_72 (by decide) ?_ ?_
        · exact hJ 89
        · refine S_iload (pc := 75) hC dX12_attacked_75 ?_
          refine S_if_le (pc := 77) (tgt := 89) hC dX12_attacked_77 (by decide) ?_ ?_
          · exact hJ 89
          · refine S_iload (pc := 80) hC dX12_attacked_80 ?_
            refine S_if_le (pc := 82) (tgt := 89) hC dX12_attacked_82 (by decide) ?_ ?_
            · exact hJ 89
            · refine S_iconst (pc := 85) hC dX12_attacked_85 (by decide) ?_
              refine S_goto (pc := 86) (tgt := 90) hC dX12_attacked_86 (by decide) ?_
              exact hJ 90
    · refine S_iload (pc := 35) hC dX12_attacked_35 ?_
      refine S_iconst (pc := 37) hC dX12_attacked_37 (by decide) ?_
      refine S_icmp_ne (pc := 38) (tgt := 59) hC dX12_attacked_38 (by decide) ?_ ?_
      · exact hJ 59
      · refine S_iload (pc := 41) hC dX12_attacked_41 ?_
        refine S_bipush (pc := 43) hC dX12_attacked_43 (by decide) ?_
        refine S_idiv (pc := 45) hC dX12_attacked_45 ?_
        refine S_iload_n (pc := 46) hC dX12_attacked_46 rfl ?_
        refine S_bipush (pc := 47) hC dX12_attacked_47 (by decide) ?_
        refine S_idiv (pc := 49) hC dX12_attacked_49 ?_
        refine S_iconst (pc := 50) hC dX12_attacked_50 (by decide) ?_
        refine S_iadd (pc := 51) hC dX12_attacked_51 ?_
        refine S_icmp_ne (pc := 52) (tgt := 59) hC dX12_attacked_52 (by decide) ?_ ?_
        · exact hJ 59
        · refine S_iconst (pc := 55) hC dX12_attacked_55 (by decide) ?_
          refine S_goto (pc := 56) (tgt := 60) hC dX12_attacked_56 (by decide) ?_
          exact hJ 60
  have hB59 : zin 11 [] (aX12_attacked_59 mc ms X Q) X 59 := by
    intro u v vs st M hb
    rw [hXe]
    refine fun lv hp => S_block (L := 59) (live := []) ?_ u v lv vs st M hp hb
    unfold aX12_attacked_59
    refine S_iconst (pc := 59) hC dX12_attacked_59 (by decide) ?_
    exact hJ 60
  have hB60 : zin 11 [] (aX12_attacked_60 mc ms X Q) X 60 := by
    intro u v vs st M hb
    rw [hXe]
    refine fun lv hp => S_block (L := 60) (live := []) ?_ u v lv vs st M hp hb
    unfold aX12_attacked_60
    exact S_zreturn (pc := 60) hC hr dX12_attacked_60
  have hB89 : zin 11 [] (aX12_attacked_89 mc ms X Q) X 89 := by
    intro u v vs st M hb
    rw [hXe]
    refine fun lv hp => S_block (L := 89) (live := []) ?_ u v lv vs st M hp hb
    unfold aX12_attacked_89
    refine S_iconst (pc := 89) hC dX12_attacked_89 (by decide) ?_
    exact hJ 90
  have hB90 : zin 11 [] (aX12_attacked_90 mc ms X Q) X 90 := by
    intro u v vs st M hb
    rw [hXe]
    refine fun lv hp => S_block (L := 90) (live := []) ?_ u v lv vs st M hp hb
    unfold aX12_attacked_90
    exact S_zreturn (pc := 90) hC hr dX12_attacked_90
  have hB101 : zin 11 [0, 1, 2, 3, 4, 5, 6, 7] (aX12_attacked_101 mc ms X Q) X 101 := by
    intro u v vs st M hb
    rw [hXe]
    refine fun lv hp => S_block (L := 101) (live := [0, 1, 2, 3, 4, 5, 6, 7]) ?_ u v lv vs st M hp hb
    unfold aX12_attacked_101
    refine S_iload (pc := 101) hC dX12_attacked_101 ?_
    refine S_if_ne (pc := 103) (tgt := 110) hC dX12_attacked_103 (by decide) ?_ ?_
    · refine S_iconst (pc := 110) hC dX12_attacked_110 (by decide) ?_
      exact hJ 111
    · refine S_iconst (pc := 106) hC dX12_attacked_106 (by decide) ?_
      refine S_goto (pc := 107) (tgt := 111) hC dX12_attacked_107 (by decide) ?_
      exact hJ 111
  have hB111 : zin 11 [0, 1, 2, 3, 4, 5, 6, 7] (aX12_attacked_111 mc ms X Q) X 111 := by
    intro u v vs st M hb
    rw [hXe]
    refine fun lv hp => S_block (L := 111) (live := [0, 1, 2, 3, 4, 5, 6, 7]) ?_ u v lv vs st M hp hb
    unfold aX12_attacked_111
    refine S_icmp_eq (pc := 111) (tgt := 118) hC dX12_attacked_111 (by decide) ?_ ?_
    · refine S_iconst (pc := 118) hC dX12_attacked_118 (by decide) ?_
      exact hJ 119
    · refine S_iconst (pc := 114) hC dX12_attacked_114 (by decide) ?_
      refine S_goto (pc := 115) (tgt := 119) hC dX12_attacked_115 (by decide) ?_
      exact hJ 119
  have hB119 : zin 11 [0, 1, 2, 3, 4, 5, 6, 7] (aX12_attacked_119 mc ms X Q) X 119 := by
    intro u v vs st M hb
    rw [hXe]
    refine fun lv hp => S_block (L := 119) (live := [0, 1, 2, 3, 4, 5, 6, 7]) ?_ u v lv vs st M hp hb
    unfold aX12_attacked_119
    refine S_istore (pc := 119) hC dX12_attacked_119 (by decide) ?_
    refine S_iload (pc := 121) hC dX12_attacked_121 ?_
    refine S_iload (pc := 123) hC dX12_attacked_123 ?_
    refine S_icmp_ne (pc := 125) (tgt := 137) hC dX12_attacked_125 (by decide) ?_ ?_
    · exact hJ 137
    · refine S_iload (pc := 128) hC dX12_attacked_128 ?_
      refine S_if_le (pc := 130) (tgt := 137) hC dX12_attacked_130 (by decide) ?_ ?_
      · exact hJ 137
      · refine S_iconst (pc := 133) hC dX12_attacked_133 (by decide) ?_
        refine S_goto (pc := 134) (tgt := 138) hC dX12_attacked_134 (by decide) ?_
        exact hJ 138
  have hB137 : zin 11 [0, 1, 2, 3, 4, 5, 8] (aX12_attacked_137 mc ms X Q) X 137 := by
    intro u v vs st M hb
    rw [hXe]
    refine fun lv hp => S_block (L := 137) (live := [0, 1, 2, 3, 4, 5, 8]) ?_ u v lv vs st M hp hb
    unfold aX12_attacked_137
    refine S_iconst (pc := 137) hC dX12_attacked_137 (by decide) ?_
    exact hJ 138
  have hB138 : zin 11 [0, 1, 2, 3, 4, 5, 8] (aX12_attacked_138 mc ms X Q) X 138 := by
    intro u v vs st M hb
    rw [hXe]
    refine fun lv hp => S_block (L := 138) (live := [0, 1, 2, 3, 4, 5, 8]) ?_ u v lv vs st M hp hb
    unfold aX12_attacked_138
    refine S_istore (pc := 138) hC dX12_attacked_138 (by decide) ?_
    refine S_iload_n (pc := 140) hC dX12_attacked_140 rfl ?_
    refine S_iconst (pc := 141) hC dX12_attacked_141 (by decide) ?_
    refine S_icmp_ne (pc := 142) (tgt := 150) hC dX12_attacked_142 (by decide) ?_ ?_
    · refine S_iload_n (pc := 150) hC dX12_attacked_150 rfl ?_
      refine S_iconst (pc := 151) hC dX12_attacked_151 (by decide) ?_
      refine S_icmp_ne (pc := 152) (tgt := 160) hC dX12_attacked_152 (by decide) ?_ ?_
      · refine S_iload (pc := 160) hC dX12_attacked_160 ?_
        refine S_if_ne (pc := 162) (tgt := 170) hC dX12_attacked_162 (by decide) ?_ ?_
        · exact hJ 170
        · refine S_iload (pc := 165) hC dX12_attacked_165 ?_
          refine S_if_eq (pc := 167) (tgt := 174) hC dX12_attacked_167 (by decide) ?_ ?_
          · refine S_iconst (pc := 174) hC dX12_attacked_174 (by decide) ?_
            exact hJ 175
          · exact hJ 170
      · refine S_iload (pc := 155) hC dX12_attacked_155 ?_
        refine S_goto (pc := 157) (tgt := 175) hC dX12_attacked_157 (by decide) ?_
        exact hJ 175
    · refine S_iload (pc := 145) hC dX12_attacked_145 ?_
      refine S_goto (pc := 147) (tgt := 175) hC dX12_attacked_147 (by decide) ?_
      exact hJ 175
  have hB170 : zin 11 [0, 2, 3, 4, 5] (aX12_attacked_170 mc ms X Q) X 170 := by
    intro u v vs st M hb
    rw [hXe]
    refine fun lv hp => S_block (L := 170) (live := [0, 2, 3, 4, 5]) ?_ u v lv vs st M hp hb
    unfold aX12_attacked_170
    refine S_iconst (pc := 170) hC dX12_attacked_170 (by decide) ?_
    refine S_goto (pc := 171) (tgt := 175) hC dX12_attacked_171 (by decide) ?_
    exact hJ 175
  have hB175 : zin 11 [0, 2, 3, 4, 5] (aX12_attacked_175 mc ms X Q) X 175 := by
    intro u v vs st M hb
    rw [hXe]
    refine fun lv hp => S_block (L := 175) (live := [0, 2, 3, 4, 5]) ?_ u v lv vs st M hp hb
    unfold aX12_attacked_175
    refine S_istore (pc := 175) hC dX12_attacked_175 (by decide) ?_
    refine S_iload (pc := 177) hC dX12_attacked_177 ?_
    refine S_if_eq (pc := 179) (tgt := 199) hC dX12_attacked_179 (by decide) ?_ ?_
    · exact hJ 199
    · refine S_aload_n (pc := 182) hC dX12_attacked_182 rfl ?_
      refine S_iload_n (pc := 183) hC dX12_attacked_183 rfl ?_
      refine S_iload (pc := 184) hC dX12_attacked_184 ?_
      refine S_iload_n (pc := 186) hC dX12_attacked_186 rfl ?_
      refine S_iload (pc := 187) hC dX12_attacked_187 ?_
      refine S_callV (pc := 189) hC (sX12_isOpen l G) rfl wd_1723 wd_1725 ws_124 wd_13 wd_1726 (by decide +kernel) ⟨by rw [hRf]; decide, by rw [hRl]; decide⟩ dX12_attacked_189 ?_
      unfold kX12_attacked_192
      refine S_if_eq (pc := 192) (tgt := 199) hC dX12_attacked_192 (by decide) ?_ ?_
      · exact hJ 199
      · refine S_iconst (pc := 195) hC dX12_attacked_195 (by decide) ?_
        refine S_goto (pc := 196) (tgt := 200) hC dX12_attacked_196 (by decide) ?_
        exact hJ 200
  have hB199 : zin 11 [] (aX12_attacked_199 mc ms X Q) X 199 := by
    intro u v vs st M hb
    rw [hXe]
    refine fun lv hp => S_block (L := 199) (live := []) ?_ u v lv vs st M hp hb
    unfold aX12_attacked_199
    refine S_iconst (pc := 199) hC dX12_attacked_199 (by decide) ?_
    exact hJ 200
  have hB200 : zin 11 [] (aX12_attacked_200 mc ms X Q) X 200 := by
    intro u v vs st M hb
    rw [hXe]
    refine fun lv hp => S_block (L := 200) (live := []) ?_ u v lv vs st M hp hb
    unfold aX12_attacked_200
    exact S_zreturn (pc := 200) hC hr dX12_attacked_200
  have := h.2 X hB0 hB59 hB60 hB89 hB90 hB101 hB111 hB119 hB137 hB138 hB170 hB175 hB199 hB200
  rw [hXe] at this
  exact this lv hlv
theorem vX12_attacked_0 {mc ms : Nat} {X : Nat → zV} {Q : zQt} {M : zM} {x1 : Int32} {x2 : Int32} {x3 : Int32} {x4 : Int32} {x5 : Int32} (hW : zFix M)  (h : wX12_amount 0 0 [.int ((x3 - x3 / (8 : Int32) * (8 : Int32)) - (x5 - x5 / (8 : Int32) * (8 : Int32)))] M (fun r M1 => kX12_attacked_13 mc ms X Q 0 0 [some (.ref 71), some (.int x1), some (.int x2), some (.int x3), some (.int x4), some (.int x5), none, none, none, none, none] (r.toList ++ []) M1)) : aX12_attacked_0 mc ms X Q 0 0 [some (.ref 71), some (.int x1), some (.int x2), some (.int x3), some (.int x4), some (.int x5), none, none, none, none, none] [] M := ⟨by decide, ⟨by decide, ⟨Nat.le_of_ble_eq_true rfl, rfl, 0, 0, Nat.zero_le _, Nat.zero_le _, h⟩⟩⟩
theorem vX12_attacked_59 {mc ms : Nat} {X : Nat → zV} {Q : zQt} {M : zM}  (hW : zFix M)  (h : X 60 0 0 [] [.int 0] M) : aX12_attacked_59 mc ms X Q 0 0 [none, none, none, none, none, none, none, none, none, none, none] [] M := h
theorem vX12_attacked_60 {mc ms : Nat} {X : Nat → zV} {Q : zQt} {M : zM} {s0 : Int32} (hW : zFix M)  (h : narrow .boolean (.int s0) = .int s0 ∧ Q (some (.int s0)) M) : aX12_attacked_60 mc ms X Q 0 0 [none, none, none, none, none, none, none, none, none, none, none] [.int s0] M := h
theorem vX12_attacked_89 {mc ms : Nat} {X : Nat → zV} {Q : zQt} {M : zM}  (hW : zFix M)  (h : X 90 0 0 [] [.int 0] M) : aX12_attacked_89 mc ms X Q 0 0 [none, none, none, none, none, none, none, none, none, none, none] [] M := h
theorem vX12_attacked_90 {mc ms : Nat} {X : Nat → zV} {Q : zQt} {M : zM} {s0 : Int32} (hW : zFix M)  (h : narrow .boolean (.int s0) = .int s0 ∧ Q (some (.int s0)) M) : aX12_attacked_90 mc ms X Q 0 0 [none, none, none, none, none, none, none, none, none, none, none] [.int s0] M := h
theorem vX12_attacked_101 {mc ms : Nat} {X : Nat → zV} {Q : zQt} {M : zM} {x1 : Int32} {x2 : Int32} {x3 : Int32} {x4 : Int32} {x5 : Int32} {x6 : Int32} {x7 : Int32} {s0 : Int32} (hW : zFix M)  (h : (x7 = 0 → X 111 0 0 [.ref 71, .int x1, .int x2, .int x3, .int x4, .int x5, .int x6, .int x7] [.int 1, .int s0] M) ∧ (¬ x7 = 0 → X 111 0 0 [.ref 71, .int x1, .int x2, .int x3, .int x4, .int x5, .int x6, .int x7] [.int 0, .int s0] M)) : aX12_attacked_101 mc ms X Q 0 0 [some (.ref 71), some (.int x1), some (.int x2), some (.int x3), some (.int x4), some (.int x5), some (.int x6), some (.int x7), none, none, none] [.int s0] M := ⟨fun c103 => (h.1 c103), fun c103 => (h.2 c103)⟩
theorem vX12_attacked_111 {mc ms : Nat} {X : Nat → zV} {Q : zQt} {M : zM} {x1 : Int32} {x2 : Int32} {x3 : Int32} {x4 : Int32} {x5 : Int32} {x6 : Int32} {x7 : Int32} {s0 : Int32} {s1 : Int32} (hW : zFix M)  (h : (s1 = s0 → X 119 0 0 [.ref 71, .int x1, .int x2, .int x3, .int x4, .int x5, .int x6, .int x7] [.int 0] M) ∧ (¬ s1 = s0 → X 119 0 0 [.ref 71, .int x1, .int x2, .int x3, .int x4, .int x5, .int x6, .int x7] [.int 1] M)) : aX12_attacked_111 mc ms X Q 0 0 [some (.ref 71), some (.int x1), some (.int x2), some (.int x3), some (.int x4), some (.int x5), some (.int x6), some (.int x7), none, none, none] [.int s0, .int s1] M := ⟨fun c111 => (h.1 c111), fun c111 => (h.2 c111)⟩
theorem vX12_attacked_119 {mc ms : Nat} {X : Nat → zV} {Q : zQt} {M : zM} {x1 : Int32} {x2 : Int32} {x3 : Int32} {x4 : Int32} {x5 : Int32} {x6 : Int32} {x7 : Int32} {s0 : Int32} (hW : zFix M)  (h : (x6 = x7 → (x6 ≤ 0 → X 137 0 0 [.ref 71, .int x1, .int x2, .int x3, .int x4, .int x5, .int s0] [] M) ∧ (¬ x6 ≤ 0 → X 138 0 0 [.ref 71, .int x1, .int x2, .int x3, .int x4, .int x5, .int s0] [.int 1] M)) ∧ (¬ x6 = x7 → X 137 0 0 [.ref 71, .int x1, .int x2, .int x3, .int x4, .int x5, .int s0] [] M)) : aX12_attacked_119 mc ms X Q 0 0 [some (.ref 71), some (.int x1), some (.int x2), some (.int x3), some (.int x4), some (.int x5), some (.int x6), some (.int x7), none, none, none] [.int s0] M := ⟨fun c125 => ⟨fun c130 => ((h.1 c125).1 c130), fun c130 => ((h.1 c125).2 c130)⟩, fun c125 => (h.2 c125)⟩
theorem vX12_attacked_137 {mc ms : Nat} {X : Nat → zV} {Q : zQt} {M : zM} {x1 : Int32} {x2 : Int32} {x3 : Int32} {x4 : Int32} {x5 : Int32} {x8 : Int32} (hW : zFix M)  (h : X 138 0 0 [.ref 71, .int x1, .int x2, .int x3, .int x4, .int x5, .int x8] [.int 0] M) : aX12_attacked_137 mc ms X Q 0 0 [some (.ref 71), some (.int x1), some (.int x2), some (.int x3), some (.int x4), some (.int x5), none, none, some (.int x8), none, none] [] M := h
theorem vX12_attacked_138 {mc ms : Nat} {X : Nat → zV} {Q : zQt} {M : zM} {x1 : Int32} {x2 : Int32} {x3 : Int32} {x4 : Int32} {x5 : Int32} {x8 : Int32} {s0 : Int32} (hW : zFix M)  (h : (x1 = (3 : Int32) → X 175 0 0 [.ref 71, .int x2, .int x3, .int x4, .int x5] [.int s0] M) ∧ (¬ x1 = (3 : Int32) → (x1 = (4 : Int32) → X 175 0 0 [.ref 71, .int x2, .int x3, .int x4, .int x5] [.int x8] M) ∧ (¬ x1 = (4 : Int32) → (x8 = 0 → (s0 = 0 → X 175 0 0 [.ref 71, .int x2, .int x3, .int x4, .int x5] [.int 0] M) ∧ (¬ s0 = 0 → X 170 0 0 [.ref 71, .int x2, .int x3, .int x4, .int x5] [] M)) ∧ (¬ x8 = 0 → X 170 0 0 [.ref 71, .int x2, .int x3, .int x4, .int x5] [] M)))) : aX12_attacked_138 mc ms X Q 0 0 [some (.ref 71), some (.int x1), some (.int x2), some (.int x3), some (.int x4), some (.int x5), none, none, some (.int x8), none, none] [.int s0] M := ⟨fun c142 => (h.1 c142), fun c142 => ⟨fun c152 => ((h.2 c142).1 c152), fun c152 => ⟨fun c162 => ⟨fun c167 => ((((h.2 c142).2 c152).1 c162).1 c167), fun c167 => ((((h.2 c142).2 c152).1 c162).2 c167)⟩, fun c162 => (((h.2 c142).2 c152).2 c162)⟩⟩⟩
theorem vX12_attacked_170 {mc ms : Nat} {X : Nat → zV} {Q : zQt} {M : zM} {x2 : Int32} {x3 : Int32} {x4 : Int32} {x5 : Int32} (hW : zFix M)  (h : X 175 0 0 [.ref 71, .int x2, .int x3, .int x4, .int x5] [.int 1] M) : aX12_attacked_170 mc ms X Q 0 0 [some (.ref 71), none, some (.int x2), some (.int x3), some (.int x4), some (.int x5), none, none, none, none, none] [] M := h
theorem vX12_attacked_175 {mc ms : Nat} {X : Nat → zV} {Q : zQt} {M : zM} {x2 : Int32} {x3 : Int32} {x4 : Int32} {x5 : Int32} {s0 : Int32} (hW : zFix M)  (h : (s0 = 0 → X 199 0 0 [] [] M) ∧ (¬ s0 = 0 → wX12_isOpen 0 0 [.ref 71, .int x3, .int x5, .int x2, .int x4] M (fun r M1 => kX12_attacked_192 mc ms X Q 0 0 [some (.ref 71), none, some (.int x2), some (.int x3), some (.int x4), some (.int x5), none, none, none, none, some (.int s0)] (r.toList ++ []) M1))) : aX12_attacked_175 mc ms X Q 0 0 [some (.ref 71), none, some (.int x2), some (.int x3), some (.int x4), some (.int x5), none, none, none, none, none] [.int s0] M := ⟨fun c179 => (h.1 c179), fun c179 => ⟨Nat.le_of_ble_eq_true rfl, rfl, (fxs_71 hW), 0, 0, Nat.zero_le _, Nat.zero_le _, (h.2 c179)⟩⟩
theorem vX12_attacked_199 {mc ms : Nat} {X : Nat → zV} {Q : zQt} {M : zM}  (hW : zFix M)  (h : X 200 0 0 [] [.int 0] M) : aX12_attacked_199 mc ms X Q 0 0 [none, none, none, none, none, none, none, none, none, none, none] [] M := h
theorem vX12_attacked_200 {mc ms : Nat} {X : Nat → zV} {Q : zQt} {M : zM} {s0 : Int32} (hW : zFix M)  (h : narrow .boolean (.int s0) = .int s0 ∧ Q (some (.int s0)) M) : aX12_attacked_200 mc ms X Q 0 0 [none, none, none, none, none, none, none, none, none, none, none] [.int s0] M := h
theorem vkX12_attacked_13 {mc ms : Nat} {X : Nat → zV} {Q : zQt} {M : zM} {x1 : Int32} {x2 : Int32} {x3 : Int32} {x4 : Int32} {x5 : Int32} {s0 : Int32} (hW : zFix M)  (h : wX12_amount 0 0 [.int ((x3 / (8 : Int32)) - (x5 / (8 : Int32)))] M (fun r M1 => kX12_attacked_28 mc ms X Q 0 0 [some (.ref 71), some (.int x1), some (.int x2), some (.int x3), some (.int x4), some (.int x5), some (.int s0), none, none, none, none] (r.toList ++ []) M1)) : kX12_attacked_13 mc ms X Q 0 0 [some (.ref 71), some (.int x1), some (.int x2), some (.int x3), some (.int x4), some (.int x5), none, none, none, none, none] [.int s0] M := ⟨by decide, ⟨by decide, ⟨Nat.le_of_ble_eq_true rfl, rfl, 0, 0, Nat.zero_le _, Nat.zero_le _, h⟩⟩⟩
theorem vkX12_attacked_28 {mc ms : Nat} {X : Nat → zV} {Q : zQt} {M : zM} {x1 : Int32} {x2 : Int32} {x3 : Int32} {x4 : Int32} {x5 : Int32} {x6 : Int32} {s0 : Int32} (hW : zFix M)  (h : (x1 = (1 : Int32) → (x6 = (1 : Int32) → ((x5 / (8 : Int32)) = ((x3 / (8 : Int32)) + (1 : Int32)) → X 60 0 0 [] [.int 1] M) ∧ (¬ (x5 / (8 : Int32)) = ((x3 / (8 : Int32)) + (1 : Int32)) → X 59 0 0 [] [] M)) ∧ (¬ x6 = (1 : Int32) → X 59 0 0 [] [] M)) ∧ (¬ x1 = (1 : Int32) → (x1 = (2 : Int32) → ((x6 + s0) = (3 : Int32) → (x6 ≤ 0 → X 89 0 0 [] [] M) ∧ (¬ x6 ≤ 0 → (s0 ≤ 0 → X 89 0 0 [] [] M) ∧ (¬ s0 ≤ 0 → X 90 0 0 [] [.int 1] M))) ∧ (¬ (x6 + s0) = (3 : Int32) → X 89 0 0 [] [] M)) ∧ (¬ x1 = (2 : Int32) → (x6 = 0 → X 101 0 0 [.ref 71, .int x1, .int x2, .int x3, .int x4, .int x5, .int x6, .int s0] [.int 1] M) ∧ (¬ x6 = 0 → X 101 0 0 [.ref 71, .int x1, .int x2, .int x3, .int x4, .int x5, .int x6, .int s0] [.int 0] M)))) : kX12_attacked_28 mc ms X Q 0 0 [some (.ref 71), some (.int x1), some (.int x2), some (.int x3), some (.int x4), some (.int x5), some (.int x6), none, none, none, none] [.int s0] M := ⟨fun c32 => ⟨fun c38 => ⟨by decide, ⟨by decide, ⟨fun c52 => (((h.1 c32).1 c38).1 c52), fun c52 => (((h.1 c32).1 c38).2 c52)⟩⟩⟩, fun c38 => ((h.1 c32).2 c38)⟩, fun c32 => ⟨fun c63 => ⟨fun c72 => ⟨fun c77 => ((((h.2 c32).1 c63).1 c72).1 c77), fun c77 => ⟨fun c82 => (((((h.2 c32).1 c63).1 c72).2 c77).1 c82), fun c82 => (((((h.2 c32).1 c63).1 c72).2 c77).2 c82)⟩⟩, fun c72 => (((h.2 c32).1 c63).2 c72)⟩, fun c63 => ⟨fun c93 => (((h.2 c32).2 c63).1 c93), fun c93 => (((h.2 c32).2 c63).2 c93)⟩⟩⟩
theorem vkX12_attacked_192 {mc ms : Nat} {X : Nat → zV} {Q : zQt} {M : zM} {x2 : Int32} {x3 : Int32} {x4 : Int32} {x5 : Int32} {x10 : Int32} {s0 : Int32} (hW : zFix M)  (h : (s0 = 0 → X 199 0 0 [] [] M) ∧ (¬ s0 = 0 → X 200 0 0 [] [.int 1] M)) : kX12_attacked_192 mc ms X Q 0 0 [some (.ref 71), none, some (.int x2), some (.int x3), some (.int x4), some (.int x5), none, none, none, none, some (.int x10)] [.int s0] M := ⟨fun c192 => (h.1 c192), fun c192 => (h.2 c192)⟩
theorem dX12_isPosition_0 : decode cX12_isPosition 0 = .ok (.iload_n 2, 1) := by decide +kernel
theorem dX12_isPosition_1 : decode cX12_isPosition 1 = .ok (.iload_n 3, 1) := by decide +kernel
theorem dX12_isPosition_2 : decode cX12_isPosition 2 = .ok (.if_icmp .eq 25, 3) := by decide +kernel
theorem dX12_isPosition_5 : decode cX12_isPosition 5 = .ok (.iload_n 2, 1) := by decide +kernel
theorem dX12_isPosition_6 : decode cX12_isPosition 6 = .ok (.iload 4, 2) := by decide +kernel
theorem dX12_isPosition_8 : decode cX12_isPosition 8 = .ok (.if_icmp .eq 19, 3) := by decide +kernel
theorem dX12_isPosition_11 : decode cX12_isPosition 11 = .ok (.iload_n 3, 1) := by decide +kernel
theorem dX12_isPosition_12 : decode cX12_isPosition 12 = .ok (.iload 4, 2) := by decide +kernel
theorem dX12_isPosition_14 : decode cX12_isPosition 14 = .ok (.if_icmp .eq 13, 3) := by decide +kernel
theorem dX12_isPosition_17 : decode cX12_isPosition 17 = .ok (.aload_n 0, 1) := by decide +kernel
theorem dX12_isPosition_18 : decode cX12_isPosition 18 = .ok (.iload_n 2, 1) := by decide +kernel
theorem dX12_isPosition_19 : decode cX12_isPosition 19 = .ok (.iload 4, 2) := by decide +kernel
theorem dX12_isPosition_21 : decode cX12_isPosition 21 = .ok (.invokevirtual 58, 3) := by decide +kernel
theorem dX12_isPosition_24 : decode cX12_isPosition 24 = .ok (.ifCond .eq 5, 3) := by decide +kernel
theorem dX12_isPosition_27 : decode cX12_isPosition 27 = .ok (.iconst 0, 1) := by decide +kernel
theorem dX12_isPosition_28 : decode cX12_isPosition 28 = .ok (.ireturn, 1) := by decide +kernel
theorem dX12_isPosition_29 : decode cX12_isPosition 29 = .ok (.iload_n 1, 1) := by decide +kernel
theorem dX12_isPosition_30 : decode cX12_isPosition 30 = .ok (.iconst 1, 1) := by decide +kernel
theorem dX12_isPosition_31 : decode cX12_isPosition 31 = .ok (.if_icmp .ne 21, 3) := by decide +kernel
theorem dX12_isPosition_34 : decode cX12_isPosition 34 = .ok (.iload_n 3, 1) := by decide +kernel
theorem dX12_isPosition_35 : decode cX12_isPosition 35 = .ok (.bipush 8, 2) := by decide +kernel
theorem dX12_isPosition_37 : decode cX12_isPosition 37 = .ok (.idiv, 1) := by decide +kernel
theorem dX12_isPosition_38 : decode cX12_isPosition 38 = .ok (.ifCond .eq 12, 3) := by decide +kernel
theorem dX12_isPosition_41 : decode cX12_isPosition 41 = .ok (.iload_n 3, 1) := by decide +kernel
theorem dX12_isPosition_42 : decode cX12_isPosition 42 = .ok (.bipush 8, 2) := by decide +kernel
theorem dX12_isPosition_44 : decode cX12_isPosition 44 = .ok (.idiv, 1) := by decide +kernel
theorem dX12_isPosition_45 : decode cX12_isPosition 45 = .ok (.bipush 7, 2) := by decide +kernel
theorem dX12_isPosition_47 : decode cX12_isPosition 47 = .ok (.if_icmp .ne 5, 3) := by decide +kernel
theorem dX12_isPosition_50 : decode cX12_isPosition 50 = .ok (.iconst 0, 1) := by decide +kernel
theorem dX12_isPosition_51 : decode cX12_isPosition 51 = .ok (.ireturn, 1) := by decide +kernel
theorem dX12_isPosition_52 : decode cX12_isPosition 52 = .ok (.iload 5, 2) := by decide +kernel
theorem dX12_isPosition_54 : decode cX12_isPosition 54 = .ok (.ifCond .eq 17, 3) := by decide +kernel
theorem dX12_isPosition_57 : decode cX12_isPosition 57 = .ok (.aload_n 0, 1) := by decide +kernel
theorem dX12_isPosition_58 : decode cX12_isPosition 58 = .ok (.iload_n 1, 1) := by decide +kernel
theorem dX12_isPosition_59 : decode cX12_isPosition 59 = .ok (.iload_n 2, 1) := by decide +kernel
theorem dX12_isPosition_60 : decode cX12_isPosition 60 = .ok (.iload_n 3, 1) := by decide +kernel
theorem dX12_isPosition_61 : decode cX12_isPosition 61 = .ok (.iload 4, 2) := by decide +kernel
theorem dX12_isPosition_63 : decode cX12_isPosition 63 = .ok (.iload 4, 2) := by decide +kernel
theorem dX12_isPosition_65 : decode cX12_isPosition 65 = .ok (.invokevirtual 62, 3) := by decide +kernel
theorem dX12_isPosition_68 : decode cX12_isPosition 68 = .ok (.ifCond .ne 7, 3) := by decide +kernel
theorem dX12_isPosition_71 : decode cX12_isPosition 71 = .ok (.iconst 1, 1) := by decide +kernel
theorem dX12_isPosition_72 : decode cX12_isPosition 72 = .ok (.goto 4, 3) := by decide +kernel
theorem dX12_isPosition_75 : decode cX12_isPosition 75 = .ok (.iconst 0, 1) := by decide +kernel
theorem dX12_isPosition_76 : decode cX12_isPosition 76 = .ok (.ireturn, 1) := by decide +kernel
def kX12_isPosition_24 (mc ms : Nat) (X : Nat → zV) (Q : zQt) : zT :=
  zif (fun x => x = 0) (zli 1 <| zc (.int 1) <| zic (fun x y => x = y) (zli 3 <| zc (.int 8) <| zid (fun x y => x / y) <| zif (fun x => x = 0) (zj X 50 []) <| zli 3 <| zc (.int 8) <| zid (fun x y => x / y) <| zc (.int 7) <| zic (fun x y => x = y) (zj X 50 []) <| zj X 52 [0, 1, 2, 3, 4, 5]) <| zj X 52 [0, 1, 2, 3, 4, 5]) <| zj X 27 []
def kX12_isPosition_68 (mc ms : Nat) (X : Nat → zV) (Q : zQt) : zT :=
  zif (fun x => x = 0) (zj X 71 []) <| zc (.int 0) <| zj X 76 []
def aX12_isPosition_0 (mc ms : Nat) (X : Nat → zV) (Q : zQt) : zT :=
  zli 2 <| zli 3 <| zic (fun x y => x = y) (zj X 27 []) <| zli 2 <| zli 4 <| zic (fun x y => x = y) (zj X 27 []) <| zli 3 <| zli 4 <| zic (fun x y => x = y) (zj X 27 []) <| zla 0 <| zli 2 <| zli 4 <| zcv mc ms 12 2 wX12_beside <| kX12_isPosition_24 mc ms X Q
def aX12_isPosition_27 (mc ms : Nat) (X : Nat → zV) (Q : zQt) : zT :=
  zc (.int 0) <| zrz .boolean Q
def aX12_isPosition_50 (mc ms : Nat) (X : Nat → zV) (Q : zQt) : zT :=
  zc (.int 0) <| zrz .boolean Q
def aX12_isPosition_52 (mc ms : Nat) (X : Nat → zV) (Q : zQt) : zT :=
  zli 5 <| zif (fun x => x = 0) (zj X 71 []) <| zla 0 <| zli 1 <| zli 2 <| zli 3 <| zli 4 <| zli 4 <| zcv mc ms 12 5 wX12_attacked <| kX12_isPosition_68 mc ms X Q
def aX12_isPosition_71 (mc ms : Nat) (X : Nat → zV) (Q : zQt) : zT :=
  zc (.int 1) <| zj X 76 []
def aX12_isPosition_76 (mc ms : Nat) (X : Nat → zV) (Q : zQt) : zT :=
  zrz .boolean Q
def lvX12_isPosition : Nat → List Nat := fun L => match L with
  | 0 => [0, 1, 2, 3, 4, 5]
  | 27 => []
  | 50 => []
  | 52 => [0, 1, 2, 3, 4, 5]
  | 71 => []
  | 76 => []
  | _ => []
def wX12_isPosition : zSp := fun mc ms av M Q => ((zlay av).length ≤ 6 ∧ zpick (zlay av) [0, 1, 2, 3, 4, 5] = some av) ∧ ∀ X : Nat → zV, zin 6 [0, 1, 2, 3, 4, 5] (aX12_isPosition_0 mc ms X Q) X 0 → zin 6 [] (aX12_isPosition_27 mc ms X Q) X 27 → zin 6 [] (aX12_isPosition_50 mc ms X Q) X 50 → zin 6 [0, 1, 2, 3, 4, 5] (aX12_isPosition_52 mc ms X Q) X 52 → zin 6 [] (aX12_isPosition_71 mc ms X Q) X 71 → zin 6 [] (aX12_isPosition_76 mc ms X Q) X 76 → X 0 0 0 av [] M
set_option maxRecDepth 100000 in
set_option maxHeartbeats 4000000 in
theorem sX12_isPosition (l : Launch) (G : zG) : zSnd l G yX12_isPosition cX12_isPosition 6 (some .boolean) 2 59 wX12_isPosition := by
  refine zmk [0, 1, 2, 3, 4, 5] (by decide) (fun mc ms av M Q h => h.1) ?_
  intro p e R s m args below meth c mc ms av M Q hC hRf hRl hr hnm h lv hlv
  obtain ⟨X, hXe⟩ : ∃ X : Nat → zV, X = fun L u v vs st M => ∀ lv, zpick lv (lvX12_isPosition L) = some vs → zAt p l e R s m args below meth c (MQ below (zQ G Q) args s mc ms (zA G)) G 6 L u v lv st M := ⟨_, rfl⟩
  have hJ : ∀ L, zOk p l e R s m args below meth c (MQ below (zQ G Q) args s mc ms (zA G)) G 6 L (zj X L (lvX12_isPosition L)) := fun L => S_jump (fun u v lv vs st M hp hx => by rw [hXe] at hx; exact hx lv hp)
  have hB0 : zin 6 [0, 1, 2, 3, 4, 5] (aX12_isPosition_0 mc ms X Q) X 0 := by
    intro u v vs st M hb
    rw [hXe]
    refine fun lv hp => S_block (L := 0) (live := [0, 1, 2, 3, 4, 5]) ?_ u v lv vs st M hp hb
    unfold aX12_isPosition_0
    refine S_iload_n (pc := 0) hC dX12_isPosition_0 rfl ?_
    refine S_iload_n (pc := 1) hC dX12_isPosition_1 rfl ?_
    refine S_icmp_eq (pc := 2) (tgt := 27) hC dX12_isPosition_2 (by decide) ?_ ?_
    · exact hJ 27
    · refine S_iload_n (pc := 5) hC dX12_isPosition_5 rfl ?_
      refine S_iload (pc := 6) hC dX12_isPosition_6 ?_
      refine S_icmp_eq (pc := 8) (tgt := 27) hC dX12_isPosition_8 (by decide) ?_ ?_
      · exact hJ 27
      · refine S_iload_n (pc := 11) hC dX12_isPosition_11 rfl ?_
        refine S_iload (pc := 12) hC dX12_isPosition_12 ?_
        refine S_icmp_eq (pc := 14) (tgt := 27) hC dX12_isPosition_14 (by decide) ?_ ?_
        · exact hJ 27
        · refine S_aload_n (pc := 17) hC dX12_isPosition_17 rfl ?_
          refine S_iload_n (pc := 18) hC dX12_isPosition_18 rfl ?_
          refine S_iload (pc := 19) hC dX12_isPosition_19 ?_
          refine S_callV (pc := 21) hC (sX12_beside l G) rfl wd_1712 wd_1714 ws_122 wd_13 wd_1715 (by decide +kernel) ⟨by rw [hRf]; decide, by rw [hRl]; decide⟩ dX12_isPosition_21 ?_
          unfold kX12_isPosition_24
          refine S_if_eq (pc := 24) (tgt := 29) hC dX12_isPosition_24 (by decide) ?_ ?_
          · refine S_iload_n (pc := 29) hC dX12_isPosition_29 rfl ?_
            refine S_iconst (pc := 30) hC dX12_isPosition_30 (by decide) ?_
            refine S_icmp_ne (pc := 31) (tgt := 52) hC dX12_isPosition_31 (by decide) ?_ ?_
            · exact hJ 52
            · refine S_iload_n (pc := 34) hC dX12_isPosition_34 rfl ?_
              refine S_bipush (pc := 35) hC dX12_isPosition_35 (by decide) ?_
              refine S_idiv (pc := 37) hC dX12_isPosition_37 ?_
              refine S_if_eq (pc := 38) (tgt := 50) hC dX12_isPosition_38 (by decide) ?_ ?_
              · exact hJ 50
              · refine S_iload_n (pc := 41) hC dX12_isPosition_41 rfl ?_
                refine S_bipush (pc := 42) hC dX12_isPosition_42 (by decide) ?_
                refine S_idiv (pc := 44) hC dX12_isPosition_44 ?_
                refine S_bipush (pc := 45) hC dX12_isPosition_45 (by decide) ?_
                refine S_icmp_ne (pc := 47) (tgt := 52) hC dX12_isPosition_47 (by decide) ?_ ?_
                · exact hJ 52
                · exact hJ 50
          · exact hJ 27
  have hB27 : zin 6 [] (aX12_isPosition_27 mc ms X Q) X 27 := by
    intro u v vs st M hb
    rw [hXe]
    refine fun lv hp => S_block (L := 27) (live := []) ?_ u v lv vs st M hp hb
    unfold aX12_isPosition_27
    refine S_iconst (pc := 27) hC dX12_isPosition_27 (by decide) ?_
    exact S_zreturn (pc := 28) hC hr dX12_isPosition_28
  have hB50 : zin 6 [] (aX12_isPosition_50 mc ms X Q) X 50 := by
    intro u v vs st M hb
    rw [hXe]
    refine fun lv hp => S_block (L := 50) (live := []) ?_ u v lv vs st M hp hb
    unfold aX12_isPosition_50
    refine S_iconst (pc := 50) hC dX12_isPosition_50 (by decide) ?_
    exact S_zreturn (pc := 51) hC hr dX12_isPosition_51
  have hB52 : zin 6 [0, 1, 2, 3, 4, 5] (aX12_isPosition_52 mc ms X Q) X 52 := by
    intro u v vs st M hb
    rw [hXe]
    refine fun lv hp => S_block (L := 52) (live := [0, 1, 2, 3, 4, 5]) ?_ u v lv vs st M hp hb
    unfold aX12_isPosition_52
    refine S_iload (pc := 52) hC dX12_isPosition_52 ?_
    refine S_if_eq (pc := 54) (tgt := 71) hC dX12_isPosition_54 (by decide) ?_ ?_
    · exact hJ 71
    · refine S_aload_n (pc := 57) hC dX12_isPosition_57 rfl ?_
      refine S_iload_n (pc := 58) hC dX12_isPosition_58 rfl ?_
      refine S_iload_n (pc := 59) hC dX12_isPosition_59 rfl ?_
      refine S_iload_n (pc := 60) hC dX12_isPosition_60 rfl ?_
      refine S_iload (pc := 61) hC dX12_isPosition_61 ?_
      refine S_iload (pc := 63) hC dX12_isPosition_63 ?_
      refine S_callV (pc := 65) hC (sX12_attacked l G) rfl wd_1719 wd_1721 ws_123 wd_13 wd_1722 (by decide +kernel) ⟨by rw [hRf]; decide, by rw [hRl]; decide⟩ dX12_isPosition_65 ?_
      unfold kX12_isPosition_68
      refine S_if_ne (pc := 68) (tgt := 75) hC dX12_isPosition_68 (by decide) ?_ ?_
      · refine S_iconst (pc := 75) hC dX12_isPosition_75 (by decide) ?_
        exact hJ 76
      · exact hJ 71
  have hB71 : zin 6 [] (aX12_isPosition_71 mc ms X Q) X 71 := by
    intro u v vs st M hb
    rw [hXe]
    refine fun lv hp => S_block (L := 71) (live := []) ?_ u v lv vs st M hp hb
    unfold aX12_isPosition_71
    refine S_iconst (pc := 71) hC dX12_isPosition_71 (by decide) ?_
    refine S_goto (pc := 72) (tgt := 76) hC dX12_isPosition_72 (by decide) ?_
    exact hJ 76
  have hB76 : zin 6 [] (aX12_isPosition_76 mc ms X Q) X 76 := by
    intro u v vs st M hb
    rw [hXe]
    refine fun lv hp => S_block (L := 76) (live := []) ?_ u v lv vs st M hp hb
    unfold aX12_isPosition_76
    exact S_zreturn (pc := 76) hC hr dX12_isPosition_76
  have := h.2 X hB0 hB27 hB50 hB52 hB71 hB76
  rw [hXe] at this
  exact this lv hlv
theorem vX12_isPosition_0 {mc ms : Nat} {X : Nat → zV} {Q : zQt} {M : zM} {x1 : Int32} {x2 : Int32} {x3 : Int32} {x4 : Int32} {x5 : Int32} (hW : zFix M)  (h : (x2 = x3 → X 27 0 0 [] [] M) ∧ (¬ x2 = x3 → (x2 = x4 → X 27 0 0 [] [] M) ∧ (¬ x2 = x4 → (x3 = x4 → X 27 0 0 [] [] M) ∧ (¬ x3 = x4 → wX12_beside 0 0 [.ref 71, .int x2, .int x4] M (fun r M1 => kX12_isPosition_24 mc ms X Q 0 0 [some (.ref 71), some (.int x1), some (.int x2), some (.int x3), some (.int x4), some (.int x5)] (r.toList ++ []) M1))))) : aX12_isPosition_0 mc ms X Q 0 0 [some (.ref 71), some (.int x1), some (.int x2), some (.int x3), some (.int x4), some (.int x5)] [] M := ⟨fun c2 => (h.1 c2), fun c2 => ⟨fun c8 => ((h.2 c2).1 c8), fun c8 => ⟨fun c14 => (((h.2 c2).2 c8).1 c14), fun c14 => ⟨Nat.le_of_ble_eq_true rfl, rfl, (fxs_71 hW), 0, 0, Nat.zero_le _, Nat.zero_le _, (((h.2 c2).2 c8).2 c14)⟩⟩⟩⟩
theorem vX12_isPosition_27 {mc ms : Nat} {X : Nat → zV} {Q : zQt} {M : zM}  (hW : zFix M)  (h : Q (some (.int 0)) M) : aX12_isPosition_27 mc ms X Q 0 0 [none, none, none, none, none, none] [] M := ⟨rfl, h⟩
theorem vX12_isPosition_50 {mc ms : Nat} {X : Nat → zV} {Q : zQt} {M : zM}  (hW : zFix M)  (h : Q (some (.int 0)) M) : aX12_isPosition_50 mc ms X Q 0 0 [none, none, none, none, none, none] [] M := ⟨rfl, h⟩
theorem vX12_isPosition_52 {mc ms : Nat} {X : Nat → zV} {Q : zQt} {M : zM} {x1 : Int32} {x2 : Int32} {x3 : Int32} {x4 : Int32} {x5 : Int32} (hW : zFix M)  (h : (x5 = 0 → X 71 0 0 [] [] M) ∧ (¬ x5 = 0 → wX12_attacked 0 0 [.ref 71, .int x1, .int x2, .int x3, .int x4, .int x4] M (fun r M1 => kX12_isPosition_68 mc ms X Q 0 0 [some (.ref 71), some (.int x1), some (.int x2), some (.int x3), some (.int x4), some (.int x5)] (r.toList ++ []) M1))) : aX12_isPosition_52 mc ms X Q 0 0 [some (.ref 71), some (.int x1), some (.int x2), some (.int x3), some (.int x4), some (.int x5)] [] M := ⟨fun c54 => (h.1 c54), fun c54 => ⟨Nat.le_of_ble_eq_true rfl, rfl, (fxs_71 hW), 0, 0, Nat.zero_le _, Nat.zero_le _, (h.2 c54)⟩⟩
theorem vX12_isPosition_71 {mc ms : Nat} {X : Nat → zV} {Q : zQt} {M : zM}  (hW : zFix M)  (h : X 76 0 0 [] [.int 1] M) : aX12_isPosition_71 mc ms X Q 0 0 [none, none, none, none, none, none] [] M := h
theorem vX12_isPosition_76 {mc ms : Nat} {X : Nat → zV} {Q : zQt} {M : zM} {s0 : Int32} (hW : zFix M)  (h : narrow .boolean (.int s0) = .int s0 ∧ Q (some (.int s0)) M) : aX12_isPosition_76 mc ms X Q 0 0 [none, none, none, none, none, none] [.int s0] M := h
theorem vkX12_isPosition_24 {mc ms : Nat} {X : Nat → zV} {Q : zQt} {M : zM} {x1 : Int32} {x2 : Int32} {x3 : Int32} {x4 : Int32} {x5 : Int32} {s0 : Int32} (hW : zFix M)  (h : (s0 = 0 → (x1 = (1 : Int32) → ((x3 / (8 : Int32)) = 0 → X 50 0 0 [] [] M) ∧ (¬ (x3 / (8 : Int32)) = 0 → ((x3 / (8 : Int32)) = (7 : Int32) → X 50 0 0 [] [] M) ∧ (¬ (x3 / (8 : Int32)) = (7 : Int32) → X 52 0 0 [.ref 71, .int x1, .int x2, .int x3, .int x4, .int x5] [] M))) ∧ (¬ x1 = (1 : Int32) → X 52 0 0 [.ref 71, .int x1, .int x2, .int x3, .int x4, .int x5] [] M)) ∧ (¬ s0 = 0 → X 27 0 0 [] [] M)) : kX12_isPosition_24 mc ms X Q 0 0 [some (.ref 71), some (.int x1), some (.int x2), some (.int x3), some (.int x4), some (.int x5)] [.int s0] M := ⟨fun c24 => ⟨fun c31 => ⟨by decide, ⟨fun c38 => (((h.1 c24).1 c31).1 c38), fun c38 => ⟨by decide, ⟨fun c47 => ((((h.1 c24).1 c31).2 c38).1 c47), fun c47 => ((((h.1 c24).1 c31).2 c38).2 c47)⟩⟩⟩⟩, fun c31 => ((h.1 c24).2 c31)⟩, fun c24 => (h.2 c24)⟩
theorem vkX12_isPosition_68 {mc ms : Nat} {X : Nat → zV} {Q : zQt} {M : zM} {x1 : Int32} {x2 : Int32} {x3 : Int32} {x4 : Int32} {x5 : Int32} {s0 : Int32} (hW : zFix M)  (h : (s0 = 0 → X 71 0 0 [] [] M) ∧ (¬ s0 = 0 → X 76 0 0 [] [.int 0] M)) : kX12_isPosition_68 mc ms X Q 0 0 [some (.ref 71), some (.int x1), some (.int x2), some (.int x3), some (.int x4), some (.int x5)] [.int s0] M := ⟨fun c68 => (h.1 c68), fun c68 => (h.2 c68)⟩
theorem dX12_stepped_0 : decode cX12_stepped 0 = .ok (.iload_n 1, 1) := by decide +kernel
theorem dX12_stepped_1 : decode cX12_stepped 1 = .ok (.bipush 8, 2) := by decide +kernel
theorem dX12_stepped_3 : decode cX12_stepped 3 = .ok (.irem, 1) := by decide +kernel
theorem dX12_stepped_4 : decode cX12_stepped 4 = .ok (.iload_n 2, 1) := by decide +kernel
theorem dX12_stepped_5 : decode cX12_stepped 5 = .ok (.iconst 3, 1) := by decide +kernel
theorem dX12_stepped_6 : decode cX12_stepped 6 = .ok (.irem, 1) := by decide +kernel
theorem dX12_stepped_7 : decode cX12_stepped 7 = .ok (.iadd, 1) := by decide +kernel
theorem dX12_stepped_8 : decode cX12_stepped 8 = .ok (.iconst 1, 1) := by decide +kernel
theorem dX12_stepped_9 : decode cX12_stepped 9 = .ok (.isub, 1) := by decide +kernel
theorem dX12_stepped_10 : decode cX12_stepped 10 = .ok (.istore_n 3, 1) := by decide +kernel
theorem dX12_stepped_11 : decode cX12_stepped 11 = .ok (.iload_n 1, 1) := by decide +kernel
theorem dX12_stepped_12 : decode cX12_stepped 12 = .ok (.bipush 8, 2) := by decide +kernel
theorem dX12_stepped_14 : decode cX12_stepped 14 = .ok (.idiv, 1) := by decide +kernel
theorem dX12_stepped_15 : decode cX12_stepped 15 = .ok (.iload_n 2, 1) := by decide +kernel
theorem dX12_stepped_16 : decode cX12_stepped 16 = .ok (.iconst 3, 1) := by decide +kernel
theorem dX12_stepped_17 : decode cX12_stepped 17 = .ok (.idiv, 1) := by decide +kernel
theorem dX12_stepped_18 : decode cX12_stepped 18 = .ok (.iadd, 1) := by decide +kernel
theorem dX12_stepped_19 : decode cX12_stepped 19 = .ok (.iconst 1, 1) := by decide +kernel
theorem dX12_stepped_20 : decode cX12_stepped 20 = .ok (.isub, 1) := by decide +kernel
theorem dX12_stepped_21 : decode cX12_stepped 21 = .ok (.istore 4, 2) := by decide +kernel
theorem dX12_stepped_23 : decode cX12_stepped 23 = .ok (.iload_n 2, 1) := by decide +kernel
theorem dX12_stepped_24 : decode cX12_stepped 24 = .ok (.iconst 4, 1) := by decide +kernel
theorem dX12_stepped_25 : decode cX12_stepped 25 = .ok (.if_icmp .eq 25, 3) := by decide +kernel
theorem dX12_stepped_28 : decode cX12_stepped 28 = .ok (.iload_n 3, 1) := by decide +kernel
theorem dX12_stepped_29 : decode cX12_stepped 29 = .ok (.ifCond .lt 21, 3) := by decide +kernel
theorem dX12_stepped_32 : decode cX12_stepped 32 = .ok (.iload_n 3, 1) := by decide +kernel
theorem dX12_stepped_33 : decode cX12_stepped 33 = .ok (.bipush 8, 2) := by decide +kernel
theorem dX12_stepped_35 : decode cX12_stepped 35 = .ok (.if_icmp .ge 15, 3) := by decide +kernel
theorem dX12_stepped_38 : decode cX12_stepped 38 = .ok (.iload 4, 2) := by decide +kernel
theorem dX12_stepped_40 : decode cX12_stepped 40 = .ok (.ifCond .lt 10, 3) := by decide +kernel
theorem dX12_stepped_43 : decode cX12_stepped 43 = .ok (.iload 4, 2) := by decide +kernel
theorem dX12_stepped_45 : decode cX12_stepped 45 = .ok (.bipush 8, 2) := by decide +kernel
theorem dX12_stepped_47 : decode cX12_stepped 47 = .ok (.if_icmp .lt 7, 3) := by decide +kernel
theorem dX12_stepped_50 : decode cX12_stepped 50 = .ok (.iconst (-1), 1) := by decide +kernel
theorem dX12_stepped_51 : decode cX12_stepped 51 = .ok (.goto 10, 3) := by decide +kernel
theorem dX12_stepped_54 : decode cX12_stepped 54 = .ok (.bipush 8, 2) := by decide +kernel
theorem dX12_stepped_56 : decode cX12_stepped 56 = .ok (.iload 4, 2) := by decide +kernel
theorem dX12_stepped_58 : decode cX12_stepped 58 = .ok (.imul, 1) := by decide +kernel
theorem dX12_stepped_59 : decode cX12_stepped 59 = .ok (.iload_n 3, 1) := by decide +kernel
theorem dX12_stepped_60 : decode cX12_stepped 60 = .ok (.iadd, 1) := by decide +kernel
theorem dX12_stepped_61 : decode cX12_stepped 61 = .ok (.ireturn, 1) := by decide +kernel
def kX12_stepped_23 (mc ms : Nat) (X : Nat → zV) (Q : zQt) : zT :=
  zli 2 <| zc (.int 4) <| zic (fun x y => x = y) (zj X 50 []) <| zli 3 <| zif (fun x => x < 0) (zj X 50 []) <| zli 3 <| zc (.int 8) <| zic (fun x y => y ≤ x) (zj X 50 []) <| zli 4 <| zif (fun x => x < 0) (zj X 50 []) <| zli 4 <| zc (.int 8) <| zic (fun x y => x < y) (zc (.int 8) <| zli 4 <| zii (fun x y => x * y) <| zli 3 <| zii (fun x y => x + y) <| zj X 61 []) <| zj X 50 []
def kX12_stepped_11 (mc ms : Nat) (X : Nat → zV) (Q : zQt) : zT :=
  zli 1 <| zc (.int 8) <| zid (fun x y => x / y) <| zli 2 <| zc (.int 3) <| zid (fun x y => x / y) <| zii (fun x y => x + y) <| zc (.int 1) <| zii (fun x y => x - y) <| zsiN 4 <| kX12_stepped_23 mc ms X Q
def aX12_stepped_0 (mc ms : Nat) (X : Nat → zV) (Q : zQt) : zT :=
  zli 1 <| zc (.int 8) <| zid (fun x y => x - x / y * y) <| zli 2 <| zc (.int 3) <| zid (fun x y => x - x / y * y) <| zii (fun x y => x + y) <| zc (.int 1) <| zii (fun x y => x - y) <| zsiN 3 <| kX12_stepped_11 mc ms X Q
def aX12_stepped_50 (mc ms : Nat) (X : Nat → zV) (Q : zQt) : zT :=
  zc (.int (-1)) <| zj X 61 []
def aX12_stepped_61 (mc ms : Nat) (X : Nat → zV) (Q : zQt) : zT :=
  zri Q
def lvX12_stepped : Nat → List Nat := fun L => match L with
  | 0 => [0, 1, 2]
  | 50 => []
  | 61 => []
  | _ => []
def wX12_stepped : zSp := fun mc ms av M Q => ((zlay av).length ≤ 5 ∧ zpick (zlay av) [0, 1, 2] = some av) ∧ ∀ X : Nat → zV, zin 5 [0, 1, 2] (aX12_stepped_0 mc ms X Q) X 0 → zin 5 [] (aX12_stepped_50 mc ms X Q) X 50 → zin 5 [] (aX12_stepped_61 mc ms X Q) X 61 → X 0 0 0 av [] M
set_option maxRecDepth 100000 in
set_option maxHeartbeats 4000000 in
theorem sX12_stepped (l : Launch) (G : zG) : zSnd l G yX12_stepped cX12_stepped 5 (some .int) 0 0 wX12_stepped := by
  refine zmk [0, 1, 2] (by decide) (fun mc ms av M Q h => h.1) ?_
  intro p e R s m args below meth c mc ms av M Q hC hRf hRl hr hnm h lv hlv
  obtain ⟨X, hXe⟩ : ∃ X : Nat → zV, X = fun L u v vs st M => ∀ lv, zpick lv (lvX12_stepped L) = some vs → zAt p l e R s m args below meth c (MQ below (zQ G Q) args s mc ms (zA G)) G 5 L u v lv st M := ⟨_, rfl⟩
  have hJ : ∀ L, zOk p l e R s m args below meth c (MQ below (zQ G Q) args s mc ms (zA G)) G 5 L (zj X L (lvX12_stepped L)) := fun L => S_jump (fun u v lv vs st M hp hx => by rw [hXe] at hx; exact hx lv hp)
  have hB0 : zin 5 [0, 1, 2] (aX12_stepped_0 mc ms X Q) X 0 := by
    intro u v vs st M hb
    rw [hXe]
    refine fun lv hp => S_block (L := 0) (live := [0, 1, 2]) ?_ u v lv vs st M hp hb
    unfold aX12_stepped_0
    refine S_iload_n (pc := 0) hC dX12_stepped_0 rfl ?_
    refine S_bipush (pc := 1) hC dX12_stepped_1 (by decide) ?_
    refine S_irem (pc := 3) hC dX12_stepped_3 ?_
    refine S_iload_n (pc := 4) hC dX12_stepped_4 rfl ?_
    refine S_iconst (pc := 5) hC dX12_stepped_5 (by decide) ?_
    refine S_irem (pc := 6) hC dX12_stepped_6 ?_
    refine S_iadd (pc := 7) hC dX12_stepped_7 ?_
    refine S_iconst (pc := 8) hC dX12_stepped_8 (by decide) ?_
    refine S_isub (pc := 9) hC dX12_stepped_9 ?_
    refine S_istore_n_N (pc := 10) hC dX12_stepped_10 rfl (by decide) ?_
    unfold kX12_stepped_11
    refine S_iload_n (pc := 11) hC dX12_stepped_11 rfl ?_
    refine S_bipush (pc := 12) hC dX12_stepped_12 (by decide) ?_
    refine S_idiv (pc := 14) hC dX12_stepped_14 ?_
    refine S_iload_n (pc := 15) hC dX12_stepped_15 rfl ?_
    refine S_iconst (pc := 16) hC dX12_stepped_16 (by decide) ?_
    refine S_idiv (pc := 17) hC dX12_stepped_17 ?_
    refine S_iadd (pc := 18) hC dX12_stepped_18 ?_
    refine S_iconst (pc := 19) hC dX12_stepped_19 (by decide) ?_
    refine S_isub (pc := 20) hC dX12_stepped_20 ?_
    refine S_istore_N (pc := 21) hC dX12_stepped_21 (by decide) ?_
    unfold kX12_stepped_23
    refine S_iload_n (pc := 23) hC dX12_stepped_23 rfl ?_
    refine S_iconst (pc := 24) hC dX12_stepped_24 (by decide) ?_
    refine S_icmp_eq (pc := 25) (tgt := 50) hC dX12_stepped_25 (by decide) ?_ ?_
    · exact hJ 50
    · refine S_iload_n (pc := 28) hC dX12_stepped_28 rfl ?_
      refine S_if_lt (pc := 29) (tgt := 50) hC dX12_stepped_29 (by decide) ?_ ?_
      · exact hJ 50
      · refine S_iload_n (pc := 32) hC dX12_stepped_32 rfl ?_
        refine S_bipush (pc := 33) hC dX12_stepped_33 (by decide) ?_
        refine S_icmp_ge (pc := 35) (tgt := 50) hC dX12_stepped_35 (by decide) ?_ ?_
        · exact hJ 50
        · refine S_iload (pc := 38) hC dX12_stepped_38 ?_
          refine S_if_lt (pc := 40) (tgt := 50) hC dX12_stepped_40 (by decide) ?_ ?_
          · exact hJ 50
          · refine S_iload (pc := 43) hC dX12_stepped_43 ?_
            refine S_bipush (pc := 45) hC dX12_stepped_45 (by decide) ?_
            refine S_icmp_lt (pc := 47) (tgt := 54) hC dX12_stepped_47 (by decide) ?_ ?_
            · refine S_bipush (pc := 54) hC dX12_stepped_54 (by decide) ?_
              refine S_iload (pc := 56) hC dX12_stepped_56 ?_
              refine S_imul (pc := 58) hC dX12_stepped_58 ?_
              refine S_iload_n (pc := 59) hC dX12_stepped_59 rfl ?_
              refine S_iadd (pc := 60) hC dX12_stepped_60 ?_
              exact hJ 61
            · exact hJ 50
  have hB50 : zin 5 [] (aX12_stepped_50 mc ms X Q) X 50 := by
    intro u v vs st M hb
    rw [hXe]
    refine fun lv hp => S_block (L := 50) (live := []) ?_ u v lv vs st M hp hb
    unfold aX12_stepped_50
    refine S_iconst (pc := 50) hC dX12_stepped_50 (by decide) ?_
    refine S_goto (pc := 51) (tgt := 61) hC dX12_stepped_51 (by decide) ?_
    exact hJ 61
  have hB61 : zin 5 [] (aX12_stepped_61 mc ms X Q) X 61 := by
    intro u v vs st M hb
    rw [hXe]
    refine fun lv hp => S_block (L := 61) (live := []) ?_ u v lv vs st M hp hb
    unfold aX12_stepped_61
    exact S_ireturn (pc := 61) hC hr dX12_stepped_61
  have := h.2 X hB0 hB50 hB61
  rw [hXe] at this
  exact this lv hlv
theorem vcX12_stepped_23 {mc ms : Nat} {X : Nat → zV} {Q : zQt} {M : zM} {x1 : Int32} {x2 : Int32} {x3 : Int32} {x4 : Int32} (hW : zFix M)  (h : (x2 = (4 : Int32) → X 50 0 0 [] [] M) ∧ (¬ x2 = (4 : Int32) → (x3 < 0 → X 50 0 0 [] [] M) ∧ (¬ x3 < 0 → ((8 : Int32) ≤ x3 → X 50 0 0 [] [] M) ∧ (¬ (8 : Int32) ≤ x3 → (x4 < 0 → X 50 0 0 [] [] M) ∧ (¬ x4 < 0 → (x4 < (8 : Int32) → X 61 0 0 [] [.int (((8 : Int32) * x4) + x3)] M) ∧ (¬ x4 < (8 : Int32) → X 50 0 0 [] [] M)))))) : kX12_stepped_23 mc ms X Q 0 0 [some (.ref 71), some (.int x1), some (.int x2), some (.int x3), some (.int x4)] [] M := ⟨fun c25 => (h.1 c25), fun c25 => ⟨fun c29 => ((h.2 c25).1 c29), fun c29 => ⟨fun c35 => (((h.2 c25).2 c29).1 c35), fun c35 => ⟨fun c40 => ((((h.2 c25).2 c29).2 c35).1 c40), fun c40 => ⟨fun c47 => (((((h.2 c25).2 c29).2 c35).2 c40).1 c47), fun c47 => (((((h.2 c25).2 c29).2 c35).2 c40).2 c47)⟩⟩⟩⟩⟩
theorem vcX12_stepped_11 {mc ms : Nat} {X : Nat → zV} {Q : zQt} {M : zM} {x1 : Int32} {x2 : Int32} {x3 : Int32} (hW : zFix M)  (h : ∀ y21 : Int32, y21 = (((x1 / (8 : Int32)) + (x2 / (3 : Int32))) - (1 : Int32)) → (x2 = (4 : Int32) → X 50 0 0 [] [] M) ∧ (¬ x2 = (4 : Int32) → (x3 < 0 → X 50 0 0 [] [] M) ∧ (¬ x3 < 0 → ((8 : Int32) ≤ x3 → X 50 0 0 [] [] M) ∧ (¬ (8 : Int32) ≤ x3 → (y21 < 0 → X 50 0 0 [] [] M) ∧ (¬ y21 < 0 → (y21 < (8 : Int32) → X 61 0 0 [] [.int (((8 : Int32) * y21) + x3)] M) ∧ (¬ y21 < (8 : Int32) → X 50 0 0 [] [] M)))))) : kX12_stepped_11 mc ms X Q 0 0 [some (.ref 71), some (.int x1), some (.int x2), some (.int x3), none] [] M := ⟨by decide, ⟨by decide, (fun y21 e21 => have h21 := h y21 e21; (vcX12_stepped_23 hW  h21))⟩⟩
theorem vX12_stepped_0 {mc ms : Nat} {X : Nat → zV} {Q : zQt} {M : zM} {x1 : Int32} {x2 : Int32} (hW : zFix M)  (h : ∀ y10 : Int32, y10 = (((x1 - x1 / (8 : Int32) * (8 : Int32)) + (x2 - x2 / (3 : Int32) * (3 : Int32))) - (1 : Int32)) → ∀ y21 : Int32, y21 = (((x1 / (8 : Int32)) + (x2 / (3 : Int32))) - (1 : Int32)) → (x2 = (4 : Int32) → X 50 0 0 [] [] M) ∧ (¬ x2 = (4 : Int32) → (y10 < 0 → X 50 0 0 [] [] M) ∧ (¬ y10 < 0 → ((8 : Int32) ≤ y10 → X 50 0 0 [] [] M) ∧ (¬ (8 : Int32) ≤ y10 → (y21 < 0 → X 50 0 0 [] [] M) ∧ (¬ y21 < 0 → (y21 < (8 : Int32) → X 61 0 0 [] [.int (((8 : Int32) * y21) + y10)] M) ∧ (¬ y21 < (8 : Int32) → X 50 0 0 [] [] M)))))) : aX12_stepped_0 mc ms X Q 0 0 [some (.ref 71), some (.int x1), some (.int x2), none, none] [] M := ⟨by decide, ⟨by decide, (fun y10 e10 => have h10 := h y10 e10; (vcX12_stepped_11 hW  h10))⟩⟩
theorem vX12_stepped_50 {mc ms : Nat} {X : Nat → zV} {Q : zQt} {M : zM}  (hW : zFix M)  (h : X 61 0 0 [] [.int (-1)] M) : aX12_stepped_50 mc ms X Q 0 0 [none, none, none, none, none] [] M := h
theorem vX12_stepped_61 {mc ms : Nat} {X : Nat → zV} {Q : zQt} {M : zM} {s0 : Int32} (hW : zFix M)  (h : Q (some (.int s0)) M) : aX12_stepped_61 mc ms X Q 0 0 [none, none, none, none, none] [.int s0] M := h
theorem dX12_add_0 : decode cX12_add 0 = .ok (.aload_n 0, 1) := by decide +kernel
theorem dX12_add_1 : decode cX12_add 1 = .ok (.getfield 32, 3) := by decide +kernel
theorem dX12_add_4 : decode cX12_add 4 = .ok (.aload_n 0, 1) := by decide +kernel
theorem dX12_add_5 : decode cX12_add 5 = .ok (.getfield 66, 3) := by decide +kernel
theorem dX12_add_8 : decode cX12_add 8 = .ok (.iload_n 1, 1) := by decide +kernel
theorem dX12_add_9 : decode cX12_add 9 = .ok (.bipush 64, 2) := by decide +kernel
theorem dX12_add_11 : decode cX12_add 11 = .ok (.iload_n 2, 1) := by decide +kernel
theorem dX12_add_12 : decode cX12_add 12 = .ok (.imul, 1) := by decide +kernel
theorem dX12_add_13 : decode cX12_add 13 = .ok (.iadd, 1) := by decide +kernel
theorem dX12_add_14 : decode cX12_add 14 = .ok (.sipush 4096, 3) := by decide +kernel
theorem dX12_add_17 : decode cX12_add 17 = .ok (.iload_n 3, 1) := by decide +kernel
theorem dX12_add_18 : decode cX12_add 18 = .ok (.imul, 1) := by decide +kernel
theorem dX12_add_19 : decode cX12_add 19 = .ok (.iadd, 1) := by decide +kernel
theorem dX12_add_20 : decode cX12_add 20 = .ok (.iastore, 1) := by decide +kernel
theorem dX12_add_21 : decode cX12_add 21 = .ok (.aload_n 0, 1) := by decide +kernel
theorem dX12_add_22 : decode cX12_add 22 = .ok (.getfield 35, 3) := by decide +kernel
theorem dX12_add_25 : decode cX12_add 25 = .ok (.aload_n 0, 1) := by decide +kernel
theorem dX12_add_26 : decode cX12_add 26 = .ok (.getfield 66, 3) := by decide +kernel
theorem dX12_add_29 : decode cX12_add 29 = .ok (.iload 4, 2) := by decide +kernel
theorem dX12_add_31 : decode cX12_add 31 = .ok (.iastore, 1) := by decide +kernel
theorem dX12_add_32 : decode cX12_add 32 = .ok (.aload_n 0, 1) := by decide +kernel
theorem dX12_add_33 : decode cX12_add 33 = .ok (.getfield 38, 3) := by decide +kernel
theorem dX12_add_36 : decode cX12_add 36 = .ok (.aload_n 0, 1) := by decide +kernel
theorem dX12_add_37 : decode cX12_add 37 = .ok (.getfield 66, 3) := by decide +kernel
theorem dX12_add_40 : decode cX12_add 40 = .ok (.iload 5, 2) := by decide +kernel
theorem dX12_add_42 : decode cX12_add 42 = .ok (.iastore, 1) := by decide +kernel
theorem dX12_add_43 : decode cX12_add 43 = .ok (.aload_n 0, 1) := by decide +kernel
theorem dX12_add_44 : decode cX12_add 44 = .ok (.getfield 41, 3) := by decide +kernel
theorem dX12_add_47 : decode cX12_add 47 = .ok (.aload_n 0, 1) := by decide +kernel
theorem dX12_add_48 : decode cX12_add 48 = .ok (.getfield 66, 3) := by decide +kernel
theorem dX12_add_51 : decode cX12_add 51 = .ok (.iload 6, 2) := by decide +kernel
theorem dX12_add_53 : decode cX12_add 53 = .ok (.iastore, 1) := by decide +kernel
theorem dX12_add_54 : decode cX12_add 54 = .ok (.aload_n 0, 1) := by decide +kernel
theorem dX12_add_55 : decode cX12_add 55 = .ok (.getfield 44, 3) := by decide +kernel
theorem dX12_add_58 : decode cX12_add 58 = .ok (.aload_n 0, 1) := by decide +kernel
theorem dX12_add_59 : decode cX12_add 59 = .ok (.getfield 66, 3) := by decide +kernel
theorem dX12_add_62 : decode cX12_add 62 = .ok (.iload 7, 2) := by decide +kernel
theorem dX12_add_64 : decode cX12_add 64 = .ok (.iastore, 1) := by decide +kernel
theorem dX12_add_65 : decode cX12_add 65 = .ok (.aload_n 0, 1) := by decide +kernel
theorem dX12_add_66 : decode cX12_add 66 = .ok (.dup, 1) := by decide +kernel
theorem dX12_add_67 : decode cX12_add 67 = .ok (.getfield 66, 3) := by decide +kernel
theorem dX12_add_70 : decode cX12_add 70 = .ok (.iconst 1, 1) := by decide +kernel
theorem dX12_add_71 : decode cX12_add 71 = .ok (.iadd, 1) := by decide +kernel
theorem dX12_add_72 : decode cX12_add 72 = .ok (.putfield 66, 3) := by decide +kernel
theorem dX12_add_75 : decode cX12_add 75 = .ok (.return_, 1) := by decide +kernel
def aX12_add_0 (mc ms : Nat) (X : Nat → zV) (Q : zQt) : zT :=
  zla 0 <| zgR 12 12 <| zla 0 <| zgi 12 11 <| zli 1 <| zc (.int 64) <| zli 2 <| zii (fun x y => x * y) <| zii (fun x y => x + y) <| zc (.int 4096) <| zli 3 <| zii (fun x y => x * y) <| zii (fun x y => x + y) <| zas 1 (fun x => x) <| zla 0 <| zgR 12 13 <| zla 0 <| zgi 12 11 <| zli 4 <| zas 1 (fun x => x) <| zla 0 <| zgR 12 14 <| zla 0 <| zgi 12 11 <| zli 5 <| zas 1 (fun x => x) <| zla 0 <| zgR 12 15 <| zla 0 <| zgi 12 11 <| zli 6 <| zas 1 (fun x => x) <| zla 0 <| zgR 12 16 <| zla 0 <| zgi 12 11 <| zli 7 <| zas 1 (fun x => x) <| zla 0 <| zdup <| zgi 12 11 <| zc (.int 1) <| zii (fun x y => x + y) <| zpi 12 11 <| zrv Q
def lvX12_add : Nat → List Nat := fun L => match L with
  | 0 => [0, 1, 2, 3, 4, 5, 6, 7]
  | _ => []
def wX12_add : zSp := fun mc ms av M Q => ((zlay av).length ≤ 8 ∧ zpick (zlay av) [0, 1, 2, 3, 4, 5, 6, 7] = some av) ∧ ∀ X : Nat → zV, zin 8 [0, 1, 2, 3, 4, 5, 6, 7] (aX12_add_0 mc ms X Q) X 0 → X 0 0 0 av [] M
set_option maxRecDepth 100000 in
set_option maxHeartbeats 4000000 in
theorem sX12_add (l : Launch) (G : zG) : zSnd l G yX12_add cX12_add 8 none 0 0 wX12_add := by
  refine zmk [0, 1, 2, 3, 4, 5, 6, 7] (by decide) (fun mc ms av M Q h => h.1) ?_
  intro p e R s m args below meth c mc ms av M Q hC hRf hRl hr hnm h lv hlv
  obtain ⟨X, hXe⟩ : ∃ X : Nat → zV, X = fun L u v vs st M => ∀ lv, zpick lv (lvX12_add L) = some vs → zAt p l e R s m args below meth c (MQ below (zQ G Q) args s mc ms (zA G)) G 8 L u v lv st M := ⟨_, rfl⟩
  have hJ : ∀ L, zOk p l e R s m args below meth c (MQ below (zQ G Q) args s mc ms (zA G)) G 8 L (zj X L (lvX12_add L)) := fun L => S_jump (fun u v lv vs st M hp hx => by rw [hXe] at hx; exact hx lv hp)
  have hB0 : zin 8 [0, 1, 2, 3, 4, 5, 6, 7] (aX12_add_0 mc ms X Q) X 0 := by
    intro u v vs st M hb
    rw [hXe]
    refine fun lv hp => S_block (L := 0) (live := [0, 1, 2, 3, 4, 5, 6, 7]) ?_ u v lv vs st M hp hb
    unfold aX12_add_0
    refine S_aload_n (pc := 0) hC dX12_add_0 rfl ?_
    refine S_getR (pc := 1) hC cfX12 (by decide) (Or.inr ⟨_, rfl⟩) wd_1214 dX12_add_1 ?_
    refine S_aload_n (pc := 4) hC dX12_add_4 rfl ?_
    refine S_geti (pc := 5) hC cfX12 (by decide) (Or.inl rfl) wd_1213 dX12_add_5 ?_
    refine S_iload_n (pc := 8) hC dX12_add_8 rfl ?_
    refine S_bipush (pc := 9) hC dX12_add_9 (by decide) ?_
    refine S_iload_n (pc := 11) hC dX12_add_11 rfl ?_
    refine S_imul (pc := 12) hC dX12_add_12 ?_
    refine S_iadd (pc := 13) hC dX12_add_13 ?_
    refine S_sipush (pc := 14) hC dX12_add_14 (by decide) ?_
    refine S_iload_n (pc := 17) hC dX12_add_17 rfl ?_
    refine S_imul (pc := 18) hC dX12_add_18 ?_
    refine S_iadd (pc := 19) hC dX12_add_19 ?_
    refine S_iastore (pc := 20) hC dX12_add_20 ?_
    refine S_aload_n (pc := 21) hC dX12_add_21 rfl ?_
    refine S_getR (pc := 22) hC cfX12 (by decide) (Or.inr ⟨_, rfl⟩) wd_1215 dX12_add_22 ?_
    refine S_aload_n (pc := 25) hC dX12_add_25 rfl ?_
    refine S_geti (pc := 26) hC cfX12 (by decide) (Or.inl rfl) wd_1213 dX12_add_26 ?_
    refine S_iload (pc := 29) hC dX12_add_29 ?_
    refine S_iastore (pc := 31) hC dX12_add_31 ?_
    refine S_aload_n (pc := 32) hC dX12_add_32 rfl ?_
    refine S_getR (pc := 33) hC cfX12 (by decide) (Or.inr ⟨_, rfl⟩) wd_1216 dX12_add_33 ?_
    refine S_aload_n (pc := 36) hC dX12_add_36 rfl ?_
    refine S_geti (pc := 37) hC cfX12 (by decide) (Or.inl rfl) wd_1213 dX12_add_37 ?_
    refine S_iload (pc := 40) hC dX12_add_40 ?_
    refine S_iastore (pc := 42) hC dX12_add_42 ?_
    refine S_aload_n (pc := 43) hC dX12_add_43 rfl ?_
    refine S_getR (pc := 44) hC cfX12 (by decide) (Or.inr ⟨_, rfl⟩) wd_1217 dX12_add_44 ?_
    refine S_aload_n (pc := 47) hC dX12_add_47 rfl ?_
    refine S_geti (pc := 48) hC cfX12 (by decide) (Or.inl rfl) wd_1213 dX12_add_48 ?_
    refine S_iload (pc := 51) hC dX12_add_51 ?_
    refine S_iastore (pc := 53) hC dX12_add_53 ?_
    refine S_aload_n (pc := 54) hC dX12_add_54 rfl ?_
    refine S_getR (pc := 55) hC cfX12 (by decide) (Or.inr ⟨_, rfl⟩) wd_1218 dX12_add_55 ?_
    refine S_aload_n (pc := 58) hC dX12_add_58 rfl ?_
    refine S_geti (pc := 59) hC cfX12 (by decide) (Or.inl rfl) wd_1213 dX12_add_59 ?_
    refine S_iload (pc := 62) hC dX12_add_62 ?_
    refine S_iastore (pc := 64) hC dX12_add_64 ?_
    refine S_aload_n (pc := 65) hC dX12_add_65 rfl ?_
    refine S_dup (pc := 66) hC dX12_add_66 ?_
    refine S_geti (pc := 67) hC cfX12 (by decide) (Or.inl rfl) wd_1213 dX12_add_67 ?_
    refine S_iconst (pc := 70) hC dX12_add_70 (by decide) ?_
    refine S_iadd (pc := 71) hC dX12_add_71 ?_
    refine S_puti (pc := 72) hC cfX12 (by decide) rfl (Or.inl rfl) wd_1213 dX12_add_72 ?_
    exact S_vreturn (pc := 75) hC hr dX12_add_75
  have := h.2 X hB0
  rw [hXe] at this
  exact this lv hlv
theorem vX12_add_0 {mc ms : Nat} {X : Nat → zV} {Q : zQt} {M : zM} {x1 : Int32} {x2 : Int32} {x3 : Int32} {x4 : Int32} {x5 : Int32} {x6 : Int32} {x7 : Int32} (hW : zFix M)  (h : vp_in ((M.1 71 11)) 64 ∧ ∀ M20 : zM, M20 = (zsI M 76 ((M.1 71 11) : Int32).toNatClampNeg (((x1 + ((64 : Int32) * x2)) + ((4096 : Int32) * x3)))) → vp_in ((M20.1 71 11)) 64 ∧ ∀ M31 : zM, M31 = (zsI M20 77 ((M20.1 71 11) : Int32).toNatClampNeg x4) → vp_in ((M31.1 71 11)) 64 ∧ ∀ M42 : zM, M42 = (zsI M31 78 ((M31.1 71 11) : Int32).toNatClampNeg x5) → vp_in ((M42.1 71 11)) 64 ∧ ∀ M53 : zM, M53 = (zsI M42 79 ((M42.1 71 11) : Int32).toNatClampNeg x6) → vp_in ((M53.1 71 11)) 64 ∧ ∀ M64 : zM, M64 = (zsI M53 80 ((M53.1 71 11) : Int32).toNatClampNeg x7) → ∀ M72 : zM, M72 = (zsI M64 71 11 (((M64.1 71 11) + (1 : Int32)))) → Q none M72) : aX12_add_0 mc ms X Q 0 0 [some (.ref 71), some (.int x1), some (.int x2), some (.int x3), some (.int x4), some (.int x5), some (.int x6), some (.int x7)] [] M := ⟨(fxs_71 hW), 76, (fxr_71_12 hW), ⟨(fxs_71 hW), ⟨64, (fxs_76 hW), h.1, (have h20 := h.2 _ rfl; ⟨(fxs_71 hW), 77, (fxr_71_13 hW), ⟨(fxs_71 hW), ⟨64, (fxs_77 hW), h20.1, (have h31 := h20.2 _ rfl; ⟨(fxs_71 hW), 78, (fxr_71_14 hW), ⟨(fxs_71 hW), ⟨64, (fxs_78 hW), h31.1, (have h42 := h31.2 _ rfl; ⟨(fxs_71 hW), 79, (fxr_71_15 hW), ⟨(fxs_71 hW), ⟨64, (fxs_79 hW), h42.1, (have h53 := h42.2 _ rfl; ⟨(fxs_71 hW), 80, (fxr_71_16 hW), ⟨(fxs_71 hW), ⟨64, (fxs_80 hW), h53.1, (have h64 := h53.2 _ rfl; ⟨(fxs_71 hW), ⟨(fxs_71 hW), (have h72 := h64 _ rfl; h72)⟩⟩)⟩⟩⟩)⟩⟩⟩)⟩⟩⟩)⟩⟩⟩)⟩⟩⟩
theorem dX12_strongKing_0 : decode cX12_strongKing 0 = .ok (.iconst 0, 1) := by decide +kernel
theorem dX12_strongKing_1 : decode cX12_strongKing 1 = .ok (.istore 5, 2) := by decide +kernel
theorem dX12_strongKing_3 : decode cX12_strongKing 3 = .ok (.iload 5, 2) := by decide +kernel
theorem dX12_strongKing_5 : decode cX12_strongKing 5 = .ok (.bipush 9, 2) := by decide +kernel
theorem dX12_strongKing_7 : decode cX12_strongKing 7 = .ok (.if_icmp .ge 51, 3) := by decide +kernel
theorem dX12_strongKing_10 : decode cX12_strongKing 10 = .ok (.aload_n 0, 1) := by decide +kernel
theorem dX12_strongKing_11 : decode cX12_strongKing 11 = .ok (.iload_n 2, 1) := by decide +kernel
theorem dX12_strongKing_12 : decode cX12_strongKing 12 = .ok (.iload 5, 2) := by decide +kernel
theorem dX12_strongKing_14 : decode cX12_strongKing 14 = .ok (.invokevirtual 69, 3) := by decide +kernel
theorem dX12_strongKing_17 : decode cX12_strongKing 17 = .ok (.istore 6, 2) := by decide +kernel
theorem dX12_strongKing_19 : decode cX12_strongKing 19 = .ok (.iload 6, 2) := by decide +kernel
theorem dX12_strongKing_21 : decode cX12_strongKing 21 = .ok (.ifCond .lt 31, 3) := by decide +kernel
theorem dX12_strongKing_24 : decode cX12_strongKing 24 = .ok (.aload_n 0, 1) := by decide +kernel
theorem dX12_strongKing_25 : decode cX12_strongKing 25 = .ok (.iload_n 1, 1) := by decide +kernel
theorem dX12_strongKing_26 : decode cX12_strongKing 26 = .ok (.iload 6, 2) := by decide +kernel
theorem dX12_strongKing_28 : decode cX12_strongKing 28 = .ok (.iload_n 3, 1) := by decide +kernel
theorem dX12_strongKing_29 : decode cX12_strongKing 29 = .ok (.iload 4, 2) := by decide +kernel
theorem dX12_strongKing_31 : decode cX12_strongKing 31 = .ok (.iconst 0, 1) := by decide +kernel
theorem dX12_strongKing_32 : decode cX12_strongKing 32 = .ok (.invokevirtual 73, 3) := by decide +kernel
theorem dX12_strongKing_35 : decode cX12_strongKing 35 = .ok (.ifCond .eq 17, 3) := by decide +kernel
theorem dX12_strongKing_38 : decode cX12_strongKing 38 = .ok (.aload_n 0, 1) := by decide +kernel
theorem dX12_strongKing_39 : decode cX12_strongKing 39 = .ok (.iload_n 2, 1) := by decide +kernel
theorem dX12_strongKing_40 : decode cX12_strongKing 40 = .ok (.iload 6, 2) := by decide +kernel
theorem dX12_strongKing_42 : decode cX12_strongKing 42 = .ok (.iconst 0, 1) := by decide +kernel
theorem dX12_strongKing_43 : decode cX12_strongKing 43 = .ok (.iload_n 1, 1) := by decide +kernel
theorem dX12_strongKing_44 : decode cX12_strongKing 44 = .ok (.iload 6, 2) := by decide +kernel
theorem dX12_strongKing_46 : decode cX12_strongKing 46 = .ok (.iload_n 3, 1) := by decide +kernel
theorem dX12_strongKing_47 : decode cX12_strongKing 47 = .ok (.iload 4, 2) := by decide +kernel
theorem dX12_strongKing_49 : decode cX12_strongKing 49 = .ok (.invokevirtual 77, 3) := by decide +kernel
theorem dX12_strongKing_52 : decode cX12_strongKing 52 = .ok (.iinc 5 1, 3) := by decide +kernel
theorem dX12_strongKing_55 : decode cX12_strongKing 55 = .ok (.goto (-52), 3) := by decide +kernel
theorem dX12_strongKing_58 : decode cX12_strongKing 58 = .ok (.return_, 1) := by decide +kernel
def kX12_strongKing_52 (mc ms : Nat) (X : Nat → zV) (Q : zQt) : zT :=
  zj X 52 [0, 1, 2, 3, 4, 5]
def kX12_strongKing_35 (mc ms : Nat) (X : Nat → zV) (Q : zQt) : zT :=
  zif (fun x => x = 0) (zj X 52 [0, 1, 2, 3, 4, 5]) <| zla 0 <| zli 2 <| zli 6 <| zc (.int 0) <| zli 1 <| zli 6 <| zli 3 <| zli 4 <| zcv mc ms 12 7 wX12_add <| kX12_strongKing_52 mc ms X Q
def kX12_strongKing_17 (mc ms : Nat) (X : Nat → zV) (Q : zQt) : zT :=
  zsi 6 <| zli 6 <| zif (fun x => x < 0) (zj X 52 [0, 1, 2, 3, 4, 5]) <| zla 0 <| zli 1 <| zli 6 <| zli 3 <| zli 4 <| zc (.int 0) <| zcv mc ms 12 5 wX12_isPosition <| kX12_strongKing_35 mc ms X Q
def aX12_strongKing_0 (mc ms : Nat) (X : Nat → zV) (Q : zQt) : zT :=
  zc (.int 0) <| zsi 5 <| zj X 3 [0, 1, 2, 3, 4, 5]
def aX12_strongKing_3 (mc ms : Nat) (X : Nat → zV) (Q : zQt) : zT :=
  zli 5 <| zc (.int 9) <| zic (fun x y => y ≤ x) (zrv Q) <| zla 0 <| zli 2 <| zli 5 <| zcv mc ms 12 2 wX12_stepped <| kX12_strongKing_17 mc ms X Q
def aX12_strongKing_52 (mc ms : Nat) (X : Nat → zV) (Q : zQt) : zT :=
  zinc 5 1 <| zj X 3 [0, 1, 2, 3, 4, 5]
def lvX12_strongKing : Nat → List Nat := fun L => match L with
  | 0 => [0, 1, 2, 3, 4]
  | 3 => [0, 1, 2, 3, 4, 5]
  | 52 => [0, 1, 2, 3, 4, 5]
  | _ => []
def wX12_strongKing : zSp := fun mc ms av M Q => ((zlay av).length ≤ 7 ∧ zpick (zlay av) [0, 1, 2, 3, 4] = some av) ∧ ∀ X : Nat → zV, zin 7 [0, 1, 2, 3, 4] (aX12_strongKing_0 mc ms X Q) X 0 → zin 7 [0, 1, 2, 3, 4, 5] (aX12_strongKing_3 mc ms X Q) X 3 → zin 7 [0, 1, 2, 3, 4, 5] (aX12_strongKing_52 mc ms X Q) X 52 → X 0 0 0 av [] M
set_option maxRecDepth 100000 in
set_option maxHeartbeats 4000000 in
theorem sX12_strongKing (l : Launch) (G : zG) : zSnd l G yX12_strongKing cX12_strongKing 7 none 3 84 wX12_strongKing := by
  refine zmk [0, 1, 2, 3, 4] (by decide) (fun mc ms av M Q h => h.1) ?_
  intro p e R s m args below meth c mc ms av M Q hC hRf hRl hr hnm h lv hlv
  obtain ⟨X, hXe⟩ : ∃ X : Nat → zV, X = fun L u v vs st M => ∀ lv, zpick lv (lvX12_strongKing L) = some vs → zAt p l e R s m args below meth c (MQ below (zQ G Q) args s mc ms (zA G)) G 7 L u v lv st M := ⟨_, rfl⟩
  have hJ : ∀ L, zOk p l e R s m args below meth c (MQ below (zQ G Q) args s mc ms (zA G)) G 7 L (zj X L (lvX12_strongKing L)) := fun L => S_jump (fun u v lv vs st M hp hx => by rw [hXe] at hx; exact hx lv hp)
  have hB0 : zin 7 [0, 1, 2, 3, 4] (aX12_strongKing_0 mc ms X Q) X 0 := by
    intro u v vs st M hb
    rw [hXe]
    refine fun lv hp => S_block (L := 0) (live := [0, 1, 2, 3, 4]) ?_ u v lv vs st M hp hb
    unfold aX12_strongKing_0
    refine S_iconst (pc := 0) hC dX12_strongKing_0 (by decide) ?_
    refine S_istore (pc := 1) hC dX12_strongKing_1 (by decide) ?_
    exact hJ 3
  have hB3 : zin 7 [0, 1, 2, 3, 4, 5] (aX12_strongKing_3 mc ms X Q) X 3 := by
    intro u v vs st M hb
    rw [hXe]
    refine fun lv hp => S_block (L := 3) (live := [0, 1, 2, 3, 4, 5]) ?_ u v lv vs st M hp hb
    unfold aX12_strongKing_3
    refine S_iload (pc := 3) hC dX12_strongKing_3 ?_
    refine S_bipush (pc := 5) hC dX12_strongKing_5 (by decide) ?_
    refine S_icmp_ge (pc := 7) (tgt := 58) hC dX12_strongKing_7 (by decide) ?_ ?_
    · exact S_vreturn (pc := 58) hC hr dX12_strongKing_58
    · refine S_aload_n (pc := 10) hC dX12_strongKing_10 rfl ?_
      refine S_iload_n (pc := 11) hC dX12_strongKing_11 rfl ?_
      refine S_iload (pc := 12) hC dX12_strongKing_12 ?_
      refine S_callV (pc := 14) hC (sX12_stepped l G) rfl wd_1739 wd_1741 ws_128 wd_13 wd_1742 (by decide +kernel) ⟨by rw [hRf]; decide, by rw [hRl]; decide⟩ dX12_strongKing_14 ?_
      unfold kX12_strongKing_17
      refine S_istore (pc := 17) hC dX12_strongKing_17 (by decide) ?_
      refine S_iload (pc := 19) hC dX12_strongKing_19 ?_
      refine S_if_lt (pc := 21) (tgt := 52) hC dX12_strongKing_21 (by decide) ?_ ?_
      · exact hJ 52
      · refine S_aload_n (pc := 24) hC dX12_strongKing_24 rfl ?_
        refine S_iload_n (pc := 25) hC dX12_strongKing_25 rfl ?_
        refine S_iload (pc := 26) hC dX12_strongKing_26 ?_
        refine S_iload_n (pc := 28) hC dX12_strongKing_28 rfl ?_
        refine S_iload (pc := 29) hC dX12_strongKing_29 ?_
        refine S_iconst (pc := 31) hC dX12_strongKing_31 (by decide) ?_
        refine S_callV (pc := 32) hC (sX12_isPosition l G) rfl wd_1708 wd_1710 ws_121 wd_13 wd_1711 (by decide +kernel) ⟨by rw [hRf]; decide, by rw [hRl]; decide⟩ dX12_strongKing_32 ?_
        unfold kX12_strongKing_35
        refine S_if_eq (pc := 35) (tgt := 52) hC dX12_strongKing_35 (by decide) ?_ ?_
        · exact hJ 52
        · refine S_aload_n (pc := 38) hC dX12_strongKing_38 rfl ?_
          refine S_iload_n (pc := 39) hC dX12_strongKing_39 rfl ?_
          refine S_iload (pc := 40) hC dX12_strongKing_40 ?_
          refine S_iconst (pc := 42) hC dX12_strongKing_42 (by decide) ?_
          refine S_iload_n (pc := 43) hC dX12_strongKing_43 rfl ?_
          refine S_iload (pc := 44) hC dX12_strongKing_44 ?_
          refine S_iload_n (pc := 46) hC dX12_strongKing_46 rfl ?_
          refine S_iload (pc := 47) hC dX12_strongKing_47 ?_
          refine S_callV (pc := 49) hC (sX12_add l G) rfl wd_1743 wd_1745 ws_129 wd_13 wd_1746 (by decide +kernel) ⟨by rw [hRf]; decide, by rw [hRl]; decide⟩ dX12_strongKing_49 ?_
          unfold kX12_strongKing_52
          exact hJ 52
  have hB52 : zin 7 [0, 1, 2, 3, 4, 5] (aX12_strongKing_52 mc ms X Q) X 52 := by
    intro u v vs st M hb
    rw [hXe]
    refine fun lv hp => S_block (L := 52) (live := [0, 1, 2, 3, 4, 5]) ?_ u v lv vs st M hp hb
    unfold aX12_strongKing_52
    refine S_iinc (pc := 52) hC dX12_strongKing_52 (by decide) (by decide) ?_
    refine S_goto (pc := 55) (tgt := 3) hC dX12_strongKing_55 (by decide) ?_
    exact hJ 3
  have := h.2 X hB0 hB3 hB52
  rw [hXe] at this
  exact this lv hlv
theorem vX12_strongKing_0 {mc ms : Nat} {X : Nat → zV} {Q : zQt} {M : zM} {x1 : Int32} {x2 : Int32} {x3 : Int32} {x4 : Int32} (hW : zFix M)  (h : X 3 0 0 [.ref 71, .int x1, .int x2, .int x3, .int x4, .int 0] [] M) : aX12_strongKing_0 mc ms X Q 0 0 [some (.ref 71), some (.int x1), some (.int x2), some (.int x3), some (.int x4), none, none] [] M := h
theorem vX12_strongKing_3 {mc ms : Nat} {X : Nat → zV} {Q : zQt} {M : zM} {x1 : Int32} {x2 : Int32} {x3 : Int32} {x4 : Int32} {x5 : Int32} (hW : zFix M)  (h : ((9 : Int32) ≤ x5 → Q none M) ∧ (¬ (9 : Int32) ≤ x5 → wX12_stepped 0 0 [.ref 71, .int x2, .int x5] M (fun r M1 => kX12_strongKing_17 mc ms X Q 0 0 [some (.ref 71), some (.int x1), some (.int x2), some (.int x3), some (.int x4), some (.int x5), none] (r.toList ++ []) M1))) : aX12_strongKing_3 mc ms X Q 0 0 [some (.ref 71), some (.int x1), some (.int x2), some (.int x3), some (.int x4), some (.int x5), none] [] M := ⟨fun c7 => (h.1 c7), fun c7 => ⟨Nat.le_of_ble_eq_true rfl, rfl, (fxs_71 hW), 0, 0, Nat.zero_le _, Nat.zero_le _, (h.2 c7)⟩⟩
theorem vX12_strongKing_52 {mc ms : Nat} {X : Nat → zV} {Q : zQt} {M : zM} {x1 : Int32} {x2 : Int32} {x3 : Int32} {x4 : Int32} {x5 : Int32} (hW : zFix M)  (h : X 3 0 0 [.ref 71, .int x1, .int x2, .int x3, .int x4, .int (x5 + 1)] [] M) : aX12_strongKing_52 mc ms X Q 0 0 [some (.ref 71), some (.int x1), some (.int x2), some (.int x3), some (.int x4), some (.int x5), none] [] M := h
theorem vkX12_strongKing_17 {mc ms : Nat} {X : Nat → zV} {Q : zQt} {M : zM} {x1 : Int32} {x2 : Int32} {x3 : Int32} {x4 : Int32} {x5 : Int32} {s0 : Int32} (hW : zFix M)  (h : (s0 < 0 → X 52 0 0 [.ref 71, .int x1, .int x2, .int x3, .int x4, .int x5] [] M) ∧ (¬ s0 < 0 → wX12_isPosition 0 0 [.ref 71, .int x1, .int s0, .int x3, .int x4, .int 0] M (fun r M1 => kX12_strongKing_35 mc ms X Q 0 0 [some (.ref 71), some (.int x1), some (.int x2), some (.int x3), some (.int x4), some (.int x5), some (.int s0)] (r.toList ++ []) M1))) : kX12_strongKing_17 mc ms X Q 0 0 [some (.ref 71), some (.int x1), some (.int x2), some (.int x3), some (.int x4), some (.int x5), none] [.int s0] M := ⟨fun c21 => (h.1 c21), fun c21 => ⟨Nat.le_of_ble_eq_true rfl, rfl, (fxs_71 hW), 0, 0, Nat.zero_le _, Nat.zero_le _, (h.2 c21)⟩⟩
theorem vkX12_strongKing_35 {mc ms : Nat} {X : Nat → zV} {Q : zQt} {M : zM} {x1 : Int32} {x2 : Int32} {x3 : Int32} {x4 : Int32} {x5 : Int32} {x6 : Int32} {s0 : Int32} (hW : zFix M)  (h : (s0 = 0 → X 52 0 0 [.ref 71, .int x1, .int x2, .int x3, .int x4, .int x5] [] M) ∧ (¬ s0 = 0 → wX12_add 0 0 [.ref 71, .int x2, .int x6, .int 0, .int x1, .int x6, .int x3, .int x4] M (fun r M1 => kX12_strongKing_52 mc ms X Q 0 0 [some (.ref 71), some (.int x1), some (.int x2), some (.int x3), some (.int x4), some (.int x5), some (.int x6)] (r.toList ++ []) M1))) : kX12_strongKing_35 mc ms X Q 0 0 [some (.ref 71), some (.int x1), some (.int x2), some (.int x3), some (.int x4), some (.int x5), some (.int x6)] [.int s0] M := ⟨fun c35 => (h.1 c35), fun c35 => ⟨Nat.le_of_ble_eq_true rfl, rfl, (fxs_71 hW), 0, 0, Nat.zero_le _, Nat.zero_le _, (h.2 c35)⟩⟩
theorem vkX12_strongKing_52 {mc ms : Nat} {X : Nat → zV} {Q : zQt} {M : zM} {x1 : Int32} {x2 : Int32} {x3 : Int32} {x4 : Int32} {x5 : Int32} {x6 : Int32} (hW : zFix M)  (h : X 52 0 0 [.ref 71, .int x1, .int x2, .int x3, .int x4, .int x5] [] M) : kX12_strongKing_52 mc ms X Q 0 0 [some (.ref 71), some (.int x1), some (.int x2), some (.int x3), some (.int x4), some (.int x5), some (.int x6)] [] M := h
theorem dX12_pawn_0 : decode cX12_pawn 0 = .ok (.iload_n 2, 1) := by decide +kernel
theorem dX12_pawn_1 : decode cX12_pawn 1 = .ok (.bipush 8, 2) := by decide +kernel
theorem dX12_pawn_3 : decode cX12_pawn 3 = .ok (.iadd, 1) := by decide +kernel
theorem dX12_pawn_4 : decode cX12_pawn 4 = .ok (.istore 4, 2) := by decide +kernel
theorem dX12_pawn_6 : decode cX12_pawn 6 = .ok (.iload 4, 2) := by decide +kernel
theorem dX12_pawn_8 : decode cX12_pawn 8 = .ok (.iload_n 1, 1) := by decide +kernel
theorem dX12_pawn_9 : decode cX12_pawn 9 = .ok (.if_icmp .eq 9, 3) := by decide +kernel
theorem dX12_pawn_12 : decode cX12_pawn 12 = .ok (.iload 4, 2) := by decide +kernel
theorem dX12_pawn_14 : decode cX12_pawn 14 = .ok (.iload_n 3, 1) := by decide +kernel
theorem dX12_pawn_15 : decode cX12_pawn 15 = .ok (.if_icmp .ne 4, 3) := by decide +kernel
theorem dX12_pawn_18 : decode cX12_pawn 18 = .ok (.return_, 1) := by decide +kernel
theorem dX12_pawn_19 : decode cX12_pawn 19 = .ok (.iload 4, 2) := by decide +kernel
theorem dX12_pawn_21 : decode cX12_pawn 21 = .ok (.bipush 8, 2) := by decide +kernel
theorem dX12_pawn_23 : decode cX12_pawn 23 = .ok (.idiv, 1) := by decide +kernel
theorem dX12_pawn_24 : decode cX12_pawn 24 = .ok (.bipush 7, 2) := by decide +kernel
theorem dX12_pawn_26 : decode cX12_pawn 26 = .ok (.if_icmp .ne 34, 3) := by decide +kernel
theorem dX12_pawn_29 : decode cX12_pawn 29 = .ok (.iconst 2, 1) := by decide +kernel
theorem dX12_pawn_30 : decode cX12_pawn 30 = .ok (.istore 5, 2) := by decide +kernel
theorem dX12_pawn_32 : decode cX12_pawn 32 = .ok (.iload 5, 2) := by decide +kernel
theorem dX12_pawn_34 : decode cX12_pawn 34 = .ok (.iconst 5, 1) := by decide +kernel
theorem dX12_pawn_35 : decode cX12_pawn 35 = .ok (.if_icmp .gt 24, 3) := by decide +kernel
theorem dX12_pawn_38 : decode cX12_pawn 38 = .ok (.aload_n 0, 1) := by decide +kernel
theorem dX12_pawn_39 : decode cX12_pawn 39 = .ok (.iload_n 2, 1) := by decide +kernel
theorem dX12_pawn_40 : decode cX12_pawn 40 = .ok (.iload 4, 2) := by decide +kernel
theorem dX12_pawn_42 : decode cX12_pawn 42 = .ok (.iload 5, 2) := by decide +kernel
theorem dX12_pawn_44 : decode cX12_pawn 44 = .ok (.iload 5, 2) := by decide +kernel
theorem dX12_pawn_46 : decode cX12_pawn 46 = .ok (.iload_n 1, 1) := by decide +kernel
theorem dX12_pawn_47 : decode cX12_pawn 47 = .ok (.iload 4, 2) := by decide +kernel
theorem dX12_pawn_49 : decode cX12_pawn 49 = .ok (.iload_n 3, 1) := by decide +kernel
theorem dX12_pawn_50 : decode cX12_pawn 50 = .ok (.invokevirtual 77, 3) := by decide +kernel
theorem dX12_pawn_53 : decode cX12_pawn 53 = .ok (.iinc 5 1, 3) := by decide +kernel
theorem dX12_pawn_56 : decode cX12_pawn 56 = .ok (.goto (-24), 3) := by decide +kernel
theorem dX12_pawn_59 : decode cX12_pawn 59 = .ok (.return_, 1) := by decide +kernel
theorem dX12_pawn_60 : decode cX12_pawn 60 = .ok (.aload_n 0, 1) := by decide +kernel
theorem dX12_pawn_61 : decode cX12_pawn 61 = .ok (.iload_n 2, 1) := by decide +kernel
theorem dX12_pawn_62 : decode cX12_pawn 62 = .ok (.iload 4, 2) := by decide +kernel
theorem dX12_pawn_64 : decode cX12_pawn 64 = .ok (.iconst 0, 1) := by decide +kernel
theorem dX12_pawn_65 : decode cX12_pawn 65 = .ok (.iconst 1, 1) := by decide +kernel
theorem dX12_pawn_66 : decode cX12_pawn 66 = .ok (.iload_n 1, 1) := by decide +kernel
theorem dX12_pawn_67 : decode cX12_pawn 67 = .ok (.iload 4, 2) := by decide +kernel
theorem dX12_pawn_69 : decode cX12_pawn 69 = .ok (.iload_n 3, 1) := by decide +kernel
theorem dX12_pawn_70 : decode cX12_pawn 70 = .ok (.invokevirtual 77, 3) := by decide +kernel
theorem dX12_pawn_73 : decode cX12_pawn 73 = .ok (.iload_n 2, 1) := by decide +kernel
theorem dX12_pawn_74 : decode cX12_pawn 74 = .ok (.bipush 8, 2) := by decide +kernel
theorem dX12_pawn_76 : decode cX12_pawn 76 = .ok (.idiv, 1) := by decide +kernel
theorem dX12_pawn_77 : decode cX12_pawn 77 = .ok (.iconst 1, 1) := by decide +kernel
theorem dX12_pawn_78 : decode cX12_pawn 78 = .ok (.if_icmp .ne 40, 3) := by decide +kernel
theorem dX12_pawn_81 : decode cX12_pawn 81 = .ok (.iload 4, 2) := by decide +kernel
theorem dX12_pawn_83 : decode cX12_pawn 83 = .ok (.bipush 8, 2) := by decide +kernel
theorem dX12_pawn_85 : decode cX12_pawn 85 = .ok (.iadd, 1) := by decide +kernel
theorem dX12_pawn_86 : decode cX12_pawn 86 = .ok (.iload_n 1, 1) := by decide +kernel
theorem dX12_pawn_87 : decode cX12_pawn 87 = .ok (.if_icmp .eq 31, 3) := by decide +kernel
theorem dX12_pawn_90 : decode cX12_pawn 90 = .ok (.iload 4, 2) := by decide +kernel
theorem dX12_pawn_92 : decode cX12_pawn 92 = .ok (.bipush 8, 2) := by decide +kernel
theorem dX12_pawn_94 : decode cX12_pawn 94 = .ok (.iadd, 1) := by decide +kernel
theorem dX12_pawn_95 : decode cX12_pawn 95 = .ok (.iload_n 3, 1) := by decide +kernel
theorem dX12_pawn_96 : decode cX12_pawn 96 = .ok (.if_icmp .eq 22, 3) := by decide +kernel
theorem dX12_pawn_99 : decode cX12_pawn 99 = .ok (.aload_n 0, 1) := by decide +kernel
theorem dX12_pawn_100 : decode cX12_pawn 100 = .ok (.iload_n 2, 1) := by decide +kernel
theorem dX12_pawn_101 : decode cX12_pawn 101 = .ok (.iload 4, 2) := by decide +kernel
theorem dX12_pawn_103 : decode cX12_pawn 103 = .ok (.bipush 8, 2) := by decide +kernel
theorem dX12_pawn_105 : decode cX12_pawn 105 = .ok (.iadd, 1) := by decide +kernel
theorem dX12_pawn_106 : decode cX12_pawn 106 = .ok (.iconst 0, 1) := by decide +kernel
theorem dX12_pawn_107 : decode cX12_pawn 107 = .ok (.iconst 1, 1) := by decide +kernel
theorem dX12_pawn_108 : decode cX12_pawn 108 = .ok (.iload_n 1, 1) := by decide +kernel
theorem dX12_pawn_109 : decode cX12_pawn 109 = .ok (.iload 4, 2) := by decide +kernel
theorem dX12_pawn_111 : decode cX12_pawn 111 = .ok (.bipush 8, 2) := by decide +kernel
theorem dX12_pawn_113 : decode cX12_pawn 113 = .ok (.iadd, 1) := by decide +kernel
theorem dX12_pawn_114 : decode cX12_pawn 114 = .ok (.iload_n 3, 1) := by decide +kernel
theorem dX12_pawn_115 : decode cX12_pawn 115 = .ok (.invokevirtual 77, 3) := by decide +kernel
theorem dX12_pawn_118 : decode cX12_pawn 118 = .ok (.return_, 1) := by decide +kernel
def kX12_pawn_118 (mc ms : Nat) (X : Nat → zV) (Q : zQt) : zT :=
  zj X 118 []
def kX12_pawn_73 (mc ms : Nat) (X : Nat → zV) (Q : zQt) : zT :=
  zli 2 <| zc (.int 8) <| zid (fun x y => x / y) <| zc (.int 1) <| zic (fun x y => x = y) (zli 4 <| zc (.int 8) <| zii (fun x y => x + y) <| zli 1 <| zic (fun x y => x = y) (zj X 118 []) <| zli 4 <| zc (.int 8) <| zii (fun x y => x + y) <| zli 3 <| zic (fun x y => x = y) (zj X 118 []) <| zla 0 <| zli 2 <| zli 4 <| zc (.int 8) <| zii (fun x y => x + y) <| zc (.int 0) <| zc (.int 1) <| zli 1 <| zli 4 <| zc (.int 8) <| zii (fun x y => x + y) <| zli 3 <| zcv mc ms 12 7 wX12_add <| kX12_pawn_118 mc ms X Q) <| zj X 118 []
def kX12_pawn_53 (mc ms : Nat) (X : Nat → zV) (Q : zQt) : zT :=
  zinc 5 1 <| zj X 32 [0, 1, 2, 3, 4, 5]
def aX12_pawn_0 (mc ms : Nat) (X : Nat → zV) (Q : zQt) : zT :=
  zli 2 <| zc (.int 8) <| zii (fun x y => x + y) <| zsi 4 <| zli 4 <| zli 1 <| zic (fun x y => x = y) (zj X 18 []) <| zli 4 <| zli 3 <| zic (fun x y => x = y) (zj X 18 []) <| zli 4 <| zc (.int 8) <| zid (fun x y => x / y) <| zc (.int 7) <| zic (fun x y => x = y) (zc (.int 2) <| zsi 5 <| zj X 32 [0, 1, 2, 3, 4, 5]) <| zla 0 <| zli 2 <| zli 4 <| zc (.int 0) <| zc (.int 1) <| zli 1 <| zli 4 <| zli 3 <| zcv mc ms 12 7 wX12_add <| kX12_pawn_73 mc ms X Q
def aX12_pawn_18 (mc ms : Nat) (X : Nat → zV) (Q : zQt) : zT :=
  zrv Q
def aX12_pawn_32 (mc ms : Nat) (X : Nat → zV) (Q : zQt) : zT :=
  zli 5 <| zc (.int 5) <| zic (fun x y => y < x) (zrv Q) <| zla 0 <| zli 2 <| zli 4 <| zli 5 <| zli 5 <| zli 1 <| zli 4 <| zli 3 <| zcv mc ms 12 7 wX12_add <| kX12_pawn_53 mc ms X Q
def aX12_pawn_118 (mc ms : Nat) (X : Nat → zV) (Q : zQt) : zT :=
  zrv Q
def lvX12_pawn : Nat → List Nat := fun L => match L with
  | 0 => [0, 1, 2, 3]
  | 18 => []
  | 32 => [0, 1, 2, 3, 4, 5]
  | 118 => []
  | _ => []
def wX12_pawn : zSp := fun mc ms av M Q => ((zlay av).length ≤ 6 ∧ zpick (zlay av) [0, 1, 2, 3] = some av) ∧ ∀ X : Nat → zV, zin 6 [0, 1, 2, 3] (aX12_pawn_0 mc ms X Q) X 0 → zin 6 [] (aX12_pawn_18 mc ms X Q) X 18 → zin 6 [0, 1, 2, 3, 4, 5] (aX12_pawn_32 mc ms X Q) X 32 → zin 6 [] (aX12_pawn_118 mc ms X Q) X 118 → X 0 0 0 av [] M
set_option maxRecDepth 100000 in
set_option maxHeartbeats 4000000 in
theorem sX12_pawn (l : Launch) (G : zG) : zSnd l G yX12_pawn cX12_pawn 6 none 1 27 wX12_pawn := by
  refine zmk [0, 1, 2, 3] (by decide) (fun mc ms av M Q h => h.1) ?_
  intro p e R s m args below meth c mc ms av M Q hC hRf hRl hr hnm h lv hlv
  obtain ⟨X, hXe⟩ : ∃ X : Nat → zV, X = fun L u v vs st M => ∀ lv, zpick lv (lvX12_pawn L) = some vs → zAt p l e R s m args below meth c (MQ below (zQ G Q) args s mc ms (zA G)) G 6 L u v lv st M := ⟨_, rfl⟩
  have hJ : ∀ L, zOk p l e R s m args below meth c (MQ below (zQ G Q) args s mc ms (zA G)) G 6 L (zj X L (lvX12_pawn L)) := fun L => S_jump (fun u v lv vs st M hp hx => by rw [hXe] at hx; exact hx lv hp)
  have hB0 : zin 6 [0, 1, 2, 3] (aX12_pawn_0 mc ms X Q) X 0 := by
    intro u v vs st M hb
    rw [hXe]
    refine fun lv hp => S_block (L := 0) (live := [0, 1, 2, 3]) ?_ u v lv vs st M hp hb
    unfold aX12_pawn_0
    refine S_iload_n (pc := 0) hC dX12_pawn_0 rfl ?_
    refine S_bipush (pc := 1) hC dX12_pawn_1 (by decide) ?_
    refine S_iadd (pc := 3) hC dX12_pawn_3 ?_
    refine S_istore (pc := 4) hC dX12_pawn_4 (by decide) ?_
    refine S_iload (pc := 6) hC dX12_pawn_6 ?_
    refine S_iload_n (pc := 8) hC dX12_pawn_8 rfl ?_
    refine S_icmp_eq (pc := 9) (tgt := 18) hC dX12_pawn_9 (by decide) ?_ ?_
    · exact hJ 18
    · refine S_iload (pc := 12) hC dX12_pawn_12 ?_
      refine S_iload_n (pc := 14) hC dX12_pawn_14 rfl ?_
      refine S_icmp_ne (pc := 15) (tgt := 19) hC dX12_pawn_15 (by decide) ?_ ?_
      · refine S_iload (pc := 19) hC dX12_pawn_19 ?_
        refine S_bipush (pc := 21) hC dX12_pawn_21 (by decide) ?_
        refine S_idiv (pc := 23) hC dX12_pawn_23 ?_
        refine S_bipush (pc := 24) hC dX12_pawn_24 (by decide) ?_
        refine S_icmp_ne (pc := 26) (tgt := 60) hC dX12_pawn_26 (by decide) ?_ ?_
        · refine S_aload_n (pc := 60) hC dX12_pawn_60 rfl ?_
          refine S_iload_n (pc := 61) hC dX12_pawn_61 rfl ?_
          refine S_iload (pc := 62) hC dX12_pawn_62 ?_
          refine S_iconst (pc := 64) hC dX12_pawn_64 (by decide) ?_
          refine S_iconst (pc := 65) hC dX12_pawn_65 (by decide) ?_
          refine S_iload_n (pc := 66) hC dX12_pawn_66 rfl ?_
          refine S_iload (pc := 67) hC dX12_pawn_67 ?_
          refine S_iload_n (pc := 69) hC dX12_pawn_69 rfl ?_
          refine S_callV (pc := 70) hC (sX12_add l G) rfl wd_1743 wd_1745 ws_129 wd_13 wd_1746 (by decide +kernel) ⟨by rw [hRf]; decide, by rw [hRl]; decide⟩ dX12_pawn_70 ?_
          unfold kX12_pawn_73
          refine S_iload_n (pc := 73) hC dX12_pawn_73 rfl ?_
          refine S_bipush (pc := 74) hC dX12_pawn_74 (by decide) ?_
          refine S_idiv (pc := 76) hC dX12_pawn_76 ?_
          refine S_iconst (pc := 77) hC dX12_pawn_77 (by decide) ?_
          refine S_icmp_ne (pc := 78) (tgt := 118) hC dX12_pawn_78 (by decide) ?_ ?_
          · exact hJ 118
          · refine S_iload (pc := 81) hC dX12_pawn_81 ?_
            refine S_bipush (pc := 83) hC dX12_pawn_83 (by decide) ?_
            refine S_iadd (pc := 85) hC dX12_pawn_85 ?_
            refine S_iload_n (pc := 86) hC dX12_pawn_86 rfl ?_
            refine S_icmp_eq (pc := 87) (tgt := 118) hC dX12_pawn_87 (by decide) ?_ ?_
            · exact hJ 118
            · refine S_iload (pc := 90) hC dX12_pawn_90 ?_
              refine S_bipush (pc := 92) hC dX12_pawn_92 (by decide) ?_
              refine S_iadd (pc := 94) hC dX12_pawn_94 ?_
              refine S_iload_n (pc := 95) hC dX12_pawn_95 rfl ?_
              refine S_icmp_eq (pc := 96) (tgt := 118) hC dX12_pawn_96 (by decide) ?_ ?_
              · exact hJ 118
              · refine S_aload_n (pc := 99) hC dX12_pawn_99 rfl ?_
                refine S_iload_n (pc := 100) hC dX12_pawn_100 rfl ?_
                refine S_iload (pc := 101) hC dX12_pawn_101 ?_
                refine S_bipush (pc := 103) hC dX12_pawn_103 (by decide) ?_
                refine S_iadd (pc := 105) hC dX12_pawn_105 ?_
                refine S_iconst (pc := 106) hC dX12_pawn_106 (by decide) ?_
                refine S_iconst (pc := 107) hC dX12_pawn_107 (by decide) ?_
                refine S_iload_n (pc := 108) hC dX12_pawn_108 rfl ?_
                refine S_iload (pc := 109) hC dX12_pawn_109 ?_
                refine S_bipush (pc := 111) hC dX12_pawn_111 (by decide) ?_
                refine S_iadd (pc := 113) hC dX12_pawn_113 ?_
                refine S_iload_n (pc := 114) hC dX12_pawn_114 rfl ?_
                refine S_callV (pc := 115) hC (sX12_add l G) rfl wd_1743 wd_1745 ws_129 wd_13 wd_1746 (by decide +kernel) ⟨by rw [hRf]; decide, by rw [hRl]; decide⟩ dX12_pawn_115 ?_
                unfold kX12_pawn_118
                exact hJ 118
        · refine S_iconst (pc := 29) hC dX12_pawn_29 (by decide) ?_
          refine S_istore (pc := 30) hC dX12_pawn_30 (by decide) ?_
          exact hJ 32
      · exact hJ 18
  have hB18 : zin 6 [] (aX12_pawn_18 mc ms X Q) X 18 := by
    intro u v vs st M hb
    rw [hXe]
    refine fun lv hp => S_block (L := 18) (live := []) ?_ u v lv vs st M hp hb
    unfold aX12_pawn_18
    exact S_vreturn (pc := 18) hC hr dX12_pawn_18
  have hB32 : zin 6 [0, 1, 2, 3, 4, 5] (aX12_pawn_32 mc ms X Q) X 32 := by
    intro u v vs st M hb
    rw [hXe]
    refine fun lv hp => S_block (L := 32) (live := [0, 1, 2, 3, 4, 5]) ?_ u v lv vs st M hp hb
    unfold aX12_pawn_32
    refine S_iload (pc := 32) hC dX12_pawn_32 ?_
    refine S_iconst (pc := 34) hC dX12_pawn_34 (by decide) ?_
    refine S_icmp_gt (pc := 35) (tgt := 59) hC dX12_pawn_35 (by decide) ?_ ?_
    · exact S_vreturn (pc := 59) hC hr dX12_pawn_59
    · refine S_aload_n (pc := 38) hC dX12_pawn_38 rfl ?_
      refine S_iload_n (pc := 39) hC dX12_pawn_39 rfl ?_
      refine S_iload (pc := 40) hC dX12_pawn_40 ?_
      refine S_iload (pc := 42) hC dX12_pawn_42 ?_
      refine S_iload (pc := 44) hC dX12_pawn_44 ?_
      refine S_iload_n (pc := 46) hC dX12_pawn_46 rfl ?_
      refine S_iload (pc := 47) hC dX12_pawn_47 ?_
      refine S_iload_n (pc := 49) hC dX12_pawn_49 rfl ?_
      refine S_callV (pc := 50) hC (sX12_add l G) rfl wd_1743 wd_1745 ws_129 wd_13 wd_1746 (by decide +kernel) ⟨by rw [hRf]; decide, by rw [hRl]; decide⟩ dX12_pawn_50 ?_
      unfold kX12_pawn_53
      refine S_iinc (pc := 53) hC dX12_pawn_53 (by decide) (by decide) ?_
      refine S_goto (pc := 56) (tgt := 32) hC dX12_pawn_56 (by decide) ?_
      exact hJ 32
  have hB118 : zin 6 [] (aX12_pawn_118 mc ms X Q) X 118 := by
    intro u v vs st M hb
    rw [hXe]
    refine fun lv hp => S_block (L := 118) (live := []) ?_ u v lv vs st M hp hb
    unfold aX12_pawn_118
    exact S_vreturn (pc := 118) hC hr dX12_pawn_118
  have := h.2 X hB0 hB18 hB32 hB118
  rw [hXe] at this
  exact this lv hlv
theorem vX12_pawn_0 {mc ms : Nat} {X : Nat → zV} {Q : zQt} {M : zM} {x1 : Int32} {x2 : Int32} {x3 : Int32} (hW : zFix M)  (h : ((x2 + (8 : Int32)) = x1 → X 18 0 0 [] [] M) ∧ (¬ (x2 + (8 : Int32)) = x1 → ((x2 + (8 : Int32)) = x3 → X 18 0 0 [] [] M) ∧ (¬ (x2 + (8 : Int32)) = x3 → (((x2 + (8 : Int32)) / (8 : Int32)) = (7 : Int32) → X 32 0 0 [.ref 71, .int x1, .int x2, .int x3, .int (x2 + (8 : Int32)), .int 2] [] M) ∧ (¬ ((x2 + (8 : Int32)) / (8 : Int32)) = (7 : Int32) → wX12_add 0 0 [.ref 71, .int x2, .int (x2 + (8 : Int32)), .int 0, .int 1, .int x1, .int (x2 + (8 : Int32)), .int x3] M (fun r M1 => kX12_pawn_73 mc ms X Q 0 0 [some (.ref 71), some (.int x1), some (.int x2), some (.int x3), some (.int (x2 + (8 : Int32))), none] (r.toList ++ []) M1))))) : aX12_pawn_0 mc ms X Q 0 0 [some (.ref 71), some (.int x1), some (.int x2), some (.int x3), none, none] [] M := ⟨fun c9 => (h.1 c9), fun c9 => ⟨fun c15 => ((h.2 c9).1 c15), fun c15 => ⟨by decide, ⟨fun c26 => (((h.2 c9).2 c15).1 c26), fun c26 => ⟨Nat.le_of_ble_eq_true rfl, rfl, (fxs_71 hW), 0, 0, Nat.zero_le _, Nat.zero_le _, (((h.2 c9).2 c15).2 c26)⟩⟩⟩⟩⟩
theorem vX12_pawn_18 {mc ms : Nat} {X : Nat → zV} {Q : zQt} {M : zM}  (hW : zFix M)  (h : Q none M) : aX12_pawn_18 mc ms X Q 0 0 [none, none, none, none, none, none] [] M := h
theorem vX12_pawn_32 {mc ms : Nat} {X : Nat → zV} {Q : zQt} {M : zM} {x1 : Int32} {x2 : Int32} {x3 : Int32} {x4 : Int32} {x5 : Int32} (hW : zFix M)  (h : ((5 : Int32) < x5 → Q none M) ∧ (¬ (5 : Int32) < x5 → wX12_add 0 0 [.ref 71, .int x2, .int x4, .int x5, .int x5, .int x1, .int x4, .int x3] M (fun r M1 => kX12_pawn_53 mc ms X Q 0 0 [some (.ref 71), some (.int x1), some (.int x2), some (.int x3), some (.int x4), some (.int x5)] (r.toList ++ []) M1))) : aX12_pawn_32 mc ms X Q 0 0 [some (.ref 71), some (.int x1), some (.int x2), some (.int x3), some (.int x4), some (.int x5)] [] M := ⟨fun c35 => (h.1 c35), fun c35 => ⟨Nat.le_of_ble_eq_true rfl, rfl, (fxs_71 hW), 0, 0, Nat.zero_le _, Nat.zero_le _, (h.2 c35)⟩⟩
theorem vX12_pawn_118 {mc ms : Nat} {X : Nat → zV} {Q : zQt} {M : zM}  (hW : zFix M)  (h : Q none M) : aX12_pawn_118 mc ms X Q 0 0 [none, none, none, none, none, none] [] M := h
theorem vkX12_pawn_53 {mc ms : Nat} {X : Nat → zV} {Q : zQt} {M : zM} {x1 : Int32} {x2 : Int32} {x3 : Int32} {x4 : Int32} {x5 : Int32} (hW : zFix M)  (h : X 32 0 0 [.ref 71, .int x1, .int x2, .int x3, .int x4, .int (x5 + 1)] [] M) : kX12_pawn_53 mc ms X Q 0 0 [some (.ref 71), some (.int x1), some (.int x2), some (.int x3), some (.int x4), some (.int x5)] [] M := h
theorem vkX12_pawn_73 {mc ms : Nat} {X : Nat → zV} {Q : zQt} {M : zM} {x1 : Int32} {x2 : Int32} {x3 : Int32} {x4 : Int32} (hW : zFix M)  (h : ((x2 / (8 : Int32)) = (1 : Int32) → ((x4 + (8 : Int32)) = x1 → X 118 0 0 [] [] M) ∧ (¬ (x4 + (8 : Int32)) = x1 → ((x4 + (8 : Int32)) = x3 → X 118 0 0 [] [] M) ∧ (¬ (x4 + (8 : Int32)) = x3 → wX12_add 0 0 [.ref 71, .int x2, .int (x4 + (8 : Int32)), .int 0, .int 1, .int x1, .int (x4 + (8 : Int32)), .int x3] M (fun r M1 => kX12_pawn_118 mc ms X Q 0 0 [some (.ref 71), some (.int x1), some (.int x2), some (.int x3), some (.int x4), none] (r.toList ++ []) M1)))) ∧ (¬ (x2 / (8 : Int32)) = (1 : Int32) → X 118 0 0 [] [] M)) : kX12_pawn_73 mc ms X Q 0 0 [some (.ref 71), some (.int x1), some (.int x2), some (.int x3), some (.int x4), none] [] M := ⟨by decide, ⟨fun c78 => ⟨fun c87 => ((h.1 c78).1 c87), fun c87 => ⟨fun c96 => (((h.1 c78).2 c87).1 c96), fun c96 => ⟨Nat.le_of_ble_eq_true rfl, rfl, (fxs_71 hW), 0, 0, Nat.zero_le _, Nat.zero_le _, (((h.1 c78).2 c87).2 c96)⟩⟩⟩, fun c78 => (h.2 c78)⟩⟩
theorem vkX12_pawn_118 {mc ms : Nat} {X : Nat → zV} {Q : zQt} {M : zM} {x1 : Int32} {x2 : Int32} {x3 : Int32} {x4 : Int32} (hW : zFix M)  (h : X 118 0 0 [] [] M) : kX12_pawn_118 mc ms X Q 0 0 [some (.ref 71), some (.int x1), some (.int x2), some (.int x3), some (.int x4), none] [] M := h
theorem dX12_weakKing_0 : decode cX12_weakKing 0 = .ok (.iconst 0, 1) := by decide +kernel
theorem dX12_weakKing_1 : decode cX12_weakKing 1 = .ok (.istore 5, 2) := by decide +kernel
theorem dX12_weakKing_3 : decode cX12_weakKing 3 = .ok (.iload 5, 2) := by decide +kernel
theorem dX12_weakKing_5 : decode cX12_weakKing 5 = .ok (.bipush 9, 2) := by decide +kernel
theorem dX12_weakKing_7 : decode cX12_weakKing 7 = .ok (.if_icmp .ge 84, 3) := by decide +kernel
theorem dX12_weakKing_10 : decode cX12_weakKing 10 = .ok (.aload_n 0, 1) := by decide +kernel
theorem dX12_weakKing_11 : decode cX12_weakKing 11 = .ok (.iload 4, 2) := by decide +kernel
theorem dX12_weakKing_13 : decode cX12_weakKing 13 = .ok (.iload 5, 2) := by decide +kernel
theorem dX12_weakKing_15 : decode cX12_weakKing 15 = .ok (.invokevirtual 69, 3) := by decide +kernel
theorem dX12_weakKing_18 : decode cX12_weakKing 18 = .ok (.istore 6, 2) := by decide +kernel
theorem dX12_weakKing_20 : decode cX12_weakKing 20 = .ok (.iload 6, 2) := by decide +kernel
theorem dX12_weakKing_22 : decode cX12_weakKing 22 = .ok (.ifCond .lt 63, 3) := by decide +kernel
theorem dX12_weakKing_25 : decode cX12_weakKing 25 = .ok (.iload 6, 2) := by decide +kernel
theorem dX12_weakKing_27 : decode cX12_weakKing 27 = .ok (.iload_n 3, 1) := by decide +kernel
theorem dX12_weakKing_28 : decode cX12_weakKing 28 = .ok (.if_icmp .ne 30, 3) := by decide +kernel
theorem dX12_weakKing_31 : decode cX12_weakKing 31 = .ok (.aload_n 0, 1) := by decide +kernel
theorem dX12_weakKing_32 : decode cX12_weakKing 32 = .ok (.iload_n 2, 1) := by decide +kernel
theorem dX12_weakKing_33 : decode cX12_weakKing 33 = .ok (.iload 6, 2) := by decide +kernel
theorem dX12_weakKing_35 : decode cX12_weakKing 35 = .ok (.invokevirtual 58, 3) := by decide +kernel
theorem dX12_weakKing_38 : decode cX12_weakKing 38 = .ok (.ifCond .ne 20, 3) := by decide +kernel
theorem dX12_weakKing_41 : decode cX12_weakKing 41 = .ok (.aload_n 0, 1) := by decide +kernel
theorem dX12_weakKing_42 : decode cX12_weakKing 42 = .ok (.iload 4, 2) := by decide +kernel
theorem dX12_weakKing_44 : decode cX12_weakKing 44 = .ok (.iload 6, 2) := by decide +kernel
theorem dX12_weakKing_46 : decode cX12_weakKing 46 = .ok (.iconst 0, 1) := by decide +kernel
theorem dX12_weakKing_47 : decode cX12_weakKing 47 = .ok (.iconst 0, 1) := by decide +kernel
theorem dX12_weakKing_48 : decode cX12_weakKing 48 = .ok (.iload_n 2, 1) := by decide +kernel
theorem dX12_weakKing_49 : decode cX12_weakKing 49 = .ok (.iload_n 3, 1) := by decide +kernel
theorem dX12_weakKing_50 : decode cX12_weakKing 50 = .ok (.iload 6, 2) := by decide +kernel
theorem dX12_weakKing_52 : decode cX12_weakKing 52 = .ok (.invokevirtual 77, 3) := by decide +kernel
theorem dX12_weakKing_55 : decode cX12_weakKing 55 = .ok (.goto 30, 3) := by decide +kernel
theorem dX12_weakKing_58 : decode cX12_weakKing 58 = .ok (.aload_n 0, 1) := by decide +kernel
theorem dX12_weakKing_59 : decode cX12_weakKing 59 = .ok (.iload_n 1, 1) := by decide +kernel
theorem dX12_weakKing_60 : decode cX12_weakKing 60 = .ok (.iload_n 2, 1) := by decide +kernel
theorem dX12_weakKing_61 : decode cX12_weakKing 61 = .ok (.iload_n 3, 1) := by decide +kernel
theorem dX12_weakKing_62 : decode cX12_weakKing 62 = .ok (.iload 6, 2) := by decide +kernel
theorem dX12_weakKing_64 : decode cX12_weakKing 64 = .ok (.iconst 1, 1) := by decide +kernel
theorem dX12_weakKing_65 : decode cX12_weakKing 65 = .ok (.invokevirtual 73, 3) := by decide +kernel
theorem dX12_weakKing_68 : decode cX12_weakKing 68 = .ok (.ifCond .eq 17, 3) := by decide +kernel
theorem dX12_weakKing_71 : decode cX12_weakKing 71 = .ok (.aload_n 0, 1) := by decide +kernel
theorem dX12_weakKing_72 : decode cX12_weakKing 72 = .ok (.iload 4, 2) := by decide +kernel
theorem dX12_weakKing_74 : decode cX12_weakKing 74 = .ok (.iload 6, 2) := by decide +kernel
theorem dX12_weakKing_76 : decode cX12_weakKing 76 = .ok (.iconst 0, 1) := by decide +kernel
theorem dX12_weakKing_77 : decode cX12_weakKing 77 = .ok (.iload_n 1, 1) := by decide +kernel
theorem dX12_weakKing_78 : decode cX12_weakKing 78 = .ok (.iload_n 2, 1) := by decide +kernel
theorem dX12_weakKing_79 : decode cX12_weakKing 79 = .ok (.iload_n 3, 1) := by decide +kernel
theorem dX12_weakKing_80 : decode cX12_weakKing 80 = .ok (.iload 6, 2) := by decide +kernel
theorem dX12_weakKing_82 : decode cX12_weakKing 82 = .ok (.invokevirtual 77, 3) := by decide +kernel
theorem dX12_weakKing_85 : decode cX12_weakKing 85 = .ok (.iinc 5 1, 3) := by decide +kernel
theorem dX12_weakKing_88 : decode cX12_weakKing 88 = .ok (.goto (-85), 3) := by decide +kernel
theorem dX12_weakKing_91 : decode cX12_weakKing 91 = .ok (.return_, 1) := by decide +kernel
def kX12_weakKing_55 (mc ms : Nat) (X : Nat → zV) (Q : zQt) : zT :=
  zj X 85 [0, 1, 2, 3, 4, 5]
def kX12_weakKing_38 (mc ms : Nat) (X : Nat → zV) (Q : zQt) : zT :=
  zif (fun x => x = 0) (zla 0 <| zli 4 <| zli 6 <| zc (.int 0) <| zc (.int 0) <| zli 2 <| zli 3 <| zli 6 <| zcv mc ms 12 7 wX12_add <| kX12_weakKing_55 mc ms X Q) <| zj X 58 [0, 1, 2, 3, 4, 5, 6]
def kX12_weakKing_18 (mc ms : Nat) (X : Nat → zV) (Q : zQt) : zT :=
  zsi 6 <| zli 6 <| zif (fun x => x < 0) (zj X 85 [0, 1, 2, 3, 4, 5]) <| zli 6 <| zli 3 <| zic (fun x y => x = y) (zla 0 <| zli 2 <| zli 6 <| zcv mc ms 12 2 wX12_beside <| kX12_weakKing_38 mc ms X Q) <| zj X 58 [0, 1, 2, 3, 4, 5, 6]
def kX12_weakKing_85 (mc ms : Nat) (X : Nat → zV) (Q : zQt) : zT :=
  zj X 85 [0, 1, 2, 3, 4, 5]
def kX12_weakKing_68 (mc ms : Nat) (X : Nat → zV) (Q : zQt) : zT :=
  zif (fun x => x = 0) (zj X 85 [0, 1, 2, 3, 4, 5]) <| zla 0 <| zli 4 <| zli 6 <| zc (.int 0) <| zli 1 <| zli 2 <| zli 3 <| zli 6 <| zcv mc ms 12 7 wX12_add <| kX12_weakKing_85 mc ms X Q
def aX12_weakKing_0 (mc ms : Nat) (X : Nat → zV) (Q : zQt) : zT :=
  zc (.int 0) <| zsi 5 <| zj X 3 [0, 1, 2, 3, 4, 5]
def aX12_weakKing_3 (mc ms : Nat) (X : Nat → zV) (Q : zQt) : zT :=
  zli 5 <| zc (.int 9) <| zic (fun x y => y ≤ x) (zrv Q) <| zla 0 <| zli 4 <| zli 5 <| zcv mc ms 12 2 wX12_stepped <| kX12_weakKing_18 mc ms X Q
def aX12_weakKing_58 (mc ms : Nat) (X : Nat → zV) (Q : zQt) : zT :=
  zla 0 <| zli 1 <| zli 2 <| zli 3 <| zli 6 <| zc (.int 1) <| zcv mc ms 12 5 wX12_isPosition <| kX12_weakKing_68 mc ms X Q
def aX12_weakKing_85 (mc ms : Nat) (X : Nat → zV) (Q : zQt) : zT :=
  zinc 5 1 <| zj X 3 [0, 1, 2, 3, 4, 5]
def lvX12_weakKing : Nat → List Nat := fun L => match L with
  | 0 => [0, 1, 2, 3, 4]
  | 3 => [0, 1, 2, 3, 4, 5]
  | 58 => [0, 1, 2, 3, 4, 5, 6]
  | 85 => [0, 1, 2, 3, 4, 5]
  | _ => []
def wX12_weakKing : zSp := fun mc ms av M Q => ((zlay av).length ≤ 7 ∧ zpick (zlay av) [0, 1, 2, 3, 4] = some av) ∧ ∀ X : Nat → zV, zin 7 [0, 1, 2, 3, 4] (aX12_weakKing_0 mc ms X Q) X 0 → zin 7 [0, 1, 2, 3, 4, 5] (aX12_weakKing_3 mc ms X Q) X 3 → zin 7 [0, 1, 2, 3, 4, 5, 6] (aX12_weakKing_58 mc ms X Q) X 58 → zin 7 [0, 1, 2, 3, 4, 5] (aX12_weakKing_85 mc ms X Q) X 85 → X 0 0 0 av [] M
set_option maxRecDepth 100000 in
set_option maxHeartbeats 4000000 in
theorem sX12_weakKing (l : Launch) (G : zG) : zSnd l G yX12_weakKing cX12_weakKing 7 none 3 84 wX12_weakKing := by
  refine zmk [0, 1, 2, 3, 4] (by decide) (fun mc ms av M Q h => h.1) ?_
  intro p e R s m args below meth c mc ms av M Q hC hRf hRl hr hnm h lv hlv
  obtain ⟨X, hXe⟩ : ∃ X : Nat → zV, X = fun L u v vs st M => ∀ lv, zpick lv (lvX12_weakKing L) = some vs → zAt p l e R s m args below meth c (MQ below (zQ G Q) args s mc ms (zA G)) G 7 L u v lv st M := ⟨_, rfl⟩
  have hJ : ∀ L, zOk p l e R s m args below meth c (MQ below (zQ G Q) args s mc ms (zA G)) G 7 L (zj X L (lvX12_weakKing L)) := fun L => S_jump (fun u v lv vs st M hp hx => by rw [hXe] at hx; exact hx lv hp)
  have hB0 : zin 7 [0, 1, 2, 3, 4] (aX12_weakKing_0 mc ms X Q) X 0 := by
    intro u v vs st M hb
    rw [hXe]
    refine fun lv hp => S_block (L := 0) (live := [0, 1, 2, 3, 4]) ?_ u v lv vs st M hp hb
    unfold aX12_weakKing_0
    refine S_iconst (pc := 0) hC dX12_weakKing_0 (by decide) ?_
    refine S_istore (pc := 1) hC dX12_weakKing_1 (by decide) ?_
    exact hJ 3
  have hB3 : zin 7 [0, 1, 2, 3, 4, 5] (aX12_weakKing_3 mc ms X Q) X 3 := by
    intro u v vs st M hb
    rw [hXe]
    refine fun lv hp => S_block (L := 3) (live := [0, 1, 2, 3, 4, 5]) ?_ u v lv vs st M hp hb
    unfold aX12_weakKing_3
    refine S_iload (pc := 3) hC dX12_weakKing_3 ?_
    refine S_bipush (pc := 5) hC dX12_weakKing_5 (by decide) ?_
    refine S_icmp_ge (pc := 7) (tgt := 91) hC dX12_weakKing_7 (by decide) ?_ ?_
    · exact S_vreturn (pc := 91) hC hr dX12_weakKing_91
    · refine S_aload_n (pc := 10) hC dX12_weakKing_10 rfl ?_
      refine S_iload (pc := 11) hC dX12_weakKing_11 ?_
      refine S_iload (pc := 13) hC dX12_weakKing_13 ?_
      refine S_callV (pc := 15) hC (sX12_stepped l G) rfl wd_1739 wd_1741 ws_128 wd_13 wd_1742 (by decide +kernel) ⟨by rw [hRf]; decide, by rw [hRl]; decide⟩ dX12_weakKing_15 ?_
      unfold kX12_weakKing_18
      refine S_istore (pc := 18) hC dX12_weakKing_18 (by decide) ?_
      refine S_iload (pc := 20) hC dX12_weakKing_20 ?_
      refine S_if_lt (pc := 22) (tgt := 85) hC dX12_weakKing_22 (by decide) ?_ ?_
      · exact hJ 85
      · refine S_iload (pc := 25) hC dX12_weakKing_25 ?_
        refine S_iload_n (pc := 27) hC dX12_weakKing_27 rfl ?_
        refine S_icmp_ne (pc := 28) (tgt := 58) hC dX12_weakKing_28 (by decide) ?_ ?_
        · exact hJ 58
        · refine S_aload_n (pc := 31) hC dX12_weakKing_31 rfl ?_
          refine S_iload_n (pc := 32) hC dX12_weakKing_32 rfl ?_
          refine S_iload (pc := 33) hC dX12_weakKing_33 ?_
          refine S_callV (pc := 35) hC (sX12_beside l G) rfl wd_1712 wd_1714 ws_122 wd_13 wd_1715 (by decide +kernel) ⟨by rw [hRf]; decide, by rw [hRl]; decide⟩ dX12_weakKing_35 ?_
          unfold kX12_weakKing_38
          refine S_if_ne (pc := 38) (tgt := 58) hC dX12_weakKing_38 (by decide) ?_ ?_
          · exact hJ 58
          · refine S_aload_n (pc := 41) hC dX12_weakKing_41 rfl ?_
            refine S_iload (pc := 42) hC dX12_weakKing_42 ?_
            refine S_iload (pc := 44) hC dX12_weakKing_44 ?_
            refine S_iconst (pc := 46) hC dX12_weakKing_46 (by decide) ?_
            refine S_iconst (pc := 47) hC dX12_weakKing_47 (by decide) ?_
            refine S_iload_n (pc := 48) hC dX12_weakKing_48 rfl ?_
            refine S_iload_n (pc := 49) hC dX12_weakKing_49 rfl ?_
            refine S_iload (pc := 50) hC dX12_weakKing_50 ?_
            refine S_callV (pc := 52) hC (sX12_add l G) rfl wd_1743 wd_1745 ws_129 wd_13 wd_1746 (by decide +kernel) ⟨by rw [hRf]; decide, by rw [hRl]; decide⟩ dX12_weakKing_52 ?_
            unfold kX12_weakKing_55
            refine S_goto (pc := 55) (tgt := 85) hC dX12_weakKing_55 (by decide) ?_
            exact hJ 85
  have hB58 : zin 7 [0, 1, 2, 3, 4, 5, 6] (aX12_weakKing_58 mc ms X Q) X 58 := by
    intro u v vs st M hb
    rw [hXe]
    refine fun lv hp => S_block (L := 58) (live := [0, 1, 2, 3, 4, 5, 6]) ?_ u v lv vs st M hp hb
    unfold aX12_weakKing_58
    refine S_aload_n (pc := 58) hC dX12_weakKing_58 rfl ?_
    refine S_iload_n (pc := 59) hC dX12_weakKing_59 rfl ?_
    refine S_iload_n (pc := 60) hC dX12_weakKing_60 rfl ?_
    refine S_iload_n (pc := 61) hC dX12_weakKing_61 rfl ?_
    refine S_iload (pc := 62) hC dX12_weakKing_62 ?_
    refine S_iconst (pc := 64) hC dX12_weakKing_64 (by decide) ?_
    refine S_callV (pc := 65) hC (sX12_isPosition l G) rfl wd_1708 wd_1710 ws_121 wd_13 wd_1711 (by decide +kernel) ⟨by rw [hRf]; decide, by rw [hRl]; decide⟩ dX12_weakKing_65 ?_
    unfold kX12_weakKing_68
    refine S_if_eq (pc := 68) (tgt := 85) hC dX12_weakKing_68 (by decide) ?_ ?_
    · exact hJ 85
    · refine S_aload_n (pc := 71) hC dX12_weakKing_71 rfl ?_
      refine S_iload (pc := 72) hC dX12_weakKing_72 ?_
      refine S_iload (pc := 74) hC dX12_weakKing_74 ?_
      refine S_iconst (pc := 76) hC dX12_weakKing_76 (by decide) ?_
      refine S_iload_n (pc := 77) hC dX12_weakKing_77 rfl ?_
      refine S_iload_n (pc := 78) hC dX12_weakKing_78 rfl ?_
      refine S_iload_n (pc := 79) hC dX12_weakKing_79 rfl ?_
      refine S_iload (pc := 80) hC dX12_weakKing_80 ?_
      refine S_callV (pc := 82) hC (sX12_add l G) rfl wd_1743 wd_1745 ws_129 wd_13 wd_1746 (by decide +kernel) ⟨by rw [hRf]; decide, by rw [hRl]; decide⟩ dX12_weakKing_82 ?_
      unfold kX12_weakKing_85
      exact hJ 85
  have hB85 : zin 7 [0, 1, 2, 3, 4, 5] (aX12_weakKing_85 mc ms X Q) X 85 := by
    intro u v vs st M hb
    rw [hXe]
    refine fun lv hp => S_block (L := 85) (live := [0, 1, 2, 3, 4, 5]) ?_ u v lv vs st M hp hb
    unfold aX12_weakKing_85
    refine S_iinc (pc := 85) hC dX12_weakKing_85 (by decide) (by decide) ?_
    refine S_goto (pc := 88) (tgt := 3) hC dX12_weakKing_88 (by decide) ?_
    exact hJ 3
  have := h.2 X hB0 hB3 hB58 hB85
  rw [hXe] at this
  exact this lv hlv
theorem vX12_weakKing_0 {mc ms : Nat} {X : Nat → zV} {Q : zQt} {M : zM} {x1 : Int32} {x2 : Int32} {x3 : Int32} {x4 : Int32} (hW : zFix M)  (h : X 3 0 0 [.ref 71, .int x1, .int x2, .int x3, .int x4, .int 0] [] M) : aX12_weakKing_0 mc ms X Q 0 0 [some (.ref 71), some (.int x1), some (.int x2), some (.int x3), some (.int x4), none, none] [] M := h
theorem vX12_weakKing_3 {mc ms : Nat} {X : Nat → zV} {Q : zQt} {M : zM} {x1 : Int32} {x2 : Int32} {x3 : Int32} {x4 : Int32} {x5 : Int32} (hW : zFix M)  (h : ((9 : Int32) ≤ x5 → Q none M) ∧ (¬ (9 : Int32) ≤ x5 → wX12_stepped 0 0 [.ref 71, .int x4, .int x5] M (fun r M1 => kX12_weakKing_18 mc ms X Q 0 0 [some (.ref 71), some (.int x1), some (.int x2), some (.int x3), some (.int x4), some (.int x5), none] (r.toList ++ []) M1))) : aX12_weakKing_3 mc ms X Q 0 0 [some (.ref 71), some (.int x1), some (.int x2), some (.int x3), some (.int x4), some (.int x5), none] [] M := ⟨fun c7 => (h.1 c7), fun c7 => ⟨Nat.le_of_ble_eq_true rfl, rfl, (fxs_71 hW), 0, 0, Nat.zero_le _, Nat.zero_le _, (h.2 c7)⟩⟩
theorem vX12_weakKing_58 {mc ms : Nat} {X : Nat → zV} {Q : zQt} {M : zM} {x1 : Int32} {x2 : Int32} {x3 : Int32} {x4 : Int32} {x5 : Int32} {x6 : Int32} (hW : zFix M)  (h : wX12_isPosition 0 0 [.ref 71, .int x1, .int x2, .int x3, .int x6, .int 1] M (fun r M1 => kX12_weakKing_68 mc ms X Q 0 0 [some (.ref 71), some (.int x1), some (.int x2), some (.int x3), some (.int x4), some (.int x5), some (.int x6)] (r.toList ++ []) M1)) : aX12_weakKing_58 mc ms X Q 0 0 [some (.ref 71), some (.int x1), some (.int x2), some (.int x3), some (.int x4), some (.int x5), some (.int x6)] [] M := ⟨Nat.le_of_ble_eq_true rfl, rfl, (fxs_71 hW), 0, 0, Nat.zero_le _, Nat.zero_le _, h⟩
theorem vX12_weakKing_85 {mc ms : Nat} {X : Nat → zV} {Q : zQt} {M : zM} {x1 : Int32} {x2 : Int32} {x3 : Int32} {x4 : Int32} {x5 : Int32} (hW : zFix M)  (h : X 3 0 0 [.ref 71, .int x1, .int x2, .int x3, .int x4, .int (x5 + 1)] [] M) : aX12_weakKing_85 mc ms X Q 0 0 [some (.ref 71), some (.int x1), some (.int x2), some (.int x3), some (.int x4), some (.int x5), none] [] M := h
theorem vkX12_weakKing_18 {mc ms : Nat} {X : Nat → zV} {Q : zQt} {M : zM} {x1 : Int32} {x2 : Int32} {x3 : Int32} {x4 : Int32} {x5 : Int32} {s0 : Int32} (hW : zFix M)  (h : (s0 < 0 → X 85 0 0 [.ref 71, .int x1, .int x2, .int x3, .int x4, .int x5] [] M) ∧ (¬ s0 < 0 → (s0 = x3 → wX12_beside 0 0 [.ref 71, .int x2, .int s0] M (fun r M1 => kX12_weakKing_38 mc ms X Q 0 0 [some (.ref 71), some (.int x1), some (.int x2), some (.int x3), some (.int x4), some (.int x5), some (.int s0)] (r.toList ++ []) M1)) ∧ (¬ s0 = x3 → X 58 0 0 [.ref 71, .int x1, .int x2, .int x3, .int x4, .int x5, .int s0] [] M))) : kX12_weakKing_18 mc ms X Q 0 0 [some (.ref 71), some (.int x1), some (.int x2), some (.int x3), some (.int x4), some (.int x5), none] [.int s0] M := ⟨fun c22 => (h.1 c22), fun c22 => ⟨fun c28 => ⟨Nat.le_of_ble_eq_true rfl, rfl, (fxs_71 hW), 0, 0, Nat.zero_le _, Nat.zero_le _, ((h.2 c22).1 c28)⟩, fun c28 => ((h.2 c22).2 c28)⟩⟩
theorem vkX12_weakKing_38 {mc ms : Nat} {X : Nat → zV} {Q : zQt} {M : zM} {x1 : Int32} {x2 : Int32} {x3 : Int32} {x4 : Int32} {x5 : Int32} {x6 : Int32} {s0 : Int32} (hW : zFix M)  (h : (s0 = 0 → wX12_add 0 0 [.ref 71, .int x4, .int x6, .int 0, .int 0, .int x2, .int x3, .int x6] M (fun r M1 => kX12_weakKing_55 mc ms X Q 0 0 [some (.ref 71), some (.int x1), some (.int x2), some (.int x3), some (.int x4), some (.int x5), some (.int x6)] (r.toList ++ []) M1)) ∧ (¬ s0 = 0 → X 58 0 0 [.ref 71, .int x1, .int x2, .int x3, .int x4, .int x5, .int x6] [] M)) : kX12_weakKing_38 mc ms X Q 0 0 [some (.ref 71), some (.int x1), some (.int x2), some (.int x3), some (.int x4), some (.int x5), some (.int x6)] [.int s0] M := ⟨fun c38 => ⟨Nat.le_of_ble_eq_true rfl, rfl, (fxs_71 hW), 0, 0, Nat.zero_le _, Nat.zero_le _, (h.1 c38)⟩, fun c38 => (h.2 c38)⟩
theorem vkX12_weakKing_55 {mc ms : Nat} {X : Nat → zV} {Q : zQt} {M : zM} {x1 : Int32} {x2 : Int32} {x3 : Int32} {x4 : Int32} {x5 : Int32} {x6 : Int32} (hW : zFix M)  (h : X 85 0 0 [.ref 71, .int x1, .int x2, .int x3, .int x4, .int x5] [] M) : kX12_weakKing_55 mc ms X Q 0 0 [some (.ref 71), some (.int x1), some (.int x2), some (.int x3), some (.int x4), some (.int x5), some (.int x6)] [] M := h
theorem vkX12_weakKing_68 {mc ms : Nat} {X : Nat → zV} {Q : zQt} {M : zM} {x1 : Int32} {x2 : Int32} {x3 : Int32} {x4 : Int32} {x5 : Int32} {x6 : Int32} {s0 : Int32} (hW : zFix M)  (h : (s0 = 0 → X 85 0 0 [.ref 71, .int x1, .int x2, .int x3, .int x4, .int x5] [] M) ∧ (¬ s0 = 0 → wX12_add 0 0 [.ref 71, .int x4, .int x6, .int 0, .int x1, .int x2, .int x3, .int x6] M (fun r M1 => kX12_weakKing_85 mc ms X Q 0 0 [some (.ref 71), some (.int x1), some (.int x2), some (.int x3), some (.int x4), some (.int x5), some (.int x6)] (r.toList ++ []) M1))) : kX12_weakKing_68 mc ms X Q 0 0 [some (.ref 71), some (.int x1), some (.int x2), some (.int x3), some (.int x4), some (.int x5), some (.int x6)] [.int s0] M := ⟨fun c68 => (h.1 c68), fun c68 => ⟨Nat.le_of_ble_eq_true rfl, rfl, (fxs_71 hW), 0, 0, Nat.zero_le _, Nat.zero_le _, (h.2 c68)⟩⟩
theorem vkX12_weakKing_85 {mc ms : Nat} {X : Nat → zV} {Q : zQt} {M : zM} {x1 : Int32} {x2 : Int32} {x3 : Int32} {x4 : Int32} {x5 : Int32} {x6 : Int32} (hW : zFix M)  (h : X 85 0 0 [.ref 71, .int x1, .int x2, .int x3, .int x4, .int x5] [] M) : kX12_weakKing_85 mc ms X Q 0 0 [some (.ref 71), some (.int x1), some (.int x2), some (.int x3), some (.int x4), some (.int x5), some (.int x6)] [] M := h
theorem dX12_manMoves_0 : decode cX12_manMoves 0 = .ok (.bipush (-2), 2) := by decide +kernel
theorem dX12_manMoves_2 : decode cX12_manMoves 2 = .ok (.istore 5, 2) := by decide +kernel
theorem dX12_manMoves_4 : decode cX12_manMoves 4 = .ok (.iload 5, 2) := by decide +kernel
theorem dX12_manMoves_6 : decode cX12_manMoves 6 = .ok (.iconst 2, 1) := by decide +kernel
theorem dX12_manMoves_7 : decode cX12_manMoves 7 = .ok (.if_icmp .gt 263, 3) := by decide +kernel
theorem dX12_manMoves_10 : decode cX12_manMoves 10 = .ok (.bipush (-2), 2) := by decide +kernel
theorem dX12_manMoves_12 : decode cX12_manMoves 12 = .ok (.istore 6, 2) := by decide +kernel
theorem dX12_manMoves_14 : decode cX12_manMoves 14 = .ok (.iload 6, 2) := by decide +kernel
theorem dX12_manMoves_16 : decode cX12_manMoves 16 = .ok (.iconst 2, 1) := by decide +kernel
theorem dX12_manMoves_17 : decode cX12_manMoves 17 = .ok (.if_icmp .gt 247, 3) := by decide +kernel
theorem dX12_manMoves_20 : decode cX12_manMoves 20 = .ok (.iload 5, 2) := by decide +kernel
theorem dX12_manMoves_22 : decode cX12_manMoves 22 = .ok (.invokestatic 50, 3) := by decide +kernel
theorem dX12_manMoves_25 : decode cX12_manMoves 25 = .ok (.iload 6, 2) := by decide +kernel
theorem dX12_manMoves_27 : decode cX12_manMoves 27 = .ok (.invokestatic 50, 3) := by decide +kernel
theorem dX12_manMoves_30 : decode cX12_manMoves 30 = .ok (.iadd, 1) := by decide +kernel
theorem dX12_manMoves_31 : decode cX12_manMoves 31 = .ok (.istore 7, 2) := by decide +kernel
theorem dX12_manMoves_33 : decode cX12_manMoves 33 = .ok (.iload_n 1, 1) := by decide +kernel
theorem dX12_manMoves_34 : decode cX12_manMoves 34 = .ok (.iconst 2, 1) := by decide +kernel
theorem dX12_manMoves_35 : decode cX12_manMoves 35 = .ok (.if_icmp .ne 13, 3) := by decide +kernel
theorem dX12_manMoves_38 : decode cX12_manMoves 38 = .ok (.iload 7, 2) := by decide +kernel
theorem dX12_manMoves_40 : decode cX12_manMoves 40 = .ok (.iconst 3, 1) := by decide +kernel
theorem dX12_manMoves_41 : decode cX12_manMoves 41 = .ok (.if_icmp .ne 7, 3) := by decide +kernel
theorem dX12_manMoves_44 : decode cX12_manMoves 44 = .ok (.iconst 1, 1) := by decide +kernel
theorem dX12_manMoves_45 : decode cX12_manMoves 45 = .ok (.goto 4, 3) := by decide +kernel
theorem dX12_manMoves_48 : decode cX12_manMoves 48 = .ok (.iconst 0, 1) := by decide +kernel
theorem dX12_manMoves_49 : decode cX12_manMoves 49 = .ok (.istore 8, 2) := by decide +kernel
theorem dX12_manMoves_51 : decode cX12_manMoves 51 = .ok (.iload_n 1, 1) := by decide +kernel
theorem dX12_manMoves_52 : decode cX12_manMoves 52 = .ok (.iconst 2, 1) := by decide +kernel
theorem dX12_manMoves_53 : decode cX12_manMoves 53 = .ok (.if_icmp .le 59, 3) := by decide +kernel
theorem dX12_manMoves_56 : decode cX12_manMoves 56 = .ok (.iload 5, 2) := by decide +kernel
theorem dX12_manMoves_58 : decode cX12_manMoves 58 = .ok (.invokestatic 50, 3) := by decide +kernel
theorem dX12_manMoves_61 : decode cX12_manMoves 61 = .ok (.iconst 2, 1) := by decide +kernel
theorem dX12_manMoves_62 : decode cX12_manMoves 62 = .ok (.if_icmp .ge 50, 3) := by decide +kernel
theorem dX12_manMoves_65 : decode cX12_manMoves 65 = .ok (.iload 6, 2) := by decide +kernel
theorem dX12_manMoves_67 : decode cX12_manMoves 67 = .ok (.invokestatic 50, 3) := by decide +kernel
theorem dX12_manMoves_70 : decode cX12_manMoves 70 = .ok (.iconst 2, 1) := by decide +kernel
theorem dX12_manMoves_71 : decode cX12_manMoves 71 = .ok (.if_icmp .ge 41, 3) := by decide +kernel
theorem dX12_manMoves_74 : decode cX12_manMoves 74 = .ok (.iload 7, 2) := by decide +kernel
theorem dX12_manMoves_76 : decode cX12_manMoves 76 = .ok (.ifCond .le 36, 3) := by decide +kernel
theorem dX12_manMoves_79 : decode cX12_manMoves 79 = .ok (.iload_n 1, 1) := by decide +kernel
theorem dX12_manMoves_80 : decode cX12_manMoves 80 = .ok (.iconst 5, 1) := by decide +kernel
theorem dX12_manMoves_81 : decode cX12_manMoves 81 = .ok (.if_icmp .eq 27, 3) := by decide +kernel
theorem dX12_manMoves_84 : decode cX12_manMoves 84 = .ok (.iload_n 1, 1) := by decide +kernel
theorem dX12_manMoves_85 : decode cX12_manMoves 85 = .ok (.iconst 3, 1) := by decide +kernel
theorem dX12_manMoves_86 : decode cX12_manMoves 86 = .ok (.if_icmp .ne 7, 3) := by decide +kernel
theorem dX12_manMoves_89 : decode cX12_manMoves 89 = .ok (.iconst 1, 1) := by decide +kernel
theorem dX12_manMoves_90 : decode cX12_manMoves 90 = .ok (.goto 4, 3) := by decide +kernel
theorem dX12_manMoves_93 : decode cX12_manMoves 93 = .ok (.iconst 0, 1) := by decide +kernel
theorem dX12_manMoves_94 : decode cX12_manMoves 94 = .ok (.iload 7, 2) := by decide +kernel
theorem dX12_manMoves_96 : decode cX12_manMoves 96 = .ok (.iconst 2, 1) := by decide +kernel
theorem dX12_manMoves_97 : decode cX12_manMoves 97 = .ok (.if_icmp .ne 7, 3) := by decide +kernel
theorem dX12_manMoves_100 : decode cX12_manMoves 100 = .ok (.iconst 1, 1) := by decide +kernel
theorem dX12_manMoves_101 : decode cX12_manMoves 101 = .ok (.goto 4, 3) := by decide +kernel
theorem dX12_manMoves_104 : decode cX12_manMoves 104 = .ok (.iconst 0, 1) := by decide +kernel
theorem dX12_manMoves_105 : decode cX12_manMoves 105 = .ok (.if_icmp .ne 7, 3) := by decide +kernel
theorem dX12_manMoves_108 : decode cX12_manMoves 108 = .ok (.iconst 1, 1) := by decide +kernel
theorem dX12_manMoves_109 : decode cX12_manMoves 109 = .ok (.goto 4, 3) := by decide +kernel
theorem dX12_manMoves_112 : decode cX12_manMoves 112 = .ok (.iconst 0, 1) := by decide +kernel
theorem dX12_manMoves_113 : decode cX12_manMoves 113 = .ok (.istore 9, 2) := by decide +kernel
theorem dX12_manMoves_115 : decode cX12_manMoves 115 = .ok (.iload_n 3, 1) := by decide +kernel
theorem dX12_manMoves_116 : decode cX12_manMoves 116 = .ok (.bipush 8, 2) := by decide +kernel
theorem dX12_manMoves_118 : decode cX12_manMoves 118 = .ok (.irem, 1) := by decide +kernel
theorem dX12_manMoves_119 : decode cX12_manMoves 119 = .ok (.iload 5, 2) := by decide +kernel
theorem dX12_manMoves_121 : decode cX12_manMoves 121 = .ok (.iadd, 1) := by decide +kernel
theorem dX12_manMoves_122 : decode cX12_manMoves 122 = .ok (.istore 10, 2) := by decide +kernel
theorem dX12_manMoves_124 : decode cX12_manMoves 124 = .ok (.iload_n 3, 1) := by decide +kernel
theorem dX12_manMoves_125 : decode cX12_manMoves 125 = .ok (.bipush 8, 2) := by decide +kernel
theorem dX12_manMoves_127 : decode cX12_manMoves 127 = .ok (.idiv, 1) := by decide +kernel
theorem dX12_manMoves_128 : decode cX12_manMoves 128 = .ok (.iload 6, 2) := by decide +kernel
theorem dX12_manMoves_130 : decode cX12_manMoves 130 = .ok (.iadd, 1) := by decide +kernel
theorem dX12_manMoves_131 : decode cX12_manMoves 131 = .ok (.istore 11, 2) := by decide +kernel
theorem dX12_manMoves_133 : decode cX12_manMoves 133 = .ok (.iload 8, 2) := by decide +kernel
theorem dX12_manMoves_135 : decode cX12_manMoves 135 = .ok (.ifCond .ne 8, 3) := by decide +kernel
theorem dX12_manMoves_138 : decode cX12_manMoves 138 = .ok (.iload 9, 2) := by decide +kernel
theorem dX12_manMoves_140 : decode cX12_manMoves 140 = .ok (.ifCond .eq 7, 3) := by decide +kernel
theorem dX12_manMoves_143 : decode cX12_manMoves 143 = .ok (.iconst 1, 1) := by decide +kernel
theorem dX12_manMoves_144 : decode cX12_manMoves 144 = .ok (.goto 4, 3) := by decide +kernel
theorem dX12_manMoves_147 : decode cX12_manMoves 147 = .ok (.iconst 0, 1) := by decide +kernel
theorem dX12_manMoves_148 : decode cX12_manMoves 148 = .ok (.istore 12, 2) := by decide +kernel
theorem dX12_manMoves_150 : decode cX12_manMoves 150 = .ok (.iload 12, 2) := by decide +kernel
theorem dX12_manMoves_152 : decode cX12_manMoves 152 = .ok (.ifCond .eq 106, 3) := by decide +kernel
theorem dX12_manMoves_155 : decode cX12_manMoves 155 = .ok (.iload 10, 2) := by decide +kernel
theorem dX12_manMoves_157 : decode cX12_manMoves 157 = .ok (.ifCond .lt 101, 3) := by decide +kernel
theorem dX12_manMoves_160 : decode cX12_manMoves 160 = .ok (.iload 10, 2) := by decide +kernel
theorem dX12_manMoves_162 : decode cX12_manMoves 162 = .ok (.bipush 8, 2) := by decide +kernel
theorem dX12_manMoves_164 : decode cX12_manMoves 164 = .ok (.if_icmp .ge 94, 3) := by decide +kernel
theorem dX12_manMoves_167 : decode cX12_manMoves 167 = .ok (.iload 11, 2) := by decide +kernel
theorem dX12_manMoves_169 : decode cX12_manMoves 169 = .ok (.ifCond .lt 89, 3) := by decide +kernel
theorem dX12_manMoves_172 : decode cX12_manMoves 172 = .ok (.iload 11, 2) := by decide +kernel
theorem dX12_manMoves_174 : decode cX12_manMoves 174 = .ok (.bipush 8, 2) := by decide +kernel
theorem dX12_manMoves_176 : decode cX12_manMoves 176 = .ok (.if_icmp .ge 82, 3) := by decide +kernel
theorem dX12_manMoves_179 : decode cX12_manMoves 179 = .ok (.bipush 8, 2) := by decide +kernel
theorem dX12_manMoves_181 : decode cX12_manMoves 181 = .ok (.iload 11, 2) := by decide +kernel
theorem dX12_manMoves_183 : decode cX12_manMoves 183 = .ok (.imul, 1) := by decide +kernel
theorem dX12_manMoves_184 : decode cX12_manMoves 184 = .ok (.iload 10, 2) := by decide +kernel
theorem dX12_manMoves_186 : decode cX12_manMoves 186 = .ok (.iadd, 1) := by decide +kernel
theorem dX12_manMoves_187 : decode cX12_manMoves 187 = .ok (.istore 13, 2) := by decide +kernel
theorem dX12_manMoves_189 : decode cX12_manMoves 189 = .ok (.iload 9, 2) := by decide +kernel
theorem dX12_manMoves_191 : decode cX12_manMoves 191 = .ok (.ifCond .eq 20, 3) := by decide +kernel
theorem dX12_manMoves_194 : decode cX12_manMoves 194 = .ok (.iload 13, 2) := by decide +kernel
theorem dX12_manMoves_196 : decode cX12_manMoves 196 = .ok (.iload_n 2, 1) := by decide +kernel
theorem dX12_manMoves_197 : decode cX12_manMoves 197 = .ok (.if_icmp .eq 14, 3) := by decide +kernel
theorem dX12_manMoves_200 : decode cX12_manMoves 200 = .ok (.iload 13, 2) := by decide +kernel
theorem dX12_manMoves_202 : decode cX12_manMoves 202 = .ok (.iload 4, 2) := by decide +kernel
theorem dX12_manMoves_204 : decode cX12_manMoves 204 = .ok (.if_icmp .eq 7, 3) := by decide +kernel
theorem dX12_manMoves_207 : decode cX12_manMoves 207 = .ok (.iconst 1, 1) := by decide +kernel
theorem dX12_manMoves_208 : decode cX12_manMoves 208 = .ok (.goto 4, 3) := by decide +kernel
theorem dX12_manMoves_211 : decode cX12_manMoves 211 = .ok (.iconst 0, 1) := by decide +kernel
theorem dX12_manMoves_212 : decode cX12_manMoves 212 = .ok (.istore 12, 2) := by decide +kernel
theorem dX12_manMoves_214 : decode cX12_manMoves 214 = .ok (.iload 13, 2) := by decide +kernel
theorem dX12_manMoves_216 : decode cX12_manMoves 216 = .ok (.iload_n 2, 1) := by decide +kernel
theorem dX12_manMoves_217 : decode cX12_manMoves 217 = .ok (.if_icmp .eq 24, 3) := by decide +kernel
theorem dX12_manMoves_220 : decode cX12_manMoves 220 = .ok (.iload 13, 2) := by decide +kernel
theorem dX12_manMoves_222 : decode cX12_manMoves 222 = .ok (.iload 4, 2) := by decide +kernel
theorem dX12_manMoves_224 : decode cX12_manMoves 224 = .ok (.if_icmp .eq 17, 3) := by decide +kernel
theorem dX12_manMoves_227 : decode cX12_manMoves 227 = .ok (.aload_n 0, 1) := by decide +kernel
theorem dX12_manMoves_228 : decode cX12_manMoves 228 = .ok (.iload_n 3, 1) := by decide +kernel
theorem dX12_manMoves_229 : decode cX12_manMoves 229 = .ok (.iload 13, 2) := by decide +kernel
theorem dX12_manMoves_231 : decode cX12_manMoves 231 = .ok (.iconst 0, 1) := by decide +kernel
theorem dX12_manMoves_232 : decode cX12_manMoves 232 = .ok (.iload_n 1, 1) := by decide +kernel
theorem dX12_manMoves_233 : decode cX12_manMoves 233 = .ok (.iload_n 2, 1) := by decide +kernel
theorem dX12_manMoves_234 : decode cX12_manMoves 234 = .ok (.iload 13, 2) := by decide +kernel
theorem dX12_manMoves_236 : decode cX12_manMoves 236 = .ok (.iload 4, 2) := by decide +kernel
theorem dX12_manMoves_238 : decode cX12_manMoves 238 = .ok (.invokevirtual 77, 3) := by decide +kernel
theorem dX12_manMoves_241 : decode cX12_manMoves 241 = .ok (.iload 10, 2) := by decide +kernel
theorem dX12_manMoves_243 : decode cX12_manMoves 243 = .ok (.iload 5, 2) := by decide +kernel
theorem dX12_manMoves_245 : decode cX12_manMoves 245 = .ok (.iadd, 1) := by decide +kernel
theorem dX12_manMoves_246 : decode cX12_manMoves 246 = .ok (.istore 10, 2) := by decide +kernel
theorem dX12_manMoves_248 : decode cX12_manMoves 248 = .ok (.iload 11, 2) := by decide +kernel
theorem dX12_manMoves_250 : decode cX12_manMoves 250 = .ok (.iload 6, 2) := by decide +kernel
theorem dX12_manMoves_252 : decode cX12_manMoves 252 = .ok (.iadd, 1) := by decide +kernel
theorem dX12_manMoves_253 : decode cX12_manMoves 253 = .ok (.istore 11, 2) := by decide +kernel
theorem dX12_manMoves_255 : decode cX12_manMoves 255 = .ok (.goto (-105), 3) := by decide +kernel
theorem dX12_manMoves_258 : decode cX12_manMoves 258 = .ok (.iinc 6 1, 3) := by decide +kernel
theorem dX12_manMoves_261 : decode cX12_manMoves 261 = .ok (.goto (-247), 3) := by decide +kernel
theorem dX12_manMoves_264 : decode cX12_manMoves 264 = .ok (.iinc 5 1, 3) := by decide +kernel
theorem dX12_manMoves_267 : decode cX12_manMoves 267 = .ok (.goto (-263), 3) := by decide +kernel
theorem dX12_manMoves_270 : decode cX12_manMoves 270 = .ok (.return_, 1) := by decide +kernel
def kX12_manMoves_30 (mc ms : Nat) (X : Nat → zV) (Q : zQt) : zT :=
  zii (fun x y => x + y) <| zsi 7 <| zli 1 <| zc (.int 2) <| zic (fun x y => x = y) (zli 7 <| zc (.int 3) <| zic (fun x y => x = y) (zc (.int 1) <| zj X 49 [0, 1, 2, 3, 4, 5, 6, 7]) <| zj X 48 [0, 1, 2, 3, 4, 5, 6, 7]) <| zj X 48 [0, 1, 2, 3, 4, 5, 6, 7]
def kX12_manMoves_25 (mc ms : Nat) (X : Nat → zV) (Q : zQt) : zT :=
  zli 6 <| zcs mc ms 1 wX12_amount <| kX12_manMoves_30 mc ms X Q
def kX12_manMoves_70 (mc ms : Nat) (X : Nat → zV) (Q : zQt) : zT :=
  zc (.int 2) <| zic (fun x y => y ≤ x) (zj X 112 [0, 1, 2, 3, 4, 5, 6, 8]) <| zli 7 <| zif (fun x => x ≤ 0) (zj X 112 [0, 1, 2, 3, 4, 5, 6, 8]) <| zli 1 <| zc (.int 5) <| zic (fun x y => x = y) (zj X 108 [0, 1, 2, 3, 4, 5, 6, 8]) <| zli 1 <| zc (.int 3) <| zic (fun x y => x = y) (zc (.int 1) <| zj X 94 [0, 1, 2, 3, 4, 5, 6, 7, 8]) <| zc (.int 0) <| zj X 94 [0, 1, 2, 3, 4, 5, 6, 7, 8]
def kX12_manMoves_61 (mc ms : Nat) (X : Nat → zV) (Q : zQt) : zT :=
  zc (.int 2) <| zic (fun x y => y ≤ x) (zj X 112 [0, 1, 2, 3, 4, 5, 6, 8]) <| zli 6 <| zcs mc ms 1 wX12_amount <| kX12_manMoves_70 mc ms X Q
def kX12_manMoves_124 (mc ms : Nat) (X : Nat → zV) (Q : zQt) : zT :=
  zli 3 <| zc (.int 8) <| zid (fun x y => x / y) <| zli 6 <| zii (fun x y => x + y) <| zsi 11 <| zli 8 <| zif (fun x => x = 0) (zli 9 <| zif (fun x => x = 0) (zc (.int 0) <| zj X 148 [0, 1, 2, 3, 4, 5, 6, 9, 10, 11]) <| zj X 143 [0, 1, 2, 3, 4, 5, 6, 9, 10, 11]) <| zj X 143 [0, 1, 2, 3, 4, 5, 6, 9, 10, 11]
def kX12_manMoves_241 (mc ms : Nat) (X : Nat → zV) (Q : zQt) : zT :=
  zj X 241 [0, 1, 2, 3, 4, 5, 6, 9, 10, 11, 12]
def aX12_manMoves_0 (mc ms : Nat) (X : Nat → zV) (Q : zQt) : zT :=
  zc (.int (-2)) <| zsi 5 <| zj X 4 [0, 1, 2, 3, 4, 5]
def aX12_manMoves_4 (mc ms : Nat) (X : Nat → zV) (Q : zQt) : zT :=
  zli 5 <| zc (.int 2) <| zic (fun x y => y < x) (zrv Q) <| zc (.int (-2)) <| zsi 6 <| zj X 14 [0, 1, 2, 3, 4, 5, 6]
def aX12_manMoves_14 (mc ms : Nat) (X : Nat → zV) (Q : zQt) : zT :=
  zli 6 <| zc (.int 2) <| zic (fun x y => y < x) (zinc 5 1 <| zj X 4 [0, 1, 2, 3, 4, 5]) <| zli 5 <| zcs mc ms 1 wX12_amount <| kX12_manMoves_25 mc ms X Q
def aX12_manMoves_48 (mc ms : Nat) (X : Nat → zV) (Q : zQt) : zT :=
  zc (.int 0) <| zj X 49 [0, 1, 2, 3, 4, 5, 6, 7]
def aX12_manMoves_49 (mc ms : Nat) (X : Nat → zV) (Q : zQt) : zT :=
  zsi 8 <| zli 1 <| zc (.int 2) <| zic (fun x y => x ≤ y) (zj X 112 [0, 1, 2, 3, 4, 5, 6, 8]) <| zli 5 <| zcs mc ms 1 wX12_amount <| kX12_manMoves_61 mc ms X Q
def aX12_manMoves_94 (mc ms : Nat) (X : Nat → zV) (Q : zQt) : zT :=
  zli 7 <| zc (.int 2) <| zic (fun x y => x = y) (zc (.int 1) <| zj X 105 [0, 1, 2, 3, 4, 5, 6, 8]) <| zc (.int 0) <| zj X 105 [0, 1, 2, 3, 4, 5, 6, 8]
def aX12_manMoves_105 (mc ms : Nat) (X : Nat → zV) (Q : zQt) : zT :=
  zic (fun x y => x = y) (zj X 108 [0, 1, 2, 3, 4, 5, 6, 8]) <| zj X 112 [0, 1, 2, 3, 4, 5, 6, 8]
def aX12_manMoves_108 (mc ms : Nat) (X : Nat → zV) (Q : zQt) : zT :=
  zc (.int 1) <| zj X 113 [0, 1, 2, 3, 4, 5, 6, 8]
def aX12_manMoves_112 (mc ms : Nat) (X : Nat → zV) (Q : zQt) : zT :=
  zc (.int 0) <| zj X 113 [0, 1, 2, 3, 4, 5, 6, 8]
def aX12_manMoves_113 (mc ms : Nat) (X : Nat → zV) (Q : zQt) : zT :=
  zsi 9 <| zli 3 <| zc (.int 8) <| zid (fun x y => x - x / y * y) <| zli 5 <| zii (fun x y => x + y) <| zsiN 10 <| kX12_manMoves_124 mc ms X Q
def aX12_manMoves_143 (mc ms : Nat) (X : Nat → zV) (Q : zQt) : zT :=
  zc (.int 1) <| zj X 148 [0, 1, 2, 3, 4, 5, 6, 9, 10, 11]
def aX12_manMoves_148 (mc ms : Nat) (X : Nat → zV) (Q : zQt) : zT :=
  zsi 12 <| zj X 150 [0, 1, 2, 3, 4, 5, 6, 9, 10, 11, 12]
def aX12_manMoves_150 (mc ms : Nat) (X : Nat → zV) (Q : zQt) : zT :=
  zli 12 <| zif (fun x => x = 0) (zj X 258 [0, 1, 2, 3, 4, 5, 6]) <| zli 10 <| zif (fun x => x < 0) (zj X 258 [0, 1, 2, 3, 4, 5, 6]) <| zli 10 <| zc (.int 8) <| zic (fun x y => y ≤ x) (zj X 258 [0, 1, 2, 3, 4, 5, 6]) <| zli 11 <| zif (fun x => x < 0) (zj X 258 [0, 1, 2, 3, 4, 5, 6]) <| zli 11 <| zc (.int 8) <| zic (fun x y => y ≤ x) (zj X 258 [0, 1, 2, 3, 4, 5, 6]) <| zc (.int 8) <| zli 11 <| zii (fun x y => x * y) <| zli 10 <| zii (fun x y => x + y) <| zsi 13 <| zli 9 <| zif (fun x => x = 0) (zj X 211 [0, 1, 2, 3, 4, 5, 6, 9, 10, 11, 13]) <| zli 13 <| zli 2 <| zic (fun x y => x = y) (zj X 211 [0, 1, 2, 3, 4, 5, 6, 9, 10, 11, 13]) <| zli 13 <| zli 4 <| zic (fun x y => x = y) (zj X 211 [0, 1, 2, 3, 4, 5, 6, 9, 10, 11, 13]) <| zc (.int 1) <| zj X 212 [0, 1, 2, 3, 4, 5, 6, 9, 10, 11, 13]
def aX12_manMoves_211 (mc ms : Nat) (X : Nat → zV) (Q : zQt) : zT :=
  zc (.int 0) <| zj X 212 [0, 1, 2, 3, 4, 5, 6, 9, 10, 11, 13]
def aX12_manMoves_212 (mc ms : Nat) (X : Nat → zV) (Q : zQt) : zT :=
  zsi 12 <| zli 13 <| zli 2 <| zic (fun x y => x = y) (zj X 241 [0, 1, 2, 3, 4, 5, 6, 9, 10, 11, 12]) <| zli 13 <| zli 4 <| zic (fun x y => x = y) (zj X 241 [0, 1, 2, 3, 4, 5, 6, 9, 10, 11, 12]) <| zla 0 <| zli 3 <| zli 13 <| zc (.int 0) <| zli 1 <| zli 2 <| zli 13 <| zli 4 <| zcv mc ms 12 7 wX12_add <| kX12_manMoves_241 mc ms X Q
def aX12_manMoves_241 (mc ms : Nat) (X : Nat → zV) (Q : zQt) : zT :=
  zli 10 <| zli 5 <| zii (fun x y => x + y) <| zsi 10 <| zli 11 <| zli 6 <| zii (fun x y => x + y) <| zsi 11 <| zj X 150 [0, 1, 2, 3, 4, 5, 6, 9, 10, 11, 12]
def aX12_manMoves_258 (mc ms : Nat) (X : Nat → zV) (Q : zQt) : zT :=
  zinc 6 1 <| zj X 14 [0, 1, 2, 3, 4, 5, 6]
def lvX12_manMoves : Nat → List Nat := fun L => match L with
  | 0 => [0, 1, 2, 3, 4]
  | 4 => [0, 1, 2, 3, 4, 5]
  | 14 => [0, 1, 2, 3, 4, 5, 6]
  | 48 => [0, 1, 2, 3, 4, 5, 6, 7]
  | 49 => [0, 1, 2, 3, 4, 5, 6, 7]
  | 94 => [0, 1, 2, 3, 4, 5, 6, 7, 8]
  | 105 => [0, 1, 2, 3, 4, 5, 6, 8]
  | 108 => [0, 1, 2, 3, 4, 5, 6, 8]
  | 112 => [0, 1, 2, 3, 4, 5, 6, 8]
  | 113 => [0, 1, 2, 3, 4, 5, 6, 8]
  | 143 => [0, 1, 2, 3, 4, 5, 6, 9, 10, 11]
  | 148 => [0, 1, 2, 3, 4, 5, 6, 9, 10, 11]
  | 150 => [0, 1, 2, 3, 4, 5, 6, 9, 10, 11, 12]
  | 211 => [0, 1, 2, 3, 4, 5, 6, 9, 10, 11, 13]
  | 212 => [0, 1, 2, 3, 4, 5, 6, 9, 10, 11, 13]
  | 241 => [0, 1, 2, 3, 4, 5, 6, 9, 10, 11, 12]
  | 258 => [0, 1, 2, 3, 4, 5, 6]
  | _ => []
def wX12_manMoves : zSp := fun mc ms av M Q => ((zlay av).length ≤ 14 ∧ zpick (zlay av) [0, 1, 2, 3, 4] = some av) ∧ ∀ X : Nat → zV, zin 14 [0, 1, 2, 3, 4] (aX12_manMoves_0 mc ms X Q) X 0 → zin 14 [0, 1, 2, 3, 4, 5] (aX12_manMoves_4 mc ms X Q) X 4 → zin 14 [0, 1, 2, 3, 4, 5, 6] (aX12_manMoves_14 mc ms X Q) X 14 → zin 14 [0, 1, 2, 3, 4, 5, 6, 7] (aX12_manMoves_48 mc ms X Q) X 48 → zin 14 [0, 1, 2, 3, 4, 5, 6, 7] (aX12_manMoves_49 mc ms X Q) X 49 → zin 14 [0, 1, 2, 3, 4, 5, 6, 7, 8] (aX12_manMoves_94 mc ms X Q) X 94 → zin 14 [0, 1, 2, 3, 4, 5, 6, 8] (aX12_manMoves_105 mc ms X Q) X 105 → zin 14 [0, 1, 2, 3, 4, 5, 6, 8] (aX12_manMoves_108 mc ms X Q) X 108 → zin 14 [0, 1, 2, 3, 4, 5, 6, 8] (aX12_manMoves_112 mc ms X Q) X 112 → zin 14 [0, 1, 2, 3, 4, 5, 6, 8] (aX12_manMoves_113 mc ms X Q) X 113 → zin 14 [0, 1, 2, 3, 4, 5, 6, 9, 10, 11] (aX12_manMoves_143 mc ms X Q) X 143 → zin 14 [0, 1, 2, 3, 4, 5, 6, 9, 10, 11] (aX12_manMoves_148 mc ms X Q) X 148 → zin 14 [0, 1, 2, 3, 4, 5, 6, 9, 10, 11, 12] (aX12_manMoves_150 mc ms X Q) X 150 → zin 14 [0, 1, 2, 3, 4, 5, 6, 9, 10, 11, 13] (aX12_manMoves_211 mc ms X Q) X 211 → zin 14 [0, 1, 2, 3, 4, 5, 6, 9, 10, 11, 13] (aX12_manMoves_212 mc ms X Q) X 212 → zin 14 [0, 1, 2, 3, 4, 5, 6, 9, 10, 11, 12] (aX12_manMoves_241 mc ms X Q) X 241 → zin 14 [0, 1, 2, 3, 4, 5, 6] (aX12_manMoves_258 mc ms X Q) X 258 → X 0 0 0 av [] M
set_option maxRecDepth 100000 in
set_option maxHeartbeats 4000000 in
theorem sX12_manMoves (l : Launch) (G : zG) : zSnd l G yX12_manMoves cX12_manMoves 14 none 1 27 wX12_manMoves := by
  refine zmk [0, 1, 2, 3, 4] (by decide) (fun mc ms av M Q h => h.1) ?_
  intro p e R s m args below meth c mc ms av M Q hC hRf hRl hr hnm h lv hlv
  obtain ⟨X, hXe⟩ : ∃ X : Nat → zV, X = fun L u v vs st M => ∀ lv, zpick lv (lvX12_manMoves L) = some vs → zAt p l e R s m args below meth c (MQ below (zQ G Q) args s mc ms (zA G)) G 14 L u v lv st M := ⟨_, rfl⟩
  have hJ : ∀ L, zOk p l e R s m args below meth c (MQ below (zQ G Q) args s mc ms (zA G)) G 14 L (zj X L (lvX12_manMoves L)) := fun L => S_jump (fun u v lv vs st M hp hx => by rw [hXe] at hx; exact hx lv hp)
  have hB0 : zin 14 [0, 1, 2, 3, 4] (aX12_manMoves_0 mc ms X Q) X 0 := by
    intro u v vs st M hb
    rw [hXe]
    refine fun lv hp => S_block (L := 0) (live := [0, 1, 2, 3, 4]) ?_ u v lv vs st M hp hb
    unfold aX12_manMoves_0
    refine S_bipush (pc := 0) hC dX12_manMoves_0 (by decide) ?_
    refine S_istore (pc := 2) hC dX12_manMoves_2 (by decide) ?_
    exact hJ 4
  have hB4 : zin 14 [0, 1, 2, 3, 4, 5] (aX12_manMoves_4 mc ms X Q) X 4 := by
    intro u v vs st M hb
    rw [hXe]
    refine fun lv hp => S_block (L := 4) (live := [0, 1, 2, 3, 4, 5]) ?_ u v lv vs st M hp hb
    unfold aX12_manMoves_4
    refine S_iload (pc := 4) hC dX12_manMoves_4 ?_
    refine S_iconst (pc := 6) hC dX12_manMoves_6 (by decide) ?_
    refine S_icmp_gt (pc := 7) (tgt := 270) hC dX12_manMoves_7 (by decide) ?_ ?_
    · exact S_vreturn (pc := 270) hC hr dX12_manMoves_270
    · refine S_bipush (pc := 10) hC dX12_manMoves_10 (by decide) ?_
      refine S_istore (pc := 12) hC dX12_manMoves_12 (by decide) ?_
      exact hJ 14
  have hB14 : zin 14 [0, 1, 2, 3, 4, 5, 6] (aX12_manMoves_14 mc ms X Q) X 14 := by
    intro u v vs st M hb
    rw [hXe]
    refine fun lv hp => S_block (L := 14) (live := [0, 1, 2, 3, 4, 5, 6]) ?_ u v lv vs st M hp hb
    unfold aX12_manMoves_14
    refine S_iload (pc := 14) hC dX12_manMoves_14 ?_
    refine S_iconst (pc := 16) hC dX12_manMoves_16 (by decide) ?_
    refine S_icmp_gt (pc := 17) (tgt := 264) hC dX12_manMoves_17 (by decide) ?_ ?_
    · refine S_iinc (pc := 264) hC dX12_manMoves_264 (by decide) (by decide) ?_
      refine S_goto (pc := 267) (tgt := 4) hC dX12_manMoves_267 (by decide) ?_
      exact hJ 4
    · refine S_iload (pc := 20) hC dX12_manMoves_20 ?_
      refine S_callS (pc := 22) hC (sX12_amount l G) wd_1716 wd_1717 wd_13 wd_1718 (by decide +kernel) ⟨by rw [hRf]; decide, by rw [hRl]; decide⟩ dX12_manMoves_22 ?_
      unfold kX12_manMoves_25
      refine S_iload (pc := 25) hC dX12_manMoves_25 ?_
      refine S_callS (pc := 27) hC (sX12_amount l G) wd_1716 wd_1717 wd_13 wd_1718 (by decide +kernel) ⟨by rw [hRf]; decide, by rw [hRl]; decide⟩ dX12_manMoves_27 ?_
      unfold kX12_manMoves_30
      refine S_iadd (pc := 30) hC dX12_manMoves_30 ?_
      refine S_istore (pc := 31) hC dX12_manMoves_31 (by decide) ?_
      refine S_iload_n (pc := 33) hC dX12_manMoves_33 rfl ?_
      refine S_iconst (pc := 34) hC dX12_manMoves_34 (by decide) ?_
      refine S_icmp_ne (pc := 35) (tgt := 48) hC dX12_manMoves_35 (by decide) ?_ ?_
      · exact hJ 48
      · refine S_iload (pc := 38) hC dX12_manMoves_38 ?_
        refine S_iconst (pc := 40) hC dX12_manMoves_40 (by decide) ?_
        refine S_icmp_ne (pc := 41) (tgt := 48) hC dX12_manMoves_41 (by decide) ?_ ?_
        · exact hJ 48
        · refine S_iconst (pc := 44) hC dX12_manMoves_44 (by decide) ?_
          refine S_goto (pc := 45) (tgt := 49) hC dX12_manMoves_45 (by decide) ?_
          exact hJ 49
  have hB48 : zin 14 [0, 1, 2, 3, 4, 5, 6, 7] (aX12_manMoves_48 mc ms X Q) X 48 := by
    intro u v vs st M hb
    rw [hXe]
    refine fun lv hp => S_block (L := 48) (live := [0, 1, 2, 3, 4, 5, 6, 7]) ?_ u v lv vs st M hp hb
    unfold aX12_manMoves_48
    refine S_iconst (pc := 48) hC dX12_manMoves_48 (by decide) ?_
    exact hJ 49
  have hB49 : zin 14 [0, 1, 2, 3, 4, 5, 6, 7] (aX12_manMoves_49 mc ms X Q) X 49 := by
    intro u v vs st M hb
    rw [hXe]
    refine fun lv hp => S_block (L := 49) (live := [0, 1, 2, 3, 4, 5, 6, 7]) ?_ u v lv vs st M hp hb
    unfold aX12_manMoves_49
    refine S_istore (pc := 49) hC dX12_manMoves_49 (by decide) ?_
    refine S_iload_n (pc := 51) hC dX12_manMoves_51 rfl ?_
    refine S_iconst (pc := 52) hC dX12_manMoves_52 (by decide) ?_
    refine S_icmp_le (pc := 53) (tgt := 112) hC dX12_manMoves_53 (by decide) ?_ ?_
    · exact hJ 112
    · refine S_iload (pc := 56) hC dX12_manMoves_56 ?_
      refine S_callS (pc := 58) hC (sX12_amount l G) wd_1716 wd_1717 wd_13 wd_1718 (by decide +kernel) ⟨by rw [hRf]; decide, by rw [hRl]; decide⟩ dX12_manMoves_58 ?_
      unfold kX12_manMoves_61
      refine S_iconst (pc := 61) hC dX12_manMoves_61 (by decide) ?_
      refine S_icmp_ge (pc := 62) (tgt := 112) hC dX12_manMoves_62 (by decide) ?_ ?_
      · exact hJ 112
      · refine S_iload (pc := 65) hC dX12_manMoves_65 ?_
        refine S_callS (pc := 67) hC (sX12_amount l G) wd_1716 wd_1717 wd_13 wd_1718 (by decide +kernel) ⟨by rw [hRf]; decide, by rw [hRl]; decide⟩ dX12_manMoves_67 ?_
        unfold kX12_manMoves_70
        refine S_iconst (pc := 70) hC dX12_manMoves_70 (by decide) ?_
        refine S_icmp_ge (pc := 71) (tgt := 112) hC dX12_manMoves_71 (by decide) ?_ ?_
        · exact hJ 112
        · refine S_iload (pc := 74) hC dX12_manMoves_74 ?_
          refine S_if_le (pc := 76) (tgt := 112) hC dX12_manMoves_76 (by decide) ?_ ?_
          · exact hJ 112
          · refine S_iload_n (pc := 79) hC dX12_manMoves_79 rfl ?_
            refine S_iconst (pc := 80) hC dX12_manMoves_80 (by decide) ?_
            refine S_icmp_eq (pc := 81) (tgt := 108) hC dX12_manMoves_81 (by decide) ?_ ?_
            · exact hJ 108
            · refine S_iload_n (pc := 84) hC dX12_manMoves_84 rfl ?_
              refine S_iconst (pc := 85) hC dX12_manMoves_85 (by decide) ?_
              refine S_icmp_ne (pc := 86) (tgt := 93) hC dX12_manMoves_86 (by decide) ?_ ?_
              · refine S_iconst (pc := 93) hC dX12_manMoves_93 (by decide) ?_
                exact hJ 94
              · refine S_iconst (pc := 89) hC dX12_manMoves_89 (by decide) ?_
                refine S_goto (pc := 90) (tgt := 94) hC dX12_manMoves_90 (by decide) ?_
                exact hJ 94
  have hB94 : zin 14 [0, 1, 2, 3, 4, 5, 6, 7, 8] (aX12_manMoves_94 mc ms X Q) X 94 := by
    intro u v vs st M hb
    rw [hXe]
    refine fun lv hp => S_block (L := 94) (live := [0, 1, 2, 3, 4, 5, 6, 7, 8]) ?_ u v lv vs st M hp hb
    unfold aX12_manMoves_94
    refine S_iload (pc := 94) hC dX12_manMoves_94 ?_
    refine S_iconst (pc := 96) hC dX12_manMoves_96 (by decide) ?_
    refine S_icmp_ne (pc := 97) (tgt := 104) hC dX12_manMoves_97 (by decide) ?_ ?_
    · refine S_iconst (pc := 104) hC dX12_manMoves_104 (by decide) ?_
      exact hJ 105
    · refine S_iconst (pc := 100) hC dX12_manMoves_100 (by decide) ?_
      refine S_goto (pc := 101) (tgt := 105) hC dX12_manMoves_101 (by decide) ?_
      exact hJ 105
  have hB105 : zin 14 [0, 1, 2, 3, 4, 5, 6, 8] (aX12_manMoves_105 mc ms X Q) X 105 := by
    intro u v vs st M hb
    rw [hXe]
    refine fun lv hp => S_block (L := 105) (live := [0, 1, 2, 3, 4, 5, 6, 8]) ?_ u v lv vs st M hp hb
    unfold aX12_manMoves_105
    refine S_icmp_ne (pc := 105) (tgt := 112) hC dX12_manMoves_105 (by decide) ?_ ?_
    · exact hJ 112
    · exact hJ 108
  have hB108 : zin 14 [0, 1, 2, 3, 4, 5, 6, 8] (aX12_manMoves_108 mc ms X Q) X 108 := by
    intro u v vs st M hb
    rw [hXe]
    refine fun lv hp => S_block (L := 108) (live := [0, 1, 2, 3, 4, 5, 6, 8]) ?_ u v lv vs st M hp hb
    unfold aX12_manMoves_108
    refine S_iconst (pc := 108) hC dX12_manMoves_108 (by decide) ?_
    refine S_goto (pc := 109) (tgt := 113) hC dX12_manMoves_109 (by decide) ?_
    exact hJ 113
  have hB112 : zin 14 [0, 1, 2, 3, 4, 5, 6, 8] (aX12_manMoves_112 mc ms X Q) X 112 := by
    intro u v vs st M hb
    rw [hXe]
    refine fun lv hp => S_block (L := 112) (live := [0, 1, 2, 3, 4, 5, 6, 8]) ?_ u v lv vs st M hp hb
    unfold aX12_manMoves_112
    refine S_iconst (pc := 112) hC dX12_manMoves_112 (by decide) ?_
    exact hJ 113
  have hB113 : zin 14 [0, 1, 2, 3, 4, 5, 6, 8] (aX12_manMoves_113 mc ms X Q) X 113 := by
    intro u v vs st M hb
    rw [hXe]
    refine fun lv hp => S_block (L := 113) (live := [0, 1, 2, 3, 4, 5, 6, 8]) ?_ u v lv vs st M hp hb
    unfold aX12_manMoves_113
    refine S_istore (pc := 113) hC dX12_manMoves_113 (by decide) ?_
    refine S_iload_n (pc := 115) hC dX12_manMoves_115 rfl ?_
    refine S_bipush (pc := 116) hC dX12_manMoves_116 (by decide) ?_
    refine S_irem (pc := 118) hC dX12_manMoves_118 ?_
    refine S_iload (pc := 119) hC dX12_manMoves_119 ?_
    refine S_iadd (pc := 121) hC dX12_manMoves_121 ?_
    refine S_istore_N (pc := 122) hC dX12_manMoves_122 (by decide) ?_
    unfold kX12_manMoves_124
    refine S_iload_n (pc := 124) hC dX12_manMoves_124 rfl ?_
    refine S_bipush (pc := 125) hC dX12_manMoves_125 (by decide) ?_
    refine S_idiv (pc := 127) hC dX12_manMoves_127 ?_
    refine S_iload (pc := 128) hC dX12_manMoves_128 ?_
    refine S_iadd (pc := 130) hC dX12_manMoves_130 ?_
    refine S_istore (pc := 131) hC dX12_manMoves_131 (by decide) ?_
    refine S_iload (pc := 133) hC dX12_manMoves_133 ?_
    refine S_if_ne (pc := 135) (tgt := 143) hC dX12_manMoves_135 (by decide) ?_ ?_
    · exact hJ 143
    · refine S_iload (pc := 138) hC dX12_manMoves_138 ?_
      refine S_if_eq (pc := 140) (tgt := 147) hC dX12_manMoves_140 (by decide) ?_ ?_
      · refine S_iconst (pc := 147) hC dX12_manMoves_147 (by decide) ?_
        exact hJ 148
      · exact hJ 143
  have hB143 : zin 14 [0, 1, 2, 3, 4, 5, 6, 9, 10, 11] (aX12_manMoves_143 mc ms X Q) X 143 := by
    intro u v vs st M hb
    rw [hXe]
    refine fun lv hp => S_block (L := 143) (live := [0, 1, 2, 3, 4, 5, 6, 9, 10, 11]) ?_ u v lv vs st M hp hb
    unfold aX12_manMoves_143
    refine S_iconst (pc := 143) hC dX12_manMoves_143 (by decide) ?_
    refine S_goto (pc := 144) (tgt := 148) hC dX12_manMoves_144 (by decide) ?_
    exact hJ 148
  have hB148 : zin 14 [0, 1, 2, 3, 4, 5, 6, 9, 10, 11] (aX12_manMoves_148 mc ms X Q) X 148 := by
    intro u v vs st M hb
    rw [hXe]
    refine fun lv hp => S_block (L := 148) (live := [0, 1, 2, 3, 4, 5, 6, 9, 10, 11]) ?_ u v lv vs st M hp hb
    unfold aX12_manMoves_148
    refine S_istore (pc := 148) hC dX12_manMoves_148 (by decide) ?_
    exact hJ 150
  have hB150 : zin 14 [0, 1, 2, 3, 4, 5, 6, 9, 10, 11, 12] (aX12_manMoves_150 mc ms X Q) X 150 := by
    intro u v vs st M hb
    rw [hXe]
    refine fun lv hp => S_block (L := 150) (live := [0, 1, 2, 3, 4, 5, 6, 9, 10, 11, 12]) ?_ u v lv vs st M hp hb
    unfold aX12_manMoves_150
    refine S_iload (pc := 150) hC dX12_manMoves_150 ?_
    refine S_if_eq (pc := 152) (tgt := 258) hC dX12_manMoves_152 (by decide) ?_ ?_
    · exact hJ 258
    · refine S_iload (pc := 155) hC dX12_manMoves_155 ?_
      refine S_if_lt (pc := 157) (tgt := 258) hC dX12_manMoves_157 (by decide) ?_ ?_
      · exact hJ 258
      · refine S_iload (pc := 160) hC dX12_manMoves_160 ?_
        refine S_bipush (pc := 162) hC dX12_manMoves_162 (by decide) ?_
        refine S_icmp_ge (pc := 164) (tgt := 258) hC dX12_manMoves_164 (by decide) ?_ ?_
        · exact hJ 258
        · refine S_iload (pc := 167) hC dX12_manMoves_167 ?_
          refine S_if_lt (pc := 169) (tgt := 258) hC dX12_manMoves_169 (by decide) ?_ ?_
          · exact hJ 258
          · refine S_iload (pc := 172) hC dX12_manMoves_172 ?_
            refine S_bipush (pc := 174) hC dX12_manMoves_174 (by decide) ?_
            refine S_icmp_ge (pc := 176) (tgt := 258) hC dX12_manMoves_176 (by decide) ?_ ?_
            · exact hJ 258
            · refine S_bipush (pc := 179) hC dX12_manMoves_179 (by decide) ?_
              refine S_iload (pc := 181) hC dX12_manMoves_181 ?_
              refine S_imul (pc := 183) hC dX12_manMoves_183 ?_
              refine S_iload (pc := 184) hC dX12_manMoves_184 ?_
              refine S_iadd (pc := 186) hC dX12_manMoves_186 ?_
              refine S_istore (pc := 187) hC dX12_manMoves_187 (by decide) ?_
              refine S_iload (pc := 189) hC dX12_manMoves_189 ?_
              refine S_if_eq (pc := 191) (tgt := 211) hC dX12_manMoves_191 (by decide) ?_ ?_
              · exact hJ 211
              · refine S_iload (pc := 194) hC dX12_manMoves_194 ?_
                refine S_iload_n (pc := 196) hC dX12_manMoves_196 rfl ?_
                refine S_icmp_eq (pc := 197) (tgt := 211) hC dX12_manMoves_197 (by decide) ?_ ?_
                · exact hJ 211
                · refine S_iload (pc := 200) hC dX12_manMoves_200 ?_
                  refine S_iload (pc := 202) hC dX12_manMoves_202 ?_
                  refine S_icmp_eq (pc := 204) (tgt := 211) hC dX12_manMoves_204 (by decide) ?_ ?_
                  · exact hJ 211
                  · refine S_iconst (pc := 207) hC dX12_manMoves_207 (by decide) ?_
                    refine S_goto (pc := 208) (tgt := 212) hC dX12_manMoves_208 (by decide) ?_
                    exact hJ 212
  have hB211 : zin 14 [0, 1, 2, 3, 4, 5, 6, 9, 10, 11, 13] (aX12_manMoves_211 mc ms X Q) X 211 := by
    intro u v vs st M hb
    rw [hXe]
    refine fun lv hp => S_block (L := 211) (live := [0, 1, 2, 3, 4, 5, 6, 9, 10, 11, 13]) ?_ u v lv vs st M hp hb
    unfold aX12_manMoves_211
    refine S_iconst (pc := 211) hC dX12_manMoves_211 (by decide) ?_
    exact hJ 212
  have hB212 : zin 14 [0, 1, 2, 3, 4, 5, 6, 9, 10, 11, 13] (aX12_manMoves_212 mc ms X Q) X 212 := by
    intro u v vs st M hb
    rw [hXe]
    refine fun lv hp => S_block (L := 212) (live := [0, 1, 2, 3, 4, 5, 6, 9, 10, 11, 13]) ?_ u v lv vs st M hp hb
    unfold aX12_manMoves_212
    refine S_istore (pc := 212) hC dX12_manMoves_212 (by decide) ?_
    refine S_iload (pc := 214) hC dX12_manMoves_214 ?_
    refine S_iload_n (pc := 216) hC dX12_manMoves_216 rfl ?_
    refine S_icmp_eq (pc := 217) (tgt := 241) hC dX12_manMoves_217 (by decide) ?_ ?_
    · exact hJ 241
    · refine S_iload (pc := 220) hC dX12_manMoves_220 ?_
      refine S_iload (pc := 222) hC dX12_manMoves_222 ?_
      refine S_icmp_eq (pc := 224) (tgt := 241) hC dX12_manMoves_224 (by decide) ?_ ?_
      · exact hJ 241
      · refine S_aload_n (pc := 227) hC dX12_manMoves_227 rfl ?_
        refine S_iload_n (pc := 228) hC dX12_manMoves_228 rfl ?_
        refine S_iload (pc := 229) hC dX12_manMoves_229 ?_
        refine S_iconst (pc := 231) hC dX12_manMoves_231 (by decide) ?_
        refine S_iload_n (pc := 232) hC dX12_manMoves_232 rfl ?_
        refine S_iload_n (pc := 233) hC dX12_manMoves_233 rfl ?_
        refine S_iload (pc := 234) hC dX12_manMoves_234 ?_
        refine S_iload (pc := 236) hC dX12_manMoves_236 ?_
        refine S_callV (pc := 238) hC (sX12_add l G) rfl wd_1743 wd_1745 ws_129 wd_13 wd_1746 (by decide +kernel) ⟨by rw [hRf]; decide, by rw [hRl]; decide⟩ dX12_manMoves_238 ?_
        unfold kX12_manMoves_241
        exact hJ 241
  have hB241 : zin 14 [0, 1, 2, 3, 4, 5, 6, 9, 10, 11, 12] (aX12_manMoves_241 mc ms X Q) X 241 := by
    intro u v vs st M hb
    rw [hXe]
    refine fun lv hp => S_block (L := 241) (live := [0, 1, 2, 3, 4, 5, 6, 9, 10, 11, 12]) ?_ u v lv vs st M hp hb
    unfold aX12_manMoves_241
    refine S_iload (pc := 241) hC dX12_manMoves_241 ?_
    refine S_iload (pc := 243) hC dX12_manMoves_243 ?_
    refine S_iadd (pc := 245) hC dX12_manMoves_245 ?_
    refine S_istore (pc := 246) hC dX12_manMoves_246 (by decide) ?_
    refine S_iload (pc := 248) hC dX12_manMoves_248 ?_
    refine S_iload (pc := 250) hC dX12_manMoves_250 ?_
    refine S_iadd (pc := 252) hC dX12_manMoves_252 ?_
    refine S_istore (pc := 253) hC dX12_manMoves_253 (by decide) ?_
    refine S_goto (pc := 255) (tgt := 150) hC dX12_manMoves_255 (by decide) ?_
    exact hJ 150
  have hB258 : zin 14 [0, 1, 2, 3, 4, 5, 6] (aX12_manMoves_258 mc ms X Q) X 258 := by
    intro u v vs st M hb
    rw [hXe]
    refine fun lv hp => S_block (L := 258) (live := [0, 1, 2, 3, 4, 5, 6]) ?_ u v lv vs st M hp hb
    unfold aX12_manMoves_258
    refine S_iinc (pc := 258) hC dX12_manMoves_258 (by decide) (by decide) ?_
    refine S_goto (pc := 261) (tgt := 14) hC dX12_manMoves_261 (by decide) ?_
    exact hJ 14
  have := h.2 X hB0 hB4 hB14 hB48 hB49 hB94 hB105 hB108 hB112 hB113 hB143 hB148 hB150 hB211 hB212 hB241 hB258
  rw [hXe] at this
  exact this lv hlv
theorem vX12_manMoves_0 {mc ms : Nat} {X : Nat → zV} {Q : zQt} {M : zM} {x1 : Int32} {x2 : Int32} {x3 : Int32} {x4 : Int32} (hW : zFix M)  (h : X 4 0 0 [.ref 71, .int x1, .int x2, .int x3, .int x4, .int (-2)] [] M) : aX12_manMoves_0 mc ms X Q 0 0 [some (.ref 71), some (.int x1), some (.int x2), some (.int x3), some (.int x4), none, none, none, none, none, none, none, none, none] [] M := h
theorem vX12_manMoves_4 {mc ms : Nat} {X : Nat → zV} {Q : zQt} {M : zM} {x1 : Int32} {x2 : Int32} {x3 : Int32} {x4 : Int32} {x5 : Int32} (hW : zFix M)  (h : ((2 : Int32) < x5 → Q none M) ∧ (¬ (2 : Int32) < x5 → X 14 0 0 [.ref 71, .int x1, .int x2, .int x3, .int x4, .int x5, .int (-2)] [] M)) : aX12_manMoves_4 mc ms X Q 0 0 [some (.ref 71), some (.int x1), some (.int x2), some (.int x3), some (.int x4), some (.int x5), none, none, none, none, none, none, none, none] [] M := ⟨fun c7 => (h.1 c7), fun c7 => (h.2 c7)⟩
theorem vX12_manMoves_14 {mc ms : Nat} {X : Nat → zV} {Q : zQt} {M : zM} {x1 : Int32} {x2 : Int32} {x3 : Int32} {x4 : Int32} {x5 : Int32} {x6 : Int32} (hW : zFix M)  (h : ((2 : Int32) < x6 → X 4 0 0 [.ref 71, .int x1, .int x2, .int x3, .int x4, .int (x5 + 1)] [] M) ∧ (¬ (2 : Int32) < x6 → wX12_amount 0 0 [.int x5] M (fun r M1 => kX12_manMoves_25 mc ms X Q 0 0 [some (.ref 71), some (.int x1), some (.int x2), some (.int x3), some (.int x4), some (.int x5), some (.int x6), none, none, none, none, none, none, none] (r.toList ++ []) M1))) : aX12_manMoves_14 mc ms X Q 0 0 [some (.ref 71), some (.int x1), some (.int x2), some (.int x3), some (.int x4), some (.int x5), some (.int x6), none, none, none, none, none, none, none] [] M := ⟨fun c17 => (h.1 c17), fun c17 => ⟨Nat.le_of_ble_eq_true rfl, rfl, 0, 0, Nat.zero_le _, Nat.zero_le _, (h.2 c17)⟩⟩
theorem vX12_manMoves_48 {mc ms : Nat} {X : Nat → zV} {Q : zQt} {M : zM} {x1 : Int32} {x2 : Int32} {x3 : Int32} {x4 : Int32} {x5 : Int32} {x6 : Int32} {x7 : Int32} (hW : zFix M)  (h : X 49 0 0 [.ref 71, .int x1, .int x2, .int x3, .int x4, .int x5, .int x6, .int x7] [.int 0] M) : aX12_manMoves_48 mc ms X Q 0 0 [some (.ref 71), some (.int x1), some (.int x2), some (.int x3), some (.int x4), some (.int x5), some (.int x6), some (.int x7), none, none, none, none, none, none] [] M := h
theorem vX12_manMoves_49 {mc ms : Nat} {X : Nat → zV} {Q : zQt} {M : zM} {x1 : Int32} {x2 : Int32} {x3 : Int32} {x4 : Int32} {x5 : Int32} {x6 : Int32} {x7 : Int32} {s0 : Int32} (hW : zFix M)  (h : (x1 ≤ (2 : Int32) → X 112 0 0 [.ref 71, .int x1, .int x2, .int x3, .int x4, .int x5, .int x6, .int s0] [] M) ∧ (¬ x1 ≤ (2 : Int32) → wX12_amount 0 0 [.int x5] M (fun r M1 => kX12_manMoves_61 mc ms X Q 0 0 [some (.ref 71), some (.int x1), some (.int x2), some (.int x3), some (.int x4), some (.int x5), some (.int x6), some (.int x7), some (.int s0), none, none, none, none, none] (r.toList ++ []) M1))) : aX12_manMoves_49 mc ms X Q 0 0 [some (.ref 71), some (.int x1), some (.int x2), some (.int x3), some (.int x4), some (.int x5), some (.int x6), some (.int x7), none, none, none, none, none, none] [.int s0] M := ⟨fun c53 => (h.1 c53), fun c53 => ⟨Nat.le_of_ble_eq_true rfl, rfl, 0, 0, Nat.zero_le _, Nat.zero_le _, (h.2 c53)⟩⟩
theorem vX12_manMoves_94 {mc ms : Nat} {X : Nat → zV} {Q : zQt} {M : zM} {x1 : Int32} {x2 : Int32} {x3 : Int32} {x4 : Int32} {x5 : Int32} {x6 : Int32} {x7 : Int32} {x8 : Int32} {s0 : Int32} (hW : zFix M)  (h : (x7 = (2 : Int32) → X 105 0 0 [.ref 71, .int x1, .int x2, .int x3, .int x4, .int x5, .int x6, .int x8] [.int 1, .int s0] M) ∧ (¬ x7 = (2 : Int32) → X 105 0 0 [.ref 71, .int x1, .int x2, .int x3, .int x4, .int x5, .int x6, .int x8] [.int 0, .int s0] M)) : aX12_manMoves_94 mc ms X Q 0 0 [some (.ref 71), some (.int x1), some (.int x2), some (.int x3), some (.int x4), some (.int x5), some (.int x6), some (.int x7), some (.int x8), none, none, none, none, none] [.int s0] M := ⟨fun c97 => (h.1 c97), fun c97 => (h.2 c97)⟩
theorem vX12_manMoves_105 {mc ms : Nat} {X : Nat → zV} {Q : zQt} {M : zM} {x1 : Int32} {x2 : Int32} {x3 : Int32} {x4 : Int32} {x5 : Int32} {x6 : Int32} {x8 : Int32} {s0 : Int32} {s1 : Int32} (hW : zFix M)  (h : (s1 = s0 → X 108 0 0 [.ref 71, .int x1, .int x2, .int x3, .int x4, .int x5, .int x6, .int x8] [] M) ∧ (¬ s1 = s0 → X 112 0 0 [.ref 71, .int x1, .int x2, .int x3, .int x4, .int x5, .int x6, .int x8] [] M)) : aX12_manMoves_105 mc ms X Q 0 0 [some (.ref 71), some (.int x1), some (.int x2), some (.int x3), some (.int x4), some (.int x5), some (.int x6), none, some (.int x8), none, none, none, none, none] [.int s0, .int s1] M := ⟨fun c105 => (h.1 c105), fun c105 => (h.2 c105)⟩
theorem vX12_manMoves_108 {mc ms : Nat} {X : Nat → zV} {Q : zQt} {M : zM} {x1 : Int32} {x2 : Int32} {x3 : Int32} {x4 : Int32} {x5 : Int32} {x6 : Int32} {x8 : Int32} (hW : zFix M)  (h : X 113 0 0 [.ref 71, .int x1, .int x2, .int x3, .int x4, .int x5, .int x6, .int x8] [.int 1] M) : aX12_manMoves_108 mc ms X Q 0 0 [some (.ref 71), some (.int x1), some (.int x2), some (.int x3), some (.int x4), some (.int x5), some (.int x6), none, some (.int x8), none, none, none, none, none] [] M := h
theorem vX12_manMoves_112 {mc ms : Nat} {X : Nat → zV} {Q : zQt} {M : zM} {x1 : Int32} {x2 : Int32} {x3 : Int32} {x4 : Int32} {x5 : Int32} {x6 : Int32} {x8 : Int32} (hW : zFix M)  (h : X 113 0 0 [.ref 71, .int x1, .int x2, .int x3, .int x4, .int x5, .int x6, .int x8] [.int 0] M) : aX12_manMoves_112 mc ms X Q 0 0 [some (.ref 71), some (.int x1), some (.int x2), some (.int x3), some (.int x4), some (.int x5), some (.int x6), none, some (.int x8), none, none, none, none, none] [] M := h
theorem vcX12_manMoves_124 {mc ms : Nat} {X : Nat → zV} {Q : zQt} {M : zM} {x1 : Int32} {x2 : Int32} {x3 : Int32} {x4 : Int32} {x5 : Int32} {x6 : Int32} {x8 : Int32} {x9 : Int32} {x10 : Int32} (hW : zFix M)  (h : (x8 = 0 → (x9 = 0 → X 148 0 0 [.ref 71, .int x1, .int x2, .int x3, .int x4, .int x5, .int x6, .int x9, .int x10, .int ((x3 / (8 : Int32)) + x6)] [.int 0] M) ∧ (¬ x9 = 0 → X 143 0 0 [.ref 71, .int x1, .int x2, .int x3, .int x4, .int x5, .int x6, .int x9, .int x10, .int ((x3 / (8 : Int32)) + x6)] [] M)) ∧ (¬ x8 = 0 → X 143 0 0 [.ref 71, .int x1, .int x2, .int x3, .int x4, .int x5, .int x6, .int x9, .int x10, .int ((x3 / (8 : Int32)) + x6)] [] M)) : kX12_manMoves_124 mc ms X Q 0 0 [some (.ref 71), some (.int x1), some (.int x2), some (.int x3), some (.int x4), some (.int x5), some (.int x6), none, some (.int x8), some (.int x9), some (.int x10), none, none, none] [] M := ⟨by decide, ⟨fun c135 => ⟨fun c140 => ((h.1 c135).1 c140), fun c140 => ((h.1 c135).2 c140)⟩, fun c135 => (h.2 c135)⟩⟩
theorem vX12_manMoves_113 {mc ms : Nat} {X : Nat → zV} {Q : zQt} {M : zM} {x1 : Int32} {x2 : Int32} {x3 : Int32} {x4 : Int32} {x5 : Int32} {x6 : Int32} {x8 : Int32} {s0 : Int32} (hW : zFix M)  (h : ∀ y122 : Int32, y122 = ((x3 - x3 / (8 : Int32) * (8 : Int32)) + x5) → (x8 = 0 → (s0 = 0 → X 148 0 0 [.ref 71, .int x1, .int x2, .int x3, .int x4, .int x5, .int x6, .int s0, .int y122, .int ((x3 / (8 : Int32)) + x6)] [.int 0] M) ∧ (¬ s0 = 0 → X 143 0 0 [.ref 71, .int x1, .int x2, .int x3, .int x4, .int x5, .int x6, .int s0, .int y122, .int ((x3 / (8 : Int32)) + x6)] [] M)) ∧ (¬ x8 = 0 → X 143 0 0 [.ref 71, .int x1, .int x2, .int x3, .int x4, .int x5, .int x6, .int s0, .int y122, .int ((x3 / (8 : Int32)) + x6)] [] M)) : aX12_manMoves_113 mc ms X Q 0 0 [some (.ref 71), some (.int x1), some (.int x2), some (.int x3), some (.int x4), some (.int x5), some (.int x6), none, some (.int x8), none, none, none, none, none] [.int s0] M := ⟨by decide, (fun y122 e122 => have h122 := h y122 e122; (vcX12_manMoves_124 hW  h122))⟩
theorem vX12_manMoves_143 {mc ms : Nat} {X : Nat → zV} {Q : zQt} {M : zM} {x1 : Int32} {x2 : Int32} {x3 : Int32} {x4 : Int32} {x5 : Int32} {x6 : Int32} {x9 : Int32} {x10 : Int32} {x11 : Int32} (hW : zFix M)  (h : X 148 0 0 [.ref 71, .int x1, .int x2, .int x3, .int x4, .int x5, .int x6, .int x9, .int x10, .int x11] [.int 1] M) : aX12_manMoves_143 mc ms X Q 0 0 [some (.ref 71), some (.int x1), some (.int x2), some (.int x3), some (.int x4), some (.int x5), some (.int x6), none, none, some (.int x9), some (.int x10), some (.int x11), none, none] [] M := h
theorem vX12_manMoves_148 {mc ms : Nat} {X : Nat → zV} {Q : zQt} {M : zM} {x1 : Int32} {x2 : Int32} {x3 : Int32} {x4 : Int32} {x5 : Int32} {x6 : Int32} {x9 : Int32} {x10 : Int32} {x11 : Int32} {s0 : Int32} (hW : zFix M)  (h : X 150 0 0 [.ref 71, .int x1, .int x2, .int x3, .int x4, .int x5, .int x6, .int x9, .int x10, .int x11, .int s0] [] M) : aX12_manMoves_148 mc ms X Q 0 0 [some (.ref 71), some (.int x1), some (.int x2), some (.int x3), some (.int x4), some (.int x5), some (.int x6), none, none, some (.int x9), some (.int x10), some (.int x11), none, none] [.int s0] M := h
theorem vX12_manMoves_150 {mc ms : Nat} {X : Nat → zV} {Q : zQt} {M : zM} {x1 : Int32} {x2 : Int32} {x3 : Int32} {x4 : Int32} {x5 : Int32} {x6 : Int32} {x9 : Int32} {x10 : Int32} {x11 : Int32} {x12 : Int32} (hW : zFix M)  (h : (x12 = 0 → X 258 0 0 [.ref 71, .int x1, .int x2, .int x3, .int x4, .int x5, .int x6] [] M) ∧ (¬ x12 = 0 → (x10 < 0 → X 258 0 0 [.ref 71, .int x1, .int x2, .int x3, .int x4, .int x5, .int x6] [] M) ∧ (¬ x10 < 0 → ((8 : Int32) ≤ x10 → X 258 0 0 [.ref 71, .int x1, .int x2, .int x3, .int x4, .int x5, .int x6] [] M) ∧ (¬ (8 : Int32) ≤ x10 → (x11 < 0 → X 258 0 0 [.ref 71, .int x1, .int x2, .int x3, .int x4, .int x5, .int x6] [] M) ∧ (¬ x11 < 0 → ((8 : Int32) ≤ x11 → X 258 0 0 [.ref 71, .int x1, .int x2, .int x3, .int x4, .int x5, .int x6] [] M) ∧ (¬ (8 : Int32) ≤ x11 → (x9 = 0 → X 211 0 0 [.ref 71, .int x1, .int x2, .int x3, .int x4, .int x5, .int x6, .int x9, .int x10, .int x11, .int (((8 : Int32) * x11) + x10)] [] M) ∧ (¬ x9 = 0 → ((((8 : Int32) * x11) + x10) = x2 → X 211 0 0 [.ref 71, .int x1, .int x2, .int x3, .int x4, .int x5, .int x6, .int x9, .int x10, .int x11, .int (((8 : Int32) * x11) + x10)] [] M) ∧ (¬ (((8 : Int32) * x11) + x10) = x2 → ((((8 : Int32) * x11) + x10) = x4 → X 211 0 0 [.ref 71, .int x1, .int x2, .int x3, .int x4, .int x5, .int x6, .int x9, .int x10, .int x11, .int (((8 : Int32) * x11) + x10)] [] M) ∧ (¬ (((8 : Int32) * x11) + x10) = x4 → X 212 0 0 [.ref 71, .int x1, .int x2, .int x3, .int x4, .int x5, .int x6, .int x9, .int x10, .int x11, .int (((8 : Int32) * x11) + x10)] [.int 1] M))))))))) : aX12_manMoves_150 mc ms X Q 0 0 [some (.ref 71), some (.int x1), some (.int x2), some (.int x3), some (.int x4), some (.int x5), some (.int x6), none, none, some (.int x9), some (.int x10), some (.int x11), some (.int x12), none] [] M := ⟨fun c152 => (h.1 c152), fun c152 => ⟨fun c157 => ((h.2 c152).1 c157), fun c157 => ⟨fun c164 => (((h.2 c152).2 c157).1 c164), fun c164 => ⟨fun c169 => ((((h.2 c152).2 c157).2 c164).1 c169), fun c169 => ⟨fun c176 => (((((h.2 c152).2 c157).2 c164).2 c169).1 c176), fun c176 => ⟨fun c191 => ((((((h.2 c152).2 c157).2 c164).2 c169).2 c176).1 c191), fun c191 => ⟨fun c197 => (((((((h.2 c152).2 c157).2 c164).2 c169).2 c176).2 c191).1 c197), fun c197 => ⟨fun c204 => ((((((((h.2 c152).2 c157).2 c164).2 c169).2 c176).2 c191).2 c197).1 c204), fun c204 => ((((((((h.2 c152).2 c157).2 c164).2 c169).2 c176).2 c191).2 c197).2 c204)⟩⟩⟩⟩⟩⟩⟩⟩
theorem vX12_manMoves_211 {mc ms : Nat} {X : Nat → zV} {Q : zQt} {M : zM} {x1 : Int32} {x2 : Int32} {x3 : Int32} {x4 : Int32} {x5 : Int32} {x6 : Int32} {x9 : Int32} {x10 : Int32} {x11 : Int32} {x13 : Int32} (hW : zFix M)  (h : X 212 0 0 [.ref 71, .int x1, .int x2, .int x3, .int x4, .int x5, .int x6, .int x9, .int x10, .int x11, .int x13] [.int 0] M) : aX12_manMoves_211 mc ms X Q 0 0 [some (.ref 71), some (.int x1), some (.int x2), some (.int x3), some (.int x4), some (.int x5), some (.int x6), none, none, some (.int x9), some (.int x10), some (.int x11), none, some (.int x13)] [] M := h
theorem vX12_manMoves_212 {mc ms : Nat} {X : Nat → zV} {Q : zQt} {M : zM} {x1 : Int32} {x2 : Int32} {x3 : Int32} {x4 : Int32} {x5 : Int32} {x6 : Int32} {x9 : Int32} {x10 : Int32} {x11 : Int32} {x13 : Int32} {s0 : Int32} (hW : zFix M)  (h : (x13 = x2 → X 241 0 0 [.ref 71, .int x1, .int x2, .int x3, .int x4, .int x5, .int x6, .int x9, .int x10, .int x11, .int s0] [] M) ∧ (¬ x13 = x2 → (x13 = x4 → X 241 0 0 [.ref 71, .int x1, .int x2, .int x3, .int x4, .int x5, .int x6, .int x9, .int x10, .int x11, .int s0] [] M) ∧ (¬ x13 = x4 → wX12_add 0 0 [.ref 71, .int x3, .int x13, .int 0, .int x1, .int x2, .int x13, .int x4] M (fun r M1 => kX12_manMoves_241 mc ms X Q 0 0 [some (.ref 71), some (.int x1), some (.int x2), some (.int x3), some (.int x4), some (.int x5), some (.int x6), none, none, some (.int x9), some (.int x10), some (.int x11), some (.int s0), some (.int x13)] (r.toList ++ []) M1)))) : aX12_manMoves_212 mc ms X Q 0 0 [some (.ref 71), some (.int x1), some (.int x2), some (.int x3), some (.int x4), some (.int x5), some (.int x6), none, none, some (.int x9), some (.int x10), some (.int x11), none, some (.int x13)] [.int s0] M := ⟨fun c217 => (h.1 c217), fun c217 => ⟨fun c224 => ((h.2 c217).1 c224), fun c224 => ⟨Nat.le_of_ble_eq_true rfl, rfl, (fxs_71 hW), 0, 0, Nat.zero_le _, Nat.zero_le _, ((h.2 c217).2 c224)⟩⟩⟩
theorem vX12_manMoves_241 {mc ms : Nat} {X : Nat → zV} {Q : zQt} {M : zM} {x1 : Int32} {x2 : Int32} {x3 : Int32} {x4 : Int32} {x5 : Int32} {x6 : Int32} {x9 : Int32} {x10 : Int32} {x11 : Int32} {x12 : Int32} (hW : zFix M)  (h : X 150 0 0 [.ref 71, .int x1, .int x2, .int x3, .int x4, .int x5, .int x6, .int x9, .int (x10 + x5), .int (x11 + x6), .int x12] [] M) : aX12_manMoves_241 mc ms X Q 0 0 [some (.ref 71), some (.int x1), some (.int x2), some (.int x3), some (.int x4), some (.int x5), some (.int x6), none, none, some (.int x9), some (.int x10), some (.int x11), some (.int x12), none] [] M := h
theorem vX12_manMoves_258 {mc ms : Nat} {X : Nat → zV} {Q : zQt} {M : zM} {x1 : Int32} {x2 : Int32} {x3 : Int32} {x4 : Int32} {x5 : Int32} {x6 : Int32} (hW : zFix M)  (h : X 14 0 0 [.ref 71, .int x1, .int x2, .int x3, .int x4, .int x5, .int (x6 + 1)] [] M) : aX12_manMoves_258 mc ms X Q 0 0 [some (.ref 71), some (.int x1), some (.int x2), some (.int x3), some (.int x4), some (.int x5), some (.int x6), none, none, none, none, none, none, none] [] M := h
theorem vkX12_manMoves_25 {mc ms : Nat} {X : Nat → zV} {Q : zQt} {M : zM} {x1 : Int32} {x2 : Int32} {x3 : Int32} {x4 : Int32} {x5 : Int32} {x6 : Int32} {s0 : Int32} (hW : zFix M)  (h : wX12_amount 0 0 [.int x6] M (fun r M1 => kX12_manMoves_30 mc ms X Q 0 0 [some (.ref 71), some (.int x1), some (.int x2), some (.int x3), some (.int x4), some (.int x5), some (.int x6), none, none, none, none, none, none, none] (r.toList ++ [.int s0]) M1)) : kX12_manMoves_25 mc ms X Q 0 0 [some (.ref 71), some (.int x1), some (.int x2), some (.int x3), some (.int x4), some (.int x5), some (.int x6), none, none, none, none, none, none, none] [.int s0] M := ⟨Nat.le_of_ble_eq_true rfl, rfl, 0, 0, Nat.zero_le _, Nat.zero_le _, h⟩
theorem vkX12_manMoves_30 {mc ms : Nat} {X : Nat → zV} {Q : zQt} {M : zM} {x1 : Int32} {x2 : Int32} {x3 : Int32} {x4 : Int32} {x5 : Int32} {x6 : Int32} {s0 : Int32} {s1 : Int32} (hW : zFix M)  (h : (x1 = (2 : Int32) → ((s1 + s0) = (3 : Int32) → X 49 0 0 [.ref 71, .int x1, .int x2, .int x3, .int x4, .int x5, .int x6, .int (s1 + s0)] [.int 1] M) ∧ (¬ (s1 + s0) = (3 : Int32) → X 48 0 0 [.ref 71, .int x1, .int x2, .int x3, .int x4, .int x5, .int x6, .int (s1 + s0)] [] M)) ∧ (¬ x1 = (2 : Int32) → X 48 0 0 [.ref 71, .int x1, .int x2, .int x3, .int x4, .int x5, .int x6, .int (s1 + s0)] [] M)) : kX12_manMoves_30 mc ms X Q 0 0 [some (.ref 71), some (.int x1), some (.int x2), some (.int x3), some (.int x4), some (.int x5), some (.int x6), none, none, none, none, none, none, none] [.int s0, .int s1] M := ⟨fun c35 => ⟨fun c41 => ((h.1 c35).1 c41), fun c41 => ((h.1 c35).2 c41)⟩, fun c35 => (h.2 c35)⟩
theorem vkX12_manMoves_61 {mc ms : Nat} {X : Nat → zV} {Q : zQt} {M : zM} {x1 : Int32} {x2 : Int32} {x3 : Int32} {x4 : Int32} {x5 : Int32} {x6 : Int32} {x7 : Int32} {x8 : Int32} {s0 : Int32} (hW : zFix M)  (h : ((2 : Int32) ≤ s0 → X 112 0 0 [.ref 71, .int x1, .int x2, .int x3, .int x4, .int x5, .int x6, .int x8] [] M) ∧ (¬ (2 : Int32) ≤ s0 → wX12_amount 0 0 [.int x6] M (fun r M1 => kX12_manMoves_70 mc ms X Q 0 0 [some (.ref 71), some (.int x1), some (.int x2), some (.int x3), some (.int x4), some (.int x5), some (.int x6), some (.int x7), some (.int x8), none, none, none, none, none] (r.toList ++ []) M1))) : kX12_manMoves_61 mc ms X Q 0 0 [some (.ref 71), some (.int x1), some (.int x2), some (.int x3), some (.int x4), some (.int x5), some (.int x6), some (.int x7), some (.int x8), none, none, none, none, none] [.int s0] M := ⟨fun c62 => (h.1 c62), fun c62 => ⟨Nat.le_of_ble_eq_true rfl, rfl, 0, 0, Nat.zero_le _, Nat.zero_le _, (h.2 c62)⟩⟩
theorem vkX12_manMoves_70 {mc ms : Nat} {X : Nat → zV} {Q : zQt} {M : zM} {x1 : Int32} {x2 : Int32} {x3 : Int32} {x4 : Int32} {x5 : Int32} {x6 : Int32} {x7 : Int32} {x8 : Int32} {s0 : Int32} (hW : zFix M)  (h : ((2 : Int32) ≤ s0 → X 112 0 0 [.ref 71, .int x1, .int x2, .int x3, .int x4, .int x5, .int x6, .int x8] [] M) ∧ (¬ (2 : Int32) ≤ s0 → (x7 ≤ 0 → X 112 0 0 [.ref 71, .int x1, .int x2, .int x3, .int x4, .int x5, .int x6, .int x8] [] M) ∧ (¬ x7 ≤ 0 → (x1 = (5 : Int32) → X 108 0 0 [.ref 71, .int x1, .int x2, .int x3, .int x4, .int x5, .int x6, .int x8] [] M) ∧ (¬ x1 = (5 : Int32) → (x1 = (3 : Int32) → X 94 0 0 [.ref 71, .int x1, .int x2, .int x3, .int x4, .int x5, .int x6, .int x7, .int x8] [.int 1] M) ∧ (¬ x1 = (3 : Int32) → X 94 0 0 [.ref 71, .int x1, .int x2, .int x3, .int x4, .int x5, .int x6, .int x7, .int x8] [.int 0] M))))) : kX12_manMoves_70 mc ms X Q 0 0 [some (.ref 71), some (.int x1), some (.int x2), some (.int x3), some (.int x4), some (.int x5), some (.int x6), some (.int x7), some (.int x8), none, none, none, none, none] [.int s0] M := ⟨fun c71 => (h.1 c71), fun c71 => ⟨fun c76 => ((h.2 c71).1 c76), fun c76 => ⟨fun c81 => (((h.2 c71).2 c76).1 c81), fun c81 => ⟨fun c86 => ((((h.2 c71).2 c76).2 c81).1 c86), fun c86 => ((((h.2 c71).2 c76).2 c81).2 c86)⟩⟩⟩⟩
theorem vkX12_manMoves_241 {mc ms : Nat} {X : Nat → zV} {Q : zQt} {M : zM} {x1 : Int32} {x2 : Int32} {x3 : Int32} {x4 : Int32} {x5 : Int32} {x6 : Int32} {x9 : Int32} {x10 : Int32} {x11 : Int32} {x12 : Int32} {x13 : Int32} (hW : zFix M)  (h : X 241 0 0 [.ref 71, .int x1, .int x2, .int x3, .int x4, .int x5, .int x6, .int x9, .int x10, .int x11, .int x12] [] M) : kX12_manMoves_241 mc ms X Q 0 0 [some (.ref 71), some (.int x1), some (.int x2), some (.int x3), some (.int x4), some (.int x5), some (.int x6), none, none, some (.int x9), some (.int x10), some (.int x11), some (.int x12), some (.int x13)] [] M := h
theorem dX12_place_0 : decode cX12_place 0 = .ok (.iload_n 1, 1) := by decide +kernel
theorem dX12_place_1 : decode cX12_place 1 = .ok (.iconst 1, 1) := by decide +kernel
theorem dX12_place_2 : decode cX12_place 2 = .ok (.if_icmp .ne 8, 3) := by decide +kernel
theorem dX12_place_5 : decode cX12_place 5 = .ok (.bipush 64, 2) := by decide +kernel
theorem dX12_place_7 : decode cX12_place 7 = .ok (.goto 4, 3) := by decide +kernel
theorem dX12_place_10 : decode cX12_place 10 = .ok (.iconst 0, 1) := by decide +kernel
theorem dX12_place_11 : decode cX12_place 11 = .ok (.istore 6, 2) := by decide +kernel
theorem dX12_place_13 : decode cX12_place 13 = .ok (.iconst 0, 1) := by decide +kernel
theorem dX12_place_14 : decode cX12_place 14 = .ok (.istore 7, 2) := by decide +kernel
theorem dX12_place_16 : decode cX12_place 16 = .ok (.aload_n 0, 1) := by decide +kernel
theorem dX12_place_17 : decode cX12_place 17 = .ok (.getfield 29, 3) := by decide +kernel
theorem dX12_place_20 : decode cX12_place 20 = .ok (.iload 6, 2) := by decide +kernel
theorem dX12_place_22 : decode cX12_place 22 = .ok (.aload_n 0, 1) := by decide +kernel
theorem dX12_place_23 : decode cX12_place 23 = .ok (.getfield 26, 3) := by decide +kernel
theorem dX12_place_26 : decode cX12_place 26 = .ok (.bipush 64, 2) := by decide +kernel
theorem dX12_place_28 : decode cX12_place 28 = .ok (.iload 7, 2) := by decide +kernel
theorem dX12_place_30 : decode cX12_place 30 = .ok (.imul, 1) := by decide +kernel
theorem dX12_place_31 : decode cX12_place 31 = .ok (.iload_n 2, 1) := by decide +kernel
theorem dX12_place_32 : decode cX12_place 32 = .ok (.iadd, 1) := by decide +kernel
theorem dX12_place_33 : decode cX12_place 33 = .ok (.iaload, 1) := by decide +kernel
theorem dX12_place_34 : decode cX12_place 34 = .ok (.iadd, 1) := by decide +kernel
theorem dX12_place_35 : decode cX12_place 35 = .ok (.iaload, 1) := by decide +kernel
theorem dX12_place_36 : decode cX12_place 36 = .ok (.ifCond .ge 9, 3) := by decide +kernel
theorem dX12_place_39 : decode cX12_place 39 = .ok (.iinc 7 1, 3) := by decide +kernel
theorem dX12_place_42 : decode cX12_place 42 = .ok (.goto (-26), 3) := by decide +kernel
theorem dX12_place_45 : decode cX12_place 45 = .ok (.aload_n 0, 1) := by decide +kernel
theorem dX12_place_46 : decode cX12_place 46 = .ok (.getfield 29, 3) := by decide +kernel
theorem dX12_place_49 : decode cX12_place 49 = .ok (.iload 6, 2) := by decide +kernel
theorem dX12_place_51 : decode cX12_place 51 = .ok (.aload_n 0, 1) := by decide +kernel
theorem dX12_place_52 : decode cX12_place 52 = .ok (.getfield 26, 3) := by decide +kernel
theorem dX12_place_55 : decode cX12_place 55 = .ok (.bipush 64, 2) := by decide +kernel
theorem dX12_place_57 : decode cX12_place 57 = .ok (.iload 7, 2) := by decide +kernel
theorem dX12_place_59 : decode cX12_place 59 = .ok (.imul, 1) := by decide +kernel
theorem dX12_place_60 : decode cX12_place 60 = .ok (.iload_n 2, 1) := by decide +kernel
theorem dX12_place_61 : decode cX12_place 61 = .ok (.iadd, 1) := by decide +kernel
theorem dX12_place_62 : decode cX12_place 62 = .ok (.iaload, 1) := by decide +kernel
theorem dX12_place_63 : decode cX12_place 63 = .ok (.iadd, 1) := by decide +kernel
theorem dX12_place_64 : decode cX12_place 64 = .ok (.iaload, 1) := by decide +kernel
theorem dX12_place_65 : decode cX12_place 65 = .ok (.istore 8, 2) := by decide +kernel
theorem dX12_place_67 : decode cX12_place 67 = .ok (.iconst 2, 1) := by decide +kernel
theorem dX12_place_68 : decode cX12_place 68 = .ok (.iload 8, 2) := by decide +kernel
theorem dX12_place_70 : decode cX12_place 70 = .ok (.bipush 64, 2) := by decide +kernel
theorem dX12_place_72 : decode cX12_place 72 = .ok (.imul, 1) := by decide +kernel
theorem dX12_place_73 : decode cX12_place 73 = .ok (.aload_n 0, 1) := by decide +kernel
theorem dX12_place_74 : decode cX12_place 74 = .ok (.getfield 26, 3) := by decide +kernel
theorem dX12_place_77 : decode cX12_place 77 = .ok (.bipush 64, 2) := by decide +kernel
theorem dX12_place_79 : decode cX12_place 79 = .ok (.iload 7, 2) := by decide +kernel
theorem dX12_place_81 : decode cX12_place 81 = .ok (.imul, 1) := by decide +kernel
theorem dX12_place_82 : decode cX12_place 82 = .ok (.iload_n 3, 1) := by decide +kernel
theorem dX12_place_83 : decode cX12_place 83 = .ok (.iadd, 1) := by decide +kernel
theorem dX12_place_84 : decode cX12_place 84 = .ok (.iaload, 1) := by decide +kernel
theorem dX12_place_85 : decode cX12_place 85 = .ok (.iadd, 1) := by decide +kernel
theorem dX12_place_86 : decode cX12_place 86 = .ok (.bipush 64, 2) := by decide +kernel
theorem dX12_place_88 : decode cX12_place 88 = .ok (.imul, 1) := by decide +kernel
theorem dX12_place_89 : decode cX12_place 89 = .ok (.aload_n 0, 1) := by decide +kernel
theorem dX12_place_90 : decode cX12_place 90 = .ok (.getfield 26, 3) := by decide +kernel
theorem dX12_place_93 : decode cX12_place 93 = .ok (.bipush 64, 2) := by decide +kernel
theorem dX12_place_95 : decode cX12_place 95 = .ok (.iload 7, 2) := by decide +kernel
theorem dX12_place_97 : decode cX12_place 97 = .ok (.imul, 1) := by decide +kernel
theorem dX12_place_98 : decode cX12_place 98 = .ok (.iload 4, 2) := by decide +kernel
theorem dX12_place_100 : decode cX12_place 100 = .ok (.iadd, 1) := by decide +kernel
theorem dX12_place_101 : decode cX12_place 101 = .ok (.iaload, 1) := by decide +kernel
theorem dX12_place_102 : decode cX12_place 102 = .ok (.iadd, 1) := by decide +kernel
theorem dX12_place_103 : decode cX12_place 103 = .ok (.imul, 1) := by decide +kernel
theorem dX12_place_104 : decode cX12_place 104 = .ok (.iload 5, 2) := by decide +kernel
theorem dX12_place_106 : decode cX12_place 106 = .ok (.ifCond .eq 7, 3) := by decide +kernel
theorem dX12_place_109 : decode cX12_place 109 = .ok (.iconst 1, 1) := by decide +kernel
theorem dX12_place_110 : decode cX12_place 110 = .ok (.goto 4, 3) := by decide +kernel
theorem dX12_place_113 : decode cX12_place 113 = .ok (.iconst 0, 1) := by decide +kernel
theorem dX12_place_114 : decode cX12_place 114 = .ok (.iadd, 1) := by decide +kernel
theorem dX12_place_115 : decode cX12_place 115 = .ok (.ireturn, 1) := by decide +kernel
def kX12_place_67 (mc ms : Nat) (X : Nat → zV) (Q : zQt) : zT :=
  zc (.int 2) <| zli 8 <| zc (.int 64) <| zii (fun x y => x * y) <| zla 0 <| zgR 12 9 <| zc (.int 64) <| zli 7 <| zii (fun x y => x * y) <| zli 3 <| zii (fun x y => x + y) <| zal 1 <| zii (fun x y => x + y) <| zc (.int 64) <| zii (fun x y => x * y) <| zla 0 <| zgR 12 9 <| zc (.int 64) <| zli 7 <| zii (fun x y => x * y) <| zli 4 <| zii (fun x y => x + y) <| zal 1 <| zii (fun x y => x + y) <| zii (fun x y => x * y) <| zli 5 <| zif (fun x => x = 0) (zc (.int 0) <| zj X 114 []) <| zc (.int 1) <| zj X 114 []
def aX12_place_0 (mc ms : Nat) (X : Nat → zV) (Q : zQt) : zT :=
  zli 1 <| zc (.int 1) <| zic (fun x y => x = y) (zc (.int 64) <| zj X 11 [0, 2, 3, 4, 5]) <| zc (.int 0) <| zj X 11 [0, 2, 3, 4, 5]
def aX12_place_11 (mc ms : Nat) (X : Nat → zV) (Q : zQt) : zT :=
  zsi 6 <| zc (.int 0) <| zsi 7 <| zj X 16 [0, 2, 3, 4, 5, 6, 7]
def aX12_place_16 (mc ms : Nat) (X : Nat → zV) (Q : zQt) : zT :=
  zla 0 <| zgR 12 10 <| zli 6 <| zla 0 <| zgR 12 9 <| zc (.int 64) <| zli 7 <| zii (fun x y => x * y) <| zli 2 <| zii (fun x y => x + y) <| zal 1 <| zii (fun x y => x + y) <| zal 1 <| zif (fun x => 0 ≤ x) (zla 0 <| zgR 12 10 <| zli 6 <| zla 0 <| zgR 12 9 <| zc (.int 64) <| zli 7 <| zii (fun x y => x * y) <| zli 2 <| zii (fun x y => x + y) <| zal 1 <| zii (fun x y => x + y) <| zal 1 <| zsiN 8 <| kX12_place_67 mc ms X Q) <| zinc 7 1 <| zj X 16 [0, 2, 3, 4, 5, 6, 7]
def aX12_place_114 (mc ms : Nat) (X : Nat → zV) (Q : zQt) : zT :=
  zii (fun x y => x + y) <| zri Q
def lvX12_place : Nat → List Nat := fun L => match L with
  | 0 => [0, 1, 2, 3, 4, 5]
  | 11 => [0, 2, 3, 4, 5]
  | 16 => [0, 2, 3, 4, 5, 6, 7]
  | 114 => []
  | _ => []
def wX12_place : zSp := fun mc ms av M Q => ((zlay av).length ≤ 9 ∧ zpick (zlay av) [0, 1, 2, 3, 4, 5] = some av) ∧ ∀ X : Nat → zV, zin 9 [0, 1, 2, 3, 4, 5] (aX12_place_0 mc ms X Q) X 0 → zin 9 [0, 2, 3, 4, 5] (aX12_place_11 mc ms X Q) X 11 → zin 9 [0, 2, 3, 4, 5, 6, 7] (aX12_place_16 mc ms X Q) X 16 → zin 9 [] (aX12_place_114 mc ms X Q) X 114 → X 0 0 0 av [] M
set_option maxRecDepth 100000 in
set_option maxHeartbeats 4000000 in
theorem sX12_place (l : Launch) (G : zG) : zSnd l G yX12_place cX12_place 9 (some .int) 0 0 wX12_place := by
  refine zmk [0, 1, 2, 3, 4, 5] (by decide) (fun mc ms av M Q h => h.1) ?_
  intro p e R s m args below meth c mc ms av M Q hC hRf hRl hr hnm h lv hlv
  obtain ⟨X, hXe⟩ : ∃ X : Nat → zV, X = fun L u v vs st M => ∀ lv, zpick lv (lvX12_place L) = some vs → zAt p l e R s m args below meth c (MQ below (zQ G Q) args s mc ms (zA G)) G 9 L u v lv st M := ⟨_, rfl⟩
  have hJ : ∀ L, zOk p l e R s m args below meth c (MQ below (zQ G Q) args s mc ms (zA G)) G 9 L (zj X L (lvX12_place L)) := fun L => S_jump (fun u v lv vs st M hp hx => by rw [hXe] at hx; exact hx lv hp)
  have hB0 : zin 9 [0, 1, 2, 3, 4, 5] (aX12_place_0 mc ms X Q) X 0 := by
    intro u v vs st M hb
    rw [hXe]
    refine fun lv hp => S_block (L := 0) (live := [0, 1, 2, 3, 4, 5]) ?_ u v lv vs st M hp hb
    unfold aX12_place_0
    refine S_iload_n (pc := 0) hC dX12_place_0 rfl ?_
    refine S_iconst (pc := 1) hC dX12_place_1 (by decide) ?_
    refine S_icmp_ne (pc := 2) (tgt := 10) hC dX12_place_2 (by decide) ?_ ?_
    · refine S_iconst (pc := 10) hC dX12_place_10 (by decide) ?_
      exact hJ 11
    · refine S_bipush (pc := 5) hC dX12_place_5 (by decide) ?_
      refine S_goto (pc := 7) (tgt := 11) hC dX12_place_7 (by decide) ?_
      exact hJ 11
  have hB11 : zin 9 [0, 2, 3, 4, 5] (aX12_place_11 mc ms X Q) X 11 := by
    intro u v vs st M hb
    rw [hXe]
    refine fun lv hp => S_block (L := 11) (live := [0, 2, 3, 4, 5]) ?_ u v lv vs st M hp hb
    unfold aX12_place_11
    refine S_istore (pc := 11) hC dX12_place_11 (by decide) ?_
    refine S_iconst (pc := 13) hC dX12_place_13 (by decide) ?_
    refine S_istore (pc := 14) hC dX12_place_14 (by decide) ?_
    exact hJ 16
  have hB16 : zin 9 [0, 2, 3, 4, 5, 6, 7] (aX12_place_16 mc ms X Q) X 16 := by
    intro u v vs st M hb
    rw [hXe]
    refine fun lv hp => S_block (L := 16) (live := [0, 2, 3, 4, 5, 6, 7]) ?_ u v lv vs st M hp hb
    unfold aX12_place_16
    refine S_aload_n (pc := 16) hC dX12_place_16 rfl ?_
    refine S_getR (pc := 17) hC cfX12 (by decide) (Or.inr ⟨_, rfl⟩) wd_1212 dX12_place_17 ?_
    refine S_iload (pc := 20) hC dX12_place_20 ?_
    refine S_aload_n (pc := 22) hC dX12_place_22 rfl ?_
    refine S_getR (pc := 23) hC cfX12 (by decide) (Or.inr ⟨_, rfl⟩) wd_1211 dX12_place_23 ?_
    refine S_bipush (pc := 26) hC dX12_place_26 (by decide) ?_
    refine S_iload (pc := 28) hC dX12_place_28 ?_
    refine S_imul (pc := 30) hC dX12_place_30 ?_
    refine S_iload_n (pc := 31) hC dX12_place_31 rfl ?_
    refine S_iadd (pc := 32) hC dX12_place_32 ?_
    refine S_iaload (pc := 33) hC dX12_place_33 ?_
    refine S_iadd (pc := 34) hC dX12_place_34 ?_
    refine S_iaload (pc := 35) hC dX12_place_35 ?_
    refine S_if_ge (pc := 36) (tgt := 45) hC dX12_place_36 (by decide) ?_ ?_
    · refine S_aload_n (pc := 45) hC dX12_place_45 rfl ?_
      refine S_getR (pc := 46) hC cfX12 (by decide) (Or.inr ⟨_, rfl⟩) wd_1212 dX12_place_46 ?_
      refine S_iload (pc := 49) hC dX12_place_49 ?_
      refine S_aload_n (pc := 51) hC dX12_place_51 rfl ?_
      refine S_getR (pc := 52) hC cfX12 (by decide) (Or.inr ⟨_, rfl⟩) wd_1211 dX12_place_52 ?_
      refine S_bipush (pc := 55) hC dX12_place_55 (by decide) ?_
      refine S_iload (pc := 57) hC dX12_place_57 ?_
      refine S_imul (pc := 59) hC dX12_place_59 ?_
      refine S_iload_n (pc := 60) hC dX12_place_60 rfl ?_
      refine S_iadd (pc := 61) hC dX12_place_61 ?_
      refine S_iaload (pc := 62) hC dX12_place_62 ?_
      refine S_iadd (pc := 63) hC dX12_place_63 ?_
      refine S_iaload (pc := 64) hC dX12_place_64 ?_
      refine S_istore_N (pc := 65) hC dX12_place_65 (by decide) ?_
      unfold kX12_place_67
      refine S_iconst (pc := 67) hC dX12_place_67 (by decide) ?_
      refine S_iload (pc := 68) hC dX12_place_68 ?_
      refine S_bipush (pc := 70) hC dX12_place_70 (by decide) ?_
      refine S_imul (pc := 72) hC dX12_place_72 ?_
      refine S_aload_n (pc := 73) hC dX12_place_73 rfl ?_
      refine S_getR (pc := 74) hC cfX12 (by decide) (Or.inr ⟨_, rfl⟩) wd_1211 dX12_place_74 ?_
      refine S_bipush (pc := 77) hC dX12_place_77 (by decide) ?_
      refine S_iload (pc := 79) hC dX12_place_79 ?_
      refine S_imul (pc := 81) hC dX12_place_81 ?_
      refine S_iload_n (pc := 82) hC dX12_place_82 rfl ?_
      refine S_iadd (pc := 83) hC dX12_place_83 ?_
      refine S_iaload (pc := 84) hC dX12_place_84 ?_
      refine S_iadd (pc := 85) hC dX12_place_85 ?_
      refine S_bipush (pc := 86) hC dX12_place_86 (by decide) ?_
      refine S_imul (pc := 88) hC dX12_place_88 ?_
      refine S_aload_n (pc := 89) hC dX12_place_89 rfl ?_
      refine S_getR (pc := 90) hC cfX12 (by decide) (Or.inr ⟨_, rfl⟩) wd_1211 dX12_place_90 ?_
      refine S_bipush (pc := 93) hC dX12_place_93 (by decide) ?_
      refine S_iload (pc := 95) hC dX12_place_95 ?_
      refine S_imul (pc := 97) hC dX12_place_97 ?_
      refine S_iload (pc := 98) hC dX12_place_98 ?_
      refine S_iadd (pc := 100) hC dX12_place_100 ?_
      refine S_iaload (pc := 101) hC dX12_place_101 ?_
      refine S_iadd (pc := 102) hC dX12_place_102 ?_
      refine S_imul (pc := 103) hC dX12_place_103 ?_
      refine S_iload (pc := 104) hC dX12_place_104 ?_
      refine S_if_eq (pc := 106) (tgt := 113) hC dX12_place_106 (by decide) ?_ ?_
      · refine S_iconst (pc := 113) hC dX12_place_113 (by decide) ?_
        exact hJ 114
      · refine S_iconst (pc := 109) hC dX12_place_109 (by decide) ?_
        refine S_goto (pc := 110) (tgt := 114) hC dX12_place_110 (by decide) ?_
        exact hJ 114
    · refine S_iinc (pc := 39) hC dX12_place_39 (by decide) (by decide) ?_
      refine S_goto (pc := 42) (tgt := 16) hC dX12_place_42 (by decide) ?_
      exact hJ 16
  have hB114 : zin 9 [] (aX12_place_114 mc ms X Q) X 114 := by
    intro u v vs st M hb
    rw [hXe]
    refine fun lv hp => S_block (L := 114) (live := []) ?_ u v lv vs st M hp hb
    unfold aX12_place_114
    refine S_iadd (pc := 114) hC dX12_place_114 ?_
    exact S_ireturn (pc := 115) hC hr dX12_place_115
  have := h.2 X hB0 hB11 hB16 hB114
  rw [hXe] at this
  exact this lv hlv
theorem vX12_place_0 {mc ms : Nat} {X : Nat → zV} {Q : zQt} {M : zM} {x1 : Int32} {x2 : Int32} {x3 : Int32} {x4 : Int32} {x5 : Int32} (hW : zFix M)  (h : (x1 = (1 : Int32) → X 11 0 0 [.ref 71, .int x2, .int x3, .int x4, .int x5] [.int 64] M) ∧ (¬ x1 = (1 : Int32) → X 11 0 0 [.ref 71, .int x2, .int x3, .int x4, .int x5] [.int 0] M)) : aX12_place_0 mc ms X Q 0 0 [some (.ref 71), some (.int x1), some (.int x2), some (.int x3), some (.int x4), some (.int x5), none, none, none] [] M := ⟨fun c2 => (h.1 c2), fun c2 => (h.2 c2)⟩
theorem vX12_place_11 {mc ms : Nat} {X : Nat → zV} {Q : zQt} {M : zM} {x2 : Int32} {x3 : Int32} {x4 : Int32} {x5 : Int32} {s0 : Int32} (hW : zFix M)  (h : X 16 0 0 [.ref 71, .int x2, .int x3, .int x4, .int x5, .int s0, .int 0] [] M) : aX12_place_11 mc ms X Q 0 0 [some (.ref 71), none, some (.int x2), some (.int x3), some (.int x4), some (.int x5), none, none, none] [.int s0] M := h
theorem vcX12_place_67 {mc ms : Nat} {X : Nat → zV} {Q : zQt} {M : zM} {x2 : Int32} {x3 : Int32} {x4 : Int32} {x5 : Int32} {x6 : Int32} {x7 : Int32} {x8 : Int32} (hW : zFix M)  (h : vp_in ((((64 : Int32) * x7) + x3)) 512 ∧ vp_in ((((64 : Int32) * x7) + x4)) 512 ∧ (x5 = 0 → X 114 0 0 [] [.int 0, .int ((2 : Int32) * ((((x8 * (64 : Int32)) + ((M : zM).1 74 ((((64 : Int32) * x7) + x3) : Int32).toNatClampNeg)) * (64 : Int32)) + ((M : zM).1 74 ((((64 : Int32) * x7) + x4) : Int32).toNatClampNeg)))] M) ∧ (¬ x5 = 0 → X 114 0 0 [] [.int 1, .int ((2 : Int32) * ((((x8 * (64 : Int32)) + ((M : zM).1 74 ((((64 : Int32) * x7) + x3) : Int32).toNatClampNeg)) * (64 : Int32)) + ((M : zM).1 74 ((((64 : Int32) * x7) + x4) : Int32).toNatClampNeg)))] M)) : kX12_place_67 mc ms X Q 0 0 [some (.ref 71), none, some (.int x2), some (.int x3), some (.int x4), some (.int x5), some (.int x6), some (.int x7), some (.int x8)] [] M := ⟨(fxs_71 hW), 74, (fxr_71_9 hW), ⟨512, (fxs_74 hW), h.1, ⟨(fxs_71 hW), 74, (fxr_71_9 hW), ⟨512, (fxs_74 hW), h.2.1, ⟨fun c106 => (h.2.2.1 c106), fun c106 => (h.2.2.2 c106)⟩⟩⟩⟩⟩
theorem vX12_place_16 {mc ms : Nat} {X : Nat → zV} {Q : zQt} {M : zM} {x2 : Int32} {x3 : Int32} {x4 : Int32} {x5 : Int32} {x6 : Int32} {x7 : Int32} (hW : zFix M)  (h : vp_in ((((64 : Int32) * x7) + x2)) 512 ∧ vp_in ((x6 + ((M : zM).1 74 ((((64 : Int32) * x7) + x2) : Int32).toNatClampNeg))) 128 ∧ (0 ≤ ((M : zM).1 75 ((x6 + ((M : zM).1 74 ((((64 : Int32) * x7) + x2) : Int32).toNatClampNeg)) : Int32).toNatClampNeg) → vp_in ((((64 : Int32) * x7) + x2)) 512 ∧ vp_in ((x6 + ((M : zM).1 74 ((((64 : Int32) * x7) + x2) : Int32).toNatClampNeg))) 128 ∧ ∀ y65 : Int32, y65 = ((M : zM).1 75 ((x6 + ((M : zM).1 74 ((((64 : Int32) * x7) + x2) : Int32).toNatClampNeg)) : Int32).toNatClampNeg) → vp_in ((((64 : Int32) * x7) + x3)) 512 ∧ vp_in ((((64 : Int32) * x7) + x4)) 512 ∧ (x5 = 0 → X 114 0 0 [] [.int 0, .int ((2 : Int32) * ((((y65 * (64 : Int32)) + ((M : zM).1 74 ((((64 : Int32) * x7) + x3) : Int32).toNatClampNeg)) * (64 : Int32)) + ((M : zM).1 74 ((((64 : Int32) * x7) + x4) : Int32).toNatClampNeg)))] M) ∧ (¬ x5 = 0 → X 114 0 0 [] [.int 1, .int ((2 : Int32) * ((((y65 * (64 : Int32)) + ((M : zM).1 74 ((((64 : Int32) * x7) + x3) : Int32).toNatClampNeg)) * (64 : Int32)) + ((M : zM).1 74 ((((64 : Int32) * x7) + x4) : Int32).toNatClampNeg)))] M)) ∧ (¬ 0 ≤ ((M : zM).1 75 ((x6 + ((M : zM).1 74 ((((64 : Int32) * x7) + x2) : Int32).toNatClampNeg)) : Int32).toNatClampNeg) → X 16 0 0 [.ref 71, .int x2, .int x3, .int x4, .int x5, .int x6, .int (x7 + 1)] [] M)) : aX12_place_16 mc ms X Q 0 0 [some (.ref 71), none, some (.int x2), some (.int x3), some (.int x4), some (.int x5), some (.int x6), some (.int x7), none] [] M := ⟨(fxs_71 hW), 75, (fxr_71_10 hW), ⟨(fxs_71 hW), 74, (fxr_71_9 hW), ⟨512, (fxs_74 hW), h.1, ⟨128, (fxs_75 hW), h.2.1, ⟨fun c36 => ⟨(fxs_71 hW), 75, (fxr_71_10 hW), ⟨(fxs_71 hW), 74, (fxr_71_9 hW), ⟨512, (fxs_74 hW), (h.2.2.1 c36).1, ⟨128, (fxs_75 hW), (h.2.2.1 c36).2.1, (fun y65 e65 => have h65 := (h.2.2.1 c36).2.2 y65 e65; (vcX12_place_67 hW  h65))⟩⟩⟩⟩, fun c36 => (h.2.2.2 c36)⟩⟩⟩⟩⟩
theorem vX12_place_114 {mc ms : Nat} {X : Nat → zV} {Q : zQt} {M : zM} {s0 : Int32} {s1 : Int32} (hW : zFix M)  (h : Q (some (.int ((s1 + s0)))) M) : aX12_place_114 mc ms X Q 0 0 [none, none, none, none, none, none, none, none, none] [.int s0, .int s1] M := h
theorem dX12_newRow_0 : decode cX12_newRow 0 = .ok (.iconst 0, 1) := by decide +kernel
theorem dX12_newRow_1 : decode cX12_newRow 1 = .ok (.istore_n 2, 1) := by decide +kernel
theorem dX12_newRow_2 : decode cX12_newRow 2 = .ok (.iconst 0, 1) := by decide +kernel
theorem dX12_newRow_3 : decode cX12_newRow 3 = .ok (.istore_n 3, 1) := by decide +kernel
theorem dX12_newRow_4 : decode cX12_newRow 4 = .ok (.iload_n 3, 1) := by decide +kernel
theorem dX12_newRow_5 : decode cX12_newRow 5 = .ok (.bipush 64, 2) := by decide +kernel
theorem dX12_newRow_7 : decode cX12_newRow 7 = .ok (.if_icmp .ge 44, 3) := by decide +kernel
theorem dX12_newRow_10 : decode cX12_newRow 10 = .ok (.aload_n 0, 1) := by decide +kernel
theorem dX12_newRow_11 : decode cX12_newRow 11 = .ok (.getfield 29, 3) := by decide +kernel
theorem dX12_newRow_14 : decode cX12_newRow 14 = .ok (.iload_n 1, 1) := by decide +kernel
theorem dX12_newRow_15 : decode cX12_newRow 15 = .ok (.iconst 1, 1) := by decide +kernel
theorem dX12_newRow_16 : decode cX12_newRow 16 = .ok (.if_icmp .ne 10, 3) := by decide +kernel
theorem dX12_newRow_19 : decode cX12_newRow 19 = .ok (.bipush 64, 2) := by decide +kernel
theorem dX12_newRow_21 : decode cX12_newRow 21 = .ok (.iload_n 3, 1) := by decide +kernel
theorem dX12_newRow_22 : decode cX12_newRow 22 = .ok (.iadd, 1) := by decide +kernel
theorem dX12_newRow_23 : decode cX12_newRow 23 = .ok (.goto 4, 3) := by decide +kernel
theorem dX12_newRow_26 : decode cX12_newRow 26 = .ok (.iload_n 3, 1) := by decide +kernel
theorem dX12_newRow_27 : decode cX12_newRow 27 = .ok (.iaload, 1) := by decide +kernel
theorem dX12_newRow_28 : decode cX12_newRow 28 = .ok (.istore 4, 2) := by decide +kernel
theorem dX12_newRow_30 : decode cX12_newRow 30 = .ok (.iload 4, 2) := by decide +kernel
theorem dX12_newRow_32 : decode cX12_newRow 32 = .ok (.iload_n 2, 1) := by decide +kernel
theorem dX12_newRow_33 : decode cX12_newRow 33 = .ok (.if_icmp .lt 10, 3) := by decide +kernel
theorem dX12_newRow_36 : decode cX12_newRow 36 = .ok (.iload 4, 2) := by decide +kernel
theorem dX12_newRow_38 : decode cX12_newRow 38 = .ok (.iconst 1, 1) := by decide +kernel
theorem dX12_newRow_39 : decode cX12_newRow 39 = .ok (.iadd, 1) := by decide +kernel
theorem dX12_newRow_40 : decode cX12_newRow 40 = .ok (.goto 4, 3) := by decide +kernel
theorem dX12_newRow_43 : decode cX12_newRow 43 = .ok (.iload_n 2, 1) := by decide +kernel
theorem dX12_newRow_44 : decode cX12_newRow 44 = .ok (.istore_n 2, 1) := by decide +kernel
theorem dX12_newRow_45 : decode cX12_newRow 45 = .ok (.iinc 3 1, 3) := by decide +kernel
theorem dX12_newRow_48 : decode cX12_newRow 48 = .ok (.goto (-44), 3) := by decide +kernel
theorem dX12_newRow_51 : decode cX12_newRow 51 = .ok (.iconst 2, 1) := by decide +kernel
theorem dX12_newRow_52 : decode cX12_newRow 52 = .ok (.iload_n 2, 1) := by decide +kernel
theorem dX12_newRow_53 : decode cX12_newRow 53 = .ok (.imul, 1) := by decide +kernel
theorem dX12_newRow_54 : decode cX12_newRow 54 = .ok (.bipush 64, 2) := by decide +kernel
theorem dX12_newRow_56 : decode cX12_newRow 56 = .ok (.imul, 1) := by decide +kernel
theorem dX12_newRow_57 : decode cX12_newRow 57 = .ok (.bipush 64, 2) := by decide +kernel
theorem dX12_newRow_59 : decode cX12_newRow 59 = .ok (.imul, 1) := by decide +kernel
theorem dX12_newRow_60 : decode cX12_newRow 60 = .ok (.ireturn, 1) := by decide +kernel
def kX12_newRow_30 (mc ms : Nat) (X : Nat → zV) (Q : zQt) : zT :=
  zli 4 <| zli 2 <| zic (fun x y => x < y) (zli 2 <| zj X 44 [0, 1, 3]) <| zli 4 <| zc (.int 1) <| zii (fun x y => x + y) <| zj X 44 [0, 1, 3]
def aX12_newRow_0 (mc ms : Nat) (X : Nat → zV) (Q : zQt) : zT :=
  zc (.int 0) <| zsi 2 <| zc (.int 0) <| zsi 3 <| zj X 4 [0, 1, 2, 3]
def aX12_newRow_4 (mc ms : Nat) (X : Nat → zV) (Q : zQt) : zT :=
  zli 3 <| zc (.int 64) <| zic (fun x y => y ≤ x) (zc (.int 2) <| zli 2 <| zii (fun x y => x * y) <| zc (.int 64) <| zii (fun x y => x * y) <| zc (.int 64) <| zii (fun x y => x * y) <| zri Q) <| zla 0 <| zgR 12 10 <| zli 1 <| zc (.int 1) <| zic (fun x y => x = y) (zc (.int 64) <| zli 3 <| zii (fun x y => x + y) <| zj X 27 [0, 1, 2, 3]) <| zli 3 <| zj X 27 [0, 1, 2, 3]
def aX12_newRow_27 (mc ms : Nat) (X : Nat → zV) (Q : zQt) : zT :=
  zal 1 <| zsiN 4 <| kX12_newRow_30 mc ms X Q
def aX12_newRow_44 (mc ms : Nat) (X : Nat → zV) (Q : zQt) : zT :=
  zsi 2 <| zinc 3 1 <| zj X 4 [0, 1, 2, 3]
def lvX12_newRow : Nat → List Nat := fun L => match L with
  | 0 => [0, 1]
  | 4 => [0, 1, 2, 3]
  | 27 => [0, 1, 2, 3]
  | 44 => [0, 1, 3]
  | _ => []
def wX12_newRow : zSp := fun mc ms av M Q => ((zlay av).length ≤ 5 ∧ zpick (zlay av) [0, 1] = some av) ∧ ∀ X : Nat → zV, zin 5 [0, 1] (aX12_newRow_0 mc ms X Q) X 0 → zin 5 [0, 1, 2, 3] (aX12_newRow_4 mc ms X Q) X 4 → zin 5 [0, 1, 2, 3] (aX12_newRow_27 mc ms X Q) X 27 → zin 5 [0, 1, 3] (aX12_newRow_44 mc ms X Q) X 44 → X 0 0 0 av [] M
set_option maxRecDepth 100000 in
set_option maxHeartbeats 4000000 in
theorem sX12_newRow (l : Launch) (G : zG) : zSnd l G yX12_newRow cX12_newRow 5 (some .int) 0 0 wX12_newRow := by
  refine zmk [0, 1] (by decide) (fun mc ms av M Q h => h.1) ?_
  intro p e R s m args below meth c mc ms av M Q hC hRf hRl hr hnm h lv hlv
  obtain ⟨X, hXe⟩ : ∃ X : Nat → zV, X = fun L u v vs st M => ∀ lv, zpick lv (lvX12_newRow L) = some vs → zAt p l e R s m args below meth c (MQ below (zQ G Q) args s mc ms (zA G)) G 5 L u v lv st M := ⟨_, rfl⟩
  have hJ : ∀ L, zOk p l e R s m args below meth c (MQ below (zQ G Q) args s mc ms (zA G)) G 5 L (zj X L (lvX12_newRow L)) := fun L => S_jump (fun u v lv vs st M hp hx => by rw [hXe] at hx; exact hx lv hp)
  have hB0 : zin 5 [0, 1] (aX12_newRow_0 mc ms X Q) X 0 := by
    intro u v vs st M hb
    rw [hXe]
    refine fun lv hp => S_block (L := 0) (live := [0, 1]) ?_ u v lv vs st M hp hb
    unfold aX12_newRow_0
    refine S_iconst (pc := 0) hC dX12_newRow_0 (by decide) ?_
    refine S_istore_n (pc := 1) hC dX12_newRow_1 rfl (by decide) ?_
    refine S_iconst (pc := 2) hC dX12_newRow_2 (by decide) ?_
    refine S_istore_n (pc := 3) hC dX12_newRow_3 rfl (by decide) ?_
    exact hJ 4
  have hB4 : zin 5 [0, 1, 2, 3] (aX12_newRow_4 mc ms X Q) X 4 := by
    intro u v vs st M hb
    rw [hXe]
    refine fun lv hp => S_block (L := 4) (live := [0, 1, 2, 3]) ?_ u v lv vs st M hp hb
    unfold aX12_newRow_4
    refine S_iload_n (pc := 4) hC dX12_newRow_4 rfl ?_
    refine S_bipush (pc := 5) hC dX12_newRow_5 (by decide) ?_
    refine S_icmp_ge (pc := 7) (tgt := 51) hC dX12_newRow_7 (by decide) ?_ ?_
    · refine S_iconst (pc := 51) hC dX12_newRow_51 (by decide) ?_
      refine S_iload_n (pc := 52) hC dX12_newRow_52 rfl ?_
      refine S_imul (pc := 53) hC dX12_newRow_53 ?_
      refine S_bipush (pc := 54) hC dX12_newRow_54 (by decide) ?_
      refine S_imul (pc := 56) hC dX12_newRow_56 ?_
      refine S_bipush (pc := 57) hC dX12_newRow_57 (by decide) ?_
      refine S_imul (pc := 59) hC dX12_newRow_59 ?_
      exact S_ireturn (pc := 60) hC hr dX12_newRow_60
    · refine S_aload_n (pc := 10) hC dX12_newRow_10 rfl ?_
      refine S_getR (pc := 11) hC cfX12 (by decide) (Or.inr ⟨_, rfl⟩) wd_1212 dX12_newRow_11 ?_
      refine S_iload_n (pc := 14) hC dX12_newRow_14 rfl ?_
      refine S_iconst (pc := 15) hC dX12_newRow_15 (by decide) ?_
      refine S_icmp_ne (pc := 16) (tgt := 26) hC dX12_newRow_16 (by decide) ?_ ?_
      · refine S_iload_n (pc := 26) hC dX12_newRow_26 rfl ?_
        exact hJ 27
      · refine S_bipush (pc := 19) hC dX12_newRow_19 (by decide) ?_
        refine S_iload_n (pc := 21) hC dX12_newRow_21 rfl ?_
        refine S_iadd (pc := 22) hC dX12_newRow_22 ?_
        refine S_goto (pc := 23) (tgt := 27) hC dX12_newRow_23 (by decide) ?_
        exact hJ 27
  have hB27 : zin 5 [0, 1, 2, 3] (aX12_newRow_27 mc ms X Q) X 27 := by
    intro u v vs st M hb
    rw [hXe]
    refine fun lv hp => S_block (L := 27) (live := [0, 1, 2, 3]) ?_ u v lv vs st M hp hb
    unfold aX12_newRow_27
    refine S_iaload (pc := 27) hC dX12_newRow_27 ?_
    refine S_istore_N (pc := 28) hC dX12_newRow_28 (by decide) ?_
    unfold kX12_newRow_30
    refine S_iload (pc := 30) hC dX12_newRow_30 ?_
    refine S_iload_n (pc := 32) hC dX12_newRow_32 rfl ?_
    refine S_icmp_lt (pc := 33) (tgt := 43) hC dX12_newRow_33 (by decide) ?_ ?_
    · refine S_iload_n (pc := 43) hC dX12_newRow_43 rfl ?_
      exact hJ 44
    · refine S_iload (pc := 36) hC dX12_newRow_36 ?_
      refine S_iconst (pc := 38) hC dX12_newRow_38 (by decide) ?_
      refine S_iadd (pc := 39) hC dX12_newRow_39 ?_
      refine S_goto (pc := 40) (tgt := 44) hC dX12_newRow_40 (by decide) ?_
      exact hJ 44
  have hB44 : zin 5 [0, 1, 3] (aX12_newRow_44 mc ms X Q) X 44 := by
    intro u v vs st M hb
    rw [hXe]
    refine fun lv hp => S_block (L := 44) (live := [0, 1, 3]) ?_ u v lv vs st M hp hb
    unfold aX12_newRow_44
    refine S_istore_n (pc := 44) hC dX12_newRow_44 rfl (by decide) ?_
    refine S_iinc (pc := 45) hC dX12_newRow_45 (by decide) (by decide) ?_
    refine S_goto (pc := 48) (tgt := 4) hC dX12_newRow_48 (by decide) ?_
    exact hJ 4
  have := h.2 X hB0 hB4 hB27 hB44
  rw [hXe] at this
  exact this lv hlv
theorem vX12_newRow_0 {mc ms : Nat} {X : Nat → zV} {Q : zQt} {M : zM} {x1 : Int32} (hW : zFix M)  (h : X 4 0 0 [.ref 71, .int x1, .int 0, .int 0] [] M) : aX12_newRow_0 mc ms X Q 0 0 [some (.ref 71), some (.int x1), none, none, none] [] M := h
theorem vX12_newRow_4 {mc ms : Nat} {X : Nat → zV} {Q : zQt} {M : zM} {x1 : Int32} {x2 : Int32} {x3 : Int32} (hW : zFix M)  (h : ((64 : Int32) ≤ x3 → Q (some (.int (((((2 : Int32) * x2) * (64 : Int32)) * (64 : Int32))))) M) ∧ (¬ (64 : Int32) ≤ x3 → (x1 = (1 : Int32) → X 27 0 0 [.ref 71, .int x1, .int x2, .int x3] [.int ((64 : Int32) + x3), .ref 75] M) ∧ (¬ x1 = (1 : Int32) → X 27 0 0 [.ref 71, .int x1, .int x2, .int x3] [.int x3, .ref 75] M))) : aX12_newRow_4 mc ms X Q 0 0 [some (.ref 71), some (.int x1), some (.int x2), some (.int x3), none] [] M := ⟨fun c7 => (h.1 c7), fun c7 => ⟨(fxs_71 hW), 75, (fxr_71_10 hW), ⟨fun c16 => ((h.2 c7).1 c16), fun c16 => ((h.2 c7).2 c16)⟩⟩⟩
theorem vcX12_newRow_30 {mc ms : Nat} {X : Nat → zV} {Q : zQt} {M : zM} {x1 : Int32} {x2 : Int32} {x3 : Int32} {x4 : Int32} (hW : zFix M)  (h : (x4 < x2 → X 44 0 0 [.ref 71, .int x1, .int x3] [.int x2] M) ∧ (¬ x4 < x2 → X 44 0 0 [.ref 71, .int x1, .int x3] [.int (x4 + (1 : Int32))] M)) : kX12_newRow_30 mc ms X Q 0 0 [some (.ref 71), some (.int x1), some (.int x2), some (.int x3), some (.int x4)] [] M := ⟨fun c33 => (h.1 c33), fun c33 => (h.2 c33)⟩
theorem vX12_newRow_27 {mc ms : Nat} {X : Nat → zV} {Q : zQt} {M : zM} {x1 : Int32} {x2 : Int32} {x3 : Int32} {s0 : Int32} (hW : zFix M)  (h : vp_in s0 128 ∧ ∀ y28 : Int32, y28 = ((M : zM).1 75 (s0 : Int32).toNatClampNeg) → (y28 < x2 → X 44 0 0 [.ref 71, .int x1, .int x3] [.int x2] M) ∧ (¬ y28 < x2 → X 44 0 0 [.ref 71, .int x1, .int x3] [.int (y28 + (1 : Int32))] M)) : aX12_newRow_27 mc ms X Q 0 0 [some (.ref 71), some (.int x1), some (.int x2), some (.int x3), none] [.int s0, .ref 75] M := ⟨128, (fxs_75 hW), h.1, (fun y28 e28 => have h28 := h.2 y28 e28; (vcX12_newRow_30 hW  h28))⟩
theorem vX12_newRow_44 {mc ms : Nat} {X : Nat → zV} {Q : zQt} {M : zM} {x1 : Int32} {x3 : Int32} {s0 : Int32} (hW : zFix M)  (h : X 4 0 0 [.ref 71, .int x1, .int s0, .int (x3 + 1)] [] M) : aX12_newRow_44 mc ms X Q 0 0 [some (.ref 71), some (.int x1), none, some (.int x3), none] [.int s0] M := h
theorem dX12_turn_0 : decode cX12_turn 0 = .ok (.iconst 0, 1) := by decide +kernel
theorem dX12_turn_1 : decode cX12_turn 1 = .ok (.istore_n 1, 1) := by decide +kernel
theorem dX12_turn_2 : decode cX12_turn 2 = .ok (.iconst 0, 1) := by decide +kernel
theorem dX12_turn_3 : decode cX12_turn 3 = .ok (.istore_n 2, 1) := by decide +kernel
theorem dX12_turn_4 : decode cX12_turn 4 = .ok (.iconst 0, 1) := by decide +kernel
theorem dX12_turn_5 : decode cX12_turn 5 = .ok (.istore_n 3, 1) := by decide +kernel
theorem dX12_turn_6 : decode cX12_turn 6 = .ok (.iload_n 3, 1) := by decide +kernel
theorem dX12_turn_7 : decode cX12_turn 7 = .ok (.bipush 64, 2) := by decide +kernel
theorem dX12_turn_9 : decode cX12_turn 9 = .ok (.if_icmp .ge 209, 3) := by decide +kernel
theorem dX12_turn_12 : decode cX12_turn 12 = .ok (.iload_n 3, 1) := by decide +kernel
theorem dX12_turn_13 : decode cX12_turn 13 = .ok (.bipush 8, 2) := by decide +kernel
theorem dX12_turn_15 : decode cX12_turn 15 = .ok (.irem, 1) := by decide +kernel
theorem dX12_turn_16 : decode cX12_turn 16 = .ok (.istore 4, 2) := by decide +kernel
theorem dX12_turn_18 : decode cX12_turn 18 = .ok (.iload_n 3, 1) := by decide +kernel
theorem dX12_turn_19 : decode cX12_turn 19 = .ok (.bipush 8, 2) := by decide +kernel
theorem dX12_turn_21 : decode cX12_turn 21 = .ok (.idiv, 1) := by decide +kernel
theorem dX12_turn_22 : decode cX12_turn 22 = .ok (.istore 5, 2) := by decide +kernel
theorem dX12_turn_24 : decode cX12_turn 24 = .ok (.iconst 0, 1) := by decide +kernel
theorem dX12_turn_25 : decode cX12_turn 25 = .ok (.istore 6, 2) := by decide +kernel
theorem dX12_turn_27 : decode cX12_turn 27 = .ok (.iload 6, 2) := by decide +kernel
theorem dX12_turn_29 : decode cX12_turn 29 = .ok (.bipush 8, 2) := by decide +kernel
theorem dX12_turn_31 : decode cX12_turn 31 = .ok (.if_icmp .ge 85, 3) := by decide +kernel
theorem dX12_turn_34 : decode cX12_turn 34 = .ok (.iload 6, 2) := by decide +kernel
theorem dX12_turn_36 : decode cX12_turn 36 = .ok (.iconst 1, 1) := by decide +kernel
theorem dX12_turn_37 : decode cX12_turn 37 = .ok (.iand, 1) := by decide +kernel
theorem dX12_turn_38 : decode cX12_turn 38 = .ok (.ifCond .ne 8, 3) := by decide +kernel
theorem dX12_turn_41 : decode cX12_turn 41 = .ok (.iload 4, 2) := by decide +kernel
theorem dX12_turn_43 : decode cX12_turn 43 = .ok (.goto 8, 3) := by decide +kernel
theorem dX12_turn_46 : decode cX12_turn 46 = .ok (.bipush 7, 2) := by decide +kernel
theorem dX12_turn_48 : decode cX12_turn 48 = .ok (.iload 4, 2) := by decide +kernel
theorem dX12_turn_50 : decode cX12_turn 50 = .ok (.isub, 1) := by decide +kernel
theorem dX12_turn_51 : decode cX12_turn 51 = .ok (.istore 7, 2) := by decide +kernel
theorem dX12_turn_53 : decode cX12_turn 53 = .ok (.iload 6, 2) := by decide +kernel
theorem dX12_turn_55 : decode cX12_turn 55 = .ok (.iconst 2, 1) := by decide +kernel
theorem dX12_turn_56 : decode cX12_turn 56 = .ok (.iand, 1) := by decide +kernel
theorem dX12_turn_57 : decode cX12_turn 57 = .ok (.ifCond .ne 8, 3) := by decide +kernel
theorem dX12_turn_60 : decode cX12_turn 60 = .ok (.iload 5, 2) := by decide +kernel
theorem dX12_turn_62 : decode cX12_turn 62 = .ok (.goto 8, 3) := by decide +kernel
theorem dX12_turn_65 : decode cX12_turn 65 = .ok (.bipush 7, 2) := by decide +kernel
theorem dX12_turn_67 : decode cX12_turn 67 = .ok (.iload 5, 2) := by decide +kernel
theorem dX12_turn_69 : decode cX12_turn 69 = .ok (.isub, 1) := by decide +kernel
theorem dX12_turn_70 : decode cX12_turn 70 = .ok (.istore 8, 2) := by decide +kernel
theorem dX12_turn_72 : decode cX12_turn 72 = .ok (.aload_n 0, 1) := by decide +kernel
theorem dX12_turn_73 : decode cX12_turn 73 = .ok (.getfield 26, 3) := by decide +kernel
theorem dX12_turn_76 : decode cX12_turn 76 = .ok (.bipush 64, 2) := by decide +kernel
theorem dX12_turn_78 : decode cX12_turn 78 = .ok (.iload 6, 2) := by decide +kernel
theorem dX12_turn_80 : decode cX12_turn 80 = .ok (.imul, 1) := by decide +kernel
theorem dX12_turn_81 : decode cX12_turn 81 = .ok (.iload_n 3, 1) := by decide +kernel
theorem dX12_turn_82 : decode cX12_turn 82 = .ok (.iadd, 1) := by decide +kernel
theorem dX12_turn_83 : decode cX12_turn 83 = .ok (.iload 6, 2) := by decide +kernel
theorem dX12_turn_85 : decode cX12_turn 85 = .ok (.iconst 4, 1) := by decide +kernel
theorem dX12_turn_86 : decode cX12_turn 86 = .ok (.iand, 1) := by decide +kernel
theorem dX12_turn_87 : decode cX12_turn 87 = .ok (.ifCond .ne 14, 3) := by decide +kernel
theorem dX12_turn_90 : decode cX12_turn 90 = .ok (.bipush 8, 2) := by decide +kernel
theorem dX12_turn_92 : decode cX12_turn 92 = .ok (.iload 8, 2) := by decide +kernel
theorem dX12_turn_94 : decode cX12_turn 94 = .ok (.imul, 1) := by decide +kernel
theorem dX12_turn_95 : decode cX12_turn 95 = .ok (.iload 7, 2) := by decide +kernel
theorem dX12_turn_97 : decode cX12_turn 97 = .ok (.iadd, 1) := by decide +kernel
theorem dX12_turn_98 : decode cX12_turn 98 = .ok (.goto 11, 3) := by decide +kernel
theorem dX12_turn_101 : decode cX12_turn 101 = .ok (.bipush 8, 2) := by decide +kernel
theorem dX12_turn_103 : decode cX12_turn 103 = .ok (.iload 7, 2) := by decide +kernel
theorem dX12_turn_105 : decode cX12_turn 105 = .ok (.imul, 1) := by decide +kernel
theorem dX12_turn_106 : decode cX12_turn 106 = .ok (.iload 8, 2) := by decide +kernel
theorem dX12_turn_108 : decode cX12_turn 108 = .ok (.iadd, 1) := by decide +kernel
theorem dX12_turn_109 : decode cX12_turn 109 = .ok (.iastore, 1) := by decide +kernel
theorem dX12_turn_110 : decode cX12_turn 110 = .ok (.iinc 6 1, 3) := by decide +kernel
theorem dX12_turn_113 : decode cX12_turn 113 = .ok (.goto (-86), 3) := by decide +kernel
theorem dX12_turn_116 : decode cX12_turn 116 = .ok (.iconst 2, 1) := by decide +kernel
theorem dX12_turn_117 : decode cX12_turn 117 = .ok (.iload 4, 2) := by decide +kernel
theorem dX12_turn_119 : decode cX12_turn 119 = .ok (.imul, 1) := by decide +kernel
theorem dX12_turn_120 : decode cX12_turn 120 = .ok (.bipush 8, 2) := by decide +kernel
theorem dX12_turn_122 : decode cX12_turn 122 = .ok (.if_icmp .ge 7, 3) := by decide +kernel
theorem dX12_turn_125 : decode cX12_turn 125 = .ok (.iconst 1, 1) := by decide +kernel
theorem dX12_turn_126 : decode cX12_turn 126 = .ok (.goto 4, 3) := by decide +kernel
theorem dX12_turn_129 : decode cX12_turn 129 = .ok (.iconst 0, 1) := by decide +kernel
theorem dX12_turn_130 : decode cX12_turn 130 = .ok (.istore 6, 2) := by decide +kernel
theorem dX12_turn_132 : decode cX12_turn 132 = .ok (.iload 6, 2) := by decide +kernel
theorem dX12_turn_134 : decode cX12_turn 134 = .ok (.ifCond .eq 14, 3) := by decide +kernel
theorem dX12_turn_137 : decode cX12_turn 137 = .ok (.iload 5, 2) := by decide +kernel
theorem dX12_turn_139 : decode cX12_turn 139 = .ok (.iload 4, 2) := by decide +kernel
theorem dX12_turn_141 : decode cX12_turn 141 = .ok (.if_icmp .gt 7, 3) := by decide +kernel
theorem dX12_turn_144 : decode cX12_turn 144 = .ok (.iconst 1, 1) := by decide +kernel
theorem dX12_turn_145 : decode cX12_turn 145 = .ok (.goto 4, 3) := by decide +kernel
theorem dX12_turn_148 : decode cX12_turn 148 = .ok (.iconst 0, 1) := by decide +kernel
theorem dX12_turn_149 : decode cX12_turn 149 = .ok (.istore 7, 2) := by decide +kernel
theorem dX12_turn_151 : decode cX12_turn 151 = .ok (.aload_n 0, 1) := by decide +kernel
theorem dX12_turn_152 : decode cX12_turn 152 = .ok (.getfield 29, 3) := by decide +kernel
theorem dX12_turn_155 : decode cX12_turn 155 = .ok (.iload_n 3, 1) := by decide +kernel
theorem dX12_turn_156 : decode cX12_turn 156 = .ok (.iload 7, 2) := by decide +kernel
theorem dX12_turn_158 : decode cX12_turn 158 = .ok (.ifCond .eq 7, 3) := by decide +kernel
theorem dX12_turn_161 : decode cX12_turn 161 = .ok (.iload_n 1, 1) := by decide +kernel
theorem dX12_turn_162 : decode cX12_turn 162 = .ok (.goto 4, 3) := by decide +kernel
theorem dX12_turn_165 : decode cX12_turn 165 = .ok (.iconst (-1), 1) := by decide +kernel
theorem dX12_turn_166 : decode cX12_turn 166 = .ok (.iastore, 1) := by decide +kernel
theorem dX12_turn_167 : decode cX12_turn 167 = .ok (.iload_n 1, 1) := by decide +kernel
theorem dX12_turn_168 : decode cX12_turn 168 = .ok (.iload 7, 2) := by decide +kernel
theorem dX12_turn_170 : decode cX12_turn 170 = .ok (.ifCond .eq 7, 3) := by decide +kernel
theorem dX12_turn_173 : decode cX12_turn 173 = .ok (.iconst 1, 1) := by decide +kernel
theorem dX12_turn_174 : decode cX12_turn 174 = .ok (.goto 4, 3) := by decide +kernel
theorem dX12_turn_177 : decode cX12_turn 177 = .ok (.iconst 0, 1) := by decide +kernel
theorem dX12_turn_178 : decode cX12_turn 178 = .ok (.iadd, 1) := by decide +kernel
theorem dX12_turn_179 : decode cX12_turn 179 = .ok (.istore_n 1, 1) := by decide +kernel
theorem dX12_turn_180 : decode cX12_turn 180 = .ok (.aload_n 0, 1) := by decide +kernel
theorem dX12_turn_181 : decode cX12_turn 181 = .ok (.getfield 29, 3) := by decide +kernel
theorem dX12_turn_184 : decode cX12_turn 184 = .ok (.bipush 64, 2) := by decide +kernel
theorem dX12_turn_186 : decode cX12_turn 186 = .ok (.iload_n 3, 1) := by decide +kernel
theorem dX12_turn_187 : decode cX12_turn 187 = .ok (.iadd, 1) := by decide +kernel
theorem dX12_turn_188 : decode cX12_turn 188 = .ok (.iload 6, 2) := by decide +kernel
theorem dX12_turn_190 : decode cX12_turn 190 = .ok (.ifCond .eq 7, 3) := by decide +kernel
theorem dX12_turn_193 : decode cX12_turn 193 = .ok (.iload_n 2, 1) := by decide +kernel
theorem dX12_turn_194 : decode cX12_turn 194 = .ok (.goto 4, 3) := by decide +kernel
theorem dX12_turn_197 : decode cX12_turn 197 = .ok (.iconst (-1), 1) := by decide +kernel
theorem dX12_turn_198 : decode cX12_turn 198 = .ok (.iastore, 1) := by decide +kernel
theorem dX12_turn_199 : decode cX12_turn 199 = .ok (.iload_n 2, 1) := by decide +kernel
theorem dX12_turn_200 : decode cX12_turn 200 = .ok (.iload 6, 2) := by decide +kernel
theorem dX12_turn_202 : decode cX12_turn 202 = .ok (.ifCond .eq 7, 3) := by decide +kernel
theorem dX12_turn_205 : decode cX12_turn 205 = .ok (.iconst 1, 1) := by decide +kernel
theorem dX12_turn_206 : decode cX12_turn 206 = .ok (.goto 4, 3) := by decide +kernel
theorem dX12_turn_209 : decode cX12_turn 209 = .ok (.iconst 0, 1) := by decide +kernel
theorem dX12_turn_210 : decode cX12_turn 210 = .ok (.iadd, 1) := by decide +kernel
theorem dX12_turn_211 : decode cX12_turn 211 = .ok (.istore_n 2, 1) := by decide +kernel
theorem dX12_turn_212 : decode cX12_turn 212 = .ok (.iinc 3 1, 3) := by decide +kernel
theorem dX12_turn_215 : decode cX12_turn 215 = .ok (.goto (-209), 3) := by decide +kernel
theorem dX12_turn_218 : decode cX12_turn 218 = .ok (.return_, 1) := by decide +kernel
def kX12_turn_18 (mc ms : Nat) (X : Nat → zV) (Q : zQt) : zT :=
  zli 3 <| zc (.int 8) <| zid (fun x y => x / y) <| zsi 5 <| zc (.int 0) <| zsi 6 <| zj X 27 [0, 1, 2, 3, 4, 5, 6]
def aX12_turn_0 (mc ms : Nat) (X : Nat → zV) (Q : zQt) : zT :=
  zc (.int 0) <| zsi 1 <| zc (.int 0) <| zsi 2 <| zc (.int 0) <| zsi 3 <| zj X 6 [0, 1, 2, 3]
def aX12_turn_6 (mc ms : Nat) (X : Nat → zV) (Q : zQt) : zT :=
  zli 3 <| zc (.int 64) <| zic (fun x y => y ≤ x) (zrv Q) <| zli 3 <| zc (.int 8) <| zid (fun x y => x - x / y * y) <| zsiN 4 <| kX12_turn_18 mc ms X Q
def aX12_turn_27 (mc ms : Nat) (X : Nat → zV) (Q : zQt) : zT :=
  zli 6 <| zc (.int 8) <| zic (fun x y => y ≤ x) (zc (.int 2) <| zli 4 <| zii (fun x y => x * y) <| zc (.int 8) <| zic (fun x y => y ≤ x) (zc (.int 0) <| zj X 130 [0, 1, 2, 3, 4, 5]) <| zc (.int 1) <| zj X 130 [0, 1, 2, 3, 4, 5]) <| zli 6 <| zc (.int 1) <| zii (fun x y => x &&& y) <| zif (fun x => x = 0) (zli 4 <| zj X 51 [0, 1, 2, 3, 4, 5, 6]) <| zc (.int 7) <| zli 4 <| zii (fun x y => x - y) <| zj X 51 [0, 1, 2, 3, 4, 5, 6]
def aX12_turn_51 (mc ms : Nat) (X : Nat → zV) (Q : zQt) : zT :=
  zsi 7 <| zli 6 <| zc (.int 2) <| zii (fun x y => x &&& y) <| zif (fun x => x = 0) (zli 5 <| zj X 70 [0, 1, 2, 3, 4, 5, 6, 7]) <| zc (.int 7) <| zli 5 <| zii (fun x y => x - y) <| zj X 70 [0, 1, 2, 3, 4, 5, 6, 7]
def aX12_turn_70 (mc ms : Nat) (X : Nat → zV) (Q : zQt) : zT :=
  zsi 8 <| zla 0 <| zgR 12 9 <| zc (.int 64) <| zli 6 <| zii (fun x y => x * y) <| zli 3 <| zii (fun x y => x + y) <| zli 6 <| zc (.int 4) <| zii (fun x y => x &&& y) <| zif (fun x => x = 0) (zc (.int 8) <| zli 8 <| zii (fun x y => x * y) <| zli 7 <| zii (fun x y => x + y) <| zj X 109 [0, 1, 2, 3, 4, 5, 6]) <| zc (.int 8) <| zli 7 <| zii (fun x y => x * y) <| zli 8 <| zii (fun x y => x + y) <| zj X 109 [0, 1, 2, 3, 4, 5, 6]
def aX12_turn_109 (mc ms : Nat) (X : Nat → zV) (Q : zQt) : zT :=
  zas 1 (fun x => x) <| zinc 6 1 <| zj X 27 [0, 1, 2, 3, 4, 5, 6]
def aX12_turn_130 (mc ms : Nat) (X : Nat → zV) (Q : zQt) : zT :=
  zsi 6 <| zli 6 <| zif (fun x => x = 0) (zj X 148 [0, 1, 2, 3, 6]) <| zli 5 <| zli 4 <| zic (fun x y => y < x) (zj X 148 [0, 1, 2, 3, 6]) <| zc (.int 1) <| zj X 149 [0, 1, 2, 3, 6]
def aX12_turn_148 (mc ms : Nat) (X : Nat → zV) (Q : zQt) : zT :=
  zc (.int 0) <| zj X 149 [0, 1, 2, 3, 6]
def aX12_turn_149 (mc ms : Nat) (X : Nat → zV) (Q : zQt) : zT :=
  zsi 7 <| zla 0 <| zgR 12 10 <| zli 3 <| zli 7 <| zif (fun x => x = 0) (zc (.int (-1)) <| zj X 166 [0, 1, 2, 3, 6, 7]) <| zli 1 <| zj X 166 [0, 1, 2, 3, 6, 7]
def aX12_turn_166 (mc ms : Nat) (X : Nat → zV) (Q : zQt) : zT :=
  zas 1 (fun x => x) <| zli 1 <| zli 7 <| zif (fun x => x = 0) (zc (.int 0) <| zj X 178 [0, 2, 3, 6]) <| zc (.int 1) <| zj X 178 [0, 2, 3, 6]
def aX12_turn_178 (mc ms : Nat) (X : Nat → zV) (Q : zQt) : zT :=
  zii (fun x y => x + y) <| zsi 1 <| zla 0 <| zgR 12 10 <| zc (.int 64) <| zli 3 <| zii (fun x y => x + y) <| zli 6 <| zif (fun x => x = 0) (zc (.int (-1)) <| zj X 198 [0, 1, 2, 3, 6]) <| zli 2 <| zj X 198 [0, 1, 2, 3, 6]
def aX12_turn_198 (mc ms : Nat) (X : Nat → zV) (Q : zQt) : zT :=
  zas 1 (fun x => x) <| zli 2 <| zli 6 <| zif (fun x => x = 0) (zc (.int 0) <| zj X 210 [0, 1, 3]) <| zc (.int 1) <| zj X 210 [0, 1, 3]
def aX12_turn_210 (mc ms : Nat) (X : Nat → zV) (Q : zQt) : zT :=
  zii (fun x y => x + y) <| zsi 2 <| zinc 3 1 <| zj X 6 [0, 1, 2, 3]
def lvX12_turn : Nat → List Nat := fun L => match L with
  | 0 => [0]
  | 6 => [0, 1, 2, 3]
  | 27 => [0, 1, 2, 3, 4, 5, 6]
  | 51 => [0, 1, 2, 3, 4, 5, 6]
  | 70 => [0, 1, 2, 3, 4, 5, 6, 7]
  | 109 => [0, 1, 2, 3, 4, 5, 6]
  | 130 => [0, 1, 2, 3, 4, 5]
  | 148 => [0, 1, 2, 3, 6]
  | 149 => [0, 1, 2, 3, 6]
  | 166 => [0, 1, 2, 3, 6, 7]
  | 178 => [0, 2, 3, 6]
  | 198 => [0, 1, 2, 3, 6]
  | 210 => [0, 1, 3]
  | _ => []
def wX12_turn : zSp := fun mc ms av M Q => ((zlay av).length ≤ 9 ∧ zpick (zlay av) [0] = some av) ∧ ∀ X : Nat → zV, zin 9 [0] (aX12_turn_0 mc ms X Q) X 0 → zin 9 [0, 1, 2, 3] (aX12_turn_6 mc ms X Q) X 6 → zin 9 [0, 1, 2, 3, 4, 5, 6] (aX12_turn_27 mc ms X Q) X 27 → zin 9 [0, 1, 2, 3, 4, 5, 6] (aX12_turn_51 mc ms X Q) X 51 → zin 9 [0, 1, 2, 3, 4, 5, 6, 7] (aX12_turn_70 mc ms X Q) X 70 → zin 9 [0, 1, 2, 3, 4, 5, 6] (aX12_turn_109 mc ms X Q) X 109 → zin 9 [0, 1, 2, 3, 4, 5] (aX12_turn_130 mc ms X Q) X 130 → zin 9 [0, 1, 2, 3, 6] (aX12_turn_148 mc ms X Q) X 148 → zin 9 [0, 1, 2, 3, 6] (aX12_turn_149 mc ms X Q) X 149 → zin 9 [0, 1, 2, 3, 6, 7] (aX12_turn_166 mc ms X Q) X 166 → zin 9 [0, 2, 3, 6] (aX12_turn_178 mc ms X Q) X 178 → zin 9 [0, 1, 2, 3, 6] (aX12_turn_198 mc ms X Q) X 198 → zin 9 [0, 1, 3] (aX12_turn_210 mc ms X Q) X 210 → X 0 0 0 av [] M
set_option maxRecDepth 100000 in
set_option maxHeartbeats 4000000 in
theorem sX12_turn (l : Launch) (G : zG) : zSnd l G yX12_turn cX12_turn 9 none 0 0 wX12_turn := by
  refine zmk [0] (by decide) (fun mc ms av M Q h => h.1) ?_
  intro p e R s m args below meth c mc ms av M Q hC hRf hRl hr hnm h lv hlv
  obtain ⟨X, hXe⟩ : ∃ X : Nat → zV, X = fun L u v vs st M => ∀ lv, zpick lv (lvX12_turn L) = some vs → zAt p l e R s m args below meth c (MQ below (zQ G Q) args s mc ms (zA G)) G 9 L u v lv st M := ⟨_, rfl⟩
  have hJ : ∀ L, zOk p l e R s m args below meth c (MQ below (zQ G Q) args s mc ms (zA G)) G 9 L (zj X L (lvX12_turn L)) := fun L => S_jump (fun u v lv vs st M hp hx => by rw [hXe] at hx; exact hx lv hp)
  have hB0 : zin 9 [0] (aX12_turn_0 mc ms X Q) X 0 := by
    intro u v vs st M hb
    rw [hXe]
    refine fun lv hp => S_block (L := 0) (live := [0]) ?_ u v lv vs st M hp hb
    unfold aX12_turn_0
    refine S_iconst (pc := 0) hC dX12_turn_0 (by decide) ?_
    refine S_istore_n (pc := 1) hC dX12_turn_1 rfl (by decide) ?_
    refine S_iconst (pc := 2) hC dX12_turn_2 (by decide) ?_
    refine S_istore_n (pc := 3) hC dX12_turn_3 rfl (by decide) ?_
    refine S_iconst (pc := 4) hC dX12_turn_4 (by decide) ?_
    refine S_istore_n (pc := 5) hC dX12_turn_5 rfl (by decide) ?_
    exact hJ 6
  have hB6 : zin 9 [0, 1, 2, 3] (aX12_turn_6 mc ms X Q) X 6 := by
    intro u v vs st M hb
    rw [hXe]
    refine fun lv hp => S_block (L := 6) (live := [0, 1, 2, 3]) ?_ u v lv vs st M hp hb
    unfold aX12_turn_6
    refine S_iload_n (pc := 6) hC dX12_turn_6 rfl ?_
    refine S_bipush (pc := 7) hC dX12_turn_7 (by decide) ?_
    refine S_icmp_ge (pc := 9) (tgt := 218) hC dX12_turn_9 (by decide) ?_ ?_
    · exact S_vreturn (pc := 218) hC hr dX12_turn_218
    · refine S_iload_n (pc := 12) hC dX12_turn_12 rfl ?_
      refine S_bipush (pc := 13) hC dX12_turn_13 (by decide) ?_
      refine S_irem (pc := 15) hC dX12_turn_15 ?_
      refine S_istore_N (pc := 16) hC dX12_turn_16 (by decide) ?_
      unfold kX12_turn_18
      refine S_iload_n (pc := 18) hC dX12_turn_18 rfl ?_
      refine S_bipush (pc := 19) hC dX12_turn_19 (by decide) ?_
      refine S_idiv (pc := 21) hC dX12_turn_21 ?_
      refine S_istore (pc := 22) hC dX12_turn_22 (by decide) ?_
      refine S_iconst (pc := 24) hC dX12_turn_24 (by decide) ?_
      refine S_istore (pc := 25) hC dX12_turn_25 (by decide) ?_
      exact hJ 27
  have hB27 : zin 9 [0, 1, 2, 3, 4, 5, 6] (aX12_turn_27 mc ms X Q) X 27 := by
    intro u v vs st M hb
    rw [hXe]
    refine fun lv hp => S_block (L := 27) (live := [0, 1, 2, 3, 4, 5, 6]) ?_ u v lv vs st M hp hb
    unfold aX12_turn_27
    refine S_iload (pc := 27) hC dX12_turn_27 ?_
    refine S_bipush (pc := 29) hC dX12_turn_29 (by decide) ?_
    refine S_icmp_ge (pc := 31) (tgt := 116) hC dX12_turn_31 (by decide) ?_ ?_
    · refine S_iconst (pc := 116) hC dX12_turn_116 (by decide) ?_
      refine S_iload (pc := 117) hC dX12_turn_117 ?_
      refine S_imul (pc := 119) hC dX12_turn_119 ?_
      refine S_bipush (pc := 120) hC dX12_turn_120 (by decide) ?_
      refine S_icmp_ge (pc := 122) (tgt := 129) hC dX12_turn_122 (by decide) ?_ ?_
      · refine S_iconst (pc := 129) hC dX12_turn_129 (by decide) ?_
        exact hJ 130
      · refine S_iconst (pc := 125) hC dX12_turn_125 (by decide) ?_
        refine S_goto (pc := 126) (tgt := 130) hC dX12_turn_126 (by decide) ?_
        exact hJ 130
    · refine S_iload (pc := 34) hC dX12_turn_34 ?_
      refine S_iconst (pc := 36) hC dX12_turn_36 (by decide) ?_
      refine S_iand (pc := 37) hC dX12_turn_37 ?_
      refine S_if_ne (pc := 38) (tgt := 46) hC dX12_turn_38 (by decide) ?_ ?_
      · refine S_bipush (pc := 46) hC dX12_turn_46 (by decide) ?_
        refine S_iload (pc := 48) hC dX12_turn_48 ?_
        refine S_isub (pc := 50) hC dX12_turn_50 ?_
        exact hJ 51
      · refine S_iload (pc := 41) hC dX12_turn_41 ?_
        refine S_goto (pc := 43) (tgt := 51) hC dX12_turn_43 (by decide) ?_
        exact hJ 51
  have hB51 : zin 9 [0, 1, 2, 3, 4, 5, 6] (aX12_turn_51 mc ms X Q) X 51 := by
    intro u v vs st M hb
    rw [hXe]
    refine fun lv hp => S_block (L := 51) (live := [0, 1, 2, 3, 4, 5, 6]) ?_ u v lv vs st M hp hb
    unfold aX12_turn_51
    refine S_istore (pc := 51) hC dX12_turn_51 (by decide) ?_
    refine S_iload (pc := 53) hC dX12_turn_53 ?_
    refine S_iconst (pc := 55) hC dX12_turn_55 (by decide) ?_
    refine S_iand (pc := 56) hC dX12_turn_56 ?_
    refine S_if_ne (pc := 57) (tgt := 65) hC dX12_turn_57 (by decide) ?_ ?_
    · refine S_bipush (pc := 65) hC dX12_turn_65 (by decide) ?_
      refine S_iload (pc := 67) hC dX12_turn_67 ?_
      refine S_isub (pc := 69) hC dX12_turn_69 ?_
      exact hJ 70
    · refine S_iload (pc := 60) hC dX12_turn_60 ?_
      refine S_goto (pc := 62) (tgt := 70) hC dX12_turn_62 (by decide) ?_
      exact hJ 70
  have hB70 : zin 9 [0, 1, 2, 3, 4, 5, 6, 7] (aX12_turn_70 mc ms X Q) X 70 := by
    intro u v vs st M hb
    rw [hXe]
    refine fun lv hp => S_block (L := 70) (live := [0, 1, 2, 3, 4, 5, 6, 7]) ?_ u v lv vs st M hp hb
    unfold aX12_turn_70
    refine S_istore (pc := 70) hC dX12_turn_70 (by decide) ?_
    refine S_aload_n (pc := 72) hC dX12_turn_72 rfl ?_
    refine S_getR (pc := 73) hC cfX12 (by decide) (Or.inr ⟨_, rfl⟩) wd_1211 dX12_turn_73 ?_
    refine S_bipush (pc := 76) hC dX12_turn_76 (by decide) ?_
    refine S_iload (pc := 78) hC dX12_turn_78 ?_
    refine S_imul (pc := 80) hC dX12_turn_80 ?_
    refine S_iload_n (pc := 81) hC dX12_turn_81 rfl ?_
    refine S_iadd (pc := 82) hC dX12_turn_82 ?_
    refine S_iload (pc := 83) hC dX12_turn_83 ?_
    refine S_iconst (pc := 85) hC dX12_turn_85 (by decide) ?_
    refine S_iand (pc := 86) hC dX12_turn_86 ?_
    refine S_if_ne (pc := 87) (tgt := 101) hC dX12_turn_87 (by decide) ?_ ?_
    · refine S_bipush (pc := 101) hC dX12_turn_101 (by decide) ?_
      refine S_iload (pc := 103) hC dX12_turn_103 ?_
      refine S_imul (pc := 105) hC dX12_turn_105 ?_
      refine S_iload (pc := 106) hC dX12_turn_106 ?_
      refine S_iadd (pc := 108) hC dX12_turn_108 ?_
      exact hJ 109
    · refine S_bipush (pc := 90) hC dX12_turn_90 (by decide) ?_
      refine S_iload (pc := 92) hC dX12_turn_92 ?_
      refine S_imul (pc := 94) hC dX12_turn_94 ?_
      refine S_iload (pc := 95) hC dX12_turn_95 ?_
      refine S_iadd (pc := 97) hC dX12_turn_97 ?_
      refine S_goto (pc := 98) (tgt := 109) hC dX12_turn_98 (by decide) ?_
      exact hJ 109
  have hB109 : zin 9 [0, 1, 2, 3, 4, 5, 6] (aX12_turn_109 mc ms X Q) X 109 := by
    intro u v vs st M hb
    rw [hXe]
    refine fun lv hp => S_block (L := 109) (live := [0, 1, 2, 3, 4, 5, 6]) ?_ u v lv vs st M hp hb
    unfold aX12_turn_109
    refine S_iastore (pc := 109) hC dX12_turn_109 ?_
    refine S_iinc (pc := 110) hC dX12_turn_110 (by decide) (by decide) ?_
    refine S_goto (pc := 113) (tgt := 27) hC dX12_turn_113 (by decide) ?_
    exact hJ 27
  have hB130 : zin 9 [0, 1, 2, 3, 4, 5] (aX12_turn_130 mc ms X Q) X 130 := by
    intro u v vs st M hb
    rw [hXe]
    refine fun lv hp => S_block (L := 130) (live := [0, 1, 2, 3, 4, 5]) ?_ u v lv vs st M hp hb
    unfold aX12_turn_130
    refine S_istore (pc := 130) hC dX12_turn_130 (by decide) ?_
    refine S_iload (pc := 132) hC dX12_turn_132 ?_
    refine S_if_eq (pc := 134) (tgt := 148) hC dX12_turn_134 (by decide) ?_ ?_
    · exact hJ 148
    · refine S_iload (pc := 137) hC dX12_turn_137 ?_
      refine S_iload (pc := 139) hC dX12_turn_139 ?_
      refine S_icmp_gt (pc := 141) (tgt := 148) hC dX12_turn_141 (by decide) ?_ ?_
      · exact hJ 148
      · refine S_iconst (pc := 144) hC dX12_turn_144 (by decide) ?_
        refine S_goto (pc := 145) (tgt := 149) hC dX12_turn_145 (by decide) ?_
        exact hJ 149
  have hB148 : zin 9 [0, 1, 2, 3, 6] (aX12_turn_148 mc ms X Q) X 148 := by
    intro u v vs st M hb
    rw [hXe]
    refine fun lv hp => S_block (L := 148) (live := [0, 1, 2, 3, 6]) ?_ u v lv vs st M hp hb
    unfold aX12_turn_148
    refine S_iconst (pc := 148) hC dX12_turn_148 (by decide) ?_
    exact hJ 149
  have hB149 : zin 9 [0, 1, 2, 3, 6] (aX12_turn_149 mc ms X Q) X 149 := by
    intro u v vs st M hb
    rw [hXe]
    refine fun lv hp => S_block (L := 149) (live := [0, 1, 2, 3, 6]) ?_ u v lv vs st M hp hb
    unfold aX12_turn_149
    refine S_istore (pc := 149) hC dX12_turn_149 (by decide) ?_
    refine S_aload_n (pc := 151) hC dX12_turn_151 rfl ?_
    refine S_getR (pc := 152) hC cfX12 (by decide) (Or.inr ⟨_, rfl⟩) wd_1212 dX12_turn_152 ?_
    refine S_iload_n (pc := 155) hC dX12_turn_155 rfl ?_
    refine S_iload (pc := 156) hC dX12_turn_156 ?_
    refine S_if_eq (pc := 158) (tgt := 165) hC dX12_turn_158 (by decide) ?_ ?_
    · refine S_iconst (pc := 165) hC dX12_turn_165 (by decide) ?_
      exact hJ 166
    · refine S_iload_n (pc := 161) hC dX12_turn_161 rfl ?_
      refine S_goto (pc := 162) (tgt := 166) hC dX12_turn_162 (by decide) ?_
      exact hJ 166
  have hB166 : zin 9 [0, 1, 2, 3, 6, 7] (aX12_turn_166 mc ms X Q) X 166 := by
    intro u v vs st M hb
    rw [hXe]
    refine fun lv hp => S_block (L := 166) (live := [0, 1, 2, 3, 6, 7]) ?_ u v lv vs st M hp hb
    unfold aX12_turn_166
    refine S_iastore (pc := 166) hC dX12_turn_166 ?_
    refine S_iload_n (pc := 167) hC dX12_turn_167 rfl ?_
    refine S_iload (pc := 168) hC dX12_turn_168 ?_
    refine S_if_eq (pc := 170) (tgt := 177) hC dX12_turn_170 (by decide) ?_ ?_
    · refine S_iconst (pc := 177) hC dX12_turn_177 (by decide) ?_
      exact hJ 178
    · refine S_iconst (pc := 173) hC dX12_turn_173 (by decide) ?_
      refine S_goto (pc := 174) (tgt := 178) hC dX12_turn_174 (by decide) ?_
      exact hJ 178
  have hB178 : zin 9 [0, 2, 3, 6] (aX12_turn_178 mc ms X Q) X 178 := by
    intro u v vs st M hb
    rw [hXe]
    refine fun lv hp => S_block (L := 178) (live := [0, 2, 3, 6]) ?_ u v lv vs st M hp hb
    unfold aX12_turn_178
    refine S_iadd (pc := 178) hC dX12_turn_178 ?_
    refine S_istore_n (pc := 179) hC dX12_turn_179 rfl (by decide) ?_
    refine S_aload_n (pc := 180) hC dX12_turn_180 rfl ?_
    refine S_getR (pc := 181) hC cfX12 (by decide) (Or.inr ⟨_, rfl⟩) wd_1212 dX12_turn_181 ?_
    refine S_bipush (pc := 184) hC dX12_turn_184 (by decide) ?_
    refine S_iload_n (pc := 186) hC dX12_turn_186 rfl ?_
    refine S_iadd (pc := 187) hC dX12_turn_187 ?_
    refine S_iload (pc := 188) hC dX12_turn_188 ?_
    refine S_if_eq (pc := 190) (tgt := 197) hC dX12_turn_190 (by decide) ?_ ?_
    · refine S_iconst (pc := 197) hC dX12_turn_197 (by decide) ?_
      exact hJ 198
    · refine S_iload_n (pc := 193) hC dX12_turn_193 rfl ?_
      refine S_goto (pc := 194) (tgt := 198) hC dX12_turn_194 (by decide) ?_
      exact hJ 198
  have hB198 : zin 9 [0, 1, 2, 3, 6] (aX12_turn_198 mc ms X Q) X 198 := by
    intro u v vs st M hb
    rw [hXe]
    refine fun lv hp => S_block (L := 198) (live := [0, 1, 2, 3, 6]) ?_ u v lv vs st M hp hb
    unfold aX12_turn_198
    refine S_iastore (pc := 198) hC dX12_turn_198 ?_
    refine S_iload_n (pc := 199) hC dX12_turn_199 rfl ?_
    refine S_iload (pc := 200) hC dX12_turn_200 ?_
    refine S_if_eq (pc := 202) (tgt := 209) hC dX12_turn_202 (by decide) ?_ ?_
    · refine S_iconst (pc := 209) hC dX12_turn_209 (by decide) ?_
      exact hJ 210
    · refine S_iconst (pc := 205) hC dX12_turn_205 (by decide) ?_
      refine S_goto (pc := 206) (tgt := 210) hC dX12_turn_206 (by decide) ?_
      exact hJ 210
  have hB210 : zin 9 [0, 1, 3] (aX12_turn_210 mc ms X Q) X 210 := by
    intro u v vs st M hb
    rw [hXe]
    refine fun lv hp => S_block (L := 210) (live := [0, 1, 3]) ?_ u v lv vs st M hp hb
    unfold aX12_turn_210
    refine S_iadd (pc := 210) hC dX12_turn_210 ?_
    refine S_istore_n (pc := 211) hC dX12_turn_211 rfl (by decide) ?_
    refine S_iinc (pc := 212) hC dX12_turn_212 (by decide) (by decide) ?_
    refine S_goto (pc := 215) (tgt := 6) hC dX12_turn_215 (by decide) ?_
    exact hJ 6
  have := h.2 X hB0 hB6 hB27 hB51 hB70 hB109 hB130 hB148 hB149 hB166 hB178 hB198 hB210
  rw [hXe] at this
  exact this lv hlv
theorem vX12_turn_0 {mc ms : Nat} {X : Nat → zV} {Q : zQt} {M : zM}  (hW : zFix M)  (h : X 6 0 0 [.ref 71, .int 0, .int 0, .int 0] [] M) : aX12_turn_0 mc ms X Q 0 0 [some (.ref 71), none, none, none, none, none, none, none, none] [] M := h
theorem vcX12_turn_18 {mc ms : Nat} {X : Nat → zV} {Q : zQt} {M : zM} {x1 : Int32} {x2 : Int32} {x3 : Int32} {x4 : Int32} (hW : zFix M)  (h : X 27 0 0 [.ref 71, .int x1, .int x2, .int x3, .int x4, .int (x3 / (8 : Int32)), .int 0] [] M) : kX12_turn_18 mc ms X Q 0 0 [some (.ref 71), some (.int x1), some (.int x2), some (.int x3), some (.int x4), none, none, none, none] [] M := ⟨by decide, h⟩
theorem vX12_turn_6 {mc ms : Nat} {X : Nat → zV} {Q : zQt} {M : zM} {x1 : Int32} {x2 : Int32} {x3 : Int32} (hW : zFix M)  (h : ((64 : Int32) ≤ x3 → Q none M) ∧ (¬ (64 : Int32) ≤ x3 → ∀ y16 : Int32, y16 = (x3 - x3 / (8 : Int32) * (8 : Int32)) → X 27 0 0 [.ref 71, .int x1, .int x2, .int x3, .int y16, .int (x3 / (8 : Int32)), .int 0] [] M)) : aX12_turn_6 mc ms X Q 0 0 [some (.ref 71), some (.int x1), some (.int x2), some (.int x3), none, none, none, none, none] [] M := ⟨fun c9 => (h.1 c9), fun c9 => ⟨by decide, (fun y16 e16 => have h16 := (h.2 c9) y16 e16; (vcX12_turn_18 hW  h16))⟩⟩
theorem vX12_turn_27 {mc ms : Nat} {X : Nat → zV} {Q : zQt} {M : zM} {x1 : Int32} {x2 : Int32} {x3 : Int32} {x4 : Int32} {x5 : Int32} {x6 : Int32} (hW : zFix M)  (h : ((8 : Int32) ≤ x6 → ((8 : Int32) ≤ ((2 : Int32) * x4) → X 130 0 0 [.ref 71, .int x1, .int x2, .int x3, .int x4, .int x5] [.int 0] M) ∧ (¬ (8 : Int32) ≤ ((2 : Int32) * x4) → X 130 0 0 [.ref 71, .int x1, .int x2, .int x3, .int x4, .int x5] [.int 1] M)) ∧ (¬ (8 : Int32) ≤ x6 → ((x6 &&& (1 : Int32)) = 0 → X 51 0 0 [.ref 71, .int x1, .int x2, .int x3, .int x4, .int x5, .int x6] [.int x4] M) ∧ (¬ (x6 &&& (1 : Int32)) = 0 → X 51 0 0 [.ref 71, .int x1, .int x2, .int x3, .int x4, .int x5, .int x6] [.int ((7 : Int32) - x4)] M))) : aX12_turn_27 mc ms X Q 0 0 [some (.ref 71), some (.int x1), some (.int x2), some (.int x3), some (.int x4), some (.int x5), some (.int x6), none, none] [] M := ⟨fun c31 => ⟨fun c122 => ((h.1 c31).1 c122), fun c122 => ((h.1 c31).2 c122)⟩, fun c31 => ⟨fun c38 => ((h.2 c31).1 c38), fun c38 => ((h.2 c31).2 c38)⟩⟩
theorem vX12_turn_51 {mc ms : Nat} {X : Nat → zV} {Q : zQt} {M : zM} {x1 : Int32} {x2 : Int32} {x3 : Int32} {x4 : Int32} {x5 : Int32} {x6 : Int32} {s0 : Int32} (hW : zFix M)  (h : ((x6 &&& (2 : Int32)) = 0 → X 70 0 0 [.ref 71, .int x1, .int x2, .int x3, .int x4, .int x5, .int x6, .int s0] [.int x5] M) ∧ (¬ (x6 &&& (2 : Int32)) = 0 → X 70 0 0 [.ref 71, .int x1, .int x2, .int x3, .int x4, .int x5, .int x6, .int s0] [.int ((7 : Int32) - x5)] M)) : aX12_turn_51 mc ms X Q 0 0 [some (.ref 71), some (.int x1), some (.int x2), some (.int x3), some (.int x4), some (.int x5), some (.int x6), none, none] [.int s0] M := ⟨fun c57 => (h.1 c57), fun c57 => (h.2 c57)⟩
theorem vX12_turn_70 {mc ms : Nat} {X : Nat → zV} {Q : zQt} {M : zM} {x1 : Int32} {x2 : Int32} {x3 : Int32} {x4 : Int32} {x5 : Int32} {x6 : Int32} {x7 : Int32} {s0 : Int32} (hW : zFix M)  (h : ((x6 &&& (4 : Int32)) = 0 → X 109 0 0 [.ref 71, .int x1, .int x2, .int x3, .int x4, .int x5, .int x6] [.int (((8 : Int32) * s0) + x7), .int (((64 : Int32) * x6) + x3), .ref 74] M) ∧ (¬ (x6 &&& (4 : Int32)) = 0 → X 109 0 0 [.ref 71, .int x1, .int x2, .int x3, .int x4, .int x5, .int x6] [.int (((8 : Int32) * x7) + s0), .int (((64 : Int32) * x6) + x3), .ref 74] M)) : aX12_turn_70 mc ms X Q 0 0 [some (.ref 71), some (.int x1), some (.int x2), some (.int x3), some (.int x4), some (.int x5), some (.int x6), some (.int x7), none] [.int s0] M := ⟨(fxs_71 hW), 74, (fxr_71_9 hW), ⟨fun c87 => (h.1 c87), fun c87 => (h.2 c87)⟩⟩
theorem vX12_turn_109 {mc ms : Nat} {X : Nat → zV} {Q : zQt} {M : zM} {x1 : Int32} {x2 : Int32} {x3 : Int32} {x4 : Int32} {x5 : Int32} {x6 : Int32} {s0 : Int32} {s1 : Int32} (hW : zFix M)  (h : vp_in s1 512 ∧ ∀ M109 : zM, M109 = (zsI M 74 (s1 : Int32).toNatClampNeg s0) → X 27 0 0 [.ref 71, .int x1, .int x2, .int x3, .int x4, .int x5, .int (x6 + 1)] [] M109) : aX12_turn_109 mc ms X Q 0 0 [some (.ref 71), some (.int x1), some (.int x2), some (.int x3), some (.int x4), some (.int x5), some (.int x6), none, none] [.int s0, .int s1, .ref 74] M := ⟨512, (fxs_74 hW), h.1, (have h109 := h.2 _ rfl; h109)⟩
theorem vX12_turn_130 {mc ms : Nat} {X : Nat → zV} {Q : zQt} {M : zM} {x1 : Int32} {x2 : Int32} {x3 : Int32} {x4 : Int32} {x5 : Int32} {s0 : Int32} (hW : zFix M)  (h : (s0 = 0 → X 148 0 0 [.ref 71, .int x1, .int x2, .int x3, .int s0] [] M) ∧ (¬ s0 = 0 → (x4 < x5 → X 148 0 0 [.ref 71, .int x1, .int x2, .int x3, .int s0] [] M) ∧ (¬ x4 < x5 → X 149 0 0 [.ref 71, .int x1, .int x2, .int x3, .int s0] [.int 1] M))) : aX12_turn_130 mc ms X Q 0 0 [some (.ref 71), some (.int x1), some (.int x2), some (.int x3), some (.int x4), some (.int x5), none, none, none] [.int s0] M := ⟨fun c134 => (h.1 c134), fun c134 => ⟨fun c141 => ((h.2 c134).1 c141), fun c141 => ((h.2 c134).2 c141)⟩⟩
theorem vX12_turn_148 {mc ms : Nat} {X : Nat → zV} {Q : zQt} {M : zM} {x1 : Int32} {x2 : Int32} {x3 : Int32} {x6 : Int32} (hW : zFix M)  (h : X 149 0 0 [.ref 71, .int x1, .int x2, .int x3, .int x6] [.int 0] M) : aX12_turn_148 mc ms X Q 0 0 [some (.ref 71), some (.int x1), some (.int x2), some (.int x3), none, none, some (.int x6), none, none] [] M := h
theorem vX12_turn_149 {mc ms : Nat} {X : Nat → zV} {Q : zQt} {M : zM} {x1 : Int32} {x2 : Int32} {x3 : Int32} {x6 : Int32} {s0 : Int32} (hW : zFix M)  (h : (s0 = 0 → X 166 0 0 [.ref 71, .int x1, .int x2, .int x3, .int x6, .int s0] [.int (-1), .int x3, .ref 75] M) ∧ (¬ s0 = 0 → X 166 0 0 [.ref 71, .int x1, .int x2, .int x3, .int x6, .int s0] [.int x1, .int x3, .ref 75] M)) : aX12_turn_149 mc ms X Q 0 0 [some (.ref 71), some (.int x1), some (.int x2), some (.int x3), none, none, some (.int x6), none, none] [.int s0] M := ⟨(fxs_71 hW), 75, (fxr_71_10 hW), ⟨fun c158 => (h.1 c158), fun c158 => (h.2 c158)⟩⟩
theorem vX12_turn_166 {mc ms : Nat} {X : Nat → zV} {Q : zQt} {M : zM} {x1 : Int32} {x2 : Int32} {x3 : Int32} {x6 : Int32} {x7 : Int32} {s0 : Int32} {s1 : Int32} (hW : zFix M)  (h : vp_in s1 128 ∧ ∀ M166 : zM, M166 = (zsI M 75 (s1 : Int32).toNatClampNeg s0) → (x7 = 0 → X 178 0 0 [.ref 71, .int x2, .int x3, .int x6] [.int 0, .int x1] M166) ∧ (¬ x7 = 0 → X 178 0 0 [.ref 71, .int x2, .int x3, .int x6] [.int 1, .int x1] M166)) : aX12_turn_166 mc ms X Q 0 0 [some (.ref 71), some (.int x1), some (.int x2), some (.int x3), none, none, some (.int x6), some (.int x7), none] [.int s0, .int s1, .ref 75] M := ⟨128, (fxs_75 hW), h.1, (have h166 := h.2 _ rfl; ⟨fun c170 => (h166.1 c170), fun c170 => (h166.2 c170)⟩)⟩
theorem vX12_turn_178 {mc ms : Nat} {X : Nat → zV} {Q : zQt} {M : zM} {x2 : Int32} {x3 : Int32} {x6 : Int32} {s0 : Int32} {s1 : Int32} (hW : zFix M)  (h : (x6 = 0 → X 198 0 0 [.ref 71, .int (s1 + s0), .int x2, .int x3, .int x6] [.int (-1), .int ((64 : Int32) + x3), .ref 75] M) ∧ (¬ x6 = 0 → X 198 0 0 [.ref 71, .int (s1 + s0), .int x2, .int x3, .int x6] [.int x2, .int ((64 : Int32) + x3), .ref 75] M)) : aX12_turn_178 mc ms X Q 0 0 [some (.ref 71), none, some (.int x2), some (.int x3), none, none, some (.int x6), none, none] [.int s0, .int s1] M := ⟨(fxs_71 hW), 75, (fxr_71_10 hW), ⟨fun c190 => (h.1 c190), fun c190 => (h.2 c190)⟩⟩
theorem vX12_turn_198 {mc ms : Nat} {X : Nat → zV} {Q : zQt} {M : zM} {x1 : Int32} {x2 : Int32} {x3 : Int32} {x6 : Int32} {s0 : Int32} {s1 : Int32} (hW : zFix M)  (h : vp_in s1 128 ∧ ∀ M198 : zM, M198 = (zsI M 75 (s1 : Int32).toNatClampNeg s0) → (x6 = 0 → X 210 0 0 [.ref 71, .int x1, .int x3] [.int 0, .int x2] M198) ∧ (¬ x6 = 0 → X 210 0 0 [.ref 71, .int x1, .int x3] [.int 1, .int x2] M198)) : aX12_turn_198 mc ms X Q 0 0 [some (.ref 71), some (.int x1), some (.int x2), some (.int x3), none, none, some (.int x6), none, none] [.int s0, .int s1, .ref 75] M := ⟨128, (fxs_75 hW), h.1, (have h198 := h.2 _ rfl; ⟨fun c202 => (h198.1 c202), fun c202 => (h198.2 c202)⟩)⟩
theorem vX12_turn_210 {mc ms : Nat} {X : Nat → zV} {Q : zQt} {M : zM} {x1 : Int32} {x3 : Int32} {s0 : Int32} {s1 : Int32} (hW : zFix M)  (h : X 6 0 0 [.ref 71, .int x1, .int (s1 + s0), .int (x3 + 1)] [] M) : aX12_turn_210 mc ms X Q 0 0 [some (.ref 71), some (.int x1), none, some (.int x3), none, none, none, none, none] [.int s0, .int s1] M := h
