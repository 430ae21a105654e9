theorem dX0_attacked_0 : decode cX0_attacked 0 = .ok (.bipush 6, 2) := by decide +kernel
theorem dX0_attacked_2 : decode cX0_attacked 2 = .ok (.iload_n 2, 1) := by decide +kernel
theorem dX0_attacked_3 : decode cX0_attacked 3 = .ok (.imul, 1) := by decide +kernel
theorem dX0_attacked_4 : decode cX0_attacked 4 = .ok (.istore 7, 2) := by decide +kernel
theorem dX0_attacked_6 : decode cX0_attacked 6 = .ok (.aload_n 0, 1) := by decide +kernel
theorem dX0_attacked_7 : decode cX0_attacked 7 = .ok (.getfield 9, 3) := by decide +kernel
theorem dX0_attacked_10 : decode cX0_attacked 10 = .ok (.getfield 86, 3) := by decide +kernel
theorem dX0_attacked_13 : decode cX0_attacked 13 = .ok (.iload_n 1, 1) := by decide +kernel
theorem dX0_attacked_14 : decode cX0_attacked 14 = .ok (.laload, 1) := by decide +kernel
theorem dX0_attacked_15 : decode cX0_attacked 15 = .ok (.aload_n 0, 1) := by decide +kernel
theorem dX0_attacked_16 : decode cX0_attacked 16 = .ok (.getfield 19, 3) := by decide +kernel
theorem dX0_attacked_19 : decode cX0_attacked 19 = .ok (.iload 7, 2) := by decide +kernel
theorem dX0_attacked_21 : decode cX0_attacked 21 = .ok (.iconst 2, 1) := by decide +kernel
theorem dX0_attacked_22 : decode cX0_attacked 22 = .ok (.iadd, 1) := by decide +kernel
theorem dX0_attacked_23 : decode cX0_attacked 23 = .ok (.laload, 1) := by decide +kernel
theorem dX0_attacked_24 : decode cX0_attacked 24 = .ok (.land, 1) := by decide +kernel
theorem dX0_attacked_25 : decode cX0_attacked 25 = .ok (.aload_n 0, 1) := by decide +kernel
theorem dX0_attacked_26 : decode cX0_attacked 26 = .ok (.getfield 9, 3) := by decide +kernel
theorem dX0_attacked_29 : decode cX0_attacked 29 = .ok (.getfield 91, 3) := by decide +kernel
theorem dX0_attacked_32 : decode cX0_attacked 32 = .ok (.iload_n 1, 1) := by decide +kernel
theorem dX0_attacked_33 : decode cX0_attacked 33 = .ok (.laload, 1) := by decide +kernel
theorem dX0_attacked_34 : decode cX0_attacked 34 = .ok (.aload_n 0, 1) := by decide +kernel
theorem dX0_attacked_35 : decode cX0_attacked 35 = .ok (.getfield 19, 3) := by decide +kernel
theorem dX0_attacked_38 : decode cX0_attacked 38 = .ok (.iload 7, 2) := by decide +kernel
theorem dX0_attacked_40 : decode cX0_attacked 40 = .ok (.bipush 6, 2) := by decide +kernel
theorem dX0_attacked_42 : decode cX0_attacked 42 = .ok (.iadd, 1) := by decide +kernel
theorem dX0_attacked_43 : decode cX0_attacked 43 = .ok (.laload, 1) := by decide +kernel
theorem dX0_attacked_44 : decode cX0_attacked 44 = .ok (.land, 1) := by decide +kernel
theorem dX0_attacked_45 : decode cX0_attacked 45 = .ok (.lor, 1) := by decide +kernel
theorem dX0_attacked_46 : decode cX0_attacked 46 = .ok (.aload_n 0, 1) := by decide +kernel
theorem dX0_attacked_47 : decode cX0_attacked 47 = .ok (.getfield 9, 3) := by decide +kernel
theorem dX0_attacked_50 : decode cX0_attacked 50 = .ok (.getfield 94, 3) := by decide +kernel
theorem dX0_attacked_53 : decode cX0_attacked 53 = .ok (.iconst 1, 1) := by decide +kernel
theorem dX0_attacked_54 : decode cX0_attacked 54 = .ok (.iload_n 2, 1) := by decide +kernel
theorem dX0_attacked_55 : decode cX0_attacked 55 = .ok (.isub, 1) := by decide +kernel
theorem dX0_attacked_56 : decode cX0_attacked 56 = .ok (.bipush 64, 2) := by decide +kernel
theorem dX0_attacked_58 : decode cX0_attacked 58 = .ok (.imul, 1) := by decide +kernel
theorem dX0_attacked_59 : decode cX0_attacked 59 = .ok (.iload_n 1, 1) := by decide +kernel
theorem dX0_attacked_60 : decode cX0_attacked 60 = .ok (.iadd, 1) := by decide +kernel
theorem dX0_attacked_61 : decode cX0_attacked 61 = .ok (.laload, 1) := by decide +kernel
theorem dX0_attacked_62 : decode cX0_attacked 62 = .ok (.aload_n 0, 1) := by decide +kernel
theorem dX0_attacked_63 : decode cX0_attacked 63 = .ok (.getfield 19, 3) := by decide +kernel
theorem dX0_attacked_66 : decode cX0_attacked 66 = .ok (.iload 7, 2) := by decide +kernel
theorem dX0_attacked_68 : decode cX0_attacked 68 = .ok (.iconst 1, 1) := by decide +kernel
theorem dX0_attacked_69 : decode cX0_attacked 69 = .ok (.iadd, 1) := by decide +kernel
theorem dX0_attacked_70 : decode cX0_attacked 70 = .ok (.laload, 1) := by decide +kernel
theorem dX0_attacked_71 : decode cX0_attacked 71 = .ok (.land, 1) := by decide +kernel
theorem dX0_attacked_72 : decode cX0_attacked 72 = .ok (.lor, 1) := by decide +kernel
theorem dX0_attacked_73 : decode cX0_attacked 73 = .ok (.lstore 8, 2) := by decide +kernel
theorem dX0_attacked_75 : decode cX0_attacked 75 = .ok (.lload 8, 2) := by decide +kernel
theorem dX0_attacked_77 : decode cX0_attacked 77 = .ok (.lload 5, 2) := by decide +kernel
theorem dX0_attacked_79 : decode cX0_attacked 79 = .ok (.ldc2_w 69, 3) := by decide +kernel
theorem dX0_attacked_82 : decode cX0_attacked 82 = .ok (.lxor, 1) := by decide +kernel
theorem dX0_attacked_83 : decode cX0_attacked 83 = .ok (.land, 1) := by decide +kernel
theorem dX0_attacked_84 : decode cX0_attacked 84 = .ok (.lconst 0, 1) := by decide +kernel
theorem dX0_attacked_85 : decode cX0_attacked 85 = .ok (.lcmp, 1) := by decide +kernel
theorem dX0_attacked_86 : decode cX0_attacked 86 = .ok (.ifCond .eq 5, 3) := by decide +kernel
theorem dX0_attacked_89 : decode cX0_attacked 89 = .ok (.iconst 1, 1) := by decide +kernel
theorem dX0_attacked_90 : decode cX0_attacked 90 = .ok (.ireturn, 1) := by decide +kernel
theorem dX0_attacked_91 : decode cX0_attacked 91 = .ok (.aload_n 0, 1) := by decide +kernel
theorem dX0_attacked_92 : decode cX0_attacked 92 = .ok (.getfield 19, 3) := by decide +kernel
theorem dX0_attacked_95 : decode cX0_attacked 95 = .ok (.iload 7, 2) := by decide +kernel
theorem dX0_attacked_97 : decode cX0_attacked 97 = .ok (.iconst 4, 1) := by decide +kernel
theorem dX0_attacked_98 : decode cX0_attacked 98 = .ok (.iadd, 1) := by decide +kernel
theorem dX0_attacked_99 : decode cX0_attacked 99 = .ok (.laload, 1) := by decide +kernel
theorem dX0_attacked_100 : decode cX0_attacked 100 = .ok (.aload_n 0, 1) := by decide +kernel
theorem dX0_attacked_101 : decode cX0_attacked 101 = .ok (.getfield 19, 3) := by decide +kernel
theorem dX0_attacked_104 : decode cX0_attacked 104 = .ok (.iload 7, 2) := by decide +kernel
theorem dX0_attacked_106 : decode cX0_attacked 106 = .ok (.iconst 5, 1) := by decide +kernel
theorem dX0_attacked_107 : decode cX0_attacked 107 = .ok (.iadd, 1) := by decide +kernel
theorem dX0_attacked_108 : decode cX0_attacked 108 = .ok (.laload, 1) := by decide +kernel
theorem dX0_attacked_109 : decode cX0_attacked 109 = .ok (.lor, 1) := by decide +kernel
theorem dX0_attacked_110 : decode cX0_attacked 110 = .ok (.lload 5, 2) := by decide +kernel
theorem dX0_attacked_112 : decode cX0_attacked 112 = .ok (.ldc2_w 69, 3) := by decide +kernel
theorem dX0_attacked_115 : decode cX0_attacked 115 = .ok (.lxor, 1) := by decide +kernel
theorem dX0_attacked_116 : decode cX0_attacked 116 = .ok (.land, 1) := by decide +kernel
theorem dX0_attacked_117 : decode cX0_attacked 117 = .ok (.lstore 10, 2) := by decide +kernel
theorem dX0_attacked_119 : decode cX0_attacked 119 = .ok (.aload_n 0, 1) := by decide +kernel
theorem dX0_attacked_120 : decode cX0_attacked 120 = .ok (.getfield 9, 3) := by decide +kernel
theorem dX0_attacked_123 : decode cX0_attacked 123 = .ok (.getfield 97, 3) := by decide +kernel
theorem dX0_attacked_126 : decode cX0_attacked 126 = .ok (.iload_n 1, 1) := by decide +kernel
theorem dX0_attacked_127 : decode cX0_attacked 127 = .ok (.laload, 1) := by decide +kernel
theorem dX0_attacked_128 : decode cX0_attacked 128 = .ok (.lload 10, 2) := by decide +kernel
theorem dX0_attacked_130 : decode cX0_attacked 130 = .ok (.land, 1) := by decide +kernel
theorem dX0_attacked_131 : decode cX0_attacked 131 = .ok (.lconst 0, 1) := by decide +kernel
theorem dX0_attacked_132 : decode cX0_attacked 132 = .ok (.lcmp, 1) := by decide +kernel
theorem dX0_attacked_133 : decode cX0_attacked 133 = .ok (.ifCond .eq 23, 3) := by decide +kernel
theorem dX0_attacked_136 : decode cX0_attacked 136 = .ok (.aload_n 0, 1) := by decide +kernel
theorem dX0_attacked_137 : decode cX0_attacked 137 = .ok (.getfield 9, 3) := by decide +kernel
theorem dX0_attacked_140 : decode cX0_attacked 140 = .ok (.iload_n 1, 1) := by decide +kernel
theorem dX0_attacked_141 : decode cX0_attacked 141 = .ok (.lload_n 3, 1) := by decide +kernel
theorem dX0_attacked_142 : decode cX0_attacked 142 = .ok (.iconst 0, 1) := by decide +kernel
theorem dX0_attacked_143 : decode cX0_attacked 143 = .ok (.invokevirtual 100, 3) := by decide +kernel
theorem dX0_attacked_146 : decode cX0_attacked 146 = .ok (.lload 10, 2) := by decide +kernel
theorem dX0_attacked_148 : decode cX0_attacked 148 = .ok (.land, 1) := by decide +kernel
theorem dX0_attacked_149 : decode cX0_attacked 149 = .ok (.lconst 0, 1) := by decide +kernel
theorem dX0_attacked_150 : decode cX0_attacked 150 = .ok (.lcmp, 1) := by decide +kernel
theorem dX0_attacked_151 : decode cX0_attacked 151 = .ok (.ifCond .eq 5, 3) := by decide +kernel
theorem dX0_attacked_154 : decode cX0_attacked 154 = .ok (.iconst 1, 1) := by decide +kernel
theorem dX0_attacked_155 : decode cX0_attacked 155 = .ok (.ireturn, 1) := by decide +kernel
theorem dX0_attacked_156 : decode cX0_attacked 156 = .ok (.aload_n 0, 1) := by decide +kernel
theorem dX0_attacked_157 : decode cX0_attacked 157 = .ok (.getfield 19, 3) := by decide +kernel
theorem dX0_attacked_160 : decode cX0_attacked 160 = .ok (.iload 7, 2) := by decide +kernel
theorem dX0_attacked_162 : decode cX0_attacked 162 = .ok (.iconst 3, 1) := by decide +kernel
theorem dX0_attacked_163 : decode cX0_attacked 163 = .ok (.iadd, 1) := by decide +kernel
theorem dX0_attacked_164 : decode cX0_attacked 164 = .ok (.laload, 1) := by decide +kernel
theorem dX0_attacked_165 : decode cX0_attacked 165 = .ok (.aload_n 0, 1) := by decide +kernel
theorem dX0_attacked_166 : decode cX0_attacked 166 = .ok (.getfield 19, 3) := by decide +kernel
theorem dX0_attacked_169 : decode cX0_attacked 169 = .ok (.iload 7, 2) := by decide +kernel
theorem dX0_attacked_171 : decode cX0_attacked 171 = .ok (.iconst 5, 1) := by decide +kernel
theorem dX0_attacked_172 : decode cX0_attacked 172 = .ok (.iadd, 1) := by decide +kernel
theorem dX0_attacked_173 : decode cX0_attacked 173 = .ok (.laload, 1) := by decide +kernel
theorem dX0_attacked_174 : decode cX0_attacked 174 = .ok (.lor, 1) := by decide +kernel
theorem dX0_attacked_175 : decode cX0_attacked 175 = .ok (.lload 5, 2) := by decide +kernel
theorem dX0_attacked_177 : decode cX0_attacked 177 = .ok (.ldc2_w 69, 3) := by decide +kernel
theorem dX0_attacked_180 : decode cX0_attacked 180 = .ok (.lxor, 1) := by decide +kernel
theorem dX0_attacked_181 : decode cX0_attacked 181 = .ok (.land, 1) := by decide +kernel
theorem dX0_attacked_182 : decode cX0_attacked 182 = .ok (.lstore 12, 2) := by decide +kernel
theorem dX0_attacked_184 : decode cX0_attacked 184 = .ok (.aload_n 0, 1) := by decide +kernel
theorem dX0_attacked_185 : decode cX0_attacked 185 = .ok (.getfield 9, 3) := by decide +kernel
theorem dX0_attacked_188 : decode cX0_attacked 188 = .ok (.getfield 104, 3) := by decide +kernel
theorem dX0_attacked_191 : decode cX0_attacked 191 = .ok (.iload_n 1, 1) := by decide +kernel
theorem dX0_attacked_192 : decode cX0_attacked 192 = .ok (.laload, 1) := by decide +kernel
theorem dX0_attacked_193 : decode cX0_attacked 193 = .ok (.lload 12, 2) := by decide +kernel
theorem dX0_attacked_195 : decode cX0_attacked 195 = .ok (.land, 1) := by decide +kernel
theorem dX0_attacked_196 : decode cX0_attacked 196 = .ok (.lconst 0, 1) := by decide +kernel
theorem dX0_attacked_197 : decode cX0_attacked 197 = .ok (.lcmp, 1) := by decide +kernel
theorem dX0_attacked_198 : decode cX0_attacked 198 = .ok (.ifCond .eq 25, 3) := by decide +kernel
theorem dX0_attacked_201 : decode cX0_attacked 201 = .ok (.aload_n 0, 1) := by decide +kernel
theorem dX0_attacked_202 : decode cX0_attacked 202 = .ok (.getfield 9, 3) := by decide +kernel
theorem dX0_attacked_205 : decode cX0_attacked 205 = .ok (.iload_n 1, 1) := by decide +kernel
theorem dX0_attacked_206 : decode cX0_attacked 206 = .ok (.lload_n 3, 1) := by decide +kernel
theorem dX0_attacked_207 : decode cX0_attacked 207 = .ok (.iconst 2, 1) := by decide +kernel
theorem dX0_attacked_208 : decode cX0_attacked 208 = .ok (.invokevirtual 100, 3) := by decide +kernel
theorem dX0_attacked_211 : decode cX0_attacked 211 = .ok (.lload 12, 2) := by decide +kernel
theorem dX0_attacked_213 : decode cX0_attacked 213 = .ok (.land, 1) := by decide +kernel
theorem dX0_attacked_214 : decode cX0_attacked 214 = .ok (.lconst 0, 1) := by decide +kernel
theorem dX0_attacked_215 : decode cX0_attacked 215 = .ok (.lcmp, 1) := by decide +kernel
theorem dX0_attacked_216 : decode cX0_attacked 216 = .ok (.ifCond .eq 7, 3) := by decide +kernel
theorem dX0_attacked_219 : decode cX0_attacked 219 = .ok (.iconst 1, 1) := by decide +kernel
theorem dX0_attacked_220 : decode cX0_attacked 220 = .ok (.goto 4, 3) := by decide +kernel
theorem dX0_attacked_223 : decode cX0_attacked 223 = .ok (.iconst 0, 1) := by decide +kernel
theorem dX0_attacked_224 : decode cX0_attacked 224 = .ok (.ireturn, 1) := by decide +kernel
def kX0_attacked_146 (mc ms : Nat) (X : Nat → zV) (Q : zQt) : zT :=
  zll 10 <| zjj (fun x y => x &&& y) <| zc (.long 0) <| zlc <| zif (fun x => x = 0) (zj X 156 [0, 1, 3, 5, 7]) <| zc (.int 1) <| zrz .boolean Q
def kX0_attacked_119 (mc ms : Nat) (X : Nat → zV) (Q : zQt) : zT :=
  zla 0 <| zgR 0 0 <| zgR 1 4 <| zli 1 <| zall <| zll 10 <| zjj (fun x y => x &&& y) <| zc (.long 0) <| zlc <| zif (fun x => x = 0) (zj X 156 [0, 1, 3, 5, 7]) <| zla 0 <| zgR 0 0 <| zli 1 <| zll 3 <| zc (.int 0) <| zcv mc ms 1 3 wX1_lines <| kX0_attacked_146 mc ms X Q
def kX0_attacked_75 (mc ms : Nat) (X : Nat → zV) (Q : zQt) : zT :=
  zll 8 <| zll 5 <| zc (.long (-1)) <| zjj (fun x y => x ^^^ y) <| zjj (fun x y => x &&& y) <| zc (.long 0) <| zlc <| zif (fun x => x = 0) (zla 0 <| zgR 0 2 <| zli 7 <| zc (.int 4) <| zii (fun x y => x + y) <| zall <| zla 0 <| zgR 0 2 <| zli 7 <| zc (.int 5) <| zii (fun x y => x + y) <| zall <| zjj (fun x y => x ||| y) <| zll 5 <| zc (.long (-1)) <| zjj (fun x y => x ^^^ y) <| zjj (fun x y => x &&& y) <| zslN 10 <| kX0_attacked_119 mc ms X Q) <| zc (.int 1) <| zrz .boolean Q
def kX0_attacked_211 (mc ms : Nat) (X : Nat → zV) (Q : zQt) : zT :=
  zll 12 <| zjj (fun x y => x &&& y) <| zc (.long 0) <| zlc <| zif (fun x => x = 0) (zj X 223 []) <| zc (.int 1) <| zj X 224 []
def kX0_attacked_184 (mc ms : Nat) (X : Nat → zV) (Q : zQt) : zT :=
  zla 0 <| zgR 0 0 <| zgR 1 5 <| zli 1 <| zall <| zll 12 <| zjj (fun x y => x &&& y) <| zc (.long 0) <| zlc <| zif (fun x => x = 0) (zj X 223 []) <| zla 0 <| zgR 0 0 <| zli 1 <| zll 3 <| zc (.int 2) <| zcv mc ms 1 3 wX1_lines <| kX0_attacked_211 mc ms X Q
def aX0_attacked_0 (mc ms : Nat) (X : Nat → zV) (Q : zQt) : zT :=
  zc (.int 6) <| zli 2 <| zii (fun x y => x * y) <| zsi 7 <| zla 0 <| zgR 0 0 <| zgR 1 0 <| zli 1 <| zall <| zla 0 <| zgR 0 2 <| zli 7 <| zc (.int 2) <| zii (fun x y => x + y) <| zall <| zjj (fun x y => x &&& y) <| zla 0 <| zgR 0 0 <| zgR 1 1 <| zli 1 <| zall <| zla 0 <| zgR 0 2 <| zli 7 <| zc (.int 6) <| zii (fun x y => x + y) <| zall <| zjj (fun x y => x &&& y) <| zjj (fun x y => x ||| y) <| zla 0 <| zgR 0 0 <| zgR 1 2 <| zc (.int 1) <| zli 2 <| zii (fun x y => x - y) <| zc (.int 64) <| zii (fun x y => x * y) <| zli 1 <| zii (fun x y => x + y) <| zall <| zla 0 <| zgR 0 2 <| zli 7 <| zc (.int 1) <| zii (fun x y => x + y) <| zall <| zjj (fun x y => x &&& y) <| zjj (fun x y => x ||| y) <| zslN 8 <| kX0_attacked_75 mc ms X Q
def aX0_attacked_156 (mc ms : Nat) (X : Nat → zV) (Q : zQt) : zT :=
  zla 0 <| zgR 0 2 <| zli 7 <| zc (.int 3) <| zii (fun x y => x + y) <| zall <| zla 0 <| zgR 0 2 <| zli 7 <| zc (.int 5) <| zii (fun x y => x + y) <| zall <| zjj (fun x y => x ||| y) <| zll 5 <| zc (.long (-1)) <| zjj (fun x y => x ^^^ y) <| zjj (fun x y => x &&& y) <| zslN 12 <| kX0_attacked_184 mc ms X Q
def aX0_attacked_223 (mc ms : Nat) (X : Nat → zV) (Q : zQt) : zT :=
  zc (.int 0) <| zj X 224 []
def aX0_attacked_224 (mc ms : Nat) (X : Nat → zV) (Q : zQt) : zT :=
  zrz .boolean Q
def lvX0_attacked : Nat → List Nat := fun L => match L with
  | 0 => [0, 1, 2, 3, 5]
  | 156 => [0, 1, 3, 5, 7]
  | 223 => []
  | 224 => []
  | _ => []
def wX0_attacked : zSp := fun mc ms av M Q => ((zlay av).length ≤ 14 ∧ zpick (zlay av) [0, 1, 2, 3, 5] = some av) ∧ ∀ X : Nat → zV, zin 14 [0, 1, 2, 3, 5] (aX0_attacked_0 mc ms X Q) X 0 → zin 14 [0, 1, 3, 5, 7] (aX0_attacked_156 mc ms X Q) X 156 → zin 14 [] (aX0_attacked_223 mc ms X Q) X 223 → zin 14 [] (aX0_attacked_224 mc ms X Q) X 224 → X 0 0 0 av [] M
set_option maxRecDepth 100000 in
set_option maxHeartbeats 4000000 in
theorem sX0_attacked (l : Launch) (G : zG) : zSnd l G yX0_attacked cX0_attacked 14 (some .boolean) 1 33 wX0_attacked := by
  refine zmk [0, 1, 2, 3, 5] (by decide) (fun mc ms av M Q h => h.1) ?_
  intro p e R s m args below meth c mc ms av M Q hC hRf hRl hr hnm h lv hlv
  obtain ⟨X, hXe⟩ : ∃ X : Nat → zV, X = fun L u v vs st M => ∀ lv, zpick lv (lvX0_attacked L) = some vs → zAt p l e R s m args below meth c (MQ below (zQ G Q) args s mc ms (zA G)) G 14 L u v lv st M := ⟨_, rfl⟩
  have hJ : ∀ L, zOk p l e R s m args below meth c (MQ below (zQ G Q) args s mc ms (zA G)) G 14 L (zj X L (lvX0_attacked L)) := fun L => S_jump (fun u v lv vs st M hp hx => by rw [hXe] at hx; exact hx lv hp)
  have hB0 : zin 14 [0, 1, 2, 3, 5] (aX0_attacked_0 mc ms X Q) X 0 := by
    intro u v vs st M hb
    rw [hXe]
    refine fun lv hp => S_block (L := 0) (live := [0, 1, 2, 3, 5]) ?_ u v lv vs st M hp hb
    unfold aX0_attacked_0
    refine S_bipush (pc := 0) hC dX0_attacked_0 (by decide) ?_
    refine S_iload_n (pc := 2) hC dX0_attacked_2 rfl ?_
    refine S_imul (pc := 3) hC dX0_attacked_3 ?_
    refine S_istore (pc := 4) hC dX0_attacked_4 (by decide) ?_
    refine S_aload_n (pc := 6) hC dX0_attacked_6 rfl ?_
    refine S_getR (pc := 7) hC cfX0 (by decide) (Or.inl ⟨_, rfl⟩) wd_212 dX0_attacked_7 ?_
    refine S_getR (pc := 10) hC cfX1 (by decide) (Or.inr ⟨_, rfl⟩) wd_59 dX0_attacked_10 ?_
    refine S_iload_n (pc := 13) hC dX0_attacked_13 rfl ?_
    refine S_laload (pc := 14) hC dX0_attacked_14 ?_
    refine S_aload_n (pc := 15) hC dX0_attacked_15 rfl ?_
    refine S_getR (pc := 16) hC cfX0 (by decide) (Or.inr ⟨_, rfl⟩) wd_220 dX0_attacked_16 ?_
    refine S_iload (pc := 19) hC dX0_attacked_19 ?_
    refine S_iconst (pc := 21) hC dX0_attacked_21 (by decide) ?_
    refine S_iadd (pc := 22) hC dX0_attacked_22 ?_
    refine S_laload (pc := 23) hC dX0_attacked_23 ?_
    refine S_land (pc := 24) hC dX0_attacked_24 ?_
    refine S_aload_n (pc := 25) hC dX0_attacked_25 rfl ?_
    refine S_getR (pc := 26) hC cfX0 (by decide) (Or.inl ⟨_, rfl⟩) wd_212 dX0_attacked_26 ?_
    refine S_getR (pc := 29) hC cfX1 (by decide) (Or.inr ⟨_, rfl⟩) wd_63 dX0_attacked_29 ?_
    refine S_iload_n (pc := 32) hC dX0_attacked_32 rfl ?_
    refine S_laload (pc := 33) hC dX0_attacked_33 ?_
    refine S_aload_n (pc := 34) hC dX0_attacked_34 rfl ?_
    refine S_getR (pc := 35) hC cfX0 (by decide) (Or.inr ⟨_, rfl⟩) wd_220 dX0_attacked_35 ?_
    refine S_iload (pc := 38) hC dX0_attacked_38 ?_
    refine S_bipush (pc := 40) hC dX0_attacked_40 (by decide) ?_
    refine S_iadd (pc := 42) hC dX0_attacked_42 ?_
    refine S_laload (pc := 43) hC dX0_attacked_43 ?_
    refine S_land (pc := 44) hC dX0_attacked_44 ?_
    refine S_lor (pc := 45) hC dX0_attacked_45 ?_
    refine S_aload_n (pc := 46) hC dX0_attacked_46 rfl ?_
    refine S_getR (pc := 47) hC cfX0 (by decide) (Or.inl ⟨_, rfl⟩) wd_212 dX0_attacked_47 ?_
    refine S_getR (pc := 50) hC cfX1 (by decide) (Or.inr ⟨_, rfl⟩) wd_67 dX0_attacked_50 ?_
    refine S_iconst (pc := 53) hC dX0_attacked_53 (by decide) ?_
    refine S_iload_n (pc := 54) hC dX0_attacked_54 rfl ?_
    refine S_isub (pc := 55) hC dX0_attacked_55 ?_
    refine S_bipush (pc := 56) hC dX0_attacked_56 (by decide) ?_
    refine S_imul (pc := 58) hC dX0_attacked_58 ?_
    refine S_iload_n (pc := 59) hC dX0_attacked_59 rfl ?_
    refine S_iadd (pc := 60) hC dX0_attacked_60 ?_
    refine S_laload (pc := 61) hC dX0_attacked_61 ?_
    refine S_aload_n (pc := 62) hC dX0_attacked_62 rfl ?_
    refine S_getR (pc := 63) hC cfX0 (by decide) (Or.inr ⟨_, rfl⟩) wd_220 dX0_attacked_63 ?_
    refine S_iload (pc := 66) hC dX0_attacked_66 ?_
    refine S_iconst (pc := 68) hC dX0_attacked_68 (by decide) ?_
    refine S_iadd (pc := 69) hC dX0_attacked_69 ?_
    refine S_laload (pc := 70) hC dX0_attacked_70 ?_
    refine S_land (pc := 71) hC dX0_attacked_71 ?_
    refine S_lor (pc := 72) hC dX0_attacked_72 ?_
    refine S_lstore_N (pc := 73) hC dX0_attacked_73 (by decide) ?_
    unfold kX0_attacked_75
    refine S_lload (pc := 75) hC dX0_attacked_75 ?_
    refine S_lload (pc := 77) hC dX0_attacked_77 ?_
    refine S_ldc2 (pc := 79) hC wd_410 dX0_attacked_79 ?_
    refine S_lxor (pc := 82) hC dX0_attacked_82 ?_
    refine S_land (pc := 83) hC dX0_attacked_83 ?_
    refine S_lconst (pc := 84) hC dX0_attacked_84 (by decide) ?_
    refine S_lcmp (pc := 85) hC dX0_attacked_85 ?_
    refine S_if_eq (pc := 86) (tgt := 91) hC dX0_attacked_86 (by decide) ?_ ?_
    · refine S_aload_n (pc := 91) hC dX0_attacked_91 rfl ?_
      refine S_getR (pc := 92) hC cfX0 (by decide) (Or.inr ⟨_, rfl⟩) wd_220 dX0_attacked_92 ?_
      refine S_iload (pc := 95) hC dX0_attacked_95 ?_
      refine S_iconst (pc := 97) hC dX0_attacked_97 (by decide) ?_
      refine S_iadd (pc := 98) hC dX0_attacked_98 ?_
      refine S_laload (pc := 99) hC dX0_attacked_99 ?_
      refine S_aload_n (pc := 100) hC dX0_attacked_100 rfl ?_
      refine S_getR (pc := 101) hC cfX0 (by decide) (Or.inr ⟨_, rfl⟩) wd_220 dX0_attacked_101 ?_
      refine S_iload (pc := 104) hC dX0_attacked_104 ?_
      refine S_iconst (pc := 106) hC dX0_attacked_106 (by decide) ?_
      refine S_iadd (pc := 107) hC dX0_attacked_107 ?_
      refine S_laload (pc := 108) hC dX0_attacked_108 ?_
      refine S_lor (pc := 109) hC dX0_attacked_109 ?_
      refine S_lload (pc := 110) hC dX0_attacked_110 ?_
      refine S_ldc2 (pc := 112) hC wd_410 dX0_attacked_112 ?_
      refine S_lxor (pc := 115) hC dX0_attacked_115 ?_
      refine S_land (pc := 116) hC dX0_attacked_116 ?_
      refine S_lstore_N (pc := 117) hC dX0_attacked_117 (by decide) ?_
      unfold kX0_attacked_119
      refine S_aload_n (pc := 119) hC dX0_attacked_119 rfl ?_
      refine S_getR (pc := 120) hC cfX0 (by decide) (Or.inl ⟨_, rfl⟩) wd_212 dX0_attacked_120 ?_
      refine S_getR (pc := 123) hC cfX1 (by decide) (Or.inr ⟨_, rfl⟩) wd_71 dX0_attacked_123 ?_
      refine S_iload_n (pc := 126) hC dX0_attacked_126 rfl ?_
      refine S_laload (pc := 127) hC dX0_attacked_127 ?_
      refine S_lload (pc := 128) hC dX0_attacked_128 ?_
      refine S_land (pc := 130) hC dX0_attacked_130 ?_
      refine S_lconst (pc := 131) hC dX0_attacked_131 (by decide) ?_
      refine S_lcmp (pc := 132) hC dX0_attacked_132 ?_
      refine S_if_eq (pc := 133) (tgt := 156) hC dX0_attacked_133 (by decide) ?_ ?_
      · exact hJ 156
      · refine S_aload_n (pc := 136) hC dX0_attacked_136 rfl ?_
        refine S_getR (pc := 137) hC cfX0 (by decide) (Or.inl ⟨_, rfl⟩) wd_212 dX0_attacked_137 ?_
        refine S_iload_n (pc := 140) hC dX0_attacked_140 rfl ?_
        refine S_lload_n (pc := 141) hC dX0_attacked_141 rfl ?_
        refine S_iconst (pc := 142) hC dX0_attacked_142 (by decide) ?_
        refine S_callV (pc := 143) hC (sX1_lines l G) rfl wd_451 wd_452 wd_453 wd_2 wd_454 (by decide +kernel) ⟨by rw [hRf]; decide, by rw [hRl]; decide⟩ dX0_attacked_143 ?_
        unfold kX0_attacked_146
        refine S_lload (pc := 146) hC dX0_attacked_146 ?_
        refine S_land (pc := 148) hC dX0_attacked_148 ?_
        refine S_lconst (pc := 149) hC dX0_attacked_149 (by decide) ?_
        refine S_lcmp (pc := 150) hC dX0_attacked_150 ?_
        refine S_if_eq (pc := 151) (tgt := 156) hC dX0_attacked_151 (by decide) ?_ ?_
        · exact hJ 156
        · refine S_iconst (pc := 154) hC dX0_attacked_154 (by decide) ?_
          exact S_zreturn (pc := 155) hC hr dX0_attacked_155
    · refine S_iconst (pc := 89) hC dX0_attacked_89 (by decide) ?_
      exact S_zreturn (pc := 90) hC hr dX0_attacked_90
  have hB156 : zin 14 [0, 1, 3, 5, 7] (aX0_attacked_156 mc ms X Q) X 156 := by
    intro u v vs st M hb
    rw [hXe]
    refine fun lv hp => S_block (L := 156) (live := [0, 1, 3, 5, 7]) ?_ u v lv vs st M hp hb
    unfold aX0_attacked_156
    refine S_aload_n (pc := 156) hC dX0_attacked_156 rfl ?_
    refine S_getR (pc := 157) hC cfX0 (by decide) (Or.inr ⟨_, rfl⟩) wd_220 dX0_attacked_157 ?_
    refine S_iload (pc := 160) hC dX0_attacked_160 ?_
    refine S_iconst (pc := 162) hC dX0_attacked_162 (by decide) ?_
    refine S_iadd (pc := 163) hC dX0_attacked_163 ?_
    refine S_laload (pc := 164) hC dX0_attacked_164 ?_
    refine S_aload_n (pc := 165) hC dX0_attacked_165 rfl ?_
    refine S_getR (pc := 166) hC cfX0 (by decide) (Or.inr ⟨_, rfl⟩) wd_220 dX0_attacked_166 ?_
    refine S_iload (pc := 169) hC dX0_attacked_169 ?_
    refine S_iconst (pc := 171) hC dX0_attacked_171 (by decide) ?_
    refine S_iadd (pc := 172) hC dX0_attacked_172 ?_
    refine S_laload (pc := 173) hC dX0_attacked_173 ?_
    refine S_lor (pc := 174) hC dX0_attacked_174 ?_
    refine S_lload (pc := 175) hC dX0_attacked_175 ?_
    refine S_ldc2 (pc := 177) hC wd_410 dX0_attacked_177 ?_
    refine S_lxor (pc := 180) hC dX0_attacked_180 ?_
    refine S_land (pc := 181) hC dX0_attacked_181 ?_
    refine S_lstore_N (pc := 182) hC dX0_attacked_182 (by decide) ?_
    unfold kX0_attacked_184
    refine S_aload_n (pc := 184) hC dX0_attacked_184 rfl ?_
    refine S_getR (pc := 185) hC cfX0 (by decide) (Or.inl ⟨_, rfl⟩) wd_212 dX0_attacked_185 ?_
    refine S_getR (pc := 188) hC cfX1 (by decide) (Or.inr ⟨_, rfl⟩) wd_74 dX0_attacked_188 ?_
    refine S_iload_n (pc := 191) hC dX0_attacked_191 rfl ?_
    refine S_laload (pc := 192) hC dX0_attacked_192 ?_
    refine S_lload (pc := 193) hC dX0_attacked_193 ?_
    refine S_land (pc := 195) hC dX0_attacked_195 ?_
    refine S_lconst (pc := 196) hC dX0_attacked_196 (by decide) ?_
    refine S_lcmp (pc := 197) hC dX0_attacked_197 ?_
    refine S_if_eq (pc := 198) (tgt := 223) hC dX0_attacked_198 (by decide) ?_ ?_
    · exact hJ 223
    · refine S_aload_n (pc := 201) hC dX0_attacked_201 rfl ?_
      refine S_getR (pc := 202) hC cfX0 (by decide) (Or.inl ⟨_, rfl⟩) wd_212 dX0_attacked_202 ?_
      refine S_iload_n (pc := 205) hC dX0_attacked_205 rfl ?_
      refine S_lload_n (pc := 206) hC dX0_attacked_206 rfl ?_
      refine S_iconst (pc := 207) hC dX0_attacked_207 (by decide) ?_
      refine S_callV (pc := 208) hC (sX1_lines l G) rfl wd_451 wd_452 wd_453 wd_2 wd_454 (by decide +kernel) ⟨by rw [hRf]; decide, by rw [hRl]; decide⟩ dX0_attacked_208 ?_
      unfold kX0_attacked_211
      refine S_lload (pc := 211) hC dX0_attacked_211 ?_
      refine S_land (pc := 213) hC dX0_attacked_213 ?_
      refine S_lconst (pc := 214) hC dX0_attacked_214 (by decide) ?_
      refine S_lcmp (pc := 215) hC dX0_attacked_215 ?_
      refine S_if_eq (pc := 216) (tgt := 223) hC dX0_attacked_216 (by decide) ?_ ?_
      · exact hJ 223
      · refine S_iconst (pc := 219) hC dX0_attacked_219 (by decide) ?_
        refine S_goto (pc := 220) (tgt := 224) hC dX0_attacked_220 (by decide) ?_
        exact hJ 224
  have hB223 : zin 14 [] (aX0_attacked_223 mc ms X Q) X 223 := by
    intro u v vs st M hb
    rw [hXe]
    refine fun lv hp => S_block (L := 223) (live := []) ?_ u v lv vs st M hp hb
    unfold aX0_attacked_223
    refine S_iconst (pc := 223) hC dX0_attacked_223 (by decide) ?_
    exact hJ 224
  have hB224 : zin 14 [] (aX0_attacked_224 mc ms X Q) X 224 := by
    intro u v vs st M hb
    rw [hXe]
    refine fun lv hp => S_block (L := 224) (live := []) ?_ u v lv vs st M hp hb
    unfold aX0_attacked_224
    exact S_zreturn (pc := 224) hC hr dX0_attacked_224
  have := h.2 X hB0 hB156 hB223 hB224
  rw [hXe] at this
  exact this lv hlv
theorem vcX0_attacked_119 {mc ms : Nat} {X : Nat → zV} {Q : zQt} {M : zM} {g : Nat} {x1 : Int32} {x2 : Int32} {x3 : Int64} {x5 : Int64} {x7 : Int32} {x8 : Int64} {x10 : Int64} (hW : zWd M g)  (h : vp_in x1 64 ∧ ((lg_cmp ((((M : zM).2.1 22 (x1 : Int32).toNatClampNeg) &&& x10)) ((0 : Int64))) = 0 → X 156 0 0 [.ref (g + 1), .int x1, .long x3, .long x5, .int x7] [] M) ∧ (¬ (lg_cmp ((((M : zM).2.1 22 (x1 : Int32).toNatClampNeg) &&& x10)) ((0 : Int64))) = 0 → wX1_lines 0 0 [.ref 17, .int x1, .long x3, .int 0] M (fun r M1 => kX0_attacked_146 mc ms X Q 0 0 [some (.ref (g + 1)), some (.int x1), some (.int x2), some (.long x3), none, some (.long x5), none, some (.int x7), some (.long x8), none, some (.long x10), none, none, none] (r.toList ++ []) M1))) : kX0_attacked_119 mc ms X Q 0 0 [some (.ref (g + 1)), some (.int x1), some (.int x2), some (.long x3), none, some (.long x5), none, some (.int x7), some (.long x8), none, some (.long x10), none, none, none] [] M := ⟨(fgs_1 hW), 17, (fgr_1_0 hW), ⟨(fxs_17 hW.1), 22, (fxr_17_4 hW.1), ⟨64, (fxs_22 hW.1), h.1, ⟨fun c133 => (h.2.1 c133), fun c133 => ⟨(fgs_1 hW), 17, (fgr_1_0 hW), ⟨Nat.le_of_ble_eq_true rfl, rfl, (fxs_17 hW.1), 0, 0, Nat.zero_le _, Nat.zero_le _, (h.2.2 c133)⟩⟩⟩⟩⟩⟩
theorem vcX0_attacked_75 {mc ms : Nat} {X : Nat → zV} {Q : zQt} {M : zM} {g : Nat} {x1 : Int32} {x2 : Int32} {x3 : Int64} {x5 : Int64} {x7 : Int32} {x8 : Int64} (hW : zWd M g)  (h : ((lg_cmp ((x8 &&& (x5 ^^^ ((-1) : Int64)))) ((0 : Int64))) = 0 → vp_in ((x7 + (4 : Int32))) 13 ∧ vp_in ((x7 + (5 : Int32))) 13 ∧ ∀ y117 : Int64, y117 = ((((M : zM).2.1 ((g + 3)) ((x7 + (4 : Int32)) : Int32).toNatClampNeg) ||| ((M : zM).2.1 ((g + 3)) ((x7 + (5 : Int32)) : Int32).toNatClampNeg)) &&& (x5 ^^^ ((-1) : Int64))) → vp_in x1 64 ∧ ((lg_cmp ((((M : zM).2.1 22 (x1 : Int32).toNatClampNeg) &&& y117)) ((0 : Int64))) = 0 → X 156 0 0 [.ref (g + 1), .int x1, .long x3, .long x5, .int x7] [] M) ∧ (¬ (lg_cmp ((((M : zM).2.1 22 (x1 : Int32).toNatClampNeg) &&& y117)) ((0 : Int64))) = 0 → wX1_lines 0 0 [.ref 17, .int x1, .long x3, .int 0] M (fun r M1 => kX0_attacked_146 mc ms X Q 0 0 [some (.ref (g + 1)), some (.int x1), some (.int x2), some (.long x3), none, some (.long x5), none, some (.int x7), some (.long x8), none, some (.long y117), none, none, none] (r.toList ++ []) M1))) ∧ (¬ (lg_cmp ((x8 &&& (x5 ^^^ ((-1) : Int64)))) ((0 : Int64))) = 0 → Q (some (.int 1)) M)) : kX0_attacked_75 mc ms X Q 0 0 [some (.ref (g + 1)), some (.int x1), some (.int x2), some (.long x3), none, some (.long x5), none, some (.int x7), some (.long x8), none, none, none, none, none] [] M := ⟨fun c86 => ⟨(fgs_1 hW), (g + 3), (fgr_1_2 hW), ⟨13, (fgs_3 hW), (h.1 c86).1, ⟨(fgs_1 hW), (g + 3), (fgr_1_2 hW), ⟨13, (fgs_3 hW), (h.1 c86).2.1, (fun y117 e117 => have h117 := (h.1 c86).2.2 y117 e117; (vcX0_attacked_119 hW  h117))⟩⟩⟩⟩, fun c86 => ⟨rfl, (h.2 c86)⟩⟩
theorem vX0_attacked_0 {mc ms : Nat} {X : Nat → zV} {Q : zQt} {M : zM} {g : Nat} {x1 : Int32} {x2 : Int32} {x3 : Int64} {x5 : Int64} (hW : zWd M g)  (h : vp_in x1 64 ∧ vp_in ((((6 : Int32) * x2) + (2 : Int32))) 13 ∧ vp_in x1 64 ∧ vp_in ((((6 : Int32) * x2) + (6 : Int32))) 13 ∧ vp_in (((((1 : Int32) - x2) * (64 : Int32)) + x1)) 128 ∧ vp_in ((((6 : Int32) * x2) + (1 : Int32))) 13 ∧ ∀ y73 : Int64, y73 = (((((M : zM).2.1 18 (x1 : Int32).toNatClampNeg) &&& ((M : zM).2.1 ((g + 3)) ((((6 : Int32) * x2) + (2 : Int32)) : Int32).toNatClampNeg)) ||| (((M : zM).2.1 19 (x1 : Int32).toNatClampNeg) &&& ((M : zM).2.1 ((g + 3)) ((((6 : Int32) * x2) + (6 : Int32)) : Int32).toNatClampNeg))) ||| (((M : zM).2.1 20 (((((1 : Int32) - x2) * (64 : Int32)) + x1) : Int32).toNatClampNeg) &&& ((M : zM).2.1 ((g + 3)) ((((6 : Int32) * x2) + (1 : Int32)) : Int32).toNatClampNeg))) → ((lg_cmp ((y73 &&& (x5 ^^^ ((-1) : Int64)))) ((0 : Int64))) = 0 → vp_in ((((6 : Int32) * x2) + (4 : Int32))) 13 ∧ vp_in ((((6 : Int32) * x2) + (5 : Int32))) 13 ∧ ∀ y117 : Int64, y117 = ((((M : zM).2.1 ((g + 3)) ((((6 : Int32) * x2) + (4 : Int32)) : Int32).toNatClampNeg) ||| ((M : zM).2.1 ((g + 3)) ((((6 : Int32) * x2) + (5 : Int32)) : Int32).toNatClampNeg)) &&& (x5 ^^^ ((-1) : Int64))) → vp_in x1 64 ∧ ((lg_cmp ((((M : zM).2.1 22 (x1 : Int32).toNatClampNeg) &&& y117)) ((0 : Int64))) = 0 → X 156 0 0 [.ref (g + 1), .int x1, .long x3, .long x5, .int ((6 : Int32) * x2)] [] M) ∧ (¬ (lg_cmp ((((M : zM).2.1 22 (x1 : Int32).toNatClampNeg) &&& y117)) ((0 : Int64))) = 0 → wX1_lines 0 0 [.ref 17, .int x1, .long x3, .int 0] M (fun r M1 => kX0_attacked_146 mc ms X Q 0 0 [some (.ref (g + 1)), some (.int x1), some (.int x2), some (.long x3), none, some (.long x5), none, some (.int ((6 : Int32) * x2)), some (.long y73), none, some (.long y117), none, none, none] (r.toList ++ []) M1))) ∧ (¬ (lg_cmp ((y73 &&& (x5 ^^^ ((-1) : Int64)))) ((0 : Int64))) = 0 → Q (some (.int 1)) M)) : aX0_attacked_0 mc ms X Q 0 0 [some (.ref (g + 1)), some (.int x1), some (.int x2), some (.long x3), none, some (.long x5), none, none, none, none, none, none, none, none] [] M := ⟨(fgs_1 hW), 17, (fgr_1_0 hW), ⟨(fxs_17 hW.1), 18, (fxr_17_0 hW.1), ⟨64, (fxs_18 hW.1), h.1, ⟨(fgs_1 hW), (g + 3), (fgr_1_2 hW), ⟨13, (fgs_3 hW), h.2.1, ⟨(fgs_1 hW), 17, (fgr_1_0 hW), ⟨(fxs_17 hW.1), 19, (fxr_17_1 hW.1), ⟨64, (fxs_19 hW.1), h.2.2.1, ⟨(fgs_1 hW), (g + 3), (fgr_1_2 hW), ⟨13, (fgs_3 hW), h.2.2.2.1, ⟨(fgs_1 hW), 17, (fgr_1_0 hW), ⟨(fxs_17 hW.1), 20, (fxr_17_2 hW.1), ⟨128, (fxs_20 hW.1), h.2.2.2.2.1, ⟨(fgs_1 hW), (g + 3), (fgr_1_2 hW), ⟨13, (fgs_3 hW), h.2.2.2.2.2.1, (fun y73 e73 => have h73 := h.2.2.2.2.2.2 y73 e73; (vcX0_attacked_75 hW  h73))⟩⟩⟩⟩⟩⟩⟩⟩⟩⟩⟩⟩⟩⟩⟩
theorem vcX0_attacked_184 {mc ms : Nat} {X : Nat → zV} {Q : zQt} {M : zM} {g : Nat} {x1 : Int32} {x3 : Int64} {x5 : Int64} {x7 : Int32} {x12 : Int64} (hW : zWd M g)  (h : vp_in x1 64 ∧ ((lg_cmp ((((M : zM).2.1 23 (x1 : Int32).toNatClampNeg) &&& x12)) ((0 : Int64))) = 0 → X 223 0 0 [] [] M) ∧ (¬ (lg_cmp ((((M : zM).2.1 23 (x1 : Int32).toNatClampNeg) &&& x12)) ((0 : Int64))) = 0 → wX1_lines 0 0 [.ref 17, .int x1, .long x3, .int 2] M (fun r M1 => kX0_attacked_211 mc ms X Q 0 0 [some (.ref (g + 1)), some (.int x1), none, some (.long x3), none, some (.long x5), none, some (.int x7), none, none, none, none, some (.long x12), none] (r.toList ++ []) M1))) : kX0_attacked_184 mc ms X Q 0 0 [some (.ref (g + 1)), some (.int x1), none, some (.long x3), none, some (.long x5), none, some (.int x7), none, none, none, none, some (.long x12), none] [] M := ⟨(fgs_1 hW), 17, (fgr_1_0 hW), ⟨(fxs_17 hW.1), 23, (fxr_17_5 hW.1), ⟨64, (fxs_23 hW.1), h.1, ⟨fun c198 => (h.2.1 c198), fun c198 => ⟨(fgs_1 hW), 17, (fgr_1_0 hW), ⟨Nat.le_of_ble_eq_true rfl, rfl, (fxs_17 hW.1), 0, 0, Nat.zero_le _, Nat.zero_le _, (h.2.2 c198)⟩⟩⟩⟩⟩⟩
theorem vX0_attacked_156 {mc ms : Nat} {X : Nat → zV} {Q : zQt} {M : zM} {g : Nat} {x1 : Int32} {x3 : Int64} {x5 : Int64} {x7 : Int32} (hW : zWd M g)  (h : vp_in ((x7 + (3 : Int32))) 13 ∧ vp_in ((x7 + (5 : Int32))) 13 ∧ ∀ y182 : Int64, y182 = ((((M : zM).2.1 ((g + 3)) ((x7 + (3 : Int32)) : Int32).toNatClampNeg) ||| ((M : zM).2.1 ((g + 3)) ((x7 + (5 : Int32)) : Int32).toNatClampNeg)) &&& (x5 ^^^ ((-1) : Int64))) → vp_in x1 64 ∧ ((lg_cmp ((((M : zM).2.1 23 (x1 : Int32).toNatClampNeg) &&& y182)) ((0 : Int64))) = 0 → X 223 0 0 [] [] M) ∧ (¬ (lg_cmp ((((M : zM).2.1 23 (x1 : Int32).toNatClampNeg) &&& y182)) ((0 : Int64))) = 0 → wX1_lines 0 0 [.ref 17, .int x1, .long x3, .int 2] M (fun r M1 => kX0_attacked_211 mc ms X Q 0 0 [some (.ref (g + 1)), some (.int x1), none, some (.long x3), none, some (.long x5), none, some (.int x7), none, none, none, none, some (.long y182), none] (r.toList ++ []) M1))) : aX0_attacked_156 mc ms X Q 0 0 [some (.ref (g + 1)), some (.int x1), none, some (.long x3), none, some (.long x5), none, some (.int x7), none, none, none, none, none, none] [] M := ⟨(fgs_1 hW), (g + 3), (fgr_1_2 hW), ⟨13, (fgs_3 hW), h.1, ⟨(fgs_1 hW), (g + 3), (fgr_1_2 hW), ⟨13, (fgs_3 hW), h.2.1, (fun y182 e182 => have h182 := h.2.2 y182 e182; (vcX0_attacked_184 hW  h182))⟩⟩⟩⟩
theorem vX0_attacked_223 {mc ms : Nat} {X : Nat → zV} {Q : zQt} {M : zM} {g : Nat}  (hW : zWd M g)  (h : X 224 0 0 [] [.int 0] M) : aX0_attacked_223 mc ms X Q 0 0 [none, none, none, none, none, none, none, none, none, none, none, none, none, none] [] M := h
theorem vX0_attacked_224 {mc ms : Nat} {X : Nat → zV} {Q : zQt} {M : zM} {g : Nat} {s0 : Int32} (hW : zWd M g)  (h : narrow .boolean (.int s0) = .int s0 ∧ Q (some (.int s0)) M) : aX0_attacked_224 mc ms X Q 0 0 [none, none, none, none, none, none, none, none, none, none, none, none, none, none] [.int s0] M := h
theorem vkX0_attacked_146 {mc ms : Nat} {X : Nat → zV} {Q : zQt} {M : zM} {g : Nat} {x1 : Int32} {x2 : Int32} {x3 : Int64} {x5 : Int64} {x7 : Int32} {x8 : Int64} {x10 : Int64} {s0 : Int64} (hW : zWd M g)  (h : ((lg_cmp ((s0 &&& x10)) ((0 : Int64))) = 0 → X 156 0 0 [.ref (g + 1), .int x1, .long x3, .long x5, .int x7] [] M) ∧ (¬ (lg_cmp ((s0 &&& x10)) ((0 : Int64))) = 0 → Q (some (.int 1)) M)) : kX0_attacked_146 mc ms X Q 0 0 [some (.ref (g + 1)), some (.int x1), some (.int x2), some (.long x3), none, some (.long x5), none, some (.int x7), some (.long x8), none, some (.long x10), none, none, none] [.long s0] M := ⟨fun c151 => (h.1 c151), fun c151 => ⟨rfl, (h.2 c151)⟩⟩
theorem vkX0_attacked_211 {mc ms : Nat} {X : Nat → zV} {Q : zQt} {M : zM} {g : Nat} {x1 : Int32} {x3 : Int64} {x5 : Int64} {x7 : Int32} {x12 : Int64} {s0 : Int64} (hW : zWd M g)  (h : ((lg_cmp ((s0 &&& x12)) ((0 : Int64))) = 0 → X 223 0 0 [] [] M) ∧ (¬ (lg_cmp ((s0 &&& x12)) ((0 : Int64))) = 0 → X 224 0 0 [] [.int 1] M)) : kX0_attacked_211 mc ms X Q 0 0 [some (.ref (g + 1)), some (.int x1), none, some (.long x3), none, some (.long x5), none, some (.int x7), none, none, none, none, some (.long x12), none] [.long s0] M := ⟨fun c216 => (h.1 c216), fun c216 => (h.2 c216)⟩
theorem dX0_make_0 : decode cX0_make 0 = .ok (.iload_n 1, 1) := by decide +kernel
theorem dX0_make_1 : decode cX0_make 1 = .ok (.bipush 63, 2) := by decide +kernel
theorem dX0_make_3 : decode cX0_make 3 = .ok (.iand, 1) := by decide +kernel
theorem dX0_make_4 : decode cX0_make 4 = .ok (.istore_n 2, 1) := by decide +kernel
theorem dX0_make_5 : decode cX0_make 5 = .ok (.iload_n 1, 1) := by decide +kernel
theorem dX0_make_6 : decode cX0_make 6 = .ok (.bipush 6, 2) := by decide +kernel
theorem dX0_make_8 : decode cX0_make 8 = .ok (.ishr, 1) := by decide +kernel
theorem dX0_make_9 : decode cX0_make 9 = .ok (.bipush 63, 2) := by decide +kernel
theorem dX0_make_11 : decode cX0_make 11 = .ok (.iand, 1) := by decide +kernel
theorem dX0_make_12 : decode cX0_make 12 = .ok (.istore_n 3, 1) := by decide +kernel
theorem dX0_make_13 : decode cX0_make 13 = .ok (.iload_n 1, 1) := by decide +kernel
theorem dX0_make_14 : decode cX0_make 14 = .ok (.bipush 12, 2) := by decide +kernel
theorem dX0_make_16 : decode cX0_make 16 = .ok (.ishr, 1) := by decide +kernel
theorem dX0_make_17 : decode cX0_make 17 = .ok (.istore 4, 2) := by decide +kernel
theorem dX0_make_19 : decode cX0_make 19 = .ok (.aload_n 0, 1) := by decide +kernel
theorem dX0_make_20 : decode cX0_make 20 = .ok (.getfield 15, 3) := by decide +kernel
theorem dX0_make_23 : decode cX0_make 23 = .ok (.iload_n 2, 1) := by decide +kernel
theorem dX0_make_24 : decode cX0_make 24 = .ok (.iaload, 1) := by decide +kernel
theorem dX0_make_25 : decode cX0_make 25 = .ok (.istore 5, 2) := by decide +kernel
theorem dX0_make_27 : decode cX0_make 27 = .ok (.aload_n 0, 1) := by decide +kernel
theorem dX0_make_28 : decode cX0_make 28 = .ok (.iload_n 2, 1) := by decide +kernel
theorem dX0_make_29 : decode cX0_make 29 = .ok (.iload_n 3, 1) := by decide +kernel
theorem dX0_make_30 : decode cX0_make 30 = .ok (.invokevirtual 107, 3) := by decide +kernel
theorem dX0_make_33 : decode cX0_make 33 = .ok (.istore 6, 2) := by decide +kernel
theorem dX0_make_35 : decode cX0_make 35 = .ok (.iload 6, 2) := by decide +kernel
theorem dX0_make_37 : decode cX0_make 37 = .ok (.ifCond .eq 10, 3) := by decide +kernel
theorem dX0_make_40 : decode cX0_make 40 = .ok (.iload_n 3, 1) := by decide +kernel
theorem dX0_make_41 : decode cX0_make 41 = .ok (.bipush 8, 2) := by decide +kernel
theorem dX0_make_43 : decode cX0_make 43 = .ok (.ixor, 1) := by decide +kernel
theorem dX0_make_44 : decode cX0_make 44 = .ok (.goto 4, 3) := by decide +kernel
theorem dX0_make_47 : decode cX0_make 47 = .ok (.iload_n 3, 1) := by decide +kernel
theorem dX0_make_48 : decode cX0_make 48 = .ok (.istore 7, 2) := by decide +kernel
theorem dX0_make_50 : decode cX0_make 50 = .ok (.aload_n 0, 1) := by decide +kernel
theorem dX0_make_51 : decode cX0_make 51 = .ok (.getfield 15, 3) := by decide +kernel
theorem dX0_make_54 : decode cX0_make 54 = .ok (.iload 7, 2) := by decide +kernel
theorem dX0_make_56 : decode cX0_make 56 = .ok (.iaload, 1) := by decide +kernel
theorem dX0_make_57 : decode cX0_make 57 = .ok (.istore 8, 2) := by decide +kernel
theorem dX0_make_59 : decode cX0_make 59 = .ok (.aload_n 0, 1) := by decide +kernel
theorem dX0_make_60 : decode cX0_make 60 = .ok (.iload_n 2, 1) := by decide +kernel
theorem dX0_make_61 : decode cX0_make 61 = .ok (.iload_n 3, 1) := by decide +kernel
theorem dX0_make_62 : decode cX0_make 62 = .ok (.invokevirtual 111, 3) := by decide +kernel
theorem dX0_make_65 : decode cX0_make 65 = .ok (.istore 9, 2) := by decide +kernel
theorem dX0_make_67 : decode cX0_make 67 = .ok (.aload_n 0, 1) := by decide +kernel
theorem dX0_make_68 : decode cX0_make 68 = .ok (.getfield 26, 3) := by decide +kernel
theorem dX0_make_71 : decode cX0_make 71 = .ok (.aload_n 0, 1) := by decide +kernel
theorem dX0_make_72 : decode cX0_make 72 = .ok (.getfield 57, 3) := by decide +kernel
theorem dX0_make_75 : decode cX0_make 75 = .ok (.iload 8, 2) := by decide +kernel
theorem dX0_make_77 : decode cX0_make 77 = .ok (.aload_n 0, 1) := by decide +kernel
theorem dX0_make_78 : decode cX0_make 78 = .ok (.getfield 42, 3) := by decide +kernel
theorem dX0_make_81 : decode cX0_make 81 = .ok (.iconst 4, 1) := by decide +kernel
theorem dX0_make_82 : decode cX0_make 82 = .ok (.ishl, 1) := by decide +kernel
theorem dX0_make_83 : decode cX0_make 83 = .ok (.ior, 1) := by decide +kernel
theorem dX0_make_84 : decode cX0_make 84 = .ok (.aload_n 0, 1) := by decide +kernel
theorem dX0_make_85 : decode cX0_make 85 = .ok (.getfield 45, 3) := by decide +kernel
theorem dX0_make_88 : decode cX0_make 88 = .ok (.iconst 1, 1) := by decide +kernel
theorem dX0_make_89 : decode cX0_make 89 = .ok (.iadd, 1) := by decide +kernel
theorem dX0_make_90 : decode cX0_make 90 = .ok (.bipush 8, 2) := by decide +kernel
theorem dX0_make_92 : decode cX0_make 92 = .ok (.ishl, 1) := by decide +kernel
theorem dX0_make_93 : decode cX0_make 93 = .ok (.ior, 1) := by decide +kernel
theorem dX0_make_94 : decode cX0_make 94 = .ok (.aload_n 0, 1) := by decide +kernel
theorem dX0_make_95 : decode cX0_make 95 = .ok (.getfield 48, 3) := by decide +kernel
theorem dX0_make_98 : decode cX0_make 98 = .ok (.bipush 12, 2) := by decide +kernel
theorem dX0_make_100 : decode cX0_make 100 = .ok (.ishl, 1) := by decide +kernel
theorem dX0_make_101 : decode cX0_make 101 = .ok (.ior, 1) := by decide +kernel
theorem dX0_make_102 : decode cX0_make 102 = .ok (.iload 6, 2) := by decide +kernel
theorem dX0_make_104 : decode cX0_make 104 = .ok (.ifCond .eq 8, 3) := by decide +kernel
theorem dX0_make_107 : decode cX0_make 107 = .ok (.ldc 115, 2) := by decide +kernel
theorem dX0_make_109 : decode cX0_make 109 = .ok (.goto 4, 3) := by decide +kernel
theorem dX0_make_112 : decode cX0_make 112 = .ok (.iconst 0, 1) := by decide +kernel
theorem dX0_make_113 : decode cX0_make 113 = .ok (.ior, 1) := by decide +kernel
theorem dX0_make_114 : decode cX0_make 114 = .ok (.iastore, 1) := by decide +kernel
theorem dX0_make_115 : decode cX0_make 115 = .ok (.aload_n 0, 1) := by decide +kernel
theorem dX0_make_116 : decode cX0_make 116 = .ok (.dup, 1) := by decide +kernel
theorem dX0_make_117 : decode cX0_make 117 = .ok (.getfield 57, 3) := by decide +kernel
theorem dX0_make_120 : decode cX0_make 120 = .ok (.iconst 1, 1) := by decide +kernel
theorem dX0_make_121 : decode cX0_make 121 = .ok (.iadd, 1) := by decide +kernel
theorem dX0_make_122 : decode cX0_make 122 = .ok (.putfield 57, 3) := by decide +kernel
theorem dX0_make_125 : decode cX0_make 125 = .ok (.aload_n 0, 1) := by decide +kernel
theorem dX0_make_126 : decode cX0_make 126 = .ok (.iload_n 2, 1) := by decide +kernel
theorem dX0_make_127 : decode cX0_make 127 = .ok (.invokevirtual 116, 3) := by decide +kernel
theorem dX0_make_130 : decode cX0_make 130 = .ok (.iload 8, 2) := by decide +kernel
theorem dX0_make_132 : decode cX0_make 132 = .ok (.ifCond .eq 9, 3) := by decide +kernel
theorem dX0_make_135 : decode cX0_make 135 = .ok (.aload_n 0, 1) := by decide +kernel
theorem dX0_make_136 : decode cX0_make 136 = .ok (.iload 7, 2) := by decide +kernel
theorem dX0_make_138 : decode cX0_make 138 = .ok (.invokevirtual 116, 3) := by decide +kernel
theorem dX0_make_141 : decode cX0_make 141 = .ok (.aload_n 0, 1) := by decide +kernel
theorem dX0_make_142 : decode cX0_make 142 = .ok (.iload_n 3, 1) := by decide +kernel
theorem dX0_make_143 : decode cX0_make 143 = .ok (.iload 4, 2) := by decide +kernel
theorem dX0_make_145 : decode cX0_make 145 = .ok (.ifCond .ne 8, 3) := by decide +kernel
theorem dX0_make_148 : decode cX0_make 148 = .ok (.iload 5, 2) := by decide +kernel
theorem dX0_make_150 : decode cX0_make 150 = .ok (.goto 13, 3) := by decide +kernel
theorem dX0_make_153 : decode cX0_make 153 = .ok (.iload 4, 2) := by decide +kernel
theorem dX0_make_155 : decode cX0_make 155 = .ok (.bipush 6, 2) := by decide +kernel
theorem dX0_make_157 : decode cX0_make 157 = .ok (.aload_n 0, 1) := by decide +kernel
theorem dX0_make_158 : decode cX0_make 158 = .ok (.getfield 38, 3) := by decide +kernel
theorem dX0_make_161 : decode cX0_make 161 = .ok (.imul, 1) := by decide +kernel
theorem dX0_make_162 : decode cX0_make 162 = .ok (.iadd, 1) := by decide +kernel
theorem dX0_make_163 : decode cX0_make 163 = .ok (.invokevirtual 120, 3) := by decide +kernel
theorem dX0_make_166 : decode cX0_make 166 = .ok (.iload 9, 2) := by decide +kernel
theorem dX0_make_168 : decode cX0_make 168 = .ok (.ifCond .eq 40, 3) := by decide +kernel
theorem dX0_make_171 : decode cX0_make 171 = .ok (.aload_n 0, 1) := by decide +kernel
theorem dX0_make_172 : decode cX0_make 172 = .ok (.iload 9, 2) := by decide +kernel
theorem dX0_make_174 : decode cX0_make 174 = .ok (.ifCond .le 9, 3) := by decide +kernel
theorem dX0_make_177 : decode cX0_make 177 = .ok (.iload_n 3, 1) := by decide +kernel
theorem dX0_make_178 : decode cX0_make 178 = .ok (.iconst 1, 1) := by decide +kernel
theorem dX0_make_179 : decode cX0_make 179 = .ok (.iadd, 1) := by decide +kernel
theorem dX0_make_180 : decode cX0_make 180 = .ok (.goto 6, 3) := by decide +kernel
theorem dX0_make_183 : decode cX0_make 183 = .ok (.iload_n 3, 1) := by decide +kernel
theorem dX0_make_184 : decode cX0_make 184 = .ok (.iconst 2, 1) := by decide +kernel
theorem dX0_make_185 : decode cX0_make 185 = .ok (.isub, 1) := by decide +kernel
theorem dX0_make_186 : decode cX0_make 186 = .ok (.invokevirtual 116, 3) := by decide +kernel
theorem dX0_make_189 : decode cX0_make 189 = .ok (.aload_n 0, 1) := by decide +kernel
theorem dX0_make_190 : decode cX0_make 190 = .ok (.iload_n 3, 1) := by decide +kernel
theorem dX0_make_191 : decode cX0_make 191 = .ok (.iload 9, 2) := by decide +kernel
theorem dX0_make_193 : decode cX0_make 193 = .ok (.iconst 2, 1) := by decide +kernel
theorem dX0_make_194 : decode cX0_make 194 = .ok (.idiv, 1) := by decide +kernel
theorem dX0_make_195 : decode cX0_make 195 = .ok (.isub, 1) := by decide +kernel
theorem dX0_make_196 : decode cX0_make 196 = .ok (.iconst 4, 1) := by decide +kernel
theorem dX0_make_197 : decode cX0_make 197 = .ok (.bipush 6, 2) := by decide +kernel
theorem dX0_make_199 : decode cX0_make 199 = .ok (.aload_n 0, 1) := by decide +kernel
theorem dX0_make_200 : decode cX0_make 200 = .ok (.getfield 38, 3) := by decide +kernel
theorem dX0_make_203 : decode cX0_make 203 = .ok (.imul, 1) := by decide +kernel
theorem dX0_make_204 : decode cX0_make 204 = .ok (.iadd, 1) := by decide +kernel
theorem dX0_make_205 : decode cX0_make 205 = .ok (.invokevirtual 120, 3) := by decide +kernel
theorem dX0_make_208 : decode cX0_make 208 = .ok (.iload 5, 2) := by decide +kernel
theorem dX0_make_210 : decode cX0_make 210 = .ok (.iconst 1, 1) := by decide +kernel
theorem dX0_make_211 : decode cX0_make 211 = .ok (.bipush 6, 2) := by decide +kernel
theorem dX0_make_213 : decode cX0_make 213 = .ok (.aload_n 0, 1) := by decide +kernel
theorem dX0_make_214 : decode cX0_make 214 = .ok (.getfield 38, 3) := by decide +kernel
theorem dX0_make_217 : decode cX0_make 217 = .ok (.imul, 1) := by decide +kernel
theorem dX0_make_218 : decode cX0_make 218 = .ok (.iadd, 1) := by decide +kernel
theorem dX0_make_219 : decode cX0_make 219 = .ok (.if_icmp .ne 7, 3) := by decide +kernel
theorem dX0_make_222 : decode cX0_make 222 = .ok (.iconst 1, 1) := by decide +kernel
theorem dX0_make_223 : decode cX0_make 223 = .ok (.goto 4, 3) := by decide +kernel
theorem dX0_make_226 : decode cX0_make 226 = .ok (.iconst 0, 1) := by decide +kernel
theorem dX0_make_227 : decode cX0_make 227 = .ok (.istore 10, 2) := by decide +kernel
theorem dX0_make_229 : decode cX0_make 229 = .ok (.aload_n 0, 1) := by decide +kernel
theorem dX0_make_230 : decode cX0_make 230 = .ok (.dup, 1) := by decide +kernel
theorem dX0_make_231 : decode cX0_make 231 = .ok (.getfield 42, 3) := by decide +kernel
theorem dX0_make_234 : decode cX0_make 234 = .ok (.iload_n 2, 1) := by decide +kernel
theorem dX0_make_235 : decode cX0_make 235 = .ok (.invokestatic 124, 3) := by decide +kernel
theorem dX0_make_238 : decode cX0_make 238 = .ok (.iload_n 3, 1) := by decide +kernel
theorem dX0_make_239 : decode cX0_make 239 = .ok (.invokestatic 124, 3) := by decide +kernel
theorem dX0_make_242 : decode cX0_make 242 = .ok (.ior, 1) := by decide +kernel
theorem dX0_make_243 : decode cX0_make 243 = .ok (.iconst (-1), 1) := by decide +kernel
theorem dX0_make_244 : decode cX0_make 244 = .ok (.ixor, 1) := by decide +kernel
theorem dX0_make_245 : decode cX0_make 245 = .ok (.iand, 1) := by decide +kernel
theorem dX0_make_246 : decode cX0_make 246 = .ok (.putfield 42, 3) := by decide +kernel
theorem dX0_make_249 : decode cX0_make 249 = .ok (.aload_n 0, 1) := by decide +kernel
theorem dX0_make_250 : decode cX0_make 250 = .ok (.iload 10, 2) := by decide +kernel
theorem dX0_make_252 : decode cX0_make 252 = .ok (.ifCond .eq 29, 3) := by decide +kernel
theorem dX0_make_255 : decode cX0_make 255 = .ok (.iload_n 3, 1) := by decide +kernel
theorem dX0_make_256 : decode cX0_make 256 = .ok (.iload_n 2, 1) := by decide +kernel
theorem dX0_make_257 : decode cX0_make 257 = .ok (.isub, 1) := by decide +kernel
theorem dX0_make_258 : decode cX0_make 258 = .ok (.invokestatic 127, 3) := by decide +kernel
theorem dX0_make_261 : decode cX0_make 261 = .ok (.bipush 16, 2) := by decide +kernel
theorem dX0_make_263 : decode cX0_make 263 = .ok (.if_icmp .ne 18, 3) := by decide +kernel
theorem dX0_make_266 : decode cX0_make 266 = .ok (.aload_n 0, 1) := by decide +kernel
theorem dX0_make_267 : decode cX0_make 267 = .ok (.iload_n 3, 1) := by decide +kernel
theorem dX0_make_268 : decode cX0_make 268 = .ok (.invokevirtual 132, 3) := by decide +kernel
theorem dX0_make_271 : decode cX0_make 271 = .ok (.ifCond .eq 10, 3) := by decide +kernel
theorem dX0_make_274 : decode cX0_make 274 = .ok (.iload_n 3, 1) := by decide +kernel
theorem dX0_make_275 : decode cX0_make 275 = .ok (.bipush 7, 2) := by decide +kernel
theorem dX0_make_277 : decode cX0_make 277 = .ok (.iand, 1) := by decide +kernel
theorem dX0_make_278 : decode cX0_make 278 = .ok (.goto 4, 3) := by decide +kernel
theorem dX0_make_281 : decode cX0_make 281 = .ok (.iconst (-1), 1) := by decide +kernel
theorem dX0_make_282 : decode cX0_make 282 = .ok (.putfield 45, 3) := by decide +kernel
theorem dX0_make_285 : decode cX0_make 285 = .ok (.aload_n 0, 1) := by decide +kernel
theorem dX0_make_286 : decode cX0_make 286 = .ok (.iload 10, 2) := by decide +kernel
theorem dX0_make_288 : decode cX0_make 288 = .ok (.ifCond .ne 8, 3) := by decide +kernel
theorem dX0_make_291 : decode cX0_make 291 = .ok (.iload 8, 2) := by decide +kernel
theorem dX0_make_293 : decode cX0_make 293 = .ok (.ifCond .eq 7, 3) := by decide +kernel
theorem dX0_make_296 : decode cX0_make 296 = .ok (.iconst 0, 1) := by decide +kernel
theorem dX0_make_297 : decode cX0_make 297 = .ok (.goto 9, 3) := by decide +kernel
theorem dX0_make_300 : decode cX0_make 300 = .ok (.aload_n 0, 1) := by decide +kernel
theorem dX0_make_301 : decode cX0_make 301 = .ok (.getfield 48, 3) := by decide +kernel
theorem dX0_make_304 : decode cX0_make 304 = .ok (.iconst 1, 1) := by decide +kernel
theorem dX0_make_305 : decode cX0_make 305 = .ok (.iadd, 1) := by decide +kernel
theorem dX0_make_306 : decode cX0_make 306 = .ok (.putfield 48, 3) := by decide +kernel
theorem dX0_make_309 : decode cX0_make 309 = .ok (.aload_n 0, 1) := by decide +kernel
theorem dX0_make_310 : decode cX0_make 310 = .ok (.dup, 1) := by decide +kernel
theorem dX0_make_311 : decode cX0_make 311 = .ok (.getfield 51, 3) := by decide +kernel
theorem dX0_make_314 : decode cX0_make 314 = .ok (.aload_n 0, 1) := by decide +kernel
theorem dX0_make_315 : decode cX0_make 315 = .ok (.getfield 38, 3) := by decide +kernel
theorem dX0_make_318 : decode cX0_make 318 = .ok (.iadd, 1) := by decide +kernel
theorem dX0_make_319 : decode cX0_make 319 = .ok (.putfield 51, 3) := by decide +kernel
theorem dX0_make_322 : decode cX0_make 322 = .ok (.aload_n 0, 1) := by decide +kernel
theorem dX0_make_323 : decode cX0_make 323 = .ok (.iconst 1, 1) := by decide +kernel
theorem dX0_make_324 : decode cX0_make 324 = .ok (.aload_n 0, 1) := by decide +kernel
theorem dX0_make_325 : decode cX0_make 325 = .ok (.getfield 38, 3) := by decide +kernel
theorem dX0_make_328 : decode cX0_make 328 = .ok (.isub, 1) := by decide +kernel
theorem dX0_make_329 : decode cX0_make 329 = .ok (.putfield 38, 3) := by decide +kernel
theorem dX0_make_332 : decode cX0_make 332 = .ok (.return_, 1) := by decide +kernel
def kX0_make_33 (mc ms : Nat) (X : Nat → zV) (Q : zQt) : zT :=
  zsi 6 <| zli 6 <| zif (fun x => x = 0) (zli 3 <| zj X 48 [0, 2, 3, 4, 5, 6]) <| zli 3 <| zc (.int 8) <| zii (fun x y => x ^^^ y) <| zj X 48 [0, 2, 3, 4, 5, 6]
def kX0_make_27 (mc ms : Nat) (X : Nat → zV) (Q : zQt) : zT :=
  zla 0 <| zli 2 <| zli 3 <| zcv mc ms 0 2 wX0_passes <| kX0_make_33 mc ms X Q
def kX0_make_13 (mc ms : Nat) (X : Nat → zV) (Q : zQt) : zT :=
  zli 1 <| zc (.int 12) <| zii (fun x y => x >>> (y &&& 31)) <| zsi 4 <| zla 0 <| zgR 0 1 <| zli 2 <| zal 1 <| zsiN 5 <| kX0_make_27 mc ms X Q
def kX0_make_65 (mc ms : Nat) (X : Nat → zV) (Q : zQt) : zT :=
  zsi 9 <| zla 0 <| zgR 0 10 <| zla 0 <| zgi 0 11 <| zli 8 <| zla 0 <| zgi 0 5 <| zc (.int 4) <| zii (fun x y => x <<< (y &&& 31)) <| zii (fun x y => x ||| y) <| zla 0 <| zgi 0 6 <| zc (.int 1) <| zii (fun x y => x + y) <| zc (.int 8) <| zii (fun x y => x <<< (y &&& 31)) <| zii (fun x y => x ||| y) <| zla 0 <| zgi 0 7 <| zc (.int 12) <| zii (fun x y => x <<< (y &&& 31)) <| zii (fun x y => x ||| y) <| zli 6 <| zif (fun x => x = 0) (zc (.int 0) <| zj X 113 [0, 2, 3, 4, 5, 7, 8, 9]) <| zc (.int 16777216) <| zj X 113 [0, 2, 3, 4, 5, 7, 8, 9]
def kX0_make_59 (mc ms : Nat) (X : Nat → zV) (Q : zQt) : zT :=
  zla 0 <| zli 2 <| zli 3 <| zcv mc ms 0 2 wX0_castleStep <| kX0_make_65 mc ms X Q
def kX0_make_141 (mc ms : Nat) (X : Nat → zV) (Q : zQt) : zT :=
  zj X 141 [0, 2, 3, 4, 5, 8, 9]
def kX0_make_130 (mc ms : Nat) (X : Nat → zV) (Q : zQt) : zT :=
  zli 8 <| zif (fun x => x = 0) (zj X 141 [0, 2, 3, 4, 5, 8, 9]) <| zla 0 <| zli 7 <| zcv mc ms 0 1 wX0_lift <| kX0_make_141 mc ms X Q
def kX0_make_166 (mc ms : Nat) (X : Nat → zV) (Q : zQt) : zT :=
  zli 9 <| zif (fun x => x = 0) (zj X 208 [0, 2, 3, 5, 8]) <| zla 0 <| zli 9 <| zif (fun x => x ≤ 0) (zli 3 <| zc (.int 2) <| zii (fun x y => x - y) <| zj X 186 [0, 2, 3, 5, 8, 9]) <| zli 3 <| zc (.int 1) <| zii (fun x y => x + y) <| zj X 186 [0, 2, 3, 5, 8, 9]
def kX0_make_208 (mc ms : Nat) (X : Nat → zV) (Q : zQt) : zT :=
  zj X 208 [0, 2, 3, 5, 8]
def kX0_make_189 (mc ms : Nat) (X : Nat → zV) (Q : zQt) : zT :=
  zla 0 <| zli 3 <| zli 9 <| zc (.int 2) <| zid (fun x y => x / y) <| zii (fun x y => x - y) <| zc (.int 4) <| zc (.int 6) <| zla 0 <| zgi 0 4 <| zii (fun x y => x * y) <| zii (fun x y => x + y) <| zcv mc ms 0 2 wX0_put <| kX0_make_208 mc ms X Q
def kX0_make_271 (mc ms : Nat) (X : Nat → zV) (Q : zQt) : zT :=
  zif (fun x => x = 0) (zj X 281 [0, 8, 10]) <| zli 3 <| zc (.int 7) <| zii (fun x y => x &&& y) <| zj X 282 [0, 8, 10]
def kX0_make_242 (mc ms : Nat) (X : Nat → zV) (Q : zQt) : zT :=
  zii (fun x y => x ||| y) <| zc (.int (-1)) <| zii (fun x y => x ^^^ y) <| zii (fun x y => x &&& y) <| zpi 0 5 <| zla 0 <| zli 10 <| zif (fun x => x = 0) (zj X 281 [0, 8, 10]) <| zli 3 <| zli 2 <| zii (fun x y => x - y) <| zab <| zc (.int 16) <| zic (fun x y => x = y) (zla 0 <| zli 3 <| zcv mc ms 0 1 wX0_isBesidePawn <| kX0_make_271 mc ms X Q) <| zj X 281 [0, 8, 10]
def kX0_make_238 (mc ms : Nat) (X : Nat → zV) (Q : zQt) : zT :=
  zli 3 <| zcs mc ms 1 wX0_rightsAt <| kX0_make_242 mc ms X Q
def aX0_make_0 (mc ms : Nat) (X : Nat → zV) (Q : zQt) : zT :=
  zli 1 <| zc (.int 63) <| zii (fun x y => x &&& y) <| zsi 2 <| zli 1 <| zc (.int 6) <| zii (fun x y => x >>> (y &&& 31)) <| zc (.int 63) <| zii (fun x y => x &&& y) <| zsiN 3 <| kX0_make_13 mc ms X Q
def aX0_make_48 (mc ms : Nat) (X : Nat → zV) (Q : zQt) : zT :=
  zsi 7 <| zla 0 <| zgR 0 1 <| zli 7 <| zal 1 <| zsiN 8 <| kX0_make_59 mc ms X Q
def aX0_make_113 (mc ms : Nat) (X : Nat → zV) (Q : zQt) : zT :=
  zii (fun x y => x ||| y) <| zas 1 (fun x => x) <| zla 0 <| zdup <| zgi 0 11 <| zc (.int 1) <| zii (fun x y => x + y) <| zpi 0 11 <| zla 0 <| zli 2 <| zcv mc ms 0 1 wX0_lift <| kX0_make_130 mc ms X Q
def aX0_make_141 (mc ms : Nat) (X : Nat → zV) (Q : zQt) : zT :=
  zla 0 <| zli 3 <| zli 4 <| zif (fun x => x = 0) (zli 5 <| zj X 163 [0, 2, 3, 5, 8, 9]) <| zli 4 <| zc (.int 6) <| zla 0 <| zgi 0 4 <| zii (fun x y => x * y) <| zii (fun x y => x + y) <| zj X 163 [0, 2, 3, 5, 8, 9]
def aX0_make_163 (mc ms : Nat) (X : Nat → zV) (Q : zQt) : zT :=
  zcv mc ms 0 2 wX0_put <| kX0_make_166 mc ms X Q
def aX0_make_186 (mc ms : Nat) (X : Nat → zV) (Q : zQt) : zT :=
  zcv mc ms 0 1 wX0_lift <| kX0_make_189 mc ms X Q
def aX0_make_208 (mc ms : Nat) (X : Nat → zV) (Q : zQt) : zT :=
  zli 5 <| zc (.int 1) <| zc (.int 6) <| zla 0 <| zgi 0 4 <| zii (fun x y => x * y) <| zii (fun x y => x + y) <| zic (fun x y => x = y) (zc (.int 1) <| zj X 227 [0, 2, 3, 8]) <| zc (.int 0) <| zj X 227 [0, 2, 3, 8]
def aX0_make_227 (mc ms : Nat) (X : Nat → zV) (Q : zQt) : zT :=
  zsi 10 <| zla 0 <| zdup <| zgi 0 5 <| zli 2 <| zcs mc ms 1 wX0_rightsAt <| kX0_make_238 mc ms X Q
def aX0_make_281 (mc ms : Nat) (X : Nat → zV) (Q : zQt) : zT :=
  zc (.int (-1)) <| zj X 282 [0, 8, 10]
def aX0_make_282 (mc ms : Nat) (X : Nat → zV) (Q : zQt) : zT :=
  zpi 0 6 <| zla 0 <| zli 10 <| zif (fun x => x = 0) (zli 8 <| zif (fun x => x = 0) (zla 0 <| zgi 0 7 <| zc (.int 1) <| zii (fun x y => x + y) <| zj X 306 [0]) <| zj X 296 [0]) <| zj X 296 [0]
def aX0_make_296 (mc ms : Nat) (X : Nat → zV) (Q : zQt) : zT :=
  zc (.int 0) <| zj X 306 [0]
def aX0_make_306 (mc ms : Nat) (X : Nat → zV) (Q : zQt) : zT :=
  zpi 0 7 <| zla 0 <| zdup <| zgi 0 8 <| zla 0 <| zgi 0 4 <| zii (fun x y => x + y) <| zpi 0 8 <| zla 0 <| zc (.int 1) <| zla 0 <| zgi 0 4 <| zii (fun x y => x - y) <| zpi 0 4 <| zrv Q
def lvX0_make : Nat → List Nat := fun L => match L with
  | 0 => [0, 1]
  | 48 => [0, 2, 3, 4, 5, 6]
  | 113 => [0, 2, 3, 4, 5, 7, 8, 9]
  | 141 => [0, 2, 3, 4, 5, 8, 9]
  | 163 => [0, 2, 3, 5, 8, 9]
  | 186 => [0, 2, 3, 5, 8, 9]
  | 208 => [0, 2, 3, 5, 8]
  | 227 => [0, 2, 3, 8]
  | 281 => [0, 8, 10]
  | 282 => [0, 8, 10]
  | 296 => [0]
  | 306 => [0]
  | _ => []
def wX0_make : zSp := fun mc ms av M Q => ((zlay av).length ≤ 11 ∧ zpick (zlay av) [0, 1] = some av) ∧ ∀ X : Nat → zV, zin 11 [0, 1] (aX0_make_0 mc ms X Q) X 0 → zin 11 [0, 2, 3, 4, 5, 6] (aX0_make_48 mc ms X Q) X 48 → zin 11 [0, 2, 3, 4, 5, 7, 8, 9] (aX0_make_113 mc ms X Q) X 113 → zin 11 [0, 2, 3, 4, 5, 8, 9] (aX0_make_141 mc ms X Q) X 141 → zin 11 [0, 2, 3, 5, 8, 9] (aX0_make_163 mc ms X Q) X 163 → zin 11 [0, 2, 3, 5, 8, 9] (aX0_make_186 mc ms X Q) X 186 → zin 11 [0, 2, 3, 5, 8] (aX0_make_208 mc ms X Q) X 208 → zin 11 [0, 2, 3, 8] (aX0_make_227 mc ms X Q) X 227 → zin 11 [0, 8, 10] (aX0_make_281 mc ms X Q) X 281 → zin 11 [0, 8, 10] (aX0_make_282 mc ms X Q) X 282 → zin 11 [0] (aX0_make_296 mc ms X Q) X 296 → zin 11 [0] (aX0_make_306 mc ms X Q) X 306 → X 0 0 0 av [] M
set_option maxRecDepth 100000 in
set_option maxHeartbeats 4000000 in
theorem sX0_make (l : Launch) (G : zG) (hG : zStat G) : zSnd l G yX0_make cX0_make 11 none 1 24 wX0_make := by
  refine zmk [0, 1] (by decide) (fun mc ms av M Q h => h.1) ?_
  intro p e R s m args below meth c mc ms av M Q hC hRf hRl hr hnm h lv hlv
  obtain ⟨X, hXe⟩ : ∃ X : Nat → zV, X = fun L u v vs st M => ∀ lv, zpick lv (lvX0_make L) = some vs → zAt p l e R s m args below meth c (MQ below (zQ G Q) args s mc ms (zA G)) G 11 L u v lv st M := ⟨_, rfl⟩
  have hJ : ∀ L, zOk p l e R s m args below meth c (MQ below (zQ G Q) args s mc ms (zA G)) G 11 L (zj X L (lvX0_make L)) := fun L => S_jump (fun u v lv vs st M hp hx => by rw [hXe] at hx; exact hx lv hp)
  have hB0 : zin 11 [0, 1] (aX0_make_0 mc ms X Q) X 0 := by
    intro u v vs st M hb
    rw [hXe]
    refine fun lv hp => S_block (L := 0) (live := [0, 1]) ?_ u v lv vs st M hp hb
    unfold aX0_make_0
    refine S_iload_n (pc := 0) hC dX0_make_0 rfl ?_
    refine S_bipush (pc := 1) hC dX0_make_1 (by decide) ?_
    refine S_iand (pc := 3) hC dX0_make_3 ?_
    refine S_istore_n (pc := 4) hC dX0_make_4 rfl (by decide) ?_
    refine S_iload_n (pc := 5) hC dX0_make_5 rfl ?_
    refine S_bipush (pc := 6) hC dX0_make_6 (by decide) ?_
    refine S_ishr (pc := 8) hC dX0_make_8 ?_
    refine S_bipush (pc := 9) hC dX0_make_9 (by decide) ?_
    refine S_iand (pc := 11) hC dX0_make_11 ?_
    refine S_istore_n_N (pc := 12) hC dX0_make_12 rfl (by decide) ?_
    unfold kX0_make_13
    refine S_iload_n (pc := 13) hC dX0_make_13 rfl ?_
    refine S_bipush (pc := 14) hC dX0_make_14 (by decide) ?_
    refine S_ishr (pc := 16) hC dX0_make_16 ?_
    refine S_istore (pc := 17) hC dX0_make_17 (by decide) ?_
    refine S_aload_n (pc := 19) hC dX0_make_19 rfl ?_
    refine S_getR (pc := 20) hC cfX0 (by decide) (Or.inr ⟨_, rfl⟩) wd_213 dX0_make_20 ?_
    refine S_iload_n (pc := 23) hC dX0_make_23 rfl ?_
    refine S_iaload (pc := 24) hC dX0_make_24 ?_
    refine S_istore_N (pc := 25) hC dX0_make_25 (by decide) ?_
    unfold kX0_make_27
    refine S_aload_n (pc := 27) hC dX0_make_27 rfl ?_
    refine S_iload_n (pc := 28) hC dX0_make_28 rfl ?_
    refine S_iload_n (pc := 29) hC dX0_make_29 rfl ?_
    refine S_callV (pc := 30) hC (sX0_passes l G) rfl wd_815 wd_483 wd_484 wd_10 wd_485 (by decide +kernel) ⟨by rw [hRf]; decide, by rw [hRl]; decide⟩ dX0_make_30 ?_
    unfold kX0_make_33
    refine S_istore (pc := 33) hC dX0_make_33 (by decide) ?_
    refine S_iload (pc := 35) hC dX0_make_35 ?_
    refine S_if_eq (pc := 37) (tgt := 47) hC dX0_make_37 (by decide) ?_ ?_
    · refine S_iload_n (pc := 47) hC dX0_make_47 rfl ?_
      exact hJ 48
    · refine S_iload_n (pc := 40) hC dX0_make_40 rfl ?_
      refine S_bipush (pc := 41) hC dX0_make_41 (by decide) ?_
      refine S_ixor (pc := 43) hC dX0_make_43 ?_
      refine S_goto (pc := 44) (tgt := 48) hC dX0_make_44 (by decide) ?_
      exact hJ 48
  have hB48 : zin 11 [0, 2, 3, 4, 5, 6] (aX0_make_48 mc ms X Q) X 48 := by
    intro u v vs st M hb
    rw [hXe]
    refine fun lv hp => S_block (L := 48) (live := [0, 2, 3, 4, 5, 6]) ?_ u v lv vs st M hp hb
    unfold aX0_make_48
    refine S_istore (pc := 48) hC dX0_make_48 (by decide) ?_
    refine S_aload_n (pc := 50) hC dX0_make_50 rfl ?_
    refine S_getR (pc := 51) hC cfX0 (by decide) (Or.inr ⟨_, rfl⟩) wd_213 dX0_make_51 ?_
    refine S_iload (pc := 54) hC dX0_make_54 ?_
    refine S_iaload (pc := 56) hC dX0_make_56 ?_
    refine S_istore_N (pc := 57) hC dX0_make_57 (by decide) ?_
    unfold kX0_make_59
    refine S_aload_n (pc := 59) hC dX0_make_59 rfl ?_
    refine S_iload_n (pc := 60) hC dX0_make_60 rfl ?_
    refine S_iload_n (pc := 61) hC dX0_make_61 rfl ?_
    refine S_callV (pc := 62) hC (sX0_castleStep l G) rfl wd_417 wd_418 wd_419 wd_10 wd_420 (by decide +kernel) ⟨by rw [hRf]; decide, by rw [hRl]; decide⟩ dX0_make_62 ?_
    unfold kX0_make_65
    refine S_istore (pc := 65) hC dX0_make_65 (by decide) ?_
    refine S_aload_n (pc := 67) hC dX0_make_67 rfl ?_
    refine S_getR (pc := 68) hC cfX0 (by decide) (Or.inr ⟨_, rfl⟩) wd_261 dX0_make_68 ?_
    refine S_aload_n (pc := 71) hC dX0_make_71 rfl ?_
    refine S_geti (pc := 72) hC cfX0 (by decide) (Or.inl rfl) wd_262 dX0_make_72 ?_
    refine S_iload (pc := 75) hC dX0_make_75 ?_
    refine S_aload_n (pc := 77) hC dX0_make_77 rfl ?_
    refine S_geti (pc := 78) hC cfX0 (by decide) (Or.inl rfl) wd_238 dX0_make_78 ?_
    refine S_iconst (pc := 81) hC dX0_make_81 (by decide) ?_
    refine S_ishl (pc := 82) hC dX0_make_82 ?_
    refine S_ior (pc := 83) hC dX0_make_83 ?_
    refine S_aload_n (pc := 84) hC dX0_make_84 rfl ?_
    refine S_geti (pc := 85) hC cfX0 (by decide) (Or.inl rfl) wd_244 dX0_make_85 ?_
    refine S_iconst (pc := 88) hC dX0_make_88 (by decide) ?_
    refine S_iadd (pc := 89) hC dX0_make_89 ?_
    refine S_bipush (pc := 90) hC dX0_make_90 (by decide) ?_
    refine S_ishl (pc := 92) hC dX0_make_92 ?_
    refine S_ior (pc := 93) hC dX0_make_93 ?_
    refine S_aload_n (pc := 94) hC dX0_make_94 rfl ?_
    refine S_geti (pc := 95) hC cfX0 (by decide) (Or.inl rfl) wd_250 dX0_make_95 ?_
    refine S_bipush (pc := 98) hC dX0_make_98 (by decide) ?_
    refine S_ishl (pc := 100) hC dX0_make_100 ?_
    refine S_ior (pc := 101) hC dX0_make_101 ?_
    refine S_iload (pc := 102) hC dX0_make_102 ?_
    refine S_if_eq (pc := 104) (tgt := 112) hC dX0_make_104 (by decide) ?_ ?_
    · refine S_iconst (pc := 112) hC dX0_make_112 (by decide) ?_
      exact hJ 113
    · refine S_ldc (pc := 107) hC wd_421 dX0_make_107 ?_
      refine S_goto (pc := 109) (tgt := 113) hC dX0_make_109 (by decide) ?_
      exact hJ 113
  have hB113 : zin 11 [0, 2, 3, 4, 5, 7, 8, 9] (aX0_make_113 mc ms X Q) X 113 := by
    intro u v vs st M hb
    rw [hXe]
    refine fun lv hp => S_block (L := 113) (live := [0, 2, 3, 4, 5, 7, 8, 9]) ?_ u v lv vs st M hp hb
    unfold aX0_make_113
    refine S_ior (pc := 113) hC dX0_make_113 ?_
    refine S_iastore (pc := 114) hC dX0_make_114 ?_
    refine S_aload_n (pc := 115) hC dX0_make_115 rfl ?_
    refine S_dup (pc := 116) hC dX0_make_116 ?_
    refine S_geti (pc := 117) hC cfX0 (by decide) (Or.inl rfl) wd_262 dX0_make_117 ?_
    refine S_iconst (pc := 120) hC dX0_make_120 (by decide) ?_
    refine S_iadd (pc := 121) hC dX0_make_121 ?_
    refine S_puti (pc := 122) hC cfX0 (by decide) rfl (Or.inl rfl) wd_262 dX0_make_122 ?_
    refine S_aload_n (pc := 125) hC dX0_make_125 rfl ?_
    refine S_iload_n (pc := 126) hC dX0_make_126 rfl ?_
    refine S_callV (pc := 127) hC (sX0_lift l G hG) rfl wd_406 wd_407 wd_408 wd_10 wd_409 (by decide +kernel) ⟨by rw [hRf]; decide, by rw [hRl]; decide⟩ dX0_make_127 ?_
    unfold kX0_make_130
    refine S_iload (pc := 130) hC dX0_make_130 ?_
    refine S_if_eq (pc := 132) (tgt := 141) hC dX0_make_132 (by decide) ?_ ?_
    · exact hJ 141
    · refine S_aload_n (pc := 135) hC dX0_make_135 rfl ?_
      refine S_iload (pc := 136) hC dX0_make_136 ?_
      refine S_callV (pc := 138) hC (sX0_lift l G hG) rfl wd_406 wd_407 wd_408 wd_10 wd_409 (by decide +kernel) ⟨by rw [hRf]; decide, by rw [hRl]; decide⟩ dX0_make_138 ?_
      unfold kX0_make_141
      exact hJ 141
  have hB141 : zin 11 [0, 2, 3, 4, 5, 8, 9] (aX0_make_141 mc ms X Q) X 141 := by
    intro u v vs st M hb
    rw [hXe]
    refine fun lv hp => S_block (L := 141) (live := [0, 2, 3, 4, 5, 8, 9]) ?_ u v lv vs st M hp hb
    unfold aX0_make_141
    refine S_aload_n (pc := 141) hC dX0_make_141 rfl ?_
    refine S_iload_n (pc := 142) hC dX0_make_142 rfl ?_
    refine S_iload (pc := 143) hC dX0_make_143 ?_
    refine S_if_ne (pc := 145) (tgt := 153) hC dX0_make_145 (by decide) ?_ ?_
    · refine S_iload (pc := 153) hC dX0_make_153 ?_
      refine S_bipush (pc := 155) hC dX0_make_155 (by decide) ?_
      refine S_aload_n (pc := 157) hC dX0_make_157 rfl ?_
      refine S_geti (pc := 158) hC cfX0 (by decide) (Or.inl rfl) wd_229 dX0_make_158 ?_
      refine S_imul (pc := 161) hC dX0_make_161 ?_
      refine S_iadd (pc := 162) hC dX0_make_162 ?_
      exact hJ 163
    · refine S_iload (pc := 148) hC dX0_make_148 ?_
      refine S_goto (pc := 150) (tgt := 163) hC dX0_make_150 (by decide) ?_
      exact hJ 163
  have hB163 : zin 11 [0, 2, 3, 5, 8, 9] (aX0_make_163 mc ms X Q) X 163 := by
    intro u v vs st M hb
    rw [hXe]
    refine fun lv hp => S_block (L := 163) (live := [0, 2, 3, 5, 8, 9]) ?_ u v lv vs st M hp hb
    unfold aX0_make_163
    refine S_callV (pc := 163) hC (sX0_put l G hG) rfl wd_413 wd_414 wd_415 wd_10 wd_416 (by decide +kernel) ⟨by rw [hRf]; decide, by rw [hRl]; decide⟩ dX0_make_163 ?_
    unfold kX0_make_166
    refine S_iload (pc := 166) hC dX0_make_166 ?_
    refine S_if_eq (pc := 168) (tgt := 208) hC dX0_make_168 (by decide) ?_ ?_
    · exact hJ 208
    · refine S_aload_n (pc := 171) hC dX0_make_171 rfl ?_
      refine S_iload (pc := 172) hC dX0_make_172 ?_
      refine S_if_le (pc := 174) (tgt := 183) hC dX0_make_174 (by decide) ?_ ?_
      · refine S_iload_n (pc := 183) hC dX0_make_183 rfl ?_
        refine S_iconst (pc := 184) hC dX0_make_184 (by decide) ?_
        refine S_isub (pc := 185) hC dX0_make_185 ?_
        exact hJ 186
      · refine S_iload_n (pc := 177) hC dX0_make_177 rfl ?_
        refine S_iconst (pc := 178) hC dX0_make_178 (by decide) ?_
        refine S_iadd (pc := 179) hC dX0_make_179 ?_
        refine S_goto (pc := 180) (tgt := 186) hC dX0_make_180 (by decide) ?_
        exact hJ 186
  have hB186 : zin 11 [0, 2, 3, 5, 8, 9] (aX0_make_186 mc ms X Q) X 186 := by
    intro u v vs st M hb
    rw [hXe]
    refine fun lv hp => S_block (L := 186) (live := [0, 2, 3, 5, 8, 9]) ?_ u v lv vs st M hp hb
    unfold aX0_make_186
    refine S_callV (pc := 186) hC (sX0_lift l G hG) rfl wd_406 wd_407 wd_408 wd_10 wd_409 (by decide +kernel) ⟨by rw [hRf]; decide, by rw [hRl]; decide⟩ dX0_make_186 ?_
    unfold kX0_make_189
    refine S_aload_n (pc := 189) hC dX0_make_189 rfl ?_
    refine S_iload_n (pc := 190) hC dX0_make_190 rfl ?_
    refine S_iload (pc := 191) hC dX0_make_191 ?_
    refine S_iconst (pc := 193) hC dX0_make_193 (by decide) ?_
    refine S_idiv (pc := 194) hC dX0_make_194 ?_
    refine S_isub (pc := 195) hC dX0_make_195 ?_
    refine S_iconst (pc := 196) hC dX0_make_196 (by decide) ?_
    refine S_bipush (pc := 197) hC dX0_make_197 (by decide) ?_
    refine S_aload_n (pc := 199) hC dX0_make_199 rfl ?_
    refine S_geti (pc := 200) hC cfX0 (by decide) (Or.inl rfl) wd_229 dX0_make_200 ?_
    refine S_imul (pc := 203) hC dX0_make_203 ?_
    refine S_iadd (pc := 204) hC dX0_make_204 ?_
    refine S_callV (pc := 205) hC (sX0_put l G hG) rfl wd_413 wd_414 wd_415 wd_10 wd_416 (by decide +kernel) ⟨by rw [hRf]; decide, by rw [hRl]; decide⟩ dX0_make_205 ?_
    unfold kX0_make_208
    exact hJ 208
  have hB208 : zin 11 [0, 2, 3, 5, 8] (aX0_make_208 mc ms X Q) X 208 := by
    intro u v vs st M hb
    rw [hXe]
    refine fun lv hp => S_block (L := 208) (live := [0, 2, 3, 5, 8]) ?_ u v lv vs st M hp hb
    unfold aX0_make_208
    refine S_iload (pc := 208) hC dX0_make_208 ?_
    refine S_iconst (pc := 210) hC dX0_make_210 (by decide) ?_
    refine S_bipush (pc := 211) hC dX0_make_211 (by decide) ?_
    refine S_aload_n (pc := 213) hC dX0_make_213 rfl ?_
    refine S_geti (pc := 214) hC cfX0 (by decide) (Or.inl rfl) wd_229 dX0_make_214 ?_
    refine S_imul (pc := 217) hC dX0_make_217 ?_
    refine S_iadd (pc := 218) hC dX0_make_218 ?_
    refine S_icmp_ne (pc := 219) (tgt := 226) hC dX0_make_219 (by decide) ?_ ?_
    · refine S_iconst (pc := 226) hC dX0_make_226 (by decide) ?_
      exact hJ 227
    · refine S_iconst (pc := 222) hC dX0_make_222 (by decide) ?_
      refine S_goto (pc := 223) (tgt := 227) hC dX0_make_223 (by decide) ?_
      exact hJ 227
  have hB227 : zin 11 [0, 2, 3, 8] (aX0_make_227 mc ms X Q) X 227 := by
    intro u v vs st M hb
    rw [hXe]
    refine fun lv hp => S_block (L := 227) (live := [0, 2, 3, 8]) ?_ u v lv vs st M hp hb
    unfold aX0_make_227
    refine S_istore (pc := 227) hC dX0_make_227 (by decide) ?_
    refine S_aload_n (pc := 229) hC dX0_make_229 rfl ?_
    refine S_dup (pc := 230) hC dX0_make_230 ?_
    refine S_geti (pc := 231) hC cfX0 (by decide) (Or.inl rfl) wd_238 dX0_make_231 ?_
    refine S_iload_n (pc := 234) hC dX0_make_234 rfl ?_
    refine S_callS (pc := 235) hC (sX0_rightsAt l G) wd_816 wd_817 wd_10 wd_818 (by decide +kernel) ⟨by rw [hRf]; decide, by rw [hRl]; decide⟩ dX0_make_235 ?_
    unfold kX0_make_238
    refine S_iload_n (pc := 238) hC dX0_make_238 rfl ?_
    refine S_callS (pc := 239) hC (sX0_rightsAt l G) wd_816 wd_817 wd_10 wd_818 (by decide +kernel) ⟨by rw [hRf]; decide, by rw [hRl]; decide⟩ dX0_make_239 ?_
    unfold kX0_make_242
    refine S_ior (pc := 242) hC dX0_make_242 ?_
    refine S_iconst (pc := 243) hC dX0_make_243 (by decide) ?_
    refine S_ixor (pc := 244) hC dX0_make_244 ?_
    refine S_iand (pc := 245) hC dX0_make_245 ?_
    refine S_puti (pc := 246) hC cfX0 (by decide) rfl (Or.inl rfl) wd_238 dX0_make_246 ?_
    refine S_aload_n (pc := 249) hC dX0_make_249 rfl ?_
    refine S_iload (pc := 250) hC dX0_make_250 ?_
    refine S_if_eq (pc := 252) (tgt := 281) hC dX0_make_252 (by decide) ?_ ?_
    · exact hJ 281
    · refine S_iload_n (pc := 255) hC dX0_make_255 rfl ?_
      refine S_iload_n (pc := 256) hC dX0_make_256 rfl ?_
      refine S_isub (pc := 257) hC dX0_make_257 ?_
      refine S_abs (pc := 258) hC wd_819 wd_820 wd_21 wd_821 (by rw [hRf]; decide) (by rw [hRl]; decide) dX0_make_258 ?_
      refine S_bipush (pc := 261) hC dX0_make_261 (by decide) ?_
      refine S_icmp_ne (pc := 263) (tgt := 281) hC dX0_make_263 (by decide) ?_ ?_
      · exact hJ 281
      · refine S_aload_n (pc := 266) hC dX0_make_266 rfl ?_
        refine S_iload_n (pc := 267) hC dX0_make_267 rfl ?_
        refine S_callV (pc := 268) hC (sX0_isBesidePawn l G) rfl wd_822 wd_824 ws_26 wd_10 wd_825 (by decide +kernel) ⟨by rw [hRf]; decide, by rw [hRl]; decide⟩ dX0_make_268 ?_
        unfold kX0_make_271
        refine S_if_eq (pc := 271) (tgt := 281) hC dX0_make_271 (by decide) ?_ ?_
        · exact hJ 281
        · refine S_iload_n (pc := 274) hC dX0_make_274 rfl ?_
          refine S_bipush (pc := 275) hC dX0_make_275 (by decide) ?_
          refine S_iand (pc := 277) hC dX0_make_277 ?_
          refine S_goto (pc := 278) (tgt := 282) hC dX0_make_278 (by decide) ?_
          exact hJ 282
  have hB281 : zin 11 [0, 8, 10] (aX0_make_281 mc ms X Q) X 281 := by
    intro u v vs st M hb
    rw [hXe]
    refine fun lv hp => S_block (L := 281) (live := [0, 8, 10]) ?_ u v lv vs st M hp hb
    unfold aX0_make_281
    refine S_iconst (pc := 281) hC dX0_make_281 (by decide) ?_
    exact hJ 282
  have hB282 : zin 11 [0, 8, 10] (aX0_make_282 mc ms X Q) X 282 := by
    intro u v vs st M hb
    rw [hXe]
    refine fun lv hp => S_block (L := 282) (live := [0, 8, 10]) ?_ u v lv vs st M hp hb
    unfold aX0_make_282
    refine S_puti (pc := 282) hC cfX0 (by decide) rfl (Or.inl rfl) wd_244 dX0_make_282 ?_
    refine S_aload_n (pc := 285) hC dX0_make_285 rfl ?_
    refine S_iload (pc := 286) hC dX0_make_286 ?_
    refine S_if_ne (pc := 288) (tgt := 296) hC dX0_make_288 (by decide) ?_ ?_
    · exact hJ 296
    · refine S_iload (pc := 291) hC dX0_make_291 ?_
      refine S_if_eq (pc := 293) (tgt := 300) hC dX0_make_293 (by decide) ?_ ?_
      · refine S_aload_n (pc := 300) hC dX0_make_300 rfl ?_
        refine S_geti (pc := 301) hC cfX0 (by decide) (Or.inl rfl) wd_250 dX0_make_301 ?_
        refine S_iconst (pc := 304) hC dX0_make_304 (by decide) ?_
        refine S_iadd (pc := 305) hC dX0_make_305 ?_
        exact hJ 306
      · exact hJ 296
  have hB296 : zin 11 [0] (aX0_make_296 mc ms X Q) X 296 := by
    intro u v vs st M hb
    rw [hXe]
    refine fun lv hp => S_block (L := 296) (live := [0]) ?_ u v lv vs st M hp hb
    unfold aX0_make_296
    refine S_iconst (pc := 296) hC dX0_make_296 (by decide) ?_
    refine S_goto (pc := 297) (tgt := 306) hC dX0_make_297 (by decide) ?_
    exact hJ 306
  have hB306 : zin 11 [0] (aX0_make_306 mc ms X Q) X 306 := by
    intro u v vs st M hb
    rw [hXe]
    refine fun lv hp => S_block (L := 306) (live := [0]) ?_ u v lv vs st M hp hb
    unfold aX0_make_306
    refine S_puti (pc := 306) hC cfX0 (by decide) rfl (Or.inl rfl) wd_250 dX0_make_306 ?_
    refine S_aload_n (pc := 309) hC dX0_make_309 rfl ?_
    refine S_dup (pc := 310) hC dX0_make_310 ?_
    refine S_geti (pc := 311) hC cfX0 (by decide) (Or.inl rfl) wd_255 dX0_make_311 ?_
    refine S_aload_n (pc := 314) hC dX0_make_314 rfl ?_
    refine S_geti (pc := 315) hC cfX0 (by decide) (Or.inl rfl) wd_229 dX0_make_315 ?_
    refine S_iadd (pc := 318) hC dX0_make_318 ?_
    refine S_puti (pc := 319) hC cfX0 (by decide) rfl (Or.inl rfl) wd_255 dX0_make_319 ?_
    refine S_aload_n (pc := 322) hC dX0_make_322 rfl ?_
    refine S_iconst (pc := 323) hC dX0_make_323 (by decide) ?_
    refine S_aload_n (pc := 324) hC dX0_make_324 rfl ?_
    refine S_geti (pc := 325) hC cfX0 (by decide) (Or.inl rfl) wd_229 dX0_make_325 ?_
    refine S_isub (pc := 328) hC dX0_make_328 ?_
    refine S_puti (pc := 329) hC cfX0 (by decide) rfl (Or.inl rfl) wd_229 dX0_make_329 ?_
    exact S_vreturn (pc := 332) hC hr dX0_make_332
  have := h.2 X hB0 hB48 hB113 hB141 hB163 hB186 hB208 hB227 hB281 hB282 hB296 hB306
  rw [hXe] at this
  exact this lv hlv
theorem vcX0_make_27 {mc ms : Nat} {X : Nat → zV} {Q : zQt} {M : zM} {g : Nat} {x1 : Int32} {x2 : Int32} {x3 : Int32} {x4 : Int32} {x5 : Int32} (hW : zWd M g)  (h : wX0_passes 0 0 [.ref (g + 1), .int x2, .int x3] M (fun r M1 => kX0_make_33 mc ms X Q 0 0 [some (.ref (g + 1)), some (.int x1), some (.int x2), some (.int x3), some (.int x4), some (.int x5), none, none, none, none, none] (r.toList ++ []) M1)) : kX0_make_27 mc ms X Q 0 0 [some (.ref (g + 1)), some (.int x1), some (.int x2), some (.int x3), some (.int x4), some (.int x5), none, none, none, none, none] [] M := ⟨Nat.le_of_ble_eq_true rfl, rfl, (fgs_1 hW), 0, 0, Nat.zero_le _, Nat.zero_le _, h⟩
theorem vcX0_make_13 {mc ms : Nat} {X : Nat → zV} {Q : zQt} {M : zM} {g : Nat} {x1 : Int32} {x2 : Int32} {x3 : Int32} (hW : zWd M g)  (h : vp_in x2 64 ∧ ∀ y25 : Int32, y25 = ((M : zM).1 ((g + 2)) (x2 : Int32).toNatClampNeg) → wX0_passes 0 0 [.ref (g + 1), .int x2, .int x3] M (fun r M1 => kX0_make_33 mc ms X Q 0 0 [some (.ref (g + 1)), some (.int x1), some (.int x2), some (.int x3), some (.int (x1 >>> ((12 : Int32) &&& 31))), some (.int y25), none, none, none, none, none] (r.toList ++ []) M1)) : kX0_make_13 mc ms X Q 0 0 [some (.ref (g + 1)), some (.int x1), some (.int x2), some (.int x3), none, none, none, none, none, none, none] [] M := ⟨(fgs_1 hW), (g + 2), (fgr_1_1 hW), ⟨64, (fgs_2 hW), h.1, (fun y25 e25 => have h25 := h.2 y25 e25; (vcX0_make_27 hW  h25))⟩⟩
theorem vX0_make_0 {mc ms : Nat} {X : Nat → zV} {Q : zQt} {M : zM} {g : Nat} {x1 : Int32} (hW : zWd M g)  (h : ∀ y12 : Int32, y12 = ((x1 >>> ((6 : Int32) &&& 31)) &&& (63 : Int32)) → vp_in ((x1 &&& (63 : Int32))) 64 ∧ ∀ y25 : Int32, y25 = ((M : zM).1 ((g + 2)) ((x1 &&& (63 : Int32)) : Int32).toNatClampNeg) → wX0_passes 0 0 [.ref (g + 1), .int (x1 &&& (63 : Int32)), .int y12] M (fun r M1 => kX0_make_33 mc ms X Q 0 0 [some (.ref (g + 1)), some (.int x1), some (.int (x1 &&& (63 : Int32))), some (.int y12), some (.int (x1 >>> ((12 : Int32) &&& 31))), some (.int y25), none, none, none, none, none] (r.toList ++ []) M1)) : aX0_make_0 mc ms X Q 0 0 [some (.ref (g + 1)), some (.int x1), none, none, none, none, none, none, none, none, none] [] M := (fun y12 e12 => have h12 := h y12 e12; (vcX0_make_13 hW  h12))
theorem vcX0_make_59 {mc ms : Nat} {X : Nat → zV} {Q : zQt} {M : zM} {g : Nat} {x2 : Int32} {x3 : Int32} {x4 : Int32} {x5 : Int32} {x6 : Int32} {x7 : Int32} {x8 : Int32} (hW : zWd M g)  (h : wX0_castleStep 0 0 [.ref (g + 1), .int x2, .int x3] M (fun r M1 => kX0_make_65 mc ms X Q 0 0 [some (.ref (g + 1)), none, some (.int x2), some (.int x3), some (.int x4), some (.int x5), some (.int x6), some (.int x7), some (.int x8), none, none] (r.toList ++ []) M1)) : kX0_make_59 mc ms X Q 0 0 [some (.ref (g + 1)), none, some (.int x2), some (.int x3), some (.int x4), some (.int x5), some (.int x6), some (.int x7), some (.int x8), none, none] [] M := ⟨Nat.le_of_ble_eq_true rfl, rfl, (fgs_1 hW), 0, 0, Nat.zero_le _, Nat.zero_le _, h⟩
theorem vX0_make_48 {mc ms : Nat} {X : Nat → zV} {Q : zQt} {M : zM} {g : Nat} {x2 : Int32} {x3 : Int32} {x4 : Int32} {x5 : Int32} {x6 : Int32} {s0 : Int32} (hW : zWd M g)  (h : vp_in s0 64 ∧ ∀ y57 : Int32, y57 = ((M : zM).1 ((g + 2)) (s0 : Int32).toNatClampNeg) → wX0_castleStep 0 0 [.ref (g + 1), .int x2, .int x3] M (fun r M1 => kX0_make_65 mc ms X Q 0 0 [some (.ref (g + 1)), none, some (.int x2), some (.int x3), some (.int x4), some (.int x5), some (.int x6), some (.int s0), some (.int y57), none, none] (r.toList ++ []) M1)) : aX0_make_48 mc ms X Q 0 0 [some (.ref (g + 1)), none, some (.int x2), some (.int x3), some (.int x4), some (.int x5), some (.int x6), none, none, none, none] [.int s0] M := ⟨(fgs_1 hW), (g + 2), (fgr_1_1 hW), ⟨64, (fgs_2 hW), h.1, (fun y57 e57 => have h57 := h.2 y57 e57; (vcX0_make_59 hW  h57))⟩⟩
theorem vX0_make_113 {mc ms : Nat} {X : Nat → zV} {Q : zQt} {M : zM} {g : Nat} {x2 : Int32} {x3 : Int32} {x4 : Int32} {x5 : Int32} {x7 : Int32} {x8 : Int32} {x9 : Int32} {s0 : Int32} {s1 : Int32} {s2 : Int32} (hW : zWd M g)  (h : vp_in s2 608 ∧ ∀ M114 : zM, M114 = (zsI M ((g + 5)) (s2 : Int32).toNatClampNeg ((s1 ||| s0))) → ∀ M122 : zM, M122 = (zsI M114 ((g + 1)) 11 (((M114.1 ((g + 1)) 11) + (1 : Int32)))) → wX0_lift 0 0 [.ref (g + 1), .int x2] M122 (fun r M1 => kX0_make_130 mc ms X Q 0 0 [some (.ref (g + 1)), none, some (.int x2), some (.int x3), some (.int x4), some (.int x5), none, some (.int x7), some (.int x8), some (.int x9), none] (r.toList ++ []) M1)) : aX0_make_113 mc ms X Q 0 0 [some (.ref (g + 1)), none, some (.int x2), some (.int x3), some (.int x4), some (.int x5), none, some (.int x7), some (.int x8), some (.int x9), none] [.int s0, .int s1, .int s2, .ref (g + 5)] M := ⟨608, (fgs_5 hW), h.1, (have h114 := h.2 _ rfl; ⟨(fgs_1 hW), ⟨(fgs_1 hW), (have h122 := h114 _ rfl; ⟨Nat.le_of_ble_eq_true rfl, rfl, (fgs_1 hW), 0, 0, Nat.zero_le _, Nat.zero_le _, h122⟩)⟩⟩)⟩
theorem vX0_make_141 {mc ms : Nat} {X : Nat → zV} {Q : zQt} {M : zM} {g : Nat} {x2 : Int32} {x3 : Int32} {x4 : Int32} {x5 : Int32} {x8 : Int32} {x9 : Int32} (hW : zWd M g)  (h : (x4 = 0 → X 163 0 0 [.ref (g + 1), .int x2, .int x3, .int x5, .int x8, .int x9] [.int x5, .int x3, .ref (g + 1)] M) ∧ (¬ x4 = 0 → X 163 0 0 [.ref (g + 1), .int x2, .int x3, .int x5, .int x8, .int x9] [.int (x4 + ((6 : Int32) * (M.1 ((g + 1)) 4))), .int x3, .ref (g + 1)] M)) : aX0_make_141 mc ms X Q 0 0 [some (.ref (g + 1)), none, some (.int x2), some (.int x3), some (.int x4), some (.int x5), none, none, some (.int x8), some (.int x9), none] [] M := ⟨fun c145 => (h.1 c145), fun c145 => ⟨(fgs_1 hW), (h.2 c145)⟩⟩
theorem vX0_make_163 {mc ms : Nat} {X : Nat → zV} {Q : zQt} {M : zM} {g : Nat} {x2 : Int32} {x3 : Int32} {x5 : Int32} {x8 : Int32} {x9 : Int32} {s0 : Int32} {s1 : Int32} (hW : zWd M g)  (h : wX0_put 0 0 [.ref (g + 1), .int s1, .int s0] M (fun r M1 => kX0_make_166 mc ms X Q 0 0 [some (.ref (g + 1)), none, some (.int x2), some (.int x3), none, some (.int x5), none, none, some (.int x8), some (.int x9), none] (r.toList ++ []) M1)) : aX0_make_163 mc ms X Q 0 0 [some (.ref (g + 1)), none, some (.int x2), some (.int x3), none, some (.int x5), none, none, some (.int x8), some (.int x9), none] [.int s0, .int s1, .ref (g + 1)] M := ⟨Nat.le_of_ble_eq_true rfl, rfl, (fgs_1 hW), 0, 0, Nat.zero_le _, Nat.zero_le _, h⟩
theorem vX0_make_186 {mc ms : Nat} {X : Nat → zV} {Q : zQt} {M : zM} {g : Nat} {x2 : Int32} {x3 : Int32} {x5 : Int32} {x8 : Int32} {x9 : Int32} {s0 : Int32} (hW : zWd M g)  (h : wX0_lift 0 0 [.ref (g + 1), .int s0] M (fun r M1 => kX0_make_189 mc ms X Q 0 0 [some (.ref (g + 1)), none, some (.int x2), some (.int x3), none, some (.int x5), none, none, some (.int x8), some (.int x9), none] (r.toList ++ []) M1)) : aX0_make_186 mc ms X Q 0 0 [some (.ref (g + 1)), none, some (.int x2), some (.int x3), none, some (.int x5), none, none, some (.int x8), some (.int x9), none] [.int s0, .ref (g + 1)] M := ⟨Nat.le_of_ble_eq_true rfl, rfl, (fgs_1 hW), 0, 0, Nat.zero_le _, Nat.zero_le _, h⟩
theorem vX0_make_208 {mc ms : Nat} {X : Nat → zV} {Q : zQt} {M : zM} {g : Nat} {x2 : Int32} {x3 : Int32} {x5 : Int32} {x8 : Int32} (hW : zWd M g)  (h : (x5 = ((1 : Int32) + ((6 : Int32) * (M.1 ((g + 1)) 4))) → X 227 0 0 [.ref (g + 1), .int x2, .int x3, .int x8] [.int 1] M) ∧ (¬ x5 = ((1 : Int32) + ((6 : Int32) * (M.1 ((g + 1)) 4))) → X 227 0 0 [.ref (g + 1), .int x2, .int x3, .int x8] [.int 0] M)) : aX0_make_208 mc ms X Q 0 0 [some (.ref (g + 1)), none, some (.int x2), some (.int x3), none, some (.int x5), none, none, some (.int x8), none, none] [] M := ⟨(fgs_1 hW), ⟨fun c219 => (h.1 c219), fun c219 => (h.2 c219)⟩⟩
theorem vX0_make_227 {mc ms : Nat} {X : Nat → zV} {Q : zQt} {M : zM} {g : Nat} {x2 : Int32} {x3 : Int32} {x8 : Int32} {s0 : Int32} (hW : zWd M g)  (h : wX0_rightsAt 0 0 [.int x2] M (fun r M1 => kX0_make_238 mc ms X Q 0 0 [some (.ref (g + 1)), none, some (.int x2), some (.int x3), none, none, none, none, some (.int x8), none, some (.int s0)] (r.toList ++ [.int (M.1 ((g + 1)) 5), .ref (g + 1)]) M1)) : aX0_make_227 mc ms X Q 0 0 [some (.ref (g + 1)), none, some (.int x2), some (.int x3), none, none, none, none, some (.int x8), none, none] [.int s0] M := ⟨(fgs_1 hW), ⟨Nat.le_of_ble_eq_true rfl, rfl, 0, 0, Nat.zero_le _, Nat.zero_le _, h⟩⟩
theorem vX0_make_281 {mc ms : Nat} {X : Nat → zV} {Q : zQt} {M : zM} {g : Nat} {x8 : Int32} {x10 : Int32} (hW : zWd M g)  (h : X 282 0 0 [.ref (g + 1), .int x8, .int x10] [.int (-1), .ref (g + 1)] M) : aX0_make_281 mc ms X Q 0 0 [some (.ref (g + 1)), none, none, none, none, none, none, none, some (.int x8), none, some (.int x10)] [.ref (g + 1)] M := h
theorem vX0_make_282 {mc ms : Nat} {X : Nat → zV} {Q : zQt} {M : zM} {g : Nat} {x8 : Int32} {x10 : Int32} {s0 : Int32} (hW : zWd M g)  (h : ∀ M282 : zM, M282 = (zsI M ((g + 1)) 6 s0) → (x10 = 0 → (x8 = 0 → X 306 0 0 [.ref (g + 1)] [.int ((M282.1 ((g + 1)) 7) + (1 : Int32)), .ref (g + 1)] M282) ∧ (¬ x8 = 0 → X 296 0 0 [.ref (g + 1)] [.ref (g + 1)] M282)) ∧ (¬ x10 = 0 → X 296 0 0 [.ref (g + 1)] [.ref (g + 1)] M282)) : aX0_make_282 mc ms X Q 0 0 [some (.ref (g + 1)), none, none, none, none, none, none, none, some (.int x8), none, some (.int x10)] [.int s0, .ref (g + 1)] M := ⟨(fgs_1 hW), (have h282 := h _ rfl; ⟨fun c288 => ⟨fun c293 => ⟨(fgs_1 hW), ((h282.1 c288).1 c293)⟩, fun c293 => ((h282.1 c288).2 c293)⟩, fun c288 => (h282.2 c288)⟩)⟩
theorem vX0_make_296 {mc ms : Nat} {X : Nat → zV} {Q : zQt} {M : zM} {g : Nat}  (hW : zWd M g)  (h : X 306 0 0 [.ref (g + 1)] [.int 0, .ref (g + 1)] M) : aX0_make_296 mc ms X Q 0 0 [some (.ref (g + 1)), none, none, none, none, none, none, none, none, none, none] [.ref (g + 1)] M := h
theorem vX0_make_306 {mc ms : Nat} {X : Nat → zV} {Q : zQt} {M : zM} {g : Nat} {s0 : Int32} (hW : zWd M g)  (h : ∀ M306 : zM, M306 = (zsI M ((g + 1)) 7 s0) → ∀ M319 : zM, M319 = (zsI M306 ((g + 1)) 8 (((M306.1 ((g + 1)) 8) + (M306.1 ((g + 1)) 4)))) → ∀ M329 : zM, M329 = (zsI M319 ((g + 1)) 4 (((1 : Int32) - (M319.1 ((g + 1)) 4)))) → Q none M329) : aX0_make_306 mc ms X Q 0 0 [some (.ref (g + 1)), none, none, none, none, none, none, none, none, none, none] [.int s0, .ref (g + 1)] M := ⟨(fgs_1 hW), (have h306 := h _ rfl; ⟨(fgs_1 hW), ⟨(fgs_1 hW), ⟨(fgs_1 hW), (have h319 := h306 _ rfl; ⟨(fgs_1 hW), ⟨(fgs_1 hW), (have h329 := h319 _ rfl; h329)⟩⟩)⟩⟩⟩)⟩
theorem vkX0_make_33 {mc ms : Nat} {X : Nat → zV} {Q : zQt} {M : zM} {g : Nat} {x1 : Int32} {x2 : Int32} {x3 : Int32} {x4 : Int32} {x5 : Int32} {s0 : Int32} (hW : zWd M g)  (h : (s0 = 0 → X 48 0 0 [.ref (g + 1), .int x2, .int x3, .int x4, .int x5, .int s0] [.int x3] M) ∧ (¬ s0 = 0 → X 48 0 0 [.ref (g + 1), .int x2, .int x3, .int x4, .int x5, .int s0] [.int (x3 ^^^ (8 : Int32))] M)) : kX0_make_33 mc ms X Q 0 0 [some (.ref (g + 1)), some (.int x1), some (.int x2), some (.int x3), some (.int x4), some (.int x5), none, none, none, none, none] [.int s0] M := ⟨fun c37 => (h.1 c37), fun c37 => (h.2 c37)⟩
theorem vkX0_make_65 {mc ms : Nat} {X : Nat → zV} {Q : zQt} {M : zM} {g : Nat} {x2 : Int32} {x3 : Int32} {x4 : Int32} {x5 : Int32} {x6 : Int32} {x7 : Int32} {x8 : Int32} {s0 : Int32} (hW : zWd M g)  (h : (x6 = 0 → X 113 0 0 [.ref (g + 1), .int x2, .int x3, .int x4, .int x5, .int x7, .int x8, .int s0] [.int 0, .int (((x8 ||| ((M.1 ((g + 1)) 5) <<< ((4 : Int32) &&& 31))) ||| (((M.1 ((g + 1)) 6) + (1 : Int32)) <<< ((8 : Int32) &&& 31))) ||| ((M.1 ((g + 1)) 7) <<< ((12 : Int32) &&& 31))), .int (M.1 ((g + 1)) 11), .ref (g + 5)] M) ∧ (¬ x6 = 0 → X 113 0 0 [.ref (g + 1), .int x2, .int x3, .int x4, .int x5, .int x7, .int x8, .int s0] [.int 16777216, .int (((x8 ||| ((M.1 ((g + 1)) 5) <<< ((4 : Int32) &&& 31))) ||| (((M.1 ((g + 1)) 6) + (1 : Int32)) <<< ((8 : Int32) &&& 31))) ||| ((M.1 ((g + 1)) 7) <<< ((12 : Int32) &&& 31))), .int (M.1 ((g + 1)) 11), .ref (g + 5)] M)) : kX0_make_65 mc ms X Q 0 0 [some (.ref (g + 1)), none, some (.int x2), some (.int x3), some (.int x4), some (.int x5), some (.int x6), some (.int x7), some (.int x8), none, none] [.int s0] M := ⟨(fgs_1 hW), (g + 5), (fgr_1_10 hW), ⟨(fgs_1 hW), ⟨(fgs_1 hW), ⟨(fgs_1 hW), ⟨(fgs_1 hW), ⟨fun c104 => (h.1 c104), fun c104 => (h.2 c104)⟩⟩⟩⟩⟩⟩
theorem vkX0_make_130 {mc ms : Nat} {X : Nat → zV} {Q : zQt} {M : zM} {g : Nat} {x2 : Int32} {x3 : Int32} {x4 : Int32} {x5 : Int32} {x7 : Int32} {x8 : Int32} {x9 : Int32} (hW : zWd M g)  (h : (x8 = 0 → X 141 0 0 [.ref (g + 1), .int x2, .int x3, .int x4, .int x5, .int x8, .int x9] [] M) ∧ (¬ x8 = 0 → wX0_lift 0 0 [.ref (g + 1), .int x7] M (fun r M1 => kX0_make_141 mc ms X Q 0 0 [some (.ref (g + 1)), none, some (.int x2), some (.int x3), some (.int x4), some (.int x5), none, some (.int x7), some (.int x8), some (.int x9), none] (r.toList ++ []) M1))) : kX0_make_130 mc ms X Q 0 0 [some (.ref (g + 1)), none, some (.int x2), some (.int x3), some (.int x4), some (.int x5), none, some (.int x7), some (.int x8), some (.int x9), none] [] M := ⟨fun c132 => (h.1 c132), fun c132 => ⟨Nat.le_of_ble_eq_true rfl, rfl, (fgs_1 hW), 0, 0, Nat.zero_le _, Nat.zero_le _, (h.2 c132)⟩⟩
theorem vkX0_make_141 {mc ms : Nat} {X : Nat → zV} {Q : zQt} {M : zM} {g : Nat} {x2 : Int32} {x3 : Int32} {x4 : Int32} {x5 : Int32} {x7 : Int32} {x8 : Int32} {x9 : Int32} (hW : zWd M g)  (h : X 141 0 0 [.ref (g + 1), .int x2, .int x3, .int x4, .int x5, .int x8, .int x9] [] M) : kX0_make_141 mc ms X Q 0 0 [some (.ref (g + 1)), none, some (.int x2), some (.int x3), some (.int x4), some (.int x5), none, some (.int x7), some (.int x8), some (.int x9), none] [] M := h
theorem vkX0_make_166 {mc ms : Nat} {X : Nat → zV} {Q : zQt} {M : zM} {g : Nat} {x2 : Int32} {x3 : Int32} {x5 : Int32} {x8 : Int32} {x9 : Int32} (hW : zWd M g)  (h : (x9 = 0 → X 208 0 0 [.ref (g + 1), .int x2, .int x3, .int x5, .int x8] [] M) ∧ (¬ x9 = 0 → (x9 ≤ 0 → X 186 0 0 [.ref (g + 1), .int x2, .int x3, .int x5, .int x8, .int x9] [.int (x3 - (2 : Int32)), .ref (g + 1)] M) ∧ (¬ x9 ≤ 0 → X 186 0 0 [.ref (g + 1), .int x2, .int x3, .int x5, .int x8, .int x9] [.int (x3 + (1 : Int32)), .ref (g + 1)] M))) : kX0_make_166 mc ms X Q 0 0 [some (.ref (g + 1)), none, some (.int x2), some (.int x3), none, some (.int x5), none, none, some (.int x8), some (.int x9), none] [] M := ⟨fun c168 => (h.1 c168), fun c168 => ⟨fun c174 => ((h.2 c168).1 c174), fun c174 => ((h.2 c168).2 c174)⟩⟩
theorem vkX0_make_189 {mc ms : Nat} {X : Nat → zV} {Q : zQt} {M : zM} {g : Nat} {x2 : Int32} {x3 : Int32} {x5 : Int32} {x8 : Int32} {x9 : Int32} (hW : zWd M g)  (h : wX0_put 0 0 [.ref (g + 1), .int (x3 - (x9 / (2 : Int32))), .int ((4 : Int32) + ((6 : Int32) * (M.1 ((g + 1)) 4)))] M (fun r M1 => kX0_make_208 mc ms X Q 0 0 [some (.ref (g + 1)), none, some (.int x2), some (.int x3), none, some (.int x5), none, none, some (.int x8), some (.int x9), none] (r.toList ++ []) M1)) : kX0_make_189 mc ms X Q 0 0 [some (.ref (g + 1)), none, some (.int x2), some (.int x3), none, some (.int x5), none, none, some (.int x8), some (.int x9), none] [] M := ⟨by decide, ⟨(fgs_1 hW), ⟨Nat.le_of_ble_eq_true rfl, rfl, (fgs_1 hW), 0, 0, Nat.zero_le _, Nat.zero_le _, h⟩⟩⟩
theorem vkX0_make_208 {mc ms : Nat} {X : Nat → zV} {Q : zQt} {M : zM} {g : Nat} {x2 : Int32} {x3 : Int32} {x5 : Int32} {x8 : Int32} {x9 : Int32} (hW : zWd M g)  (h : X 208 0 0 [.ref (g + 1), .int x2, .int x3, .int x5, .int x8] [] M) : kX0_make_208 mc ms X Q 0 0 [some (.ref (g + 1)), none, some (.int x2), some (.int x3), none, some (.int x5), none, none, some (.int x8), some (.int x9), none] [] M := h
theorem vkX0_make_238 {mc ms : Nat} {X : Nat → zV} {Q : zQt} {M : zM} {g : Nat} {x2 : Int32} {x3 : Int32} {x8 : Int32} {x10 : Int32} {s0 : Int32} {s1 : Int32} (hW : zWd M g)  (h : wX0_rightsAt 0 0 [.int x3] M (fun r M1 => kX0_make_242 mc ms X Q 0 0 [some (.ref (g + 1)), none, some (.int x2), some (.int x3), none, none, none, none, some (.int x8), none, some (.int x10)] (r.toList ++ [.int s0, .int s1, .ref (g + 1)]) M1)) : kX0_make_238 mc ms X Q 0 0 [some (.ref (g + 1)), none, some (.int x2), some (.int x3), none, none, none, none, some (.int x8), none, some (.int x10)] [.int s0, .int s1, .ref (g + 1)] M := ⟨Nat.le_of_ble_eq_true rfl, rfl, 0, 0, Nat.zero_le _, Nat.zero_le _, h⟩
theorem vkX0_make_242 {mc ms : Nat} {X : Nat → zV} {Q : zQt} {M : zM} {g : Nat} {x2 : Int32} {x3 : Int32} {x8 : Int32} {x10 : Int32} {s0 : Int32} {s1 : Int32} {s2 : Int32} (hW : zWd M g)  (h : ∀ M246 : zM, M246 = (zsI M ((g + 1)) 5 ((s2 &&& ((s1 ||| s0) ^^^ ((-1) : Int32))))) → (x10 = 0 → X 281 0 0 [.ref (g + 1), .int x8, .int x10] [.ref (g + 1)] M246) ∧ (¬ x10 = 0 → ((if 0 ≤ (x3 - x2) then (x3 - x2) else 0 - (x3 - x2)) = (16 : Int32) → wX0_isBesidePawn 0 0 [.ref (g + 1), .int x3] M246 (fun r M1 => kX0_make_271 mc ms X Q 0 0 [some (.ref (g + 1)), none, some (.int x2), some (.int x3), none, none, none, none, some (.int x8), none, some (.int x10)] (r.toList ++ [.ref (g + 1)]) M1)) ∧ (¬ (if 0 ≤ (x3 - x2) then (x3 - x2) else 0 - (x3 - x2)) = (16 : Int32) → X 281 0 0 [.ref (g + 1), .int x8, .int x10] [.ref (g + 1)] M246))) : kX0_make_242 mc ms X Q 0 0 [some (.ref (g + 1)), none, some (.int x2), some (.int x3), none, none, none, none, some (.int x8), none, some (.int x10)] [.int s0, .int s1, .int s2, .ref (g + 1)] M := ⟨(fgs_1 hW), (have h246 := h _ rfl; ⟨fun c252 => (h246.1 c252), fun c252 => ⟨Nat.le_of_ble_eq_true rfl, ⟨fun c263 => ⟨Nat.le_of_ble_eq_true rfl, rfl, (fgs_1 hW), 0, 0, Nat.zero_le _, Nat.zero_le _, ((h246.2 c252).1 c263)⟩, fun c263 => ((h246.2 c252).2 c263)⟩⟩⟩)⟩
theorem vkX0_make_271 {mc ms : Nat} {X : Nat → zV} {Q : zQt} {M : zM} {g : Nat} {x2 : Int32} {x3 : Int32} {x8 : Int32} {x10 : Int32} {s0 : Int32} (hW : zWd M g)  (h : (s0 = 0 → X 281 0 0 [.ref (g + 1), .int x8, .int x10] [.ref (g + 1)] M) ∧ (¬ s0 = 0 → X 282 0 0 [.ref (g + 1), .int x8, .int x10] [.int (x3 &&& (7 : Int32)), .ref (g + 1)] M)) : kX0_make_271 mc ms X Q 0 0 [some (.ref (g + 1)), none, some (.int x2), some (.int x3), none, none, none, none, some (.int x8), none, some (.int x10)] [.int s0, .ref (g + 1)] M := ⟨fun c271 => (h.1 c271), fun c271 => (h.2 c271)⟩
theorem dX1_init_0 : decode cX1_init 0 = .ok (.aload_n 0, 1) := by decide +kernel
theorem dX1_init_1 : decode cX1_init 1 = .ok (.invokespecial 1, 3) := by decide +kernel
theorem dX1_init_4 : decode cX1_init 4 = .ok (.aload_n 0, 1) := by decide +kernel
theorem dX1_init_5 : decode cX1_init 5 = .ok (.bipush 64, 2) := by decide +kernel
theorem dX1_init_7 : decode cX1_init 7 = .ok (.newarray .long, 2) := by decide +kernel
theorem dX1_init_9 : decode cX1_init 9 = .ok (.putfield 7, 3) := by decide +kernel
theorem dX1_init_12 : decode cX1_init 12 = .ok (.aload_n 0, 1) := by decide +kernel
theorem dX1_init_13 : decode cX1_init 13 = .ok (.bipush 64, 2) := by decide +kernel
theorem dX1_init_15 : decode cX1_init 15 = .ok (.newarray .long, 2) := by decide +kernel
theorem dX1_init_17 : decode cX1_init 17 = .ok (.putfield 13, 3) := by decide +kernel
theorem dX1_init_20 : decode cX1_init 20 = .ok (.aload_n 0, 1) := by decide +kernel
theorem dX1_init_21 : decode cX1_init 21 = .ok (.sipush 128, 3) := by decide +kernel
theorem dX1_init_24 : decode cX1_init 24 = .ok (.newarray .long, 2) := by decide +kernel
theorem dX1_init_26 : decode cX1_init 26 = .ok (.putfield 16, 3) := by decide +kernel
theorem dX1_init_29 : decode cX1_init 29 = .ok (.aload_n 0, 1) := by decide +kernel
theorem dX1_init_30 : decode cX1_init 30 = .ok (.sipush 512, 3) := by decide +kernel
theorem dX1_init_33 : decode cX1_init 33 = .ok (.newarray .long, 2) := by decide +kernel
theorem dX1_init_35 : decode cX1_init 35 = .ok (.putfield 19, 3) := by decide +kernel
theorem dX1_init_38 : decode cX1_init 38 = .ok (.aload_n 0, 1) := by decide +kernel
theorem dX1_init_39 : decode cX1_init 39 = .ok (.bipush 64, 2) := by decide +kernel
theorem dX1_init_41 : decode cX1_init 41 = .ok (.newarray .long, 2) := by decide +kernel
theorem dX1_init_43 : decode cX1_init 43 = .ok (.putfield 22, 3) := by decide +kernel
theorem dX1_init_46 : decode cX1_init 46 = .ok (.aload_n 0, 1) := by decide +kernel
theorem dX1_init_47 : decode cX1_init 47 = .ok (.bipush 64, 2) := by decide +kernel
theorem dX1_init_49 : decode cX1_init 49 = .ok (.newarray .long, 2) := by decide +kernel
theorem dX1_init_51 : decode cX1_init 51 = .ok (.putfield 25, 3) := by decide +kernel
theorem dX1_init_54 : decode cX1_init 54 = .ok (.iconst 0, 1) := by decide +kernel
theorem dX1_init_55 : decode cX1_init 55 = .ok (.istore_n 1, 1) := by decide +kernel
theorem dX1_init_56 : decode cX1_init 56 = .ok (.iload_n 1, 1) := by decide +kernel
theorem dX1_init_57 : decode cX1_init 57 = .ok (.bipush 64, 2) := by decide +kernel
theorem dX1_init_59 : decode cX1_init 59 = .ok (.if_icmp .ge 219, 3) := by decide +kernel
theorem dX1_init_62 : decode cX1_init 62 = .ok (.iconst 0, 1) := by decide +kernel
theorem dX1_init_63 : decode cX1_init 63 = .ok (.istore_n 2, 1) := by decide +kernel
theorem dX1_init_64 : decode cX1_init 64 = .ok (.iload_n 2, 1) := by decide +kernel
theorem dX1_init_65 : decode cX1_init 65 = .ok (.bipush 8, 2) := by decide +kernel
theorem dX1_init_67 : decode cX1_init 67 = .ok (.if_icmp .ge 71, 3) := by decide +kernel
theorem dX1_init_70 : decode cX1_init 70 = .ok (.aload_n 0, 1) := by decide +kernel
theorem dX1_init_71 : decode cX1_init 71 = .ok (.getfield 7, 3) := by decide +kernel
theorem dX1_init_74 : decode cX1_init 74 = .ok (.iload_n 1, 1) := by decide +kernel
theorem dX1_init_75 : decode cX1_init 75 = .ok (.dup2, 1) := by decide +kernel
theorem dX1_init_76 : decode cX1_init 76 = .ok (.laload, 1) := by decide +kernel
theorem dX1_init_77 : decode cX1_init 77 = .ok (.iload_n 1, 1) := by decide +kernel
theorem dX1_init_78 : decode cX1_init 78 = .ok (.getstatic 28, 3) := by decide +kernel
theorem dX1_init_81 : decode cX1_init 81 = .ok (.iload_n 2, 1) := by decide +kernel
theorem dX1_init_82 : decode cX1_init 82 = .ok (.iaload, 1) := by decide +kernel
theorem dX1_init_83 : decode cX1_init 83 = .ok (.getstatic 32, 3) := by decide +kernel
theorem dX1_init_86 : decode cX1_init 86 = .ok (.iload_n 2, 1) := by decide +kernel
theorem dX1_init_87 : decode cX1_init 87 = .ok (.iaload, 1) := by decide +kernel
theorem dX1_init_88 : decode cX1_init 88 = .ok (.invokestatic 35, 3) := by decide +kernel
theorem dX1_init_91 : decode cX1_init 91 = .ok (.lor, 1) := by decide +kernel
theorem dX1_init_92 : decode cX1_init 92 = .ok (.lastore, 1) := by decide +kernel
theorem dX1_init_93 : decode cX1_init 93 = .ok (.aload_n 0, 1) := by decide +kernel
theorem dX1_init_94 : decode cX1_init 94 = .ok (.getfield 13, 3) := by decide +kernel
theorem dX1_init_97 : decode cX1_init 97 = .ok (.iload_n 1, 1) := by decide +kernel
theorem dX1_init_98 : decode cX1_init 98 = .ok (.dup2, 1) := by decide +kernel
theorem dX1_init_99 : decode cX1_init 99 = .ok (.laload, 1) := by decide +kernel
theorem dX1_init_100 : decode cX1_init 100 = .ok (.iload_n 1, 1) := by decide +kernel
theorem dX1_init_101 : decode cX1_init 101 = .ok (.getstatic 39, 3) := by decide +kernel
theorem dX1_init_104 : decode cX1_init 104 = .ok (.iload_n 2, 1) := by decide +kernel
theorem dX1_init_105 : decode cX1_init 105 = .ok (.iaload, 1) := by decide +kernel
theorem dX1_init_106 : decode cX1_init 106 = .ok (.getstatic 42, 3) := by decide +kernel
theorem dX1_init_109 : decode cX1_init 109 = .ok (.iload_n 2, 1) := by decide +kernel
theorem dX1_init_110 : decode cX1_init 110 = .ok (.iaload, 1) := by decide +kernel
theorem dX1_init_111 : decode cX1_init 111 = .ok (.invokestatic 35, 3) := by decide +kernel
theorem dX1_init_114 : decode cX1_init 114 = .ok (.lor, 1) := by decide +kernel
theorem dX1_init_115 : decode cX1_init 115 = .ok (.lastore, 1) := by decide +kernel
theorem dX1_init_116 : decode cX1_init 116 = .ok (.aload_n 0, 1) := by decide +kernel
theorem dX1_init_117 : decode cX1_init 117 = .ok (.getfield 19, 3) := by decide +kernel
theorem dX1_init_120 : decode cX1_init 120 = .ok (.iload_n 2, 1) := by decide +kernel
theorem dX1_init_121 : decode cX1_init 121 = .ok (.bipush 64, 2) := by decide +kernel
theorem dX1_init_123 : decode cX1_init 123 = .ok (.imul, 1) := by decide +kernel
theorem dX1_init_124 : decode cX1_init 124 = .ok (.iload_n 1, 1) := by decide +kernel
theorem dX1_init_125 : decode cX1_init 125 = .ok (.iadd, 1) := by decide +kernel
theorem dX1_init_126 : decode cX1_init 126 = .ok (.iload_n 1, 1) := by decide +kernel
theorem dX1_init_127 : decode cX1_init 127 = .ok (.iload_n 2, 1) := by decide +kernel
theorem dX1_init_128 : decode cX1_init 128 = .ok (.invokestatic 45, 3) := by decide +kernel
theorem dX1_init_131 : decode cX1_init 131 = .ok (.lastore, 1) := by decide +kernel
theorem dX1_init_132 : decode cX1_init 132 = .ok (.iinc 2 1, 3) := by decide +kernel
theorem dX1_init_135 : decode cX1_init 135 = .ok (.goto (-71), 3) := by decide +kernel
theorem dX1_init_138 : decode cX1_init 138 = .ok (.aload_n 0, 1) := by decide +kernel
theorem dX1_init_139 : decode cX1_init 139 = .ok (.getfield 16, 3) := by decide +kernel
theorem dX1_init_142 : decode cX1_init 142 = .ok (.iload_n 1, 1) := by decide +kernel
theorem dX1_init_143 : decode cX1_init 143 = .ok (.iload_n 1, 1) := by decide +kernel
theorem dX1_init_144 : decode cX1_init 144 = .ok (.iconst (-1), 1) := by decide +kernel
theorem dX1_init_145 : decode cX1_init 145 = .ok (.iconst 1, 1) := by decide +kernel
theorem dX1_init_146 : decode cX1_init 146 = .ok (.invokestatic 35, 3) := by decide +kernel
theorem dX1_init_149 : decode cX1_init 149 = .ok (.iload_n 1, 1) := by decide +kernel
theorem dX1_init_150 : decode cX1_init 150 = .ok (.iconst 1, 1) := by decide +kernel
theorem dX1_init_151 : decode cX1_init 151 = .ok (.iconst 1, 1) := by decide +kernel
theorem dX1_init_152 : decode cX1_init 152 = .ok (.invokestatic 35, 3) := by decide +kernel
theorem dX1_init_155 : decode cX1_init 155 = .ok (.lor, 1) := by decide +kernel
theorem dX1_init_156 : decode cX1_init 156 = .ok (.lastore, 1) := by decide +kernel
theorem dX1_init_157 : decode cX1_init 157 = .ok (.aload_n 0, 1) := by decide +kernel
theorem dX1_init_158 : decode cX1_init 158 = .ok (.getfield 16, 3) := by decide +kernel
theorem dX1_init_161 : decode cX1_init 161 = .ok (.bipush 64, 2) := by decide +kernel
theorem dX1_init_163 : decode cX1_init 163 = .ok (.iload_n 1, 1) := by decide +kernel
theorem dX1_init_164 : decode cX1_init 164 = .ok (.iadd, 1) := by decide +kernel
theorem dX1_init_165 : decode cX1_init 165 = .ok (.iload_n 1, 1) := by decide +kernel
theorem dX1_init_166 : decode cX1_init 166 = .ok (.iconst (-1), 1) := by decide +kernel
theorem dX1_init_167 : decode cX1_init 167 = .ok (.iconst (-1), 1) := by decide +kernel
theorem dX1_init_168 : decode cX1_init 168 = .ok (.invokestatic 35, 3) := by decide +kernel
theorem dX1_init_171 : decode cX1_init 171 = .ok (.iload_n 1, 1) := by decide +kernel
theorem dX1_init_172 : decode cX1_init 172 = .ok (.iconst 1, 1) := by decide +kernel
theorem dX1_init_173 : decode cX1_init 173 = .ok (.iconst (-1), 1) := by decide +kernel
theorem dX1_init_174 : decode cX1_init 174 = .ok (.invokestatic 35, 3) := by decide +kernel
theorem dX1_init_177 : decode cX1_init 177 = .ok (.lor, 1) := by decide +kernel
theorem dX1_init_178 : decode cX1_init 178 = .ok (.lastore, 1) := by decide +kernel
theorem dX1_init_179 : decode cX1_init 179 = .ok (.aload_n 0, 1) := by decide +kernel
theorem dX1_init_180 : decode cX1_init 180 = .ok (.getfield 22, 3) := by decide +kernel
theorem dX1_init_183 : decode cX1_init 183 = .ok (.iload_n 1, 1) := by decide +kernel
theorem dX1_init_184 : decode cX1_init 184 = .ok (.aload_n 0, 1) := by decide +kernel
theorem dX1_init_185 : decode cX1_init 185 = .ok (.getfield 19, 3) := by decide +kernel
theorem dX1_init_188 : decode cX1_init 188 = .ok (.iload_n 1, 1) := by decide +kernel
theorem dX1_init_189 : decode cX1_init 189 = .ok (.laload, 1) := by decide +kernel
theorem dX1_init_190 : decode cX1_init 190 = .ok (.aload_n 0, 1) := by decide +kernel
theorem dX1_init_191 : decode cX1_init 191 = .ok (.getfield 19, 3) := by decide +kernel
theorem dX1_init_194 : decode cX1_init 194 = .ok (.bipush 64, 2) := by decide +kernel
theorem dX1_init_196 : decode cX1_init 196 = .ok (.iload_n 1, 1) := by decide +kernel
theorem dX1_init_197 : decode cX1_init 197 = .ok (.iadd, 1) := by decide +kernel
theorem dX1_init_198 : decode cX1_init 198 = .ok (.laload, 1) := by decide +kernel
theorem dX1_init_199 : decode cX1_init 199 = .ok (.lor, 1) := by decide +kernel
theorem dX1_init_200 : decode cX1_init 200 = .ok (.aload_n 0, 1) := by decide +kernel
theorem dX1_init_201 : decode cX1_init 201 = .ok (.getfield 19, 3) := by decide +kernel
theorem dX1_init_204 : decode cX1_init 204 = .ok (.sipush 256, 3) := by decide +kernel
theorem dX1_init_207 : decode cX1_init 207 = .ok (.iload_n 1, 1) := by decide +kernel
theorem dX1_init_208 : decode cX1_init 208 = .ok (.iadd, 1) := by decide +kernel
theorem dX1_init_209 : decode cX1_init 209 = .ok (.laload, 1) := by decide +kernel
theorem dX1_init_210 : decode cX1_init 210 = .ok (.lor, 1) := by decide +kernel
theorem dX1_init_211 : decode cX1_init 211 = .ok (.aload_n 0, 1) := by decide +kernel
theorem dX1_init_212 : decode cX1_init 212 = .ok (.getfield 19, 3) := by decide +kernel
theorem dX1_init_215 : decode cX1_init 215 = .ok (.sipush 320, 3) := by decide +kernel
theorem dX1_init_218 : decode cX1_init 218 = .ok (.iload_n 1, 1) := by decide +kernel
theorem dX1_init_219 : decode cX1_init 219 = .ok (.iadd, 1) := by decide +kernel
theorem dX1_init_220 : decode cX1_init 220 = .ok (.laload, 1) := by decide +kernel
theorem dX1_init_221 : decode cX1_init 221 = .ok (.lor, 1) := by decide +kernel
theorem dX1_init_222 : decode cX1_init 222 = .ok (.lastore, 1) := by decide +kernel
theorem dX1_init_223 : decode cX1_init 223 = .ok (.aload_n 0, 1) := by decide +kernel
theorem dX1_init_224 : decode cX1_init 224 = .ok (.getfield 25, 3) := by decide +kernel
theorem dX1_init_227 : decode cX1_init 227 = .ok (.iload_n 1, 1) := by decide +kernel
theorem dX1_init_228 : decode cX1_init 228 = .ok (.aload_n 0, 1) := by decide +kernel
theorem dX1_init_229 : decode cX1_init 229 = .ok (.getfield 19, 3) := by decide +kernel
theorem dX1_init_232 : decode cX1_init 232 = .ok (.sipush 128, 3) := by decide +kernel
theorem dX1_init_235 : decode cX1_init 235 = .ok (.iload_n 1, 1) := by decide +kernel
theorem dX1_init_236 : decode cX1_init 236 = .ok (.iadd, 1) := by decide +kernel
theorem dX1_init_237 : decode cX1_init 237 = .ok (.laload, 1) := by decide +kernel
theorem dX1_init_238 : decode cX1_init 238 = .ok (.aload_n 0, 1) := by decide +kernel
theorem dX1_init_239 : decode cX1_init 239 = .ok (.getfield 19, 3) := by decide +kernel
theorem dX1_init_242 : decode cX1_init 242 = .ok (.sipush 192, 3) := by decide +kernel
theorem dX1_init_245 : decode cX1_init 245 = .ok (.iload_n 1, 1) := by decide +kernel
theorem dX1_init_246 : decode cX1_init 246 = .ok (.iadd, 1) := by decide +kernel
theorem dX1_init_247 : decode cX1_init 247 = .ok (.laload, 1) := by decide +kernel
theorem dX1_init_248 : decode cX1_init 248 = .ok (.lor, 1) := by decide +kernel
theorem dX1_init_249 : decode cX1_init 249 = .ok (.aload_n 0, 1) := by decide +kernel
theorem dX1_init_250 : decode cX1_init 250 = .ok (.getfield 19, 3) := by decide +kernel
theorem dX1_init_253 : decode cX1_init 253 = .ok (.sipush 384, 3) := by decide +kernel
theorem dX1_init_256 : decode cX1_init 256 = .ok (.iload_n 1, 1) := by decide +kernel
theorem dX1_init_257 : decode cX1_init 257 = .ok (.iadd, 1) := by decide +kernel
theorem dX1_init_258 : decode cX1_init 258 = .ok (.laload, 1) := by decide +kernel
theorem dX1_init_259 : decode cX1_init 259 = .ok (.lor, 1) := by decide +kernel
theorem dX1_init_260 : decode cX1_init 260 = .ok (.aload_n 0, 1) := by decide +kernel
theorem dX1_init_261 : decode cX1_init 261 = .ok (.getfield 19, 3) := by decide +kernel
theorem dX1_init_264 : decode cX1_init 264 = .ok (.sipush 448, 3) := by decide +kernel
theorem dX1_init_267 : decode cX1_init 267 = .ok (.iload_n 1, 1) := by decide +kernel
theorem dX1_init_268 : decode cX1_init 268 = .ok (.iadd, 1) := by decide +kernel
theorem dX1_init_269 : decode cX1_init 269 = .ok (.laload, 1) := by decide +kernel
theorem dX1_init_270 : decode cX1_init 270 = .ok (.lor, 1) := by decide +kernel
theorem dX1_init_271 : decode cX1_init 271 = .ok (.lastore, 1) := by decide +kernel
theorem dX1_init_272 : decode cX1_init 272 = .ok (.iinc 1 1, 3) := by decide +kernel
theorem dX1_init_275 : decode cX1_init 275 = .ok (.goto (-219), 3) := by decide +kernel
theorem dX1_init_278 : decode cX1_init 278 = .ok (.return_, 1) := by decide +kernel
def kX1_init_177 (mc ms : Nat) (X : Nat → zV) (Q : zQt) : zT :=
  zjj (fun x y => x ||| y) <| zasl <| zla 0 <| zgR 1 4 <| zli 1 <| zla 0 <| zgR 1 3 <| zli 1 <| zall <| zla 0 <| zgR 1 3 <| zc (.int 64) <| zli 1 <| zii (fun x y => x + y) <| zall <| zjj (fun x y => x ||| y) <| zla 0 <| zgR 1 3 <| zc (.int 256) <| zli 1 <| zii (fun x y => x + y) <| zall <| zjj (fun x y => x ||| y) <| zla 0 <| zgR 1 3 <| zc (.int 320) <| zli 1 <| zii (fun x y => x + y) <| zall <| zjj (fun x y => x ||| y) <| zasl <| zla 0 <| zgR 1 5 <| zli 1 <| zla 0 <| zgR 1 3 <| zc (.int 128) <| zli 1 <| zii (fun x y => x + y) <| zall <| zla 0 <| zgR 1 3 <| zc (.int 192) <| zli 1 <| zii (fun x y => x + y) <| zall <| zjj (fun x y => x ||| y) <| zla 0 <| zgR 1 3 <| zc (.int 384) <| zli 1 <| zii (fun x y => x + y) <| zall <| zjj (fun x y => x ||| y) <| zla 0 <| zgR 1 3 <| zc (.int 448) <| zli 1 <| zii (fun x y => x + y) <| zall <| zjj (fun x y => x ||| y) <| zasl <| zinc 1 1 <| zj X 56 [0, 1]
def kX1_init_171 (mc ms : Nat) (X : Nat → zV) (Q : zQt) : zT :=
  zli 1 <| zc (.int 1) <| zc (.int (-1)) <| zcs mc ms 3 wX1_beside <| kX1_init_177 mc ms X Q
def kX1_init_155 (mc ms : Nat) (X : Nat → zV) (Q : zQt) : zT :=
  zjj (fun x y => x ||| y) <| zasl <| zla 0 <| zgR 1 2 <| zc (.int 64) <| zli 1 <| zii (fun x y => x + y) <| zli 1 <| zc (.int (-1)) <| zc (.int (-1)) <| zcs mc ms 3 wX1_beside <| kX1_init_171 mc ms X Q
def kX1_init_149 (mc ms : Nat) (X : Nat → zV) (Q : zQt) : zT :=
  zli 1 <| zc (.int 1) <| zc (.int 1) <| zcs mc ms 3 wX1_beside <| kX1_init_155 mc ms X Q
def kX1_init_131 (mc ms : Nat) (X : Nat → zV) (Q : zQt) : zT :=
  zasl <| zinc 2 1 <| zj X 64 [0, 1, 2]
def kX1_init_114 (mc ms : Nat) (X : Nat → zV) (Q : zQt) : zT :=
  zjj (fun x y => x ||| y) <| zasl <| zla 0 <| zgR 1 3 <| zli 2 <| zc (.int 64) <| zii (fun x y => x * y) <| zli 1 <| zii (fun x y => x + y) <| zli 1 <| zli 2 <| zcs mc ms 2 wX1_wholeRay <| kX1_init_131 mc ms X Q
def kX1_init_91 (mc ms : Nat) (X : Nat → zV) (Q : zQt) : zT :=
  zjj (fun x y => x ||| y) <| zasl <| zla 0 <| zgR 1 1 <| zli 1 <| zdp2 <| zall <| zli 1 <| zgs 0 <| zli 2 <| zxl 0 <| zgs 1 <| zli 2 <| zxl 1 <| zcs mc ms 3 wX1_beside <| kX1_init_114 mc ms X Q
def aX1_init_0 (mc ms : Nat) (X : Nat → zV) (Q : zQt) : zT :=
  zla 0 <| zoi <| zla 0 <| zc (.int 64) <| zna mc ms 2 <| zpr 1 0 <| zla 0 <| zc (.int 64) <| zna mc ms 2 <| zpr 1 1 <| zla 0 <| zc (.int 128) <| zna mc ms 2 <| zpr 1 2 <| zla 0 <| zc (.int 512) <| zna mc ms 2 <| zpr 1 3 <| zla 0 <| zc (.int 64) <| zna mc ms 2 <| zpr 1 4 <| zla 0 <| zc (.int 64) <| zna mc ms 2 <| zpr 1 5 <| zc (.int 0) <| zsi 1 <| zj X 56 [0, 1]
def aX1_init_56 (mc ms : Nat) (X : Nat → zV) (Q : zQt) : zT :=
  zli 1 <| zc (.int 64) <| zic (fun x y => y ≤ x) (zrv Q) <| zc (.int 0) <| zsi 2 <| zj X 64 [0, 1, 2]
def aX1_init_64 (mc ms : Nat) (X : Nat → zV) (Q : zQt) : zT :=
  zli 2 <| zc (.int 8) <| zic (fun x y => y ≤ x) (zla 0 <| zgR 1 2 <| zli 1 <| zli 1 <| zc (.int (-1)) <| zc (.int 1) <| zcs mc ms 3 wX1_beside <| kX1_init_149 mc ms X Q) <| zla 0 <| zgR 1 0 <| zli 1 <| zdp2 <| zall <| zli 1 <| zgs 2 <| zli 2 <| zxl 2 <| zgs 3 <| zli 2 <| zxl 3 <| zcs mc ms 3 wX1_beside <| kX1_init_91 mc ms X Q
def lvX1_init : Nat → List Nat := fun L => match L with
  | 0 => [0]
  | 56 => [0, 1]
  | 64 => [0, 1, 2]
  | _ => []
def wX1_init : zSp := fun mc ms av M Q => ((zlay av).length ≤ 3 ∧ zpick (zlay av) [0] = some av) ∧ ∀ X : Nat → zV, zin 3 [0] (aX1_init_0 mc ms X Q) X 0 → zin 3 [0, 1] (aX1_init_56 mc ms X Q) X 56 → zin 3 [0, 1, 2] (aX1_init_64 mc ms X Q) X 64 → X 0 0 0 av [] M
set_option maxRecDepth 100000 in
set_option maxHeartbeats 4000000 in
theorem sX1_init (l : Launch) (G : zG) (hG : zStat G) : zSnd l G yX1_init cX1_init 3 none 2 48 wX1_init := by
  refine zmk [0] (by decide) (fun mc ms av M Q h => h.1) ?_
  intro p e R s m args below meth c mc ms av M Q hC hRf hRl hr hnm h lv hlv
  obtain ⟨X, hXe⟩ : ∃ X : Nat → zV, X = fun L u v vs st M => ∀ lv, zpick lv (lvX1_init L) = some vs → zAt p l e R s m args below meth c (MQ below (zQ G Q) args s mc ms (zA G)) G 3 L u v lv st M := ⟨_, rfl⟩
  have hJ : ∀ L, zOk p l e R s m args below meth c (MQ below (zQ G Q) args s mc ms (zA G)) G 3 L (zj X L (lvX1_init L)) := fun L => S_jump (fun u v lv vs st M hp hx => by rw [hXe] at hx; exact hx lv hp)
  have hB0 : zin 3 [0] (aX1_init_0 mc ms X Q) X 0 := by
    intro u v vs st M hb
    rw [hXe]
    refine fun lv hp => S_block (L := 0) (live := [0]) ?_ u v lv vs st M hp hb
    unfold aX1_init_0
    refine S_aload_n (pc := 0) hC dX1_init_0 rfl ?_
    refine S_objInit (pc := 1) hC wd_42 wd_35 wd_36 (by rw [hRf]; decide) (by rw [hRl]; decide) dX1_init_1 ?_
    refine S_aload_n (pc := 4) hC dX1_init_4 rfl ?_
    refine S_bipush (pc := 5) hC dX1_init_5 (by decide) ?_
    refine S_newa_long (pc := 7) hC wd_88 dX1_init_7 ?_
    refine S_putr (pc := 9) hC cfX1 (by decide) (Or.inr ⟨_, rfl⟩) (Or.inr ⟨rfl, hnm, rfl⟩) wd_57 dX1_init_9 ?_
    refine S_aload_n (pc := 12) hC dX1_init_12 rfl ?_
    refine S_bipush (pc := 13) hC dX1_init_13 (by decide) ?_
    refine S_newa_long (pc := 15) hC wd_88 dX1_init_15 ?_
    refine S_putr (pc := 17) hC cfX1 (by decide) (Or.inr ⟨_, rfl⟩) (Or.inr ⟨rfl, hnm, rfl⟩) wd_60 dX1_init_17 ?_
    refine S_aload_n (pc := 20) hC dX1_init_20 rfl ?_
    refine S_sipush (pc := 21) hC dX1_init_21 (by decide) ?_
    refine S_newa_long (pc := 24) hC wd_88 dX1_init_24 ?_
    refine S_putr (pc := 26) hC cfX1 (by decide) (Or.inr ⟨_, rfl⟩) (Or.inr ⟨rfl, hnm, rfl⟩) wd_64 dX1_init_26 ?_
    refine S_aload_n (pc := 29) hC dX1_init_29 rfl ?_
    refine S_sipush (pc := 30) hC dX1_init_30 (by decide) ?_
    refine S_newa_long (pc := 33) hC wd_88 dX1_init_33 ?_
    refine S_putr (pc := 35) hC cfX1 (by decide) (Or.inr ⟨_, rfl⟩) (Or.inr ⟨rfl, hnm, rfl⟩) wd_68 dX1_init_35 ?_
    refine S_aload_n (pc := 38) hC dX1_init_38 rfl ?_
    refine S_bipush (pc := 39) hC dX1_init_39 (by decide) ?_
    refine S_newa_long (pc := 41) hC wd_88 dX1_init_41 ?_
    refine S_putr (pc := 43) hC cfX1 (by decide) (Or.inr ⟨_, rfl⟩) (Or.inr ⟨rfl, hnm, rfl⟩) wd_69 dX1_init_43 ?_
    refine S_aload_n (pc := 46) hC dX1_init_46 rfl ?_
    refine S_bipush (pc := 47) hC dX1_init_47 (by decide) ?_
    refine S_newa_long (pc := 49) hC wd_88 dX1_init_49 ?_
    refine S_putr (pc := 51) hC cfX1 (by decide) (Or.inr ⟨_, rfl⟩) (Or.inr ⟨rfl, hnm, rfl⟩) wd_72 dX1_init_51 ?_
    refine S_iconst (pc := 54) hC dX1_init_54 (by decide) ?_
    refine S_istore_n (pc := 55) hC dX1_init_55 rfl (by decide) ?_
    exact hJ 56
  have hB56 : zin 3 [0, 1] (aX1_init_56 mc ms X Q) X 56 := by
    intro u v vs st M hb
    rw [hXe]
    refine fun lv hp => S_block (L := 56) (live := [0, 1]) ?_ u v lv vs st M hp hb
    unfold aX1_init_56
    refine S_iload_n (pc := 56) hC dX1_init_56 rfl ?_
    refine S_bipush (pc := 57) hC dX1_init_57 (by decide) ?_
    refine S_icmp_ge (pc := 59) (tgt := 278) hC dX1_init_59 (by decide) ?_ ?_
    · exact S_vreturn (pc := 278) hC hr dX1_init_278
    · refine S_iconst (pc := 62) hC dX1_init_62 (by decide) ?_
      refine S_istore_n (pc := 63) hC dX1_init_63 rfl (by decide) ?_
      exact hJ 64
  have hB64 : zin 3 [0, 1, 2] (aX1_init_64 mc ms X Q) X 64 := by
    intro u v vs st M hb
    rw [hXe]
    refine fun lv hp => S_block (L := 64) (live := [0, 1, 2]) ?_ u v lv vs st M hp hb
    unfold aX1_init_64
    refine S_iload_n (pc := 64) hC dX1_init_64 rfl ?_
    refine S_bipush (pc := 65) hC dX1_init_65 (by decide) ?_
    refine S_icmp_ge (pc := 67) (tgt := 138) hC dX1_init_67 (by decide) ?_ ?_
    · refine S_aload_n (pc := 138) hC dX1_init_138 rfl ?_
      refine S_getR (pc := 139) hC cfX1 (by decide) (Or.inr ⟨_, rfl⟩) wd_64 dX1_init_139 ?_
      refine S_iload_n (pc := 142) hC dX1_init_142 rfl ?_
      refine S_iload_n (pc := 143) hC dX1_init_143 rfl ?_
      refine S_iconst (pc := 144) hC dX1_init_144 (by decide) ?_
      refine S_iconst (pc := 145) hC dX1_init_145 (by decide) ?_
      refine S_callS (pc := 146) hC (sX1_beside l G) wd_47 wd_48 wd_2 wd_49 (by decide +kernel) ⟨by rw [hRf]; decide, by rw [hRl]; decide⟩ dX1_init_146 ?_
      unfold kX1_init_149
      refine S_iload_n (pc := 149) hC dX1_init_149 rfl ?_
      refine S_iconst (pc := 150) hC dX1_init_150 (by decide) ?_
      refine S_iconst (pc := 151) hC dX1_init_151 (by decide) ?_
      refine S_callS (pc := 152) hC (sX1_beside l G) wd_47 wd_48 wd_2 wd_49 (by decide +kernel) ⟨by rw [hRf]; decide, by rw [hRl]; decide⟩ dX1_init_152 ?_
      unfold kX1_init_155
      refine S_lor (pc := 155) hC dX1_init_155 ?_
      refine S_lastore (pc := 156) hC dX1_init_156 ?_
      refine S_aload_n (pc := 157) hC dX1_init_157 rfl ?_
      refine S_getR (pc := 158) hC cfX1 (by decide) (Or.inr ⟨_, rfl⟩) wd_64 dX1_init_158 ?_
      refine S_bipush (pc := 161) hC dX1_init_161 (by decide) ?_
      refine S_iload_n (pc := 163) hC dX1_init_163 rfl ?_
      refine S_iadd (pc := 164) hC dX1_init_164 ?_
      refine S_iload_n (pc := 165) hC dX1_init_165 rfl ?_
      refine S_iconst (pc := 166) hC dX1_init_166 (by decide) ?_
      refine S_iconst (pc := 167) hC dX1_init_167 (by decide) ?_
      refine S_callS (pc := 168) hC (sX1_beside l G) wd_47 wd_48 wd_2 wd_49 (by decide +kernel) ⟨by rw [hRf]; decide, by rw [hRl]; decide⟩ dX1_init_168 ?_
      unfold kX1_init_171
      refine S_iload_n (pc := 171) hC dX1_init_171 rfl ?_
      refine S_iconst (pc := 172) hC dX1_init_172 (by decide) ?_
      refine S_iconst (pc := 173) hC dX1_init_173 (by decide) ?_
      refine S_callS (pc := 174) hC (sX1_beside l G) wd_47 wd_48 wd_2 wd_49 (by decide +kernel) ⟨by rw [hRf]; decide, by rw [hRl]; decide⟩ dX1_init_174 ?_
      unfold kX1_init_177
      refine S_lor (pc := 177) hC dX1_init_177 ?_
      refine S_lastore (pc := 178) hC dX1_init_178 ?_
      refine S_aload_n (pc := 179) hC dX1_init_179 rfl ?_
      refine S_getR (pc := 180) hC cfX1 (by decide) (Or.inr ⟨_, rfl⟩) wd_69 dX1_init_180 ?_
      refine S_iload_n (pc := 183) hC dX1_init_183 rfl ?_
      refine S_aload_n (pc := 184) hC dX1_init_184 rfl ?_
      refine S_getR (pc := 185) hC cfX1 (by decide) (Or.inr ⟨_, rfl⟩) wd_68 dX1_init_185 ?_
      refine S_iload_n (pc := 188) hC dX1_init_188 rfl ?_
      refine S_laload (pc := 189) hC dX1_init_189 ?_
      refine S_aload_n (pc := 190) hC dX1_init_190 rfl ?_
      refine S_getR (pc := 191) hC cfX1 (by decide) (Or.inr ⟨_, rfl⟩) wd_68 dX1_init_191 ?_
      refine S_bipush (pc := 194) hC dX1_init_194 (by decide) ?_
      refine S_iload_n (pc := 196) hC dX1_init_196 rfl ?_
      refine S_iadd (pc := 197) hC dX1_init_197 ?_
      refine S_laload (pc := 198) hC dX1_init_198 ?_
      refine S_lor (pc := 199) hC dX1_init_199 ?_
      refine S_aload_n (pc := 200) hC dX1_init_200 rfl ?_
      refine S_getR (pc := 201) hC cfX1 (by decide) (Or.inr ⟨_, rfl⟩) wd_68 dX1_init_201 ?_
      refine S_sipush (pc := 204) hC dX1_init_204 (by decide) ?_
      refine S_iload_n (pc := 207) hC dX1_init_207 rfl ?_
      refine S_iadd (pc := 208) hC dX1_init_208 ?_
      refine S_laload (pc := 209) hC dX1_init_209 ?_
      refine S_lor (pc := 210) hC dX1_init_210 ?_
      refine S_aload_n (pc := 211) hC dX1_init_211 rfl ?_
      refine S_getR (pc := 212) hC cfX1 (by decide) (Or.inr ⟨_, rfl⟩) wd_68 dX1_init_212 ?_
      refine S_sipush (pc := 215) hC dX1_init_215 (by decide) ?_
      refine S_iload_n (pc := 218) hC dX1_init_218 rfl ?_
      refine S_iadd (pc := 219) hC dX1_init_219 ?_
      refine S_laload (pc := 220) hC dX1_init_220 ?_
      refine S_lor (pc := 221) hC dX1_init_221 ?_
      refine S_lastore (pc := 222) hC dX1_init_222 ?_
      refine S_aload_n (pc := 223) hC dX1_init_223 rfl ?_
      refine S_getR (pc := 224) hC cfX1 (by decide) (Or.inr ⟨_, rfl⟩) wd_72 dX1_init_224 ?_
      refine S_iload_n (pc := 227) hC dX1_init_227 rfl ?_
      refine S_aload_n (pc := 228) hC dX1_init_228 rfl ?_
      refine S_getR (pc := 229) hC cfX1 (by decide) (Or.inr ⟨_, rfl⟩) wd_68 dX1_init_229 ?_
      refine S_sipush (pc := 232) hC dX1_init_232 (by decide) ?_
      refine S_iload_n (pc := 235) hC dX1_init_235 rfl ?_
      refine S_iadd (pc := 236) hC dX1_init_236 ?_
      refine S_laload (pc := 237) hC dX1_init_237 ?_
      refine S_aload_n (pc := 238) hC dX1_init_238 rfl ?_
      refine S_getR (pc := 239) hC cfX1 (by decide) (Or.inr ⟨_, rfl⟩) wd_68 dX1_init_239 ?_
      refine S_sipush (pc := 242) hC dX1_init_242 (by decide) ?_
      refine S_iload_n (pc := 245) hC dX1_init_245 rfl ?_
      refine S_iadd (pc := 246) hC dX1_init_246 ?_
      refine S_laload (pc := 247) hC dX1_init_247 ?_
      refine S_lor (pc := 248) hC dX1_init_248 ?_
      refine S_aload_n (pc := 249) hC dX1_init_249 rfl ?_
      refine S_getR (pc := 250) hC cfX1 (by decide) (Or.inr ⟨_, rfl⟩) wd_68 dX1_init_250 ?_
      refine S_sipush (pc := 253) hC dX1_init_253 (by decide) ?_
      refine S_iload_n (pc := 256) hC dX1_init_256 rfl ?_
      refine S_iadd (pc := 257) hC dX1_init_257 ?_
      refine S_laload (pc := 258) hC dX1_init_258 ?_
      refine S_lor (pc := 259) hC dX1_init_259 ?_
      refine S_aload_n (pc := 260) hC dX1_init_260 rfl ?_
      refine S_getR (pc := 261) hC cfX1 (by decide) (Or.inr ⟨_, rfl⟩) wd_68 dX1_init_261 ?_
      refine S_sipush (pc := 264) hC dX1_init_264 (by decide) ?_
      refine S_iload_n (pc := 267) hC dX1_init_267 rfl ?_
      refine S_iadd (pc := 268) hC dX1_init_268 ?_
      refine S_laload (pc := 269) hC dX1_init_269 ?_
      refine S_lor (pc := 270) hC dX1_init_270 ?_
      refine S_lastore (pc := 271) hC dX1_init_271 ?_
      refine S_iinc (pc := 272) hC dX1_init_272 (by decide) (by decide) ?_
      refine S_goto (pc := 275) (tgt := 56) hC dX1_init_275 (by decide) ?_
      exact hJ 56
    · refine S_aload_n (pc := 70) hC dX1_init_70 rfl ?_
      refine S_getR (pc := 71) hC cfX1 (by decide) (Or.inr ⟨_, rfl⟩) wd_57 dX1_init_71 ?_
      refine S_iload_n (pc := 74) hC dX1_init_74 rfl ?_
      refine S_dup2 (pc := 75) hC dX1_init_75 ?_
      refine S_laload (pc := 76) hC dX1_init_76 ?_
      refine S_iload_n (pc := 77) hC dX1_init_77 rfl ?_
      refine S_gets (pc := 78) hC hG (e0 := 2) (by decide) wd_43 dX1_init_78 ?_
      refine S_iload_n (pc := 81) hC dX1_init_81 rfl ?_
      refine S_xload (pc := 82) hC hG (by decide) dX1_init_82 ?_
      refine S_gets (pc := 83) hC hG (e0 := 3) (by decide) wd_45 dX1_init_83 ?_
      refine S_iload_n (pc := 86) hC dX1_init_86 rfl ?_
      refine S_xload (pc := 87) hC hG (by decide) dX1_init_87 ?_
      refine S_callS (pc := 88) hC (sX1_beside l G) wd_47 wd_48 wd_2 wd_49 (by decide +kernel) ⟨by rw [hRf]; decide, by rw [hRl]; decide⟩ dX1_init_88 ?_
      unfold kX1_init_91
      refine S_lor (pc := 91) hC dX1_init_91 ?_
      refine S_lastore (pc := 92) hC dX1_init_92 ?_
      refine S_aload_n (pc := 93) hC dX1_init_93 rfl ?_
      refine S_getR (pc := 94) hC cfX1 (by decide) (Or.inr ⟨_, rfl⟩) wd_60 dX1_init_94 ?_
      refine S_iload_n (pc := 97) hC dX1_init_97 rfl ?_
      refine S_dup2 (pc := 98) hC dX1_init_98 ?_
      refine S_laload (pc := 99) hC dX1_init_99 ?_
      refine S_iload_n (pc := 100) hC dX1_init_100 rfl ?_
      refine S_gets (pc := 101) hC hG (e0 := 0) (by decide) wd_50 dX1_init_101 ?_
      refine S_iload_n (pc := 104) hC dX1_init_104 rfl ?_
      refine S_xload (pc := 105) hC hG (by decide) dX1_init_105 ?_
      refine S_gets (pc := 106) hC hG (e0 := 1) (by decide) wd_52 dX1_init_106 ?_
      refine S_iload_n (pc := 109) hC dX1_init_109 rfl ?_
      refine S_xload (pc := 110) hC hG (by decide) dX1_init_110 ?_
      refine S_callS (pc := 111) hC (sX1_beside l G) wd_47 wd_48 wd_2 wd_49 (by decide +kernel) ⟨by rw [hRf]; decide, by rw [hRl]; decide⟩ dX1_init_111 ?_
      unfold kX1_init_114
      refine S_lor (pc := 114) hC dX1_init_114 ?_
      refine S_lastore (pc := 115) hC dX1_init_115 ?_
      refine S_aload_n (pc := 116) hC dX1_init_116 rfl ?_
      refine S_getR (pc := 117) hC cfX1 (by decide) (Or.inr ⟨_, rfl⟩) wd_68 dX1_init_117 ?_
      refine S_iload_n (pc := 120) hC dX1_init_120 rfl ?_
      refine S_bipush (pc := 121) hC dX1_init_121 (by decide) ?_
      refine S_imul (pc := 123) hC dX1_init_123 ?_
      refine S_iload_n (pc := 124) hC dX1_init_124 rfl ?_
      refine S_iadd (pc := 125) hC dX1_init_125 ?_
      refine S_iload_n (pc := 126) hC dX1_init_126 rfl ?_
      refine S_iload_n (pc := 127) hC dX1_init_127 rfl ?_
      refine S_callS (pc := 128) hC (sX1_wholeRay l G hG) wd_54 wd_55 wd_2 wd_56 (by decide +kernel) ⟨by rw [hRf]; decide, by rw [hRl]; decide⟩ dX1_init_128 ?_
      unfold kX1_init_131
      refine S_lastore (pc := 131) hC dX1_init_131 ?_
      refine S_iinc (pc := 132) hC dX1_init_132 (by decide) (by decide) ?_
      refine S_goto (pc := 135) (tgt := 64) hC dX1_init_135 (by decide) ?_
      exact hJ 64
  have := h.2 X hB0 hB56 hB64
  rw [hXe] at this
  exact this lv hlv
theorem dX2_start_0 : decode cX2_start 0 = .ok (.iload_n 1, 1) := by decide +kernel
theorem dX2_start_1 : decode cX2_start 1 = .ok (.bipush 64, 2) := by decide +kernel
theorem dX2_start_3 : decode cX2_start 3 = .ok (.idiv, 1) := by decide +kernel
theorem dX2_start_4 : decode cX2_start 4 = .ok (.istore_n 2, 1) := by decide +kernel
theorem dX2_start_5 : decode cX2_start 5 = .ok (.iload_n 1, 1) := by decide +kernel
theorem dX2_start_6 : decode cX2_start 6 = .ok (.bipush 64, 2) := by decide +kernel
theorem dX2_start_8 : decode cX2_start 8 = .ok (.irem, 1) := by decide +kernel
theorem dX2_start_9 : decode cX2_start 9 = .ok (.istore_n 3, 1) := by decide +kernel
theorem dX2_start_10 : decode cX2_start 10 = .ok (.iload_n 2, 1) := by decide +kernel
theorem dX2_start_11 : decode cX2_start 11 = .ok (.iload_n 3, 1) := by decide +kernel
theorem dX2_start_12 : decode cX2_start 12 = .ok (.if_icmp .eq 23, 3) := by decide +kernel
theorem dX2_start_15 : decode cX2_start 15 = .ok (.aload_n 0, 1) := by decide +kernel
theorem dX2_start_16 : decode cX2_start 16 = .ok (.getfield 15, 3) := by decide +kernel
theorem dX2_start_19 : decode cX2_start 19 = .ok (.iconst 1, 1) := by decide +kernel
theorem dX2_start_20 : decode cX2_start 20 = .ok (.if_icmp .ne 16, 3) := by decide +kernel
theorem dX2_start_23 : decode cX2_start 23 = .ok (.ldc2_w 72, 3) := by decide +kernel
theorem dX2_start_26 : decode cX2_start 26 = .ok (.iload_n 2, 1) := by decide +kernel
theorem dX2_start_27 : decode cX2_start 27 = .ok (.lushr, 1) := by decide +kernel
theorem dX2_start_28 : decode cX2_start 28 = .ok (.lconst 1, 1) := by decide +kernel
theorem dX2_start_29 : decode cX2_start 29 = .ok (.land, 1) := by decide +kernel
theorem dX2_start_30 : decode cX2_start 30 = .ok (.lconst 0, 1) := by decide +kernel
theorem dX2_start_31 : decode cX2_start 31 = .ok (.lcmp, 1) := by decide +kernel
theorem dX2_start_32 : decode cX2_start 32 = .ok (.ifCond .eq 4, 3) := by decide +kernel
theorem dX2_start_35 : decode cX2_start 35 = .ok (.return_, 1) := by decide +kernel
theorem dX2_start_36 : decode cX2_start 36 = .ok (.aload_n 0, 1) := by decide +kernel
theorem dX2_start_37 : decode cX2_start 37 = .ok (.getfield 26, 3) := by decide +kernel
theorem dX2_start_40 : decode cX2_start 40 = .ok (.iload_n 1, 1) := by decide +kernel
theorem dX2_start_41 : decode cX2_start 41 = .ok (.aload_n 0, 1) := by decide +kernel
theorem dX2_start_42 : decode cX2_start 42 = .ok (.iload_n 2, 1) := by decide +kernel
theorem dX2_start_43 : decode cX2_start 43 = .ok (.lconst 1, 1) := by decide +kernel
theorem dX2_start_44 : decode cX2_start 44 = .ok (.iload_n 3, 1) := by decide +kernel
theorem dX2_start_45 : decode cX2_start 45 = .ok (.lshl, 1) := by decide +kernel
theorem dX2_start_46 : decode cX2_start 46 = .ok (.invokevirtual 74, 3) := by decide +kernel
theorem dX2_start_49 : decode cX2_start 49 = .ok (.lastore, 1) := by decide +kernel
theorem dX2_start_50 : decode cX2_start 50 = .ok (.aload_n 0, 1) := by decide +kernel
theorem dX2_start_51 : decode cX2_start 51 = .ok (.getfield 11, 3) := by decide +kernel
theorem dX2_start_54 : decode cX2_start 54 = .ok (.getfield 78, 3) := by decide +kernel
theorem dX2_start_57 : decode cX2_start 57 = .ok (.iload_n 3, 1) := by decide +kernel
theorem dX2_start_58 : decode cX2_start 58 = .ok (.laload, 1) := by decide +kernel
theorem dX2_start_59 : decode cX2_start 59 = .ok (.lconst 1, 1) := by decide +kernel
theorem dX2_start_60 : decode cX2_start 60 = .ok (.iload_n 3, 1) := by decide +kernel
theorem dX2_start_61 : decode cX2_start 61 = .ok (.lshl, 1) := by decide +kernel
theorem dX2_start_62 : decode cX2_start 62 = .ok (.lor, 1) := by decide +kernel
theorem dX2_start_63 : decode cX2_start 63 = .ok (.lconst 1, 1) := by decide +kernel
theorem dX2_start_64 : decode cX2_start 64 = .ok (.iload_n 2, 1) := by decide +kernel
theorem dX2_start_65 : decode cX2_start 65 = .ok (.lshl, 1) := by decide +kernel
theorem dX2_start_66 : decode cX2_start 66 = .ok (.lor, 1) := by decide +kernel
theorem dX2_start_67 : decode cX2_start 67 = .ok (.ldc2_w 83, 3) := by decide +kernel
theorem dX2_start_70 : decode cX2_start 70 = .ok (.lxor, 1) := by decide +kernel
theorem dX2_start_71 : decode cX2_start 71 = .ok (.lstore 4, 2) := by decide +kernel
theorem dX2_start_73 : decode cX2_start 73 = .ok (.aload_n 0, 1) := by decide +kernel
theorem dX2_start_74 : decode cX2_start 74 = .ok (.getfield 26, 3) := by decide +kernel
theorem dX2_start_77 : decode cX2_start 77 = .ok (.iload_n 1, 1) := by decide +kernel
theorem dX2_start_78 : decode cX2_start 78 = .ok (.laload, 1) := by decide +kernel
theorem dX2_start_79 : decode cX2_start 79 = .ok (.aload_n 0, 1) := by decide +kernel
theorem dX2_start_80 : decode cX2_start 80 = .ok (.getfield 11, 3) := by decide +kernel
theorem dX2_start_83 : decode cX2_start 83 = .ok (.getfield 78, 3) := by decide +kernel
theorem dX2_start_86 : decode cX2_start 86 = .ok (.iload_n 3, 1) := by decide +kernel
theorem dX2_start_87 : decode cX2_start 87 = .ok (.laload, 1) := by decide +kernel
theorem dX2_start_88 : decode cX2_start 88 = .ok (.lor, 1) := by decide +kernel
theorem dX2_start_89 : decode cX2_start 89 = .ok (.ldc2_w 83, 3) := by decide +kernel
theorem dX2_start_92 : decode cX2_start 92 = .ok (.lxor, 1) := by decide +kernel
theorem dX2_start_93 : decode cX2_start 93 = .ok (.invokestatic 85, 3) := by decide +kernel
theorem dX2_start_96 : decode cX2_start 96 = .ok (.lstore 6, 2) := by decide +kernel
theorem dX2_start_98 : decode cX2_start 98 = .ok (.aload_n 0, 1) := by decide +kernel
theorem dX2_start_99 : decode cX2_start 99 = .ok (.getfield 36, 3) := by decide +kernel
theorem dX2_start_102 : decode cX2_start 102 = .ok (.iload_n 1, 1) := by decide +kernel
theorem dX2_start_103 : decode cX2_start 103 = .ok (.lload 4, 2) := by decide +kernel
theorem dX2_start_105 : decode cX2_start 105 = .ok (.aload_n 0, 1) := by decide +kernel
theorem dX2_start_106 : decode cX2_start 106 = .ok (.getfield 26, 3) := by decide +kernel
theorem dX2_start_109 : decode cX2_start 109 = .ok (.iload_n 1, 1) := by decide +kernel
theorem dX2_start_110 : decode cX2_start 110 = .ok (.laload, 1) := by decide +kernel
theorem dX2_start_111 : decode cX2_start 111 = .ok (.ldc2_w 83, 3) := by decide +kernel
theorem dX2_start_114 : decode cX2_start 114 = .ok (.lxor, 1) := by decide +kernel
theorem dX2_start_115 : decode cX2_start 115 = .ok (.land, 1) := by decide +kernel
theorem dX2_start_116 : decode cX2_start 116 = .ok (.lastore, 1) := by decide +kernel
theorem dX2_start_117 : decode cX2_start 117 = .ok (.aload_n 0, 1) := by decide +kernel
theorem dX2_start_118 : decode cX2_start 118 = .ok (.getfield 30, 3) := by decide +kernel
theorem dX2_start_121 : decode cX2_start 121 = .ok (.iload_n 1, 1) := by decide +kernel
theorem dX2_start_122 : decode cX2_start 122 = .ok (.lload 4, 2) := by decide +kernel
theorem dX2_start_124 : decode cX2_start 124 = .ok (.lload 6, 2) := by decide +kernel
theorem dX2_start_126 : decode cX2_start 126 = .ok (.land, 1) := by decide +kernel
theorem dX2_start_127 : decode cX2_start 127 = .ok (.lastore, 1) := by decide +kernel
theorem dX2_start_128 : decode cX2_start 128 = .ok (.aload_n 0, 1) := by decide +kernel
theorem dX2_start_129 : decode cX2_start 129 = .ok (.getfield 33, 3) := by decide +kernel
theorem dX2_start_132 : decode cX2_start 132 = .ok (.iload_n 1, 1) := by decide +kernel
theorem dX2_start_133 : decode cX2_start 133 = .ok (.lload 4, 2) := by decide +kernel
theorem dX2_start_135 : decode cX2_start 135 = .ok (.aload_n 0, 1) := by decide +kernel
theorem dX2_start_136 : decode cX2_start 136 = .ok (.getfield 26, 3) := by decide +kernel
theorem dX2_start_139 : decode cX2_start 139 = .ok (.iload_n 1, 1) := by decide +kernel
theorem dX2_start_140 : decode cX2_start 140 = .ok (.laload, 1) := by decide +kernel
theorem dX2_start_141 : decode cX2_start 141 = .ok (.land, 1) := by decide +kernel
theorem dX2_start_142 : decode cX2_start 142 = .ok (.lload 6, 2) := by decide +kernel
theorem dX2_start_144 : decode cX2_start 144 = .ok (.ldc2_w 83, 3) := by decide +kernel
theorem dX2_start_147 : decode cX2_start 147 = .ok (.lxor, 1) := by decide +kernel
theorem dX2_start_148 : decode cX2_start 148 = .ok (.land, 1) := by decide +kernel
theorem dX2_start_149 : decode cX2_start 149 = .ok (.lastore, 1) := by decide +kernel
theorem dX2_start_150 : decode cX2_start 150 = .ok (.aload_n 0, 1) := by decide +kernel
theorem dX2_start_151 : decode cX2_start 151 = .ok (.getfield 42, 3) := by decide +kernel
theorem dX2_start_154 : decode cX2_start 154 = .ok (.iload_n 1, 1) := by decide +kernel
theorem dX2_start_155 : decode cX2_start 155 = .ok (.aload_n 0, 1) := by decide +kernel
theorem dX2_start_156 : decode cX2_start 156 = .ok (.getfield 33, 3) := by decide +kernel
theorem dX2_start_159 : decode cX2_start 159 = .ok (.iload_n 1, 1) := by decide +kernel
theorem dX2_start_160 : decode cX2_start 160 = .ok (.laload, 1) := by decide +kernel
theorem dX2_start_161 : decode cX2_start 161 = .ok (.lastore, 1) := by decide +kernel
theorem dX2_start_162 : decode cX2_start 162 = .ok (.return_, 1) := by decide +kernel
def kX2_start_10 (mc ms : Nat) (X : Nat → zV) (Q : zQt) : zT :=
  zli 2 <| zli 3 <| zic (fun x y => x = y) (zj X 35 []) <| zla 0 <| zgi 2 1 <| zc (.int 1) <| zic (fun x y => x = y) (zc (.long (-72057594037927681)) <| zli 2 <| zji (fun x y => (x.toUInt64 >>> (y.toInt64.toUInt64 &&& Int64.toUInt64 63)).toInt64) <| zc (.long 1) <| zjj (fun x y => x &&& y) <| zc (.long 0) <| zlc <| zif (fun x => x = 0) (zj X 36 [0, 1, 2, 3]) <| zj X 35 []) <| zj X 36 [0, 1, 2, 3]
def kX2_start_96 (mc ms : Nat) (X : Nat → zV) (Q : zQt) : zT :=
  zsl 6 <| zla 0 <| zgR 2 7 <| zli 1 <| zll 4 <| zla 0 <| zgR 2 4 <| zli 1 <| zall <| zc (.long (-1)) <| zjj (fun x y => x ^^^ y) <| zjj (fun x y => x &&& y) <| zasl <| zla 0 <| zgR 2 5 <| zli 1 <| zll 4 <| zll 6 <| zjj (fun x y => x &&& y) <| zasl <| zla 0 <| zgR 2 6 <| zli 1 <| zll 4 <| zla 0 <| zgR 2 4 <| zli 1 <| zall <| zjj (fun x y => x &&& y) <| zll 6 <| zc (.long (-1)) <| zjj (fun x y => x ^^^ y) <| zjj (fun x y => x &&& y) <| zasl <| zla 0 <| zgR 2 9 <| zli 1 <| zla 0 <| zgR 2 6 <| zli 1 <| zall <| zasl <| zrv Q
def kX2_start_73 (mc ms : Nat) (X : Nat → zV) (Q : zQt) : zT :=
  zla 0 <| zgR 2 4 <| zli 1 <| zall <| zla 0 <| zgR 2 0 <| zgR 1 1 <| zli 3 <| zall <| zjj (fun x y => x ||| y) <| zc (.long (-1)) <| zjj (fun x y => x ^^^ y) <| zcs mc ms 1 wX2_spread <| kX2_start_96 mc ms X Q
def kX2_start_49 (mc ms : Nat) (X : Nat → zV) (Q : zQt) : zT :=
  zasl <| zla 0 <| zgR 2 0 <| zgR 1 1 <| zli 3 <| zall <| zc (.long 1) <| zli 3 <| zji (fun x y => x <<< (y.toInt64 &&& 63)) <| zjj (fun x y => x ||| y) <| zc (.long 1) <| zli 2 <| zji (fun x y => x <<< (y.toInt64 &&& 63)) <| zjj (fun x y => x ||| y) <| zc (.long (-1)) <| zjj (fun x y => x ^^^ y) <| zslN 4 <| kX2_start_73 mc ms X Q
def aX2_start_0 (mc ms : Nat) (X : Nat → zV) (Q : zQt) : zT :=
  zli 1 <| zc (.int 64) <| zid (fun x y => x / y) <| zsi 2 <| zli 1 <| zc (.int 64) <| zid (fun x y => x - x / y * y) <| zsiN 3 <| kX2_start_10 mc ms X Q
def aX2_start_35 (mc ms : Nat) (X : Nat → zV) (Q : zQt) : zT :=
  zrv Q
def aX2_start_36 (mc ms : Nat) (X : Nat → zV) (Q : zQt) : zT :=
  zla 0 <| zgR 2 4 <| zli 1 <| zla 0 <| zli 2 <| zc (.long 1) <| zli 3 <| zji (fun x y => x <<< (y.toInt64 &&& 63)) <| zcv mc ms 2 2 wX2_hitsOf <| kX2_start_49 mc ms X Q
def lvX2_start : Nat → List Nat := fun L => match L with
  | 0 => [0, 1]
  | 35 => []
  | 36 => [0, 1, 2, 3]
  | _ => []
def wX2_start : zSp := fun mc ms av M Q => ((zlay av).length ≤ 8 ∧ zpick (zlay av) [0, 1] = some av) ∧ ∀ X : Nat → zV, zin 8 [0, 1] (aX2_start_0 mc ms X Q) X 0 → zin 8 [] (aX2_start_35 mc ms X Q) X 35 → zin 8 [0, 1, 2, 3] (aX2_start_36 mc ms X Q) X 36 → X 0 0 0 av [] M
set_option maxRecDepth 100000 in
set_option maxHeartbeats 4000000 in
theorem sX2_start (l : Launch) (G : zG) : zSnd l G yX2_start cX2_start 8 none 2 58 wX2_start := by
  refine zmk [0, 1] (by decide) (fun mc ms av M Q h => h.1) ?_
  intro p e R s m args below meth c mc ms av M Q hC hRf hRl hr hnm h lv hlv
  obtain ⟨X, hXe⟩ : ∃ X : Nat → zV, X = fun L u v vs st M => ∀ lv, zpick lv (lvX2_start L) = some vs → zAt p l e R s m args below meth c (MQ below (zQ G Q) args s mc ms (zA G)) G 8 L u v lv st M := ⟨_, rfl⟩
  have hJ : ∀ L, zOk p l e R s m args below meth c (MQ below (zQ G Q) args s mc ms (zA G)) G 8 L (zj X L (lvX2_start L)) := fun L => S_jump (fun u v lv vs st M hp hx => by rw [hXe] at hx; exact hx lv hp)
  have hB0 : zin 8 [0, 1] (aX2_start_0 mc ms X Q) X 0 := by
    intro u v vs st M hb
    rw [hXe]
    refine fun lv hp => S_block (L := 0) (live := [0, 1]) ?_ u v lv vs st M hp hb
    unfold aX2_start_0
    refine S_iload_n (pc := 0) hC dX2_start_0 rfl ?_
    refine S_bipush (pc := 1) hC dX2_start_1 (by decide) ?_
    refine S_idiv (pc := 3) hC dX2_start_3 ?_
    refine S_istore_n (pc := 4) hC dX2_start_4 rfl (by decide) ?_
    refine S_iload_n (pc := 5) hC dX2_start_5 rfl ?_
    refine S_bipush (pc := 6) hC dX2_start_6 (by decide) ?_
    refine S_irem (pc := 8) hC dX2_start_8 ?_
    refine S_istore_n_N (pc := 9) hC dX2_start_9 rfl (by decide) ?_
    unfold kX2_start_10
    refine S_iload_n (pc := 10) hC dX2_start_10 rfl ?_
    refine S_iload_n (pc := 11) hC dX2_start_11 rfl ?_
    refine S_icmp_eq (pc := 12) (tgt := 35) hC dX2_start_12 (by decide) ?_ ?_
    · exact hJ 35
    · refine S_aload_n (pc := 15) hC dX2_start_15 rfl ?_
      refine S_geti (pc := 16) hC cfX2 (by decide) (Or.inl rfl) wd_1075 dX2_start_16 ?_
      refine S_iconst (pc := 19) hC dX2_start_19 (by decide) ?_
      refine S_icmp_ne (pc := 20) (tgt := 36) hC dX2_start_20 (by decide) ?_ ?_
      · exact hJ 36
      · refine S_ldc2 (pc := 23) hC wd_1119 dX2_start_23 ?_
        refine S_iload_n (pc := 26) hC dX2_start_26 rfl ?_
        refine S_lushr (pc := 27) hC dX2_start_27 ?_
        refine S_lconst (pc := 28) hC dX2_start_28 (by decide) ?_
        refine S_land (pc := 29) hC dX2_start_29 ?_
        refine S_lconst (pc := 30) hC dX2_start_30 (by decide) ?_
        refine S_lcmp (pc := 31) hC dX2_start_31 ?_
        refine S_if_eq (pc := 32) (tgt := 36) hC dX2_start_32 (by decide) ?_ ?_
        · exact hJ 36
        · exact hJ 35
  have hB35 : zin 8 [] (aX2_start_35 mc ms X Q) X 35 := by
    intro u v vs st M hb
    rw [hXe]
    refine fun lv hp => S_block (L := 35) (live := []) ?_ u v lv vs st M hp hb
    unfold aX2_start_35
    exact S_vreturn (pc := 35) hC hr dX2_start_35
  have hB36 : zin 8 [0, 1, 2, 3] (aX2_start_36 mc ms X Q) X 36 := by
    intro u v vs st M hb
    rw [hXe]
    refine fun lv hp => S_block (L := 36) (live := [0, 1, 2, 3]) ?_ u v lv vs st M hp hb
    unfold aX2_start_36
    refine S_aload_n (pc := 36) hC dX2_start_36 rfl ?_
    refine S_getR (pc := 37) hC cfX2 (by decide) (Or.inr ⟨_, rfl⟩) wd_1078 dX2_start_37 ?_
    refine S_iload_n (pc := 40) hC dX2_start_40 rfl ?_
    refine S_aload_n (pc := 41) hC dX2_start_41 rfl ?_
    refine S_iload_n (pc := 42) hC dX2_start_42 rfl ?_
    refine S_lconst (pc := 43) hC dX2_start_43 (by decide) ?_
    refine S_iload_n (pc := 44) hC dX2_start_44 rfl ?_
    refine S_lshl (pc := 45) hC dX2_start_45 ?_
    refine S_callV (pc := 46) hC (sX2_hitsOf l G) rfl wd_1120 wd_1122 ws_45 wd_28 wd_1123 (by decide +kernel) ⟨by rw [hRf]; decide, by rw [hRl]; decide⟩ dX2_start_46 ?_
    unfold kX2_start_49
    refine S_lastore (pc := 49) hC dX2_start_49 ?_
    refine S_aload_n (pc := 50) hC dX2_start_50 rfl ?_
    refine S_getR (pc := 51) hC cfX2 (by decide) (Or.inl ⟨_, rfl⟩) wd_1074 dX2_start_51 ?_
    refine S_getR (pc := 54) hC cfX1 (by decide) (Or.inr ⟨_, rfl⟩) wd_61 dX2_start_54 ?_
    refine S_iload_n (pc := 57) hC dX2_start_57 rfl ?_
    refine S_laload (pc := 58) hC dX2_start_58 ?_
    refine S_lconst (pc := 59) hC dX2_start_59 (by decide) ?_
    refine S_iload_n (pc := 60) hC dX2_start_60 rfl ?_
    refine S_lshl (pc := 61) hC dX2_start_61 ?_
    refine S_lor (pc := 62) hC dX2_start_62 ?_
    refine S_lconst (pc := 63) hC dX2_start_63 (by decide) ?_
    refine S_iload_n (pc := 64) hC dX2_start_64 rfl ?_
    refine S_lshl (pc := 65) hC dX2_start_65 ?_
    refine S_lor (pc := 66) hC dX2_start_66 ?_
    refine S_ldc2 (pc := 67) hC wd_1125 dX2_start_67 ?_
    refine S_lxor (pc := 70) hC dX2_start_70 ?_
    refine S_lstore_N (pc := 71) hC dX2_start_71 (by decide) ?_
    unfold kX2_start_73
    refine S_aload_n (pc := 73) hC dX2_start_73 rfl ?_
    refine S_getR (pc := 74) hC cfX2 (by decide) (Or.inr ⟨_, rfl⟩) wd_1078 dX2_start_74 ?_
    refine S_iload_n (pc := 77) hC dX2_start_77 rfl ?_
    refine S_laload (pc := 78) hC dX2_start_78 ?_
    refine S_aload_n (pc := 79) hC dX2_start_79 rfl ?_
    refine S_getR (pc := 80) hC cfX2 (by decide) (Or.inl ⟨_, rfl⟩) wd_1074 dX2_start_80 ?_
    refine S_getR (pc := 83) hC cfX1 (by decide) (Or.inr ⟨_, rfl⟩) wd_61 dX2_start_83 ?_
    refine S_iload_n (pc := 86) hC dX2_start_86 rfl ?_
    refine S_laload (pc := 87) hC dX2_start_87 ?_
    refine S_lor (pc := 88) hC dX2_start_88 ?_
    refine S_ldc2 (pc := 89) hC wd_1125 dX2_start_89 ?_
    refine S_lxor (pc := 92) hC dX2_start_92 ?_
    refine S_callS (pc := 93) hC (sX2_spread l G) wd_1126 wd_1127 wd_28 wd_1128 (by decide +kernel) ⟨by rw [hRf]; decide, by rw [hRl]; decide⟩ dX2_start_93 ?_
    unfold kX2_start_96
    refine S_lstore (pc := 96) hC dX2_start_96 (by decide) ?_
    refine S_aload_n (pc := 98) hC dX2_start_98 rfl ?_
    refine S_getR (pc := 99) hC cfX2 (by decide) (Or.inr ⟨_, rfl⟩) wd_1081 dX2_start_99 ?_
    refine S_iload_n (pc := 102) hC dX2_start_102 rfl ?_
    refine S_lload (pc := 103) hC dX2_start_103 ?_
    refine S_aload_n (pc := 105) hC dX2_start_105 rfl ?_
    refine S_getR (pc := 106) hC cfX2 (by decide) (Or.inr ⟨_, rfl⟩) wd_1078 dX2_start_106 ?_
    refine S_iload_n (pc := 109) hC dX2_start_109 rfl ?_
    refine S_laload (pc := 110) hC dX2_start_110 ?_
    refine S_ldc2 (pc := 111) hC wd_1125 dX2_start_111 ?_
    refine S_lxor (pc := 114) hC dX2_start_114 ?_
    refine S_land (pc := 115) hC dX2_start_115 ?_
    refine S_lastore (pc := 116) hC dX2_start_116 ?_
    refine S_aload_n (pc := 117) hC dX2_start_117 rfl ?_
    refine S_getR (pc := 118) hC cfX2 (by decide) (Or.inr ⟨_, rfl⟩) wd_1079 dX2_start_118 ?_
    refine S_iload_n (pc := 121) hC dX2_start_121 rfl ?_
    refine S_lload (pc := 122) hC dX2_start_122 ?_
    refine S_lload (pc := 124) hC dX2_start_124 ?_
    refine S_land (pc := 126) hC dX2_start_126 ?_
    refine S_lastore (pc := 127) hC dX2_start_127 ?_
    refine S_aload_n (pc := 128) hC dX2_start_128 rfl ?_
    refine S_getR (pc := 129) hC cfX2 (by decide) (Or.inr ⟨_, rfl⟩) wd_1080 dX2_start_129 ?_
    refine S_iload_n (pc := 132) hC dX2_start_132 rfl ?_
    refine S_lload (pc := 133) hC dX2_start_133 ?_
    refine S_aload_n (pc := 135) hC dX2_start_135 rfl ?_
    refine S_getR (pc := 136) hC cfX2 (by decide) (Or.inr ⟨_, rfl⟩) wd_1078 dX2_start_136 ?_
    refine S_iload_n (pc := 139) hC dX2_start_139 rfl ?_
    refine S_laload (pc := 140) hC dX2_start_140 ?_
    refine S_land (pc := 141) hC dX2_start_141 ?_
    refine S_lload (pc := 142) hC dX2_start_142 ?_
    refine S_ldc2 (pc := 144) hC wd_1125 dX2_start_144 ?_
    refine S_lxor (pc := 147) hC dX2_start_147 ?_
    refine S_land (pc := 148) hC dX2_start_148 ?_
    refine S_lastore (pc := 149) hC dX2_start_149 ?_
    refine S_aload_n (pc := 150) hC dX2_start_150 rfl ?_
    refine S_getR (pc := 151) hC cfX2 (by decide) (Or.inr ⟨_, rfl⟩) wd_1083 dX2_start_151 ?_
    refine S_iload_n (pc := 154) hC dX2_start_154 rfl ?_
    refine S_aload_n (pc := 155) hC dX2_start_155 rfl ?_
    refine S_getR (pc := 156) hC cfX2 (by decide) (Or.inr ⟨_, rfl⟩) wd_1080 dX2_start_156 ?_
    refine S_iload_n (pc := 159) hC dX2_start_159 rfl ?_
    refine S_laload (pc := 160) hC dX2_start_160 ?_
    refine S_lastore (pc := 161) hC dX2_start_161 ?_
    exact S_vreturn (pc := 162) hC hr dX2_start_162
  have := h.2 X hB0 hB35 hB36
  rw [hXe] at this
  exact this lv hlv
theorem vcX2_start_10 {mc ms : Nat} {X : Nat → zV} {Q : zQt} {M : zM} {g : Nat} {x0 : Nat} {x1 : Int32} {x2 : Int32} {x3 : Int32} (hW : zWd M g) (hx0 : zsh M x0 = some (0, 2)) (h : (x2 = x3 → X 35 0 0 [] [] M) ∧ (¬ x2 = x3 → ((M.1 x0 1) = (1 : Int32) → ((lg_cmp ((((((-72057594037927681) : Int64).toUInt64 >>> (x2.toInt64.toUInt64 &&& Int64.toUInt64 63)).toInt64) &&& (1 : Int64))) ((0 : Int64))) = 0 → X 36 0 0 [.ref x0, .int x1, .int x2, .int x3] [] M) ∧ (¬ (lg_cmp ((((((-72057594037927681) : Int64).toUInt64 >>> (x2.toInt64.toUInt64 &&& Int64.toUInt64 63)).toInt64) &&& (1 : Int64))) ((0 : Int64))) = 0 → X 35 0 0 [] [] M)) ∧ (¬ (M.1 x0 1) = (1 : Int32) → X 36 0 0 [.ref x0, .int x1, .int x2, .int x3] [] M))) : kX2_start_10 mc ms X Q 0 0 [some (.ref x0), some (.int x1), some (.int x2), some (.int x3), none, none, none, none] [] M := ⟨fun c12 => (h.1 c12), fun c12 => ⟨hx0, ⟨fun c20 => ⟨fun c32 => (((h.2 c12).1 c20).1 c32), fun c32 => (((h.2 c12).1 c20).2 c32)⟩, fun c20 => ((h.2 c12).2 c20)⟩⟩⟩
theorem vX2_start_0 {mc ms : Nat} {X : Nat → zV} {Q : zQt} {M : zM} {g : Nat} {x0 : Nat} {x1 : Int32} (hW : zWd M g) (hx0 : zsh M x0 = some (0, 2)) (h : ∀ y9 : Int32, y9 = (x1 - x1 / (64 : Int32) * (64 : Int32)) → ((x1 / (64 : Int32)) = y9 → X 35 0 0 [] [] M) ∧ (¬ (x1 / (64 : Int32)) = y9 → ((M.1 x0 1) = (1 : Int32) → ((lg_cmp ((((((-72057594037927681) : Int64).toUInt64 >>> ((x1 / (64 : Int32)).toInt64.toUInt64 &&& Int64.toUInt64 63)).toInt64) &&& (1 : Int64))) ((0 : Int64))) = 0 → X 36 0 0 [.ref x0, .int x1, .int (x1 / (64 : Int32)), .int y9] [] M) ∧ (¬ (lg_cmp ((((((-72057594037927681) : Int64).toUInt64 >>> ((x1 / (64 : Int32)).toInt64.toUInt64 &&& Int64.toUInt64 63)).toInt64) &&& (1 : Int64))) ((0 : Int64))) = 0 → X 35 0 0 [] [] M)) ∧ (¬ (M.1 x0 1) = (1 : Int32) → X 36 0 0 [.ref x0, .int x1, .int (x1 / (64 : Int32)), .int y9] [] M))) : aX2_start_0 mc ms X Q 0 0 [some (.ref x0), some (.int x1), none, none, none, none, none, none] [] M := ⟨by decide, ⟨by decide, (fun y9 e9 => have h9 := h y9 e9; (vcX2_start_10 hW hx0 h9))⟩⟩
theorem vX2_start_35 {mc ms : Nat} {X : Nat → zV} {Q : zQt} {M : zM} {g : Nat}  (hW : zWd M g)  (h : Q none M) : aX2_start_35 mc ms X Q 0 0 [none, none, none, none, none, none, none, none] [] M := h
theorem vX2_start_36 {mc ms : Nat} {X : Nat → zV} {Q : zQt} {M : zM} {g : Nat} {x0 : Nat} {x1 : Int32} {x2 : Int32} {x3 : Int32} (hW : zWd M g) (hx0 : zsh M x0 = some (0, 2)) (h : ∃ r37 r37n, ((M : zM).2.2.1 x0 4) = some r37 ∧ zsh M r37 = some (2, r37n) ∧ wX2_hitsOf 0 0 [.ref x0, .int x2, .long ((1 : Int64) <<< (x3.toInt64 &&& 63))] M (fun r M1 => kX2_start_49 mc ms X Q 0 0 [some (.ref x0), some (.int x1), some (.int x2), some (.int x3), none, none, none, none] (r.toList ++ [.int x1, .ref r37]) M1)) : aX2_start_36 mc ms X Q 0 0 [some (.ref x0), some (.int x1), some (.int x2), some (.int x3), none, none, none, none] [] M := (let ⟨r37, r37n, q37, hr37, h37⟩ := h; ⟨hx0, r37, q37, ⟨Nat.le_of_ble_eq_true rfl, rfl, hx0, 0, 0, Nat.zero_le _, Nat.zero_le _, h37⟩⟩)
theorem vcX2_start_73 {mc ms : Nat} {X : Nat → zV} {Q : zQt} {M : zM} {g : Nat} {x0 : Nat} {x1 : Int32} {x2 : Int32} {x3 : Int32} {x4 : Int64} (hW : zWd M g) (hx0 : zsh M x0 = some (0, 2)) (h : ∃ r74 r74n, ((M : zM).2.2.1 x0 4) = some r74 ∧ zsh M r74 = some (2, r74n) ∧ vp_in x1 r74n ∧ ∃ r80, ((M : zM).2.2.1 x0 0) = some r80 ∧ zsh M r80 = some (0, 1) ∧ ∃ r83 r83n, ((M : zM).2.2.1 r80 1) = some r83 ∧ zsh M r83 = some (2, r83n) ∧ vp_in x3 r83n ∧ wX2_spread 0 0 [.long ((((M : zM).2.1 r74 (x1 : Int32).toNatClampNeg) ||| ((M : zM).2.1 r83 (x3 : Int32).toNatClampNeg)) ^^^ ((-1) : Int64))] M (fun r M1 => kX2_start_96 mc ms X Q 0 0 [some (.ref x0), some (.int x1), some (.int x2), some (.int x3), some (.long x4), none, none, none] (r.toList ++ []) M1)) : kX2_start_73 mc ms X Q 0 0 [some (.ref x0), some (.int x1), some (.int x2), some (.int x3), some (.long x4), none, none, none] [] M := (let ⟨r74, r74n, q74, hr74, h74⟩ := h; ⟨hx0, r74, q74, ⟨r74n, hr74, h74.1, (let ⟨r80, q80, hr80, h80⟩ := h74.2; ⟨hx0, r80, q80, (let ⟨r83, r83n, q83, hr83, h83⟩ := h80; ⟨hr80, r83, q83, ⟨r83n, hr83, h83.1, ⟨Nat.le_of_ble_eq_true rfl, rfl, 0, 0, Nat.zero_le _, Nat.zero_le _, h83.2⟩⟩⟩)⟩)⟩⟩)
theorem vkX2_start_49 {mc ms : Nat} {X : Nat → zV} {Q : zQt} {M : zM} {g : Nat} {x0 : Nat} {x1 : Int32} {x2 : Int32} {x3 : Int32} {s0 : Int64} {s1 : Int32} {s2 : Nat} {s2n : Nat} (hW : zWd M g) (hx0 : zsh M x0 = some (0, 2)) (hs2 : zsh M s2 = some (2, s2n)) (h : vp_in s1 s2n ∧ ∀ M49 : zM, M49 = (zsJ M s2 (s1 : Int32).toNatClampNeg s0) → ∃ r51, ((M49 : zM).2.2.1 x0 0) = some r51 ∧ zsh M49 r51 = some (0, 1) ∧ ∃ r54 r54n, ((M49 : zM).2.2.1 r51 1) = some r54 ∧ zsh M49 r54 = some (2, r54n) ∧ vp_in x3 r54n ∧ ∀ y71 : Int64, y71 = (((((M49 : zM).2.1 r54 (x3 : Int32).toNatClampNeg) ||| ((1 : Int64) <<< (x3.toInt64 &&& 63))) ||| ((1 : Int64) <<< (x2.toInt64 &&& 63))) ^^^ ((-1) : Int64)) → ∃ r74 r74n, ((M49 : zM).2.2.1 x0 4) = some r74 ∧ zsh M49 r74 = some (2, r74n) ∧ vp_in x1 r74n ∧ ∃ r80, ((M49 : zM).2.2.1 x0 0) = some r80 ∧ zsh M49 r80 = some (0, 1) ∧ ∃ r83 r83n, ((M49 : zM).2.2.1 r80 1) = some r83 ∧ zsh M49 r83 = some (2, r83n) ∧ vp_in x3 r83n ∧ wX2_spread 0 0 [.long ((((M49 : zM).2.1 r74 (x1 : Int32).toNatClampNeg) ||| ((M49 : zM).2.1 r83 (x3 : Int32).toNatClampNeg)) ^^^ ((-1) : Int64))] M49 (fun r M1 => kX2_start_96 mc ms X Q 0 0 [some (.ref x0), some (.int x1), some (.int x2), some (.int x3), some (.long y71), none, none, none] (r.toList ++ []) M1)) : kX2_start_49 mc ms X Q 0 0 [some (.ref x0), some (.int x1), some (.int x2), some (.int x3), none, none, none, none] [.long s0, .int s1, .ref s2] M := ⟨s2n, hs2, h.1, (have h49 := h.2 _ rfl; (let ⟨r51, q51, hr51, h51⟩ := h49; ⟨hx0, r51, q51, (let ⟨r54, r54n, q54, hr54, h54⟩ := h51; ⟨hr51, r54, q54, ⟨r54n, hr54, h54.1, (fun y71 e71 => have h71 := h54.2 y71 e71; (vcX2_start_73 hW hx0 h71))⟩⟩)⟩))⟩
theorem vkX2_start_96 {mc ms : Nat} {X : Nat → zV} {Q : zQt} {M : zM} {g : Nat} {x0 : Nat} {x1 : Int32} {x2 : Int32} {x3 : Int32} {x4 : Int64} {s0 : Int64} (hW : zWd M g) (hx0 : zsh M x0 = some (0, 2)) (h : ∃ r99 r99n, ((M : zM).2.2.1 x0 7) = some r99 ∧ zsh M r99 = some (2, r99n) ∧ ∃ r106 r106n, ((M : zM).2.2.1 x0 4) = some r106 ∧ zsh M r106 = some (2, r106n) ∧ vp_in x1 r106n ∧ vp_in x1 r99n ∧ ∀ M116 : zM, M116 = (zsJ M r99 (x1 : Int32).toNatClampNeg ((x4 &&& (((M : zM).2.1 r106 (x1 : Int32).toNatClampNeg) ^^^ ((-1) : Int64))))) → ∃ r118 r118n, ((M116 : zM).2.2.1 x0 5) = some r118 ∧ zsh M116 r118 = some (2, r118n) ∧ vp_in x1 r118n ∧ ∀ M127 : zM, M127 = (zsJ M116 r118 (x1 : Int32).toNatClampNeg ((x4 &&& s0))) → ∃ r129 r129n, ((M127 : zM).2.2.1 x0 6) = some r129 ∧ zsh M127 r129 = some (2, r129n) ∧ ∃ r136 r136n, ((M127 : zM).2.2.1 x0 4) = some r136 ∧ zsh M127 r136 = some (2, r136n) ∧ vp_in x1 r136n ∧ vp_in x1 r129n ∧ ∀ M149 : zM, M149 = (zsJ M127 r129 (x1 : Int32).toNatClampNeg (((x4 &&& ((M127 : zM).2.1 r136 (x1 : Int32).toNatClampNeg)) &&& (s0 ^^^ ((-1) : Int64))))) → ∃ r151 r151n, ((M149 : zM).2.2.1 x0 9) = some r151 ∧ zsh M149 r151 = some (2, r151n) ∧ ∃ r156 r156n, ((M149 : zM).2.2.1 x0 6) = some r156 ∧ zsh M149 r156 = some (2, r156n) ∧ vp_in x1 r156n ∧ vp_in x1 r151n ∧ ∀ M161 : zM, M161 = (zsJ M149 r151 (x1 : Int32).toNatClampNeg (((M149 : zM).2.1 r156 (x1 : Int32).toNatClampNeg))) → Q none M161) : kX2_start_96 mc ms X Q 0 0 [some (.ref x0), some (.int x1), some (.int x2), some (.int x3), some (.long x4), none, none, none] [.long s0] M := (let ⟨r99, r99n, q99, hr99, h99⟩ := h; ⟨hx0, r99, q99, (let ⟨r106, r106n, q106, hr106, h106⟩ := h99; ⟨hx0, r106, q106, ⟨r106n, hr106, h106.1, ⟨r99n, hr99, h106.2.1, (have h116 := h106.2.2 _ rfl; (let ⟨r118, r118n, q118, hr118, h118⟩ := h116; ⟨hx0, r118, q118, ⟨r118n, hr118, h118.1, (have h127 := h118.2 _ rfl; (let ⟨r129, r129n, q129, hr129, h129⟩ := h127; ⟨hx0, r129, q129, (let ⟨r136, r136n, q136, hr136, h136⟩ := h129; ⟨hx0, r136, q136, ⟨r136n, hr136, h136.1, ⟨r129n, hr129, h136.2.1, (have h149 := h136.2.2 _ rfl; (let ⟨r151, r151n, q151, hr151, h151⟩ := h149; ⟨hx0, r151, q151, (let ⟨r156, r156n, q156, hr156, h156⟩ := h151; ⟨hx0, r156, q156, ⟨r156n, hr156, h156.1, ⟨r151n, hr151, h156.2.1, (have h161 := h156.2.2 _ rfl; h161)⟩⟩⟩)⟩))⟩⟩⟩)⟩))⟩⟩))⟩⟩⟩)⟩)
theorem dX2_stepStrong_0 : decode cX2_stepStrong 0 = .ok (.iconst 0, 1) := by decide +kernel
theorem dX2_stepStrong_1 : decode cX2_stepStrong 1 = .ok (.istore_n 2, 1) := by decide +kernel
theorem dX2_stepStrong_2 : decode cX2_stepStrong 2 = .ok (.iconst 0, 1) := by decide +kernel
theorem dX2_stepStrong_3 : decode cX2_stepStrong 3 = .ok (.istore_n 3, 1) := by decide +kernel
theorem dX2_stepStrong_4 : decode cX2_stepStrong 4 = .ok (.iload_n 3, 1) := by decide +kernel
theorem dX2_stepStrong_5 : decode cX2_stepStrong 5 = .ok (.sipush 4096, 3) := by decide +kernel
theorem dX2_stepStrong_8 : decode cX2_stepStrong 8 = .ok (.if_icmp .ge 223, 3) := by decide +kernel
theorem dX2_stepStrong_11 : decode cX2_stepStrong 11 = .ok (.aload_n 0, 1) := by decide +kernel
theorem dX2_stepStrong_12 : decode cX2_stepStrong 12 = .ok (.getfield 42, 3) := by decide +kernel
theorem dX2_stepStrong_15 : decode cX2_stepStrong 15 = .ok (.iload_n 3, 1) := by decide +kernel
theorem dX2_stepStrong_16 : decode cX2_stepStrong 16 = .ok (.laload, 1) := by decide +kernel
theorem dX2_stepStrong_17 : decode cX2_stepStrong 17 = .ok (.lconst 0, 1) := by decide +kernel
theorem dX2_stepStrong_18 : decode cX2_stepStrong 18 = .ok (.lcmp, 1) := by decide +kernel
theorem dX2_stepStrong_19 : decode cX2_stepStrong 19 = .ok (.ifCond .ne 6, 3) := by decide +kernel
theorem dX2_stepStrong_22 : decode cX2_stepStrong 22 = .ok (.goto 203, 3) := by decide +kernel
theorem dX2_stepStrong_25 : decode cX2_stepStrong 25 = .ok (.iload_n 3, 1) := by decide +kernel
theorem dX2_stepStrong_26 : decode cX2_stepStrong 26 = .ok (.bipush 64, 2) := by decide +kernel
theorem dX2_stepStrong_28 : decode cX2_stepStrong 28 = .ok (.idiv, 1) := by decide +kernel
theorem dX2_stepStrong_29 : decode cX2_stepStrong 29 = .ok (.istore 4, 2) := by decide +kernel
theorem dX2_stepStrong_31 : decode cX2_stepStrong 31 = .ok (.iload_n 3, 1) := by decide +kernel
theorem dX2_stepStrong_32 : decode cX2_stepStrong 32 = .ok (.bipush 64, 2) := by decide +kernel
theorem dX2_stepStrong_34 : decode cX2_stepStrong 34 = .ok (.irem, 1) := by decide +kernel
theorem dX2_stepStrong_35 : decode cX2_stepStrong 35 = .ok (.istore 5, 2) := by decide +kernel
theorem dX2_stepStrong_37 : decode cX2_stepStrong 37 = .ok (.aload_n 0, 1) := by decide +kernel
theorem dX2_stepStrong_38 : decode cX2_stepStrong 38 = .ok (.getfield 11, 3) := by decide +kernel
theorem dX2_stepStrong_41 : decode cX2_stepStrong 41 = .ok (.getfield 78, 3) := by decide +kernel
theorem dX2_stepStrong_44 : decode cX2_stepStrong 44 = .ok (.iload 5, 2) := by decide +kernel
theorem dX2_stepStrong_46 : decode cX2_stepStrong 46 = .ok (.laload, 1) := by decide +kernel
theorem dX2_stepStrong_47 : decode cX2_stepStrong 47 = .ok (.lconst 1, 1) := by decide +kernel
theorem dX2_stepStrong_48 : decode cX2_stepStrong 48 = .ok (.iload 4, 2) := by decide +kernel
theorem dX2_stepStrong_50 : decode cX2_stepStrong 50 = .ok (.lshl, 1) := by decide +kernel
theorem dX2_stepStrong_51 : decode cX2_stepStrong 51 = .ok (.ldc2_w 83, 3) := by decide +kernel
theorem dX2_stepStrong_54 : decode cX2_stepStrong 54 = .ok (.lxor, 1) := by decide +kernel
theorem dX2_stepStrong_55 : decode cX2_stepStrong 55 = .ok (.land, 1) := by decide +kernel
theorem dX2_stepStrong_56 : decode cX2_stepStrong 56 = .ok (.lstore 6, 2) := by decide +kernel
theorem dX2_stepStrong_58 : decode cX2_stepStrong 58 = .ok (.lload 6, 2) := by decide +kernel
theorem dX2_stepStrong_60 : decode cX2_stepStrong 60 = .ok (.invokestatic 100, 3) := by decide +kernel
theorem dX2_stepStrong_63 : decode cX2_stepStrong 63 = .ok (.istore 8, 2) := by decide +kernel
theorem dX2_stepStrong_65 : decode cX2_stepStrong 65 = .ok (.iload 8, 2) := by decide +kernel
theorem dX2_stepStrong_67 : decode cX2_stepStrong 67 = .ok (.ifCond .le 53, 3) := by decide +kernel
theorem dX2_stepStrong_70 : decode cX2_stepStrong 70 = .ok (.iload_n 2, 1) := by decide +kernel
theorem dX2_stepStrong_71 : decode cX2_stepStrong 71 = .ok (.aload_n 0, 1) := by decide +kernel
theorem dX2_stepStrong_72 : decode cX2_stepStrong 72 = .ok (.iload 4, 2) := by decide +kernel
theorem dX2_stepStrong_74 : decode cX2_stepStrong 74 = .ok (.bipush 64, 2) := by decide +kernel
theorem dX2_stepStrong_76 : decode cX2_stepStrong 76 = .ok (.imul, 1) := by decide +kernel
theorem dX2_stepStrong_77 : decode cX2_stepStrong 77 = .ok (.lload 6, 2) := by decide +kernel
theorem dX2_stepStrong_79 : decode cX2_stepStrong 79 = .ok (.invokestatic 106, 3) := by decide +kernel
theorem dX2_stepStrong_82 : decode cX2_stepStrong 82 = .ok (.iadd, 1) := by decide +kernel
theorem dX2_stepStrong_83 : decode cX2_stepStrong 83 = .ok (.aload_n 0, 1) := by decide +kernel
theorem dX2_stepStrong_84 : decode cX2_stepStrong 84 = .ok (.getfield 42, 3) := by decide +kernel
theorem dX2_stepStrong_87 : decode cX2_stepStrong 87 = .ok (.iload_n 3, 1) := by decide +kernel
theorem dX2_stepStrong_88 : decode cX2_stepStrong 88 = .ok (.laload, 1) := by decide +kernel
theorem dX2_stepStrong_89 : decode cX2_stepStrong 89 = .ok (.iload_n 1, 1) := by decide +kernel
theorem dX2_stepStrong_90 : decode cX2_stepStrong 90 = .ok (.invokevirtual 111, 3) := by decide +kernel
theorem dX2_stepStrong_93 : decode cX2_stepStrong 93 = .ok (.lconst 0, 1) := by decide +kernel
theorem dX2_stepStrong_94 : decode cX2_stepStrong 94 = .ok (.lcmp, 1) := by decide +kernel
theorem dX2_stepStrong_95 : decode cX2_stepStrong 95 = .ok (.ifCond .eq 7, 3) := by decide +kernel
theorem dX2_stepStrong_98 : decode cX2_stepStrong 98 = .ok (.iconst 1, 1) := by decide +kernel
theorem dX2_stepStrong_99 : decode cX2_stepStrong 99 = .ok (.goto 4, 3) := by decide +kernel
theorem dX2_stepStrong_102 : decode cX2_stepStrong 102 = .ok (.iconst 0, 1) := by decide +kernel
theorem dX2_stepStrong_103 : decode cX2_stepStrong 103 = .ok (.ior, 1) := by decide +kernel
theorem dX2_stepStrong_104 : decode cX2_stepStrong 104 = .ok (.istore_n 2, 1) := by decide +kernel
theorem dX2_stepStrong_105 : decode cX2_stepStrong 105 = .ok (.lload 6, 2) := by decide +kernel
theorem dX2_stepStrong_107 : decode cX2_stepStrong 107 = .ok (.lload 6, 2) := by decide +kernel
theorem dX2_stepStrong_109 : decode cX2_stepStrong 109 = .ok (.lconst 1, 1) := by decide +kernel
theorem dX2_stepStrong_110 : decode cX2_stepStrong 110 = .ok (.lsub, 1) := by decide +kernel
theorem dX2_stepStrong_111 : decode cX2_stepStrong 111 = .ok (.land, 1) := by decide +kernel
theorem dX2_stepStrong_112 : decode cX2_stepStrong 112 = .ok (.lstore 6, 2) := by decide +kernel
theorem dX2_stepStrong_114 : decode cX2_stepStrong 114 = .ok (.iinc 8 (-1), 3) := by decide +kernel
theorem dX2_stepStrong_117 : decode cX2_stepStrong 117 = .ok (.goto (-52), 3) := by decide +kernel
theorem dX2_stepStrong_120 : decode cX2_stepStrong 120 = .ok (.aload_n 0, 1) := by decide +kernel
theorem dX2_stepStrong_121 : decode cX2_stepStrong 121 = .ok (.getfield 15, 3) := by decide +kernel
theorem dX2_stepStrong_124 : decode cX2_stepStrong 124 = .ok (.iconst 1, 1) := by decide +kernel
theorem dX2_stepStrong_125 : decode cX2_stepStrong 125 = .ok (.if_icmp .ne 24, 3) := by decide +kernel
theorem dX2_stepStrong_128 : decode cX2_stepStrong 128 = .ok (.aload_n 0, 1) := by decide +kernel
theorem dX2_stepStrong_129 : decode cX2_stepStrong 129 = .ok (.getfield 42, 3) := by decide +kernel
theorem dX2_stepStrong_132 : decode cX2_stepStrong 132 = .ok (.iload_n 3, 1) := by decide +kernel
theorem dX2_stepStrong_133 : decode cX2_stepStrong 133 = .ok (.laload, 1) := by decide +kernel
theorem dX2_stepStrong_134 : decode cX2_stepStrong 134 = .ok (.lconst 1, 1) := by decide +kernel
theorem dX2_stepStrong_135 : decode cX2_stepStrong 135 = .ok (.iload 4, 2) := by decide +kernel
theorem dX2_stepStrong_137 : decode cX2_stepStrong 137 = .ok (.bipush 8, 2) := by decide +kernel
theorem dX2_stepStrong_139 : decode cX2_stepStrong 139 = .ok (.isub, 1) := by decide +kernel
theorem dX2_stepStrong_140 : decode cX2_stepStrong 140 = .ok (.lshl, 1) := by decide +kernel
theorem dX2_stepStrong_141 : decode cX2_stepStrong 141 = .ok (.ldc2_w 83, 3) := by decide +kernel
theorem dX2_stepStrong_144 : decode cX2_stepStrong 144 = .ok (.lxor, 1) := by decide +kernel
theorem dX2_stepStrong_145 : decode cX2_stepStrong 145 = .ok (.land, 1) := by decide +kernel
theorem dX2_stepStrong_146 : decode cX2_stepStrong 146 = .ok (.goto 9, 3) := by decide +kernel
theorem dX2_stepStrong_149 : decode cX2_stepStrong 149 = .ok (.aload_n 0, 1) := by decide +kernel
theorem dX2_stepStrong_150 : decode cX2_stepStrong 150 = .ok (.getfield 42, 3) := by decide +kernel
theorem dX2_stepStrong_153 : decode cX2_stepStrong 153 = .ok (.iload_n 3, 1) := by decide +kernel
theorem dX2_stepStrong_154 : decode cX2_stepStrong 154 = .ok (.laload, 1) := by decide +kernel
theorem dX2_stepStrong_155 : decode cX2_stepStrong 155 = .ok (.lstore 8, 2) := by decide +kernel
theorem dX2_stepStrong_157 : decode cX2_stepStrong 157 = .ok (.aload_n 0, 1) := by decide +kernel
theorem dX2_stepStrong_158 : decode cX2_stepStrong 158 = .ok (.iload 4, 2) := by decide +kernel
theorem dX2_stepStrong_160 : decode cX2_stepStrong 160 = .ok (.iload 5, 2) := by decide +kernel
theorem dX2_stepStrong_162 : decode cX2_stepStrong 162 = .ok (.invokevirtual 114, 3) := by decide +kernel
theorem dX2_stepStrong_165 : decode cX2_stepStrong 165 = .ok (.lstore 10, 2) := by decide +kernel
theorem dX2_stepStrong_167 : decode cX2_stepStrong 167 = .ok (.lload 10, 2) := by decide +kernel
theorem dX2_stepStrong_169 : decode cX2_stepStrong 169 = .ok (.invokestatic 100, 3) := by decide +kernel
theorem dX2_stepStrong_172 : decode cX2_stepStrong 172 = .ok (.istore 12, 2) := by decide +kernel
theorem dX2_stepStrong_174 : decode cX2_stepStrong 174 = .ok (.iload 12, 2) := by decide +kernel
theorem dX2_stepStrong_176 : decode cX2_stepStrong 176 = .ok (.ifCond .le 49, 3) := by decide +kernel
theorem dX2_stepStrong_179 : decode cX2_stepStrong 179 = .ok (.iload_n 2, 1) := by decide +kernel
theorem dX2_stepStrong_180 : decode cX2_stepStrong 180 = .ok (.aload_n 0, 1) := by decide +kernel
theorem dX2_stepStrong_181 : decode cX2_stepStrong 181 = .ok (.lload 10, 2) := by decide +kernel
theorem dX2_stepStrong_183 : decode cX2_stepStrong 183 = .ok (.invokestatic 106, 3) := by decide +kernel
theorem dX2_stepStrong_186 : decode cX2_stepStrong 186 = .ok (.bipush 64, 2) := by decide +kernel
theorem dX2_stepStrong_188 : decode cX2_stepStrong 188 = .ok (.imul, 1) := by decide +kernel
theorem dX2_stepStrong_189 : decode cX2_stepStrong 189 = .ok (.iload 5, 2) := by decide +kernel
theorem dX2_stepStrong_191 : decode cX2_stepStrong 191 = .ok (.iadd, 1) := by decide +kernel
theorem dX2_stepStrong_192 : decode cX2_stepStrong 192 = .ok (.lload 8, 2) := by decide +kernel
theorem dX2_stepStrong_194 : decode cX2_stepStrong 194 = .ok (.iload_n 1, 1) := by decide +kernel
theorem dX2_stepStrong_195 : decode cX2_stepStrong 195 = .ok (.invokevirtual 111, 3) := by decide +kernel
theorem dX2_stepStrong_198 : decode cX2_stepStrong 198 = .ok (.lconst 0, 1) := by decide +kernel
theorem dX2_stepStrong_199 : decode cX2_stepStrong 199 = .ok (.lcmp, 1) := by decide +kernel
theorem dX2_stepStrong_200 : decode cX2_stepStrong 200 = .ok (.ifCond .eq 7, 3) := by decide +kernel
theorem dX2_stepStrong_203 : decode cX2_stepStrong 203 = .ok (.iconst 1, 1) := by decide +kernel
theorem dX2_stepStrong_204 : decode cX2_stepStrong 204 = .ok (.goto 4, 3) := by decide +kernel
theorem dX2_stepStrong_207 : decode cX2_stepStrong 207 = .ok (.iconst 0, 1) := by decide +kernel
theorem dX2_stepStrong_208 : decode cX2_stepStrong 208 = .ok (.ior, 1) := by decide +kernel
theorem dX2_stepStrong_209 : decode cX2_stepStrong 209 = .ok (.istore_n 2, 1) := by decide +kernel
theorem dX2_stepStrong_210 : decode cX2_stepStrong 210 = .ok (.lload 10, 2) := by decide +kernel
theorem dX2_stepStrong_212 : decode cX2_stepStrong 212 = .ok (.lload 10, 2) := by decide +kernel
theorem dX2_stepStrong_214 : decode cX2_stepStrong 214 = .ok (.lconst 1, 1) := by decide +kernel
theorem dX2_stepStrong_215 : decode cX2_stepStrong 215 = .ok (.lsub, 1) := by decide +kernel
theorem dX2_stepStrong_216 : decode cX2_stepStrong 216 = .ok (.land, 1) := by decide +kernel
theorem dX2_stepStrong_217 : decode cX2_stepStrong 217 = .ok (.lstore 10, 2) := by decide +kernel
theorem dX2_stepStrong_219 : decode cX2_stepStrong 219 = .ok (.iinc 12 (-1), 3) := by decide +kernel
theorem dX2_stepStrong_222 : decode cX2_stepStrong 222 = .ok (.goto (-48), 3) := by decide +kernel
theorem dX2_stepStrong_225 : decode cX2_stepStrong 225 = .ok (.iinc 3 1, 3) := by decide +kernel
theorem dX2_stepStrong_228 : decode cX2_stepStrong 228 = .ok (.goto (-224), 3) := by decide +kernel
theorem dX2_stepStrong_231 : decode cX2_stepStrong 231 = .ok (.iload_n 2, 1) := by decide +kernel
theorem dX2_stepStrong_232 : decode cX2_stepStrong 232 = .ok (.ireturn, 1) := by decide +kernel
def kX2_stepStrong_63 (mc ms : Nat) (X : Nat → zV) (Q : zQt) : zT :=
  zsi 8 <| zj X 65 [0, 1, 2, 3, 4, 5, 6, 8]
def kX2_stepStrong_58 (mc ms : Nat) (X : Nat → zV) (Q : zQt) : zT :=
  zll 6 <| zcs mc ms 1 wJ13_bitCount_95d88 <| kX2_stepStrong_63 mc ms X Q
def kX2_stepStrong_37 (mc ms : Nat) (X : Nat → zV) (Q : zQt) : zT :=
  zla 0 <| zgR 2 0 <| zgR 1 1 <| zli 5 <| zall <| zc (.long 1) <| zli 4 <| zji (fun x y => x <<< (y.toInt64 &&& 63)) <| zc (.long (-1)) <| zjj (fun x y => x ^^^ y) <| zjj (fun x y => x &&& y) <| zslN 6 <| kX2_stepStrong_58 mc ms X Q
def kX2_stepStrong_93 (mc ms : Nat) (X : Nat → zV) (Q : zQt) : zT :=
  zc (.long 0) <| zlc <| zif (fun x => x = 0) (zc (.int 0) <| zj X 103 [0, 1, 3, 4, 5, 6, 8]) <| zc (.int 1) <| zj X 103 [0, 1, 3, 4, 5, 6, 8]
def kX2_stepStrong_82 (mc ms : Nat) (X : Nat → zV) (Q : zQt) : zT :=
  zii (fun x y => x + y) <| zla 0 <| zgR 2 9 <| zli 3 <| zall <| zli 1 <| zcv mc ms 2 3 wX2_gain <| kX2_stepStrong_93 mc ms X Q
def kX2_stepStrong_172 (mc ms : Nat) (X : Nat → zV) (Q : zQt) : zT :=
  zsi 12 <| zj X 174 [0, 1, 2, 3, 5, 8, 10, 12]
def kX2_stepStrong_165 (mc ms : Nat) (X : Nat → zV) (Q : zQt) : zT :=
  zsl 10 <| zll 10 <| zcs mc ms 1 wJ13_bitCount_95d88 <| kX2_stepStrong_172 mc ms X Q
def kX2_stepStrong_198 (mc ms : Nat) (X : Nat → zV) (Q : zQt) : zT :=
  zc (.long 0) <| zlc <| zif (fun x => x = 0) (zc (.int 0) <| zj X 208 [0, 1, 3, 5, 8, 10, 12]) <| zc (.int 1) <| zj X 208 [0, 1, 3, 5, 8, 10, 12]
def kX2_stepStrong_186 (mc ms : Nat) (X : Nat → zV) (Q : zQt) : zT :=
  zc (.int 64) <| zii (fun x y => x * y) <| zli 5 <| zii (fun x y => x + y) <| zll 8 <| zli 1 <| zcv mc ms 2 3 wX2_gain <| kX2_stepStrong_198 mc ms X Q
def aX2_stepStrong_0 (mc ms : Nat) (X : Nat → zV) (Q : zQt) : zT :=
  zc (.int 0) <| zsi 2 <| zc (.int 0) <| zsi 3 <| zj X 4 [0, 1, 2, 3]
def aX2_stepStrong_4 (mc ms : Nat) (X : Nat → zV) (Q : zQt) : zT :=
  zli 3 <| zc (.int 4096) <| zic (fun x y => y ≤ x) (zli 2 <| zrz .boolean Q) <| zla 0 <| zgR 2 9 <| zli 3 <| zall <| zc (.long 0) <| zlc <| zif (fun x => x = 0) (zj X 225 [0, 1, 2, 3]) <| zli 3 <| zc (.int 64) <| zid (fun x y => x / y) <| zsi 4 <| zli 3 <| zc (.int 64) <| zid (fun x y => x - x / y * y) <| zsiN 5 <| kX2_stepStrong_37 mc ms X Q
def aX2_stepStrong_65 (mc ms : Nat) (X : Nat → zV) (Q : zQt) : zT :=
  zli 8 <| zif (fun x => x ≤ 0) (zla 0 <| zgi 2 1 <| zc (.int 1) <| zic (fun x y => x = y) (zla 0 <| zgR 2 9 <| zli 3 <| zall <| zc (.long 1) <| zli 4 <| zc (.int 8) <| zii (fun x y => x - y) <| zji (fun x y => x <<< (y.toInt64 &&& 63)) <| zc (.long (-1)) <| zjj (fun x y => x ^^^ y) <| zjj (fun x y => x &&& y) <| zj X 155 [0, 1, 2, 3, 4, 5]) <| zla 0 <| zgR 2 9 <| zli 3 <| zall <| zj X 155 [0, 1, 2, 3, 4, 5]) <| zli 2 <| zla 0 <| zli 4 <| zc (.int 64) <| zii (fun x y => x * y) <| zll 6 <| zcs mc ms 1 wX0_lowest <| kX2_stepStrong_82 mc ms X Q
def aX2_stepStrong_103 (mc ms : Nat) (X : Nat → zV) (Q : zQt) : zT :=
  zii (fun x y => x ||| y) <| zsi 2 <| zll 6 <| zll 6 <| zc (.long 1) <| zjj (fun x y => x - y) <| zjj (fun x y => x &&& y) <| zsl 6 <| zinc 8 (-1) <| zj X 65 [0, 1, 2, 3, 4, 5, 6, 8]
def aX2_stepStrong_155 (mc ms : Nat) (X : Nat → zV) (Q : zQt) : zT :=
  zsl 8 <| zla 0 <| zli 4 <| zli 5 <| zcv mc ms 2 2 wX2_cameFrom <| kX2_stepStrong_165 mc ms X Q
def aX2_stepStrong_174 (mc ms : Nat) (X : Nat → zV) (Q : zQt) : zT :=
  zli 12 <| zif (fun x => x ≤ 0) (zj X 225 [0, 1, 2, 3]) <| zli 2 <| zla 0 <| zll 10 <| zcs mc ms 1 wX0_lowest <| kX2_stepStrong_186 mc ms X Q
def aX2_stepStrong_208 (mc ms : Nat) (X : Nat → zV) (Q : zQt) : zT :=
  zii (fun x y => x ||| y) <| zsi 2 <| zll 10 <| zll 10 <| zc (.long 1) <| zjj (fun x y => x - y) <| zjj (fun x y => x &&& y) <| zsl 10 <| zinc 12 (-1) <| zj X 174 [0, 1, 2, 3, 5, 8, 10, 12]
def aX2_stepStrong_225 (mc ms : Nat) (X : Nat → zV) (Q : zQt) : zT :=
  zinc 3 1 <| zj X 4 [0, 1, 2, 3]
def lvX2_stepStrong : Nat → List Nat := fun L => match L with
  | 0 => [0, 1]
  | 4 => [0, 1, 2, 3]
  | 65 => [0, 1, 2, 3, 4, 5, 6, 8]
  | 103 => [0, 1, 3, 4, 5, 6, 8]
  | 155 => [0, 1, 2, 3, 4, 5]
  | 174 => [0, 1, 2, 3, 5, 8, 10, 12]
  | 208 => [0, 1, 3, 5, 8, 10, 12]
  | 225 => [0, 1, 2, 3]
  | _ => []
def wX2_stepStrong : zSp := fun mc ms av M Q => ((zlay av).length ≤ 13 ∧ zpick (zlay av) [0, 1] = some av) ∧ ∀ X : Nat → zV, zin 13 [0, 1] (aX2_stepStrong_0 mc ms X Q) X 0 → zin 13 [0, 1, 2, 3] (aX2_stepStrong_4 mc ms X Q) X 4 → zin 13 [0, 1, 2, 3, 4, 5, 6, 8] (aX2_stepStrong_65 mc ms X Q) X 65 → zin 13 [0, 1, 3, 4, 5, 6, 8] (aX2_stepStrong_103 mc ms X Q) X 103 → zin 13 [0, 1, 2, 3, 4, 5] (aX2_stepStrong_155 mc ms X Q) X 155 → zin 13 [0, 1, 2, 3, 5, 8, 10, 12] (aX2_stepStrong_174 mc ms X Q) X 174 → zin 13 [0, 1, 3, 5, 8, 10, 12] (aX2_stepStrong_208 mc ms X Q) X 208 → zin 13 [0, 1, 2, 3] (aX2_stepStrong_225 mc ms X Q) X 225 → X 0 0 0 av [] M
set_option maxRecDepth 100000 in
set_option maxHeartbeats 4000000 in
theorem sX2_stepStrong (l : Launch) (G : zG) : zSnd l G yX2_stepStrong cX2_stepStrong 13 (some .boolean) 2 42 wX2_stepStrong := by
  refine zmk [0, 1] (by decide) (fun mc ms av M Q h => h.1) ?_
  intro p e R s m args below meth c mc ms av M Q hC hRf hRl hr hnm h lv hlv
  obtain ⟨X, hXe⟩ : ∃ X : Nat → zV, X = fun L u v vs st M => ∀ lv, zpick lv (lvX2_stepStrong L) = some vs → zAt p l e R s m args below meth c (MQ below (zQ G Q) args s mc ms (zA G)) G 13 L u v lv st M := ⟨_, rfl⟩
  have hJ : ∀ L, zOk p l e R s m args below meth c (MQ below (zQ G Q) args s mc ms (zA G)) G 13 L (zj X L (lvX2_stepStrong L)) := fun L => S_jump (fun u v lv vs st M hp hx => by rw [hXe] at hx; exact hx lv hp)
  have hB0 : zin 13 [0, 1] (aX2_stepStrong_0 mc ms X Q) X 0 := by
    intro u v vs st M hb
    rw [hXe]
    refine fun lv hp => S_block (L := 0) (live := [0, 1]) ?_ u v lv vs st M hp hb
    unfold aX2_stepStrong_0
    refine S_iconst (pc := 0) hC dX2_stepStrong_0 (by decide) ?_
    refine S_istore_n (pc := 1) hC dX2_stepStrong_1 rfl (by decide) ?_
    refine S_iconst (pc := 2) hC dX2_stepStrong_2 (by decide) ?_
    refine S_istore_n (pc := 3) hC dX2_stepStrong_3 rfl (by decide) ?_
    exact hJ 4
  have hB4 : zin 13 [0, 1, 2, 3] (aX2_stepStrong_4 mc ms X Q) X 4 := by
    intro u v vs st M hb
    rw [hXe]
    refine fun lv hp => S_block (L := 4) (live := [0, 1, 2, 3]) ?_ u v lv vs st M hp hb
    unfold aX2_stepStrong_4
    refine S_iload_n (pc := 4) hC dX2_stepStrong_4 rfl ?_
    refine S_sipush (pc := 5) hC dX2_stepStrong_5 (by decide) ?_
    refine S_icmp_ge (pc := 8) (tgt := 231) hC dX2_stepStrong_8 (by decide) ?_ ?_
    · refine S_iload_n (pc := 231) hC dX2_stepStrong_231 rfl ?_
      exact S_zreturn (pc := 232) hC hr dX2_stepStrong_232
    · refine S_aload_n (pc := 11) hC dX2_stepStrong_11 rfl ?_
      refine S_getR (pc := 12) hC cfX2 (by decide) (Or.inr ⟨_, rfl⟩) wd_1083 dX2_stepStrong_12 ?_
      refine S_iload_n (pc := 15) hC dX2_stepStrong_15 rfl ?_
      refine S_laload (pc := 16) hC dX2_stepStrong_16 ?_
      refine S_lconst (pc := 17) hC dX2_stepStrong_17 (by decide) ?_
      refine S_lcmp (pc := 18) hC dX2_stepStrong_18 ?_
      refine S_if_ne (pc := 19) (tgt := 25) hC dX2_stepStrong_19 (by decide) ?_ ?_
      · refine S_iload_n (pc := 25) hC dX2_stepStrong_25 rfl ?_
        refine S_bipush (pc := 26) hC dX2_stepStrong_26 (by decide) ?_
        refine S_idiv (pc := 28) hC dX2_stepStrong_28 ?_
        refine S_istore (pc := 29) hC dX2_stepStrong_29 (by decide) ?_
        refine S_iload_n (pc := 31) hC dX2_stepStrong_31 rfl ?_
        refine S_bipush (pc := 32) hC dX2_stepStrong_32 (by decide) ?_
        refine S_irem (pc := 34) hC dX2_stepStrong_34 ?_
        refine S_istore_N (pc := 35) hC dX2_stepStrong_35 (by decide) ?_
        unfold kX2_stepStrong_37
        refine S_aload_n (pc := 37) hC dX2_stepStrong_37 rfl ?_
        refine S_getR (pc := 38) hC cfX2 (by decide) (Or.inl ⟨_, rfl⟩) wd_1074 dX2_stepStrong_38 ?_
        refine S_getR (pc := 41) hC cfX1 (by decide) (Or.inr ⟨_, rfl⟩) wd_61 dX2_stepStrong_41 ?_
        refine S_iload (pc := 44) hC dX2_stepStrong_44 ?_
        refine S_laload (pc := 46) hC dX2_stepStrong_46 ?_
        refine S_lconst (pc := 47) hC dX2_stepStrong_47 (by decide) ?_
        refine S_iload (pc := 48) hC dX2_stepStrong_48 ?_
        refine S_lshl (pc := 50) hC dX2_stepStrong_50 ?_
        refine S_ldc2 (pc := 51) hC wd_1125 dX2_stepStrong_51 ?_
        refine S_lxor (pc := 54) hC dX2_stepStrong_54 ?_
        refine S_land (pc := 55) hC dX2_stepStrong_55 ?_
        refine S_lstore_N (pc := 56) hC dX2_stepStrong_56 (by decide) ?_
        unfold kX2_stepStrong_58
        refine S_lload (pc := 58) hC dX2_stepStrong_58 ?_
        refine S_callS (pc := 60) hC (sJ13_bitCount_95d88 l G) wd_1136 wd_438 wd_25 wd_439 (by decide +kernel) ⟨by rw [hRf]; decide, by rw [hRl]; decide⟩ dX2_stepStrong_60 ?_
        unfold kX2_stepStrong_63
        refine S_istore (pc := 63) hC dX2_stepStrong_63 (by decide) ?_
        exact hJ 65
      · refine S_goto (pc := 22) (tgt := 225) hC dX2_stepStrong_22 (by decide) ?_
        exact hJ 225
  have hB65 : zin 13 [0, 1, 2, 3, 4, 5, 6, 8] (aX2_stepStrong_65 mc ms X Q) X 65 := by
    intro u v vs st M hb
    rw [hXe]
    refine fun lv hp => S_block (L := 65) (live := [0, 1, 2, 3, 4, 5, 6, 8]) ?_ u v lv vs st M hp hb
    unfold aX2_stepStrong_65
    refine S_iload (pc := 65) hC dX2_stepStrong_65 ?_
    refine S_if_le (pc := 67) (tgt := 120) hC dX2_stepStrong_67 (by decide) ?_ ?_
    · refine S_aload_n (pc := 120) hC dX2_stepStrong_120 rfl ?_
      refine S_geti (pc := 121) hC cfX2 (by decide) (Or.inl rfl) wd_1075 dX2_stepStrong_121 ?_
      refine S_iconst (pc := 124) hC dX2_stepStrong_124 (by decide) ?_
      refine S_icmp_ne (pc := 125) (tgt := 149) hC dX2_stepStrong_125 (by decide) ?_ ?_
      · refine S_aload_n (pc := 149) hC dX2_stepStrong_149 rfl ?_
        refine S_getR (pc := 150) hC cfX2 (by decide) (Or.inr ⟨_, rfl⟩) wd_1083 dX2_stepStrong_150 ?_
        refine S_iload_n (pc := 153) hC dX2_stepStrong_153 rfl ?_
        refine S_laload (pc := 154) hC dX2_stepStrong_154 ?_
        exact hJ 155
      · refine S_aload_n (pc := 128) hC dX2_stepStrong_128 rfl ?_
        refine S_getR (pc := 129) hC cfX2 (by decide) (Or.inr ⟨_, rfl⟩) wd_1083 dX2_stepStrong_129 ?_
        refine S_iload_n (pc := 132) hC dX2_stepStrong_132 rfl ?_
        refine S_laload (pc := 133) hC dX2_stepStrong_133 ?_
        refine S_lconst (pc := 134) hC dX2_stepStrong_134 (by decide) ?_
        refine S_iload (pc := 135) hC dX2_stepStrong_135 ?_
        refine S_bipush (pc := 137) hC dX2_stepStrong_137 (by decide) ?_
        refine S_isub (pc := 139) hC dX2_stepStrong_139 ?_
        refine S_lshl (pc := 140) hC dX2_stepStrong_140 ?_
        refine S_ldc2 (pc := 141) hC wd_1125 dX2_stepStrong_141 ?_
        refine S_lxor (pc := 144) hC dX2_stepStrong_144 ?_
        refine S_land (pc := 145) hC dX2_stepStrong_145 ?_
        refine S_goto (pc := 146) (tgt := 155) hC dX2_stepStrong_146 (by decide) ?_
        exact hJ 155
    · refine S_iload_n (pc := 70) hC dX2_stepStrong_70 rfl ?_
      refine S_aload_n (pc := 71) hC dX2_stepStrong_71 rfl ?_
      refine S_iload (pc := 72) hC dX2_stepStrong_72 ?_
      refine S_bipush (pc := 74) hC dX2_stepStrong_74 (by decide) ?_
      refine S_imul (pc := 76) hC dX2_stepStrong_76 ?_
      refine S_lload (pc := 77) hC dX2_stepStrong_77 ?_
      refine S_callS (pc := 79) hC (sX0_lowest l G) wd_1137 wd_435 wd_10 wd_436 (by decide +kernel) ⟨by rw [hRf]; decide, by rw [hRl]; decide⟩ dX2_stepStrong_79 ?_
      unfold kX2_stepStrong_82
      refine S_iadd (pc := 82) hC dX2_stepStrong_82 ?_
      refine S_aload_n (pc := 83) hC dX2_stepStrong_83 rfl ?_
      refine S_getR (pc := 84) hC cfX2 (by decide) (Or.inr ⟨_, rfl⟩) wd_1083 dX2_stepStrong_84 ?_
      refine S_iload_n (pc := 87) hC dX2_stepStrong_87 rfl ?_
      refine S_laload (pc := 88) hC dX2_stepStrong_88 ?_
      refine S_iload_n (pc := 89) hC dX2_stepStrong_89 rfl ?_
      refine S_callV (pc := 90) hC (sX2_gain l G) rfl wd_1138 wd_1140 ws_47 wd_28 wd_1141 (by decide +kernel) ⟨by rw [hRf]; decide, by rw [hRl]; decide⟩ dX2_stepStrong_90 ?_
      unfold kX2_stepStrong_93
      refine S_lconst (pc := 93) hC dX2_stepStrong_93 (by decide) ?_
      refine S_lcmp (pc := 94) hC dX2_stepStrong_94 ?_
      refine S_if_eq (pc := 95) (tgt := 102) hC dX2_stepStrong_95 (by decide) ?_ ?_
      · refine S_iconst (pc := 102) hC dX2_stepStrong_102 (by decide) ?_
        exact hJ 103
      · refine S_iconst (pc := 98) hC dX2_stepStrong_98 (by decide) ?_
        refine S_goto (pc := 99) (tgt := 103) hC dX2_stepStrong_99 (by decide) ?_
        exact hJ 103
  have hB103 : zin 13 [0, 1, 3, 4, 5, 6, 8] (aX2_stepStrong_103 mc ms X Q) X 103 := by
    intro u v vs st M hb
    rw [hXe]
    refine fun lv hp => S_block (L := 103) (live := [0, 1, 3, 4, 5, 6, 8]) ?_ u v lv vs st M hp hb
    unfold aX2_stepStrong_103
    refine S_ior (pc := 103) hC dX2_stepStrong_103 ?_
    refine S_istore_n (pc := 104) hC dX2_stepStrong_104 rfl (by decide) ?_
    refine S_lload (pc := 105) hC dX2_stepStrong_105 ?_
    refine S_lload (pc := 107) hC dX2_stepStrong_107 ?_
    refine S_lconst (pc := 109) hC dX2_stepStrong_109 (by decide) ?_
    refine S_lsub (pc := 110) hC dX2_stepStrong_110 ?_
    refine S_land (pc := 111) hC dX2_stepStrong_111 ?_
    refine S_lstore (pc := 112) hC dX2_stepStrong_112 (by decide) ?_
    refine S_iinc (pc := 114) hC dX2_stepStrong_114 (by decide) (by decide) ?_
    refine S_goto (pc := 117) (tgt := 65) hC dX2_stepStrong_117 (by decide) ?_
    exact hJ 65
  have hB155 : zin 13 [0, 1, 2, 3, 4, 5] (aX2_stepStrong_155 mc ms X Q) X 155 := by
    intro u v vs st M hb
    rw [hXe]
    refine fun lv hp => S_block (L := 155) (live := [0, 1, 2, 3, 4, 5]) ?_ u v lv vs st M hp hb
    unfold aX2_stepStrong_155
    refine S_lstore (pc := 155) hC dX2_stepStrong_155 (by decide) ?_
    refine S_aload_n (pc := 157) hC dX2_stepStrong_157 rfl ?_
    refine S_iload (pc := 158) hC dX2_stepStrong_158 ?_
    refine S_iload (pc := 160) hC dX2_stepStrong_160 ?_
    refine S_callV (pc := 162) hC (sX2_cameFrom l G) rfl wd_1142 wd_1144 ws_48 wd_28 wd_1145 (by decide +kernel) ⟨by rw [hRf]; decide, by rw [hRl]; decide⟩ dX2_stepStrong_162 ?_
    unfold kX2_stepStrong_165
    refine S_lstore (pc := 165) hC dX2_stepStrong_165 (by decide) ?_
    refine S_lload (pc := 167) hC dX2_stepStrong_167 ?_
    refine S_callS (pc := 169) hC (sJ13_bitCount_95d88 l G) wd_1136 wd_438 wd_25 wd_439 (by decide +kernel) ⟨by rw [hRf]; decide, by rw [hRl]; decide⟩ dX2_stepStrong_169 ?_
    unfold kX2_stepStrong_172
    refine S_istore (pc := 172) hC dX2_stepStrong_172 (by decide) ?_
    exact hJ 174
  have hB174 : zin 13 [0, 1, 2, 3, 5, 8, 10, 12] (aX2_stepStrong_174 mc ms X Q) X 174 := by
    intro u v vs st M hb
    rw [hXe]
    refine fun lv hp => S_block (L := 174) (live := [0, 1, 2, 3, 5, 8, 10, 12]) ?_ u v lv vs st M hp hb
    unfold aX2_stepStrong_174
    refine S_iload (pc := 174) hC dX2_stepStrong_174 ?_
    refine S_if_le (pc := 176) (tgt := 225) hC dX2_stepStrong_176 (by decide) ?_ ?_
    · exact hJ 225
    · refine S_iload_n (pc := 179) hC dX2_stepStrong_179 rfl ?_
      refine S_aload_n (pc := 180) hC dX2_stepStrong_180 rfl ?_
      refine S_lload (pc := 181) hC dX2_stepStrong_181 ?_
      refine S_callS (pc := 183) hC (sX0_lowest l G) wd_1137 wd_435 wd_10 wd_436 (by decide +kernel) ⟨by rw [hRf]; decide, by rw [hRl]; decide⟩ dX2_stepStrong_183 ?_
      unfold kX2_stepStrong_186
      refine S_bipush (pc := 186) hC dX2_stepStrong_186 (by decide) ?_
      refine S_imul (pc := 188) hC dX2_stepStrong_188 ?_
      refine S_iload (pc := 189) hC dX2_stepStrong_189 ?_
      refine S_iadd (pc := 191) hC dX2_stepStrong_191 ?_
      refine S_lload (pc := 192) hC dX2_stepStrong_192 ?_
      refine S_iload_n (pc := 194) hC dX2_stepStrong_194 rfl ?_
      refine S_callV (pc := 195) hC (sX2_gain l G) rfl wd_1138 wd_1140 ws_47 wd_28 wd_1141 (by decide +kernel) ⟨by rw [hRf]; decide, by rw [hRl]; decide⟩ dX2_stepStrong_195 ?_
      unfold kX2_stepStrong_198
      refine S_lconst (pc := 198) hC dX2_stepStrong_198 (by decide) ?_
      refine S_lcmp (pc := 199) hC dX2_stepStrong_199 ?_
      refine S_if_eq (pc := 200) (tgt := 207) hC dX2_stepStrong_200 (by decide) ?_ ?_
      · refine S_iconst (pc := 207) hC dX2_stepStrong_207 (by decide) ?_
        exact hJ 208
      · refine S_iconst (pc := 203) hC dX2_stepStrong_203 (by decide) ?_
        refine S_goto (pc := 204) (tgt := 208) hC dX2_stepStrong_204 (by decide) ?_
        exact hJ 208
  have hB208 : zin 13 [0, 1, 3, 5, 8, 10, 12] (aX2_stepStrong_208 mc ms X Q) X 208 := by
    intro u v vs st M hb
    rw [hXe]
    refine fun lv hp => S_block (L := 208) (live := [0, 1, 3, 5, 8, 10, 12]) ?_ u v lv vs st M hp hb
    unfold aX2_stepStrong_208
    refine S_ior (pc := 208) hC dX2_stepStrong_208 ?_
    refine S_istore_n (pc := 209) hC dX2_stepStrong_209 rfl (by decide) ?_
    refine S_lload (pc := 210) hC dX2_stepStrong_210 ?_
    refine S_lload (pc := 212) hC dX2_stepStrong_212 ?_
    refine S_lconst (pc := 214) hC dX2_stepStrong_214 (by decide) ?_
    refine S_lsub (pc := 215) hC dX2_stepStrong_215 ?_
    refine S_land (pc := 216) hC dX2_stepStrong_216 ?_
    refine S_lstore (pc := 217) hC dX2_stepStrong_217 (by decide) ?_
    refine S_iinc (pc := 219) hC dX2_stepStrong_219 (by decide) (by decide) ?_
    refine S_goto (pc := 222) (tgt := 174) hC dX2_stepStrong_222 (by decide) ?_
    exact hJ 174
  have hB225 : zin 13 [0, 1, 2, 3] (aX2_stepStrong_225 mc ms X Q) X 225 := by
    intro u v vs st M hb
    rw [hXe]
    refine fun lv hp => S_block (L := 225) (live := [0, 1, 2, 3]) ?_ u v lv vs st M hp hb
    unfold aX2_stepStrong_225
    refine S_iinc (pc := 225) hC dX2_stepStrong_225 (by decide) (by decide) ?_
    refine S_goto (pc := 228) (tgt := 4) hC dX2_stepStrong_228 (by decide) ?_
    exact hJ 4
  have := h.2 X hB0 hB4 hB65 hB103 hB155 hB174 hB208 hB225
  rw [hXe] at this
  exact this lv hlv
theorem vX2_stepStrong_0 {mc ms : Nat} {X : Nat → zV} {Q : zQt} {M : zM} {g : Nat} {x0 : Nat} {x1 : Int32} (hW : zWd M g) (hx0 : zsh M x0 = some (0, 2)) (h : X 4 0 0 [.ref x0, .int x1, .int 0, .int 0] [] M) : aX2_stepStrong_0 mc ms X Q 0 0 [some (.ref x0), some (.int x1), none, none, none, none, none, none, none, none, none, none, none] [] M := h
theorem vcX2_stepStrong_58 {mc ms : Nat} {X : Nat → zV} {Q : zQt} {M : zM} {g : Nat} {x0 : Nat} {x1 : Int32} {x2 : Int32} {x3 : Int32} {x4 : Int32} {x5 : Int32} {x6 : Int64} (hW : zWd M g) (hx0 : zsh M x0 = some (0, 2)) (h : wJ13_bitCount_95d88 0 0 [.long x6] M (fun r M1 => kX2_stepStrong_63 mc ms X Q 0 0 [some (.ref x0), some (.int x1), some (.int x2), some (.int x3), some (.int x4), some (.int x5), some (.long x6), none, none, none, none, none, none] (r.toList ++ []) M1)) : kX2_stepStrong_58 mc ms X Q 0 0 [some (.ref x0), some (.int x1), some (.int x2), some (.int x3), some (.int x4), some (.int x5), some (.long x6), none, none, none, none, none, none] [] M := ⟨Nat.le_of_ble_eq_true rfl, rfl, 0, 0, Nat.zero_le _, Nat.zero_le _, h⟩
theorem vcX2_stepStrong_37 {mc ms : Nat} {X : Nat → zV} {Q : zQt} {M : zM} {g : Nat} {x0 : Nat} {x1 : Int32} {x2 : Int32} {x3 : Int32} {x4 : Int32} {x5 : Int32} (hW : zWd M g) (hx0 : zsh M x0 = some (0, 2)) (h : ∃ r38, ((M : zM).2.2.1 x0 0) = some r38 ∧ zsh M r38 = some (0, 1) ∧ ∃ r41 r41n, ((M : zM).2.2.1 r38 1) = some r41 ∧ zsh M r41 = some (2, r41n) ∧ vp_in x5 r41n ∧ ∀ y56 : Int64, y56 = (((M : zM).2.1 r41 (x5 : Int32).toNatClampNeg) &&& (((1 : Int64) <<< (x4.toInt64 &&& 63)) ^^^ ((-1) : Int64))) → wJ13_bitCount_95d88 0 0 [.long y56] M (fun r M1 => kX2_stepStrong_63 mc ms X Q 0 0 [some (.ref x0), some (.int x1), some (.int x2), some (.int x3), some (.int x4), some (.int x5), some (.long y56), none, none, none, none, none, none] (r.toList ++ []) M1)) : kX2_stepStrong_37 mc ms X Q 0 0 [some (.ref x0), some (.int x1), some (.int x2), some (.int x3), some (.int x4), some (.int x5), none, none, none, none, none, none, none] [] M := (let ⟨r38, q38, hr38, h38⟩ := h; ⟨hx0, r38, q38, (let ⟨r41, r41n, q41, hr41, h41⟩ := h38; ⟨hr38, r41, q41, ⟨r41n, hr41, h41.1, (fun y56 e56 => have h56 := h41.2 y56 e56; (vcX2_stepStrong_58 hW hx0 h56))⟩⟩)⟩)
theorem vX2_stepStrong_4 {mc ms : Nat} {X : Nat → zV} {Q : zQt} {M : zM} {g : Nat} {x0 : Nat} {x1 : Int32} {x2 : Int32} {x3 : Int32} (hW : zWd M g) (hx0 : zsh M x0 = some (0, 2)) (h : ((4096 : Int32) ≤ x3 → narrow .boolean (.int x2) = .int x2 ∧ Q (some (.int x2)) M) ∧ (¬ (4096 : Int32) ≤ x3 → ∃ r12 r12n, ((M : zM).2.2.1 x0 9) = some r12 ∧ zsh M r12 = some (2, r12n) ∧ vp_in x3 r12n ∧ ((lg_cmp (((M : zM).2.1 r12 (x3 : Int32).toNatClampNeg)) ((0 : Int64))) = 0 → X 225 0 0 [.ref x0, .int x1, .int x2, .int x3] [] M) ∧ (¬ (lg_cmp (((M : zM).2.1 r12 (x3 : Int32).toNatClampNeg)) ((0 : Int64))) = 0 → ∀ y35 : Int32, y35 = (x3 - x3 / (64 : Int32) * (64 : Int32)) → ∃ r38, ((M : zM).2.2.1 x0 0) = some r38 ∧ zsh M r38 = some (0, 1) ∧ ∃ r41 r41n, ((M : zM).2.2.1 r38 1) = some r41 ∧ zsh M r41 = some (2, r41n) ∧ vp_in y35 r41n ∧ ∀ y56 : Int64, y56 = (((M : zM).2.1 r41 (y35 : Int32).toNatClampNeg) &&& (((1 : Int64) <<< ((x3 / (64 : Int32)).toInt64 &&& 63)) ^^^ ((-1) : Int64))) → wJ13_bitCount_95d88 0 0 [.long y56] M (fun r M1 => kX2_stepStrong_63 mc ms X Q 0 0 [some (.ref x0), some (.int x1), some (.int x2), some (.int x3), some (.int (x3 / (64 : Int32))), some (.int y35), some (.long y56), none, none, none, none, none, none] (r.toList ++ []) M1)))) : aX2_stepStrong_4 mc ms X Q 0 0 [some (.ref x0), some (.int x1), some (.int x2), some (.int x3), none, none, none, none, none, none, none, none, none] [] M := ⟨fun c8 => (h.1 c8), fun c8 => (let ⟨r12, r12n, q12, hr12, h12⟩ := (h.2 c8); ⟨hx0, r12, q12, ⟨r12n, hr12, h12.1, ⟨fun c19 => (h12.2.1 c19), fun c19 => ⟨by decide, ⟨by decide, (fun y35 e35 => have h35 := (h12.2.2 c19) y35 e35; (vcX2_stepStrong_37 hW hx0 h35))⟩⟩⟩⟩⟩)⟩
theorem vX2_stepStrong_65 {mc ms : Nat} {X : Nat → zV} {Q : zQt} {M : zM} {g : Nat} {x0 : Nat} {x1 : Int32} {x2 : Int32} {x3 : Int32} {x4 : Int32} {x5 : Int32} {x6 : Int64} {x8 : Int32} (hW : zWd M g) (hx0 : zsh M x0 = some (0, 2)) (h : (x8 ≤ 0 → ((M.1 x0 1) = (1 : Int32) → ∃ r129 r129n, ((M : zM).2.2.1 x0 9) = some r129 ∧ zsh M r129 = some (2, r129n) ∧ vp_in x3 r129n ∧ X 155 0 0 [.ref x0, .int x1, .int x2, .int x3, .int x4, .int x5] [.long (((M : zM).2.1 r129 (x3 : Int32).toNatClampNeg) &&& (((1 : Int64) <<< ((x4 - (8 : Int32)).toInt64 &&& 63)) ^^^ ((-1) : Int64)))] M) ∧ (¬ (M.1 x0 1) = (1 : Int32) → ∃ r150 r150n, ((M : zM).2.2.1 x0 9) = some r150 ∧ zsh M r150 = some (2, r150n) ∧ vp_in x3 r150n ∧ X 155 0 0 [.ref x0, .int x1, .int x2, .int x3, .int x4, .int x5] [.long ((M : zM).2.1 r150 (x3 : Int32).toNatClampNeg)] M)) ∧ (¬ x8 ≤ 0 → wX0_lowest 0 0 [.long x6] M (fun r M1 => kX2_stepStrong_82 mc ms X Q 0 0 [some (.ref x0), some (.int x1), some (.int x2), some (.int x3), some (.int x4), some (.int x5), some (.long x6), none, some (.int x8), none, none, none, none] (r.toList ++ [.int (x4 * (64 : Int32)), .ref x0, .int x2]) M1))) : aX2_stepStrong_65 mc ms X Q 0 0 [some (.ref x0), some (.int x1), some (.int x2), some (.int x3), some (.int x4), some (.int x5), some (.long x6), none, some (.int x8), none, none, none, none] [] M := ⟨fun c67 => ⟨hx0, ⟨fun c125 => (let ⟨r129, r129n, q129, hr129, h129⟩ := ((h.1 c67).1 c125); ⟨hx0, r129, q129, ⟨r129n, hr129, h129.1, h129.2⟩⟩), fun c125 => (let ⟨r150, r150n, q150, hr150, h150⟩ := ((h.1 c67).2 c125); ⟨hx0, r150, q150, ⟨r150n, hr150, h150.1, h150.2⟩⟩)⟩⟩, fun c67 => ⟨Nat.le_of_ble_eq_true rfl, rfl, 0, 0, Nat.zero_le _, Nat.zero_le _, (h.2 c67)⟩⟩
theorem vX2_stepStrong_103 {mc ms : Nat} {X : Nat → zV} {Q : zQt} {M : zM} {g : Nat} {x0 : Nat} {x1 : Int32} {x3 : Int32} {x4 : Int32} {x5 : Int32} {x6 : Int64} {x8 : Int32} {s0 : Int32} {s1 : Int32} (hW : zWd M g) (hx0 : zsh M x0 = some (0, 2)) (h : X 65 0 0 [.ref x0, .int x1, .int (s1 ||| s0), .int x3, .int x4, .int x5, .long (x6 &&& (x6 - (1 : Int64))), .int (x8 + (-1))] [] M) : aX2_stepStrong_103 mc ms X Q 0 0 [some (.ref x0), some (.int x1), none, some (.int x3), some (.int x4), some (.int x5), some (.long x6), none, some (.int x8), none, none, none, none] [.int s0, .int s1] M := h
theorem vX2_stepStrong_155 {mc ms : Nat} {X : Nat → zV} {Q : zQt} {M : zM} {g : Nat} {x0 : Nat} {x1 : Int32} {x2 : Int32} {x3 : Int32} {x4 : Int32} {x5 : Int32} {s0 : Int64} (hW : zWd M g) (hx0 : zsh M x0 = some (0, 2)) (h : wX2_cameFrom 0 0 [.ref x0, .int x4, .int x5] M (fun r M1 => kX2_stepStrong_165 mc ms X Q 0 0 [some (.ref x0), some (.int x1), some (.int x2), some (.int x3), some (.int x4), some (.int x5), none, none, some (.long s0), none, none, none, none] (r.toList ++ []) M1)) : aX2_stepStrong_155 mc ms X Q 0 0 [some (.ref x0), some (.int x1), some (.int x2), some (.int x3), some (.int x4), some (.int x5), none, none, none, none, none, none, none] [.long s0] M := ⟨Nat.le_of_ble_eq_true rfl, rfl, hx0, 0, 0, Nat.zero_le _, Nat.zero_le _, h⟩
theorem vX2_stepStrong_174 {mc ms : Nat} {X : Nat → zV} {Q : zQt} {M : zM} {g : Nat} {x0 : Nat} {x1 : Int32} {x2 : Int32} {x3 : Int32} {x5 : Int32} {x8 : Int64} {x10 : Int64} {x12 : Int32} (hW : zWd M g) (hx0 : zsh M x0 = some (0, 2)) (h : (x12 ≤ 0 → X 225 0 0 [.ref x0, .int x1, .int x2, .int x3] [] M) ∧ (¬ x12 ≤ 0 → wX0_lowest 0 0 [.long x10] M (fun r M1 => kX2_stepStrong_186 mc ms X Q 0 0 [some (.ref x0), some (.int x1), some (.int x2), some (.int x3), none, some (.int x5), none, none, some (.long x8), none, some (.long x10), none, some (.int x12)] (r.toList ++ [.ref x0, .int x2]) M1))) : aX2_stepStrong_174 mc ms X Q 0 0 [some (.ref x0), some (.int x1), some (.int x2), some (.int x3), none, some (.int x5), none, none, some (.long x8), none, some (.long x10), none, some (.int x12)] [] M := ⟨fun c176 => (h.1 c176), fun c176 => ⟨Nat.le_of_ble_eq_true rfl, rfl, 0, 0, Nat.zero_le _, Nat.zero_le _, (h.2 c176)⟩⟩
theorem vX2_stepStrong_208 {mc ms : Nat} {X : Nat → zV} {Q : zQt} {M : zM} {g : Nat} {x0 : Nat} {x1 : Int32} {x3 : Int32} {x5 : Int32} {x8 : Int64} {x10 : Int64} {x12 : Int32} {s0 : Int32} {s1 : Int32} (hW : zWd M g) (hx0 : zsh M x0 = some (0, 2)) (h : X 174 0 0 [.ref x0, .int x1, .int (s1 ||| s0), .int x3, .int x5, .long x8, .long (x10 &&& (x10 - (1 : Int64))), .int (x12 + (-1))] [] M) : aX2_stepStrong_208 mc ms X Q 0 0 [some (.ref x0), some (.int x1), none, some (.int x3), none, some (.int x5), none, none, some (.long x8), none, some (.long x10), none, some (.int x12)] [.int s0, .int s1] M := h
theorem vX2_stepStrong_225 {mc ms : Nat} {X : Nat → zV} {Q : zQt} {M : zM} {g : Nat} {x0 : Nat} {x1 : Int32} {x2 : Int32} {x3 : Int32} (hW : zWd M g) (hx0 : zsh M x0 = some (0, 2)) (h : X 4 0 0 [.ref x0, .int x1, .int x2, .int (x3 + 1)] [] M) : aX2_stepStrong_225 mc ms X Q 0 0 [some (.ref x0), some (.int x1), some (.int x2), some (.int x3), none, none, none, none, none, none, none, none, none] [] M := h
theorem vkX2_stepStrong_63 {mc ms : Nat} {X : Nat → zV} {Q : zQt} {M : zM} {g : Nat} {x0 : Nat} {x1 : Int32} {x2 : Int32} {x3 : Int32} {x4 : Int32} {x5 : Int32} {x6 : Int64} {s0 : Int32} (hW : zWd M g) (hx0 : zsh M x0 = some (0, 2)) (h : X 65 0 0 [.ref x0, .int x1, .int x2, .int x3, .int x4, .int x5, .long x6, .int s0] [] M) : kX2_stepStrong_63 mc ms X Q 0 0 [some (.ref x0), some (.int x1), some (.int x2), some (.int x3), some (.int x4), some (.int x5), some (.long x6), none, none, none, none, none, none] [.int s0] M := h
theorem vkX2_stepStrong_82 {mc ms : Nat} {X : Nat → zV} {Q : zQt} {M : zM} {g : Nat} {x0 : Nat} {x1 : Int32} {x2 : Int32} {x3 : Int32} {x4 : Int32} {x5 : Int32} {x6 : Int64} {x8 : Int32} {s0 : Int32} {s1 : Int32} {s2 : Nat} {s3 : Int32} (hW : zWd M g) (hx0 : zsh M x0 = some (0, 2)) (hs2 : zsh M s2 = some (0, 2)) (h : ∃ r84 r84n, ((M : zM).2.2.1 x0 9) = some r84 ∧ zsh M r84 = some (2, r84n) ∧ vp_in x3 r84n ∧ wX2_gain 0 0 [.ref s2, .int (s1 + s0), .long ((M : zM).2.1 r84 (x3 : Int32).toNatClampNeg), .int x1] M (fun r M1 => kX2_stepStrong_93 mc ms X Q 0 0 [some (.ref x0), some (.int x1), some (.int x2), some (.int x3), some (.int x4), some (.int x5), some (.long x6), none, some (.int x8), none, none, none, none] (r.toList ++ [.int s3]) M1)) : kX2_stepStrong_82 mc ms X Q 0 0 [some (.ref x0), some (.int x1), some (.int x2), some (.int x3), some (.int x4), some (.int x5), some (.long x6), none, some (.int x8), none, none, none, none] [.int s0, .int s1, .ref s2, .int s3] M := (let ⟨r84, r84n, q84, hr84, h84⟩ := h; ⟨hx0, r84, q84, ⟨r84n, hr84, h84.1, ⟨Nat.le_of_ble_eq_true rfl, rfl, hs2, 0, 0, Nat.zero_le _, Nat.zero_le _, h84.2⟩⟩⟩)
theorem vkX2_stepStrong_93 {mc ms : Nat} {X : Nat → zV} {Q : zQt} {M : zM} {g : Nat} {x0 : Nat} {x1 : Int32} {x2 : Int32} {x3 : Int32} {x4 : Int32} {x5 : Int32} {x6 : Int64} {x8 : Int32} {s0 : Int64} {s1 : Int32} (hW : zWd M g) (hx0 : zsh M x0 = some (0, 2)) (h : ((lg_cmp s0 ((0 : Int64))) = 0 → X 103 0 0 [.ref x0, .int x1, .int x3, .int x4, .int x5, .long x6, .int x8] [.int 0, .int s1] M) ∧ (¬ (lg_cmp s0 ((0 : Int64))) = 0 → X 103 0 0 [.ref x0, .int x1, .int x3, .int x4, .int x5, .long x6, .int x8] [.int 1, .int s1] M)) : kX2_stepStrong_93 mc ms X Q 0 0 [some (.ref x0), some (.int x1), some (.int x2), some (.int x3), some (.int x4), some (.int x5), some (.long x6), none, some (.int x8), none, none, none, none] [.long s0, .int s1] M := ⟨fun c95 => (h.1 c95), fun c95 => (h.2 c95)⟩
theorem vkX2_stepStrong_165 {mc ms : Nat} {X : Nat → zV} {Q : zQt} {M : zM} {g : Nat} {x0 : Nat} {x1 : Int32} {x2 : Int32} {x3 : Int32} {x4 : Int32} {x5 : Int32} {x8 : Int64} {s0 : Int64} (hW : zWd M g) (hx0 : zsh M x0 = some (0, 2)) (h : wJ13_bitCount_95d88 0 0 [.long s0] M (fun r M1 => kX2_stepStrong_172 mc ms X Q 0 0 [some (.ref x0), some (.int x1), some (.int x2), some (.int x3), some (.int x4), some (.int x5), none, none, some (.long x8), none, some (.long s0), none, none] (r.toList ++ []) M1)) : kX2_stepStrong_165 mc ms X Q 0 0 [some (.ref x0), some (.int x1), some (.int x2), some (.int x3), some (.int x4), some (.int x5), none, none, some (.long x8), none, none, none, none] [.long s0] M := ⟨Nat.le_of_ble_eq_true rfl, rfl, 0, 0, Nat.zero_le _, Nat.zero_le _, h⟩
theorem vkX2_stepStrong_172 {mc ms : Nat} {X : Nat → zV} {Q : zQt} {M : zM} {g : Nat} {x0 : Nat} {x1 : Int32} {x2 : Int32} {x3 : Int32} {x4 : Int32} {x5 : Int32} {x8 : Int64} {x10 : Int64} {s0 : Int32} (hW : zWd M g) (hx0 : zsh M x0 = some (0, 2)) (h : X 174 0 0 [.ref x0, .int x1, .int x2, .int x3, .int x5, .long x8, .long x10, .int s0] [] M) : kX2_stepStrong_172 mc ms X Q 0 0 [some (.ref x0), some (.int x1), some (.int x2), some (.int x3), some (.int x4), some (.int x5), none, none, some (.long x8), none, some (.long x10), none, none] [.int s0] M := h
theorem vkX2_stepStrong_186 {mc ms : Nat} {X : Nat → zV} {Q : zQt} {M : zM} {g : Nat} {x0 : Nat} {x1 : Int32} {x2 : Int32} {x3 : Int32} {x5 : Int32} {x8 : Int64} {x10 : Int64} {x12 : Int32} {s0 : Int32} {s1 : Nat} {s2 : Int32} (hW : zWd M g) (hx0 : zsh M x0 = some (0, 2)) (hs1 : zsh M s1 = some (0, 2)) (h : wX2_gain 0 0 [.ref s1, .int ((s0 * (64 : Int32)) + x5), .long x8, .int x1] M (fun r M1 => kX2_stepStrong_198 mc ms X Q 0 0 [some (.ref x0), some (.int x1), some (.int x2), some (.int x3), none, some (.int x5), none, none, some (.long x8), none, some (.long x10), none, some (.int x12)] (r.toList ++ [.int s2]) M1)) : kX2_stepStrong_186 mc ms X Q 0 0 [some (.ref x0), some (.int x1), some (.int x2), some (.int x3), none, some (.int x5), none, none, some (.long x8), none, some (.long x10), none, some (.int x12)] [.int s0, .ref s1, .int s2] M := ⟨Nat.le_of_ble_eq_true rfl, rfl, hs1, 0, 0, Nat.zero_le _, Nat.zero_le _, h⟩
theorem vkX2_stepStrong_198 {mc ms : Nat} {X : Nat → zV} {Q : zQt} {M : zM} {g : Nat} {x0 : Nat} {x1 : Int32} {x2 : Int32} {x3 : Int32} {x5 : Int32} {x8 : Int64} {x10 : Int64} {x12 : Int32} {s0 : Int64} {s1 : Int32} (hW : zWd M g) (hx0 : zsh M x0 = some (0, 2)) (h : ((lg_cmp s0 ((0 : Int64))) = 0 → X 208 0 0 [.ref x0, .int x1, .int x3, .int x5, .long x8, .long x10, .int x12] [.int 0, .int s1] M) ∧ (¬ (lg_cmp s0 ((0 : Int64))) = 0 → X 208 0 0 [.ref x0, .int x1, .int x3, .int x5, .long x8, .long x10, .int x12] [.int 1, .int s1] M)) : kX2_stepStrong_198 mc ms X Q 0 0 [some (.ref x0), some (.int x1), some (.int x2), some (.int x3), none, some (.int x5), none, none, some (.long x8), none, some (.long x10), none, some (.int x12)] [.long s0, .int s1] M := ⟨fun c200 => (h.1 c200), fun c200 => (h.2 c200)⟩
