theorem dX13_cornerRight_0 : decode cX13_cornerRight 0 = .ok (.iload_n 0, 1) := by decide +kernel
theorem dX13_cornerRight_1 : decode cX13_cornerRight 1 = .ok (.bipush 7, 2) := by decide +kernel
theorem dX13_cornerRight_3 : decode cX13_cornerRight 3 = .ok (.if_icmp .ne 7, 3) := by decide +kernel
theorem dX13_cornerRight_6 : decode cX13_cornerRight 6 = .ok (.iconst 1, 1) := by decide +kernel
theorem dX13_cornerRight_7 : decode cX13_cornerRight 7 = .ok (.goto 33, 3) := by decide +kernel
theorem dX13_cornerRight_10 : decode cX13_cornerRight 10 = .ok (.iload_n 0, 1) := by decide +kernel
theorem dX13_cornerRight_11 : decode cX13_cornerRight 11 = .ok (.ifCond .ne 7, 3) := by decide +kernel
theorem dX13_cornerRight_14 : decode cX13_cornerRight 14 = .ok (.iconst 2, 1) := by decide +kernel
theorem dX13_cornerRight_15 : decode cX13_cornerRight 15 = .ok (.goto 25, 3) := by decide +kernel
theorem dX13_cornerRight_18 : decode cX13_cornerRight 18 = .ok (.iload_n 0, 1) := by decide +kernel
theorem dX13_cornerRight_19 : decode cX13_cornerRight 19 = .ok (.bipush 63, 2) := by decide +kernel
theorem dX13_cornerRight_21 : decode cX13_cornerRight 21 = .ok (.if_icmp .ne 7, 3) := by decide +kernel
theorem dX13_cornerRight_24 : decode cX13_cornerRight 24 = .ok (.iconst 4, 1) := by decide +kernel
theorem dX13_cornerRight_25 : decode cX13_cornerRight 25 = .ok (.goto 15, 3) := by decide +kernel
theorem dX13_cornerRight_28 : decode cX13_cornerRight 28 = .ok (.iload_n 0, 1) := by decide +kernel
theorem dX13_cornerRight_29 : decode cX13_cornerRight 29 = .ok (.bipush 56, 2) := by decide +kernel
theorem dX13_cornerRight_31 : decode cX13_cornerRight 31 = .ok (.if_icmp .ne 8, 3) := by decide +kernel
theorem dX13_cornerRight_34 : decode cX13_cornerRight 34 = .ok (.bipush 8, 2) := by decide +kernel
theorem dX13_cornerRight_36 : decode cX13_cornerRight 36 = .ok (.goto 4, 3) := by decide +kernel
theorem dX13_cornerRight_39 : decode cX13_cornerRight 39 = .ok (.iconst 0, 1) := by decide +kernel
theorem dX13_cornerRight_40 : decode cX13_cornerRight 40 = .ok (.ireturn, 1) := by decide +kernel
def aX13_cornerRight_0 (mc ms : Nat) (X : Nat → zV) (Q : zQt) : zT :=
  zli 0 <| zc (.int 7) <| zic (fun x y => x = y) (zc (.int 1) <| zj X 40 []) <| zli 0 <| zif (fun x => x = 0) (zc (.int 2) <| zj X 40 []) <| zli 0 <| zc (.int 63) <| zic (fun x y => x = y) (zc (.int 4) <| zj X 40 []) <| zli 0 <| zc (.int 56) <| zic (fun x y => x = y) (zc (.int 8) <| zj X 40 []) <| zc (.int 0) <| zj X 40 []
def aX13_cornerRight_40 (mc ms : Nat) (X : Nat → zV) (Q : zQt) : zT :=
  zri Q
def lvX13_cornerRight : Nat → List Nat := fun L => match L with
  | 0 => [0]
  | 40 => []
  | _ => []
def wX13_cornerRight : zSp := fun mc ms av M Q => ((zlay av).length ≤ 1 ∧ zpick (zlay av) [0] = some av) ∧ ∀ X : Nat → zV, zin 1 [0] (aX13_cornerRight_0 mc ms X Q) X 0 → zin 1 [] (aX13_cornerRight_40 mc ms X Q) X 40 → X 0 0 0 av [] M
set_option maxRecDepth 100000 in
set_option maxHeartbeats 4000000 in
theorem sX13_cornerRight (l : Launch) (G : zG) : zSnd l G yX13_cornerRight cX13_cornerRight 1 (some .int) 0 0 wX13_cornerRight := by
  refine zmk [0] (by decide) (fun mc ms av M Q h => h.1) ?_
  intro p e R s m args below meth c mc ms av M Q hC hRf hRl hr hnm h lv hlv
  obtain ⟨X, hXe⟩ : ∃ X : Nat → zV, X = fun L u v vs st M => ∀ lv, zpick lv (lvX13_cornerRight L) = some vs → zAt p l e R s m args below meth c (MQ below (zQ G Q) args s mc ms (zA G)) G 1 L u v lv st M := ⟨_, rfl⟩
  have hJ : ∀ L, zOk p l e R s m args below meth c (MQ below (zQ G Q) args s mc ms (zA G)) G 1 L (zj X L (lvX13_cornerRight L)) := fun L => S_jump (fun u v lv vs st M hp hx => by rw [hXe] at hx; exact hx lv hp)
  have hB0 : zin 1 [0] (aX13_cornerRight_0 mc ms X Q) X 0 := by
    intro u v vs st M hb
    rw [hXe]
    refine fun lv hp => S_block (L := 0) (live := [0]) ?_ u v lv vs st M hp hb
    unfold aX13_cornerRight_0
    refine S_iload_n (pc := 0) hC dX13_cornerRight_0 rfl ?_
    refine S_bipush (pc := 1) hC dX13_cornerRight_1 (by decide) ?_
    refine S_icmp_ne (pc := 3) (tgt := 10) hC dX13_cornerRight_3 (by decide) ?_ ?_
    · refine S_iload_n (pc := 10) hC dX13_cornerRight_10 rfl ?_
      refine S_if_ne (pc := 11) (tgt := 18) hC dX13_cornerRight_11 (by decide) ?_ ?_
      · refine S_iload_n (pc := 18) hC dX13_cornerRight_18 rfl ?_
        refine S_bipush (pc := 19) hC dX13_cornerRight_19 (by decide) ?_
        refine S_icmp_ne (pc := 21) (tgt := 28) hC dX13_cornerRight_21 (by decide) ?_ ?_
        · refine S_iload_n (pc := 28) hC dX13_cornerRight_28 rfl ?_
          refine S_bipush (pc := 29) hC dX13_cornerRight_29 (by decide) ?_
          refine S_icmp_ne (pc := 31) (tgt := 39) hC dX13_cornerRight_31 (by decide) ?_ ?_
          · refine S_iconst (pc := 39) hC dX13_cornerRight_39 (by decide) ?_
            exact hJ 40
          · refine S_bipush (pc := 34) hC dX13_cornerRight_34 (by decide) ?_
            refine S_goto (pc := 36) (tgt := 40) hC dX13_cornerRight_36 (by decide) ?_
            exact hJ 40
        · refine S_iconst (pc := 24) hC dX13_cornerRight_24 (by decide) ?_
          refine S_goto (pc := 25) (tgt := 40) hC dX13_cornerRight_25 (by decide) ?_
          exact hJ 40
      · refine S_iconst (pc := 14) hC dX13_cornerRight_14 (by decide) ?_
        refine S_goto (pc := 15) (tgt := 40) hC dX13_cornerRight_15 (by decide) ?_
        exact hJ 40
    · refine S_iconst (pc := 6) hC dX13_cornerRight_6 (by decide) ?_
      refine S_goto (pc := 7) (tgt := 40) hC dX13_cornerRight_7 (by decide) ?_
      exact hJ 40
  have hB40 : zin 1 [] (aX13_cornerRight_40 mc ms X Q) X 40 := by
    intro u v vs st M hb
    rw [hXe]
    refine fun lv hp => S_block (L := 40) (live := []) ?_ u v lv vs st M hp hb
    unfold aX13_cornerRight_40
    exact S_ireturn (pc := 40) hC hr dX13_cornerRight_40
  have := h.2 X hB0 hB40
  rw [hXe] at this
  exact this lv hlv
theorem vX13_cornerRight_0 {mc ms : Nat} {X : Nat → zV} {Q : zQt} {M : zM} {x0 : Int32} (hW : zFix M)  (h : (x0 = (7 : Int32) → X 40 0 0 [] [.int 1] M) ∧ (¬ x0 = (7 : Int32) → (x0 = 0 → X 40 0 0 [] [.int 2] M) ∧ (¬ x0 = 0 → (x0 = (63 : Int32) → X 40 0 0 [] [.int 4] M) ∧ (¬ x0 = (63 : Int32) → (x0 = (56 : Int32) → X 40 0 0 [] [.int 8] M) ∧ (¬ x0 = (56 : Int32) → X 40 0 0 [] [.int 0] M))))) : aX13_cornerRight_0 mc ms X Q 0 0 [some (.int x0)] [] M := ⟨fun c3 => (h.1 c3), fun c3 => ⟨fun c11 => ((h.2 c3).1 c11), fun c11 => ⟨fun c21 => (((h.2 c3).2 c11).1 c21), fun c21 => ⟨fun c31 => ((((h.2 c3).2 c11).2 c21).1 c31), fun c31 => ((((h.2 c3).2 c11).2 c21).2 c31)⟩⟩⟩⟩
theorem vX13_cornerRight_40 {mc ms : Nat} {X : Nat → zV} {Q : zQt} {M : zM} {s0 : Int32} (hW : zFix M)  (h : Q (some (.int s0)) M) : aX13_cornerRight_40 mc ms X Q 0 0 [none] [.int s0] M := h
theorem dX13_make_0 : decode cX13_make 0 = .ok (.iload_n 2, 1) := by decide +kernel
theorem dX13_make_1 : decode cX13_make 1 = .ok (.invokestatic 100, 3) := by decide +kernel
theorem dX13_make_4 : decode cX13_make 4 = .ok (.istore_n 3, 1) := by decide +kernel
theorem dX13_make_5 : decode cX13_make 5 = .ok (.iload_n 2, 1) := by decide +kernel
theorem dX13_make_6 : decode cX13_make 6 = .ok (.invokestatic 103, 3) := by decide +kernel
theorem dX13_make_9 : decode cX13_make 9 = .ok (.istore 4, 2) := by decide +kernel
theorem dX13_make_11 : decode cX13_make 11 = .ok (.iload_n 1, 1) := by decide +kernel
theorem dX13_make_12 : decode cX13_make 12 = .ok (.bipush 69, 2) := by decide +kernel
theorem dX13_make_14 : decode cX13_make 14 = .ok (.iadd, 1) := by decide +kernel
theorem dX13_make_15 : decode cX13_make 15 = .ok (.istore 5, 2) := by decide +kernel
theorem dX13_make_17 : decode cX13_make 17 = .ok (.aload_n 0, 1) := by decide +kernel
theorem dX13_make_18 : decode cX13_make 18 = .ok (.getfield 43, 3) := by decide +kernel
theorem dX13_make_21 : decode cX13_make 21 = .ok (.iload_n 1, 1) := by decide +kernel
theorem dX13_make_22 : decode cX13_make 22 = .ok (.bipush 64, 2) := by decide +kernel
theorem dX13_make_24 : decode cX13_make 24 = .ok (.iadd, 1) := by decide +kernel
theorem dX13_make_25 : decode cX13_make 25 = .ok (.iaload, 1) := by decide +kernel
theorem dX13_make_26 : decode cX13_make 26 = .ok (.istore 6, 2) := by decide +kernel
theorem dX13_make_28 : decode cX13_make 28 = .ok (.aload_n 0, 1) := by decide +kernel
theorem dX13_make_29 : decode cX13_make 29 = .ok (.getfield 43, 3) := by decide +kernel
theorem dX13_make_32 : decode cX13_make 32 = .ok (.iload_n 1, 1) := by decide +kernel
theorem dX13_make_33 : decode cX13_make 33 = .ok (.iload_n 3, 1) := by decide +kernel
theorem dX13_make_34 : decode cX13_make 34 = .ok (.iadd, 1) := by decide +kernel
theorem dX13_make_35 : decode cX13_make 35 = .ok (.iaload, 1) := by decide +kernel
theorem dX13_make_36 : decode cX13_make 36 = .ok (.istore 7, 2) := by decide +kernel
theorem dX13_make_38 : decode cX13_make 38 = .ok (.iload 7, 2) := by decide +kernel
theorem dX13_make_40 : decode cX13_make 40 = .ok (.invokestatic 71, 3) := by decide +kernel
theorem dX13_make_43 : decode cX13_make 43 = .ok (.iconst 1, 1) := by decide +kernel
theorem dX13_make_44 : decode cX13_make 44 = .ok (.if_icmp .ne 7, 3) := by decide +kernel
theorem dX13_make_47 : decode cX13_make 47 = .ok (.iconst 1, 1) := by decide +kernel
theorem dX13_make_48 : decode cX13_make 48 = .ok (.goto 4, 3) := by decide +kernel
theorem dX13_make_51 : decode cX13_make 51 = .ok (.iconst 0, 1) := by decide +kernel
theorem dX13_make_52 : decode cX13_make 52 = .ok (.istore 8, 2) := by decide +kernel
theorem dX13_make_54 : decode cX13_make 54 = .ok (.iload 8, 2) := by decide +kernel
theorem dX13_make_56 : decode cX13_make 56 = .ok (.ifCond .eq 18, 3) := by decide +kernel
theorem dX13_make_59 : decode cX13_make 59 = .ok (.aload_n 0, 1) := by decide +kernel
theorem dX13_make_60 : decode cX13_make 60 = .ok (.iload_n 1, 1) := by decide +kernel
theorem dX13_make_61 : decode cX13_make 61 = .ok (.iload_n 3, 1) := by decide +kernel
theorem dX13_make_62 : decode cX13_make 62 = .ok (.iload 4, 2) := by decide +kernel
theorem dX13_make_64 : decode cX13_make 64 = .ok (.invokevirtual 91, 3) := by decide +kernel
theorem dX13_make_67 : decode cX13_make 67 = .ok (.ifCond .eq 7, 3) := by decide +kernel
theorem dX13_make_70 : decode cX13_make 70 = .ok (.iconst 1, 1) := by decide +kernel
theorem dX13_make_71 : decode cX13_make 71 = .ok (.goto 4, 3) := by decide +kernel
theorem dX13_make_74 : decode cX13_make 74 = .ok (.iconst 0, 1) := by decide +kernel
theorem dX13_make_75 : decode cX13_make 75 = .ok (.istore 9, 2) := by decide +kernel
theorem dX13_make_77 : decode cX13_make 77 = .ok (.iload 7, 2) := by decide +kernel
theorem dX13_make_79 : decode cX13_make 79 = .ok (.invokestatic 71, 3) := by decide +kernel
theorem dX13_make_82 : decode cX13_make 82 = .ok (.bipush 6, 2) := by decide +kernel
theorem dX13_make_84 : decode cX13_make 84 = .ok (.if_icmp .ne 18, 3) := by decide +kernel
theorem dX13_make_87 : decode cX13_make 87 = .ok (.iload_n 3, 1) := by decide +kernel
theorem dX13_make_88 : decode cX13_make 88 = .ok (.iload 4, 2) := by decide +kernel
theorem dX13_make_90 : decode cX13_make 90 = .ok (.isub, 1) := by decide +kernel
theorem dX13_make_91 : decode cX13_make 91 = .ok (.invokestatic 75, 3) := by decide +kernel
theorem dX13_make_94 : decode cX13_make 94 = .ok (.iconst 2, 1) := by decide +kernel
theorem dX13_make_95 : decode cX13_make 95 = .ok (.if_icmp .ne 7, 3) := by decide +kernel
theorem dX13_make_98 : decode cX13_make 98 = .ok (.iconst 1, 1) := by decide +kernel
theorem dX13_make_99 : decode cX13_make 99 = .ok (.goto 4, 3) := by decide +kernel
theorem dX13_make_102 : decode cX13_make 102 = .ok (.iconst 0, 1) := by decide +kernel
theorem dX13_make_103 : decode cX13_make 103 = .ok (.istore 10, 2) := by decide +kernel
theorem dX13_make_105 : decode cX13_make 105 = .ok (.iload 9, 2) := by decide +kernel
theorem dX13_make_107 : decode cX13_make 107 = .ok (.ifCond .ne 15, 3) := by decide +kernel
theorem dX13_make_110 : decode cX13_make 110 = .ok (.aload_n 0, 1) := by decide +kernel
theorem dX13_make_111 : decode cX13_make 111 = .ok (.getfield 43, 3) := by decide +kernel
theorem dX13_make_114 : decode cX13_make 114 = .ok (.iload_n 1, 1) := by decide +kernel
theorem dX13_make_115 : decode cX13_make 115 = .ok (.iload 4, 2) := by decide +kernel
theorem dX13_make_117 : decode cX13_make 117 = .ok (.iadd, 1) := by decide +kernel
theorem dX13_make_118 : decode cX13_make 118 = .ok (.iaload, 1) := by decide +kernel
theorem dX13_make_119 : decode cX13_make 119 = .ok (.ifCond .le 7, 3) := by decide +kernel
theorem dX13_make_122 : decode cX13_make 122 = .ok (.iconst 1, 1) := by decide +kernel
theorem dX13_make_123 : decode cX13_make 123 = .ok (.goto 4, 3) := by decide +kernel
theorem dX13_make_126 : decode cX13_make 126 = .ok (.iconst 0, 1) := by decide +kernel
theorem dX13_make_127 : decode cX13_make 127 = .ok (.istore 11, 2) := by decide +kernel
theorem dX13_make_129 : decode cX13_make 129 = .ok (.iconst 0, 1) := by decide +kernel
theorem dX13_make_130 : decode cX13_make 130 = .ok (.istore 12, 2) := by decide +kernel
theorem dX13_make_132 : decode cX13_make 132 = .ok (.iload 12, 2) := by decide +kernel
theorem dX13_make_134 : decode cX13_make 134 = .ok (.bipush 69, 2) := by decide +kernel
theorem dX13_make_136 : decode cX13_make 136 = .ok (.if_icmp .ge 28, 3) := by decide +kernel
theorem dX13_make_139 : decode cX13_make 139 = .ok (.aload_n 0, 1) := by decide +kernel
theorem dX13_make_140 : decode cX13_make 140 = .ok (.getfield 43, 3) := by decide +kernel
theorem dX13_make_143 : decode cX13_make 143 = .ok (.iload 5, 2) := by decide +kernel
theorem dX13_make_145 : decode cX13_make 145 = .ok (.iload 12, 2) := by decide +kernel
theorem dX13_make_147 : decode cX13_make 147 = .ok (.iadd, 1) := by decide +kernel
theorem dX13_make_148 : decode cX13_make 148 = .ok (.aload_n 0, 1) := by decide +kernel
theorem dX13_make_149 : decode cX13_make 149 = .ok (.getfield 43, 3) := by decide +kernel
theorem dX13_make_152 : decode cX13_make 152 = .ok (.iload_n 1, 1) := by decide +kernel
theorem dX13_make_153 : decode cX13_make 153 = .ok (.iload 12, 2) := by decide +kernel
theorem dX13_make_155 : decode cX13_make 155 = .ok (.iadd, 1) := by decide +kernel
theorem dX13_make_156 : decode cX13_make 156 = .ok (.iaload, 1) := by decide +kernel
theorem dX13_make_157 : decode cX13_make 157 = .ok (.iastore, 1) := by decide +kernel
theorem dX13_make_158 : decode cX13_make 158 = .ok (.iinc 12 1, 3) := by decide +kernel
theorem dX13_make_161 : decode cX13_make 161 = .ok (.goto (-29), 3) := by decide +kernel
theorem dX13_make_164 : decode cX13_make 164 = .ok (.aload_n 0, 1) := by decide +kernel
theorem dX13_make_165 : decode cX13_make 165 = .ok (.getfield 43, 3) := by decide +kernel
theorem dX13_make_168 : decode cX13_make 168 = .ok (.iload 5, 2) := by decide +kernel
theorem dX13_make_170 : decode cX13_make 170 = .ok (.iload_n 3, 1) := by decide +kernel
theorem dX13_make_171 : decode cX13_make 171 = .ok (.iadd, 1) := by decide +kernel
theorem dX13_make_172 : decode cX13_make 172 = .ok (.iconst 0, 1) := by decide +kernel
theorem dX13_make_173 : decode cX13_make 173 = .ok (.iastore, 1) := by decide +kernel
theorem dX13_make_174 : decode cX13_make 174 = .ok (.aload_n 0, 1) := by decide +kernel
theorem dX13_make_175 : decode cX13_make 175 = .ok (.getfield 43, 3) := by decide +kernel
theorem dX13_make_178 : decode cX13_make 178 = .ok (.iload 5, 2) := by decide +kernel
theorem dX13_make_180 : decode cX13_make 180 = .ok (.iload 4, 2) := by decide +kernel
theorem dX13_make_182 : decode cX13_make 182 = .ok (.iadd, 1) := by decide +kernel
theorem dX13_make_183 : decode cX13_make 183 = .ok (.iload_n 2, 1) := by decide +kernel
theorem dX13_make_184 : decode cX13_make 184 = .ok (.sipush 4096, 3) := by decide +kernel
theorem dX13_make_187 : decode cX13_make 187 = .ok (.idiv, 1) := by decide +kernel
theorem dX13_make_188 : decode cX13_make 188 = .ok (.ifCond .le 17, 3) := by decide +kernel
theorem dX13_make_191 : decode cX13_make 191 = .ok (.iload_n 2, 1) := by decide +kernel
theorem dX13_make_192 : decode cX13_make 192 = .ok (.sipush 4096, 3) := by decide +kernel
theorem dX13_make_195 : decode cX13_make 195 = .ok (.idiv, 1) := by decide +kernel
theorem dX13_make_196 : decode cX13_make 196 = .ok (.bipush 6, 2) := by decide +kernel
theorem dX13_make_198 : decode cX13_make 198 = .ok (.iload 6, 2) := by decide +kernel
theorem dX13_make_200 : decode cX13_make 200 = .ok (.imul, 1) := by decide +kernel
theorem dX13_make_201 : decode cX13_make 201 = .ok (.iadd, 1) := by decide +kernel
theorem dX13_make_202 : decode cX13_make 202 = .ok (.goto 5, 3) := by decide +kernel
theorem dX13_make_205 : decode cX13_make 205 = .ok (.iload 7, 2) := by decide +kernel
theorem dX13_make_207 : decode cX13_make 207 = .ok (.iastore, 1) := by decide +kernel
theorem dX13_make_208 : decode cX13_make 208 = .ok (.iload 9, 2) := by decide +kernel
theorem dX13_make_210 : decode cX13_make 210 = .ok (.ifCond .eq 30, 3) := by decide +kernel
theorem dX13_make_213 : decode cX13_make 213 = .ok (.aload_n 0, 1) := by decide +kernel
theorem dX13_make_214 : decode cX13_make 214 = .ok (.getfield 43, 3) := by decide +kernel
theorem dX13_make_217 : decode cX13_make 217 = .ok (.iload 5, 2) := by decide +kernel
theorem dX13_make_219 : decode cX13_make 219 = .ok (.iload 6, 2) := by decide +kernel
theorem dX13_make_221 : decode cX13_make 221 = .ok (.ifCond .ne 11, 3) := by decide +kernel
theorem dX13_make_224 : decode cX13_make 224 = .ok (.iload 4, 2) := by decide +kernel
theorem dX13_make_226 : decode cX13_make 226 = .ok (.bipush 8, 2) := by decide +kernel
theorem dX13_make_228 : decode cX13_make 228 = .ok (.isub, 1) := by decide +kernel
theorem dX13_make_229 : decode cX13_make 229 = .ok (.goto 8, 3) := by decide +kernel
theorem dX13_make_232 : decode cX13_make 232 = .ok (.iload 4, 2) := by decide +kernel
theorem dX13_make_234 : decode cX13_make 234 = .ok (.bipush 8, 2) := by decide +kernel
theorem dX13_make_236 : decode cX13_make 236 = .ok (.iadd, 1) := by decide +kernel
theorem dX13_make_237 : decode cX13_make 237 = .ok (.iadd, 1) := by decide +kernel
theorem dX13_make_238 : decode cX13_make 238 = .ok (.iconst 0, 1) := by decide +kernel
theorem dX13_make_239 : decode cX13_make 239 = .ok (.iastore, 1) := by decide +kernel
theorem dX13_make_240 : decode cX13_make 240 = .ok (.iload 10, 2) := by decide +kernel
theorem dX13_make_242 : decode cX13_make 242 = .ok (.ifCond .eq 48, 3) := by decide +kernel
theorem dX13_make_245 : decode cX13_make 245 = .ok (.aload_n 0, 1) := by decide +kernel
theorem dX13_make_246 : decode cX13_make 246 = .ok (.getfield 43, 3) := by decide +kernel
theorem dX13_make_249 : decode cX13_make 249 = .ok (.iload 5, 2) := by decide +kernel
theorem dX13_make_251 : decode cX13_make 251 = .ok (.iload 4, 2) := by decide +kernel
theorem dX13_make_253 : decode cX13_make 253 = .ok (.iload_n 3, 1) := by decide +kernel
theorem dX13_make_254 : decode cX13_make 254 = .ok (.if_icmp .le 9, 3) := by decide +kernel
theorem dX13_make_257 : decode cX13_make 257 = .ok (.iload_n 3, 1) := by decide +kernel
theorem dX13_make_258 : decode cX13_make 258 = .ok (.iconst 3, 1) := by decide +kernel
theorem dX13_make_259 : decode cX13_make 259 = .ok (.iadd, 1) := by decide +kernel
theorem dX13_make_260 : decode cX13_make 260 = .ok (.goto 6, 3) := by decide +kernel
theorem dX13_make_263 : decode cX13_make 263 = .ok (.iload_n 3, 1) := by decide +kernel
theorem dX13_make_264 : decode cX13_make 264 = .ok (.iconst 4, 1) := by decide +kernel
theorem dX13_make_265 : decode cX13_make 265 = .ok (.isub, 1) := by decide +kernel
theorem dX13_make_266 : decode cX13_make 266 = .ok (.iadd, 1) := by decide +kernel
theorem dX13_make_267 : decode cX13_make 267 = .ok (.iconst 0, 1) := by decide +kernel
theorem dX13_make_268 : decode cX13_make 268 = .ok (.iastore, 1) := by decide +kernel
theorem dX13_make_269 : decode cX13_make 269 = .ok (.aload_n 0, 1) := by decide +kernel
theorem dX13_make_270 : decode cX13_make 270 = .ok (.getfield 43, 3) := by decide +kernel
theorem dX13_make_273 : decode cX13_make 273 = .ok (.iload 5, 2) := by decide +kernel
theorem dX13_make_275 : decode cX13_make 275 = .ok (.iload_n 3, 1) := by decide +kernel
theorem dX13_make_276 : decode cX13_make 276 = .ok (.iload 4, 2) := by decide +kernel
theorem dX13_make_278 : decode cX13_make 278 = .ok (.iadd, 1) := by decide +kernel
theorem dX13_make_279 : decode cX13_make 279 = .ok (.iconst 2, 1) := by decide +kernel
theorem dX13_make_280 : decode cX13_make 280 = .ok (.idiv, 1) := by decide +kernel
theorem dX13_make_281 : decode cX13_make 281 = .ok (.iadd, 1) := by decide +kernel
theorem dX13_make_282 : decode cX13_make 282 = .ok (.iconst 4, 1) := by decide +kernel
theorem dX13_make_283 : decode cX13_make 283 = .ok (.bipush 6, 2) := by decide +kernel
theorem dX13_make_285 : decode cX13_make 285 = .ok (.iload 6, 2) := by decide +kernel
theorem dX13_make_287 : decode cX13_make 287 = .ok (.imul, 1) := by decide +kernel
theorem dX13_make_288 : decode cX13_make 288 = .ok (.iadd, 1) := by decide +kernel
theorem dX13_make_289 : decode cX13_make 289 = .ok (.iastore, 1) := by decide +kernel
theorem dX13_make_290 : decode cX13_make 290 = .ok (.iload 7, 2) := by decide +kernel
theorem dX13_make_292 : decode cX13_make 292 = .ok (.invokestatic 71, 3) := by decide +kernel
theorem dX13_make_295 : decode cX13_make 295 = .ok (.bipush 6, 2) := by decide +kernel
theorem dX13_make_297 : decode cX13_make 297 = .ok (.if_icmp .ne 24, 3) := by decide +kernel
theorem dX13_make_300 : decode cX13_make 300 = .ok (.aload_n 0, 1) := by decide +kernel
theorem dX13_make_301 : decode cX13_make 301 = .ok (.getfield 43, 3) := by decide +kernel
theorem dX13_make_304 : decode cX13_make 304 = .ok (.iload_n 1, 1) := by decide +kernel
theorem dX13_make_305 : decode cX13_make 305 = .ok (.bipush 65, 2) := by decide +kernel
theorem dX13_make_307 : decode cX13_make 307 = .ok (.iadd, 1) := by decide +kernel
theorem dX13_make_308 : decode cX13_make 308 = .ok (.iaload, 1) := by decide +kernel
theorem dX13_make_309 : decode cX13_make 309 = .ok (.iconst 3, 1) := by decide +kernel
theorem dX13_make_310 : decode cX13_make 310 = .ok (.iconst 2, 1) := by decide +kernel
theorem dX13_make_311 : decode cX13_make 311 = .ok (.iload 6, 2) := by decide +kernel
theorem dX13_make_313 : decode cX13_make 313 = .ok (.imul, 1) := by decide +kernel
theorem dX13_make_314 : decode cX13_make 314 = .ok (.ishl, 1) := by decide +kernel
theorem dX13_make_315 : decode cX13_make 315 = .ok (.iconst (-1), 1) := by decide +kernel
theorem dX13_make_316 : decode cX13_make 316 = .ok (.ixor, 1) := by decide +kernel
theorem dX13_make_317 : decode cX13_make 317 = .ok (.iand, 1) := by decide +kernel
theorem dX13_make_318 : decode cX13_make 318 = .ok (.goto 12, 3) := by decide +kernel
theorem dX13_make_321 : decode cX13_make 321 = .ok (.aload_n 0, 1) := by decide +kernel
theorem dX13_make_322 : decode cX13_make 322 = .ok (.getfield 43, 3) := by decide +kernel
theorem dX13_make_325 : decode cX13_make 325 = .ok (.iload_n 1, 1) := by decide +kernel
theorem dX13_make_326 : decode cX13_make 326 = .ok (.bipush 65, 2) := by decide +kernel
theorem dX13_make_328 : decode cX13_make 328 = .ok (.iadd, 1) := by decide +kernel
theorem dX13_make_329 : decode cX13_make 329 = .ok (.iaload, 1) := by decide +kernel
theorem dX13_make_330 : decode cX13_make 330 = .ok (.istore 12, 2) := by decide +kernel
theorem dX13_make_332 : decode cX13_make 332 = .ok (.aload_n 0, 1) := by decide +kernel
theorem dX13_make_333 : decode cX13_make 333 = .ok (.getfield 43, 3) := by decide +kernel
theorem dX13_make_336 : decode cX13_make 336 = .ok (.iload 5, 2) := by decide +kernel
theorem dX13_make_338 : decode cX13_make 338 = .ok (.bipush 65, 2) := by decide +kernel
theorem dX13_make_340 : decode cX13_make 340 = .ok (.iadd, 1) := by decide +kernel
theorem dX13_make_341 : decode cX13_make 341 = .ok (.iload 12, 2) := by decide +kernel
theorem dX13_make_343 : decode cX13_make 343 = .ok (.iload_n 3, 1) := by decide +kernel
theorem dX13_make_344 : decode cX13_make 344 = .ok (.invokestatic 106, 3) := by decide +kernel
theorem dX13_make_347 : decode cX13_make 347 = .ok (.iconst (-1), 1) := by decide +kernel
theorem dX13_make_348 : decode cX13_make 348 = .ok (.ixor, 1) := by decide +kernel
theorem dX13_make_349 : decode cX13_make 349 = .ok (.iand, 1) := by decide +kernel
theorem dX13_make_350 : decode cX13_make 350 = .ok (.iload 4, 2) := by decide +kernel
theorem dX13_make_352 : decode cX13_make 352 = .ok (.invokestatic 106, 3) := by decide +kernel
theorem dX13_make_355 : decode cX13_make 355 = .ok (.iconst (-1), 1) := by decide +kernel
theorem dX13_make_356 : decode cX13_make 356 = .ok (.ixor, 1) := by decide +kernel
theorem dX13_make_357 : decode cX13_make 357 = .ok (.iand, 1) := by decide +kernel
theorem dX13_make_358 : decode cX13_make 358 = .ok (.iastore, 1) := by decide +kernel
theorem dX13_make_359 : decode cX13_make 359 = .ok (.iload 8, 2) := by decide +kernel
theorem dX13_make_361 : decode cX13_make 361 = .ok (.ifCond .eq 19, 3) := by decide +kernel
theorem dX13_make_364 : decode cX13_make 364 = .ok (.iload_n 3, 1) := by decide +kernel
theorem dX13_make_365 : decode cX13_make 365 = .ok (.iload 4, 2) := by decide +kernel
theorem dX13_make_367 : decode cX13_make 367 = .ok (.isub, 1) := by decide +kernel
theorem dX13_make_368 : decode cX13_make 368 = .ok (.invokestatic 75, 3) := by decide +kernel
theorem dX13_make_371 : decode cX13_make 371 = .ok (.bipush 16, 2) := by decide +kernel
theorem dX13_make_373 : decode cX13_make 373 = .ok (.if_icmp .ne 7, 3) := by decide +kernel
theorem dX13_make_376 : decode cX13_make 376 = .ok (.iconst 1, 1) := by decide +kernel
theorem dX13_make_377 : decode cX13_make 377 = .ok (.goto 4, 3) := by decide +kernel
theorem dX13_make_380 : decode cX13_make 380 = .ok (.iconst 0, 1) := by decide +kernel
theorem dX13_make_381 : decode cX13_make 381 = .ok (.istore 13, 2) := by decide +kernel
theorem dX13_make_383 : decode cX13_make 383 = .ok (.iload 13, 2) := by decide +kernel
theorem dX13_make_385 : decode cX13_make 385 = .ok (.ifCond .eq 47, 3) := by decide +kernel
theorem dX13_make_388 : decode cX13_make 388 = .ok (.iload 4, 2) := by decide +kernel
theorem dX13_make_390 : decode cX13_make 390 = .ok (.bipush 8, 2) := by decide +kernel
theorem dX13_make_392 : decode cX13_make 392 = .ok (.irem, 1) := by decide +kernel
theorem dX13_make_393 : decode cX13_make 393 = .ok (.ifCond .le 39, 3) := by decide +kernel
theorem dX13_make_396 : decode cX13_make 396 = .ok (.aload_n 0, 1) := by decide +kernel
theorem dX13_make_397 : decode cX13_make 397 = .ok (.getfield 43, 3) := by decide +kernel
theorem dX13_make_400 : decode cX13_make 400 = .ok (.iload 5, 2) := by decide +kernel
theorem dX13_make_402 : decode cX13_make 402 = .ok (.iload 4, 2) := by decide +kernel
theorem dX13_make_404 : decode cX13_make 404 = .ok (.ifCond .le 10, 3) := by decide +kernel
theorem dX13_make_407 : decode cX13_make 407 = .ok (.iload 4, 2) := by decide +kernel
theorem dX13_make_409 : decode cX13_make 409 = .ok (.iconst 1, 1) := by decide +kernel
theorem dX13_make_410 : decode cX13_make 410 = .ok (.isub, 1) := by decide +kernel
theorem dX13_make_411 : decode cX13_make 411 = .ok (.goto 4, 3) := by decide +kernel
theorem dX13_make_414 : decode cX13_make 414 = .ok (.iconst 0, 1) := by decide +kernel
theorem dX13_make_415 : decode cX13_make 415 = .ok (.iadd, 1) := by decide +kernel
theorem dX13_make_416 : decode cX13_make 416 = .ok (.iaload, 1) := by decide +kernel
theorem dX13_make_417 : decode cX13_make 417 = .ok (.bipush 7, 2) := by decide +kernel
theorem dX13_make_419 : decode cX13_make 419 = .ok (.bipush 6, 2) := by decide +kernel
theorem dX13_make_421 : decode cX13_make 421 = .ok (.iload 6, 2) := by decide +kernel
theorem dX13_make_423 : decode cX13_make 423 = .ok (.imul, 1) := by decide +kernel
theorem dX13_make_424 : decode cX13_make 424 = .ok (.isub, 1) := by decide +kernel
theorem dX13_make_425 : decode cX13_make 425 = .ok (.if_icmp .ne 7, 3) := by decide +kernel
theorem dX13_make_428 : decode cX13_make 428 = .ok (.iconst 1, 1) := by decide +kernel
theorem dX13_make_429 : decode cX13_make 429 = .ok (.goto 4, 3) := by decide +kernel
theorem dX13_make_432 : decode cX13_make 432 = .ok (.iconst 0, 1) := by decide +kernel
theorem dX13_make_433 : decode cX13_make 433 = .ok (.istore 14, 2) := by decide +kernel
theorem dX13_make_435 : decode cX13_make 435 = .ok (.iload 13, 2) := by decide +kernel
theorem dX13_make_437 : decode cX13_make 437 = .ok (.ifCond .eq 52, 3) := by decide +kernel
theorem dX13_make_440 : decode cX13_make 440 = .ok (.iload 4, 2) := by decide +kernel
theorem dX13_make_442 : decode cX13_make 442 = .ok (.bipush 8, 2) := by decide +kernel
theorem dX13_make_444 : decode cX13_make 444 = .ok (.irem, 1) := by decide +kernel
theorem dX13_make_445 : decode cX13_make 445 = .ok (.bipush 7, 2) := by decide +kernel
theorem dX13_make_447 : decode cX13_make 447 = .ok (.if_icmp .ge 42, 3) := by decide +kernel
theorem dX13_make_450 : decode cX13_make 450 = .ok (.aload_n 0, 1) := by decide +kernel
theorem dX13_make_451 : decode cX13_make 451 = .ok (.getfield 43, 3) := by decide +kernel
theorem dX13_make_454 : decode cX13_make 454 = .ok (.iload 5, 2) := by decide +kernel
theorem dX13_make_456 : decode cX13_make 456 = .ok (.iload 4, 2) := by decide +kernel
theorem dX13_make_458 : decode cX13_make 458 = .ok (.bipush 63, 2) := by decide +kernel
theorem dX13_make_460 : decode cX13_make 460 = .ok (.if_icmp .ge 10, 3) := by decide +kernel
theorem dX13_make_463 : decode cX13_make 463 = .ok (.iload 4, 2) := by decide +kernel
theorem dX13_make_465 : decode cX13_make 465 = .ok (.iconst 1, 1) := by decide +kernel
theorem dX13_make_466 : decode cX13_make 466 = .ok (.iadd, 1) := by decide +kernel
theorem dX13_make_467 : decode cX13_make 467 = .ok (.goto 5, 3) := by decide +kernel
theorem dX13_make_470 : decode cX13_make 470 = .ok (.bipush 63, 2) := by decide +kernel
theorem dX13_make_472 : decode cX13_make 472 = .ok (.iadd, 1) := by decide +kernel
theorem dX13_make_473 : decode cX13_make 473 = .ok (.iaload, 1) := by decide +kernel
theorem dX13_make_474 : decode cX13_make 474 = .ok (.bipush 7, 2) := by decide +kernel
theorem dX13_make_476 : decode cX13_make 476 = .ok (.bipush 6, 2) := by decide +kernel
theorem dX13_make_478 : decode cX13_make 478 = .ok (.iload 6, 2) := by decide +kernel
theorem dX13_make_480 : decode cX13_make 480 = .ok (.imul, 1) := by decide +kernel
theorem dX13_make_481 : decode cX13_make 481 = .ok (.isub, 1) := by decide +kernel
theorem dX13_make_482 : decode cX13_make 482 = .ok (.if_icmp .ne 7, 3) := by decide +kernel
theorem dX13_make_485 : decode cX13_make 485 = .ok (.iconst 1, 1) := by decide +kernel
theorem dX13_make_486 : decode cX13_make 486 = .ok (.goto 4, 3) := by decide +kernel
theorem dX13_make_489 : decode cX13_make 489 = .ok (.iconst 0, 1) := by decide +kernel
theorem dX13_make_490 : decode cX13_make 490 = .ok (.istore 15, 2) := by decide +kernel
theorem dX13_make_492 : decode cX13_make 492 = .ok (.aload_n 0, 1) := by decide +kernel
theorem dX13_make_493 : decode cX13_make 493 = .ok (.getfield 43, 3) := by decide +kernel
theorem dX13_make_496 : decode cX13_make 496 = .ok (.iload 5, 2) := by decide +kernel
theorem dX13_make_498 : decode cX13_make 498 = .ok (.bipush 66, 2) := by decide +kernel
theorem dX13_make_500 : decode cX13_make 500 = .ok (.iadd, 1) := by decide +kernel
theorem dX13_make_501 : decode cX13_make 501 = .ok (.iload 14, 2) := by decide +kernel
theorem dX13_make_503 : decode cX13_make 503 = .ok (.ifCond .ne 8, 3) := by decide +kernel
theorem dX13_make_506 : decode cX13_make 506 = .ok (.iload 15, 2) := by decide +kernel
theorem dX13_make_508 : decode cX13_make 508 = .ok (.ifCond .eq 11, 3) := by decide +kernel
theorem dX13_make_511 : decode cX13_make 511 = .ok (.iload 4, 2) := by decide +kernel
theorem dX13_make_513 : decode cX13_make 513 = .ok (.bipush 8, 2) := by decide +kernel
theorem dX13_make_515 : decode cX13_make 515 = .ok (.irem, 1) := by decide +kernel
theorem dX13_make_516 : decode cX13_make 516 = .ok (.goto 4, 3) := by decide +kernel
theorem dX13_make_519 : decode cX13_make 519 = .ok (.iconst (-1), 1) := by decide +kernel
theorem dX13_make_520 : decode cX13_make 520 = .ok (.iastore, 1) := by decide +kernel
theorem dX13_make_521 : decode cX13_make 521 = .ok (.aload_n 0, 1) := by decide +kernel
theorem dX13_make_522 : decode cX13_make 522 = .ok (.getfield 43, 3) := by decide +kernel
theorem dX13_make_525 : decode cX13_make 525 = .ok (.iload 5, 2) := by decide +kernel
theorem dX13_make_527 : decode cX13_make 527 = .ok (.bipush 67, 2) := by decide +kernel
theorem dX13_make_529 : decode cX13_make 529 = .ok (.iadd, 1) := by decide +kernel
theorem dX13_make_530 : decode cX13_make 530 = .ok (.iload 8, 2) := by decide +kernel
theorem dX13_make_532 : decode cX13_make 532 = .ok (.ifCond .ne 8, 3) := by decide +kernel
theorem dX13_make_535 : decode cX13_make 535 = .ok (.iload 11, 2) := by decide +kernel
theorem dX13_make_537 : decode cX13_make 537 = .ok (.ifCond .eq 7, 3) := by decide +kernel
theorem dX13_make_540 : decode cX13_make 540 = .ok (.iconst 0, 1) := by decide +kernel
theorem dX13_make_541 : decode cX13_make 541 = .ok (.goto 14, 3) := by decide +kernel
theorem dX13_make_544 : decode cX13_make 544 = .ok (.aload_n 0, 1) := by decide +kernel
theorem dX13_make_545 : decode cX13_make 545 = .ok (.getfield 43, 3) := by decide +kernel
theorem dX13_make_548 : decode cX13_make 548 = .ok (.iload_n 1, 1) := by decide +kernel
theorem dX13_make_549 : decode cX13_make 549 = .ok (.bipush 67, 2) := by decide +kernel
theorem dX13_make_551 : decode cX13_make 551 = .ok (.iadd, 1) := by decide +kernel
theorem dX13_make_552 : decode cX13_make 552 = .ok (.iaload, 1) := by decide +kernel
theorem dX13_make_553 : decode cX13_make 553 = .ok (.iconst 1, 1) := by decide +kernel
theorem dX13_make_554 : decode cX13_make 554 = .ok (.iadd, 1) := by decide +kernel
theorem dX13_make_555 : decode cX13_make 555 = .ok (.iastore, 1) := by decide +kernel
theorem dX13_make_556 : decode cX13_make 556 = .ok (.aload_n 0, 1) := by decide +kernel
theorem dX13_make_557 : decode cX13_make 557 = .ok (.getfield 43, 3) := by decide +kernel
theorem dX13_make_560 : decode cX13_make 560 = .ok (.iload 5, 2) := by decide +kernel
theorem dX13_make_562 : decode cX13_make 562 = .ok (.bipush 68, 2) := by decide +kernel
theorem dX13_make_564 : decode cX13_make 564 = .ok (.iadd, 1) := by decide +kernel
theorem dX13_make_565 : decode cX13_make 565 = .ok (.aload_n 0, 1) := by decide +kernel
theorem dX13_make_566 : decode cX13_make 566 = .ok (.getfield 43, 3) := by decide +kernel
theorem dX13_make_569 : decode cX13_make 569 = .ok (.iload_n 1, 1) := by decide +kernel
theorem dX13_make_570 : decode cX13_make 570 = .ok (.bipush 68, 2) := by decide +kernel
theorem dX13_make_572 : decode cX13_make 572 = .ok (.iadd, 1) := by decide +kernel
theorem dX13_make_573 : decode cX13_make 573 = .ok (.iaload, 1) := by decide +kernel
theorem dX13_make_574 : decode cX13_make 574 = .ok (.iload 6, 2) := by decide +kernel
theorem dX13_make_576 : decode cX13_make 576 = .ok (.iadd, 1) := by decide +kernel
theorem dX13_make_577 : decode cX13_make 577 = .ok (.iastore, 1) := by decide +kernel
theorem dX13_make_578 : decode cX13_make 578 = .ok (.aload_n 0, 1) := by decide +kernel
theorem dX13_make_579 : decode cX13_make 579 = .ok (.getfield 43, 3) := by decide +kernel
theorem dX13_make_582 : decode cX13_make 582 = .ok (.iload 5, 2) := by decide +kernel
theorem dX13_make_584 : decode cX13_make 584 = .ok (.bipush 64, 2) := by decide +kernel
theorem dX13_make_586 : decode cX13_make 586 = .ok (.iadd, 1) := by decide +kernel
theorem dX13_make_587 : decode cX13_make 587 = .ok (.iconst 1, 1) := by decide +kernel
theorem dX13_make_588 : decode cX13_make 588 = .ok (.iload 6, 2) := by decide +kernel
theorem dX13_make_590 : decode cX13_make 590 = .ok (.isub, 1) := by decide +kernel
theorem dX13_make_591 : decode cX13_make 591 = .ok (.iastore, 1) := by decide +kernel
theorem dX13_make_592 : decode cX13_make 592 = .ok (.return_, 1) := by decide +kernel
def kX13_make_43 (mc ms : Nat) (X : Nat → zV) (Q : zQt) : zT :=
  zc (.int 1) <| zic (fun x y => x = y) (zc (.int 1) <| zj X 52 [0, 1, 2, 3, 4, 5, 6, 7]) <| zc (.int 0) <| zj X 52 [0, 1, 2, 3, 4, 5, 6, 7]
def kX13_make_38 (mc ms : Nat) (X : Nat → zV) (Q : zQt) : zT :=
  zli 7 <| zcs mc ms 1 wX13_kindOf <| kX13_make_43 mc ms X Q
def kX13_make_28 (mc ms : Nat) (X : Nat → zV) (Q : zQt) : zT :=
  zla 0 <| zgR 13 16 <| zli 1 <| zli 3 <| zii (fun x y => x + y) <| zal 1 <| zsiN 7 <| kX13_make_38 mc ms X Q
def kX13_make_9 (mc ms : Nat) (X : Nat → zV) (Q : zQt) : zT :=
  zsi 4 <| zli 1 <| zc (.int 69) <| zii (fun x y => x + y) <| zsi 5 <| zla 0 <| zgR 13 16 <| zli 1 <| zc (.int 64) <| zii (fun x y => x + y) <| zal 1 <| zsiN 6 <| kX13_make_28 mc ms X Q
def kX13_make_4 (mc ms : Nat) (X : Nat → zV) (Q : zQt) : zT :=
  zsi 3 <| zli 2 <| zcs mc ms 1 wX13_toOf <| kX13_make_9 mc ms X Q
def kX13_make_67 (mc ms : Nat) (X : Nat → zV) (Q : zQt) : zT :=
  zif (fun x => x = 0) (zj X 74 [0, 1, 2, 3, 4, 5, 6, 7, 8]) <| zc (.int 1) <| zj X 75 [0, 1, 2, 3, 4, 5, 6, 7, 8]
def kX13_make_94 (mc ms : Nat) (X : Nat → zV) (Q : zQt) : zT :=
  zc (.int 2) <| zic (fun x y => x = y) (zc (.int 1) <| zj X 103 [0, 1, 2, 3, 4, 5, 6, 7, 8, 9]) <| zj X 102 [0, 1, 2, 3, 4, 5, 6, 7, 8, 9]
def kX13_make_82 (mc ms : Nat) (X : Nat → zV) (Q : zQt) : zT :=
  zc (.int 6) <| zic (fun x y => x = y) (zli 3 <| zli 4 <| zii (fun x y => x - y) <| zcs mc ms 1 wX13_amount <| kX13_make_94 mc ms X Q) <| zj X 102 [0, 1, 2, 3, 4, 5, 6, 7, 8, 9]
def kX13_make_295 (mc ms : Nat) (X : Nat → zV) (Q : zQt) : zT :=
  zc (.int 6) <| zic (fun x y => x = y) (zla 0 <| zgR 13 16 <| zli 1 <| zc (.int 65) <| zii (fun x y => x + y) <| zal 1 <| zc (.int 3) <| zc (.int 2) <| zli 6 <| zii (fun x y => x * y) <| zii (fun x y => x <<< (y &&& 31)) <| zc (.int (-1)) <| zii (fun x y => x ^^^ y) <| zii (fun x y => x &&& y) <| zj X 330 [0, 1, 3, 4, 5, 6, 8, 11]) <| zla 0 <| zgR 13 16 <| zli 1 <| zc (.int 65) <| zii (fun x y => x + y) <| zal 1 <| zj X 330 [0, 1, 3, 4, 5, 6, 8, 11]
def kX13_make_371 (mc ms : Nat) (X : Nat → zV) (Q : zQt) : zT :=
  zc (.int 16) <| zic (fun x y => x = y) (zc (.int 1) <| zj X 381 [0, 1, 4, 5, 6, 8, 11]) <| zj X 380 [0, 1, 4, 5, 6, 8, 11]
def kX13_make_355 (mc ms : Nat) (X : Nat → zV) (Q : zQt) : zT :=
  zc (.int (-1)) <| zii (fun x y => x ^^^ y) <| zii (fun x y => x &&& y) <| zas 1 (fun x => x) <| zli 8 <| zif (fun x => x = 0) (zj X 380 [0, 1, 4, 5, 6, 8, 11]) <| zli 3 <| zli 4 <| zii (fun x y => x - y) <| zcs mc ms 1 wX13_amount <| kX13_make_371 mc ms X Q
def kX13_make_347 (mc ms : Nat) (X : Nat → zV) (Q : zQt) : zT :=
  zc (.int (-1)) <| zii (fun x y => x ^^^ y) <| zii (fun x y => x &&& y) <| zli 4 <| zcs mc ms 1 wX13_cornerRight <| kX13_make_355 mc ms X Q
def aX13_make_0 (mc ms : Nat) (X : Nat → zV) (Q : zQt) : zT :=
  zli 2 <| zcs mc ms 1 wX13_fromOf <| kX13_make_4 mc ms X Q
def aX13_make_52 (mc ms : Nat) (X : Nat → zV) (Q : zQt) : zT :=
  zsi 8 <| zli 8 <| zif (fun x => x = 0) (zj X 74 [0, 1, 2, 3, 4, 5, 6, 7, 8]) <| zla 0 <| zli 1 <| zli 3 <| zli 4 <| zcv mc ms 13 3 wX13_takesInPassing <| kX13_make_67 mc ms X Q
def aX13_make_74 (mc ms : Nat) (X : Nat → zV) (Q : zQt) : zT :=
  zc (.int 0) <| zj X 75 [0, 1, 2, 3, 4, 5, 6, 7, 8]
def aX13_make_75 (mc ms : Nat) (X : Nat → zV) (Q : zQt) : zT :=
  zsi 9 <| zli 7 <| zcs mc ms 1 wX13_kindOf <| kX13_make_82 mc ms X Q
def aX13_make_102 (mc ms : Nat) (X : Nat → zV) (Q : zQt) : zT :=
  zc (.int 0) <| zj X 103 [0, 1, 2, 3, 4, 5, 6, 7, 8, 9]
def aX13_make_103 (mc ms : Nat) (X : Nat → zV) (Q : zQt) : zT :=
  zsi 10 <| zli 9 <| zif (fun x => x = 0) (zla 0 <| zgR 13 16 <| zli 1 <| zli 4 <| zii (fun x y => x + y) <| zal 1 <| zif (fun x => x ≤ 0) (zc (.int 0) <| zj X 127 [0, 1, 2, 3, 4, 5, 6, 7, 8, 9, 10]) <| zj X 122 [0, 1, 2, 3, 4, 5, 6, 7, 8, 9, 10]) <| zj X 122 [0, 1, 2, 3, 4, 5, 6, 7, 8, 9, 10]
def aX13_make_122 (mc ms : Nat) (X : Nat → zV) (Q : zQt) : zT :=
  zc (.int 1) <| zj X 127 [0, 1, 2, 3, 4, 5, 6, 7, 8, 9, 10]
def aX13_make_127 (mc ms : Nat) (X : Nat → zV) (Q : zQt) : zT :=
  zsi 11 <| zc (.int 0) <| zsi 12 <| zj X 132 [0, 1, 2, 3, 4, 5, 6, 7, 8, 9, 10, 11, 12]
def aX13_make_132 (mc ms : Nat) (X : Nat → zV) (Q : zQt) : zT :=
  zli 12 <| zc (.int 69) <| zic (fun x y => y ≤ x) (zla 0 <| zgR 13 16 <| zli 5 <| zli 3 <| zii (fun x y => x + y) <| zc (.int 0) <| zas 1 (fun x => x) <| zla 0 <| zgR 13 16 <| zli 5 <| zli 4 <| zii (fun x y => x + y) <| zli 2 <| zc (.int 4096) <| zid (fun x y => x / y) <| zif (fun x => x ≤ 0) (zli 7 <| zj X 207 [0, 1, 3, 4, 5, 6, 7, 8, 9, 10, 11]) <| zli 2 <| zc (.int 4096) <| zid (fun x y => x / y) <| zc (.int 6) <| zli 6 <| zii (fun x y => x * y) <| zii (fun x y => x + y) <| zj X 207 [0, 1, 3, 4, 5, 6, 7, 8, 9, 10, 11]) <| zla 0 <| zgR 13 16 <| zli 5 <| zli 12 <| zii (fun x y => x + y) <| zla 0 <| zgR 13 16 <| zli 1 <| zli 12 <| zii (fun x y => x + y) <| zal 1 <| zas 1 (fun x => x) <| zinc 12 1 <| zj X 132 [0, 1, 2, 3, 4, 5, 6, 7, 8, 9, 10, 11, 12]
def aX13_make_207 (mc ms : Nat) (X : Nat → zV) (Q : zQt) : zT :=
  zas 1 (fun x => x) <| zli 9 <| zif (fun x => x = 0) (zj X 240 [0, 1, 3, 4, 5, 6, 7, 8, 10, 11]) <| zla 0 <| zgR 13 16 <| zli 5 <| zli 6 <| zif (fun x => x = 0) (zli 4 <| zc (.int 8) <| zii (fun x y => x - y) <| zj X 237 [0, 1, 3, 4, 5, 6, 7, 8, 10, 11]) <| zli 4 <| zc (.int 8) <| zii (fun x y => x + y) <| zj X 237 [0, 1, 3, 4, 5, 6, 7, 8, 10, 11]
def aX13_make_237 (mc ms : Nat) (X : Nat → zV) (Q : zQt) : zT :=
  zii (fun x y => x + y) <| zc (.int 0) <| zas 1 (fun x => x) <| zj X 240 [0, 1, 3, 4, 5, 6, 7, 8, 10, 11]
def aX13_make_240 (mc ms : Nat) (X : Nat → zV) (Q : zQt) : zT :=
  zli 10 <| zif (fun x => x = 0) (zj X 290 [0, 1, 3, 4, 5, 6, 7, 8, 11]) <| zla 0 <| zgR 13 16 <| zli 5 <| zli 4 <| zli 3 <| zic (fun x y => x ≤ y) (zli 3 <| zc (.int 4) <| zii (fun x y => x - y) <| zj X 266 [0, 1, 3, 4, 5, 6, 7, 8, 11]) <| zli 3 <| zc (.int 3) <| zii (fun x y => x + y) <| zj X 266 [0, 1, 3, 4, 5, 6, 7, 8, 11]
def aX13_make_266 (mc ms : Nat) (X : Nat → zV) (Q : zQt) : zT :=
  zii (fun x y => x + y) <| zc (.int 0) <| zas 1 (fun x => x) <| zla 0 <| zgR 13 16 <| zli 5 <| zli 3 <| zli 4 <| zii (fun x y => x + y) <| zc (.int 2) <| zid (fun x y => x / y) <| zii (fun x y => x + y) <| zc (.int 4) <| zc (.int 6) <| zli 6 <| zii (fun x y => x * y) <| zii (fun x y => x + y) <| zas 1 (fun x => x) <| zj X 290 [0, 1, 3, 4, 5, 6, 7, 8, 11]
def aX13_make_290 (mc ms : Nat) (X : Nat → zV) (Q : zQt) : zT :=
  zli 7 <| zcs mc ms 1 wX13_kindOf <| kX13_make_295 mc ms X Q
def aX13_make_330 (mc ms : Nat) (X : Nat → zV) (Q : zQt) : zT :=
  zsi 12 <| zla 0 <| zgR 13 16 <| zli 5 <| zc (.int 65) <| zii (fun x y => x + y) <| zli 12 <| zli 3 <| zcs mc ms 1 wX13_cornerRight <| kX13_make_347 mc ms X Q
def aX13_make_380 (mc ms : Nat) (X : Nat → zV) (Q : zQt) : zT :=
  zc (.int 0) <| zj X 381 [0, 1, 4, 5, 6, 8, 11]
def aX13_make_381 (mc ms : Nat) (X : Nat → zV) (Q : zQt) : zT :=
  zsi 13 <| zli 13 <| zif (fun x => x = 0) (zj X 432 [0, 1, 4, 5, 6, 8, 11, 13]) <| zli 4 <| zc (.int 8) <| zid (fun x y => x - x / y * y) <| zif (fun x => x ≤ 0) (zj X 432 [0, 1, 4, 5, 6, 8, 11, 13]) <| zla 0 <| zgR 13 16 <| zli 5 <| zli 4 <| zif (fun x => x ≤ 0) (zc (.int 0) <| zj X 415 [0, 1, 4, 5, 6, 8, 11, 13]) <| zli 4 <| zc (.int 1) <| zii (fun x y => x - y) <| zj X 415 [0, 1, 4, 5, 6, 8, 11, 13]
def aX13_make_415 (mc ms : Nat) (X : Nat → zV) (Q : zQt) : zT :=
  zii (fun x y => x + y) <| zal 1 <| zc (.int 7) <| zc (.int 6) <| zli 6 <| zii (fun x y => x * y) <| zii (fun x y => x - y) <| zic (fun x y => x = y) (zc (.int 1) <| zj X 433 [0, 1, 4, 5, 6, 8, 11, 13]) <| zj X 432 [0, 1, 4, 5, 6, 8, 11, 13]
def aX13_make_432 (mc ms : Nat) (X : Nat → zV) (Q : zQt) : zT :=
  zc (.int 0) <| zj X 433 [0, 1, 4, 5, 6, 8, 11, 13]
def aX13_make_433 (mc ms : Nat) (X : Nat → zV) (Q : zQt) : zT :=
  zsi 14 <| zli 13 <| zif (fun x => x = 0) (zj X 489 [0, 1, 4, 5, 6, 8, 11, 14]) <| zli 4 <| zc (.int 8) <| zid (fun x y => x - x / y * y) <| zc (.int 7) <| zic (fun x y => y ≤ x) (zj X 489 [0, 1, 4, 5, 6, 8, 11, 14]) <| zla 0 <| zgR 13 16 <| zli 5 <| zli 4 <| zc (.int 63) <| zic (fun x y => y ≤ x) (zc (.int 63) <| zj X 472 [0, 1, 4, 5, 6, 8, 11, 14]) <| zli 4 <| zc (.int 1) <| zii (fun x y => x + y) <| zj X 472 [0, 1, 4, 5, 6, 8, 11, 14]
def aX13_make_472 (mc ms : Nat) (X : Nat → zV) (Q : zQt) : zT :=
  zii (fun x y => x + y) <| zal 1 <| zc (.int 7) <| zc (.int 6) <| zli 6 <| zii (fun x y => x * y) <| zii (fun x y => x - y) <| zic (fun x y => x = y) (zc (.int 1) <| zj X 490 [0, 1, 4, 5, 6, 8, 11, 14]) <| zj X 489 [0, 1, 4, 5, 6, 8, 11, 14]
def aX13_make_489 (mc ms : Nat) (X : Nat → zV) (Q : zQt) : zT :=
  zc (.int 0) <| zj X 490 [0, 1, 4, 5, 6, 8, 11, 14]
def aX13_make_490 (mc ms : Nat) (X : Nat → zV) (Q : zQt) : zT :=
  zsi 15 <| zla 0 <| zgR 13 16 <| zli 5 <| zc (.int 66) <| zii (fun x y => x + y) <| zli 14 <| zif (fun x => x = 0) (zli 15 <| zif (fun x => x = 0) (zc (.int (-1)) <| zj X 520 [0, 1, 5, 6, 8, 11]) <| zj X 511 [0, 1, 4, 5, 6, 8, 11]) <| zj X 511 [0, 1, 4, 5, 6, 8, 11]
def aX13_make_511 (mc ms : Nat) (X : Nat → zV) (Q : zQt) : zT :=
  zli 4 <| zc (.int 8) <| zid (fun x y => x - x / y * y) <| zj X 520 [0, 1, 5, 6, 8, 11]
def aX13_make_520 (mc ms : Nat) (X : Nat → zV) (Q : zQt) : zT :=
  zas 1 (fun x => x) <| zla 0 <| zgR 13 16 <| zli 5 <| zc (.int 67) <| zii (fun x y => x + y) <| zli 8 <| zif (fun x => x = 0) (zli 11 <| zif (fun x => x = 0) (zla 0 <| zgR 13 16 <| zli 1 <| zc (.int 67) <| zii (fun x y => x + y) <| zal 1 <| zc (.int 1) <| zii (fun x y => x + y) <| zj X 555 [0, 1, 5, 6]) <| zj X 540 [0, 1, 5, 6]) <| zj X 540 [0, 1, 5, 6]
def aX13_make_540 (mc ms : Nat) (X : Nat → zV) (Q : zQt) : zT :=
  zc (.int 0) <| zj X 555 [0, 1, 5, 6]
def aX13_make_555 (mc ms : Nat) (X : Nat → zV) (Q : zQt) : zT :=
  zas 1 (fun x => x) <| zla 0 <| zgR 13 16 <| zli 5 <| zc (.int 68) <| zii (fun x y => x + y) <| zla 0 <| zgR 13 16 <| zli 1 <| zc (.int 68) <| zii (fun x y => x + y) <| zal 1 <| zli 6 <| zii (fun x y => x + y) <| zas 1 (fun x => x) <| zla 0 <| zgR 13 16 <| zli 5 <| zc (.int 64) <| zii (fun x y => x + y) <| zc (.int 1) <| zli 6 <| zii (fun x y => x - y) <| zas 1 (fun x => x) <| zrv Q
def lvX13_make : Nat → List Nat := fun L => match L with
  | 0 => [0, 1, 2]
  | 52 => [0, 1, 2, 3, 4, 5, 6, 7]
  | 74 => [0, 1, 2, 3, 4, 5, 6, 7, 8]
  | 75 => [0, 1, 2, 3, 4, 5, 6, 7, 8]
  | 102 => [0, 1, 2, 3, 4, 5, 6, 7, 8, 9]
  | 103 => [0, 1, 2, 3, 4, 5, 6, 7, 8, 9]
  | 122 => [0, 1, 2, 3, 4, 5, 6, 7, 8, 9, 10]
  | 127 => [0, 1, 2, 3, 4, 5, 6, 7, 8, 9, 10]
  | 132 => [0, 1, 2, 3, 4, 5, 6, 7, 8, 9, 10, 11, 12]
  | 207 => [0, 1, 3, 4, 5, 6, 7, 8, 9, 10, 11]
  | 237 => [0, 1, 3, 4, 5, 6, 7, 8, 10, 11]
  | 240 => [0, 1, 3, 4, 5, 6, 7, 8, 10, 11]
  | 266 => [0, 1, 3, 4, 5, 6, 7, 8, 11]
  | 290 => [0, 1, 3, 4, 5, 6, 7, 8, 11]
  | 330 => [0, 1, 3, 4, 5, 6, 8, 11]
  | 380 => [0, 1, 4, 5, 6, 8, 11]
  | 381 => [0, 1, 4, 5, 6, 8, 11]
  | 415 => [0, 1, 4, 5, 6, 8, 11, 13]
  | 432 => [0, 1, 4, 5, 6, 8, 11, 13]
  | 433 => [0, 1, 4, 5, 6, 8, 11, 13]
  | 472 => [0, 1, 4, 5, 6, 8, 11, 14]
  | 489 => [0, 1, 4, 5, 6, 8, 11, 14]
  | 490 => [0, 1, 4, 5, 6, 8, 11, 14]
  | 511 => [0, 1, 4, 5, 6, 8, 11]
  | 520 => [0, 1, 5, 6, 8, 11]
  | 540 => [0, 1, 5, 6]
  | 555 => [0, 1, 5, 6]
  | _ => []
def wX13_make : zSp := fun mc ms av M Q => ((zlay av).length ≤ 16 ∧ zpick (zlay av) [0, 1, 2] = some av) ∧ ∀ X : Nat → zV, zin 16 [0, 1, 2] (aX13_make_0 mc ms X Q) X 0 → zin 16 [0, 1, 2, 3, 4, 5, 6, 7] (aX13_make_52 mc ms X Q) X 52 → zin 16 [0, 1, 2, 3, 4, 5, 6, 7, 8] (aX13_make_74 mc ms X Q) X 74 → zin 16 [0, 1, 2, 3, 4, 5, 6, 7, 8] (aX13_make_75 mc ms X Q) X 75 → zin 16 [0, 1, 2, 3, 4, 5, 6, 7, 8, 9] (aX13_make_102 mc ms X Q) X 102 → zin 16 [0, 1, 2, 3, 4, 5, 6, 7, 8, 9] (aX13_make_103 mc ms X Q) X 103 → zin 16 [0, 1, 2, 3, 4, 5, 6, 7, 8, 9, 10] (aX13_make_122 mc ms X Q) X 122 → zin 16 [0, 1, 2, 3, 4, 5, 6, 7, 8, 9, 10] (aX13_make_127 mc ms X Q) X 127 → zin 16 [0, 1, 2, 3, 4, 5, 6, 7, 8, 9, 10, 11, 12] (aX13_make_132 mc ms X Q) X 132 → zin 16 [0, 1, 3, 4, 5, 6, 7, 8, 9, 10, 11] (aX13_make_207 mc ms X Q) X 207 → zin 16 [0, 1, 3, 4, 5, 6, 7, 8, 10, 11] (aX13_make_237 mc ms X Q) X 237 → zin 16 [0, 1, 3, 4, 5, 6, 7, 8, 10, 11] (aX13_make_240 mc ms X Q) X 240 → zin 16 [0, 1, 3, 4, 5, 6, 7, 8, 11] (aX13_make_266 mc ms X Q) X 266 → zin 16 [0, 1, 3, 4, 5, 6, 7, 8, 11] (aX13_make_290 mc ms X Q) X 290 → zin 16 [0, 1, 3, 4, 5, 6, 8, 11] (aX13_make_330 mc ms X Q) X 330 → zin 16 [0, 1, 4, 5, 6, 8, 11] (aX13_make_380 mc ms X Q) X 380 → zin 16 [0, 1, 4, 5, 6, 8, 11] (aX13_make_381 mc ms X Q) X 381 → zin 16 [0, 1, 4, 5, 6, 8, 11, 13] (aX13_make_415 mc ms X Q) X 415 → zin 16 [0, 1, 4, 5, 6, 8, 11, 13] (aX13_make_432 mc ms X Q) X 432 → zin 16 [0, 1, 4, 5, 6, 8, 11, 13] (aX13_make_433 mc ms X Q) X 433 → zin 16 [0, 1, 4, 5, 6, 8, 11, 14] (aX13_make_472 mc ms X Q) X 472 → zin 16 [0, 1, 4, 5, 6, 8, 11, 14] (aX13_make_489 mc ms X Q) X 489 → zin 16 [0, 1, 4, 5, 6, 8, 11, 14] (aX13_make_490 mc ms X Q) X 490 → zin 16 [0, 1, 4, 5, 6, 8, 11] (aX13_make_511 mc ms X Q) X 511 → zin 16 [0, 1, 5, 6, 8, 11] (aX13_make_520 mc ms X Q) X 520 → zin 16 [0, 1, 5, 6] (aX13_make_540 mc ms X Q) X 540 → zin 16 [0, 1, 5, 6] (aX13_make_555 mc ms X Q) X 555 → X 0 0 0 av [] M
set_option maxRecDepth 100000 in
set_option maxHeartbeats 4000000 in
theorem sX13_make (l : Launch) (G : zG) : zSnd l G yX13_make cX13_make 16 none 3 78 wX13_make := by
  refine zmk [0, 1, 2] (by decide) (fun mc ms av M Q h => h.1) ?_
  intro p e R s m args below meth c mc ms av M Q hC hRf hRl hr hnm h lv hlv
  obtain ⟨X, hXe⟩ : ∃ X : Nat → zV, X = fun L u v vs st M => ∀ lv, zpick lv (lvX13_make L) = some vs → zAt p l e R s m args below meth c (MQ below (zQ G Q) args s mc ms (zA G)) G 16 L u v lv st M := ⟨_, rfl⟩
  have hJ : ∀ L, zOk p l e R s m args below meth c (MQ below (zQ G Q) args s mc ms (zA G)) G 16 L (zj X L (lvX13_make L)) := fun L => S_jump (fun u v lv vs st M hp hx => by rw [hXe] at hx; exact hx lv hp)
  have hB0 : zin 16 [0, 1, 2] (aX13_make_0 mc ms X Q) X 0 := by
    intro u v vs st M hb
    rw [hXe]
    refine fun lv hp => S_block (L := 0) (live := [0, 1, 2]) ?_ u v lv vs st M hp hb
    unfold aX13_make_0
    refine S_iload_n (pc := 0) hC dX13_make_0 rfl ?_
    refine S_callS (pc := 1) hC (sX13_fromOf l G) wd_1475 wd_1476 wd_12 wd_1477 (by decide +kernel) ⟨by rw [hRf]; decide, by rw [hRl]; decide⟩ dX13_make_1 ?_
    unfold kX13_make_4
    refine S_istore_n (pc := 4) hC dX13_make_4 rfl (by decide) ?_
    refine S_iload_n (pc := 5) hC dX13_make_5 rfl ?_
    refine S_callS (pc := 6) hC (sX13_toOf l G) wd_1478 wd_1479 wd_12 wd_1480 (by decide +kernel) ⟨by rw [hRf]; decide, by rw [hRl]; decide⟩ dX13_make_6 ?_
    unfold kX13_make_9
    refine S_istore (pc := 9) hC dX13_make_9 (by decide) ?_
    refine S_iload_n (pc := 11) hC dX13_make_11 rfl ?_
    refine S_bipush (pc := 12) hC dX13_make_12 (by decide) ?_
    refine S_iadd (pc := 14) hC dX13_make_14 ?_
    refine S_istore (pc := 15) hC dX13_make_15 (by decide) ?_
    refine S_aload_n (pc := 17) hC dX13_make_17 rfl ?_
    refine S_getR (pc := 18) hC cfX13 (by decide) (Or.inr ⟨_, rfl⟩) wd_1271 dX13_make_18 ?_
    refine S_iload_n (pc := 21) hC dX13_make_21 rfl ?_
    refine S_bipush (pc := 22) hC dX13_make_22 (by decide) ?_
    refine S_iadd (pc := 24) hC dX13_make_24 ?_
    refine S_iaload (pc := 25) hC dX13_make_25 ?_
    refine S_istore_N (pc := 26) hC dX13_make_26 (by decide) ?_
    unfold kX13_make_28
    refine S_aload_n (pc := 28) hC dX13_make_28 rfl ?_
    refine S_getR (pc := 29) hC cfX13 (by decide) (Or.inr ⟨_, rfl⟩) wd_1271 dX13_make_29 ?_
    refine S_iload_n (pc := 32) hC dX13_make_32 rfl ?_
    refine S_iload_n (pc := 33) hC dX13_make_33 rfl ?_
    refine S_iadd (pc := 34) hC dX13_make_34 ?_
    refine S_iaload (pc := 35) hC dX13_make_35 ?_
    refine S_istore_N (pc := 36) hC dX13_make_36 (by decide) ?_
    unfold kX13_make_38
    refine S_iload (pc := 38) hC dX13_make_38 ?_
    refine S_callS (pc := 40) hC (sX13_kindOf l G) wd_1376 wd_1377 wd_12 wd_1378 (by decide +kernel) ⟨by rw [hRf]; decide, by rw [hRl]; decide⟩ dX13_make_40 ?_
    unfold kX13_make_43
    refine S_iconst (pc := 43) hC dX13_make_43 (by decide) ?_
    refine S_icmp_ne (pc := 44) (tgt := 51) hC dX13_make_44 (by decide) ?_ ?_
    · refine S_iconst (pc := 51) hC dX13_make_51 (by decide) ?_
      exact hJ 52
    · refine S_iconst (pc := 47) hC dX13_make_47 (by decide) ?_
      refine S_goto (pc := 48) (tgt := 52) hC dX13_make_48 (by decide) ?_
      exact hJ 52
  have hB52 : zin 16 [0, 1, 2, 3, 4, 5, 6, 7] (aX13_make_52 mc ms X Q) X 52 := by
    intro u v vs st M hb
    rw [hXe]
    refine fun lv hp => S_block (L := 52) (live := [0, 1, 2, 3, 4, 5, 6, 7]) ?_ u v lv vs st M hp hb
    unfold aX13_make_52
    refine S_istore (pc := 52) hC dX13_make_52 (by decide) ?_
    refine S_iload (pc := 54) hC dX13_make_54 ?_
    refine S_if_eq (pc := 56) (tgt := 74) hC dX13_make_56 (by decide) ?_ ?_
    · exact hJ 74
    · refine S_aload_n (pc := 59) hC dX13_make_59 rfl ?_
      refine S_iload_n (pc := 60) hC dX13_make_60 rfl ?_
      refine S_iload_n (pc := 61) hC dX13_make_61 rfl ?_
      refine S_iload (pc := 62) hC dX13_make_62 ?_
      refine S_callV (pc := 64) hC (sX13_takesInPassing l G) rfl wd_1459 wd_1461 ws_76 wd_12 wd_1462 (by decide +kernel) ⟨by rw [hRf]; decide, by rw [hRl]; decide⟩ dX13_make_64 ?_
      unfold kX13_make_67
      refine S_if_eq (pc := 67) (tgt := 74) hC dX13_make_67 (by decide) ?_ ?_
      · exact hJ 74
      · refine S_iconst (pc := 70) hC dX13_make_70 (by decide) ?_
        refine S_goto (pc := 71) (tgt := 75) hC dX13_make_71 (by decide) ?_
        exact hJ 75
  have hB74 : zin 16 [0, 1, 2, 3, 4, 5, 6, 7, 8] (aX13_make_74 mc ms X Q) X 74 := by
    intro u v vs st M hb
    rw [hXe]
    refine fun lv hp => S_block (L := 74) (live := [0, 1, 2, 3, 4, 5, 6, 7, 8]) ?_ u v lv vs st M hp hb
    unfold aX13_make_74
    refine S_iconst (pc := 74) hC dX13_make_74 (by decide) ?_
    exact hJ 75
  have hB75 : zin 16 [0, 1, 2, 3, 4, 5, 6, 7, 8] (aX13_make_75 mc ms X Q) X 75 := by
    intro u v vs st M hb
    rw [hXe]
    refine fun lv hp => S_block (L := 75) (live := [0, 1, 2, 3, 4, 5, 6, 7, 8]) ?_ u v lv vs st M hp hb
    unfold aX13_make_75
    refine S_istore (pc := 75) hC dX13_make_75 (by decide) ?_
    refine S_iload (pc := 77) hC dX13_make_77 ?_
    refine S_callS (pc := 79) hC (sX13_kindOf l G) wd_1376 wd_1377 wd_12 wd_1378 (by decide +kernel) ⟨by rw [hRf]; decide, by rw [hRl]; decide⟩ dX13_make_79 ?_
    unfold kX13_make_82
    refine S_bipush (pc := 82) hC dX13_make_82 (by decide) ?_
    refine S_icmp_ne (pc := 84) (tgt := 102) hC dX13_make_84 (by decide) ?_ ?_
    · exact hJ 102
    · refine S_iload_n (pc := 87) hC dX13_make_87 rfl ?_
      refine S_iload (pc := 88) hC dX13_make_88 ?_
      refine S_isub (pc := 90) hC dX13_make_90 ?_
      refine S_callS (pc := 91) hC (sX13_amount l G) wd_1432 wd_1433 wd_12 wd_1434 (by decide +kernel) ⟨by rw [hRf]; decide, by rw [hRl]; decide⟩ dX13_make_91 ?_
      unfold kX13_make_94
      refine S_iconst (pc := 94) hC dX13_make_94 (by decide) ?_
      refine S_icmp_ne (pc := 95) (tgt := 102) hC dX13_make_95 (by decide) ?_ ?_
      · exact hJ 102
      · refine S_iconst (pc := 98) hC dX13_make_98 (by decide) ?_
        refine S_goto (pc := 99) (tgt := 103) hC dX13_make_99 (by decide) ?_
        exact hJ 103
  have hB102 : zin 16 [0, 1, 2, 3, 4, 5, 6, 7, 8, 9] (aX13_make_102 mc ms X Q) X 102 := by
    intro u v vs st M hb
    rw [hXe]
    refine fun lv hp => S_block (L := 102) (live := [0, 1, 2, 3, 4, 5, 6, 7, 8, 9]) ?_ u v lv vs st M hp hb
    unfold aX13_make_102
    refine S_iconst (pc := 102) hC dX13_make_102 (by decide) ?_
    exact hJ 103
  have hB103 : zin 16 [0, 1, 2, 3, 4, 5, 6, 7, 8, 9] (aX13_make_103 mc ms X Q) X 103 := by
    intro u v vs st M hb
    rw [hXe]
    refine fun lv hp => S_block (L := 103) (live := [0, 1, 2, 3, 4, 5, 6, 7, 8, 9]) ?_ u v lv vs st M hp hb
    unfold aX13_make_103
    refine S_istore (pc := 103) hC dX13_make_103 (by decide) ?_
    refine S_iload (pc := 105) hC dX13_make_105 ?_
    refine S_if_ne (pc := 107) (tgt := 122) hC dX13_make_107 (by decide) ?_ ?_
    · exact hJ 122
    · refine S_aload_n (pc := 110) hC dX13_make_110 rfl ?_
      refine S_getR (pc := 111) hC cfX13 (by decide) (Or.inr ⟨_, rfl⟩) wd_1271 dX13_make_111 ?_
      refine S_iload_n (pc := 114) hC dX13_make_114 rfl ?_
      refine S_iload (pc := 115) hC dX13_make_115 ?_
      refine S_iadd (pc := 117) hC dX13_make_117 ?_
      refine S_iaload (pc := 118) hC dX13_make_118 ?_
      refine S_if_le (pc := 119) (tgt := 126) hC dX13_make_119 (by decide) ?_ ?_
      · refine S_iconst (pc := 126) hC dX13_make_126 (by decide) ?_
        exact hJ 127
      · exact hJ 122
  have hB122 : zin 16 [0, 1, 2, 3, 4, 5, 6, 7, 8, 9, 10] (aX13_make_122 mc ms X Q) X 122 := by
    intro u v vs st M hb
    rw [hXe]
    refine fun lv hp => S_block (L := 122) (live := [0, 1, 2, 3, 4, 5, 6, 7, 8, 9, 10]) ?_ u v lv vs st M hp hb
    unfold aX13_make_122
    refine S_iconst (pc := 122) hC dX13_make_122 (by decide) ?_
    refine S_goto (pc := 123) (tgt := 127) hC dX13_make_123 (by decide) ?_
    exact hJ 127
  have hB127 : zin 16 [0, 1, 2, 3, 4, 5, 6, 7, 8, 9, 10] (aX13_make_127 mc ms X Q) X 127 := by
    intro u v vs st M hb
    rw [hXe]
    refine fun lv hp => S_block (L := 127) (live := [0, 1, 2, 3, 4, 5, 6, 7, 8, 9, 10]) ?_ u v lv vs st M hp hb
    unfold aX13_make_127
    refine S_istore (pc := 127) hC dX13_make_127 (by decide) ?_
    refine S_iconst (pc := 129) hC dX13_make_129 (by decide) ?_
    refine S_istore (pc := 130) hC dX13_make_130 (by decide) ?_
    exact hJ 132
  have hB132 : zin 16 [0, 1, 2, 3, 4, 5, 6, 7, 8, 9, 10, 11, 12] (aX13_make_132 mc ms X Q) X 132 := by
    intro u v vs st M hb
    rw [hXe]
    refine fun lv hp => S_block (L := 132) (live := [0, 1, 2, 3, 4, 5, 6, 7, 8, 9, 10, 11, 12]) ?_ u v lv vs st M hp hb
    unfold aX13_make_132
    refine S_iload (pc := 132) hC dX13_make_132 ?_
    refine S_bipush (pc := 134) hC dX13_make_134 (by decide) ?_
    refine S_icmp_ge (pc := 136) (tgt := 164) hC dX13_make_136 (by decide) ?_ ?_
    · refine S_aload_n (pc := 164) hC dX13_make_164 rfl ?_
      refine S_getR (pc := 165) hC cfX13 (by decide) (Or.inr ⟨_, rfl⟩) wd_1271 dX13_make_165 ?_
      refine S_iload (pc := 168) hC dX13_make_168 ?_
      refine S_iload_n (pc := 170) hC dX13_make_170 rfl ?_
      refine S_iadd (pc := 171) hC dX13_make_171 ?_
      refine S_iconst (pc := 172) hC dX13_make_172 (by decide) ?_
      refine S_iastore (pc := 173) hC dX13_make_173 ?_
      refine S_aload_n (pc := 174) hC dX13_make_174 rfl ?_
      refine S_getR (pc := 175) hC cfX13 (by decide) (Or.inr ⟨_, rfl⟩) wd_1271 dX13_make_175 ?_
      refine S_iload (pc := 178) hC dX13_make_178 ?_
      refine S_iload (pc := 180) hC dX13_make_180 ?_
      refine S_iadd (pc := 182) hC dX13_make_182 ?_
      refine S_iload_n (pc := 183) hC dX13_make_183 rfl ?_
      refine S_sipush (pc := 184) hC dX13_make_184 (by decide) ?_
      refine S_idiv (pc := 187) hC dX13_make_187 ?_
      refine S_if_le (pc := 188) (tgt := 205) hC dX13_make_188 (by decide) ?_ ?_
      · refine S_iload (pc := 205) hC dX13_make_205 ?_
        exact hJ 207
      · refine S_iload_n (pc := 191) hC dX13_make_191 rfl ?_
        refine S_sipush (pc := 192) hC dX13_make_192 (by decide) ?_
        refine S_idiv (pc := 195) hC dX13_make_195 ?_
        refine S_bipush (pc := 196) hC dX13_make_196 (by decide) ?_
        refine S_iload (pc := 198) hC dX13_make_198 ?_
        refine S_imul (pc := 200) hC dX13_make_200 ?_
        refine S_iadd (pc := 201) hC dX13_make_201 ?_
        refine S_goto (pc := 202) (tgt := 207) hC dX13_make_202 (by decide) ?_
        exact hJ 207
    · refine S_aload_n (pc := 139) hC dX13_make_139 rfl ?_
      refine S_getR (pc := 140) hC cfX13 (by decide) (Or.inr ⟨_, rfl⟩) wd_1271 dX13_make_140 ?_
      refine S_iload (pc := 143) hC dX13_make_143 ?_
      refine S_iload (pc := 145) hC dX13_make_145 ?_
      refine S_iadd (pc := 147) hC dX13_make_147 ?_
      refine S_aload_n (pc := 148) hC dX13_make_148 rfl ?_
      refine S_getR (pc := 149) hC cfX13 (by decide) (Or.inr ⟨_, rfl⟩) wd_1271 dX13_make_149 ?_
      refine S_iload_n (pc := 152) hC dX13_make_152 rfl ?_
      refine S_iload (pc := 153) hC dX13_make_153 ?_
      refine S_iadd (pc := 155) hC dX13_make_155 ?_
      refine S_iaload (pc := 156) hC dX13_make_156 ?_
      refine S_iastore (pc := 157) hC dX13_make_157 ?_
      refine S_iinc (pc := 158) hC dX13_make_158 (by decide) (by decide) ?_
      refine S_goto (pc := 161) (tgt := 132) hC dX13_make_161 (by decide) ?_
      exact hJ 132
  have hB207 : zin 16 [0, 1, 3, 4, 5, 6, 7, 8, 9, 10, 11] (aX13_make_207 mc ms X Q) X 207 := by
    intro u v vs st M hb
    rw [hXe]
    refine fun lv hp => S_block (L := 207) (live := [0, 1, 3, 4, 5, 6, 7, 8, 9, 10, 11]) ?_ u v lv vs st M hp hb
    unfold aX13_make_207
    refine S_iastore (pc := 207) hC dX13_make_207 ?_
    refine S_iload (pc := 208) hC dX13_make_208 ?_
    refine S_if_eq (pc := 210) (tgt := 240) hC dX13_make_210 (by decide) ?_ ?_
    · exact hJ 240
    · refine S_aload_n (pc := 213) hC dX13_make_213 rfl ?_
      refine S_getR (pc := 214) hC cfX13 (by decide) (Or.inr ⟨_, rfl⟩) wd_1271 dX13_make_214 ?_
      refine S_iload (pc := 217) hC dX13_make_217 ?_
      refine S_iload (pc := 219) hC dX13_make_219 ?_
      refine S_if_ne (pc := 221) (tgt := 232) hC dX13_make_221 (by decide) ?_ ?_
      · refine S_iload (pc := 232) hC dX13_make_232 ?_
        refine S_bipush (pc := 234) hC dX13_make_234 (by decide) ?_
        refine S_iadd (pc := 236) hC dX13_make_236 ?_
        exact hJ 237
      · refine S_iload (pc := 224) hC dX13_make_224 ?_
        refine S_bipush (pc := 226) hC dX13_make_226 (by decide) ?_
        refine S_isub (pc := 228) hC dX13_make_228 ?_
        refine S_goto (pc := 229) (tgt := 237) hC dX13_make_229 (by decide) ?_
        exact hJ 237
  have hB237 : zin 16 [0, 1, 3, 4, 5, 6, 7, 8, 10, 11] (aX13_make_237 mc ms X Q) X 237 := by
    intro u v vs st M hb
    rw [hXe]
    refine fun lv hp => S_block (L := 237) (live := [0, 1, 3, 4, 5, 6, 7, 8, 10, 11]) ?_ u v lv vs st M hp hb
    unfold aX13_make_237
    refine S_iadd (pc := 237) hC dX13_make_237 ?_
    refine S_iconst (pc := 238) hC dX13_make_238 (by decide) ?_
    refine S_iastore (pc := 239) hC dX13_make_239 ?_
    exact hJ 240
  have hB240 : zin 16 [0, 1, 3, 4, 5, 6, 7, 8, 10, 11] (aX13_make_240 mc ms X Q) X 240 := by
    intro u v vs st M hb
    rw [hXe]
    refine fun lv hp => S_block (L := 240) (live := [0, 1, 3, 4, 5, 6, 7, 8, 10, 11]) ?_ u v lv vs st M hp hb
    unfold aX13_make_240
    refine S_iload (pc := 240) hC dX13_make_240 ?_
    refine S_if_eq (pc := 242) (tgt := 290) hC dX13_make_242 (by decide) ?_ ?_
    · exact hJ 290
    · refine S_aload_n (pc := 245) hC dX13_make_245 rfl ?_
      refine S_getR (pc := 246) hC cfX13 (by decide) (Or.inr ⟨_, rfl⟩) wd_1271 dX13_make_246 ?_
      refine S_iload (pc := 249) hC dX13_make_249 ?_
      refine S_iload (pc := 251) hC dX13_make_251 ?_
      refine S_iload_n (pc := 253) hC dX13_make_253 rfl ?_
      refine S_icmp_le (pc := 254) (tgt := 263) hC dX13_make_254 (by decide) ?_ ?_
      · refine S_iload_n (pc := 263) hC dX13_make_263 rfl ?_
        refine S_iconst (pc := 264) hC dX13_make_264 (by decide) ?_
        refine S_isub (pc := 265) hC dX13_make_265 ?_
        exact hJ 266
      · refine S_iload_n (pc := 257) hC dX13_make_257 rfl ?_
        refine S_iconst (pc := 258) hC dX13_make_258 (by decide) ?_
        refine S_iadd (pc := 259) hC dX13_make_259 ?_
        refine S_goto (pc := 260) (tgt := 266) hC dX13_make_260 (by decide) ?_
        exact hJ 266
  have hB266 : zin 16 [0, 1, 3, 4, 5, 6, 7, 8, 11] (aX13_make_266 mc ms X Q) X 266 := by
    intro u v vs st M hb
    rw [hXe]
    refine fun lv hp => S_block (L := 266) (live := [0, 1, 3, 4, 5, 6, 7, 8, 11]) ?_ u v lv vs st M hp hb
    unfold aX13_make_266
    refine S_iadd (pc := 266) hC dX13_make_266 ?_
    refine S_iconst (pc := 267) hC dX13_make_267 (by decide) ?_
    refine S_iastore (pc := 268) hC dX13_make_268 ?_
    refine S_aload_n (pc := 269) hC dX13_make_269 rfl ?_
    refine S_getR (pc := 270) hC cfX13 (by decide) (Or.inr ⟨_, rfl⟩) wd_1271 dX13_make_270 ?_
    refine S_iload (pc := 273) hC dX13_make_273 ?_
    refine S_iload_n (pc := 275) hC dX13_make_275 rfl ?_
    refine S_iload (pc := 276) hC dX13_make_276 ?_
    refine S_iadd (pc := 278) hC dX13_make_278 ?_
    refine S_iconst (pc := 279) hC dX13_make_279 (by decide) ?_
    refine S_idiv (pc := 280) hC dX13_make_280 ?_
    refine S_iadd (pc := 281) hC dX13_make_281 ?_
    refine S_iconst (pc := 282) hC dX13_make_282 (by decide) ?_
    refine S_bipush (pc := 283) hC dX13_make_283 (by decide) ?_
    refine S_iload (pc := 285) hC dX13_make_285 ?_
    refine S_imul (pc := 287) hC dX13_make_287 ?_
    refine S_iadd (pc := 288) hC dX13_make_288 ?_
    refine S_iastore (pc := 289) hC dX13_make_289 ?_
    exact hJ 290
  have hB290 : zin 16 [0, 1, 3, 4, 5, 6, 7, 8, 11] (aX13_make_290 mc ms X Q) X 290 := by
    intro u v vs st M hb
    rw [hXe]
    refine fun lv hp => S_block (L := 290) (live := [0, 1, 3, 4, 5, 6, 7, 8, 11]) ?_ u v lv vs st M hp hb
    unfold aX13_make_290
    refine S_iload (pc := 290) hC dX13_make_290 ?_
    refine S_callS (pc := 292) hC (sX13_kindOf l G) wd_1376 wd_1377 wd_12 wd_1378 (by decide +kernel) ⟨by rw [hRf]; decide, by rw [hRl]; decide⟩ dX13_make_292 ?_
    unfold kX13_make_295
    refine S_bipush (pc := 295) hC dX13_make_295 (by decide) ?_
    refine S_icmp_ne (pc := 297) (tgt := 321) hC dX13_make_297 (by decide) ?_ ?_
    · refine S_aload_n (pc := 321) hC dX13_make_321 rfl ?_
      refine S_getR (pc := 322) hC cfX13 (by decide) (Or.inr ⟨_, rfl⟩) wd_1271 dX13_make_322 ?_
      refine S_iload_n (pc := 325) hC dX13_make_325 rfl ?_
      refine S_bipush (pc := 326) hC dX13_make_326 (by decide) ?_
      refine S_iadd (pc := 328) hC dX13_make_328 ?_
      refine S_iaload (pc := 329) hC dX13_make_329 ?_
      exact hJ 330
    · refine S_aload_n (pc := 300) hC dX13_make_300 rfl ?_
      refine S_getR (pc := 301) hC cfX13 (by decide) (Or.inr ⟨_, rfl⟩) wd_1271 dX13_make_301 ?_
      refine S_iload_n (pc := 304) hC dX13_make_304 rfl ?_
      refine S_bipush (pc := 305) hC dX13_make_305 (by decide) ?_
      refine S_iadd (pc := 307) hC dX13_make_307 ?_
      refine S_iaload (pc := 308) hC dX13_make_308 ?_
      refine S_iconst (pc := 309) hC dX13_make_309 (by decide) ?_
      refine S_iconst (pc := 310) hC dX13_make_310 (by decide) ?_
      refine S_iload (pc := 311) hC dX13_make_311 ?_
      refine S_imul (pc := 313) hC dX13_make_313 ?_
      refine S_ishl (pc := 314) hC dX13_make_314 ?_
      refine S_iconst (pc := 315) hC dX13_make_315 (by decide) ?_
      refine S_ixor (pc := 316) hC dX13_make_316 ?_
      refine S_iand (pc := 317) hC dX13_make_317 ?_
      refine S_goto (pc := 318) (tgt := 330) hC dX13_make_318 (by decide) ?_
      exact hJ 330
  have hB330 : zin 16 [0, 1, 3, 4, 5, 6, 8, 11] (aX13_make_330 mc ms X Q) X 330 := by
    intro u v vs st M hb
    rw [hXe]
    refine fun lv hp => S_block (L := 330) (live := [0, 1, 3, 4, 5, 6, 8, 11]) ?_ u v lv vs st M hp hb
    unfold aX13_make_330
    refine S_istore (pc := 330) hC dX13_make_330 (by decide) ?_
    refine S_aload_n (pc := 332) hC dX13_make_332 rfl ?_
    refine S_getR (pc := 333) hC cfX13 (by decide) (Or.inr ⟨_, rfl⟩) wd_1271 dX13_make_333 ?_
    refine S_iload (pc := 336) hC dX13_make_336 ?_
    refine S_bipush (pc := 338) hC dX13_make_338 (by decide) ?_
    refine S_iadd (pc := 340) hC dX13_make_340 ?_
    refine S_iload (pc := 341) hC dX13_make_341 ?_
    refine S_iload_n (pc := 343) hC dX13_make_343 rfl ?_
    refine S_callS (pc := 344) hC (sX13_cornerRight l G) wd_1481 wd_1482 wd_12 wd_1483 (by decide +kernel) ⟨by rw [hRf]; decide, by rw [hRl]; decide⟩ dX13_make_344 ?_
    unfold kX13_make_347
    refine S_iconst (pc := 347) hC dX13_make_347 (by decide) ?_
    refine S_ixor (pc := 348) hC dX13_make_348 ?_
    refine S_iand (pc := 349) hC dX13_make_349 ?_
    refine S_iload (pc := 350) hC dX13_make_350 ?_
    refine S_callS (pc := 352) hC (sX13_cornerRight l G) wd_1481 wd_1482 wd_12 wd_1483 (by decide +kernel) ⟨by rw [hRf]; decide, by rw [hRl]; decide⟩ dX13_make_352 ?_
    unfold kX13_make_355
    refine S_iconst (pc := 355) hC dX13_make_355 (by decide) ?_
    refine S_ixor (pc := 356) hC dX13_make_356 ?_
    refine S_iand (pc := 357) hC dX13_make_357 ?_
    refine S_iastore (pc := 358) hC dX13_make_358 ?_
    refine S_iload (pc := 359) hC dX13_make_359 ?_
    refine S_if_eq (pc := 361) (tgt := 380) hC dX13_make_361 (by decide) ?_ ?_
    · exact hJ 380
    · refine S_iload_n (pc := 364) hC dX13_make_364 rfl ?_
      refine S_iload (pc := 365) hC dX13_make_365 ?_
      refine S_isub (pc := 367) hC dX13_make_367 ?_
      refine S_callS (pc := 368) hC (sX13_amount l G) wd_1432 wd_1433 wd_12 wd_1434 (by decide +kernel) ⟨by rw [hRf]; decide, by rw [hRl]; decide⟩ dX13_make_368 ?_
      unfold kX13_make_371
      refine S_bipush (pc := 371) hC dX13_make_371 (by decide) ?_
      refine S_icmp_ne (pc := 373) (tgt := 380) hC dX13_make_373 (by decide) ?_ ?_
      · exact hJ 380
      · refine S_iconst (pc := 376) hC dX13_make_376 (by decide) ?_
        refine S_goto (pc := 377) (tgt := 381) hC dX13_make_377 (by decide) ?_
        exact hJ 381
  have hB380 : zin 16 [0, 1, 4, 5, 6, 8, 11] (aX13_make_380 mc ms X Q) X 380 := by
    intro u v vs st M hb
    rw [hXe]
    refine fun lv hp => S_block (L := 380) (live := [0, 1, 4, 5, 6, 8, 11]) ?_ u v lv vs st M hp hb
    unfold aX13_make_380
    refine S_iconst (pc := 380) hC dX13_make_380 (by decide) ?_
    exact hJ 381
  have hB381 : zin 16 [0, 1, 4, 5, 6, 8, 11] (aX13_make_381 mc ms X Q) X 381 := by
    intro u v vs st M hb
    rw [hXe]
    refine fun lv hp => S_block (L := 381) (live := [0, 1, 4, 5, 6, 8, 11]) ?_ u v lv vs st M hp hb
    unfold aX13_make_381
    refine S_istore (pc := 381) hC dX13_make_381 (by decide) ?_
    refine S_iload (pc := 383) hC dX13_make_383 ?_
    refine S_if_eq (pc := 385) (tgt := 432) hC dX13_make_385 (by decide) ?_ ?_
    · exact hJ 432
    · refine S_iload (pc := 388) hC dX13_make_388 ?_
      refine S_bipush (pc := 390) hC dX13_make_390 (by decide) ?_
      refine S_irem (pc := 392) hC dX13_make_392 ?_
      refine S_if_le (pc := 393) (tgt := 432) hC dX13_make_393 (by decide) ?_ ?_
      · exact hJ 432
      · refine S_aload_n (pc := 396) hC dX13_make_396 rfl ?_
        refine S_getR (pc := 397) hC cfX13 (by decide) (Or.inr ⟨_, rfl⟩) wd_1271 dX13_make_397 ?_
        refine S_iload (pc := 400) hC dX13_make_400 ?_
        refine S_iload (pc := 402) hC dX13_make_402 ?_
        refine S_if_le (pc := 404) (tgt := 414) hC dX13_make_404 (by decide) ?_ ?_
        · refine S_iconst (pc := 414) hC dX13_make_414 (by decide) ?_
          exact hJ 415
        · refine S_iload (pc := 407) hC dX13_make_407 ?_
          refine S_iconst (pc := 409) hC dX13_make_409 (by decide) ?_
          refine S_isub (pc := 410) hC dX13_make_410 ?_
          refine S_goto (pc := 411) (tgt := 415) hC dX13_make_411 (by decide) ?_
          exact hJ 415
  have hB415 : zin 16 [0, 1, 4, 5, 6, 8, 11, 13] (aX13_make_415 mc ms X Q) X 415 := by
    intro u v vs st M hb
    rw [hXe]
    refine fun lv hp => S_block (L := 415) (live := [0, 1, 4, 5, 6, 8, 11, 13]) ?_ u v lv vs st M hp hb
    unfold aX13_make_415
    refine S_iadd (pc := 415) hC dX13_make_415 ?_
    refine S_iaload (pc := 416) hC dX13_make_416 ?_
    refine S_bipush (pc := 417) hC dX13_make_417 (by decide) ?_
    refine S_bipush (pc := 419) hC dX13_make_419 (by decide) ?_
    refine S_iload (pc := 421) hC dX13_make_421 ?_
    refine S_imul (pc := 423) hC dX13_make_423 ?_
    refine S_isub (pc := 424) hC dX13_make_424 ?_
    refine S_icmp_ne (pc := 425) (tgt := 432) hC dX13_make_425 (by decide) ?_ ?_
    · exact hJ 432
    · refine S_iconst (pc := 428) hC dX13_make_428 (by decide) ?_
      refine S_goto (pc := 429) (tgt := 433) hC dX13_make_429 (by decide) ?_
      exact hJ 433
  have hB432 : zin 16 [0, 1, 4, 5, 6, 8, 11, 13] (aX13_make_432 mc ms X Q) X 432 := by
    intro u v vs st M hb
    rw [hXe]
    refine fun lv hp => S_block (L := 432) (live := [0, 1, 4, 5, 6, 8, 11, 13]) ?_ u v lv vs st M hp hb
    unfold aX13_make_432
    refine S_iconst (pc := 432) hC dX13_make_432 (by decide) ?_
    exact hJ 433
  have hB433 : zin 16 [0, 1, 4, 5, 6, 8, 11, 13] (aX13_make_433 mc ms X Q) X 433 := by
    intro u v vs st M hb
    rw [hXe]
    refine fun lv hp => S_block (L := 433) (live := [0, 1, 4, 5, 6, 8, 11, 13]) ?_ u v lv vs st M hp hb
    unfold aX13_make_433
    refine S_istore (pc := 433) hC dX13_make_433 (by decide) ?_
    refine S_iload (pc := 435) hC dX13_make_435 ?_
    refine S_if_eq (pc := 437) (tgt := 489) hC dX13_make_437 (by decide) ?_ ?_
    · exact hJ 489
    · refine S_iload (pc := 440) hC dX13_make_440 ?_
      refine S_bipush (pc := 442) hC dX13_make_442 (by decide) ?_
      refine S_irem (pc := 444) hC dX13_make_444 ?_
      refine S_bipush (pc := 445) hC dX13_make_445 (by decide) ?_
      refine S_icmp_ge (pc := 447) (tgt := 489) hC dX13_make_447 (by decide) ?_ ?_
      · exact hJ 489
      · refine S_aload_n (pc := 450) hC dX13_make_450 rfl ?_
        refine S_getR (pc := 451) hC cfX13 (by decide) (Or.inr ⟨_, rfl⟩) wd_1271 dX13_make_451 ?_
        refine S_iload (pc := 454) hC dX13_make_454 ?_
        refine S_iload (pc := 456) hC dX13_make_456 ?_
        refine S_bipush (pc := 458) hC dX13_make_458 (by decide) ?_
        refine S_icmp_ge (pc := 460) (tgt := 470) hC dX13_make_460 (by decide) ?_ ?_
        · refine S_bipush (pc := 470) hC dX13_make_470 (by decide) ?_
          exact hJ 472
        · refine S_iload (pc := 463) hC dX13_make_463 ?_
          refine S_iconst (pc := 465) hC dX13_make_465 (by decide) ?_
          refine S_iadd (pc := 466) hC dX13_make_466 ?_
          refine S_goto (pc := 467) (tgt := 472) hC dX13_make_467 (by decide) ?_
          exact hJ 472
  have hB472 : zin 16 [0, 1, 4, 5, 6, 8, 11, 14] (aX13_make_472 mc ms X Q) X 472 := by
    intro u v vs st M hb
    rw [hXe]
    refine fun lv hp => S_block (L := 472) (live := [0, 1, 4, 5, 6, 8, 11, 14]) ?_ u v lv vs st M hp hb
    unfold aX13_make_472
    refine S_iadd (pc := 472) hC dX13_make_472 ?_
    refine S_iaload (pc := 473) hC dX13_make_473 ?_
    refine S_bipush (pc := 474) hC dX13_make_474 (by decide) ?_
    refine S_bipush (pc := 476) hC dX13_make_476 (by decide) ?_
    refine S_iload (pc := 478) hC dX13_make_478 ?_
    refine S_imul (pc := 480) hC dX13_make_480 ?_
    refine S_isub (pc := 481) hC dX13_make_481 ?_
    refine S_icmp_ne (pc := 482) (tgt := 489) hC dX13_make_482 (by decide) ?_ ?_
    · exact hJ 489
    · refine S_iconst (pc := 485) hC dX13_make_485 (by decide) ?_
      refine S_goto (pc := 486) (tgt := 490) hC dX13_make_486 (by decide) ?_
      exact hJ 490
  have hB489 : zin 16 [0, 1, 4, 5, 6, 8, 11, 14] (aX13_make_489 mc ms X Q) X 489 := by
    intro u v vs st M hb
    rw [hXe]
    refine fun lv hp => S_block (L := 489) (live := [0, 1, 4, 5, 6, 8, 11, 14]) ?_ u v lv vs st M hp hb
    unfold aX13_make_489
    refine S_iconst (pc := 489) hC dX13_make_489 (by decide) ?_
    exact hJ 490
  have hB490 : zin 16 [0, 1, 4, 5, 6, 8, 11, 14] (aX13_make_490 mc ms X Q) X 490 := by
    intro u v vs st M hb
    rw [hXe]
    refine fun lv hp => S_block (L := 490) (live := [0, 1, 4, 5, 6, 8, 11, 14]) ?_ u v lv vs st M hp hb
    unfold aX13_make_490
    refine S_istore (pc := 490) hC dX13_make_490 (by decide) ?_
    refine S_aload_n (pc := 492) hC dX13_make_492 rfl ?_
    refine S_getR (pc := 493) hC cfX13 (by decide) (Or.inr ⟨_, rfl⟩) wd_1271 dX13_make_493 ?_
    refine S_iload (pc := 496) hC dX13_make_496 ?_
    refine S_bipush (pc := 498) hC dX13_make_498 (by decide) ?_
    refine S_iadd (pc := 500) hC dX13_make_500 ?_
    refine S_iload (pc := 501) hC dX13_make_501 ?_
    refine S_if_ne (pc := 503) (tgt := 511) hC dX13_make_503 (by decide) ?_ ?_
    · exact hJ 511
    · refine S_iload (pc := 506) hC dX13_make_506 ?_
      refine S_if_eq (pc := 508) (tgt := 519) hC dX13_make_508 (by decide) ?_ ?_
      · refine S_iconst (pc := 519) hC dX13_make_519 (by decide) ?_
        exact hJ 520
      · exact hJ 511
  have hB511 : zin 16 [0, 1, 4, 5, 6, 8, 11] (aX13_make_511 mc ms X Q) X 511 := by
    intro u v vs st M hb
    rw [hXe]
    refine fun lv hp => S_block (L := 511) (live := [0, 1, 4, 5, 6, 8, 11]) ?_ u v lv vs st M hp hb
    unfold aX13_make_511
    refine S_iload (pc := 511) hC dX13_make_511 ?_
    refine S_bipush (pc := 513) hC dX13_make_513 (by decide) ?_
    refine S_irem (pc := 515) hC dX13_make_515 ?_
    refine S_goto (pc := 516) (tgt := 520) hC dX13_make_516 (by decide) ?_
    exact hJ 520
  have hB520 : zin 16 [0, 1, 5, 6, 8, 11] (aX13_make_520 mc ms X Q) X 520 := by
    intro u v vs st M hb
    rw [hXe]
    refine fun lv hp => S_block (L := 520) (live := [0, 1, 5, 6, 8, 11]) ?_ u v lv vs st M hp hb
    unfold aX13_make_520
    refine S_iastore (pc := 520) hC dX13_make_520 ?_
    refine S_aload_n (pc := 521) hC dX13_make_521 rfl ?_
    refine S_getR (pc := 522) hC cfX13 (by decide) (Or.inr ⟨_, rfl⟩) wd_1271 dX13_make_522 ?_
    refine S_iload (pc := 525) hC dX13_make_525 ?_
    refine S_bipush (pc := 527) hC dX13_make_527 (by decide) ?_
    refine S_iadd (pc := 529) hC dX13_make_529 ?_
    refine S_iload (pc := 530) hC dX13_make_530 ?_
    refine S_if_ne (pc := 532) (tgt := 540) hC dX13_make_532 (by decide) ?_ ?_
    · exact hJ 540
    · refine S_iload (pc := 535) hC dX13_make_535 ?_
      refine S_if_eq (pc := 537) (tgt := 544) hC dX13_make_537 (by decide) ?_ ?_
      · refine S_aload_n (pc := 544) hC dX13_make_544 rfl ?_
        refine S_getR (pc := 545) hC cfX13 (by decide) (Or.inr ⟨_, rfl⟩) wd_1271 dX13_make_545 ?_
        refine S_iload_n (pc := 548) hC dX13_make_548 rfl ?_
        refine S_bipush (pc := 549) hC dX13_make_549 (by decide) ?_
        refine S_iadd (pc := 551) hC dX13_make_551 ?_
        refine S_iaload (pc := 552) hC dX13_make_552 ?_
        refine S_iconst (pc := 553) hC dX13_make_553 (by decide) ?_
        refine S_iadd (pc := 554) hC dX13_make_554 ?_
        exact hJ 555
      · exact hJ 540
  have hB540 : zin 16 [0, 1, 5, 6] (aX13_make_540 mc ms X Q) X 540 := by
    intro u v vs st M hb
    rw [hXe]
    refine fun lv hp => S_block (L := 540) (live := [0, 1, 5, 6]) ?_ u v lv vs st M hp hb
    unfold aX13_make_540
    refine S_iconst (pc := 540) hC dX13_make_540 (by decide) ?_
    refine S_goto (pc := 541) (tgt := 555) hC dX13_make_541 (by decide) ?_
    exact hJ 555
  have hB555 : zin 16 [0, 1, 5, 6] (aX13_make_555 mc ms X Q) X 555 := by
    intro u v vs st M hb
    rw [hXe]
    refine fun lv hp => S_block (L := 555) (live := [0, 1, 5, 6]) ?_ u v lv vs st M hp hb
    unfold aX13_make_555
    refine S_iastore (pc := 555) hC dX13_make_555 ?_
    refine S_aload_n (pc := 556) hC dX13_make_556 rfl ?_
    refine S_getR (pc := 557) hC cfX13 (by decide) (Or.inr ⟨_, rfl⟩) wd_1271 dX13_make_557 ?_
    refine S_iload (pc := 560) hC dX13_make_560 ?_
    refine S_bipush (pc := 562) hC dX13_make_562 (by decide) ?_
    refine S_iadd (pc := 564) hC dX13_make_564 ?_
    refine S_aload_n (pc := 565) hC dX13_make_565 rfl ?_
    refine S_getR (pc := 566) hC cfX13 (by decide) (Or.inr ⟨_, rfl⟩) wd_1271 dX13_make_566 ?_
    refine S_iload_n (pc := 569) hC dX13_make_569 rfl ?_
    refine S_bipush (pc := 570) hC dX13_make_570 (by decide) ?_
    refine S_iadd (pc := 572) hC dX13_make_572 ?_
    refine S_iaload (pc := 573) hC dX13_make_573 ?_
    refine S_iload (pc := 574) hC dX13_make_574 ?_
    refine S_iadd (pc := 576) hC dX13_make_576 ?_
    refine S_iastore (pc := 577) hC dX13_make_577 ?_
    refine S_aload_n (pc := 578) hC dX13_make_578 rfl ?_
    refine S_getR (pc := 579) hC cfX13 (by decide) (Or.inr ⟨_, rfl⟩) wd_1271 dX13_make_579 ?_
    refine S_iload (pc := 582) hC dX13_make_582 ?_
    refine S_bipush (pc := 584) hC dX13_make_584 (by decide) ?_
    refine S_iadd (pc := 586) hC dX13_make_586 ?_
    refine S_iconst (pc := 587) hC dX13_make_587 (by decide) ?_
    refine S_iload (pc := 588) hC dX13_make_588 ?_
    refine S_isub (pc := 590) hC dX13_make_590 ?_
    refine S_iastore (pc := 591) hC dX13_make_591 ?_
    exact S_vreturn (pc := 592) hC hr dX13_make_592
  have := h.2 X hB0 hB52 hB74 hB75 hB102 hB103 hB122 hB127 hB132 hB207 hB237 hB240 hB266 hB290 hB330 hB380 hB381 hB415 hB432 hB433 hB472 hB489 hB490 hB511 hB520 hB540 hB555
  rw [hXe] at this
  exact this lv hlv
theorem vX13_make_0 {mc ms : Nat} {X : Nat → zV} {Q : zQt} {M : zM} {x1 : Int32} {x2 : Int32} (hW : zFix M)  (h : wX13_fromOf 0 0 [.int x2] M (fun r M1 => kX13_make_4 mc ms X Q 0 0 [some (.ref 55), some (.int x1), some (.int x2), none, none, none, none, none, none, none, none, none, none, none, none, none] (r.toList ++ []) M1)) : aX13_make_0 mc ms X Q 0 0 [some (.ref 55), some (.int x1), some (.int x2), none, none, none, none, none, none, none, none, none, none, none, none, none] [] M := ⟨Nat.le_of_ble_eq_true rfl, rfl, 0, 0, Nat.zero_le _, Nat.zero_le _, h⟩
theorem vX13_make_52 {mc ms : Nat} {X : Nat → zV} {Q : zQt} {M : zM} {x1 : Int32} {x2 : Int32} {x3 : Int32} {x4 : Int32} {x5 : Int32} {x6 : Int32} {x7 : Int32} {s0 : Int32} (hW : zFix M)  (h : (s0 = 0 → X 74 0 0 [.ref 55, .int x1, .int x2, .int x3, .int x4, .int x5, .int x6, .int x7, .int s0] [] M) ∧ (¬ s0 = 0 → wX13_takesInPassing 0 0 [.ref 55, .int x1, .int x3, .int x4] M (fun r M1 => kX13_make_67 mc ms X Q 0 0 [some (.ref 55), some (.int x1), some (.int x2), some (.int x3), some (.int x4), some (.int x5), some (.int x6), some (.int x7), some (.int s0), none, none, none, none, none, none, none] (r.toList ++ []) M1))) : aX13_make_52 mc ms X Q 0 0 [some (.ref 55), some (.int x1), some (.int x2), some (.int x3), some (.int x4), some (.int x5), some (.int x6), some (.int x7), none, none, none, none, none, none, none, none] [.int s0] M := ⟨fun c56 => (h.1 c56), fun c56 => ⟨Nat.le_of_ble_eq_true rfl, rfl, (fxs_55 hW), 0, 0, Nat.zero_le _, Nat.zero_le _, (h.2 c56)⟩⟩
theorem vX13_make_74 {mc ms : Nat} {X : Nat → zV} {Q : zQt} {M : zM} {x1 : Int32} {x2 : Int32} {x3 : Int32} {x4 : Int32} {x5 : Int32} {x6 : Int32} {x7 : Int32} {x8 : Int32} (hW : zFix M)  (h : X 75 0 0 [.ref 55, .int x1, .int x2, .int x3, .int x4, .int x5, .int x6, .int x7, .int x8] [.int 0] M) : aX13_make_74 mc ms X Q 0 0 [some (.ref 55), some (.int x1), some (.int x2), some (.int x3), some (.int x4), some (.int x5), some (.int x6), some (.int x7), some (.int x8), none, none, none, none, none, none, none] [] M := h
theorem vX13_make_75 {mc ms : Nat} {X : Nat → zV} {Q : zQt} {M : zM} {x1 : Int32} {x2 : Int32} {x3 : Int32} {x4 : Int32} {x5 : Int32} {x6 : Int32} {x7 : Int32} {x8 : Int32} {s0 : Int32} (hW : zFix M)  (h : wX13_kindOf 0 0 [.int x7] M (fun r M1 => kX13_make_82 mc ms X Q 0 0 [some (.ref 55), some (.int x1), some (.int x2), some (.int x3), some (.int x4), some (.int x5), some (.int x6), some (.int x7), some (.int x8), some (.int s0), none, none, none, none, none, none] (r.toList ++ []) M1)) : aX13_make_75 mc ms X Q 0 0 [some (.ref 55), some (.int x1), some (.int x2), some (.int x3), some (.int x4), some (.int x5), some (.int x6), some (.int x7), some (.int x8), none, none, none, none, none, none, none] [.int s0] M := ⟨Nat.le_of_ble_eq_true rfl, rfl, 0, 0, Nat.zero_le _, Nat.zero_le _, h⟩
theorem vX13_make_102 {mc ms : Nat} {X : Nat → zV} {Q : zQt} {M : zM} {x1 : Int32} {x2 : Int32} {x3 : Int32} {x4 : Int32} {x5 : Int32} {x6 : Int32} {x7 : Int32} {x8 : Int32} {x9 : Int32} (hW : zFix M)  (h : X 103 0 0 [.ref 55, .int x1, .int x2, .int x3, .int x4, .int x5, .int x6, .int x7, .int x8, .int x9] [.int 0] M) : aX13_make_102 mc ms X Q 0 0 [some (.ref 55), some (.int x1), some (.int x2), some (.int x3), some (.int x4), some (.int x5), some (.int x6), some (.int x7), some (.int x8), some (.int x9), none, none, none, none, none, none] [] M := h
theorem vX13_make_103 {mc ms : Nat} {X : Nat → zV} {Q : zQt} {M : zM} {x1 : Int32} {x2 : Int32} {x3 : Int32} {x4 : Int32} {x5 : Int32} {x6 : Int32} {x7 : Int32} {x8 : Int32} {x9 : Int32} {s0 : Int32} (hW : zFix M)  (h : (x9 = 0 → vp_in ((x1 + x4)) 414 ∧ (((M : zM).1 65 ((x1 + x4) : Int32).toNatClampNeg) ≤ 0 → X 127 0 0 [.ref 55, .int x1, .int x2, .int x3, .int x4, .int x5, .int x6, .int x7, .int x8, .int x9, .int s0] [.int 0] M) ∧ (¬ ((M : zM).1 65 ((x1 + x4) : Int32).toNatClampNeg) ≤ 0 → X 122 0 0 [.ref 55, .int x1, .int x2, .int x3, .int x4, .int x5, .int x6, .int x7, .int x8, .int x9, .int s0] [] M)) ∧ (¬ x9 = 0 → X 122 0 0 [.ref 55, .int x1, .int x2, .int x3, .int x4, .int x5, .int x6, .int x7, .int x8, .int x9, .int s0] [] M)) : aX13_make_103 mc ms X Q 0 0 [some (.ref 55), some (.int x1), some (.int x2), some (.int x3), some (.int x4), some (.int x5), some (.int x6), some (.int x7), some (.int x8), some (.int x9), none, none, none, none, none, none] [.int s0] M := ⟨fun c107 => ⟨(fxs_55 hW), 65, (fxr_55_16 hW), ⟨414, (fxs_65 hW), (h.1 c107).1, ⟨fun c119 => ((h.1 c107).2.1 c119), fun c119 => ((h.1 c107).2.2 c119)⟩⟩⟩, fun c107 => (h.2 c107)⟩
theorem vX13_make_122 {mc ms : Nat} {X : Nat → zV} {Q : zQt} {M : zM} {x1 : Int32} {x2 : Int32} {x3 : Int32} {x4 : Int32} {x5 : Int32} {x6 : Int32} {x7 : Int32} {x8 : Int32} {x9 : Int32} {x10 : Int32} (hW : zFix M)  (h : X 127 0 0 [.ref 55, .int x1, .int x2, .int x3, .int x4, .int x5, .int x6, .int x7, .int x8, .int x9, .int x10] [.int 1] M) : aX13_make_122 mc ms X Q 0 0 [some (.ref 55), some (.int x1), some (.int x2), some (.int x3), some (.int x4), some (.int x5), some (.int x6), some (.int x7), some (.int x8), some (.int x9), some (.int x10), none, none, none, none, none] [] M := h
theorem vX13_make_127 {mc ms : Nat} {X : Nat → zV} {Q : zQt} {M : zM} {x1 : Int32} {x2 : Int32} {x3 : Int32} {x4 : Int32} {x5 : Int32} {x6 : Int32} {x7 : Int32} {x8 : Int32} {x9 : Int32} {x10 : Int32} {s0 : Int32} (hW : zFix M)  (h : X 132 0 0 [.ref 55, .int x1, .int x2, .int x3, .int x4, .int x5, .int x6, .int x7, .int x8, .int x9, .int x10, .int s0, .int 0] [] M) : aX13_make_127 mc ms X Q 0 0 [some (.ref 55), some (.int x1), some (.int x2), some (.int x3), some (.int x4), some (.int x5), some (.int x6), some (.int x7), some (.int x8), some (.int x9), some (.int x10), none, none, none, none, none] [.int s0] M := h
theorem vX13_make_132 {mc ms : Nat} {X : Nat → zV} {Q : zQt} {M : zM} {x1 : Int32} {x2 : Int32} {x3 : Int32} {x4 : Int32} {x5 : Int32} {x6 : Int32} {x7 : Int32} {x8 : Int32} {x9 : Int32} {x10 : Int32} {x11 : Int32} {x12 : Int32} (hW : zFix M)  (h : ((69 : Int32) ≤ x12 → vp_in ((x5 + x3)) 414 ∧ ∀ M173 : zM, M173 = (zsI M 65 ((x5 + x3) : Int32).toNatClampNeg 0) → ((x2 / (4096 : Int32)) ≤ 0 → X 207 0 0 [.ref 55, .int x1, .int x3, .int x4, .int x5, .int x6, .int x7, .int x8, .int x9, .int x10, .int x11] [.int x7, .int (x5 + x4), .ref 65] M173) ∧ (¬ (x2 / (4096 : Int32)) ≤ 0 → X 207 0 0 [.ref 55, .int x1, .int x3, .int x4, .int x5, .int x6, .int x7, .int x8, .int x9, .int x10, .int x11] [.int ((x2 / (4096 : Int32)) + ((6 : Int32) * x6)), .int (x5 + x4), .ref 65] M173)) ∧ (¬ (69 : Int32) ≤ x12 → vp_in ((x1 + x12)) 414 ∧ vp_in ((x5 + x12)) 414 ∧ ∀ M157 : zM, M157 = (zsI M 65 ((x5 + x12) : Int32).toNatClampNeg (((M : zM).1 65 ((x1 + x12) : Int32).toNatClampNeg))) → X 132 0 0 [.ref 55, .int x1, .int x2, .int x3, .int x4, .int x5, .int x6, .int x7, .int x8, .int x9, .int x10, .int x11, .int (x12 + 1)] [] M157)) : aX13_make_132 mc ms X Q 0 0 [some (.ref 55), some (.int x1), some (.int x2), some (.int x3), some (.int x4), some (.int x5), some (.int x6), some (.int x7), some (.int x8), some (.int x9), some (.int x10), some (.int x11), some (.int x12), none, none, none] [] M := ⟨fun c136 => ⟨(fxs_55 hW), 65, (fxr_55_16 hW), ⟨414, (fxs_65 hW), (h.1 c136).1, (have h173 := (h.1 c136).2 _ rfl; ⟨(fxs_55 hW), 65, (fxr_55_16 hW), ⟨by decide, ⟨fun c188 => (h173.1 c188), fun c188 => ⟨by decide, (h173.2 c188)⟩⟩⟩⟩)⟩⟩, fun c136 => ⟨(fxs_55 hW), 65, (fxr_55_16 hW), ⟨(fxs_55 hW), 65, (fxr_55_16 hW), ⟨414, (fxs_65 hW), (h.2 c136).1, ⟨414, (fxs_65 hW), (h.2 c136).2.1, (have h157 := (h.2 c136).2.2 _ rfl; h157)⟩⟩⟩⟩⟩
theorem vX13_make_207 {mc ms : Nat} {X : Nat → zV} {Q : zQt} {M : zM} {x1 : Int32} {x3 : Int32} {x4 : Int32} {x5 : Int32} {x6 : Int32} {x7 : Int32} {x8 : Int32} {x9 : Int32} {x10 : Int32} {x11 : Int32} {s0 : Int32} {s1 : Int32} (hW : zFix M)  (h : vp_in s1 414 ∧ ∀ M207 : zM, M207 = (zsI M 65 (s1 : Int32).toNatClampNeg s0) → (x9 = 0 → X 240 0 0 [.ref 55, .int x1, .int x3, .int x4, .int x5, .int x6, .int x7, .int x8, .int x10, .int x11] [] M207) ∧ (¬ x9 = 0 → (x6 = 0 → X 237 0 0 [.ref 55, .int x1, .int x3, .int x4, .int x5, .int x6, .int x7, .int x8, .int x10, .int x11] [.int (x4 - (8 : Int32)), .int x5, .ref 65] M207) ∧ (¬ x6 = 0 → X 237 0 0 [.ref 55, .int x1, .int x3, .int x4, .int x5, .int x6, .int x7, .int x8, .int x10, .int x11] [.int (x4 + (8 : Int32)), .int x5, .ref 65] M207))) : aX13_make_207 mc ms X Q 0 0 [some (.ref 55), some (.int x1), none, some (.int x3), some (.int x4), some (.int x5), some (.int x6), some (.int x7), some (.int x8), some (.int x9), some (.int x10), some (.int x11), none, none, none, none] [.int s0, .int s1, .ref 65] M := ⟨414, (fxs_65 hW), h.1, (have h207 := h.2 _ rfl; ⟨fun c210 => (h207.1 c210), fun c210 => ⟨(fxs_55 hW), 65, (fxr_55_16 hW), ⟨fun c221 => ((h207.2 c210).1 c221), fun c221 => ((h207.2 c210).2 c221)⟩⟩⟩)⟩
theorem vX13_make_237 {mc ms : Nat} {X : Nat → zV} {Q : zQt} {M : zM} {x1 : Int32} {x3 : Int32} {x4 : Int32} {x5 : Int32} {x6 : Int32} {x7 : Int32} {x8 : Int32} {x10 : Int32} {x11 : Int32} {s0 : Int32} {s1 : Int32} (hW : zFix M)  (h : vp_in ((s1 + s0)) 414 ∧ ∀ M239 : zM, M239 = (zsI M 65 ((s1 + s0) : Int32).toNatClampNeg 0) → X 240 0 0 [.ref 55, .int x1, .int x3, .int x4, .int x5, .int x6, .int x7, .int x8, .int x10, .int x11] [] M239) : aX13_make_237 mc ms X Q 0 0 [some (.ref 55), some (.int x1), none, some (.int x3), some (.int x4), some (.int x5), some (.int x6), some (.int x7), some (.int x8), none, some (.int x10), some (.int x11), none, none, none, none] [.int s0, .int s1, .ref 65] M := ⟨414, (fxs_65 hW), h.1, (have h239 := h.2 _ rfl; h239)⟩
theorem vX13_make_240 {mc ms : Nat} {X : Nat → zV} {Q : zQt} {M : zM} {x1 : Int32} {x3 : Int32} {x4 : Int32} {x5 : Int32} {x6 : Int32} {x7 : Int32} {x8 : Int32} {x10 : Int32} {x11 : Int32} (hW : zFix M)  (h : (x10 = 0 → X 290 0 0 [.ref 55, .int x1, .int x3, .int x4, .int x5, .int x6, .int x7, .int x8, .int x11] [] M) ∧ (¬ x10 = 0 → (x4 ≤ x3 → X 266 0 0 [.ref 55, .int x1, .int x3, .int x4, .int x5, .int x6, .int x7, .int x8, .int x11] [.int (x3 - (4 : Int32)), .int x5, .ref 65] M) ∧ (¬ x4 ≤ x3 → X 266 0 0 [.ref 55, .int x1, .int x3, .int x4, .int x5, .int x6, .int x7, .int x8, .int x11] [.int (x3 + (3 : Int32)), .int x5, .ref 65] M))) : aX13_make_240 mc ms X Q 0 0 [some (.ref 55), some (.int x1), none, some (.int x3), some (.int x4), some (.int x5), some (.int x6), some (.int x7), some (.int x8), none, some (.int x10), some (.int x11), none, none, none, none] [] M := ⟨fun c242 => (h.1 c242), fun c242 => ⟨(fxs_55 hW), 65, (fxr_55_16 hW), ⟨fun c254 => ((h.2 c242).1 c254), fun c254 => ((h.2 c242).2 c254)⟩⟩⟩
theorem vX13_make_266 {mc ms : Nat} {X : Nat → zV} {Q : zQt} {M : zM} {x1 : Int32} {x3 : Int32} {x4 : Int32} {x5 : Int32} {x6 : Int32} {x7 : Int32} {x8 : Int32} {x11 : Int32} {s0 : Int32} {s1 : Int32} (hW : zFix M)  (h : vp_in ((s1 + s0)) 414 ∧ ∀ M268 : zM, M268 = (zsI M 65 ((s1 + s0) : Int32).toNatClampNeg 0) → vp_in ((x5 + ((x3 + x4) / (2 : Int32)))) 414 ∧ ∀ M289 : zM, M289 = (zsI M268 65 ((x5 + ((x3 + x4) / (2 : Int32))) : Int32).toNatClampNeg (((4 : Int32) + ((6 : Int32) * x6)))) → X 290 0 0 [.ref 55, .int x1, .int x3, .int x4, .int x5, .int x6, .int x7, .int x8, .int x11] [] M289) : aX13_make_266 mc ms X Q 0 0 [some (.ref 55), some (.int x1), none, some (.int x3), some (.int x4), some (.int x5), some (.int x6), some (.int x7), some (.int x8), none, none, some (.int x11), none, none, none, none] [.int s0, .int s1, .ref 65] M := ⟨414, (fxs_65 hW), h.1, (have h268 := h.2 _ rfl; ⟨(fxs_55 hW), 65, (fxr_55_16 hW), ⟨by decide, ⟨414, (fxs_65 hW), h268.1, (have h289 := h268.2 _ rfl; h289)⟩⟩⟩)⟩
theorem vX13_make_290 {mc ms : Nat} {X : Nat → zV} {Q : zQt} {M : zM} {x1 : Int32} {x3 : Int32} {x4 : Int32} {x5 : Int32} {x6 : Int32} {x7 : Int32} {x8 : Int32} {x11 : Int32} (hW : zFix M)  (h : wX13_kindOf 0 0 [.int x7] M (fun r M1 => kX13_make_295 mc ms X Q 0 0 [some (.ref 55), some (.int x1), none, some (.int x3), some (.int x4), some (.int x5), some (.int x6), some (.int x7), some (.int x8), none, none, some (.int x11), none, none, none, none] (r.toList ++ []) M1)) : aX13_make_290 mc ms X Q 0 0 [some (.ref 55), some (.int x1), none, some (.int x3), some (.int x4), some (.int x5), some (.int x6), some (.int x7), some (.int x8), none, none, some (.int x11), none, none, none, none] [] M := ⟨Nat.le_of_ble_eq_true rfl, rfl, 0, 0, Nat.zero_le _, Nat.zero_le _, h⟩
theorem vX13_make_330 {mc ms : Nat} {X : Nat → zV} {Q : zQt} {M : zM} {x1 : Int32} {x3 : Int32} {x4 : Int32} {x5 : Int32} {x6 : Int32} {x8 : Int32} {x11 : Int32} {s0 : Int32} (hW : zFix M)  (h : wX13_cornerRight 0 0 [.int x3] M (fun r M1 => kX13_make_347 mc ms X Q 0 0 [some (.ref 55), some (.int x1), none, some (.int x3), some (.int x4), some (.int x5), some (.int x6), none, some (.int x8), none, none, some (.int x11), some (.int s0), none, none, none] (r.toList ++ [.int s0, .int (x5 + (65 : Int32)), .ref 65]) M1)) : aX13_make_330 mc ms X Q 0 0 [some (.ref 55), some (.int x1), none, some (.int x3), some (.int x4), some (.int x5), some (.int x6), none, some (.int x8), none, none, some (.int x11), none, none, none, none] [.int s0] M := ⟨(fxs_55 hW), 65, (fxr_55_16 hW), ⟨Nat.le_of_ble_eq_true rfl, rfl, 0, 0, Nat.zero_le _, Nat.zero_le _, h⟩⟩
theorem vX13_make_380 {mc ms : Nat} {X : Nat → zV} {Q : zQt} {M : zM} {x1 : Int32} {x4 : Int32} {x5 : Int32} {x6 : Int32} {x8 : Int32} {x11 : Int32} (hW : zFix M)  (h : X 381 0 0 [.ref 55, .int x1, .int x4, .int x5, .int x6, .int x8, .int x11] [.int 0] M) : aX13_make_380 mc ms X Q 0 0 [some (.ref 55), some (.int x1), none, none, some (.int x4), some (.int x5), some (.int x6), none, some (.int x8), none, none, some (.int x11), none, none, none, none] [] M := h
theorem vX13_make_381 {mc ms : Nat} {X : Nat → zV} {Q : zQt} {M : zM} {x1 : Int32} {x4 : Int32} {x5 : Int32} {x6 : Int32} {x8 : Int32} {x11 : Int32} {s0 : Int32} (hW : zFix M)  (h : (s0 = 0 → X 432 0 0 [.ref 55, .int x1, .int x4, .int x5, .int x6, .int x8, .int x11, .int s0] [] M) ∧ (¬ s0 = 0 → ((x4 - x4 / (8 : Int32) * (8 : Int32)) ≤ 0 → X 432 0 0 [.ref 55, .int x1, .int x4, .int x5, .int x6, .int x8, .int x11, .int s0] [] M) ∧ (¬ (x4 - x4 / (8 : Int32) * (8 : Int32)) ≤ 0 → (x4 ≤ 0 → X 415 0 0 [.ref 55, .int x1, .int x4, .int x5, .int x6, .int x8, .int x11, .int s0] [.int 0, .int x5, .ref 65] M) ∧ (¬ x4 ≤ 0 → X 415 0 0 [.ref 55, .int x1, .int x4, .int x5, .int x6, .int x8, .int x11, .int s0] [.int (x4 - (1 : Int32)), .int x5, .ref 65] M)))) : aX13_make_381 mc ms X Q 0 0 [some (.ref 55), some (.int x1), none, none, some (.int x4), some (.int x5), some (.int x6), none, some (.int x8), none, none, some (.int x11), none, none, none, none] [.int s0] M := ⟨fun c385 => (h.1 c385), fun c385 => ⟨by decide, ⟨fun c393 => ((h.2 c385).1 c393), fun c393 => ⟨(fxs_55 hW), 65, (fxr_55_16 hW), ⟨fun c404 => (((h.2 c385).2 c393).1 c404), fun c404 => (((h.2 c385).2 c393).2 c404)⟩⟩⟩⟩⟩
theorem vX13_make_415 {mc ms : Nat} {X : Nat → zV} {Q : zQt} {M : zM} {x1 : Int32} {x4 : Int32} {x5 : Int32} {x6 : Int32} {x8 : Int32} {x11 : Int32} {x13 : Int32} {s0 : Int32} {s1 : Int32} (hW : zFix M)  (h : vp_in ((s1 + s0)) 414 ∧ (((M : zM).1 65 ((s1 + s0) : Int32).toNatClampNeg) = ((7 : Int32) - ((6 : Int32) * x6)) → X 433 0 0 [.ref 55, .int x1, .int x4, .int x5, .int x6, .int x8, .int x11, .int x13] [.int 1] M) ∧ (¬ ((M : zM).1 65 ((s1 + s0) : Int32).toNatClampNeg) = ((7 : Int32) - ((6 : Int32) * x6)) → X 432 0 0 [.ref 55, .int x1, .int x4, .int x5, .int x6, .int x8, .int x11, .int x13] [] M)) : aX13_make_415 mc ms X Q 0 0 [some (.ref 55), some (.int x1), none, none, some (.int x4), some (.int x5), some (.int x6), none, some (.int x8), none, none, some (.int x11), none, some (.int x13), none, none] [.int s0, .int s1, .ref 65] M := ⟨414, (fxs_65 hW), h.1, ⟨fun c425 => (h.2.1 c425), fun c425 => (h.2.2 c425)⟩⟩
theorem vX13_make_432 {mc ms : Nat} {X : Nat → zV} {Q : zQt} {M : zM} {x1 : Int32} {x4 : Int32} {x5 : Int32} {x6 : Int32} {x8 : Int32} {x11 : Int32} {x13 : Int32} (hW : zFix M)  (h : X 433 0 0 [.ref 55, .int x1, .int x4, .int x5, .int x6, .int x8, .int x11, .int x13] [.int 0] M) : aX13_make_432 mc ms X Q 0 0 [some (.ref 55), some (.int x1), none, none, some (.int x4), some (.int x5), some (.int x6), none, some (.int x8), none, none, some (.int x11), none, some (.int x13), none, none] [] M := h
theorem vX13_make_433 {mc ms : Nat} {X : Nat → zV} {Q : zQt} {M : zM} {x1 : Int32} {x4 : Int32} {x5 : Int32} {x6 : Int32} {x8 : Int32} {x11 : Int32} {x13 : Int32} {s0 : Int32} (hW : zFix M)  (h : (x13 = 0 → X 489 0 0 [.ref 55, .int x1, .int x4, .int x5, .int x6, .int x8, .int x11, .int s0] [] M) ∧ (¬ x13 = 0 → ((7 : Int32) ≤ (x4 - x4 / (8 : Int32) * (8 : Int32)) → X 489 0 0 [.ref 55, .int x1, .int x4, .int x5, .int x6, .int x8, .int x11, .int s0] [] M) ∧ (¬ (7 : Int32) ≤ (x4 - x4 / (8 : Int32) * (8 : Int32)) → ((63 : Int32) ≤ x4 → X 472 0 0 [.ref 55, .int x1, .int x4, .int x5, .int x6, .int x8, .int x11, .int s0] [.int 63, .int x5, .ref 65] M) ∧ (¬ (63 : Int32) ≤ x4 → X 472 0 0 [.ref 55, .int x1, .int x4, .int x5, .int x6, .int x8, .int x11, .int s0] [.int (x4 + (1 : Int32)), .int x5, .ref 65] M)))) : aX13_make_433 mc ms X Q 0 0 [some (.ref 55), some (.int x1), none, none, some (.int x4), some (.int x5), some (.int x6), none, some (.int x8), none, none, some (.int x11), none, some (.int x13), none, none] [.int s0] M := ⟨fun c437 => (h.1 c437), fun c437 => ⟨by decide, ⟨fun c447 => ((h.2 c437).1 c447), fun c447 => ⟨(fxs_55 hW), 65, (fxr_55_16 hW), ⟨fun c460 => (((h.2 c437).2 c447).1 c460), fun c460 => (((h.2 c437).2 c447).2 c460)⟩⟩⟩⟩⟩
theorem vX13_make_472 {mc ms : Nat} {X : Nat → zV} {Q : zQt} {M : zM} {x1 : Int32} {x4 : Int32} {x5 : Int32} {x6 : Int32} {x8 : Int32} {x11 : Int32} {x14 : Int32} {s0 : Int32} {s1 : Int32} (hW : zFix M)  (h : vp_in ((s1 + s0)) 414 ∧ (((M : zM).1 65 ((s1 + s0) : Int32).toNatClampNeg) = ((7 : Int32) - ((6 : Int32) * x6)) → X 490 0 0 [.ref 55, .int x1, .int x4, .int x5, .int x6, .int x8, .int x11, .int x14] [.int 1] M) ∧ (¬ ((M : zM).1 65 ((s1 + s0) : Int32).toNatClampNeg) = ((7 : Int32) - ((6 : Int32) * x6)) → X 489 0 0 [.ref 55, .int x1, .int x4, .int x5, .int x6, .int x8, .int x11, .int x14] [] M)) : aX13_make_472 mc ms X Q 0 0 [some (.ref 55), some (.int x1), none, none, some (.int x4), some (.int x5), some (.int x6), none, some (.int x8), none, none, some (.int x11), none, none, some (.int x14), none] [.int s0, .int s1, .ref 65] M := ⟨414, (fxs_65 hW), h.1, ⟨fun c482 => (h.2.1 c482), fun c482 => (h.2.2 c482)⟩⟩
theorem vX13_make_489 {mc ms : Nat} {X : Nat → zV} {Q : zQt} {M : zM} {x1 : Int32} {x4 : Int32} {x5 : Int32} {x6 : Int32} {x8 : Int32} {x11 : Int32} {x14 : Int32} (hW : zFix M)  (h : X 490 0 0 [.ref 55, .int x1, .int x4, .int x5, .int x6, .int x8, .int x11, .int x14] [.int 0] M) : aX13_make_489 mc ms X Q 0 0 [some (.ref 55), some (.int x1), none, none, some (.int x4), some (.int x5), some (.int x6), none, some (.int x8), none, none, some (.int x11), none, none, some (.int x14), none] [] M := h
theorem vX13_make_490 {mc ms : Nat} {X : Nat → zV} {Q : zQt} {M : zM} {x1 : Int32} {x4 : Int32} {x5 : Int32} {x6 : Int32} {x8 : Int32} {x11 : Int32} {x14 : Int32} {s0 : Int32} (hW : zFix M)  (h : (x14 = 0 → (s0 = 0 → X 520 0 0 [.ref 55, .int x1, .int x5, .int x6, .int x8, .int x11] [.int (-1), .int (x5 + (66 : Int32)), .ref 65] M) ∧ (¬ s0 = 0 → X 511 0 0 [.ref 55, .int x1, .int x4, .int x5, .int x6, .int x8, .int x11] [.int (x5 + (66 : Int32)), .ref 65] M)) ∧ (¬ x14 = 0 → X 511 0 0 [.ref 55, .int x1, .int x4, .int x5, .int x6, .int x8, .int x11] [.int (x5 + (66 : Int32)), .ref 65] M)) : aX13_make_490 mc ms X Q 0 0 [some (.ref 55), some (.int x1), none, none, some (.int x4), some (.int x5), some (.int x6), none, some (.int x8), none, none, some (.int x11), none, none, some (.int x14), none] [.int s0] M := ⟨(fxs_55 hW), 65, (fxr_55_16 hW), ⟨fun c503 => ⟨fun c508 => ((h.1 c503).1 c508), fun c508 => ((h.1 c503).2 c508)⟩, fun c503 => (h.2 c503)⟩⟩
theorem vX13_make_511 {mc ms : Nat} {X : Nat → zV} {Q : zQt} {M : zM} {x1 : Int32} {x4 : Int32} {x5 : Int32} {x6 : Int32} {x8 : Int32} {x11 : Int32} {s0 : Int32} (hW : zFix M)  (h : X 520 0 0 [.ref 55, .int x1, .int x5, .int x6, .int x8, .int x11] [.int (x4 - x4 / (8 : Int32) * (8 : Int32)), .int s0, .ref 65] M) : aX13_make_511 mc ms X Q 0 0 [some (.ref 55), some (.int x1), none, none, some (.int x4), some (.int x5), some (.int x6), none, some (.int x8), none, none, some (.int x11), none, none, none, none] [.int s0, .ref 65] M := ⟨by decide, h⟩
theorem vX13_make_520 {mc ms : Nat} {X : Nat → zV} {Q : zQt} {M : zM} {x1 : Int32} {x5 : Int32} {x6 : Int32} {x8 : Int32} {x11 : Int32} {s0 : Int32} {s1 : Int32} (hW : zFix M)  (h : vp_in s1 414 ∧ ∀ M520 : zM, M520 = (zsI M 65 (s1 : Int32).toNatClampNeg s0) → (x8 = 0 → (x11 = 0 → vp_in ((x1 + (67 : Int32))) 414 ∧ X 555 0 0 [.ref 55, .int x1, .int x5, .int x6] [.int (((M520 : zM).1 65 ((x1 + (67 : Int32)) : Int32).toNatClampNeg) + (1 : Int32)), .int (x5 + (67 : Int32)), .ref 65] M520) ∧ (¬ x11 = 0 → X 540 0 0 [.ref 55, .int x1, .int x5, .int x6] [.int (x5 + (67 : Int32)), .ref 65] M520)) ∧ (¬ x8 = 0 → X 540 0 0 [.ref 55, .int x1, .int x5, .int x6] [.int (x5 + (67 : Int32)), .ref 65] M520)) : aX13_make_520 mc ms X Q 0 0 [some (.ref 55), some (.int x1), none, none, none, some (.int x5), some (.int x6), none, some (.int x8), none, none, some (.int x11), none, none, none, none] [.int s0, .int s1, .ref 65] M := ⟨414, (fxs_65 hW), h.1, (have h520 := h.2 _ rfl; ⟨(fxs_55 hW), 65, (fxr_55_16 hW), ⟨fun c532 => ⟨fun c537 => ⟨(fxs_55 hW), 65, (fxr_55_16 hW), ⟨414, (fxs_65 hW), ((h520.1 c532).1 c537).1, ((h520.1 c532).1 c537).2⟩⟩, fun c537 => ((h520.1 c532).2 c537)⟩, fun c532 => (h520.2 c532)⟩⟩)⟩
theorem vX13_make_540 {mc ms : Nat} {X : Nat → zV} {Q : zQt} {M : zM} {x1 : Int32} {x5 : Int32} {x6 : Int32} {s0 : Int32} (hW : zFix M)  (h : X 555 0 0 [.ref 55, .int x1, .int x5, .int x6] [.int 0, .int s0, .ref 65] M) : aX13_make_540 mc ms X Q 0 0 [some (.ref 55), some (.int x1), none, none, none, some (.int x5), some (.int x6), none, none, none, none, none, none, none, none, none] [.int s0, .ref 65] M := h
theorem vX13_make_555 {mc ms : Nat} {X : Nat → zV} {Q : zQt} {M : zM} {x1 : Int32} {x5 : Int32} {x6 : Int32} {s0 : Int32} {s1 : Int32} (hW : zFix M)  (h : vp_in s1 414 ∧ ∀ M555 : zM, M555 = (zsI M 65 (s1 : Int32).toNatClampNeg s0) → vp_in ((x1 + (68 : Int32))) 414 ∧ vp_in ((x5 + (68 : Int32))) 414 ∧ ∀ M577 : zM, M577 = (zsI M555 65 ((x5 + (68 : Int32)) : Int32).toNatClampNeg ((((M555 : zM).1 65 ((x1 + (68 : Int32)) : Int32).toNatClampNeg) + x6))) → vp_in ((x5 + (64 : Int32))) 414 ∧ ∀ M591 : zM, M591 = (zsI M577 65 ((x5 + (64 : Int32)) : Int32).toNatClampNeg (((1 : Int32) - x6))) → Q none M591) : aX13_make_555 mc ms X Q 0 0 [some (.ref 55), some (.int x1), none, none, none, some (.int x5), some (.int x6), none, none, none, none, none, none, none, none, none] [.int s0, .int s1, .ref 65] M := ⟨414, (fxs_65 hW), h.1, (have h555 := h.2 _ rfl; ⟨(fxs_55 hW), 65, (fxr_55_16 hW), ⟨(fxs_55 hW), 65, (fxr_55_16 hW), ⟨414, (fxs_65 hW), h555.1, ⟨414, (fxs_65 hW), h555.2.1, (have h577 := h555.2.2 _ rfl; ⟨(fxs_55 hW), 65, (fxr_55_16 hW), ⟨414, (fxs_65 hW), h577.1, (have h591 := h577.2 _ rfl; h591)⟩⟩)⟩⟩⟩⟩)⟩
theorem vkX13_make_4 {mc ms : Nat} {X : Nat → zV} {Q : zQt} {M : zM} {x1 : Int32} {x2 : Int32} {s0 : Int32} (hW : zFix M)  (h : wX13_toOf 0 0 [.int x2] M (fun r M1 => kX13_make_9 mc ms X Q 0 0 [some (.ref 55), some (.int x1), some (.int x2), some (.int s0), none, none, none, none, none, none, none, none, none, none, none, none] (r.toList ++ []) M1)) : kX13_make_4 mc ms X Q 0 0 [some (.ref 55), some (.int x1), some (.int x2), none, none, none, none, none, none, none, none, none, none, none, none, none] [.int s0] M := ⟨Nat.le_of_ble_eq_true rfl, rfl, 0, 0, Nat.zero_le _, Nat.zero_le _, h⟩
theorem vcX13_make_38 {mc ms : Nat} {X : Nat → zV} {Q : zQt} {M : zM} {x1 : Int32} {x2 : Int32} {x3 : Int32} {x4 : Int32} {x5 : Int32} {x6 : Int32} {x7 : Int32} (hW : zFix M)  (h : wX13_kindOf 0 0 [.int x7] M (fun r M1 => kX13_make_43 mc ms X Q 0 0 [some (.ref 55), some (.int x1), some (.int x2), some (.int x3), some (.int x4), some (.int x5), some (.int x6), some (.int x7), none, none, none, none, none, none, none, none] (r.toList ++ []) M1)) : kX13_make_38 mc ms X Q 0 0 [some (.ref 55), some (.int x1), some (.int x2), some (.int x3), some (.int x4), some (.int x5), some (.int x6), some (.int x7), none, none, none, none, none, none, none, none] [] M := ⟨Nat.le_of_ble_eq_true rfl, rfl, 0, 0, Nat.zero_le _, Nat.zero_le _, h⟩
theorem vcX13_make_28 {mc ms : Nat} {X : Nat → zV} {Q : zQt} {M : zM} {x1 : Int32} {x2 : Int32} {x3 : Int32} {x4 : Int32} {x5 : Int32} {x6 : Int32} (hW : zFix M)  (h : vp_in ((x1 + x3)) 414 ∧ ∀ y36 : Int32, y36 = ((M : zM).1 65 ((x1 + x3) : Int32).toNatClampNeg) → wX13_kindOf 0 0 [.int y36] M (fun r M1 => kX13_make_43 mc ms X Q 0 0 [some (.ref 55), some (.int x1), some (.int x2), some (.int x3), some (.int x4), some (.int x5), some (.int x6), some (.int y36), none, none, none, none, none, none, none, none] (r.toList ++ []) M1)) : kX13_make_28 mc ms X Q 0 0 [some (.ref 55), some (.int x1), some (.int x2), some (.int x3), some (.int x4), some (.int x5), some (.int x6), none, none, none, none, none, none, none, none, none] [] M := ⟨(fxs_55 hW), 65, (fxr_55_16 hW), ⟨414, (fxs_65 hW), h.1, (fun y36 e36 => have h36 := h.2 y36 e36; (vcX13_make_38 hW  h36))⟩⟩
theorem vkX13_make_9 {mc ms : Nat} {X : Nat → zV} {Q : zQt} {M : zM} {x1 : Int32} {x2 : Int32} {x3 : Int32} {s0 : Int32} (hW : zFix M)  (h : vp_in ((x1 + (64 : Int32))) 414 ∧ ∀ y26 : Int32, y26 = ((M : zM).1 65 ((x1 + (64 : Int32)) : Int32).toNatClampNeg) → vp_in ((x1 + x3)) 414 ∧ ∀ y36 : Int32, y36 = ((M : zM).1 65 ((x1 + x3) : Int32).toNatClampNeg) → wX13_kindOf 0 0 [.int y36] M (fun r M1 => kX13_make_43 mc ms X Q 0 0 [some (.ref 55), some (.int x1), some (.int x2), some (.int x3), some (.int s0), some (.int (x1 + (69 : Int32))), some (.int y26), some (.int y36), none, none, none, none, none, none, none, none] (r.toList ++ []) M1)) : kX13_make_9 mc ms X Q 0 0 [some (.ref 55), some (.int x1), some (.int x2), some (.int x3), none, none, none, none, none, none, none, none, none, none, none, none] [.int s0] M := ⟨(fxs_55 hW), 65, (fxr_55_16 hW), ⟨414, (fxs_65 hW), h.1, (fun y26 e26 => have h26 := h.2 y26 e26; (vcX13_make_28 hW  h26))⟩⟩
theorem vkX13_make_43 {mc ms : Nat} {X : Nat → zV} {Q : zQt} {M : zM} {x1 : Int32} {x2 : Int32} {x3 : Int32} {x4 : Int32} {x5 : Int32} {x6 : Int32} {x7 : Int32} {s0 : Int32} (hW : zFix M)  (h : (s0 = (1 : Int32) → X 52 0 0 [.ref 55, .int x1, .int x2, .int x3, .int x4, .int x5, .int x6, .int x7] [.int 1] M) ∧ (¬ s0 = (1 : Int32) → X 52 0 0 [.ref 55, .int x1, .int x2, .int x3, .int x4, .int x5, .int x6, .int x7] [.int 0] M)) : kX13_make_43 mc ms X Q 0 0 [some (.ref 55), some (.int x1), some (.int x2), some (.int x3), some (.int x4), some (.int x5), some (.int x6), some (.int x7), none, none, none, none, none, none, none, none] [.int s0] M := ⟨fun c44 => (h.1 c44), fun c44 => (h.2 c44)⟩
theorem vkX13_make_67 {mc ms : Nat} {X : Nat → zV} {Q : zQt} {M : zM} {x1 : Int32} {x2 : Int32} {x3 : Int32} {x4 : Int32} {x5 : Int32} {x6 : Int32} {x7 : Int32} {x8 : Int32} {s0 : Int32} (hW : zFix M)  (h : (s0 = 0 → X 74 0 0 [.ref 55, .int x1, .int x2, .int x3, .int x4, .int x5, .int x6, .int x7, .int x8] [] M) ∧ (¬ s0 = 0 → X 75 0 0 [.ref 55, .int x1, .int x2, .int x3, .int x4, .int x5, .int x6, .int x7, .int x8] [.int 1] M)) : kX13_make_67 mc ms X Q 0 0 [some (.ref 55), some (.int x1), some (.int x2), some (.int x3), some (.int x4), some (.int x5), some (.int x6), some (.int x7), some (.int x8), none, none, none, none, none, none, none] [.int s0] M := ⟨fun c67 => (h.1 c67), fun c67 => (h.2 c67)⟩
theorem vkX13_make_82 {mc ms : Nat} {X : Nat → zV} {Q : zQt} {M : zM} {x1 : Int32} {x2 : Int32} {x3 : Int32} {x4 : Int32} {x5 : Int32} {x6 : Int32} {x7 : Int32} {x8 : Int32} {x9 : Int32} {s0 : Int32} (hW : zFix M)  (h : (s0 = (6 : Int32) → wX13_amount 0 0 [.int (x3 - x4)] M (fun r M1 => kX13_make_94 mc ms X Q 0 0 [some (.ref 55), some (.int x1), some (.int x2), some (.int x3), some (.int x4), some (.int x5), some (.int x6), some (.int x7), some (.int x8), some (.int x9), none, none, none, none, none, none] (r.toList ++ []) M1)) ∧ (¬ s0 = (6 : Int32) → X 102 0 0 [.ref 55, .int x1, .int x2, .int x3, .int x4, .int x5, .int x6, .int x7, .int x8, .int x9] [] M)) : kX13_make_82 mc ms X Q 0 0 [some (.ref 55), some (.int x1), some (.int x2), some (.int x3), some (.int x4), some (.int x5), some (.int x6), some (.int x7), some (.int x8), some (.int x9), none, none, none, none, none, none] [.int s0] M := ⟨fun c84 => ⟨Nat.le_of_ble_eq_true rfl, rfl, 0, 0, Nat.zero_le _, Nat.zero_le _, (h.1 c84)⟩, fun c84 => (h.2 c84)⟩
theorem vkX13_make_94 {mc ms : Nat} {X : Nat → zV} {Q : zQt} {M : zM} {x1 : Int32} {x2 : Int32} {x3 : Int32} {x4 : Int32} {x5 : Int32} {x6 : Int32} {x7 : Int32} {x8 : Int32} {x9 : Int32} {s0 : Int32} (hW : zFix M)  (h : (s0 = (2 : Int32) → X 103 0 0 [.ref 55, .int x1, .int x2, .int x3, .int x4, .int x5, .int x6, .int x7, .int x8, .int x9] [.int 1] M) ∧ (¬ s0 = (2 : Int32) → X 102 0 0 [.ref 55, .int x1, .int x2, .int x3, .int x4, .int x5, .int x6, .int x7, .int x8, .int x9] [] M)) : kX13_make_94 mc ms X Q 0 0 [some (.ref 55), some (.int x1), some (.int x2), some (.int x3), some (.int x4), some (.int x5), some (.int x6), some (.int x7), some (.int x8), some (.int x9), none, none, none, none, none, none] [.int s0] M := ⟨fun c95 => (h.1 c95), fun c95 => (h.2 c95)⟩
theorem vkX13_make_295 {mc ms : Nat} {X : Nat → zV} {Q : zQt} {M : zM} {x1 : Int32} {x3 : Int32} {x4 : Int32} {x5 : Int32} {x6 : Int32} {x7 : Int32} {x8 : Int32} {x11 : Int32} {s0 : Int32} (hW : zFix M)  (h : (s0 = (6 : Int32) → vp_in ((x1 + (65 : Int32))) 414 ∧ X 330 0 0 [.ref 55, .int x1, .int x3, .int x4, .int x5, .int x6, .int x8, .int x11] [.int (((M : zM).1 65 ((x1 + (65 : Int32)) : Int32).toNatClampNeg) &&& (((3 : Int32) <<< (((2 : Int32) * x6) &&& 31)) ^^^ ((-1) : Int32)))] M) ∧ (¬ s0 = (6 : Int32) → vp_in ((x1 + (65 : Int32))) 414 ∧ X 330 0 0 [.ref 55, .int x1, .int x3, .int x4, .int x5, .int x6, .int x8, .int x11] [.int ((M : zM).1 65 ((x1 + (65 : Int32)) : Int32).toNatClampNeg)] M)) : kX13_make_295 mc ms X Q 0 0 [some (.ref 55), some (.int x1), none, some (.int x3), some (.int x4), some (.int x5), some (.int x6), some (.int x7), some (.int x8), none, none, some (.int x11), none, none, none, none] [.int s0] M := ⟨fun c297 => ⟨(fxs_55 hW), 65, (fxr_55_16 hW), ⟨414, (fxs_65 hW), (h.1 c297).1, (h.1 c297).2⟩⟩, fun c297 => ⟨(fxs_55 hW), 65, (fxr_55_16 hW), ⟨414, (fxs_65 hW), (h.2 c297).1, (h.2 c297).2⟩⟩⟩
theorem vkX13_make_347 {mc ms : Nat} {X : Nat → zV} {Q : zQt} {M : zM} {x1 : Int32} {x3 : Int32} {x4 : Int32} {x5 : Int32} {x6 : Int32} {x8 : Int32} {x11 : Int32} {x12 : Int32} {s0 : Int32} {s1 : Int32} {s2 : Int32} (hW : zFix M)  (h : wX13_cornerRight 0 0 [.int x4] M (fun r M1 => kX13_make_355 mc ms X Q 0 0 [some (.ref 55), some (.int x1), none, some (.int x3), some (.int x4), some (.int x5), some (.int x6), none, some (.int x8), none, none, some (.int x11), some (.int x12), none, none, none] (r.toList ++ [.int (s1 &&& (s0 ^^^ ((-1) : Int32))), .int s2, .ref 65]) M1)) : kX13_make_347 mc ms X Q 0 0 [some (.ref 55), some (.int x1), none, some (.int x3), some (.int x4), some (.int x5), some (.int x6), none, some (.int x8), none, none, some (.int x11), some (.int x12), none, none, none] [.int s0, .int s1, .int s2, .ref 65] M := ⟨Nat.le_of_ble_eq_true rfl, rfl, 0, 0, Nat.zero_le _, Nat.zero_le _, h⟩
theorem vkX13_make_355 {mc ms : Nat} {X : Nat → zV} {Q : zQt} {M : zM} {x1 : Int32} {x3 : Int32} {x4 : Int32} {x5 : Int32} {x6 : Int32} {x8 : Int32} {x11 : Int32} {x12 : Int32} {s0 : Int32} {s1 : Int32} {s2 : Int32} (hW : zFix M)  (h : vp_in s2 414 ∧ ∀ M358 : zM, M358 = (zsI M 65 (s2 : Int32).toNatClampNeg ((s1 &&& (s0 ^^^ ((-1) : Int32))))) → (x8 = 0 → X 380 0 0 [.ref 55, .int x1, .int x4, .int x5, .int x6, .int x8, .int x11] [] M358) ∧ (¬ x8 = 0 → wX13_amount 0 0 [.int (x3 - x4)] M358 (fun r M1 => kX13_make_371 mc ms X Q 0 0 [some (.ref 55), some (.int x1), none, some (.int x3), some (.int x4), some (.int x5), some (.int x6), none, some (.int x8), none, none, some (.int x11), some (.int x12), none, none, none] (r.toList ++ []) M1))) : kX13_make_355 mc ms X Q 0 0 [some (.ref 55), some (.int x1), none, some (.int x3), some (.int x4), some (.int x5), some (.int x6), none, some (.int x8), none, none, some (.int x11), some (.int x12), none, none, none] [.int s0, .int s1, .int s2, .ref 65] M := ⟨414, (fxs_65 hW), h.1, (have h358 := h.2 _ rfl; ⟨fun c361 => (h358.1 c361), fun c361 => ⟨Nat.le_of_ble_eq_true rfl, rfl, 0, 0, Nat.zero_le _, Nat.zero_le _, (h358.2 c361)⟩⟩)⟩
theorem vkX13_make_371 {mc ms : Nat} {X : Nat → zV} {Q : zQt} {M : zM} {x1 : Int32} {x3 : Int32} {x4 : Int32} {x5 : Int32} {x6 : Int32} {x8 : Int32} {x11 : Int32} {x12 : Int32} {s0 : Int32} (hW : zFix M)  (h : (s0 = (16 : Int32) → X 381 0 0 [.ref 55, .int x1, .int x4, .int x5, .int x6, .int x8, .int x11] [.int 1] M) ∧ (¬ s0 = (16 : Int32) → X 380 0 0 [.ref 55, .int x1, .int x4, .int x5, .int x6, .int x8, .int x11] [] M)) : kX13_make_371 mc ms X Q 0 0 [some (.ref 55), some (.int x1), none, some (.int x3), some (.int x4), some (.int x5), some (.int x6), none, some (.int x8), none, none, some (.int x11), some (.int x12), none, none, none] [.int s0] M := ⟨fun c373 => (h.1 c373), fun c373 => (h.2 c373)⟩
theorem dX13_isLegal_0 : decode cX13_isLegal 0 = .ok (.aload_n 0, 1) := by decide +kernel
theorem dX13_isLegal_1 : decode cX13_isLegal 1 = .ok (.iload_n 1, 1) := by decide +kernel
theorem dX13_isLegal_2 : decode cX13_isLegal 2 = .ok (.iload_n 2, 1) := by decide +kernel
theorem dX13_isLegal_3 : decode cX13_isLegal 3 = .ok (.iload_n 3, 1) := by decide +kernel
theorem dX13_isLegal_4 : decode cX13_isLegal 4 = .ok (.invokevirtual 109, 3) := by decide +kernel
theorem dX13_isLegal_7 : decode cX13_isLegal 7 = .ok (.ifCond .ne 5, 3) := by decide +kernel
theorem dX13_isLegal_10 : decode cX13_isLegal 10 = .ok (.iconst 0, 1) := by decide +kernel
theorem dX13_isLegal_11 : decode cX13_isLegal 11 = .ok (.ireturn, 1) := by decide +kernel
theorem dX13_isLegal_12 : decode cX13_isLegal 12 = .ok (.aload_n 0, 1) := by decide +kernel
theorem dX13_isLegal_13 : decode cX13_isLegal 13 = .ok (.iload_n 1, 1) := by decide +kernel
theorem dX13_isLegal_14 : decode cX13_isLegal 14 = .ok (.iload_n 2, 1) := by decide +kernel
theorem dX13_isLegal_15 : decode cX13_isLegal 15 = .ok (.bipush 64, 2) := by decide +kernel
theorem dX13_isLegal_17 : decode cX13_isLegal 17 = .ok (.iload_n 3, 1) := by decide +kernel
theorem dX13_isLegal_18 : decode cX13_isLegal 18 = .ok (.imul, 1) := by decide +kernel
theorem dX13_isLegal_19 : decode cX13_isLegal 19 = .ok (.iadd, 1) := by decide +kernel
theorem dX13_isLegal_20 : decode cX13_isLegal 20 = .ok (.invokevirtual 112, 3) := by decide +kernel
theorem dX13_isLegal_23 : decode cX13_isLegal 23 = .ok (.aload_n 0, 1) := by decide +kernel
theorem dX13_isLegal_24 : decode cX13_isLegal 24 = .ok (.iload_n 1, 1) := by decide +kernel
theorem dX13_isLegal_25 : decode cX13_isLegal 25 = .ok (.bipush 69, 2) := by decide +kernel
theorem dX13_isLegal_27 : decode cX13_isLegal 27 = .ok (.iadd, 1) := by decide +kernel
theorem dX13_isLegal_28 : decode cX13_isLegal 28 = .ok (.aload_n 0, 1) := by decide +kernel
theorem dX13_isLegal_29 : decode cX13_isLegal 29 = .ok (.getfield 43, 3) := by decide +kernel
theorem dX13_isLegal_32 : decode cX13_isLegal 32 = .ok (.iload_n 1, 1) := by decide +kernel
theorem dX13_isLegal_33 : decode cX13_isLegal 33 = .ok (.bipush 64, 2) := by decide +kernel
theorem dX13_isLegal_35 : decode cX13_isLegal 35 = .ok (.iadd, 1) := by decide +kernel
theorem dX13_isLegal_36 : decode cX13_isLegal 36 = .ok (.iaload, 1) := by decide +kernel
theorem dX13_isLegal_37 : decode cX13_isLegal 37 = .ok (.invokevirtual 116, 3) := by decide +kernel
theorem dX13_isLegal_40 : decode cX13_isLegal 40 = .ok (.ifCond .ne 7, 3) := by decide +kernel
theorem dX13_isLegal_43 : decode cX13_isLegal 43 = .ok (.iconst 1, 1) := by decide +kernel
theorem dX13_isLegal_44 : decode cX13_isLegal 44 = .ok (.goto 4, 3) := by decide +kernel
theorem dX13_isLegal_47 : decode cX13_isLegal 47 = .ok (.iconst 0, 1) := by decide +kernel
theorem dX13_isLegal_48 : decode cX13_isLegal 48 = .ok (.ireturn, 1) := by decide +kernel
def kX13_isLegal_40 (mc ms : Nat) (X : Nat → zV) (Q : zQt) : zT :=
  zif (fun x => x = 0) (zc (.int 1) <| zj X 48 []) <| zc (.int 0) <| zj X 48 []
def kX13_isLegal_23 (mc ms : Nat) (X : Nat → zV) (Q : zQt) : zT :=
  zla 0 <| zli 1 <| zc (.int 69) <| zii (fun x y => x + y) <| zla 0 <| zgR 13 16 <| zli 1 <| zc (.int 64) <| zii (fun x y => x + y) <| zal 1 <| zcv mc ms 13 2 wX13_isChecked <| kX13_isLegal_40 mc ms X Q
def kX13_isLegal_7 (mc ms : Nat) (X : Nat → zV) (Q : zQt) : zT :=
  zif (fun x => x = 0) (zc (.int 0) <| zrz .boolean Q) <| zla 0 <| zli 1 <| zli 2 <| zc (.int 64) <| zli 3 <| zii (fun x y => x * y) <| zii (fun x y => x + y) <| zcv mc ms 13 2 wX13_make <| kX13_isLegal_23 mc ms X Q
def aX13_isLegal_0 (mc ms : Nat) (X : Nat → zV) (Q : zQt) : zT :=
  zla 0 <| zli 1 <| zli 2 <| zli 3 <| zcv mc ms 13 3 wX13_goes <| kX13_isLegal_7 mc ms X Q
def aX13_isLegal_48 (mc ms : Nat) (X : Nat → zV) (Q : zQt) : zT :=
  zrz .boolean Q
def lvX13_isLegal : Nat → List Nat := fun L => match L with
  | 0 => [0, 1, 2, 3]
  | 48 => []
  | _ => []
def wX13_isLegal : zSp := fun mc ms av M Q => ((zlay av).length ≤ 4 ∧ zpick (zlay av) [0, 1, 2, 3] = some av) ∧ ∀ X : Nat → zV, zin 4 [0, 1, 2, 3] (aX13_isLegal_0 mc ms X Q) X 0 → zin 4 [] (aX13_isLegal_48 mc ms X Q) X 48 → X 0 0 0 av [] M
set_option maxRecDepth 100000 in
set_option maxHeartbeats 4000000 in
theorem sX13_isLegal (l : Launch) (G : zG) : zSnd l G yX13_isLegal cX13_isLegal 4 (some .boolean) 5 134 wX13_isLegal := by
  refine zmk [0, 1, 2, 3] (by decide) (fun mc ms av M Q h => h.1) ?_
  intro p e R s m args below meth c mc ms av M Q hC hRf hRl hr hnm h lv hlv
  obtain ⟨X, hXe⟩ : ∃ X : Nat → zV, X = fun L u v vs st M => ∀ lv, zpick lv (lvX13_isLegal L) = some vs → zAt p l e R s m args below meth c (MQ below (zQ G Q) args s mc ms (zA G)) G 4 L u v lv st M := ⟨_, rfl⟩
  have hJ : ∀ L, zOk p l e R s m args below meth c (MQ below (zQ G Q) args s mc ms (zA G)) G 4 L (zj X L (lvX13_isLegal L)) := fun L => S_jump (fun u v lv vs st M hp hx => by rw [hXe] at hx; exact hx lv hp)
  have hB0 : zin 4 [0, 1, 2, 3] (aX13_isLegal_0 mc ms X Q) X 0 := by
    intro u v vs st M hb
    rw [hXe]
    refine fun lv hp => S_block (L := 0) (live := [0, 1, 2, 3]) ?_ u v lv vs st M hp hb
    unfold aX13_isLegal_0
    refine S_aload_n (pc := 0) hC dX13_isLegal_0 rfl ?_
    refine S_iload_n (pc := 1) hC dX13_isLegal_1 rfl ?_
    refine S_iload_n (pc := 2) hC dX13_isLegal_2 rfl ?_
    refine S_iload_n (pc := 3) hC dX13_isLegal_3 rfl ?_
    refine S_callV (pc := 4) hC (sX13_goes l G) rfl wd_1451 wd_1453 ws_74 wd_12 wd_1454 (by decide +kernel) ⟨by rw [hRf]; decide, by rw [hRl]; decide⟩ dX13_isLegal_4 ?_
    unfold kX13_isLegal_7
    refine S_if_ne (pc := 7) (tgt := 12) hC dX13_isLegal_7 (by decide) ?_ ?_
    · refine S_aload_n (pc := 12) hC dX13_isLegal_12 rfl ?_
      refine S_iload_n (pc := 13) hC dX13_isLegal_13 rfl ?_
      refine S_iload_n (pc := 14) hC dX13_isLegal_14 rfl ?_
      refine S_bipush (pc := 15) hC dX13_isLegal_15 (by decide) ?_
      refine S_iload_n (pc := 17) hC dX13_isLegal_17 rfl ?_
      refine S_imul (pc := 18) hC dX13_isLegal_18 ?_
      refine S_iadd (pc := 19) hC dX13_isLegal_19 ?_
      refine S_callV (pc := 20) hC (sX13_make l G) rfl wd_1471 wd_1473 ws_79 wd_12 wd_1474 (by decide +kernel) ⟨by rw [hRf]; decide, by rw [hRl]; decide⟩ dX13_isLegal_20 ?_
      unfold kX13_isLegal_23
      refine S_aload_n (pc := 23) hC dX13_isLegal_23 rfl ?_
      refine S_iload_n (pc := 24) hC dX13_isLegal_24 rfl ?_
      refine S_bipush (pc := 25) hC dX13_isLegal_25 (by decide) ?_
      refine S_iadd (pc := 27) hC dX13_isLegal_27 ?_
      refine S_aload_n (pc := 28) hC dX13_isLegal_28 rfl ?_
      refine S_getR (pc := 29) hC cfX13 (by decide) (Or.inr ⟨_, rfl⟩) wd_1271 dX13_isLegal_29 ?_
      refine S_iload_n (pc := 32) hC dX13_isLegal_32 rfl ?_
      refine S_bipush (pc := 33) hC dX13_isLegal_33 (by decide) ?_
      refine S_iadd (pc := 35) hC dX13_isLegal_35 ?_
      refine S_iaload (pc := 36) hC dX13_isLegal_36 ?_
      refine S_callV (pc := 37) hC (sX13_isChecked l G) rfl wd_1417 wd_1419 ws_67 wd_12 wd_1420 (by decide +kernel) ⟨by rw [hRf]; decide, by rw [hRl]; decide⟩ dX13_isLegal_37 ?_
      unfold kX13_isLegal_40
      refine S_if_ne (pc := 40) (tgt := 47) hC dX13_isLegal_40 (by decide) ?_ ?_
      · refine S_iconst (pc := 47) hC dX13_isLegal_47 (by decide) ?_
        exact hJ 48
      · refine S_iconst (pc := 43) hC dX13_isLegal_43 (by decide) ?_
        refine S_goto (pc := 44) (tgt := 48) hC dX13_isLegal_44 (by decide) ?_
        exact hJ 48
    · refine S_iconst (pc := 10) hC dX13_isLegal_10 (by decide) ?_
      exact S_zreturn (pc := 11) hC hr dX13_isLegal_11
  have hB48 : zin 4 [] (aX13_isLegal_48 mc ms X Q) X 48 := by
    intro u v vs st M hb
    rw [hXe]
    refine fun lv hp => S_block (L := 48) (live := []) ?_ u v lv vs st M hp hb
    unfold aX13_isLegal_48
    exact S_zreturn (pc := 48) hC hr dX13_isLegal_48
  have := h.2 X hB0 hB48
  rw [hXe] at this
  exact this lv hlv
theorem vX13_isLegal_0 {mc ms : Nat} {X : Nat → zV} {Q : zQt} {M : zM} {x1 : Int32} {x2 : Int32} {x3 : Int32} (hW : zFix M)  (h : wX13_goes 0 0 [.ref 55, .int x1, .int x2, .int x3] M (fun r M1 => kX13_isLegal_7 mc ms X Q 0 0 [some (.ref 55), some (.int x1), some (.int x2), some (.int x3)] (r.toList ++ []) M1)) : aX13_isLegal_0 mc ms X Q 0 0 [some (.ref 55), some (.int x1), some (.int x2), some (.int x3)] [] M := ⟨Nat.le_of_ble_eq_true rfl, rfl, (fxs_55 hW), 0, 0, Nat.zero_le _, Nat.zero_le _, h⟩
theorem vX13_isLegal_48 {mc ms : Nat} {X : Nat → zV} {Q : zQt} {M : zM} {s0 : Int32} (hW : zFix M)  (h : narrow .boolean (.int s0) = .int s0 ∧ Q (some (.int s0)) M) : aX13_isLegal_48 mc ms X Q 0 0 [none, none, none, none] [.int s0] M := h
theorem vkX13_isLegal_7 {mc ms : Nat} {X : Nat → zV} {Q : zQt} {M : zM} {x1 : Int32} {x2 : Int32} {x3 : Int32} {s0 : Int32} (hW : zFix M)  (h : (s0 = 0 → Q (some (.int 0)) M) ∧ (¬ s0 = 0 → wX13_make 0 0 [.ref 55, .int x1, .int (x2 + ((64 : Int32) * x3))] M (fun r M1 => kX13_isLegal_23 mc ms X Q 0 0 [some (.ref 55), some (.int x1), some (.int x2), some (.int x3)] (r.toList ++ []) M1))) : kX13_isLegal_7 mc ms X Q 0 0 [some (.ref 55), some (.int x1), some (.int x2), some (.int x3)] [.int s0] M := ⟨fun c7 => ⟨rfl, (h.1 c7)⟩, fun c7 => ⟨Nat.le_of_ble_eq_true rfl, rfl, (fxs_55 hW), 0, 0, Nat.zero_le _, Nat.zero_le _, (h.2 c7)⟩⟩
theorem vkX13_isLegal_23 {mc ms : Nat} {X : Nat → zV} {Q : zQt} {M : zM} {x1 : Int32} {x2 : Int32} {x3 : Int32} (hW : zFix M)  (h : vp_in ((x1 + (64 : Int32))) 414 ∧ wX13_isChecked 0 0 [.ref 55, .int (x1 + (69 : Int32)), .int ((M : zM).1 65 ((x1 + (64 : Int32)) : Int32).toNatClampNeg)] M (fun r M1 => kX13_isLegal_40 mc ms X Q 0 0 [some (.ref 55), some (.int x1), some (.int x2), some (.int x3)] (r.toList ++ []) M1)) : kX13_isLegal_23 mc ms X Q 0 0 [some (.ref 55), some (.int x1), some (.int x2), some (.int x3)] [] M := ⟨(fxs_55 hW), 65, (fxr_55_16 hW), ⟨414, (fxs_65 hW), h.1, ⟨Nat.le_of_ble_eq_true rfl, rfl, (fxs_55 hW), 0, 0, Nat.zero_le _, Nat.zero_le _, h.2⟩⟩⟩
theorem vkX13_isLegal_40 {mc ms : Nat} {X : Nat → zV} {Q : zQt} {M : zM} {x1 : Int32} {x2 : Int32} {x3 : Int32} {s0 : Int32} (hW : zFix M)  (h : (s0 = 0 → X 48 0 0 [] [.int 1] M) ∧ (¬ s0 = 0 → X 48 0 0 [] [.int 0] M)) : kX13_isLegal_40 mc ms X Q 0 0 [some (.ref 55), some (.int x1), some (.int x2), some (.int x3)] [.int s0] M := ⟨fun c40 => (h.1 c40), fun c40 => (h.2 c40)⟩
theorem dX13_fill_0 : decode cX13_fill 0 = .ok (.bipush 69, 2) := by decide +kernel
theorem dX13_fill_2 : decode cX13_fill 2 = .ok (.iload_n 1, 1) := by decide +kernel
theorem dX13_fill_3 : decode cX13_fill 3 = .ok (.imul, 1) := by decide +kernel
theorem dX13_fill_4 : decode cX13_fill 4 = .ok (.istore_n 2, 1) := by decide +kernel
theorem dX13_fill_5 : decode cX13_fill 5 = .ok (.iconst 0, 1) := by decide +kernel
theorem dX13_fill_6 : decode cX13_fill 6 = .ok (.istore_n 3, 1) := by decide +kernel
theorem dX13_fill_7 : decode cX13_fill 7 = .ok (.iconst 0, 1) := by decide +kernel
theorem dX13_fill_8 : decode cX13_fill 8 = .ok (.istore 4, 2) := by decide +kernel
theorem dX13_fill_10 : decode cX13_fill 10 = .ok (.iload 4, 2) := by decide +kernel
theorem dX13_fill_12 : decode cX13_fill 12 = .ok (.bipush 64, 2) := by decide +kernel
theorem dX13_fill_14 : decode cX13_fill 14 = .ok (.if_icmp .ge 161, 3) := by decide +kernel
theorem dX13_fill_17 : decode cX13_fill 17 = .ok (.iconst 0, 1) := by decide +kernel
theorem dX13_fill_18 : decode cX13_fill 18 = .ok (.istore 5, 2) := by decide +kernel
theorem dX13_fill_20 : decode cX13_fill 20 = .ok (.iload 5, 2) := by decide +kernel
theorem dX13_fill_22 : decode cX13_fill 22 = .ok (.bipush 64, 2) := by decide +kernel
theorem dX13_fill_24 : decode cX13_fill 24 = .ok (.if_icmp .ge 145, 3) := by decide +kernel
theorem dX13_fill_27 : decode cX13_fill 27 = .ok (.aload_n 0, 1) := by decide +kernel
theorem dX13_fill_28 : decode cX13_fill 28 = .ok (.getfield 43, 3) := by decide +kernel
theorem dX13_fill_31 : decode cX13_fill 31 = .ok (.iload_n 2, 1) := by decide +kernel
theorem dX13_fill_32 : decode cX13_fill 32 = .ok (.iload 4, 2) := by decide +kernel
theorem dX13_fill_34 : decode cX13_fill 34 = .ok (.iadd, 1) := by decide +kernel
theorem dX13_fill_35 : decode cX13_fill 35 = .ok (.iaload, 1) := by decide +kernel
theorem dX13_fill_36 : decode cX13_fill 36 = .ok (.invokestatic 78, 3) := by decide +kernel
theorem dX13_fill_39 : decode cX13_fill 39 = .ok (.aload_n 0, 1) := by decide +kernel
theorem dX13_fill_40 : decode cX13_fill 40 = .ok (.getfield 43, 3) := by decide +kernel
theorem dX13_fill_43 : decode cX13_fill 43 = .ok (.iload_n 2, 1) := by decide +kernel
theorem dX13_fill_44 : decode cX13_fill 44 = .ok (.bipush 64, 2) := by decide +kernel
theorem dX13_fill_46 : decode cX13_fill 46 = .ok (.iadd, 1) := by decide +kernel
theorem dX13_fill_47 : decode cX13_fill 47 = .ok (.iaload, 1) := by decide +kernel
theorem dX13_fill_48 : decode cX13_fill 48 = .ok (.if_icmp .ne 121, 3) := by decide +kernel
theorem dX13_fill_51 : decode cX13_fill 51 = .ok (.aload_n 0, 1) := by decide +kernel
theorem dX13_fill_52 : decode cX13_fill 52 = .ok (.iload_n 2, 1) := by decide +kernel
theorem dX13_fill_53 : decode cX13_fill 53 = .ok (.iload 4, 2) := by decide +kernel
theorem dX13_fill_55 : decode cX13_fill 55 = .ok (.iload 5, 2) := by decide +kernel
theorem dX13_fill_57 : decode cX13_fill 57 = .ok (.invokevirtual 120, 3) := by decide +kernel
theorem dX13_fill_60 : decode cX13_fill 60 = .ok (.ifCond .eq 103, 3) := by decide +kernel
theorem dX13_fill_63 : decode cX13_fill 63 = .ok (.aload_n 0, 1) := by decide +kernel
theorem dX13_fill_64 : decode cX13_fill 64 = .ok (.getfield 43, 3) := by decide +kernel
theorem dX13_fill_67 : decode cX13_fill 67 = .ok (.iload_n 2, 1) := by decide +kernel
theorem dX13_fill_68 : decode cX13_fill 68 = .ok (.iload 4, 2) := by decide +kernel
theorem dX13_fill_70 : decode cX13_fill 70 = .ok (.iadd, 1) := by decide +kernel
theorem dX13_fill_71 : decode cX13_fill 71 = .ok (.iaload, 1) := by decide +kernel
theorem dX13_fill_72 : decode cX13_fill 72 = .ok (.invokestatic 71, 3) := by decide +kernel
theorem dX13_fill_75 : decode cX13_fill 75 = .ok (.iconst 1, 1) := by decide +kernel
theorem dX13_fill_76 : decode cX13_fill 76 = .ok (.if_icmp .ne 21, 3) := by decide +kernel
theorem dX13_fill_79 : decode cX13_fill 79 = .ok (.iload 5, 2) := by decide +kernel
theorem dX13_fill_81 : decode cX13_fill 81 = .ok (.bipush 8, 2) := by decide +kernel
theorem dX13_fill_83 : decode cX13_fill 83 = .ok (.if_icmp .lt 10, 3) := by decide +kernel
theorem dX13_fill_86 : decode cX13_fill 86 = .ok (.iload 5, 2) := by decide +kernel
theorem dX13_fill_88 : decode cX13_fill 88 = .ok (.bipush 55, 2) := by decide +kernel
theorem dX13_fill_90 : decode cX13_fill 90 = .ok (.if_icmp .le 7, 3) := by decide +kernel
theorem dX13_fill_93 : decode cX13_fill 93 = .ok (.iconst 1, 1) := by decide +kernel
theorem dX13_fill_94 : decode cX13_fill 94 = .ok (.goto 4, 3) := by decide +kernel
theorem dX13_fill_97 : decode cX13_fill 97 = .ok (.iconst 0, 1) := by decide +kernel
theorem dX13_fill_98 : decode cX13_fill 98 = .ok (.istore 6, 2) := by decide +kernel
theorem dX13_fill_100 : decode cX13_fill 100 = .ok (.iload 6, 2) := by decide +kernel
theorem dX13_fill_102 : decode cX13_fill 102 = .ok (.ifCond .eq 7, 3) := by decide +kernel
theorem dX13_fill_105 : decode cX13_fill 105 = .ok (.iconst 2, 1) := by decide +kernel
theorem dX13_fill_106 : decode cX13_fill 106 = .ok (.goto 4, 3) := by decide +kernel
theorem dX13_fill_109 : decode cX13_fill 109 = .ok (.iconst 0, 1) := by decide +kernel
theorem dX13_fill_110 : decode cX13_fill 110 = .ok (.istore 7, 2) := by decide +kernel
theorem dX13_fill_112 : decode cX13_fill 112 = .ok (.iload 7, 2) := by decide +kernel
theorem dX13_fill_114 : decode cX13_fill 114 = .ok (.iload 6, 2) := by decide +kernel
theorem dX13_fill_116 : decode cX13_fill 116 = .ok (.ifCond .eq 7, 3) := by decide +kernel
theorem dX13_fill_119 : decode cX13_fill 119 = .ok (.iconst 5, 1) := by decide +kernel
theorem dX13_fill_120 : decode cX13_fill 120 = .ok (.goto 4, 3) := by decide +kernel
theorem dX13_fill_123 : decode cX13_fill 123 = .ok (.iconst 0, 1) := by decide +kernel
theorem dX13_fill_124 : decode cX13_fill 124 = .ok (.if_icmp .gt 39, 3) := by decide +kernel
theorem dX13_fill_127 : decode cX13_fill 127 = .ok (.aload_n 0, 1) := by decide +kernel
theorem dX13_fill_128 : decode cX13_fill 128 = .ok (.getfield 46, 3) := by decide +kernel
theorem dX13_fill_131 : decode cX13_fill 131 = .ok (.sipush 330, 3) := by decide +kernel
theorem dX13_fill_134 : decode cX13_fill 134 = .ok (.iload_n 1, 1) := by decide +kernel
theorem dX13_fill_135 : decode cX13_fill 135 = .ok (.imul, 1) := by decide +kernel
theorem dX13_fill_136 : decode cX13_fill 136 = .ok (.iload_n 3, 1) := by decide +kernel
theorem dX13_fill_137 : decode cX13_fill 137 = .ok (.iadd, 1) := by decide +kernel
theorem dX13_fill_138 : decode cX13_fill 138 = .ok (.iload 4, 2) := by decide +kernel
theorem dX13_fill_140 : decode cX13_fill 140 = .ok (.bipush 64, 2) := by decide +kernel
theorem dX13_fill_142 : decode cX13_fill 142 = .ok (.iload 5, 2) := by decide +kernel
theorem dX13_fill_144 : decode cX13_fill 144 = .ok (.imul, 1) := by decide +kernel
theorem dX13_fill_145 : decode cX13_fill 145 = .ok (.iadd, 1) := by decide +kernel
theorem dX13_fill_146 : decode cX13_fill 146 = .ok (.sipush 4096, 3) := by decide +kernel
theorem dX13_fill_149 : decode cX13_fill 149 = .ok (.iload 7, 2) := by decide +kernel
theorem dX13_fill_151 : decode cX13_fill 151 = .ok (.imul, 1) := by decide +kernel
theorem dX13_fill_152 : decode cX13_fill 152 = .ok (.iadd, 1) := by decide +kernel
theorem dX13_fill_153 : decode cX13_fill 153 = .ok (.iastore, 1) := by decide +kernel
theorem dX13_fill_154 : decode cX13_fill 154 = .ok (.iinc 3 1, 3) := by decide +kernel
theorem dX13_fill_157 : decode cX13_fill 157 = .ok (.iinc 7 1, 3) := by decide +kernel
theorem dX13_fill_160 : decode cX13_fill 160 = .ok (.goto (-48), 3) := by decide +kernel
theorem dX13_fill_163 : decode cX13_fill 163 = .ok (.iinc 5 1, 3) := by decide +kernel
theorem dX13_fill_166 : decode cX13_fill 166 = .ok (.goto (-146), 3) := by decide +kernel
theorem dX13_fill_169 : decode cX13_fill 169 = .ok (.iinc 4 1, 3) := by decide +kernel
theorem dX13_fill_172 : decode cX13_fill 172 = .ok (.goto (-162), 3) := by decide +kernel
theorem dX13_fill_175 : decode cX13_fill 175 = .ok (.aload_n 0, 1) := by decide +kernel
theorem dX13_fill_176 : decode cX13_fill 176 = .ok (.getfield 49, 3) := by decide +kernel
theorem dX13_fill_179 : decode cX13_fill 179 = .ok (.iload_n 1, 1) := by decide +kernel
theorem dX13_fill_180 : decode cX13_fill 180 = .ok (.iload_n 3, 1) := by decide +kernel
theorem dX13_fill_181 : decode cX13_fill 181 = .ok (.iastore, 1) := by decide +kernel
theorem dX13_fill_182 : decode cX13_fill 182 = .ok (.return_, 1) := by decide +kernel
def kX13_fill_75 (mc ms : Nat) (X : Nat → zV) (Q : zQt) : zT :=
  zc (.int 1) <| zic (fun x y => x = y) (zli 5 <| zc (.int 8) <| zic (fun x y => x < y) (zj X 93 [0, 1, 2, 3, 4, 5]) <| zli 5 <| zc (.int 55) <| zic (fun x y => x ≤ y) (zj X 97 [0, 1, 2, 3, 4, 5]) <| zj X 93 [0, 1, 2, 3, 4, 5]) <| zj X 97 [0, 1, 2, 3, 4, 5]
def kX13_fill_60 (mc ms : Nat) (X : Nat → zV) (Q : zQt) : zT :=
  zif (fun x => x = 0) (zj X 163 [0, 1, 2, 3, 4, 5]) <| zla 0 <| zgR 13 16 <| zli 2 <| zli 4 <| zii (fun x y => x + y) <| zal 1 <| zcs mc ms 1 wX13_kindOf <| kX13_fill_75 mc ms X Q
def kX13_fill_39 (mc ms : Nat) (X : Nat → zV) (Q : zQt) : zT :=
  zla 0 <| zgR 13 16 <| zli 2 <| zc (.int 64) <| zii (fun x y => x + y) <| zal 1 <| zic (fun x y => x = y) (zla 0 <| zli 2 <| zli 4 <| zli 5 <| zcv mc ms 13 3 wX13_isLegal <| kX13_fill_60 mc ms X Q) <| zj X 169 [0, 1, 2, 3, 4]
def aX13_fill_0 (mc ms : Nat) (X : Nat → zV) (Q : zQt) : zT :=
  zc (.int 69) <| zli 1 <| zii (fun x y => x * y) <| zsi 2 <| zc (.int 0) <| zsi 3 <| zc (.int 0) <| zsi 4 <| zj X 10 [0, 1, 2, 3, 4]
def aX13_fill_10 (mc ms : Nat) (X : Nat → zV) (Q : zQt) : zT :=
  zli 4 <| zc (.int 64) <| zic (fun x y => y ≤ x) (zla 0 <| zgR 13 18 <| zli 1 <| zli 3 <| zas 1 (fun x => x) <| zrv Q) <| zc (.int 0) <| zsi 5 <| zj X 20 [0, 1, 2, 3, 4, 5]
def aX13_fill_20 (mc ms : Nat) (X : Nat → zV) (Q : zQt) : zT :=
  zli 5 <| zc (.int 64) <| zic (fun x y => y ≤ x) (zj X 169 [0, 1, 2, 3, 4]) <| zla 0 <| zgR 13 16 <| zli 2 <| zli 4 <| zii (fun x y => x + y) <| zal 1 <| zcs mc ms 1 wX13_sideOf <| kX13_fill_39 mc ms X Q
def aX13_fill_93 (mc ms : Nat) (X : Nat → zV) (Q : zQt) : zT :=
  zc (.int 1) <| zj X 98 [0, 1, 2, 3, 4, 5]
def aX13_fill_97 (mc ms : Nat) (X : Nat → zV) (Q : zQt) : zT :=
  zc (.int 0) <| zj X 98 [0, 1, 2, 3, 4, 5]
def aX13_fill_98 (mc ms : Nat) (X : Nat → zV) (Q : zQt) : zT :=
  zsi 6 <| zli 6 <| zif (fun x => x = 0) (zc (.int 0) <| zj X 110 [0, 1, 2, 3, 4, 5, 6]) <| zc (.int 2) <| zj X 110 [0, 1, 2, 3, 4, 5, 6]
def aX13_fill_110 (mc ms : Nat) (X : Nat → zV) (Q : zQt) : zT :=
  zsi 7 <| zj X 112 [0, 1, 2, 3, 4, 5, 6, 7]
def aX13_fill_112 (mc ms : Nat) (X : Nat → zV) (Q : zQt) : zT :=
  zli 7 <| zli 6 <| zif (fun x => x = 0) (zc (.int 0) <| zj X 124 [0, 1, 2, 3, 4, 5, 6, 7]) <| zc (.int 5) <| zj X 124 [0, 1, 2, 3, 4, 5, 6, 7]
def aX13_fill_124 (mc ms : Nat) (X : Nat → zV) (Q : zQt) : zT :=
  zic (fun x y => y < x) (zj X 163 [0, 1, 2, 3, 4, 5]) <| zla 0 <| zgR 13 17 <| zc (.int 330) <| zli 1 <| zii (fun x y => x * y) <| zli 3 <| zii (fun x y => x + y) <| zli 4 <| zc (.int 64) <| zli 5 <| zii (fun x y => x * y) <| zii (fun x y => x + y) <| zc (.int 4096) <| zli 7 <| zii (fun x y => x * y) <| zii (fun x y => x + y) <| zas 1 (fun x => x) <| zinc 3 1 <| zinc 7 1 <| zj X 112 [0, 1, 2, 3, 4, 5, 6, 7]
def aX13_fill_163 (mc ms : Nat) (X : Nat → zV) (Q : zQt) : zT :=
  zinc 5 1 <| zj X 20 [0, 1, 2, 3, 4, 5]
def aX13_fill_169 (mc ms : Nat) (X : Nat → zV) (Q : zQt) : zT :=
  zinc 4 1 <| zj X 10 [0, 1, 2, 3, 4]
def lvX13_fill : Nat → List Nat := fun L => match L with
  | 0 => [0, 1]
  | 10 => [0, 1, 2, 3, 4]
  | 20 => [0, 1, 2, 3, 4, 5]
  | 93 => [0, 1, 2, 3, 4, 5]
  | 97 => [0, 1, 2, 3, 4, 5]
  | 98 => [0, 1, 2, 3, 4, 5]
  | 110 => [0, 1, 2, 3, 4, 5, 6]
  | 112 => [0, 1, 2, 3, 4, 5, 6, 7]
  | 124 => [0, 1, 2, 3, 4, 5, 6, 7]
  | 163 => [0, 1, 2, 3, 4, 5]
  | 169 => [0, 1, 2, 3, 4]
  | _ => []
def wX13_fill : zSp := fun mc ms av M Q => ((zlay av).length ≤ 8 ∧ zpick (zlay av) [0, 1] = some av) ∧ ∀ X : Nat → zV, zin 8 [0, 1] (aX13_fill_0 mc ms X Q) X 0 → zin 8 [0, 1, 2, 3, 4] (aX13_fill_10 mc ms X Q) X 10 → zin 8 [0, 1, 2, 3, 4, 5] (aX13_fill_20 mc ms X Q) X 20 → zin 8 [0, 1, 2, 3, 4, 5] (aX13_fill_93 mc ms X Q) X 93 → zin 8 [0, 1, 2, 3, 4, 5] (aX13_fill_97 mc ms X Q) X 97 → zin 8 [0, 1, 2, 3, 4, 5] (aX13_fill_98 mc ms X Q) X 98 → zin 8 [0, 1, 2, 3, 4, 5, 6] (aX13_fill_110 mc ms X Q) X 110 → zin 8 [0, 1, 2, 3, 4, 5, 6, 7] (aX13_fill_112 mc ms X Q) X 112 → zin 8 [0, 1, 2, 3, 4, 5, 6, 7] (aX13_fill_124 mc ms X Q) X 124 → zin 8 [0, 1, 2, 3, 4, 5] (aX13_fill_163 mc ms X Q) X 163 → zin 8 [0, 1, 2, 3, 4] (aX13_fill_169 mc ms X Q) X 169 → X 0 0 0 av [] M
set_option maxRecDepth 100000 in
set_option maxHeartbeats 4000000 in
theorem sX13_fill (l : Launch) (G : zG) : zSnd l G yX13_fill cX13_fill 8 none 6 157 wX13_fill := by
  refine zmk [0, 1] (by decide) (fun mc ms av M Q h => h.1) ?_
  intro p e R s m args below meth c mc ms av M Q hC hRf hRl hr hnm h lv hlv
  obtain ⟨X, hXe⟩ : ∃ X : Nat → zV, X = fun L u v vs st M => ∀ lv, zpick lv (lvX13_fill L) = some vs → zAt p l e R s m args below meth c (MQ below (zQ G Q) args s mc ms (zA G)) G 8 L u v lv st M := ⟨_, rfl⟩
  have hJ : ∀ L, zOk p l e R s m args below meth c (MQ below (zQ G Q) args s mc ms (zA G)) G 8 L (zj X L (lvX13_fill L)) := fun L => S_jump (fun u v lv vs st M hp hx => by rw [hXe] at hx; exact hx lv hp)
  have hB0 : zin 8 [0, 1] (aX13_fill_0 mc ms X Q) X 0 := by
    intro u v vs st M hb
    rw [hXe]
    refine fun lv hp => S_block (L := 0) (live := [0, 1]) ?_ u v lv vs st M hp hb
    unfold aX13_fill_0
    refine S_bipush (pc := 0) hC dX13_fill_0 (by decide) ?_
    refine S_iload_n (pc := 2) hC dX13_fill_2 rfl ?_
    refine S_imul (pc := 3) hC dX13_fill_3 ?_
    refine S_istore_n (pc := 4) hC dX13_fill_4 rfl (by decide) ?_
    refine S_iconst (pc := 5) hC dX13_fill_5 (by decide) ?_
    refine S_istore_n (pc := 6) hC dX13_fill_6 rfl (by decide) ?_
    refine S_iconst (pc := 7) hC dX13_fill_7 (by decide) ?_
    refine S_istore (pc := 8) hC dX13_fill_8 (by decide) ?_
    exact hJ 10
  have hB10 : zin 8 [0, 1, 2, 3, 4] (aX13_fill_10 mc ms X Q) X 10 := by
    intro u v vs st M hb
    rw [hXe]
    refine fun lv hp => S_block (L := 10) (live := [0, 1, 2, 3, 4]) ?_ u v lv vs st M hp hb
    unfold aX13_fill_10
    refine S_iload (pc := 10) hC dX13_fill_10 ?_
    refine S_bipush (pc := 12) hC dX13_fill_12 (by decide) ?_
    refine S_icmp_ge (pc := 14) (tgt := 175) hC dX13_fill_14 (by decide) ?_ ?_
    · refine S_aload_n (pc := 175) hC dX13_fill_175 rfl ?_
      refine S_getR (pc := 176) hC cfX13 (by decide) (Or.inr ⟨_, rfl⟩) wd_1273 dX13_fill_176 ?_
      refine S_iload_n (pc := 179) hC dX13_fill_179 rfl ?_
      refine S_iload_n (pc := 180) hC dX13_fill_180 rfl ?_
      refine S_iastore (pc := 181) hC dX13_fill_181 ?_
      exact S_vreturn (pc := 182) hC hr dX13_fill_182
    · refine S_iconst (pc := 17) hC dX13_fill_17 (by decide) ?_
      refine S_istore (pc := 18) hC dX13_fill_18 (by decide) ?_
      exact hJ 20
  have hB20 : zin 8 [0, 1, 2, 3, 4, 5] (aX13_fill_20 mc ms X Q) X 20 := by
    intro u v vs st M hb
    rw [hXe]
    refine fun lv hp => S_block (L := 20) (live := [0, 1, 2, 3, 4, 5]) ?_ u v lv vs st M hp hb
    unfold aX13_fill_20
    refine S_iload (pc := 20) hC dX13_fill_20 ?_
    refine S_bipush (pc := 22) hC dX13_fill_22 (by decide) ?_
    refine S_icmp_ge (pc := 24) (tgt := 169) hC dX13_fill_24 (by decide) ?_ ?_
    · exact hJ 169
    · refine S_aload_n (pc := 27) hC dX13_fill_27 rfl ?_
      refine S_getR (pc := 28) hC cfX13 (by decide) (Or.inr ⟨_, rfl⟩) wd_1271 dX13_fill_28 ?_
      refine S_iload_n (pc := 31) hC dX13_fill_31 rfl ?_
      refine S_iload (pc := 32) hC dX13_fill_32 ?_
      refine S_iadd (pc := 34) hC dX13_fill_34 ?_
      refine S_iaload (pc := 35) hC dX13_fill_35 ?_
      refine S_callS (pc := 36) hC (sX13_sideOf l G) wd_1425 wd_1426 wd_12 wd_1427 (by decide +kernel) ⟨by rw [hRf]; decide, by rw [hRl]; decide⟩ dX13_fill_36 ?_
      unfold kX13_fill_39
      refine S_aload_n (pc := 39) hC dX13_fill_39 rfl ?_
      refine S_getR (pc := 40) hC cfX13 (by decide) (Or.inr ⟨_, rfl⟩) wd_1271 dX13_fill_40 ?_
      refine S_iload_n (pc := 43) hC dX13_fill_43 rfl ?_
      refine S_bipush (pc := 44) hC dX13_fill_44 (by decide) ?_
      refine S_iadd (pc := 46) hC dX13_fill_46 ?_
      refine S_iaload (pc := 47) hC dX13_fill_47 ?_
      refine S_icmp_ne (pc := 48) (tgt := 169) hC dX13_fill_48 (by decide) ?_ ?_
      · exact hJ 169
      · refine S_aload_n (pc := 51) hC dX13_fill_51 rfl ?_
        refine S_iload_n (pc := 52) hC dX13_fill_52 rfl ?_
        refine S_iload (pc := 53) hC dX13_fill_53 ?_
        refine S_iload (pc := 55) hC dX13_fill_55 ?_
        refine S_callV (pc := 57) hC (sX13_isLegal l G) rfl wd_1447 wd_1449 ws_73 wd_12 wd_1450 (by decide +kernel) ⟨by rw [hRf]; decide, by rw [hRl]; decide⟩ dX13_fill_57 ?_
        unfold kX13_fill_60
        refine S_if_eq (pc := 60) (tgt := 163) hC dX13_fill_60 (by decide) ?_ ?_
        · exact hJ 163
        · refine S_aload_n (pc := 63) hC dX13_fill_63 rfl ?_
          refine S_getR (pc := 64) hC cfX13 (by decide) (Or.inr ⟨_, rfl⟩) wd_1271 dX13_fill_64 ?_
          refine S_iload_n (pc := 67) hC dX13_fill_67 rfl ?_
          refine S_iload (pc := 68) hC dX13_fill_68 ?_
          refine S_iadd (pc := 70) hC dX13_fill_70 ?_
          refine S_iaload (pc := 71) hC dX13_fill_71 ?_
          refine S_callS (pc := 72) hC (sX13_kindOf l G) wd_1376 wd_1377 wd_12 wd_1378 (by decide +kernel) ⟨by rw [hRf]; decide, by rw [hRl]; decide⟩ dX13_fill_72 ?_
          unfold kX13_fill_75
          refine S_iconst (pc := 75) hC dX13_fill_75 (by decide) ?_
          refine S_icmp_ne (pc := 76) (tgt := 97) hC dX13_fill_76 (by decide) ?_ ?_
          · exact hJ 97
          · refine S_iload (pc := 79) hC dX13_fill_79 ?_
            refine S_bipush (pc := 81) hC dX13_fill_81 (by decide) ?_
            refine S_icmp_lt (pc := 83) (tgt := 93) hC dX13_fill_83 (by decide) ?_ ?_
            · exact hJ 93
            · refine S_iload (pc := 86) hC dX13_fill_86 ?_
              refine S_bipush (pc := 88) hC dX13_fill_88 (by decide) ?_
              refine S_icmp_le (pc := 90) (tgt := 97) hC dX13_fill_90 (by decide) ?_ ?_
              · exact hJ 97
              · exact hJ 93
  have hB93 : zin 8 [0, 1, 2, 3, 4, 5] (aX13_fill_93 mc ms X Q) X 93 := by
    intro u v vs st M hb
    rw [hXe]
    refine fun lv hp => S_block (L := 93) (live := [0, 1, 2, 3, 4, 5]) ?_ u v lv vs st M hp hb
    unfold aX13_fill_93
    refine S_iconst (pc := 93) hC dX13_fill_93 (by decide) ?_
    refine S_goto (pc := 94) (tgt := 98) hC dX13_fill_94 (by decide) ?_
    exact hJ 98
  have hB97 : zin 8 [0, 1, 2, 3, 4, 5] (aX13_fill_97 mc ms X Q) X 97 := by
    intro u v vs st M hb
    rw [hXe]
    refine fun lv hp => S_block (L := 97) (live := [0, 1, 2, 3, 4, 5]) ?_ u v lv vs st M hp hb
    unfold aX13_fill_97
    refine S_iconst (pc := 97) hC dX13_fill_97 (by decide) ?_
    exact hJ 98
  have hB98 : zin 8 [0, 1, 2, 3, 4, 5] (aX13_fill_98 mc ms X Q) X 98 := by
    intro u v vs st M hb
    rw [hXe]
    refine fun lv hp => S_block (L := 98) (live := [0, 1, 2, 3, 4, 5]) ?_ u v lv vs st M hp hb
    unfold aX13_fill_98
    refine S_istore (pc := 98) hC dX13_fill_98 (by decide) ?_
    refine S_iload (pc := 100) hC dX13_fill_100 ?_
    refine S_if_eq (pc := 102) (tgt := 109) hC dX13_fill_102 (by decide) ?_ ?_
    · refine S_iconst (pc := 109) hC dX13_fill_109 (by decide) ?_
      exact hJ 110
    · refine S_iconst (pc := 105) hC dX13_fill_105 (by decide) ?_
      refine S_goto (pc := 106) (tgt := 110) hC dX13_fill_106 (by decide) ?_
      exact hJ 110
  have hB110 : zin 8 [0, 1, 2, 3, 4, 5, 6] (aX13_fill_110 mc ms X Q) X 110 := by
    intro u v vs st M hb
    rw [hXe]
    refine fun lv hp => S_block (L := 110) (live := [0, 1, 2, 3, 4, 5, 6]) ?_ u v lv vs st M hp hb
    unfold aX13_fill_110
    refine S_istore (pc := 110) hC dX13_fill_110 (by decide) ?_
    exact hJ 112
  have hB112 : zin 8 [0, 1, 2, 3, 4, 5, 6, 7] (aX13_fill_112 mc ms X Q) X 112 := by
    intro u v vs st M hb
    rw [hXe]
    refine fun lv hp => S_block (L := 112) (live := [0, 1, 2, 3, 4, 5, 6, 7]) ?_ u v lv vs st M hp hb
    unfold aX13_fill_112
    refine S_iload (pc := 112) hC dX13_fill_112 ?_
    refine S_iload (pc := 114) hC dX13_fill_114 ?_
    refine S_if_eq (pc := 116) (tgt := 123) hC dX13_fill_116 (by decide) ?_ ?_
    · refine S_iconst (pc := 123) hC dX13_fill_123 (by decide) ?_
      exact hJ 124
    · refine S_iconst (pc := 119) hC dX13_fill_119 (by decide) ?_
      refine S_goto (pc := 120) (tgt := 124) hC dX13_fill_120 (by decide) ?_
      exact hJ 124
  have hB124 : zin 8 [0, 1, 2, 3, 4, 5, 6, 7] (aX13_fill_124 mc ms X Q) X 124 := by
    intro u v vs st M hb
    rw [hXe]
    refine fun lv hp => S_block (L := 124) (live := [0, 1, 2, 3, 4, 5, 6, 7]) ?_ u v lv vs st M hp hb
    unfold aX13_fill_124
    refine S_icmp_gt (pc := 124) (tgt := 163) hC dX13_fill_124 (by decide) ?_ ?_
    · exact hJ 163
    · refine S_aload_n (pc := 127) hC dX13_fill_127 rfl ?_
      refine S_getR (pc := 128) hC cfX13 (by decide) (Or.inr ⟨_, rfl⟩) wd_1272 dX13_fill_128 ?_
      refine S_sipush (pc := 131) hC dX13_fill_131 (by decide) ?_
      refine S_iload_n (pc := 134) hC dX13_fill_134 rfl ?_
      refine S_imul (pc := 135) hC dX13_fill_135 ?_
      refine S_iload_n (pc := 136) hC dX13_fill_136 rfl ?_
      refine S_iadd (pc := 137) hC dX13_fill_137 ?_
      refine S_iload (pc := 138) hC dX13_fill_138 ?_
      refine S_bipush (pc := 140) hC dX13_fill_140 (by decide) ?_
      refine S_iload (pc := 142) hC dX13_fill_142 ?_
      refine S_imul (pc := 144) hC dX13_fill_144 ?_
      refine S_iadd (pc := 145) hC dX13_fill_145 ?_
      refine S_sipush (pc := 146) hC dX13_fill_146 (by decide) ?_
      refine S_iload (pc := 149) hC dX13_fill_149 ?_
      refine S_imul (pc := 151) hC dX13_fill_151 ?_
      refine S_iadd (pc := 152) hC dX13_fill_152 ?_
      refine S_iastore (pc := 153) hC dX13_fill_153 ?_
      refine S_iinc (pc := 154) hC dX13_fill_154 (by decide) (by decide) ?_
      refine S_iinc (pc := 157) hC dX13_fill_157 (by decide) (by decide) ?_
      refine S_goto (pc := 160) (tgt := 112) hC dX13_fill_160 (by decide) ?_
      exact hJ 112
  have hB163 : zin 8 [0, 1, 2, 3, 4, 5] (aX13_fill_163 mc ms X Q) X 163 := by
    intro u v vs st M hb
    rw [hXe]
    refine fun lv hp => S_block (L := 163) (live := [0, 1, 2, 3, 4, 5]) ?_ u v lv vs st M hp hb
    unfold aX13_fill_163
    refine S_iinc (pc := 163) hC dX13_fill_163 (by decide) (by decide) ?_
    refine S_goto (pc := 166) (tgt := 20) hC dX13_fill_166 (by decide) ?_
    exact hJ 20
  have hB169 : zin 8 [0, 1, 2, 3, 4] (aX13_fill_169 mc ms X Q) X 169 := by
    intro u v vs st M hb
    rw [hXe]
    refine fun lv hp => S_block (L := 169) (live := [0, 1, 2, 3, 4]) ?_ u v lv vs st M hp hb
    unfold aX13_fill_169
    refine S_iinc (pc := 169) hC dX13_fill_169 (by decide) (by decide) ?_
    refine S_goto (pc := 172) (tgt := 10) hC dX13_fill_172 (by decide) ?_
    exact hJ 10
  have := h.2 X hB0 hB10 hB20 hB93 hB97 hB98 hB110 hB112 hB124 hB163 hB169
  rw [hXe] at this
  exact this lv hlv
theorem vX13_fill_0 {mc ms : Nat} {X : Nat → zV} {Q : zQt} {M : zM} {x1 : Int32} (hW : zFix M)  (h : X 10 0 0 [.ref 55, .int x1, .int ((69 : Int32) * x1), .int 0, .int 0] [] M) : aX13_fill_0 mc ms X Q 0 0 [some (.ref 55), some (.int x1), none, none, none, none, none, none] [] M := h
theorem vX13_fill_10 {mc ms : Nat} {X : Nat → zV} {Q : zQt} {M : zM} {x1 : Int32} {x2 : Int32} {x3 : Int32} {x4 : Int32} (hW : zFix M)  (h : ((64 : Int32) ≤ x4 → vp_in x1 6 ∧ ∀ M181 : zM, M181 = (zsI M 67 (x1 : Int32).toNatClampNeg x3) → Q none M181) ∧ (¬ (64 : Int32) ≤ x4 → X 20 0 0 [.ref 55, .int x1, .int x2, .int x3, .int x4, .int 0] [] M)) : aX13_fill_10 mc ms X Q 0 0 [some (.ref 55), some (.int x1), some (.int x2), some (.int x3), some (.int x4), none, none, none] [] M := ⟨fun c14 => ⟨(fxs_55 hW), 67, (fxr_55_18 hW), ⟨6, (fxs_67 hW), (h.1 c14).1, (have h181 := (h.1 c14).2 _ rfl; h181)⟩⟩, fun c14 => (h.2 c14)⟩
theorem vX13_fill_20 {mc ms : Nat} {X : Nat → zV} {Q : zQt} {M : zM} {x1 : Int32} {x2 : Int32} {x3 : Int32} {x4 : Int32} {x5 : Int32} (hW : zFix M)  (h : ((64 : Int32) ≤ x5 → X 169 0 0 [.ref 55, .int x1, .int x2, .int x3, .int x4] [] M) ∧ (¬ (64 : Int32) ≤ x5 → vp_in ((x2 + x4)) 414 ∧ wX13_sideOf 0 0 [.int ((M : zM).1 65 ((x2 + x4) : Int32).toNatClampNeg)] M (fun r M1 => kX13_fill_39 mc ms X Q 0 0 [some (.ref 55), some (.int x1), some (.int x2), some (.int x3), some (.int x4), some (.int x5), none, none] (r.toList ++ []) M1))) : aX13_fill_20 mc ms X Q 0 0 [some (.ref 55), some (.int x1), some (.int x2), some (.int x3), some (.int x4), some (.int x5), none, none] [] M := ⟨fun c24 => (h.1 c24), fun c24 => ⟨(fxs_55 hW), 65, (fxr_55_16 hW), ⟨414, (fxs_65 hW), (h.2 c24).1, ⟨Nat.le_of_ble_eq_true rfl, rfl, 0, 0, Nat.zero_le _, Nat.zero_le _, (h.2 c24).2⟩⟩⟩⟩
theorem vX13_fill_93 {mc ms : Nat} {X : Nat → zV} {Q : zQt} {M : zM} {x1 : Int32} {x2 : Int32} {x3 : Int32} {x4 : Int32} {x5 : Int32} (hW : zFix M)  (h : X 98 0 0 [.ref 55, .int x1, .int x2, .int x3, .int x4, .int x5] [.int 1] M) : aX13_fill_93 mc ms X Q 0 0 [some (.ref 55), some (.int x1), some (.int x2), some (.int x3), some (.int x4), some (.int x5), none, none] [] M := h
theorem vX13_fill_97 {mc ms : Nat} {X : Nat → zV} {Q : zQt} {M : zM} {x1 : Int32} {x2 : Int32} {x3 : Int32} {x4 : Int32} {x5 : Int32} (hW : zFix M)  (h : X 98 0 0 [.ref 55, .int x1, .int x2, .int x3, .int x4, .int x5] [.int 0] M) : aX13_fill_97 mc ms X Q 0 0 [some (.ref 55), some (.int x1), some (.int x2), some (.int x3), some (.int x4), some (.int x5), none, none] [] M := h
theorem vX13_fill_98 {mc ms : Nat} {X : Nat → zV} {Q : zQt} {M : zM} {x1 : Int32} {x2 : Int32} {x3 : Int32} {x4 : Int32} {x5 : Int32} {s0 : Int32} (hW : zFix M)  (h : (s0 = 0 → X 110 0 0 [.ref 55, .int x1, .int x2, .int x3, .int x4, .int x5, .int s0] [.int 0] M) ∧ (¬ s0 = 0 → X 110 0 0 [.ref 55, .int x1, .int x2, .int x3, .int x4, .int x5, .int s0] [.int 2] M)) : aX13_fill_98 mc ms X Q 0 0 [some (.ref 55), some (.int x1), some (.int x2), some (.int x3), some (.int x4), some (.int x5), none, none] [.int s0] M := ⟨fun c102 => (h.1 c102), fun c102 => (h.2 c102)⟩
theorem vX13_fill_110 {mc ms : Nat} {X : Nat → zV} {Q : zQt} {M : zM} {x1 : Int32} {x2 : Int32} {x3 : Int32} {x4 : Int32} {x5 : Int32} {x6 : Int32} {s0 : Int32} (hW : zFix M)  (h : X 112 0 0 [.ref 55, .int x1, .int x2, .int x3, .int x4, .int x5, .int x6, .int s0] [] M) : aX13_fill_110 mc ms X Q 0 0 [some (.ref 55), some (.int x1), some (.int x2), some (.int x3), some (.int x4), some (.int x5), some (.int x6), none] [.int s0] M := h
theorem vX13_fill_112 {mc ms : Nat} {X : Nat → zV} {Q : zQt} {M : zM} {x1 : Int32} {x2 : Int32} {x3 : Int32} {x4 : Int32} {x5 : Int32} {x6 : Int32} {x7 : Int32} (hW : zFix M)  (h : (x6 = 0 → X 124 0 0 [.ref 55, .int x1, .int x2, .int x3, .int x4, .int x5, .int x6, .int x7] [.int 0, .int x7] M) ∧ (¬ x6 = 0 → X 124 0 0 [.ref 55, .int x1, .int x2, .int x3, .int x4, .int x5, .int x6, .int x7] [.int 5, .int x7] M)) : aX13_fill_112 mc ms X Q 0 0 [some (.ref 55), some (.int x1), some (.int x2), some (.int x3), some (.int x4), some (.int x5), some (.int x6), some (.int x7)] [] M := ⟨fun c116 => (h.1 c116), fun c116 => (h.2 c116)⟩
theorem vX13_fill_124 {mc ms : Nat} {X : Nat → zV} {Q : zQt} {M : zM} {x1 : Int32} {x2 : Int32} {x3 : Int32} {x4 : Int32} {x5 : Int32} {x6 : Int32} {x7 : Int32} {s0 : Int32} {s1 : Int32} (hW : zFix M)  (h : (s0 < s1 → X 163 0 0 [.ref 55, .int x1, .int x2, .int x3, .int x4, .int x5] [] M) ∧ (¬ s0 < s1 → vp_in ((((330 : Int32) * x1) + x3)) 1980 ∧ ∀ M153 : zM, M153 = (zsI M 66 ((((330 : Int32) * x1) + x3) : Int32).toNatClampNeg (((x4 + ((64 : Int32) * x5)) + ((4096 : Int32) * x7)))) → X 112 0 0 [.ref 55, .int x1, .int x2, .int (x3 + 1), .int x4, .int x5, .int x6, .int (x7 + 1)] [] M153)) : aX13_fill_124 mc ms X Q 0 0 [some (.ref 55), some (.int x1), some (.int x2), some (.int x3), some (.int x4), some (.int x5), some (.int x6), some (.int x7)] [.int s0, .int s1] M := ⟨fun c124 => (h.1 c124), fun c124 => ⟨(fxs_55 hW), 66, (fxr_55_17 hW), ⟨1980, (fxs_66 hW), (h.2 c124).1, (have h153 := (h.2 c124).2 _ rfl; h153)⟩⟩⟩
theorem vX13_fill_163 {mc ms : Nat} {X : Nat → zV} {Q : zQt} {M : zM} {x1 : Int32} {x2 : Int32} {x3 : Int32} {x4 : Int32} {x5 : Int32} (hW : zFix M)  (h : X 20 0 0 [.ref 55, .int x1, .int x2, .int x3, .int x4, .int (x5 + 1)] [] M) : aX13_fill_163 mc ms X Q 0 0 [some (.ref 55), some (.int x1), some (.int x2), some (.int x3), some (.int x4), some (.int x5), none, none] [] M := h
theorem vX13_fill_169 {mc ms : Nat} {X : Nat → zV} {Q : zQt} {M : zM} {x1 : Int32} {x2 : Int32} {x3 : Int32} {x4 : Int32} (hW : zFix M)  (h : X 10 0 0 [.ref 55, .int x1, .int x2, .int x3, .int (x4 + 1)] [] M) : aX13_fill_169 mc ms X Q 0 0 [some (.ref 55), some (.int x1), some (.int x2), some (.int x3), some (.int x4), none, none, none] [] M := h
theorem vkX13_fill_39 {mc ms : Nat} {X : Nat → zV} {Q : zQt} {M : zM} {x1 : Int32} {x2 : Int32} {x3 : Int32} {x4 : Int32} {x5 : Int32} {s0 : Int32} (hW : zFix M)  (h : vp_in ((x2 + (64 : Int32))) 414 ∧ (s0 = ((M : zM).1 65 ((x2 + (64 : Int32)) : Int32).toNatClampNeg) → wX13_isLegal 0 0 [.ref 55, .int x2, .int x4, .int x5] M (fun r M1 => kX13_fill_60 mc ms X Q 0 0 [some (.ref 55), some (.int x1), some (.int x2), some (.int x3), some (.int x4), some (.int x5), none, none] (r.toList ++ []) M1)) ∧ (¬ s0 = ((M : zM).1 65 ((x2 + (64 : Int32)) : Int32).toNatClampNeg) → X 169 0 0 [.ref 55, .int x1, .int x2, .int x3, .int x4] [] M)) : kX13_fill_39 mc ms X Q 0 0 [some (.ref 55), some (.int x1), some (.int x2), some (.int x3), some (.int x4), some (.int x5), none, none] [.int s0] M := ⟨(fxs_55 hW), 65, (fxr_55_16 hW), ⟨414, (fxs_65 hW), h.1, ⟨fun c48 => ⟨Nat.le_of_ble_eq_true rfl, rfl, (fxs_55 hW), 0, 0, Nat.zero_le _, Nat.zero_le _, (h.2.1 c48)⟩, fun c48 => (h.2.2 c48)⟩⟩⟩
theorem vkX13_fill_60 {mc ms : Nat} {X : Nat → zV} {Q : zQt} {M : zM} {x1 : Int32} {x2 : Int32} {x3 : Int32} {x4 : Int32} {x5 : Int32} {s0 : Int32} (hW : zFix M)  (h : (s0 = 0 → X 163 0 0 [.ref 55, .int x1, .int x2, .int x3, .int x4, .int x5] [] M) ∧ (¬ s0 = 0 → vp_in ((x2 + x4)) 414 ∧ wX13_kindOf 0 0 [.int ((M : zM).1 65 ((x2 + x4) : Int32).toNatClampNeg)] M (fun r M1 => kX13_fill_75 mc ms X Q 0 0 [some (.ref 55), some (.int x1), some (.int x2), some (.int x3), some (.int x4), some (.int x5), none, none] (r.toList ++ []) M1))) : kX13_fill_60 mc ms X Q 0 0 [some (.ref 55), some (.int x1), some (.int x2), some (.int x3), some (.int x4), some (.int x5), none, none] [.int s0] M := ⟨fun c60 => (h.1 c60), fun c60 => ⟨(fxs_55 hW), 65, (fxr_55_16 hW), ⟨414, (fxs_65 hW), (h.2 c60).1, ⟨Nat.le_of_ble_eq_true rfl, rfl, 0, 0, Nat.zero_le _, Nat.zero_le _, (h.2 c60).2⟩⟩⟩⟩
theorem vkX13_fill_75 {mc ms : Nat} {X : Nat → zV} {Q : zQt} {M : zM} {x1 : Int32} {x2 : Int32} {x3 : Int32} {x4 : Int32} {x5 : Int32} {s0 : Int32} (hW : zFix M)  (h : (s0 = (1 : Int32) → (x5 < (8 : Int32) → X 93 0 0 [.ref 55, .int x1, .int x2, .int x3, .int x4, .int x5] [] M) ∧ (¬ x5 < (8 : Int32) → (x5 ≤ (55 : Int32) → X 97 0 0 [.ref 55, .int x1, .int x2, .int x3, .int x4, .int x5] [] M) ∧ (¬ x5 ≤ (55 : Int32) → X 93 0 0 [.ref 55, .int x1, .int x2, .int x3, .int x4, .int x5] [] M))) ∧ (¬ s0 = (1 : Int32) → X 97 0 0 [.ref 55, .int x1, .int x2, .int x3, .int x4, .int x5] [] M)) : kX13_fill_75 mc ms X Q 0 0 [some (.ref 55), some (.int x1), some (.int x2), some (.int x3), some (.int x4), some (.int x5), none, none] [.int s0] M := ⟨fun c76 => ⟨fun c83 => ((h.1 c76).1 c83), fun c83 => ⟨fun c90 => (((h.1 c76).2 c83).1 c90), fun c90 => (((h.1 c76).2 c83).2 c90)⟩⟩, fun c76 => (h.2 c76)⟩
theorem dX13_hasMove_0 : decode cX13_hasMove 0 = .ok (.bipush 69, 2) := by decide +kernel
theorem dX13_hasMove_2 : decode cX13_hasMove 2 = .ok (.iload_n 1, 1) := by decide +kernel
theorem dX13_hasMove_3 : decode cX13_hasMove 3 = .ok (.imul, 1) := by decide +kernel
theorem dX13_hasMove_4 : decode cX13_hasMove 4 = .ok (.istore_n 2, 1) := by decide +kernel
theorem dX13_hasMove_5 : decode cX13_hasMove 5 = .ok (.iconst 0, 1) := by decide +kernel
theorem dX13_hasMove_6 : decode cX13_hasMove 6 = .ok (.istore_n 3, 1) := by decide +kernel
theorem dX13_hasMove_7 : decode cX13_hasMove 7 = .ok (.iload_n 3, 1) := by decide +kernel
theorem dX13_hasMove_8 : decode cX13_hasMove 8 = .ok (.bipush 64, 2) := by decide +kernel
theorem dX13_hasMove_10 : decode cX13_hasMove 10 = .ok (.if_icmp .ge 61, 3) := by decide +kernel
theorem dX13_hasMove_13 : decode cX13_hasMove 13 = .ok (.iconst 0, 1) := by decide +kernel
theorem dX13_hasMove_14 : decode cX13_hasMove 14 = .ok (.istore 4, 2) := by decide +kernel
theorem dX13_hasMove_16 : decode cX13_hasMove 16 = .ok (.iload 4, 2) := by decide +kernel
theorem dX13_hasMove_18 : decode cX13_hasMove 18 = .ok (.bipush 64, 2) := by decide +kernel
theorem dX13_hasMove_20 : decode cX13_hasMove 20 = .ok (.if_icmp .ge 45, 3) := by decide +kernel
theorem dX13_hasMove_23 : decode cX13_hasMove 23 = .ok (.aload_n 0, 1) := by decide +kernel
theorem dX13_hasMove_24 : decode cX13_hasMove 24 = .ok (.getfield 43, 3) := by decide +kernel
theorem dX13_hasMove_27 : decode cX13_hasMove 27 = .ok (.iload_n 2, 1) := by decide +kernel
theorem dX13_hasMove_28 : decode cX13_hasMove 28 = .ok (.iload_n 3, 1) := by decide +kernel
theorem dX13_hasMove_29 : decode cX13_hasMove 29 = .ok (.iadd, 1) := by decide +kernel
theorem dX13_hasMove_30 : decode cX13_hasMove 30 = .ok (.iaload, 1) := by decide +kernel
theorem dX13_hasMove_31 : decode cX13_hasMove 31 = .ok (.invokestatic 78, 3) := by decide +kernel
theorem dX13_hasMove_34 : decode cX13_hasMove 34 = .ok (.aload_n 0, 1) := by decide +kernel
theorem dX13_hasMove_35 : decode cX13_hasMove 35 = .ok (.getfield 43, 3) := by decide +kernel
theorem dX13_hasMove_38 : decode cX13_hasMove 38 = .ok (.iload_n 2, 1) := by decide +kernel
theorem dX13_hasMove_39 : decode cX13_hasMove 39 = .ok (.bipush 64, 2) := by decide +kernel
theorem dX13_hasMove_41 : decode cX13_hasMove 41 = .ok (.iadd, 1) := by decide +kernel
theorem dX13_hasMove_42 : decode cX13_hasMove 42 = .ok (.iaload, 1) := by decide +kernel
theorem dX13_hasMove_43 : decode cX13_hasMove 43 = .ok (.if_icmp .ne 22, 3) := by decide +kernel
theorem dX13_hasMove_46 : decode cX13_hasMove 46 = .ok (.aload_n 0, 1) := by decide +kernel
theorem dX13_hasMove_47 : decode cX13_hasMove 47 = .ok (.iload_n 2, 1) := by decide +kernel
theorem dX13_hasMove_48 : decode cX13_hasMove 48 = .ok (.iload_n 3, 1) := by decide +kernel
theorem dX13_hasMove_49 : decode cX13_hasMove 49 = .ok (.iload 4, 2) := by decide +kernel
theorem dX13_hasMove_51 : decode cX13_hasMove 51 = .ok (.invokevirtual 120, 3) := by decide +kernel
theorem dX13_hasMove_54 : decode cX13_hasMove 54 = .ok (.ifCond .eq 5, 3) := by decide +kernel
theorem dX13_hasMove_57 : decode cX13_hasMove 57 = .ok (.iconst 1, 1) := by decide +kernel
theorem dX13_hasMove_58 : decode cX13_hasMove 58 = .ok (.ireturn, 1) := by decide +kernel
theorem dX13_hasMove_59 : decode cX13_hasMove 59 = .ok (.iinc 4 1, 3) := by decide +kernel
theorem dX13_hasMove_62 : decode cX13_hasMove 62 = .ok (.goto (-46), 3) := by decide +kernel
theorem dX13_hasMove_65 : decode cX13_hasMove 65 = .ok (.iinc 3 1, 3) := by decide +kernel
theorem dX13_hasMove_68 : decode cX13_hasMove 68 = .ok (.goto (-61), 3) := by decide +kernel
theorem dX13_hasMove_71 : decode cX13_hasMove 71 = .ok (.iconst 0, 1) := by decide +kernel
theorem dX13_hasMove_72 : decode cX13_hasMove 72 = .ok (.ireturn, 1) := by decide +kernel
def kX13_hasMove_54 (mc ms : Nat) (X : Nat → zV) (Q : zQt) : zT :=
  zif (fun x => x = 0) (zinc 4 1 <| zj X 16 [0, 2, 3, 4]) <| zc (.int 1) <| zrz .boolean Q
def kX13_hasMove_34 (mc ms : Nat) (X : Nat → zV) (Q : zQt) : zT :=
  zla 0 <| zgR 13 16 <| zli 2 <| zc (.int 64) <| zii (fun x y => x + y) <| zal 1 <| zic (fun x y => x = y) (zla 0 <| zli 2 <| zli 3 <| zli 4 <| zcv mc ms 13 3 wX13_isLegal <| kX13_hasMove_54 mc ms X Q) <| zj X 65 [0, 2, 3]
def aX13_hasMove_0 (mc ms : Nat) (X : Nat → zV) (Q : zQt) : zT :=
  zc (.int 69) <| zli 1 <| zii (fun x y => x * y) <| zsi 2 <| zc (.int 0) <| zsi 3 <| zj X 7 [0, 2, 3]
def aX13_hasMove_7 (mc ms : Nat) (X : Nat → zV) (Q : zQt) : zT :=
  zli 3 <| zc (.int 64) <| zic (fun x y => y ≤ x) (zc (.int 0) <| zrz .boolean Q) <| zc (.int 0) <| zsi 4 <| zj X 16 [0, 2, 3, 4]
def aX13_hasMove_16 (mc ms : Nat) (X : Nat → zV) (Q : zQt) : zT :=
  zli 4 <| zc (.int 64) <| zic (fun x y => y ≤ x) (zj X 65 [0, 2, 3]) <| zla 0 <| zgR 13 16 <| zli 2 <| zli 3 <| zii (fun x y => x + y) <| zal 1 <| zcs mc ms 1 wX13_sideOf <| kX13_hasMove_34 mc ms X Q
def aX13_hasMove_65 (mc ms : Nat) (X : Nat → zV) (Q : zQt) : zT :=
  zinc 3 1 <| zj X 7 [0, 2, 3]
def lvX13_hasMove : Nat → List Nat := fun L => match L with
  | 0 => [0, 1]
  | 7 => [0, 2, 3]
  | 16 => [0, 2, 3, 4]
  | 65 => [0, 2, 3]
  | _ => []
def wX13_hasMove : zSp := fun mc ms av M Q => ((zlay av).length ≤ 5 ∧ zpick (zlay av) [0, 1] = some av) ∧ ∀ X : Nat → zV, zin 5 [0, 1] (aX13_hasMove_0 mc ms X Q) X 0 → zin 5 [0, 2, 3] (aX13_hasMove_7 mc ms X Q) X 7 → zin 5 [0, 2, 3, 4] (aX13_hasMove_16 mc ms X Q) X 16 → zin 5 [0, 2, 3] (aX13_hasMove_65 mc ms X Q) X 65 → X 0 0 0 av [] M
set_option maxRecDepth 100000 in
set_option maxHeartbeats 4000000 in
theorem sX13_hasMove (l : Launch) (G : zG) : zSnd l G yX13_hasMove cX13_hasMove 5 (some .boolean) 6 157 wX13_hasMove := by
  refine zmk [0, 1] (by decide) (fun mc ms av M Q h => h.1) ?_
  intro p e R s m args below meth c mc ms av M Q hC hRf hRl hr hnm h lv hlv
  obtain ⟨X, hXe⟩ : ∃ X : Nat → zV, X = fun L u v vs st M => ∀ lv, zpick lv (lvX13_hasMove L) = some vs → zAt p l e R s m args below meth c (MQ below (zQ G Q) args s mc ms (zA G)) G 5 L u v lv st M := ⟨_, rfl⟩
  have hJ : ∀ L, zOk p l e R s m args below meth c (MQ below (zQ G Q) args s mc ms (zA G)) G 5 L (zj X L (lvX13_hasMove L)) := fun L => S_jump (fun u v lv vs st M hp hx => by rw [hXe] at hx; exact hx lv hp)
  have hB0 : zin 5 [0, 1] (aX13_hasMove_0 mc ms X Q) X 0 := by
    intro u v vs st M hb
    rw [hXe]
    refine fun lv hp => S_block (L := 0) (live := [0, 1]) ?_ u v lv vs st M hp hb
    unfold aX13_hasMove_0
    refine S_bipush (pc := 0) hC dX13_hasMove_0 (by decide) ?_
    refine S_iload_n (pc := 2) hC dX13_hasMove_2 rfl ?_
    refine S_imul (pc := 3) hC dX13_hasMove_3 ?_
    refine S_istore_n (pc := 4) hC dX13_hasMove_4 rfl (by decide) ?_
    refine S_iconst (pc := 5) hC dX13_hasMove_5 (by decide) ?_
    refine S_istore_n (pc := 6) hC dX13_hasMove_6 rfl (by decide) ?_
    exact hJ 7
  have hB7 : zin 5 [0, 2, 3] (aX13_hasMove_7 mc ms X Q) X 7 := by
    intro u v vs st M hb
    rw [hXe]
    refine fun lv hp => S_block (L := 7) (live := [0, 2, 3]) ?_ u v lv vs st M hp hb
    unfold aX13_hasMove_7
    refine S_iload_n (pc := 7) hC dX13_hasMove_7 rfl ?_
    refine S_bipush (pc := 8) hC dX13_hasMove_8 (by decide) ?_
    refine S_icmp_ge (pc := 10) (tgt := 71) hC dX13_hasMove_10 (by decide) ?_ ?_
    · refine S_iconst (pc := 71) hC dX13_hasMove_71 (by decide) ?_
      exact S_zreturn (pc := 72) hC hr dX13_hasMove_72
    · refine S_iconst (pc := 13) hC dX13_hasMove_13 (by decide) ?_
      refine S_istore (pc := 14) hC dX13_hasMove_14 (by decide) ?_
      exact hJ 16
  have hB16 : zin 5 [0, 2, 3, 4] (aX13_hasMove_16 mc ms X Q) X 16 := by
    intro u v vs st M hb
    rw [hXe]
    refine fun lv hp => S_block (L := 16) (live := [0, 2, 3, 4]) ?_ u v lv vs st M hp hb
    unfold aX13_hasMove_16
    refine S_iload (pc := 16) hC dX13_hasMove_16 ?_
    refine S_bipush (pc := 18) hC dX13_hasMove_18 (by decide) ?_
    refine S_icmp_ge (pc := 20) (tgt := 65) hC dX13_hasMove_20 (by decide) ?_ ?_
    · exact hJ 65
    · refine S_aload_n (pc := 23) hC dX13_hasMove_23 rfl ?_
      refine S_getR (pc := 24) hC cfX13 (by decide) (Or.inr ⟨_, rfl⟩) wd_1271 dX13_hasMove_24 ?_
      refine S_iload_n (pc := 27) hC dX13_hasMove_27 rfl ?_
      refine S_iload_n (pc := 28) hC dX13_hasMove_28 rfl ?_
      refine S_iadd (pc := 29) hC dX13_hasMove_29 ?_
      refine S_iaload (pc := 30) hC dX13_hasMove_30 ?_
      refine S_callS (pc := 31) hC (sX13_sideOf l G) wd_1425 wd_1426 wd_12 wd_1427 (by decide +kernel) ⟨by rw [hRf]; decide, by rw [hRl]; decide⟩ dX13_hasMove_31 ?_
      unfold kX13_hasMove_34
      refine S_aload_n (pc := 34) hC dX13_hasMove_34 rfl ?_
      refine S_getR (pc := 35) hC cfX13 (by decide) (Or.inr ⟨_, rfl⟩) wd_1271 dX13_hasMove_35 ?_
      refine S_iload_n (pc := 38) hC dX13_hasMove_38 rfl ?_
      refine S_bipush (pc := 39) hC dX13_hasMove_39 (by decide) ?_
      refine S_iadd (pc := 41) hC dX13_hasMove_41 ?_
      refine S_iaload (pc := 42) hC dX13_hasMove_42 ?_
      refine S_icmp_ne (pc := 43) (tgt := 65) hC dX13_hasMove_43 (by decide) ?_ ?_
      · exact hJ 65
      · refine S_aload_n (pc := 46) hC dX13_hasMove_46 rfl ?_
        refine S_iload_n (pc := 47) hC dX13_hasMove_47 rfl ?_
        refine S_iload_n (pc := 48) hC dX13_hasMove_48 rfl ?_
        refine S_iload (pc := 49) hC dX13_hasMove_49 ?_
        refine S_callV (pc := 51) hC (sX13_isLegal l G) rfl wd_1447 wd_1449 ws_73 wd_12 wd_1450 (by decide +kernel) ⟨by rw [hRf]; decide, by rw [hRl]; decide⟩ dX13_hasMove_51 ?_
        unfold kX13_hasMove_54
        refine S_if_eq (pc := 54) (tgt := 59) hC dX13_hasMove_54 (by decide) ?_ ?_
        · refine S_iinc (pc := 59) hC dX13_hasMove_59 (by decide) (by decide) ?_
          refine S_goto (pc := 62) (tgt := 16) hC dX13_hasMove_62 (by decide) ?_
          exact hJ 16
        · refine S_iconst (pc := 57) hC dX13_hasMove_57 (by decide) ?_
          exact S_zreturn (pc := 58) hC hr dX13_hasMove_58
  have hB65 : zin 5 [0, 2, 3] (aX13_hasMove_65 mc ms X Q) X 65 := by
    intro u v vs st M hb
    rw [hXe]
    refine fun lv hp => S_block (L := 65) (live := [0, 2, 3]) ?_ u v lv vs st M hp hb
    unfold aX13_hasMove_65
    refine S_iinc (pc := 65) hC dX13_hasMove_65 (by decide) (by decide) ?_
    refine S_goto (pc := 68) (tgt := 7) hC dX13_hasMove_68 (by decide) ?_
    exact hJ 7
  have := h.2 X hB0 hB7 hB16 hB65
  rw [hXe] at this
  exact this lv hlv
theorem vX13_hasMove_0 {mc ms : Nat} {X : Nat → zV} {Q : zQt} {M : zM} {x1 : Int32} (hW : zFix M)  (h : X 7 0 0 [.ref 55, .int ((69 : Int32) * x1), .int 0] [] M) : aX13_hasMove_0 mc ms X Q 0 0 [some (.ref 55), some (.int x1), none, none, none] [] M := h
theorem vX13_hasMove_7 {mc ms : Nat} {X : Nat → zV} {Q : zQt} {M : zM} {x2 : Int32} {x3 : Int32} (hW : zFix M)  (h : ((64 : Int32) ≤ x3 → Q (some (.int 0)) M) ∧ (¬ (64 : Int32) ≤ x3 → X 16 0 0 [.ref 55, .int x2, .int x3, .int 0] [] M)) : aX13_hasMove_7 mc ms X Q 0 0 [some (.ref 55), none, some (.int x2), some (.int x3), none] [] M := ⟨fun c10 => ⟨rfl, (h.1 c10)⟩, fun c10 => (h.2 c10)⟩
theorem vX13_hasMove_16 {mc ms : Nat} {X : Nat → zV} {Q : zQt} {M : zM} {x2 : Int32} {x3 : Int32} {x4 : Int32} (hW : zFix M)  (h : ((64 : Int32) ≤ x4 → X 65 0 0 [.ref 55, .int x2, .int x3] [] M) ∧ (¬ (64 : Int32) ≤ x4 → vp_in ((x2 + x3)) 414 ∧ wX13_sideOf 0 0 [.int ((M : zM).1 65 ((x2 + x3) : Int32).toNatClampNeg)] M (fun r M1 => kX13_hasMove_34 mc ms X Q 0 0 [some (.ref 55), none, some (.int x2), some (.int x3), some (.int x4)] (r.toList ++ []) M1))) : aX13_hasMove_16 mc ms X Q 0 0 [some (.ref 55), none, some (.int x2), some (.int x3), some (.int x4)] [] M := ⟨fun c20 => (h.1 c20), fun c20 => ⟨(fxs_55 hW), 65, (fxr_55_16 hW), ⟨414, (fxs_65 hW), (h.2 c20).1, ⟨Nat.le_of_ble_eq_true rfl, rfl, 0, 0, Nat.zero_le _, Nat.zero_le _, (h.2 c20).2⟩⟩⟩⟩
theorem vX13_hasMove_65 {mc ms : Nat} {X : Nat → zV} {Q : zQt} {M : zM} {x2 : Int32} {x3 : Int32} (hW : zFix M)  (h : X 7 0 0 [.ref 55, .int x2, .int (x3 + 1)] [] M) : aX13_hasMove_65 mc ms X Q 0 0 [some (.ref 55), none, some (.int x2), some (.int x3), none] [] M := h
theorem vkX13_hasMove_34 {mc ms : Nat} {X : Nat → zV} {Q : zQt} {M : zM} {x2 : Int32} {x3 : Int32} {x4 : Int32} {s0 : Int32} (hW : zFix M)  (h : vp_in ((x2 + (64 : Int32))) 414 ∧ (s0 = ((M : zM).1 65 ((x2 + (64 : Int32)) : Int32).toNatClampNeg) → wX13_isLegal 0 0 [.ref 55, .int x2, .int x3, .int x4] M (fun r M1 => kX13_hasMove_54 mc ms X Q 0 0 [some (.ref 55), none, some (.int x2), some (.int x3), some (.int x4)] (r.toList ++ []) M1)) ∧ (¬ s0 = ((M : zM).1 65 ((x2 + (64 : Int32)) : Int32).toNatClampNeg) → X 65 0 0 [.ref 55, .int x2, .int x3] [] M)) : kX13_hasMove_34 mc ms X Q 0 0 [some (.ref 55), none, some (.int x2), some (.int x3), some (.int x4)] [.int s0] M := ⟨(fxs_55 hW), 65, (fxr_55_16 hW), ⟨414, (fxs_65 hW), h.1, ⟨fun c43 => ⟨Nat.le_of_ble_eq_true rfl, rfl, (fxs_55 hW), 0, 0, Nat.zero_le _, Nat.zero_le _, (h.2.1 c43)⟩, fun c43 => (h.2.2 c43)⟩⟩⟩
theorem vkX13_hasMove_54 {mc ms : Nat} {X : Nat → zV} {Q : zQt} {M : zM} {x2 : Int32} {x3 : Int32} {x4 : Int32} {s0 : Int32} (hW : zFix M)  (h : (s0 = 0 → X 16 0 0 [.ref 55, .int x2, .int x3, .int (x4 + 1)] [] M) ∧ (¬ s0 = 0 → Q (some (.int 1)) M)) : kX13_hasMove_54 mc ms X Q 0 0 [some (.ref 55), none, some (.int x2), some (.int x3), some (.int x4)] [.int s0] M := ⟨fun c54 => (h.1 c54), fun c54 => ⟨rfl, (h.2 c54)⟩⟩
theorem dX13_base_0 : decode cX13_base 0 = .ok (.sipush 601, 3) := by decide +kernel
theorem dX13_base_3 : decode cX13_base 3 = .ok (.aload_n 0, 1) := by decide +kernel
theorem dX13_base_4 : decode cX13_base 4 = .ok (.getfield 123, 3) := by decide +kernel
theorem dX13_base_7 : decode cX13_base 7 = .ok (.imul, 1) := by decide +kernel
theorem dX13_base_8 : decode cX13_base 8 = .ok (.ireturn, 1) := by decide +kernel
def aX13_base_0 (mc ms : Nat) (X : Nat → zV) (Q : zQt) : zT :=
  zc (.int 601) <| zla 0 <| zgi 13 6 <| zii (fun x y => x * y) <| zri Q
def lvX13_base : Nat → List Nat := fun L => match L with
  | 0 => [0]
  | _ => []
def wX13_base : zSp := fun mc ms av M Q => ((zlay av).length ≤ 1 ∧ zpick (zlay av) [0] = some av) ∧ ∀ X : Nat → zV, zin 1 [0] (aX13_base_0 mc ms X Q) X 0 → X 0 0 0 av [] M
set_option maxRecDepth 100000 in
set_option maxHeartbeats 4000000 in
theorem sX13_base (l : Launch) (G : zG) : zSnd l G yX13_base cX13_base 1 (some .int) 0 0 wX13_base := by
  refine zmk [0] (by decide) (fun mc ms av M Q h => h.1) ?_
  intro p e R s m args below meth c mc ms av M Q hC hRf hRl hr hnm h lv hlv
  obtain ⟨X, hXe⟩ : ∃ X : Nat → zV, X = fun L u v vs st M => ∀ lv, zpick lv (lvX13_base L) = some vs → zAt p l e R s m args below meth c (MQ below (zQ G Q) args s mc ms (zA G)) G 1 L u v lv st M := ⟨_, rfl⟩
  have hJ : ∀ L, zOk p l e R s m args below meth c (MQ below (zQ G Q) args s mc ms (zA G)) G 1 L (zj X L (lvX13_base L)) := fun L => S_jump (fun u v lv vs st M hp hx => by rw [hXe] at hx; exact hx lv hp)
  have hB0 : zin 1 [0] (aX13_base_0 mc ms X Q) X 0 := by
    intro u v vs st M hb
    rw [hXe]
    refine fun lv hp => S_block (L := 0) (live := [0]) ?_ u v lv vs st M hp hb
    unfold aX13_base_0
    refine S_sipush (pc := 0) hC dX13_base_0 (by decide) ?_
    refine S_aload_n (pc := 3) hC dX13_base_3 rfl ?_
    refine S_geti (pc := 4) hC cfX13 (by decide) (Or.inl rfl) wd_1261 dX13_base_4 ?_
    refine S_imul (pc := 7) hC dX13_base_7 ?_
    exact S_ireturn (pc := 8) hC hr dX13_base_8
  have := h.2 X hB0
  rw [hXe] at this
  exact this lv hlv
theorem vX13_base_0 {mc ms : Nat} {X : Nat → zV} {Q : zQt} {M : zM}  (hW : zFix M)  (h : Q (some (.int (((601 : Int32) * (M.1 55 6))))) M) : aX13_base_0 mc ms X Q 0 0 [some (.ref 55)] [] M := ⟨(fxs_55 hW), h⟩
theorem dX13_show_0 : decode cX13_show 0 = .ok (.bipush 69, 2) := by decide +kernel
theorem dX13_show_2 : decode cX13_show 2 = .ok (.aload_n 0, 1) := by decide +kernel
theorem dX13_show_3 : decode cX13_show 3 = .ok (.invokevirtual 126, 3) := by decide +kernel
theorem dX13_show_6 : decode cX13_show 6 = .ok (.aload_n 0, 1) := by decide +kernel
theorem dX13_show_7 : decode cX13_show 7 = .ok (.getfield 22, 3) := by decide +kernel
theorem dX13_show_10 : decode cX13_show 10 = .ok (.aload_n 0, 1) := by decide +kernel
theorem dX13_show_11 : decode cX13_show 11 = .ok (.getfield 123, 3) := by decide +kernel
theorem dX13_show_14 : decode cX13_show 14 = .ok (.iaload, 1) := by decide +kernel
theorem dX13_show_15 : decode cX13_show 15 = .ok (.iadd, 1) := by decide +kernel
theorem dX13_show_16 : decode cX13_show 16 = .ok (.iconst 1, 1) := by decide +kernel
theorem dX13_show_17 : decode cX13_show 17 = .ok (.isub, 1) := by decide +kernel
theorem dX13_show_18 : decode cX13_show 18 = .ok (.imul, 1) := by decide +kernel
theorem dX13_show_19 : decode cX13_show 19 = .ok (.istore_n 1, 1) := by decide +kernel
theorem dX13_show_20 : decode cX13_show 20 = .ok (.iconst 0, 1) := by decide +kernel
theorem dX13_show_21 : decode cX13_show 21 = .ok (.istore_n 2, 1) := by decide +kernel
theorem dX13_show_22 : decode cX13_show 22 = .ok (.iload_n 2, 1) := by decide +kernel
theorem dX13_show_23 : decode cX13_show 23 = .ok (.bipush 69, 2) := by decide +kernel
theorem dX13_show_25 : decode cX13_show 25 = .ok (.if_icmp .ge 23, 3) := by decide +kernel
theorem dX13_show_28 : decode cX13_show 28 = .ok (.aload_n 0, 1) := by decide +kernel
theorem dX13_show_29 : decode cX13_show 29 = .ok (.getfield 43, 3) := by decide +kernel
theorem dX13_show_32 : decode cX13_show 32 = .ok (.iload_n 2, 1) := by decide +kernel
theorem dX13_show_33 : decode cX13_show 33 = .ok (.aload_n 0, 1) := by decide +kernel
theorem dX13_show_34 : decode cX13_show 34 = .ok (.getfield 18, 3) := by decide +kernel
theorem dX13_show_37 : decode cX13_show 37 = .ok (.iload_n 1, 1) := by decide +kernel
theorem dX13_show_38 : decode cX13_show 38 = .ok (.iload_n 2, 1) := by decide +kernel
theorem dX13_show_39 : decode cX13_show 39 = .ok (.iadd, 1) := by decide +kernel
theorem dX13_show_40 : decode cX13_show 40 = .ok (.iaload, 1) := by decide +kernel
theorem dX13_show_41 : decode cX13_show 41 = .ok (.iastore, 1) := by decide +kernel
theorem dX13_show_42 : decode cX13_show 42 = .ok (.iinc 2 1, 3) := by decide +kernel
theorem dX13_show_45 : decode cX13_show 45 = .ok (.goto (-23), 3) := by decide +kernel
theorem dX13_show_48 : decode cX13_show 48 = .ok (.aload_n 0, 1) := by decide +kernel
theorem dX13_show_49 : decode cX13_show 49 = .ok (.iconst 0, 1) := by decide +kernel
theorem dX13_show_50 : decode cX13_show 50 = .ok (.invokevirtual 130, 3) := by decide +kernel
theorem dX13_show_53 : decode cX13_show 53 = .ok (.return_, 1) := by decide +kernel
def kX13_show_20 (mc ms : Nat) (X : Nat → zV) (Q : zQt) : zT :=
  zc (.int 0) <| zsi 2 <| zj X 22 [0, 1, 2]
def kX13_show_6 (mc ms : Nat) (X : Nat → zV) (Q : zQt) : zT :=
  zla 0 <| zgR 13 9 <| zla 0 <| zgi 13 6 <| zal 1 <| zii (fun x y => x + y) <| zc (.int 1) <| zii (fun x y => x - y) <| zii (fun x y => x * y) <| zsiN 1 <| kX13_show_20 mc ms X Q
def kX13_show_53 (mc ms : Nat) (X : Nat → zV) (Q : zQt) : zT :=
  zrv Q
def aX13_show_0 (mc ms : Nat) (X : Nat → zV) (Q : zQt) : zT :=
  zc (.int 69) <| zla 0 <| zcv mc ms 13 0 wX13_base <| kX13_show_6 mc ms X Q
def aX13_show_22 (mc ms : Nat) (X : Nat → zV) (Q : zQt) : zT :=
  zli 2 <| zc (.int 69) <| zic (fun x y => y ≤ x) (zla 0 <| zc (.int 0) <| zcv mc ms 13 1 wX13_fill <| kX13_show_53 mc ms X Q) <| zla 0 <| zgR 13 16 <| zli 2 <| zla 0 <| zgR 13 8 <| zli 1 <| zli 2 <| zii (fun x y => x + y) <| zal 1 <| zas 1 (fun x => x) <| zinc 2 1 <| zj X 22 [0, 1, 2]
def lvX13_show : Nat → List Nat := fun L => match L with
  | 0 => [0]
  | 22 => [0, 1, 2]
  | _ => []
def wX13_show : zSp := fun mc ms av M Q => ((zlay av).length ≤ 3 ∧ zpick (zlay av) [0] = some av) ∧ ∀ X : Nat → zV, zin 3 [0] (aX13_show_0 mc ms X Q) X 0 → zin 3 [0, 1, 2] (aX13_show_22 mc ms X Q) X 22 → X 0 0 0 av [] M
set_option maxRecDepth 100000 in
set_option maxHeartbeats 4000000 in
theorem sX13_show (l : Launch) (G : zG) : zSnd l G yX13_show cX13_show 3 none 7 184 wX13_show := by
  refine zmk [0] (by decide) (fun mc ms av M Q h => h.1) ?_
  intro p e R s m args below meth c mc ms av M Q hC hRf hRl hr hnm h lv hlv
  obtain ⟨X, hXe⟩ : ∃ X : Nat → zV, X = fun L u v vs st M => ∀ lv, zpick lv (lvX13_show L) = some vs → zAt p l e R s m args below meth c (MQ below (zQ G Q) args s mc ms (zA G)) G 3 L u v lv st M := ⟨_, rfl⟩
  have hJ : ∀ L, zOk p l e R s m args below meth c (MQ below (zQ G Q) args s mc ms (zA G)) G 3 L (zj X L (lvX13_show L)) := fun L => S_jump (fun u v lv vs st M hp hx => by rw [hXe] at hx; exact hx lv hp)
  have hB0 : zin 3 [0] (aX13_show_0 mc ms X Q) X 0 := by
    intro u v vs st M hb
    rw [hXe]
    refine fun lv hp => S_block (L := 0) (live := [0]) ?_ u v lv vs st M hp hb
    unfold aX13_show_0
    refine S_bipush (pc := 0) hC dX13_show_0 (by decide) ?_
    refine S_aload_n (pc := 2) hC dX13_show_2 rfl ?_
    refine S_callV (pc := 3) hC (sX13_base l G) rfl wd_1439 wd_1441 ws_71 wd_12 wd_1442 (by decide +kernel) ⟨by rw [hRf]; decide, by rw [hRl]; decide⟩ dX13_show_3 ?_
    unfold kX13_show_6
    refine S_aload_n (pc := 6) hC dX13_show_6 rfl ?_
    refine S_getR (pc := 7) hC cfX13 (by decide) (Or.inr ⟨_, rfl⟩) wd_1264 dX13_show_7 ?_
    refine S_aload_n (pc := 10) hC dX13_show_10 rfl ?_
    refine S_geti (pc := 11) hC cfX13 (by decide) (Or.inl rfl) wd_1261 dX13_show_11 ?_
    refine S_iaload (pc := 14) hC dX13_show_14 ?_
    refine S_iadd (pc := 15) hC dX13_show_15 ?_
    refine S_iconst (pc := 16) hC dX13_show_16 (by decide) ?_
    refine S_isub (pc := 17) hC dX13_show_17 ?_
    refine S_imul (pc := 18) hC dX13_show_18 ?_
    refine S_istore_n_N (pc := 19) hC dX13_show_19 rfl (by decide) ?_
    unfold kX13_show_20
    refine S_iconst (pc := 20) hC dX13_show_20 (by decide) ?_
    refine S_istore_n (pc := 21) hC dX13_show_21 rfl (by decide) ?_
    exact hJ 22
  have hB22 : zin 3 [0, 1, 2] (aX13_show_22 mc ms X Q) X 22 := by
    intro u v vs st M hb
    rw [hXe]
    refine fun lv hp => S_block (L := 22) (live := [0, 1, 2]) ?_ u v lv vs st M hp hb
    unfold aX13_show_22
    refine S_iload_n (pc := 22) hC dX13_show_22 rfl ?_
    refine S_bipush (pc := 23) hC dX13_show_23 (by decide) ?_
    refine S_icmp_ge (pc := 25) (tgt := 48) hC dX13_show_25 (by decide) ?_ ?_
    · refine S_aload_n (pc := 48) hC dX13_show_48 rfl ?_
      refine S_iconst (pc := 49) hC dX13_show_49 (by decide) ?_
      refine S_callV (pc := 50) hC (sX13_fill l G) rfl wd_1443 wd_1445 ws_72 wd_12 wd_1446 (by decide +kernel) ⟨by rw [hRf]; decide, by rw [hRl]; decide⟩ dX13_show_50 ?_
      unfold kX13_show_53
      exact S_vreturn (pc := 53) hC hr dX13_show_53
    · refine S_aload_n (pc := 28) hC dX13_show_28 rfl ?_
      refine S_getR (pc := 29) hC cfX13 (by decide) (Or.inr ⟨_, rfl⟩) wd_1271 dX13_show_29 ?_
      refine S_iload_n (pc := 32) hC dX13_show_32 rfl ?_
      refine S_aload_n (pc := 33) hC dX13_show_33 rfl ?_
      refine S_getR (pc := 34) hC cfX13 (by decide) (Or.inr ⟨_, rfl⟩) wd_1263 dX13_show_34 ?_
      refine S_iload_n (pc := 37) hC dX13_show_37 rfl ?_
      refine S_iload_n (pc := 38) hC dX13_show_38 rfl ?_
      refine S_iadd (pc := 39) hC dX13_show_39 ?_
      refine S_iaload (pc := 40) hC dX13_show_40 ?_
      refine S_iastore (pc := 41) hC dX13_show_41 ?_
      refine S_iinc (pc := 42) hC dX13_show_42 (by decide) (by decide) ?_
      refine S_goto (pc := 45) (tgt := 22) hC dX13_show_45 (by decide) ?_
      exact hJ 22
  have := h.2 X hB0 hB22
  rw [hXe] at this
  exact this lv hlv
theorem vX13_show_0 {mc ms : Nat} {X : Nat → zV} {Q : zQt} {M : zM}  (hW : zFix M)  (h : wX13_base 0 0 [.ref 55] M (fun r M1 => kX13_show_6 mc ms X Q 0 0 [some (.ref 55), none, none] (r.toList ++ [.int 69]) M1)) : aX13_show_0 mc ms X Q 0 0 [some (.ref 55), none, none] [] M := ⟨Nat.le_of_ble_eq_true rfl, rfl, (fxs_55 hW), 0, 0, Nat.zero_le _, Nat.zero_le _, h⟩
theorem vX13_show_22 {mc ms : Nat} {X : Nat → zV} {Q : zQt} {M : zM} {x1 : Int32} {x2 : Int32} (hW : zFix M)  (h : ((69 : Int32) ≤ x2 → wX13_fill 0 0 [.ref 55, .int 0] M (fun r M1 => kX13_show_53 mc ms X Q 0 0 [some (.ref 55), some (.int x1), some (.int x2)] (r.toList ++ []) M1)) ∧ (¬ (69 : Int32) ≤ x2 → vp_in ((x1 + x2)) 82938 ∧ vp_in x2 414 ∧ ∀ M41 : zM, M41 = (zsI M 65 (x2 : Int32).toNatClampNeg (((M : zM).1 57 ((x1 + x2) : Int32).toNatClampNeg))) → X 22 0 0 [.ref 55, .int x1, .int (x2 + 1)] [] M41)) : aX13_show_22 mc ms X Q 0 0 [some (.ref 55), some (.int x1), some (.int x2)] [] M := ⟨fun c25 => ⟨Nat.le_of_ble_eq_true rfl, rfl, (fxs_55 hW), 0, 0, Nat.zero_le _, Nat.zero_le _, (h.1 c25)⟩, fun c25 => ⟨(fxs_55 hW), 65, (fxr_55_16 hW), ⟨(fxs_55 hW), 57, (fxr_55_8 hW), ⟨82938, (fxs_57 hW), (h.2 c25).1, ⟨414, (fxs_65 hW), (h.2 c25).2.1, (have h41 := (h.2 c25).2.2 _ rfl; h41)⟩⟩⟩⟩⟩
theorem vcX13_show_20 {mc ms : Nat} {X : Nat → zV} {Q : zQt} {M : zM} {x1 : Int32} (hW : zFix M)  (h : X 22 0 0 [.ref 55, .int x1, .int 0] [] M) : kX13_show_20 mc ms X Q 0 0 [some (.ref 55), some (.int x1), none] [] M := h
theorem vkX13_show_6 {mc ms : Nat} {X : Nat → zV} {Q : zQt} {M : zM} {s0 : Int32} {s1 : Int32} (hW : zFix M)  (h : vp_in ((M.1 55 6)) 2 ∧ ∀ y19 : Int32, y19 = (s1 * ((s0 + ((M : zM).1 58 ((M.1 55 6) : Int32).toNatClampNeg)) - (1 : Int32))) → X 22 0 0 [.ref 55, .int y19, .int 0] [] M) : kX13_show_6 mc ms X Q 0 0 [some (.ref 55), none, none] [.int s0, .int s1] M := ⟨(fxs_55 hW), 58, (fxr_55_9 hW), ⟨(fxs_55 hW), ⟨2, (fxs_58 hW), h.1, (fun y19 e19 => have h19 := h.2 y19 e19; (vcX13_show_20 hW  h19))⟩⟩⟩
theorem vkX13_show_53 {mc ms : Nat} {X : Nat → zV} {Q : zQt} {M : zM} {x1 : Int32} {x2 : Int32} (hW : zFix M)  (h : Q none M) : kX13_show_53 mc ms X Q 0 0 [some (.ref 55), some (.int x1), some (.int x2)] [] M := h
theorem dX13_isSame_0 : decode cX13_isSame 0 = .ok (.bipush 69, 2) := by decide +kernel
theorem dX13_isSame_2 : decode cX13_isSame 2 = .ok (.aload_n 0, 1) := by decide +kernel
theorem dX13_isSame_3 : decode cX13_isSame 3 = .ok (.invokevirtual 126, 3) := by decide +kernel
theorem dX13_isSame_6 : decode cX13_isSame 6 = .ok (.iload_n 1, 1) := by decide +kernel
theorem dX13_isSame_7 : decode cX13_isSame 7 = .ok (.iadd, 1) := by decide +kernel
theorem dX13_isSame_8 : decode cX13_isSame 8 = .ok (.imul, 1) := by decide +kernel
theorem dX13_isSame_9 : decode cX13_isSame 9 = .ok (.istore_n 3, 1) := by decide +kernel
theorem dX13_isSame_10 : decode cX13_isSame 10 = .ok (.bipush 69, 2) := by decide +kernel
theorem dX13_isSame_12 : decode cX13_isSame 12 = .ok (.aload_n 0, 1) := by decide +kernel
theorem dX13_isSame_13 : decode cX13_isSame 13 = .ok (.invokevirtual 126, 3) := by decide +kernel
theorem dX13_isSame_16 : decode cX13_isSame 16 = .ok (.iload_n 2, 1) := by decide +kernel
theorem dX13_isSame_17 : decode cX13_isSame 17 = .ok (.iadd, 1) := by decide +kernel
theorem dX13_isSame_18 : decode cX13_isSame 18 = .ok (.imul, 1) := by decide +kernel
theorem dX13_isSame_19 : decode cX13_isSame 19 = .ok (.istore 4, 2) := by decide +kernel
theorem dX13_isSame_21 : decode cX13_isSame 21 = .ok (.aload_n 0, 1) := by decide +kernel
theorem dX13_isSame_22 : decode cX13_isSame 22 = .ok (.getfield 34, 3) := by decide +kernel
theorem dX13_isSame_25 : decode cX13_isSame 25 = .ok (.aload_n 0, 1) := by decide +kernel
theorem dX13_isSame_26 : decode cX13_isSame 26 = .ok (.invokevirtual 126, 3) := by decide +kernel
theorem dX13_isSame_29 : decode cX13_isSame 29 = .ok (.iload_n 1, 1) := by decide +kernel
theorem dX13_isSame_30 : decode cX13_isSame 30 = .ok (.iadd, 1) := by decide +kernel
theorem dX13_isSame_31 : decode cX13_isSame 31 = .ok (.iaload, 1) := by decide +kernel
theorem dX13_isSame_32 : decode cX13_isSame 32 = .ok (.aload_n 0, 1) := by decide +kernel
theorem dX13_isSame_33 : decode cX13_isSame 33 = .ok (.getfield 34, 3) := by decide +kernel
theorem dX13_isSame_36 : decode cX13_isSame 36 = .ok (.aload_n 0, 1) := by decide +kernel
theorem dX13_isSame_37 : decode cX13_isSame 37 = .ok (.invokevirtual 126, 3) := by decide +kernel
theorem dX13_isSame_40 : decode cX13_isSame 40 = .ok (.iload_n 2, 1) := by decide +kernel
theorem dX13_isSame_41 : decode cX13_isSame 41 = .ok (.iadd, 1) := by decide +kernel
theorem dX13_isSame_42 : decode cX13_isSame 42 = .ok (.iaload, 1) := by decide +kernel
theorem dX13_isSame_43 : decode cX13_isSame 43 = .ok (.if_icmp .ne 7, 3) := by decide +kernel
theorem dX13_isSame_46 : decode cX13_isSame 46 = .ok (.iconst 1, 1) := by decide +kernel
theorem dX13_isSame_47 : decode cX13_isSame 47 = .ok (.goto 4, 3) := by decide +kernel
theorem dX13_isSame_50 : decode cX13_isSame 50 = .ok (.iconst 0, 1) := by decide +kernel
theorem dX13_isSame_51 : decode cX13_isSame 51 = .ok (.istore 5, 2) := by decide +kernel
theorem dX13_isSame_53 : decode cX13_isSame 53 = .ok (.iconst 0, 1) := by decide +kernel
theorem dX13_isSame_54 : decode cX13_isSame 54 = .ok (.istore 6, 2) := by decide +kernel
theorem dX13_isSame_56 : decode cX13_isSame 56 = .ok (.iload 6, 2) := by decide +kernel
theorem dX13_isSame_58 : decode cX13_isSame 58 = .ok (.bipush 66, 2) := by decide +kernel
theorem dX13_isSame_60 : decode cX13_isSame 60 = .ok (.if_icmp .ge 43, 3) := by decide +kernel
theorem dX13_isSame_63 : decode cX13_isSame 63 = .ok (.iload 5, 2) := by decide +kernel
theorem dX13_isSame_65 : decode cX13_isSame 65 = .ok (.ifCond .eq 29, 3) := by decide +kernel
theorem dX13_isSame_68 : decode cX13_isSame 68 = .ok (.aload_n 0, 1) := by decide +kernel
theorem dX13_isSame_69 : decode cX13_isSame 69 = .ok (.getfield 18, 3) := by decide +kernel
theorem dX13_isSame_72 : decode cX13_isSame 72 = .ok (.iload_n 3, 1) := by decide +kernel
theorem dX13_isSame_73 : decode cX13_isSame 73 = .ok (.iload 6, 2) := by decide +kernel
theorem dX13_isSame_75 : decode cX13_isSame 75 = .ok (.iadd, 1) := by decide +kernel
theorem dX13_isSame_76 : decode cX13_isSame 76 = .ok (.iaload, 1) := by decide +kernel
theorem dX13_isSame_77 : decode cX13_isSame 77 = .ok (.aload_n 0, 1) := by decide +kernel
theorem dX13_isSame_78 : decode cX13_isSame 78 = .ok (.getfield 18, 3) := by decide +kernel
theorem dX13_isSame_81 : decode cX13_isSame 81 = .ok (.iload 4, 2) := by decide +kernel
theorem dX13_isSame_83 : decode cX13_isSame 83 = .ok (.iload 6, 2) := by decide +kernel
theorem dX13_isSame_85 : decode cX13_isSame 85 = .ok (.iadd, 1) := by decide +kernel
theorem dX13_isSame_86 : decode cX13_isSame 86 = .ok (.iaload, 1) := by decide +kernel
theorem dX13_isSame_87 : decode cX13_isSame 87 = .ok (.if_icmp .ne 7, 3) := by decide +kernel
theorem dX13_isSame_90 : decode cX13_isSame 90 = .ok (.iconst 1, 1) := by decide +kernel
theorem dX13_isSame_91 : decode cX13_isSame 91 = .ok (.goto 4, 3) := by decide +kernel
theorem dX13_isSame_94 : decode cX13_isSame 94 = .ok (.iconst 0, 1) := by decide +kernel
theorem dX13_isSame_95 : decode cX13_isSame 95 = .ok (.istore 5, 2) := by decide +kernel
theorem dX13_isSame_97 : decode cX13_isSame 97 = .ok (.iinc 6 1, 3) := by decide +kernel
theorem dX13_isSame_100 : decode cX13_isSame 100 = .ok (.goto (-44), 3) := by decide +kernel
theorem dX13_isSame_103 : decode cX13_isSame 103 = .ok (.iload 5, 2) := by decide +kernel
theorem dX13_isSame_105 : decode cX13_isSame 105 = .ok (.ireturn, 1) := by decide +kernel
def kX13_isSame_40 (mc ms : Nat) (X : Nat → zV) (Q : zQt) : zT :=
  zli 2 <| zii (fun x y => x + y) <| zal 1 <| zic (fun x y => x = y) (zc (.int 1) <| zj X 51 [0, 3, 4]) <| zc (.int 0) <| zj X 51 [0, 3, 4]
def kX13_isSame_29 (mc ms : Nat) (X : Nat → zV) (Q : zQt) : zT :=
  zli 1 <| zii (fun x y => x + y) <| zal 1 <| zla 0 <| zgR 13 13 <| zla 0 <| zcv mc ms 13 0 wX13_base <| kX13_isSame_40 mc ms X Q
def kX13_isSame_16 (mc ms : Nat) (X : Nat → zV) (Q : zQt) : zT :=
  zli 2 <| zii (fun x y => x + y) <| zii (fun x y => x * y) <| zsi 4 <| zla 0 <| zgR 13 13 <| zla 0 <| zcv mc ms 13 0 wX13_base <| kX13_isSame_29 mc ms X Q
def kX13_isSame_6 (mc ms : Nat) (X : Nat → zV) (Q : zQt) : zT :=
  zli 1 <| zii (fun x y => x + y) <| zii (fun x y => x * y) <| zsi 3 <| zc (.int 69) <| zla 0 <| zcv mc ms 13 0 wX13_base <| kX13_isSame_16 mc ms X Q
def aX13_isSame_0 (mc ms : Nat) (X : Nat → zV) (Q : zQt) : zT :=
  zc (.int 69) <| zla 0 <| zcv mc ms 13 0 wX13_base <| kX13_isSame_6 mc ms X Q
def aX13_isSame_51 (mc ms : Nat) (X : Nat → zV) (Q : zQt) : zT :=
  zsi 5 <| zc (.int 0) <| zsi 6 <| zj X 56 [0, 3, 4, 5, 6]
def aX13_isSame_56 (mc ms : Nat) (X : Nat → zV) (Q : zQt) : zT :=
  zli 6 <| zc (.int 66) <| zic (fun x y => y ≤ x) (zli 5 <| zrz .boolean Q) <| zli 5 <| zif (fun x => x = 0) (zj X 94 [0, 3, 4, 6]) <| zla 0 <| zgR 13 8 <| zli 3 <| zli 6 <| zii (fun x y => x + y) <| zal 1 <| zla 0 <| zgR 13 8 <| zli 4 <| zli 6 <| zii (fun x y => x + y) <| zal 1 <| zic (fun x y => x = y) (zc (.int 1) <| zj X 95 [0, 3, 4, 6]) <| zj X 94 [0, 3, 4, 6]
def aX13_isSame_94 (mc ms : Nat) (X : Nat → zV) (Q : zQt) : zT :=
  zc (.int 0) <| zj X 95 [0, 3, 4, 6]
def aX13_isSame_95 (mc ms : Nat) (X : Nat → zV) (Q : zQt) : zT :=
  zsi 5 <| zinc 6 1 <| zj X 56 [0, 3, 4, 5, 6]
def lvX13_isSame : Nat → List Nat := fun L => match L with
  | 0 => [0, 1, 2]
  | 51 => [0, 3, 4]
  | 56 => [0, 3, 4, 5, 6]
  | 94 => [0, 3, 4, 6]
  | 95 => [0, 3, 4, 6]
  | _ => []
def wX13_isSame : zSp := fun mc ms av M Q => ((zlay av).length ≤ 7 ∧ zpick (zlay av) [0, 1, 2] = some av) ∧ ∀ X : Nat → zV, zin 7 [0, 1, 2] (aX13_isSame_0 mc ms X Q) X 0 → zin 7 [0, 3, 4] (aX13_isSame_51 mc ms X Q) X 51 → zin 7 [0, 3, 4, 5, 6] (aX13_isSame_56 mc ms X Q) X 56 → zin 7 [0, 3, 4, 6] (aX13_isSame_94 mc ms X Q) X 94 → zin 7 [0, 3, 4, 6] (aX13_isSame_95 mc ms X Q) X 95 → X 0 0 0 av [] M
set_option maxRecDepth 100000 in
set_option maxHeartbeats 4000000 in
theorem sX13_isSame (l : Launch) (G : zG) : zSnd l G yX13_isSame cX13_isSame 7 (some .boolean) 1 20 wX13_isSame := by
  refine zmk [0, 1, 2] (by decide) (fun mc ms av M Q h => h.1) ?_
  intro p e R s m args below meth c mc ms av M Q hC hRf hRl hr hnm h lv hlv
  obtain ⟨X, hXe⟩ : ∃ X : Nat → zV, X = fun L u v vs st M => ∀ lv, zpick lv (lvX13_isSame L) = some vs → zAt p l e R s m args below meth c (MQ below (zQ G Q) args s mc ms (zA G)) G 7 L u v lv st M := ⟨_, rfl⟩
  have hJ : ∀ L, zOk p l e R s m args below meth c (MQ below (zQ G Q) args s mc ms (zA G)) G 7 L (zj X L (lvX13_isSame L)) := fun L => S_jump (fun u v lv vs st M hp hx => by rw [hXe] at hx; exact hx lv hp)
  have hB0 : zin 7 [0, 1, 2] (aX13_isSame_0 mc ms X Q) X 0 := by
    intro u v vs st M hb
    rw [hXe]
    refine fun lv hp => S_block (L := 0) (live := [0, 1, 2]) ?_ u v lv vs st M hp hb
    unfold aX13_isSame_0
    refine S_bipush (pc := 0) hC dX13_isSame_0 (by decide) ?_
    refine S_aload_n (pc := 2) hC dX13_isSame_2 rfl ?_
    refine S_callV (pc := 3) hC (sX13_base l G) rfl wd_1439 wd_1441 ws_71 wd_12 wd_1442 (by decide +kernel) ⟨by rw [hRf]; decide, by rw [hRl]; decide⟩ dX13_isSame_3 ?_
    unfold kX13_isSame_6
    refine S_iload_n (pc := 6) hC dX13_isSame_6 rfl ?_
    refine S_iadd (pc := 7) hC dX13_isSame_7 ?_
    refine S_imul (pc := 8) hC dX13_isSame_8 ?_
    refine S_istore_n (pc := 9) hC dX13_isSame_9 rfl (by decide) ?_
    refine S_bipush (pc := 10) hC dX13_isSame_10 (by decide) ?_
    refine S_aload_n (pc := 12) hC dX13_isSame_12 rfl ?_
    refine S_callV (pc := 13) hC (sX13_base l G) rfl wd_1439 wd_1441 ws_71 wd_12 wd_1442 (by decide +kernel) ⟨by rw [hRf]; decide, by rw [hRl]; decide⟩ dX13_isSame_13 ?_
    unfold kX13_isSame_16
    refine S_iload_n (pc := 16) hC dX13_isSame_16 rfl ?_
    refine S_iadd (pc := 17) hC dX13_isSame_17 ?_
    refine S_imul (pc := 18) hC dX13_isSame_18 ?_
    refine S_istore (pc := 19) hC dX13_isSame_19 (by decide) ?_
    refine S_aload_n (pc := 21) hC dX13_isSame_21 rfl ?_
    refine S_getR (pc := 22) hC cfX13 (by decide) (Or.inr ⟨_, rfl⟩) wd_1268 dX13_isSame_22 ?_
    refine S_aload_n (pc := 25) hC dX13_isSame_25 rfl ?_
    refine S_callV (pc := 26) hC (sX13_base l G) rfl wd_1439 wd_1441 ws_71 wd_12 wd_1442 (by decide +kernel) ⟨by rw [hRf]; decide, by rw [hRl]; decide⟩ dX13_isSame_26 ?_
    unfold kX13_isSame_29
    refine S_iload_n (pc := 29) hC dX13_isSame_29 rfl ?_
    refine S_iadd (pc := 30) hC dX13_isSame_30 ?_
    refine S_iaload (pc := 31) hC dX13_isSame_31 ?_
    refine S_aload_n (pc := 32) hC dX13_isSame_32 rfl ?_
    refine S_getR (pc := 33) hC cfX13 (by decide) (Or.inr ⟨_, rfl⟩) wd_1268 dX13_isSame_33 ?_
    refine S_aload_n (pc := 36) hC dX13_isSame_36 rfl ?_
    refine S_callV (pc := 37) hC (sX13_base l G) rfl wd_1439 wd_1441 ws_71 wd_12 wd_1442 (by decide +kernel) ⟨by rw [hRf]; decide, by rw [hRl]; decide⟩ dX13_isSame_37 ?_
    unfold kX13_isSame_40
    refine S_iload_n (pc := 40) hC dX13_isSame_40 rfl ?_
    refine S_iadd (pc := 41) hC dX13_isSame_41 ?_
    refine S_iaload (pc := 42) hC dX13_isSame_42 ?_
    refine S_icmp_ne (pc := 43) (tgt := 50) hC dX13_isSame_43 (by decide) ?_ ?_
    · refine S_iconst (pc := 50) hC dX13_isSame_50 (by decide) ?_
      exact hJ 51
    · refine S_iconst (pc := 46) hC dX13_isSame_46 (by decide) ?_
      refine S_goto (pc := 47) (tgt := 51) hC dX13_isSame_47 (by decide) ?_
      exact hJ 51
  have hB51 : zin 7 [0, 3, 4] (aX13_isSame_51 mc ms X Q) X 51 := by
    intro u v vs st M hb
    rw [hXe]
    refine fun lv hp => S_block (L := 51) (live := [0, 3, 4]) ?_ u v lv vs st M hp hb
    unfold aX13_isSame_51
    refine S_istore (pc := 51) hC dX13_isSame_51 (by decide) ?_
    refine S_iconst (pc := 53) hC dX13_isSame_53 (by decide) ?_
    refine S_istore (pc := 54) hC dX13_isSame_54 (by decide) ?_
    exact hJ 56
  have hB56 : zin 7 [0, 3, 4, 5, 6] (aX13_isSame_56 mc ms X Q) X 56 := by
    intro u v vs st M hb
    rw [hXe]
    refine fun lv hp => S_block (L := 56) (live := [0, 3, 4, 5, 6]) ?_ u v lv vs st M hp hb
    unfold aX13_isSame_56
    refine S_iload (pc := 56) hC dX13_isSame_56 ?_
    refine S_bipush (pc := 58) hC dX13_isSame_58 (by decide) ?_
    refine S_icmp_ge (pc := 60) (tgt := 103) hC dX13_isSame_60 (by decide) ?_ ?_
    · refine S_iload (pc := 103) hC dX13_isSame_103 ?_
      exact S_zreturn (pc := 105) hC hr dX13_isSame_105
    · refine S_iload (pc := 63) hC dX13_isSame_63 ?_
      refine S_if_eq (pc := 65) (tgt := 94) hC dX13_isSame_65 (by decide) ?_ ?_
      · exact hJ 94
      · refine S_aload_n (pc := 68) hC dX13_isSame_68 rfl ?_
        refine S_getR (pc := 69) hC cfX13 (by decide) (Or.inr ⟨_, rfl⟩) wd_1263 dX13_isSame_69 ?_
        refine S_iload_n (pc := 72) hC dX13_isSame_72 rfl ?_
        refine S_iload (pc := 73) hC dX13_isSame_73 ?_
        refine S_iadd (pc := 75) hC dX13_isSame_75 ?_
        refine S_iaload (pc := 76) hC dX13_isSame_76 ?_
        refine S_aload_n (pc := 77) hC dX13_isSame_77 rfl ?_
        refine S_getR (pc := 78) hC cfX13 (by decide) (Or.inr ⟨_, rfl⟩) wd_1263 dX13_isSame_78 ?_
        refine S_iload (pc := 81) hC dX13_isSame_81 ?_
        refine S_iload (pc := 83) hC dX13_isSame_83 ?_
        refine S_iadd (pc := 85) hC dX13_isSame_85 ?_
        refine S_iaload (pc := 86) hC dX13_isSame_86 ?_
        refine S_icmp_ne (pc := 87) (tgt := 94) hC dX13_isSame_87 (by decide) ?_ ?_
        · exact hJ 94
        · refine S_iconst (pc := 90) hC dX13_isSame_90 (by decide) ?_
          refine S_goto (pc := 91) (tgt := 95) hC dX13_isSame_91 (by decide) ?_
          exact hJ 95
  have hB94 : zin 7 [0, 3, 4, 6] (aX13_isSame_94 mc ms X Q) X 94 := by
    intro u v vs st M hb
    rw [hXe]
    refine fun lv hp => S_block (L := 94) (live := [0, 3, 4, 6]) ?_ u v lv vs st M hp hb
    unfold aX13_isSame_94
    refine S_iconst (pc := 94) hC dX13_isSame_94 (by decide) ?_
    exact hJ 95
  have hB95 : zin 7 [0, 3, 4, 6] (aX13_isSame_95 mc ms X Q) X 95 := by
    intro u v vs st M hb
    rw [hXe]
    refine fun lv hp => S_block (L := 95) (live := [0, 3, 4, 6]) ?_ u v lv vs st M hp hb
    unfold aX13_isSame_95
    refine S_istore (pc := 95) hC dX13_isSame_95 (by decide) ?_
    refine S_iinc (pc := 97) hC dX13_isSame_97 (by decide) (by decide) ?_
    refine S_goto (pc := 100) (tgt := 56) hC dX13_isSame_100 (by decide) ?_
    exact hJ 56
  have := h.2 X hB0 hB51 hB56 hB94 hB95
  rw [hXe] at this
  exact this lv hlv
theorem vX13_isSame_0 {mc ms : Nat} {X : Nat → zV} {Q : zQt} {M : zM} {x1 : Int32} {x2 : Int32} (hW : zFix M)  (h : wX13_base 0 0 [.ref 55] M (fun r M1 => kX13_isSame_6 mc ms X Q 0 0 [some (.ref 55), some (.int x1), some (.int x2), none, none, none, none] (r.toList ++ [.int 69]) M1)) : aX13_isSame_0 mc ms X Q 0 0 [some (.ref 55), some (.int x1), some (.int x2), none, none, none, none] [] M := ⟨Nat.le_of_ble_eq_true rfl, rfl, (fxs_55 hW), 0, 0, Nat.zero_le _, Nat.zero_le _, h⟩
theorem vX13_isSame_51 {mc ms : Nat} {X : Nat → zV} {Q : zQt} {M : zM} {x3 : Int32} {x4 : Int32} {s0 : Int32} (hW : zFix M)  (h : X 56 0 0 [.ref 55, .int x3, .int x4, .int s0, .int 0] [] M) : aX13_isSame_51 mc ms X Q 0 0 [some (.ref 55), none, none, some (.int x3), some (.int x4), none, none] [.int s0] M := h
theorem vX13_isSame_56 {mc ms : Nat} {X : Nat → zV} {Q : zQt} {M : zM} {x3 : Int32} {x4 : Int32} {x5 : Int32} {x6 : Int32} (hW : zFix M)  (h : ((66 : Int32) ≤ x6 → narrow .boolean (.int x5) = .int x5 ∧ Q (some (.int x5)) M) ∧ (¬ (66 : Int32) ≤ x6 → (x5 = 0 → X 94 0 0 [.ref 55, .int x3, .int x4, .int x6] [] M) ∧ (¬ x5 = 0 → vp_in ((x3 + x6)) 82938 ∧ vp_in ((x4 + x6)) 82938 ∧ (((M : zM).1 57 ((x3 + x6) : Int32).toNatClampNeg) = ((M : zM).1 57 ((x4 + x6) : Int32).toNatClampNeg) → X 95 0 0 [.ref 55, .int x3, .int x4, .int x6] [.int 1] M) ∧ (¬ ((M : zM).1 57 ((x3 + x6) : Int32).toNatClampNeg) = ((M : zM).1 57 ((x4 + x6) : Int32).toNatClampNeg) → X 94 0 0 [.ref 55, .int x3, .int x4, .int x6] [] M)))) : aX13_isSame_56 mc ms X Q 0 0 [some (.ref 55), none, none, some (.int x3), some (.int x4), some (.int x5), some (.int x6)] [] M := ⟨fun c60 => (h.1 c60), fun c60 => ⟨fun c65 => ((h.2 c60).1 c65), fun c65 => ⟨(fxs_55 hW), 57, (fxr_55_8 hW), ⟨82938, (fxs_57 hW), ((h.2 c60).2 c65).1, ⟨(fxs_55 hW), 57, (fxr_55_8 hW), ⟨82938, (fxs_57 hW), ((h.2 c60).2 c65).2.1, ⟨fun c87 => (((h.2 c60).2 c65).2.2.1 c87), fun c87 => (((h.2 c60).2 c65).2.2.2 c87)⟩⟩⟩⟩⟩⟩⟩
theorem vX13_isSame_94 {mc ms : Nat} {X : Nat → zV} {Q : zQt} {M : zM} {x3 : Int32} {x4 : Int32} {x6 : Int32} (hW : zFix M)  (h : X 95 0 0 [.ref 55, .int x3, .int x4, .int x6] [.int 0] M) : aX13_isSame_94 mc ms X Q 0 0 [some (.ref 55), none, none, some (.int x3), some (.int x4), none, some (.int x6)] [] M := h
theorem vX13_isSame_95 {mc ms : Nat} {X : Nat → zV} {Q : zQt} {M : zM} {x3 : Int32} {x4 : Int32} {x6 : Int32} {s0 : Int32} (hW : zFix M)  (h : X 56 0 0 [.ref 55, .int x3, .int x4, .int s0, .int (x6 + 1)] [] M) : aX13_isSame_95 mc ms X Q 0 0 [some (.ref 55), none, none, some (.int x3), some (.int x4), none, some (.int x6)] [.int s0] M := h
theorem vkX13_isSame_6 {mc ms : Nat} {X : Nat → zV} {Q : zQt} {M : zM} {x1 : Int32} {x2 : Int32} {s0 : Int32} {s1 : Int32} (hW : zFix M)  (h : wX13_base 0 0 [.ref 55] M (fun r M1 => kX13_isSame_16 mc ms X Q 0 0 [some (.ref 55), some (.int x1), some (.int x2), some (.int (s1 * (s0 + x1))), none, none, none] (r.toList ++ [.int 69]) M1)) : kX13_isSame_6 mc ms X Q 0 0 [some (.ref 55), some (.int x1), some (.int x2), none, none, none, none] [.int s0, .int s1] M := ⟨Nat.le_of_ble_eq_true rfl, rfl, (fxs_55 hW), 0, 0, Nat.zero_le _, Nat.zero_le _, h⟩
theorem vkX13_isSame_16 {mc ms : Nat} {X : Nat → zV} {Q : zQt} {M : zM} {x1 : Int32} {x2 : Int32} {x3 : Int32} {s0 : Int32} {s1 : Int32} (hW : zFix M)  (h : wX13_base 0 0 [.ref 55] M (fun r M1 => kX13_isSame_29 mc ms X Q 0 0 [some (.ref 55), some (.int x1), some (.int x2), some (.int x3), some (.int (s1 * (s0 + x2))), none, none] (r.toList ++ [.ref 62]) M1)) : kX13_isSame_16 mc ms X Q 0 0 [some (.ref 55), some (.int x1), some (.int x2), some (.int x3), none, none, none] [.int s0, .int s1] M := ⟨(fxs_55 hW), 62, (fxr_55_13 hW), ⟨Nat.le_of_ble_eq_true rfl, rfl, (fxs_55 hW), 0, 0, Nat.zero_le _, Nat.zero_le _, h⟩⟩
theorem vkX13_isSame_29 {mc ms : Nat} {X : Nat → zV} {Q : zQt} {M : zM} {x1 : Int32} {x2 : Int32} {x3 : Int32} {x4 : Int32} {s0 : Int32} (hW : zFix M)  (h : vp_in ((s0 + x1)) 1202 ∧ wX13_base 0 0 [.ref 55] M (fun r M1 => kX13_isSame_40 mc ms X Q 0 0 [some (.ref 55), some (.int x1), some (.int x2), some (.int x3), some (.int x4), none, none] (r.toList ++ [.ref 62, .int ((M : zM).1 62 ((s0 + x1) : Int32).toNatClampNeg)]) M1)) : kX13_isSame_29 mc ms X Q 0 0 [some (.ref 55), some (.int x1), some (.int x2), some (.int x3), some (.int x4), none, none] [.int s0, .ref 62] M := ⟨1202, (fxs_62 hW), h.1, ⟨(fxs_55 hW), 62, (fxr_55_13 hW), ⟨Nat.le_of_ble_eq_true rfl, rfl, (fxs_55 hW), 0, 0, Nat.zero_le _, Nat.zero_le _, h.2⟩⟩⟩
theorem vkX13_isSame_40 {mc ms : Nat} {X : Nat → zV} {Q : zQt} {M : zM} {x1 : Int32} {x2 : Int32} {x3 : Int32} {x4 : Int32} {s0 : Int32} {s2 : Int32} (hW : zFix M)  (h : vp_in ((s0 + x2)) 1202 ∧ (s2 = ((M : zM).1 62 ((s0 + x2) : Int32).toNatClampNeg) → X 51 0 0 [.ref 55, .int x3, .int x4] [.int 1] M) ∧ (¬ s2 = ((M : zM).1 62 ((s0 + x2) : Int32).toNatClampNeg) → X 51 0 0 [.ref 55, .int x3, .int x4] [.int 0] M)) : kX13_isSame_40 mc ms X Q 0 0 [some (.ref 55), some (.int x1), some (.int x2), some (.int x3), some (.int x4), none, none] [.int s0, .ref 62, .int s2] M := ⟨1202, (fxs_62 hW), h.1, ⟨fun c43 => (h.2.1 c43), fun c43 => (h.2.2 c43)⟩⟩
theorem dX13_isDead_0 : decode cX13_isDead 0 = .ok (.iconst 0, 1) := by decide +kernel
theorem dX13_isDead_1 : decode cX13_isDead 1 = .ok (.istore_n 1, 1) := by decide +kernel
theorem dX13_isDead_2 : decode cX13_isDead 2 = .ok (.iconst 0, 1) := by decide +kernel
theorem dX13_isDead_3 : decode cX13_isDead 3 = .ok (.istore_n 2, 1) := by decide +kernel
theorem dX13_isDead_4 : decode cX13_isDead 4 = .ok (.iconst 0, 1) := by decide +kernel
theorem dX13_isDead_5 : decode cX13_isDead 5 = .ok (.istore_n 3, 1) := by decide +kernel
theorem dX13_isDead_6 : decode cX13_isDead 6 = .ok (.iconst 0, 1) := by decide +kernel
theorem dX13_isDead_7 : decode cX13_isDead 7 = .ok (.istore 4, 2) := by decide +kernel
theorem dX13_isDead_9 : decode cX13_isDead 9 = .ok (.iconst 0, 1) := by decide +kernel
theorem dX13_isDead_10 : decode cX13_isDead 10 = .ok (.istore 5, 2) := by decide +kernel
theorem dX13_isDead_12 : decode cX13_isDead 12 = .ok (.iconst 0, 1) := by decide +kernel
theorem dX13_isDead_13 : decode cX13_isDead 13 = .ok (.istore 6, 2) := by decide +kernel
theorem dX13_isDead_15 : decode cX13_isDead 15 = .ok (.iload 6, 2) := by decide +kernel
theorem dX13_isDead_17 : decode cX13_isDead 17 = .ok (.bipush 64, 2) := by decide +kernel
theorem dX13_isDead_19 : decode cX13_isDead 19 = .ok (.if_icmp .ge 130, 3) := by decide +kernel
theorem dX13_isDead_22 : decode cX13_isDead 22 = .ok (.aload_n 0, 1) := by decide +kernel
theorem dX13_isDead_23 : decode cX13_isDead 23 = .ok (.getfield 43, 3) := by decide +kernel
theorem dX13_isDead_26 : decode cX13_isDead 26 = .ok (.iload 6, 2) := by decide +kernel
theorem dX13_isDead_28 : decode cX13_isDead 28 = .ok (.iaload, 1) := by decide +kernel
theorem dX13_isDead_29 : decode cX13_isDead 29 = .ok (.invokestatic 71, 3) := by decide +kernel
theorem dX13_isDead_32 : decode cX13_isDead 32 = .ok (.istore 7, 2) := by decide +kernel
theorem dX13_isDead_34 : decode cX13_isDead 34 = .ok (.iload_n 2, 1) := by decide +kernel
theorem dX13_isDead_35 : decode cX13_isDead 35 = .ok (.iload 7, 2) := by decide +kernel
theorem dX13_isDead_37 : decode cX13_isDead 37 = .ok (.ifCond .le 14, 3) := by decide +kernel
theorem dX13_isDead_40 : decode cX13_isDead 40 = .ok (.iload 7, 2) := by decide +kernel
theorem dX13_isDead_42 : decode cX13_isDead 42 = .ok (.bipush 6, 2) := by decide +kernel
theorem dX13_isDead_44 : decode cX13_isDead 44 = .ok (.if_icmp .ge 7, 3) := by decide +kernel
theorem dX13_isDead_47 : decode cX13_isDead 47 = .ok (.iconst 1, 1) := by decide +kernel
theorem dX13_isDead_48 : decode cX13_isDead 48 = .ok (.goto 4, 3) := by decide +kernel
theorem dX13_isDead_51 : decode cX13_isDead 51 = .ok (.iconst 0, 1) := by decide +kernel
theorem dX13_isDead_52 : decode cX13_isDead 52 = .ok (.iadd, 1) := by decide +kernel
theorem dX13_isDead_53 : decode cX13_isDead 53 = .ok (.istore_n 2, 1) := by decide +kernel
theorem dX13_isDead_54 : decode cX13_isDead 54 = .ok (.iload_n 1, 1) := by decide +kernel
theorem dX13_isDead_55 : decode cX13_isDead 55 = .ok (.iload 7, 2) := by decide +kernel
theorem dX13_isDead_57 : decode cX13_isDead 57 = .ok (.iconst 2, 1) := by decide +kernel
theorem dX13_isDead_58 : decode cX13_isDead 58 = .ok (.if_icmp .eq 9, 3) := by decide +kernel
theorem dX13_isDead_61 : decode cX13_isDead 61 = .ok (.iload 7, 2) := by decide +kernel
theorem dX13_isDead_63 : decode cX13_isDead 63 = .ok (.iconst 3, 1) := by decide +kernel
theorem dX13_isDead_64 : decode cX13_isDead 64 = .ok (.if_icmp .ne 7, 3) := by decide +kernel
theorem dX13_isDead_67 : decode cX13_isDead 67 = .ok (.iconst 1, 1) := by decide +kernel
theorem dX13_isDead_68 : decode cX13_isDead 68 = .ok (.goto 4, 3) := by decide +kernel
theorem dX13_isDead_71 : decode cX13_isDead 71 = .ok (.iconst 0, 1) := by decide +kernel
theorem dX13_isDead_72 : decode cX13_isDead 72 = .ok (.iadd, 1) := by decide +kernel
theorem dX13_isDead_73 : decode cX13_isDead 73 = .ok (.istore_n 1, 1) := by decide +kernel
theorem dX13_isDead_74 : decode cX13_isDead 74 = .ok (.iload 4, 2) := by decide +kernel
theorem dX13_isDead_76 : decode cX13_isDead 76 = .ok (.aload_n 0, 1) := by decide +kernel
theorem dX13_isDead_77 : decode cX13_isDead 77 = .ok (.getfield 43, 3) := by decide +kernel
theorem dX13_isDead_80 : decode cX13_isDead 80 = .ok (.iload 6, 2) := by decide +kernel
theorem dX13_isDead_82 : decode cX13_isDead 82 = .ok (.iaload, 1) := by decide +kernel
theorem dX13_isDead_83 : decode cX13_isDead 83 = .ok (.iconst 3, 1) := by decide +kernel
theorem dX13_isDead_84 : decode cX13_isDead 84 = .ok (.if_icmp .ne 7, 3) := by decide +kernel
theorem dX13_isDead_87 : decode cX13_isDead 87 = .ok (.iconst 1, 1) := by decide +kernel
theorem dX13_isDead_88 : decode cX13_isDead 88 = .ok (.goto 4, 3) := by decide +kernel
theorem dX13_isDead_91 : decode cX13_isDead 91 = .ok (.iconst 0, 1) := by decide +kernel
theorem dX13_isDead_92 : decode cX13_isDead 92 = .ok (.iadd, 1) := by decide +kernel
theorem dX13_isDead_93 : decode cX13_isDead 93 = .ok (.istore 4, 2) := by decide +kernel
theorem dX13_isDead_95 : decode cX13_isDead 95 = .ok (.iload 5, 2) := by decide +kernel
theorem dX13_isDead_97 : decode cX13_isDead 97 = .ok (.aload_n 0, 1) := by decide +kernel
theorem dX13_isDead_98 : decode cX13_isDead 98 = .ok (.getfield 43, 3) := by decide +kernel
theorem dX13_isDead_101 : decode cX13_isDead 101 = .ok (.iload 6, 2) := by decide +kernel
theorem dX13_isDead_103 : decode cX13_isDead 103 = .ok (.iaload, 1) := by decide +kernel
theorem dX13_isDead_104 : decode cX13_isDead 104 = .ok (.bipush 9, 2) := by decide +kernel
theorem dX13_isDead_106 : decode cX13_isDead 106 = .ok (.if_icmp .ne 7, 3) := by decide +kernel
theorem dX13_isDead_109 : decode cX13_isDead 109 = .ok (.iconst 1, 1) := by decide +kernel
theorem dX13_isDead_110 : decode cX13_isDead 110 = .ok (.goto 4, 3) := by decide +kernel
theorem dX13_isDead_113 : decode cX13_isDead 113 = .ok (.iconst 0, 1) := by decide +kernel
theorem dX13_isDead_114 : decode cX13_isDead 114 = .ok (.iadd, 1) := by decide +kernel
theorem dX13_isDead_115 : decode cX13_isDead 115 = .ok (.istore 5, 2) := by decide +kernel
theorem dX13_isDead_117 : decode cX13_isDead 117 = .ok (.iload_n 3, 1) := by decide +kernel
theorem dX13_isDead_118 : decode cX13_isDead 118 = .ok (.iload 7, 2) := by decide +kernel
theorem dX13_isDead_120 : decode cX13_isDead 120 = .ok (.iconst 3, 1) := by decide +kernel
theorem dX13_isDead_121 : decode cX13_isDead 121 = .ok (.if_icmp .ne 19, 3) := by decide +kernel
theorem dX13_isDead_124 : decode cX13_isDead 124 = .ok (.iload 6, 2) := by decide +kernel
theorem dX13_isDead_126 : decode cX13_isDead 126 = .ok (.bipush 8, 2) := by decide +kernel
theorem dX13_isDead_128 : decode cX13_isDead 128 = .ok (.irem, 1) := by decide +kernel
theorem dX13_isDead_129 : decode cX13_isDead 129 = .ok (.iload 6, 2) := by decide +kernel
theorem dX13_isDead_131 : decode cX13_isDead 131 = .ok (.bipush 8, 2) := by decide +kernel
theorem dX13_isDead_133 : decode cX13_isDead 133 = .ok (.idiv, 1) := by decide +kernel
theorem dX13_isDead_134 : decode cX13_isDead 134 = .ok (.iadd, 1) := by decide +kernel
theorem dX13_isDead_135 : decode cX13_isDead 135 = .ok (.iconst 2, 1) := by decide +kernel
theorem dX13_isDead_136 : decode cX13_isDead 136 = .ok (.irem, 1) := by decide +kernel
theorem dX13_isDead_137 : decode cX13_isDead 137 = .ok (.goto 4, 3) := by decide +kernel
theorem dX13_isDead_140 : decode cX13_isDead 140 = .ok (.iconst 0, 1) := by decide +kernel
theorem dX13_isDead_141 : decode cX13_isDead 141 = .ok (.iadd, 1) := by decide +kernel
theorem dX13_isDead_142 : decode cX13_isDead 142 = .ok (.istore_n 3, 1) := by decide +kernel
theorem dX13_isDead_143 : decode cX13_isDead 143 = .ok (.iinc 6 1, 3) := by decide +kernel
theorem dX13_isDead_146 : decode cX13_isDead 146 = .ok (.goto (-131), 3) := by decide +kernel
theorem dX13_isDead_149 : decode cX13_isDead 149 = .ok (.iload_n 2, 1) := by decide +kernel
theorem dX13_isDead_150 : decode cX13_isDead 150 = .ok (.ifCond .eq 35, 3) := by decide +kernel
theorem dX13_isDead_153 : decode cX13_isDead 153 = .ok (.iload_n 2, 1) := by decide +kernel
theorem dX13_isDead_154 : decode cX13_isDead 154 = .ok (.iconst 1, 1) := by decide +kernel
theorem dX13_isDead_155 : decode cX13_isDead 155 = .ok (.if_icmp .ne 8, 3) := by decide +kernel
theorem dX13_isDead_158 : decode cX13_isDead 158 = .ok (.iload_n 1, 1) := by decide +kernel
theorem dX13_isDead_159 : decode cX13_isDead 159 = .ok (.iconst 1, 1) := by decide +kernel
theorem dX13_isDead_160 : decode cX13_isDead 160 = .ok (.if_icmp .eq 25, 3) := by decide +kernel
theorem dX13_isDead_163 : decode cX13_isDead 163 = .ok (.iload_n 2, 1) := by decide +kernel
theorem dX13_isDead_164 : decode cX13_isDead 164 = .ok (.iconst 2, 1) := by decide +kernel
theorem dX13_isDead_165 : decode cX13_isDead 165 = .ok (.if_icmp .ne 24, 3) := by decide +kernel
theorem dX13_isDead_168 : decode cX13_isDead 168 = .ok (.iload 4, 2) := by decide +kernel
theorem dX13_isDead_170 : decode cX13_isDead 170 = .ok (.iconst 1, 1) := by decide +kernel
theorem dX13_isDead_171 : decode cX13_isDead 171 = .ok (.if_icmp .ne 18, 3) := by decide +kernel
theorem dX13_isDead_174 : decode cX13_isDead 174 = .ok (.iload 5, 2) := by decide +kernel
theorem dX13_isDead_176 : decode cX13_isDead 176 = .ok (.iconst 1, 1) := by decide +kernel
theorem dX13_isDead_177 : decode cX13_isDead 177 = .ok (.if_icmp .ne 12, 3) := by decide +kernel
theorem dX13_isDead_180 : decode cX13_isDead 180 = .ok (.iload_n 3, 1) := by decide +kernel
theorem dX13_isDead_181 : decode cX13_isDead 181 = .ok (.iconst 1, 1) := by decide +kernel
theorem dX13_isDead_182 : decode cX13_isDead 182 = .ok (.if_icmp .eq 7, 3) := by decide +kernel
theorem dX13_isDead_185 : decode cX13_isDead 185 = .ok (.iconst 1, 1) := by decide +kernel
theorem dX13_isDead_186 : decode cX13_isDead 186 = .ok (.goto 4, 3) := by decide +kernel
theorem dX13_isDead_189 : decode cX13_isDead 189 = .ok (.iconst 0, 1) := by decide +kernel
theorem dX13_isDead_190 : decode cX13_isDead 190 = .ok (.ireturn, 1) := by decide +kernel
def kX13_isDead_32 (mc ms : Nat) (X : Nat → zV) (Q : zQt) : zT :=
  zsi 7 <| zli 2 <| zli 7 <| zif (fun x => x ≤ 0) (zj X 51 [0, 1, 3, 4, 5, 6, 7]) <| zli 7 <| zc (.int 6) <| zic (fun x y => y ≤ x) (zj X 51 [0, 1, 3, 4, 5, 6, 7]) <| zc (.int 1) <| zj X 52 [0, 1, 3, 4, 5, 6, 7]
def aX13_isDead_0 (mc ms : Nat) (X : Nat → zV) (Q : zQt) : zT :=
  zc (.int 0) <| zsi 1 <| zc (.int 0) <| zsi 2 <| zc (.int 0) <| zsi 3 <| zc (.int 0) <| zsi 4 <| zc (.int 0) <| zsi 5 <| zc (.int 0) <| zsi 6 <| zj X 15 [0, 1, 2, 3, 4, 5, 6]
def aX13_isDead_15 (mc ms : Nat) (X : Nat → zV) (Q : zQt) : zT :=
  zli 6 <| zc (.int 64) <| zic (fun x y => y ≤ x) (zli 2 <| zif (fun x => x = 0) (zj X 185 []) <| zli 2 <| zc (.int 1) <| zic (fun x y => x = y) (zli 1 <| zc (.int 1) <| zic (fun x y => x = y) (zj X 185 []) <| zj X 163 [2, 3, 4, 5]) <| zj X 163 [2, 3, 4, 5]) <| zla 0 <| zgR 13 16 <| zli 6 <| zal 1 <| zcs mc ms 1 wX13_kindOf <| kX13_isDead_32 mc ms X Q
def aX13_isDead_51 (mc ms : Nat) (X : Nat → zV) (Q : zQt) : zT :=
  zc (.int 0) <| zj X 52 [0, 1, 3, 4, 5, 6, 7]
def aX13_isDead_52 (mc ms : Nat) (X : Nat → zV) (Q : zQt) : zT :=
  zii (fun x y => x + y) <| zsi 2 <| zli 1 <| zli 7 <| zc (.int 2) <| zic (fun x y => x = y) (zj X 67 [0, 2, 3, 4, 5, 6, 7]) <| zli 7 <| zc (.int 3) <| zic (fun x y => x = y) (zj X 67 [0, 2, 3, 4, 5, 6, 7]) <| zc (.int 0) <| zj X 72 [0, 2, 3, 4, 5, 6, 7]
def aX13_isDead_67 (mc ms : Nat) (X : Nat → zV) (Q : zQt) : zT :=
  zc (.int 1) <| zj X 72 [0, 2, 3, 4, 5, 6, 7]
def aX13_isDead_72 (mc ms : Nat) (X : Nat → zV) (Q : zQt) : zT :=
  zii (fun x y => x + y) <| zsi 1 <| zli 4 <| zla 0 <| zgR 13 16 <| zli 6 <| zal 1 <| zc (.int 3) <| zic (fun x y => x = y) (zc (.int 1) <| zj X 92 [0, 1, 2, 3, 5, 6, 7]) <| zc (.int 0) <| zj X 92 [0, 1, 2, 3, 5, 6, 7]
def aX13_isDead_92 (mc ms : Nat) (X : Nat → zV) (Q : zQt) : zT :=
  zii (fun x y => x + y) <| zsi 4 <| zli 5 <| zla 0 <| zgR 13 16 <| zli 6 <| zal 1 <| zc (.int 9) <| zic (fun x y => x = y) (zc (.int 1) <| zj X 114 [0, 1, 2, 3, 4, 6, 7]) <| zc (.int 0) <| zj X 114 [0, 1, 2, 3, 4, 6, 7]
def aX13_isDead_114 (mc ms : Nat) (X : Nat → zV) (Q : zQt) : zT :=
  zii (fun x y => x + y) <| zsi 5 <| zli 3 <| zli 7 <| zc (.int 3) <| zic (fun x y => x = y) (zli 6 <| zc (.int 8) <| zid (fun x y => x - x / y * y) <| zli 6 <| zc (.int 8) <| zid (fun x y => x / y) <| zii (fun x y => x + y) <| zc (.int 2) <| zid (fun x y => x - x / y * y) <| zj X 141 [0, 1, 2, 4, 5, 6]) <| zc (.int 0) <| zj X 141 [0, 1, 2, 4, 5, 6]
def aX13_isDead_141 (mc ms : Nat) (X : Nat → zV) (Q : zQt) : zT :=
  zii (fun x y => x + y) <| zsi 3 <| zinc 6 1 <| zj X 15 [0, 1, 2, 3, 4, 5, 6]
def aX13_isDead_163 (mc ms : Nat) (X : Nat → zV) (Q : zQt) : zT :=
  zli 2 <| zc (.int 2) <| zic (fun x y => x = y) (zli 4 <| zc (.int 1) <| zic (fun x y => x = y) (zli 5 <| zc (.int 1) <| zic (fun x y => x = y) (zli 3 <| zc (.int 1) <| zic (fun x y => x = y) (zj X 189 []) <| zj X 185 []) <| zj X 189 []) <| zj X 189 []) <| zj X 189 []
def aX13_isDead_185 (mc ms : Nat) (X : Nat → zV) (Q : zQt) : zT :=
  zc (.int 1) <| zj X 190 []
def aX13_isDead_189 (mc ms : Nat) (X : Nat → zV) (Q : zQt) : zT :=
  zc (.int 0) <| zj X 190 []
def aX13_isDead_190 (mc ms : Nat) (X : Nat → zV) (Q : zQt) : zT :=
  zrz .boolean Q
def lvX13_isDead : Nat → List Nat := fun L => match L with
  | 0 => [0]
  | 15 => [0, 1, 2, 3, 4, 5, 6]
  | 51 => [0, 1, 3, 4, 5, 6, 7]
  | 52 => [0, 1, 3, 4, 5, 6, 7]
  | 67 => [0, 2, 3, 4, 5, 6, 7]
  | 72 => [0, 2, 3, 4, 5, 6, 7]
  | 92 => [0, 1, 2, 3, 5, 6, 7]
  | 114 => [0, 1, 2, 3, 4, 6, 7]
  | 141 => [0, 1, 2, 4, 5, 6]
  | 163 => [2, 3, 4, 5]
  | 185 => []
  | 189 => []
  | 190 => []
  | _ => []
def wX13_isDead : zSp := fun mc ms av M Q => ((zlay av).length ≤ 8 ∧ zpick (zlay av) [0] = some av) ∧ ∀ X : Nat → zV, zin 8 [0] (aX13_isDead_0 mc ms X Q) X 0 → zin 8 [0, 1, 2, 3, 4, 5, 6] (aX13_isDead_15 mc ms X Q) X 15 → zin 8 [0, 1, 3, 4, 5, 6, 7] (aX13_isDead_51 mc ms X Q) X 51 → zin 8 [0, 1, 3, 4, 5, 6, 7] (aX13_isDead_52 mc ms X Q) X 52 → zin 8 [0, 2, 3, 4, 5, 6, 7] (aX13_isDead_67 mc ms X Q) X 67 → zin 8 [0, 2, 3, 4, 5, 6, 7] (aX13_isDead_72 mc ms X Q) X 72 → zin 8 [0, 1, 2, 3, 5, 6, 7] (aX13_isDead_92 mc ms X Q) X 92 → zin 8 [0, 1, 2, 3, 4, 6, 7] (aX13_isDead_114 mc ms X Q) X 114 → zin 8 [0, 1, 2, 4, 5, 6] (aX13_isDead_141 mc ms X Q) X 141 → zin 8 [2, 3, 4, 5] (aX13_isDead_163 mc ms X Q) X 163 → zin 8 [] (aX13_isDead_185 mc ms X Q) X 185 → zin 8 [] (aX13_isDead_189 mc ms X Q) X 189 → zin 8 [] (aX13_isDead_190 mc ms X Q) X 190 → X 0 0 0 av [] M
set_option maxRecDepth 100000 in
set_option maxHeartbeats 4000000 in
theorem sX13_isDead (l : Launch) (G : zG) : zSnd l G yX13_isDead cX13_isDead 8 (some .boolean) 1 20 wX13_isDead := by
  refine zmk [0] (by decide) (fun mc ms av M Q h => h.1) ?_
  intro p e R s m args below meth c mc ms av M Q hC hRf hRl hr hnm h lv hlv
  obtain ⟨X, hXe⟩ : ∃ X : Nat → zV, X = fun L u v vs st M => ∀ lv, zpick lv (lvX13_isDead L) = some vs → zAt p l e R s m args below meth c (MQ below (zQ G Q) args s mc ms (zA G)) G 8 L u v lv st M := ⟨_, rfl⟩
  have hJ : ∀ L, zOk p l e R s m args below meth c (MQ below (zQ G Q) args s mc ms (zA G)) G 8 L (zj X L (lvX13_isDead L)) := fun L => S_jump (fun u v lv vs st M hp hx => by rw [hXe] at hx; exact hx lv hp)
  have hB0 : zin 8 [0] (aX13_isDead_0 mc ms X Q) X 0 := by
    intro u v vs st M hb
    rw [hXe]
    refine fun lv hp => S_block (L := 0) (live := [0]) ?_ u v lv vs st M hp hb
    unfold aX13_isDead_0
    refine S_iconst (pc := 0) hC dX13_isDead_0 (by decide) ?_
    refine S_istore_n (pc := 1) hC dX13_isDead_1 rfl (by decide) ?_
    refine S_iconst (pc := 2) hC dX13_isDead_2 (by decide) ?_
    refine S_istore_n (pc := 3) hC dX13_isDead_3 rfl (by decide) ?_
    refine S_iconst (pc := 4) hC dX13_isDead_4 (by decide) ?_
    refine S_istore_n (pc := 5) hC dX13_isDead_5 rfl (by decide) ?_
    refine S_iconst (pc := 6) hC dX13_isDead_6 (by decide) ?_
    refine S_istore (pc := 7) hC dX13_isDead_7 (by decide) ?_
    refine S_iconst (pc := 9) hC dX13_isDead_9 (by decide) ?_
    refine S_istore (pc := 10) hC dX13_isDead_10 (by decide) ?_
    refine S_iconst (pc := 12) hC dX13_isDead_12 (by decide) ?_
    refine S_istore (pc := 13) hC dX13_isDead_13 (by decide) ?_
    exact hJ 15
  have hB15 : zin 8 [0, 1, 2, 3, 4, 5, 6] (aX13_isDead_15 mc ms X Q) X 15 := by
    intro u v vs st M hb
    rw [hXe]
    refine fun lv hp => S_block (L := 15) (live := [0, 1, 2, 3, 4, 5, 6]) ?_ u v lv vs st M hp hb
    unfold aX13_isDead_15
    refine S_iload (pc := 15) hC dX13_isDead_15 ?_
    refine S_bipush (pc := 17) hC dX13_isDead_17 (by decide) ?_
    refine S_icmp_ge (pc := 19) (tgt := 149) hC dX13_isDead_19 (by decide) ?_ ?_
    · refine S_iload_n (pc := 149) hC dX13_isDead_149 rfl ?_
      refine S_if_eq (pc := 150) (tgt := 185) hC dX13_isDead_150 (by decide) ?_ ?_
      · exact hJ 185
      · refine S_iload_n (pc := 153) hC dX13_isDead_153 rfl ?_
        refine S_iconst (pc := 154) hC dX13_isDead_154 (by decide) ?_
        refine S_icmp_ne (pc := 155) (tgt := 163) hC dX13_isDead_155 (by decide) ?_ ?_
        · exact hJ 163
        · refine S_iload_n (pc := 158) hC dX13_isDead_158 rfl ?_
          refine S_iconst (pc := 159) hC dX13_isDead_159 (by decide) ?_
          refine S_icmp_eq (pc := 160) (tgt := 185) hC dX13_isDead_160 (by decide) ?_ ?_
          · exact hJ 185
          · exact hJ 163
    · refine S_aload_n (pc := 22) hC dX13_isDead_22 rfl ?_
      refine S_getR (pc := 23) hC cfX13 (by decide) (Or.inr ⟨_, rfl⟩) wd_1271 dX13_isDead_23 ?_
      refine S_iload (pc := 26) hC dX13_isDead_26 ?_
      refine S_iaload (pc := 28) hC dX13_isDead_28 ?_
      refine S_callS (pc := 29) hC (sX13_kindOf l G) wd_1376 wd_1377 wd_12 wd_1378 (by decide +kernel) ⟨by rw [hRf]; decide, by rw [hRl]; decide⟩ dX13_isDead_29 ?_
      unfold kX13_isDead_32
      refine S_istore (pc := 32) hC dX13_isDead_32 (by decide) ?_
      refine S_iload_n (pc := 34) hC dX13_isDead_34 rfl ?_
      refine S_iload (pc := 35) hC dX13_isDead_35 ?_
      refine S_if_le (pc := 37) (tgt := 51) hC dX13_isDead_37 (by decide) ?_ ?_
      · exact hJ 51
      · refine S_iload (pc := 40) hC dX13_isDead_40 ?_
        refine S_bipush (pc := 42) hC dX13_isDead_42 (by decide) ?_
        refine S_icmp_ge (pc := 44) (tgt := 51) hC dX13_isDead_44 (by decide) ?_ ?_
        · exact hJ 51
        · refine S_iconst (pc := 47) hC dX13_isDead_47 (by decide) ?_
          refine S_goto (pc := 48) (tgt := 52) hC dX13_isDead_48 (by decide) ?_
          exact hJ 52
  have hB51 : zin 8 [0, 1, 3, 4, 5, 6, 7] (aX13_isDead_51 mc ms X Q) X 51 := by
    intro u v vs st M hb
    rw [hXe]
    refine fun lv hp => S_block (L := 51) (live := [0, 1, 3, 4, 5, 6, 7]) ?_ u v lv vs st M hp hb
    unfold aX13_isDead_51
    refine S_iconst (pc := 51) hC dX13_isDead_51 (by decide) ?_
    exact hJ 52
  have hB52 : zin 8 [0, 1, 3, 4, 5, 6, 7] (aX13_isDead_52 mc ms X Q) X 52 := by
    intro u v vs st M hb
    rw [hXe]
    refine fun lv hp => S_block (L := 52) (live := [0, 1, 3, 4, 5, 6, 7]) ?_ u v lv vs st M hp hb
    unfold aX13_isDead_52
    refine S_iadd (pc := 52) hC dX13_isDead_52 ?_
    refine S_istore_n (pc := 53) hC dX13_isDead_53 rfl (by decide) ?_
    refine S_iload_n (pc := 54) hC dX13_isDead_54 rfl ?_
    refine S_iload (pc := 55) hC dX13_isDead_55 ?_
    refine S_iconst (pc := 57) hC dX13_isDead_57 (by decide) ?_
    refine S_icmp_eq (pc := 58) (tgt := 67) hC dX13_isDead_58 (by decide) ?_ ?_
    · exact hJ 67
    · refine S_iload (pc := 61) hC dX13_isDead_61 ?_
      refine S_iconst (pc := 63) hC dX13_isDead_63 (by decide) ?_
      refine S_icmp_ne (pc := 64) (tgt := 71) hC dX13_isDead_64 (by decide) ?_ ?_
      · refine S_iconst (pc := 71) hC dX13_isDead_71 (by decide) ?_
        exact hJ 72
      · exact hJ 67
  have hB67 : zin 8 [0, 2, 3, 4, 5, 6, 7] (aX13_isDead_67 mc ms X Q) X 67 := by
    intro u v vs st M hb
    rw [hXe]
    refine fun lv hp => S_block (L := 67) (live := [0, 2, 3, 4, 5, 6, 7]) ?_ u v lv vs st M hp hb
    unfold aX13_isDead_67
    refine S_iconst (pc := 67) hC dX13_isDead_67 (by decide) ?_
    refine S_goto (pc := 68) (tgt := 72) hC dX13_isDead_68 (by decide) ?_
    exact hJ 72
  have hB72 : zin 8 [0, 2, 3, 4, 5, 6, 7] (aX13_isDead_72 mc ms X Q) X 72 := by
    intro u v vs st M hb
    rw [hXe]
    refine fun lv hp => S_block (L := 72) (live := [0, 2, 3, 4, 5, 6, 7]) ?_ u v lv vs st M hp hb
    unfold aX13_isDead_72
    refine S_iadd (pc := 72) hC dX13_isDead_72 ?_
    refine S_istore_n (pc := 73) hC dX13_isDead_73 rfl (by decide) ?_
    refine S_iload (pc := 74) hC dX13_isDead_74 ?_
    refine S_aload_n (pc := 76) hC dX13_isDead_76 rfl ?_
    refine S_getR (pc := 77) hC cfX13 (by decide) (Or.inr ⟨_, rfl⟩) wd_1271 dX13_isDead_77 ?_
    refine S_iload (pc := 80) hC dX13_isDead_80 ?_
    refine S_iaload (pc := 82) hC dX13_isDead_82 ?_
    refine S_iconst (pc := 83) hC dX13_isDead_83 (by decide) ?_
    refine S_icmp_ne (pc := 84) (tgt := 91) hC dX13_isDead_84 (by decide) ?_ ?_
    · refine S_iconst (pc := 91) hC dX13_isDead_91 (by decide) ?_
      exact hJ 92
    · refine S_iconst (pc := 87) hC dX13_isDead_87 (by decide) ?_
      refine S_goto (pc := 88) (tgt := 92) hC dX13_isDead_88 (by decide) ?_
      exact hJ 92
  have hB92 : zin 8 [0, 1, 2, 3, 5, 6, 7] (aX13_isDead_92 mc ms X Q) X 92 := by
    intro u v vs st M hb
    rw [hXe]
    refine fun lv hp => S_block (L := 92) (live := [0, 1, 2, 3, 5, 6, 7]) ?_ u v lv vs st M hp hb
    unfold aX13_isDead_92
    refine S_iadd (pc := 92) hC dX13_isDead_92 ?_
    refine S_istore (pc := 93) hC dX13_isDead_93 (by decide) ?_
    refine S_iload (pc := 95) hC dX13_isDead_95 ?_
    refine S_aload_n (pc := 97) hC dX13_isDead_97 rfl ?_
    refine S_getR (pc := 98) hC cfX13 (by decide) (Or.inr ⟨_, rfl⟩) wd_1271 dX13_isDead_98 ?_
    refine S_iload (pc := 101) hC dX13_isDead_101 ?_
    refine S_iaload (pc := 103) hC dX13_isDead_103 ?_
    refine S_bipush (pc := 104) hC dX13_isDead_104 (by decide) ?_
    refine S_icmp_ne (pc := 106) (tgt := 113) hC dX13_isDead_106 (by decide) ?_ ?_
    · refine S_iconst (pc := 113) hC dX13_isDead_113 (by decide) ?_
      exact hJ 114
    · refine S_iconst (pc := 109) hC dX13_isDead_109 (by decide) ?_
      refine S_goto (pc := 110) (tgt := 114) hC dX13_isDead_110 (by decide) ?_
      exact hJ 114
  have hB114 : zin 8 [0, 1, 2, 3, 4, 6, 7] (aX13_isDead_114 mc ms X Q) X 114 := by
    intro u v vs st M hb
    rw [hXe]
    refine fun lv hp => S_block (L := 114) (live := [0, 1, 2, 3, 4, 6, 7]) ?_ u v lv vs st M hp hb
    unfold aX13_isDead_114
    refine S_iadd (pc := 114) hC dX13_isDead_114 ?_
    refine S_istore (pc := 115) hC dX13_isDead_115 (by decide) ?_
    refine S_iload_n (pc := 117) hC dX13_isDead_117 rfl ?_
    refine S_iload (pc := 118) hC dX13_isDead_118 ?_
    refine S_iconst (pc := 120) hC dX13_isDead_120 (by decide) ?_
    refine S_icmp_ne (pc := 121) (tgt := 140) hC dX13_isDead_121 (by decide) ?_ ?_
    · refine S_iconst (pc := 140) hC dX13_isDead_140 (by decide) ?_
      exact hJ 141
    · refine S_iload (pc := 124) hC dX13_isDead_124 ?_
      refine S_bipush (pc := 126) hC dX13_isDead_126 (by decide) ?_
      refine S_irem (pc := 128) hC dX13_isDead_128 ?_
      refine S_iload (pc := 129) hC dX13_isDead_129 ?_
      refine S_bipush (pc := 131) hC dX13_isDead_131 (by decide) ?_
      refine S_idiv (pc := 133) hC dX13_isDead_133 ?_
      refine S_iadd (pc := 134) hC dX13_isDead_134 ?_
      refine S_iconst (pc := 135) hC dX13_isDead_135 (by decide) ?_
      refine S_irem (pc := 136) hC dX13_isDead_136 ?_
      refine S_goto (pc := 137) (tgt := 141) hC dX13_isDead_137 (by decide) ?_
      exact hJ 141
  have hB141 : zin 8 [0, 1, 2, 4, 5, 6] (aX13_isDead_141 mc ms X Q) X 141 := by
    intro u v vs st M hb
    rw [hXe]
    refine fun lv hp => S_block (L := 141) (live := [0, 1, 2, 4, 5, 6]) ?_ u v lv vs st M hp hb
    unfold aX13_isDead_141
    refine S_iadd (pc := 141) hC dX13_isDead_141 ?_
    refine S_istore_n (pc := 142) hC dX13_isDead_142 rfl (by decide) ?_
    refine S_iinc (pc := 143) hC dX13_isDead_143 (by decide) (by decide) ?_
    refine S_goto (pc := 146) (tgt := 15) hC dX13_isDead_146 (by decide) ?_
    exact hJ 15
  have hB163 : zin 8 [2, 3, 4, 5] (aX13_isDead_163 mc ms X Q) X 163 := by
    intro u v vs st M hb
    rw [hXe]
    refine fun lv hp => S_block (L := 163) (live := [2, 3, 4, 5]) ?_ u v lv vs st M hp hb
    unfold aX13_isDead_163
    refine S_iload_n (pc := 163) hC dX13_isDead_163 rfl ?_
    refine S_iconst (pc := 164) hC dX13_isDead_164 (by decide) ?_
    refine S_icmp_ne (pc := 165) (tgt := 189) hC dX13_isDead_165 (by decide) ?_ ?_
    · exact hJ 189
    · refine S_iload (pc := 168) hC dX13_isDead_168 ?_
      refine S_iconst (pc := 170) hC dX13_isDead_170 (by decide) ?_
      refine S_icmp_ne (pc := 171) (tgt := 189) hC dX13_isDead_171 (by decide) ?_ ?_
      · exact hJ 189
      · refine S_iload (pc := 174) hC dX13_isDead_174 ?_
        refine S_iconst (pc := 176) hC dX13_isDead_176 (by decide) ?_
        refine S_icmp_ne (pc := 177) (tgt := 189) hC dX13_isDead_177 (by decide) ?_ ?_
        · exact hJ 189
        · refine S_iload_n (pc := 180) hC dX13_isDead_180 rfl ?_
          refine S_iconst (pc := 181) hC dX13_isDead_181 (by decide) ?_
          refine S_icmp_eq (pc := 182) (tgt := 189) hC dX13_isDead_182 (by decide) ?_ ?_
          · exact hJ 189
          · exact hJ 185
  have hB185 : zin 8 [] (aX13_isDead_185 mc ms X Q) X 185 := by
    intro u v vs st M hb
    rw [hXe]
    refine fun lv hp => S_block (L := 185) (live := []) ?_ u v lv vs st M hp hb
    unfold aX13_isDead_185
    refine S_iconst (pc := 185) hC dX13_isDead_185 (by decide) ?_
    refine S_goto (pc := 186) (tgt := 190) hC dX13_isDead_186 (by decide) ?_
    exact hJ 190
  have hB189 : zin 8 [] (aX13_isDead_189 mc ms X Q) X 189 := by
    intro u v vs st M hb
    rw [hXe]
    refine fun lv hp => S_block (L := 189) (live := []) ?_ u v lv vs st M hp hb
    unfold aX13_isDead_189
    refine S_iconst (pc := 189) hC dX13_isDead_189 (by decide) ?_
    exact hJ 190
  have hB190 : zin 8 [] (aX13_isDead_190 mc ms X Q) X 190 := by
    intro u v vs st M hb
    rw [hXe]
    refine fun lv hp => S_block (L := 190) (live := []) ?_ u v lv vs st M hp hb
    unfold aX13_isDead_190
    exact S_zreturn (pc := 190) hC hr dX13_isDead_190
  have := h.2 X hB0 hB15 hB51 hB52 hB67 hB72 hB92 hB114 hB141 hB163 hB185 hB189 hB190
  rw [hXe] at this
  exact this lv hlv
theorem vX13_isDead_0 {mc ms : Nat} {X : Nat → zV} {Q : zQt} {M : zM}  (hW : zFix M)  (h : X 15 0 0 [.ref 55, .int 0, .int 0, .int 0, .int 0, .int 0, .int 0] [] M) : aX13_isDead_0 mc ms X Q 0 0 [some (.ref 55), none, none, none, none, none, none, none] [] M := h
theorem vX13_isDead_15 {mc ms : Nat} {X : Nat → zV} {Q : zQt} {M : zM} {x1 : Int32} {x2 : Int32} {x3 : Int32} {x4 : Int32} {x5 : Int32} {x6 : Int32} (hW : zFix M)  (h : ((64 : Int32) ≤ x6 → (x2 = 0 → X 185 0 0 [] [] M) ∧ (¬ x2 = 0 → (x2 = (1 : Int32) → (x1 = (1 : Int32) → X 185 0 0 [] [] M) ∧ (¬ x1 = (1 : Int32) → X 163 0 0 [.int x2, .int x3, .int x4, .int x5] [] M)) ∧ (¬ x2 = (1 : Int32) → X 163 0 0 [.int x2, .int x3, .int x4, .int x5] [] M))) ∧ (¬ (64 : Int32) ≤ x6 → vp_in x6 414 ∧ wX13_kindOf 0 0 [.int ((M : zM).1 65 (x6 : Int32).toNatClampNeg)] M (fun r M1 => kX13_isDead_32 mc ms X Q 0 0 [some (.ref 55), some (.int x1), some (.int x2), some (.int x3), some (.int x4), some (.int x5), some (.int x6), none] (r.toList ++ []) M1))) : aX13_isDead_15 mc ms X Q 0 0 [some (.ref 55), some (.int x1), some (.int x2), some (.int x3), some (.int x4), some (.int x5), some (.int x6), none] [] M := ⟨fun c19 => ⟨fun c150 => ((h.1 c19).1 c150), fun c150 => ⟨fun c155 => ⟨fun c160 => ((((h.1 c19).2 c150).1 c155).1 c160), fun c160 => ((((h.1 c19).2 c150).1 c155).2 c160)⟩, fun c155 => (((h.1 c19).2 c150).2 c155)⟩⟩, fun c19 => ⟨(fxs_55 hW), 65, (fxr_55_16 hW), ⟨414, (fxs_65 hW), (h.2 c19).1, ⟨Nat.le_of_ble_eq_true rfl, rfl, 0, 0, Nat.zero_le _, Nat.zero_le _, (h.2 c19).2⟩⟩⟩⟩
theorem vX13_isDead_51 {mc ms : Nat} {X : Nat → zV} {Q : zQt} {M : zM} {x1 : Int32} {x3 : Int32} {x4 : Int32} {x5 : Int32} {x6 : Int32} {x7 : Int32} {s0 : Int32} (hW : zFix M)  (h : X 52 0 0 [.ref 55, .int x1, .int x3, .int x4, .int x5, .int x6, .int x7] [.int 0, .int s0] M) : aX13_isDead_51 mc ms X Q 0 0 [some (.ref 55), some (.int x1), none, some (.int x3), some (.int x4), some (.int x5), some (.int x6), some (.int x7)] [.int s0] M := h
theorem vX13_isDead_52 {mc ms : Nat} {X : Nat → zV} {Q : zQt} {M : zM} {x1 : Int32} {x3 : Int32} {x4 : Int32} {x5 : Int32} {x6 : Int32} {x7 : Int32} {s0 : Int32} {s1 : Int32} (hW : zFix M)  (h : (x7 = (2 : Int32) → X 67 0 0 [.ref 55, .int (s1 + s0), .int x3, .int x4, .int x5, .int x6, .int x7] [.int x1] M) ∧ (¬ x7 = (2 : Int32) → (x7 = (3 : Int32) → X 67 0 0 [.ref 55, .int (s1 + s0), .int x3, .int x4, .int x5, .int x6, .int x7] [.int x1] M) ∧ (¬ x7 = (3 : Int32) → X 72 0 0 [.ref 55, .int (s1 + s0), .int x3, .int x4, .int x5, .int x6, .int x7] [.int 0, .int x1] M))) : aX13_isDead_52 mc ms X Q 0 0 [some (.ref 55), some (.int x1), none, some (.int x3), some (.int x4), some (.int x5), some (.int x6), some (.int x7)] [.int s0, .int s1] M := ⟨fun c58 => (h.1 c58), fun c58 => ⟨fun c64 => ((h.2 c58).1 c64), fun c64 => ((h.2 c58).2 c64)⟩⟩
theorem vX13_isDead_67 {mc ms : Nat} {X : Nat → zV} {Q : zQt} {M : zM} {x2 : Int32} {x3 : Int32} {x4 : Int32} {x5 : Int32} {x6 : Int32} {x7 : Int32} {s0 : Int32} (hW : zFix M)  (h : X 72 0 0 [.ref 55, .int x2, .int x3, .int x4, .int x5, .int x6, .int x7] [.int 1, .int s0] M) : aX13_isDead_67 mc ms X Q 0 0 [some (.ref 55), none, some (.int x2), some (.int x3), some (.int x4), some (.int x5), some (.int x6), some (.int x7)] [.int s0] M := h
theorem vX13_isDead_72 {mc ms : Nat} {X : Nat → zV} {Q : zQt} {M : zM} {x2 : Int32} {x3 : Int32} {x4 : Int32} {x5 : Int32} {x6 : Int32} {x7 : Int32} {s0 : Int32} {s1 : Int32} (hW : zFix M)  (h : vp_in x6 414 ∧ (((M : zM).1 65 (x6 : Int32).toNatClampNeg) = (3 : Int32) → X 92 0 0 [.ref 55, .int (s1 + s0), .int x2, .int x3, .int x5, .int x6, .int x7] [.int 1, .int x4] M) ∧ (¬ ((M : zM).1 65 (x6 : Int32).toNatClampNeg) = (3 : Int32) → X 92 0 0 [.ref 55, .int (s1 + s0), .int x2, .int x3, .int x5, .int x6, .int x7] [.int 0, .int x4] M)) : aX13_isDead_72 mc ms X Q 0 0 [some (.ref 55), none, some (.int x2), some (.int x3), some (.int x4), some (.int x5), some (.int x6), some (.int x7)] [.int s0, .int s1] M := ⟨(fxs_55 hW), 65, (fxr_55_16 hW), ⟨414, (fxs_65 hW), h.1, ⟨fun c84 => (h.2.1 c84), fun c84 => (h.2.2 c84)⟩⟩⟩
theorem vX13_isDead_92 {mc ms : Nat} {X : Nat → zV} {Q : zQt} {M : zM} {x1 : Int32} {x2 : Int32} {x3 : Int32} {x5 : Int32} {x6 : Int32} {x7 : Int32} {s0 : Int32} {s1 : Int32} (hW : zFix M)  (h : vp_in x6 414 ∧ (((M : zM).1 65 (x6 : Int32).toNatClampNeg) = (9 : Int32) → X 114 0 0 [.ref 55, .int x1, .int x2, .int x3, .int (s1 + s0), .int x6, .int x7] [.int 1, .int x5] M) ∧ (¬ ((M : zM).1 65 (x6 : Int32).toNatClampNeg) = (9 : Int32) → X 114 0 0 [.ref 55, .int x1, .int x2, .int x3, .int (s1 + s0), .int x6, .int x7] [.int 0, .int x5] M)) : aX13_isDead_92 mc ms X Q 0 0 [some (.ref 55), some (.int x1), some (.int x2), some (.int x3), none, some (.int x5), some (.int x6), some (.int x7)] [.int s0, .int s1] M := ⟨(fxs_55 hW), 65, (fxr_55_16 hW), ⟨414, (fxs_65 hW), h.1, ⟨fun c106 => (h.2.1 c106), fun c106 => (h.2.2 c106)⟩⟩⟩
theorem vX13_isDead_114 {mc ms : Nat} {X : Nat → zV} {Q : zQt} {M : zM} {x1 : Int32} {x2 : Int32} {x3 : Int32} {x4 : Int32} {x6 : Int32} {x7 : Int32} {s0 : Int32} {s1 : Int32} (hW : zFix M)  (h : (x7 = (3 : Int32) → X 141 0 0 [.ref 55, .int x1, .int x2, .int x4, .int (s1 + s0), .int x6] [.int (((x6 - x6 / (8 : Int32) * (8 : Int32)) + (x6 / (8 : Int32))) - ((x6 - x6 / (8 : Int32) * (8 : Int32)) + (x6 / (8 : Int32))) / (2 : Int32) * (2 : Int32)), .int x3] M) ∧ (¬ x7 = (3 : Int32) → X 141 0 0 [.ref 55, .int x1, .int x2, .int x4, .int (s1 + s0), .int x6] [.int 0, .int x3] M)) : aX13_isDead_114 mc ms X Q 0 0 [some (.ref 55), some (.int x1), some (.int x2), some (.int x3), some (.int x4), none, some (.int x6), some (.int x7)] [.int s0, .int s1] M := ⟨fun c121 => ⟨by decide, ⟨by decide, ⟨by decide, (h.1 c121)⟩⟩⟩, fun c121 => (h.2 c121)⟩
theorem vX13_isDead_141 {mc ms : Nat} {X : Nat → zV} {Q : zQt} {M : zM} {x1 : Int32} {x2 : Int32} {x4 : Int32} {x5 : Int32} {x6 : Int32} {s0 : Int32} {s1 : Int32} (hW : zFix M)  (h : X 15 0 0 [.ref 55, .int x1, .int x2, .int (s1 + s0), .int x4, .int x5, .int (x6 + 1)] [] M) : aX13_isDead_141 mc ms X Q 0 0 [some (.ref 55), some (.int x1), some (.int x2), none, some (.int x4), some (.int x5), some (.int x6), none] [.int s0, .int s1] M := h
theorem vX13_isDead_163 {mc ms : Nat} {X : Nat → zV} {Q : zQt} {M : zM} {x2 : Int32} {x3 : Int32} {x4 : Int32} {x5 : Int32} (hW : zFix M)  (h : (x2 = (2 : Int32) → (x4 = (1 : Int32) → (x5 = (1 : Int32) → (x3 = (1 : Int32) → X 189 0 0 [] [] M) ∧ (¬ x3 = (1 : Int32) → X 185 0 0 [] [] M)) ∧ (¬ x5 = (1 : Int32) → X 189 0 0 [] [] M)) ∧ (¬ x4 = (1 : Int32) → X 189 0 0 [] [] M)) ∧ (¬ x2 = (2 : Int32) → X 189 0 0 [] [] M)) : aX13_isDead_163 mc ms X Q 0 0 [none, none, some (.int x2), some (.int x3), some (.int x4), some (.int x5), none, none] [] M := ⟨fun c165 => ⟨fun c171 => ⟨fun c177 => ⟨fun c182 => ((((h.1 c165).1 c171).1 c177).1 c182), fun c182 => ((((h.1 c165).1 c171).1 c177).2 c182)⟩, fun c177 => (((h.1 c165).1 c171).2 c177)⟩, fun c171 => ((h.1 c165).2 c171)⟩, fun c165 => (h.2 c165)⟩
theorem vX13_isDead_185 {mc ms : Nat} {X : Nat → zV} {Q : zQt} {M : zM}  (hW : zFix M)  (h : X 190 0 0 [] [.int 1] M) : aX13_isDead_185 mc ms X Q 0 0 [none, none, none, none, none, none, none, none] [] M := h
theorem vX13_isDead_189 {mc ms : Nat} {X : Nat → zV} {Q : zQt} {M : zM}  (hW : zFix M)  (h : X 190 0 0 [] [.int 0] M) : aX13_isDead_189 mc ms X Q 0 0 [none, none, none, none, none, none, none, none] [] M := h
theorem vX13_isDead_190 {mc ms : Nat} {X : Nat → zV} {Q : zQt} {M : zM} {s0 : Int32} (hW : zFix M)  (h : narrow .boolean (.int s0) = .int s0 ∧ Q (some (.int s0)) M) : aX13_isDead_190 mc ms X Q 0 0 [none, none, none, none, none, none, none, none] [.int s0] M := h
theorem vkX13_isDead_32 {mc ms : Nat} {X : Nat → zV} {Q : zQt} {M : zM} {x1 : Int32} {x2 : Int32} {x3 : Int32} {x4 : Int32} {x5 : Int32} {x6 : Int32} {s0 : Int32} (hW : zFix M)  (h : (s0 ≤ 0 → X 51 0 0 [.ref 55, .int x1, .int x3, .int x4, .int x5, .int x6, .int s0] [.int x2] M) ∧ (¬ s0 ≤ 0 → ((6 : Int32) ≤ s0 → X 51 0 0 [.ref 55, .int x1, .int x3, .int x4, .int x5, .int x6, .int s0] [.int x2] M) ∧ (¬ (6 : Int32) ≤ s0 → X 52 0 0 [.ref 55, .int x1, .int x3, .int x4, .int x5, .int x6, .int s0] [.int 1, .int x2] M))) : kX13_isDead_32 mc ms X Q 0 0 [some (.ref 55), some (.int x1), some (.int x2), some (.int x3), some (.int x4), some (.int x5), some (.int x6), none] [.int s0] M := ⟨fun c37 => (h.1 c37), fun c37 => ⟨fun c44 => ((h.2 c37).1 c44), fun c44 => ((h.2 c37).2 c44)⟩⟩
