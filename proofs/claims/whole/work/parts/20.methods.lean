theorem dX13_deepest_0 : decode cX13_deepest 0 = .ok (.aload_n 0, 1) := by decide +kernel
theorem dX13_deepest_1 : decode cX13_deepest 1 = .ok (.getfield 28, 3) := by decide +kernel
theorem dX13_deepest_4 : decode cX13_deepest 4 = .ok (.aload_n 0, 1) := by decide +kernel
theorem dX13_deepest_5 : decode cX13_deepest 5 = .ok (.invokevirtual 126, 3) := by decide +kernel
theorem dX13_deepest_8 : decode cX13_deepest 8 = .ok (.aload_n 0, 1) := by decide +kernel
theorem dX13_deepest_9 : decode cX13_deepest 9 = .ok (.getfield 22, 3) := by decide +kernel
theorem dX13_deepest_12 : decode cX13_deepest 12 = .ok (.aload_n 0, 1) := by decide +kernel
theorem dX13_deepest_13 : decode cX13_deepest 13 = .ok (.getfield 123, 3) := by decide +kernel
theorem dX13_deepest_16 : decode cX13_deepest 16 = .ok (.iaload, 1) := by decide +kernel
theorem dX13_deepest_17 : decode cX13_deepest 17 = .ok (.iadd, 1) := by decide +kernel
theorem dX13_deepest_18 : decode cX13_deepest 18 = .ok (.iconst 1, 1) := by decide +kernel
theorem dX13_deepest_19 : decode cX13_deepest 19 = .ok (.isub, 1) := by decide +kernel
theorem dX13_deepest_20 : decode cX13_deepest 20 = .ok (.iaload, 1) := by decide +kernel
theorem dX13_deepest_21 : decode cX13_deepest 21 = .ok (.bipush 30, 2) := by decide +kernel
theorem dX13_deepest_23 : decode cX13_deepest 23 = .ok (.if_icmp .le 7, 3) := by decide +kernel
theorem dX13_deepest_26 : decode cX13_deepest 26 = .ok (.iconst 2, 1) := by decide +kernel
theorem dX13_deepest_27 : decode cX13_deepest 27 = .ok (.goto 4, 3) := by decide +kernel
theorem dX13_deepest_30 : decode cX13_deepest 30 = .ok (.iconst 3, 1) := by decide +kernel
theorem dX13_deepest_31 : decode cX13_deepest 31 = .ok (.ireturn, 1) := by decide +kernel
def kX13_deepest_8 (mc ms : Nat) (X : Nat → zV) (Q : zQt) : zT :=
  zla 0 <| zgR 13 9 <| zla 0 <| zgi 13 6 <| zal 1 <| zii (fun x y => x + y) <| zc (.int 1) <| zii (fun x y => x - y) <| zal 1 <| zc (.int 30) <| zic (fun x y => x ≤ y) (zc (.int 3) <| zj X 31 []) <| zc (.int 2) <| zj X 31 []
def aX13_deepest_0 (mc ms : Nat) (X : Nat → zV) (Q : zQt) : zT :=
  zla 0 <| zgR 13 11 <| zla 0 <| zcv mc ms 13 0 wX13_base <| kX13_deepest_8 mc ms X Q
def aX13_deepest_31 (mc ms : Nat) (X : Nat → zV) (Q : zQt) : zT :=
  zri Q
def lvX13_deepest : Nat → List Nat := fun L => match L with
  | 0 => [0]
  | 31 => []
  | _ => []
def wX13_deepest : zSp := fun mc ms av M Q => ((zlay av).length ≤ 1 ∧ zpick (zlay av) [0] = some av) ∧ ∀ X : Nat → zV, zin 1 [0] (aX13_deepest_0 mc ms X Q) X 0 → zin 1 [] (aX13_deepest_31 mc ms X Q) X 31 → X 0 0 0 av [] M
set_option maxRecDepth 100000 in
set_option maxHeartbeats 4000000 in
theorem sX13_deepest (l : Launch) (G : zG) : zSnd l G yX13_deepest cX13_deepest 1 (some .int) 1 20 wX13_deepest := by
  refine zmk [0] (by decide) (fun mc ms av M Q h => h.1) ?_
  intro p e R s m args below meth c mc ms av M Q hC hRf hRl hr hnm h lv hlv
  obtain ⟨X, hXe⟩ : ∃ X : Nat → zV, X = fun L u v vs st M => ∀ lv, zpick lv (lvX13_deepest L) = some vs → zAt p l e R s m args below meth c (MQ below (zQ G Q) args s mc ms (zA G)) G 1 L u v lv st M := ⟨_, rfl⟩
  have hJ : ∀ L, zOk p l e R s m args below meth c (MQ below (zQ G Q) args s mc ms (zA G)) G 1 L (zj X L (lvX13_deepest L)) := fun L => S_jump (fun u v lv vs st M hp hx => by rw [hXe] at hx; exact hx lv hp)
  have hB0 : zin 1 [0] (aX13_deepest_0 mc ms X Q) X 0 := by
    intro u v vs st M hb
    rw [hXe]
    refine fun lv hp => S_block (L := 0) (live := [0]) ?_ u v lv vs st M hp hb
    unfold aX13_deepest_0
    refine S_aload_n (pc := 0) hC dX13_deepest_0 rfl ?_
    refine S_getR (pc := 1) hC cfX13 (by decide) (Or.inr ⟨_, rfl⟩) wd_1266 dX13_deepest_1 ?_
    refine S_aload_n (pc := 4) hC dX13_deepest_4 rfl ?_
    refine S_callV (pc := 5) hC (sX13_base l G) rfl wd_1439 wd_1441 ws_71 wd_12 wd_1442 (by decide +kernel) ⟨by rw [hRf]; decide, by rw [hRl]; decide⟩ dX13_deepest_5 ?_
    unfold kX13_deepest_8
    refine S_aload_n (pc := 8) hC dX13_deepest_8 rfl ?_
    refine S_getR (pc := 9) hC cfX13 (by decide) (Or.inr ⟨_, rfl⟩) wd_1264 dX13_deepest_9 ?_
    refine S_aload_n (pc := 12) hC dX13_deepest_12 rfl ?_
    refine S_geti (pc := 13) hC cfX13 (by decide) (Or.inl rfl) wd_1261 dX13_deepest_13 ?_
    refine S_iaload (pc := 16) hC dX13_deepest_16 ?_
    refine S_iadd (pc := 17) hC dX13_deepest_17 ?_
    refine S_iconst (pc := 18) hC dX13_deepest_18 (by decide) ?_
    refine S_isub (pc := 19) hC dX13_deepest_19 ?_
    refine S_iaload (pc := 20) hC dX13_deepest_20 ?_
    refine S_bipush (pc := 21) hC dX13_deepest_21 (by decide) ?_
    refine S_icmp_le (pc := 23) (tgt := 30) hC dX13_deepest_23 (by decide) ?_ ?_
    · refine S_iconst (pc := 30) hC dX13_deepest_30 (by decide) ?_
      exact hJ 31
    · refine S_iconst (pc := 26) hC dX13_deepest_26 (by decide) ?_
      refine S_goto (pc := 27) (tgt := 31) hC dX13_deepest_27 (by decide) ?_
      exact hJ 31
  have hB31 : zin 1 [] (aX13_deepest_31 mc ms X Q) X 31 := by
    intro u v vs st M hb
    rw [hXe]
    refine fun lv hp => S_block (L := 31) (live := []) ?_ u v lv vs st M hp hb
    unfold aX13_deepest_31
    exact S_ireturn (pc := 31) hC hr dX13_deepest_31
  have := h.2 X hB0 hB31
  rw [hXe] at this
  exact this lv hlv
theorem vX13_deepest_0 {mc ms : Nat} {X : Nat → zV} {Q : zQt} {M : zM}  (hW : zFix M)  (h : wX13_base 0 0 [.ref 55] M (fun r M1 => kX13_deepest_8 mc ms X Q 0 0 [some (.ref 55)] (r.toList ++ [.ref 60]) M1)) : aX13_deepest_0 mc ms X Q 0 0 [some (.ref 55)] [] M := ⟨(fxs_55 hW), 60, (fxr_55_11 hW), ⟨Nat.le_of_ble_eq_true rfl, rfl, (fxs_55 hW), 0, 0, Nat.zero_le _, Nat.zero_le _, h⟩⟩
theorem vX13_deepest_31 {mc ms : Nat} {X : Nat → zV} {Q : zQt} {M : zM} {s0 : Int32} (hW : zFix M)  (h : Q (some (.int s0)) M) : aX13_deepest_31 mc ms X Q 0 0 [none] [.int s0] M := h
theorem vkX13_deepest_8 {mc ms : Nat} {X : Nat → zV} {Q : zQt} {M : zM} {s0 : Int32} (hW : zFix M)  (h : vp_in ((M.1 55 6)) 2 ∧ vp_in (((s0 + ((M : zM).1 58 ((M.1 55 6) : Int32).toNatClampNeg)) - (1 : Int32))) 1202 ∧ (((M : zM).1 60 (((s0 + ((M : zM).1 58 ((M.1 55 6) : Int32).toNatClampNeg)) - (1 : Int32)) : Int32).toNatClampNeg) ≤ (30 : Int32) → X 31 0 0 [] [.int 3] M) ∧ (¬ ((M : zM).1 60 (((s0 + ((M : zM).1 58 ((M.1 55 6) : Int32).toNatClampNeg)) - (1 : Int32)) : Int32).toNatClampNeg) ≤ (30 : Int32) → X 31 0 0 [] [.int 2] M)) : kX13_deepest_8 mc ms X Q 0 0 [some (.ref 55)] [.int s0, .ref 60] M := ⟨(fxs_55 hW), 58, (fxr_55_9 hW), ⟨(fxs_55 hW), ⟨2, (fxs_58 hW), h.1, ⟨1202, (fxs_60 hW), h.2.1, ⟨fun c23 => (h.2.2.1 c23), fun c23 => (h.2.2.2 c23)⟩⟩⟩⟩⟩
theorem dX13_linesTo_0 : decode cX13_linesTo 0 = .ok (.aload_n 0, 1) := by decide +kernel
theorem dX13_linesTo_1 : decode cX13_linesTo 1 = .ok (.aload_n 0, 1) := by decide +kernel
theorem dX13_linesTo_2 : decode cX13_linesTo 2 = .ok (.getfield 177, 3) := by decide +kernel
theorem dX13_linesTo_5 : decode cX13_linesTo 5 = .ok (.ifCond .ne 7, 3) := by decide +kernel
theorem dX13_linesTo_8 : decode cX13_linesTo 8 = .ok (.iconst 1, 1) := by decide +kernel
theorem dX13_linesTo_9 : decode cX13_linesTo 9 = .ok (.goto 20, 3) := by decide +kernel
theorem dX13_linesTo_12 : decode cX13_linesTo 12 = .ok (.iload_n 1, 1) := by decide +kernel
theorem dX13_linesTo_13 : decode cX13_linesTo 13 = .ok (.ifCond .lt 11, 3) := by decide +kernel
theorem dX13_linesTo_16 : decode cX13_linesTo 16 = .ok (.iload_n 1, 1) := by decide +kernel
theorem dX13_linesTo_17 : decode cX13_linesTo 17 = .ok (.aload_n 0, 1) := by decide +kernel
theorem dX13_linesTo_18 : decode cX13_linesTo 18 = .ok (.invokevirtual 314, 3) := by decide +kernel
theorem dX13_linesTo_21 : decode cX13_linesTo 21 = .ok (.if_icmp .le 7, 3) := by decide +kernel
theorem dX13_linesTo_24 : decode cX13_linesTo 24 = .ok (.iconst 2, 1) := by decide +kernel
theorem dX13_linesTo_25 : decode cX13_linesTo 25 = .ok (.goto 4, 3) := by decide +kernel
theorem dX13_linesTo_28 : decode cX13_linesTo 28 = .ok (.iconst 0, 1) := by decide +kernel
theorem dX13_linesTo_29 : decode cX13_linesTo 29 = .ok (.putfield 68, 3) := by decide +kernel
theorem dX13_linesTo_32 : decode cX13_linesTo 32 = .ok (.aload_n 0, 1) := by decide +kernel
theorem dX13_linesTo_33 : decode cX13_linesTo 33 = .ok (.getfield 68, 3) := by decide +kernel
theorem dX13_linesTo_36 : decode cX13_linesTo 36 = .ok (.ifCond .le 5, 3) := by decide +kernel
theorem dX13_linesTo_39 : decode cX13_linesTo 39 = .ok (.lconst 0, 1) := by decide +kernel
theorem dX13_linesTo_40 : decode cX13_linesTo 40 = .ok (.lreturn, 1) := by decide +kernel
theorem dX13_linesTo_41 : decode cX13_linesTo 41 = .ok (.aload_n 0, 1) := by decide +kernel
theorem dX13_linesTo_42 : decode cX13_linesTo 42 = .ok (.invokevirtual 181, 3) := by decide +kernel
theorem dX13_linesTo_45 : decode cX13_linesTo 45 = .ok (.iload_n 1, 1) := by decide +kernel
theorem dX13_linesTo_46 : decode cX13_linesTo 46 = .ok (.iconst 2, 1) := by decide +kernel
theorem dX13_linesTo_47 : decode cX13_linesTo 47 = .ok (.if_icmp .ge 19, 3) := by decide +kernel
theorem dX13_linesTo_50 : decode cX13_linesTo 50 = .ok (.iload_n 1, 1) := by decide +kernel
theorem dX13_linesTo_51 : decode cX13_linesTo 51 = .ok (.ifCond .ne 7, 3) := by decide +kernel
theorem dX13_linesTo_54 : decode cX13_linesTo 54 = .ok (.lconst 1, 1) := by decide +kernel
theorem dX13_linesTo_55 : decode cX13_linesTo 55 = .ok (.goto 10, 3) := by decide +kernel
theorem dX13_linesTo_58 : decode cX13_linesTo 58 = .ok (.aload_n 0, 1) := by decide +kernel
theorem dX13_linesTo_59 : decode cX13_linesTo 59 = .ok (.getfield 49, 3) := by decide +kernel
theorem dX13_linesTo_62 : decode cX13_linesTo 62 = .ok (.iconst 0, 1) := by decide +kernel
theorem dX13_linesTo_63 : decode cX13_linesTo 63 = .ok (.iaload, 1) := by decide +kernel
theorem dX13_linesTo_64 : decode cX13_linesTo 64 = .ok (.i2l, 1) := by decide +kernel
theorem dX13_linesTo_65 : decode cX13_linesTo 65 = .ok (.lreturn, 1) := by decide +kernel
theorem dX13_linesTo_66 : decode cX13_linesTo 66 = .ok (.lconst 0, 1) := by decide +kernel
theorem dX13_linesTo_67 : decode cX13_linesTo 67 = .ok (.lstore_n 2, 1) := by decide +kernel
theorem dX13_linesTo_68 : decode cX13_linesTo 68 = .ok (.iconst 0, 1) := by decide +kernel
theorem dX13_linesTo_69 : decode cX13_linesTo 69 = .ok (.istore 4, 2) := by decide +kernel
theorem dX13_linesTo_71 : decode cX13_linesTo 71 = .ok (.aload_n 0, 1) := by decide +kernel
theorem dX13_linesTo_72 : decode cX13_linesTo 72 = .ok (.getfield 52, 3) := by decide +kernel
theorem dX13_linesTo_75 : decode cX13_linesTo 75 = .ok (.iconst 0, 1) := by decide +kernel
theorem dX13_linesTo_76 : decode cX13_linesTo 76 = .ok (.iconst 0, 1) := by decide +kernel
theorem dX13_linesTo_77 : decode cX13_linesTo 77 = .ok (.iastore, 1) := by decide +kernel
theorem dX13_linesTo_78 : decode cX13_linesTo 78 = .ok (.iload 4, 2) := by decide +kernel
theorem dX13_linesTo_80 : decode cX13_linesTo 80 = .ok (.ifCond .lt 110, 3) := by decide +kernel
theorem dX13_linesTo_83 : decode cX13_linesTo 83 = .ok (.iload 4, 2) := by decide +kernel
theorem dX13_linesTo_85 : decode cX13_linesTo 85 = .ok (.iload_n 1, 1) := by decide +kernel
theorem dX13_linesTo_86 : decode cX13_linesTo 86 = .ok (.iconst 1, 1) := by decide +kernel
theorem dX13_linesTo_87 : decode cX13_linesTo 87 = .ok (.isub, 1) := by decide +kernel
theorem dX13_linesTo_88 : decode cX13_linesTo 88 = .ok (.if_icmp .ne 20, 3) := by decide +kernel
theorem dX13_linesTo_91 : decode cX13_linesTo 91 = .ok (.lload_n 2, 1) := by decide +kernel
theorem dX13_linesTo_92 : decode cX13_linesTo 92 = .ok (.aload_n 0, 1) := by decide +kernel
theorem dX13_linesTo_93 : decode cX13_linesTo 93 = .ok (.getfield 49, 3) := by decide +kernel
theorem dX13_linesTo_96 : decode cX13_linesTo 96 = .ok (.iload 4, 2) := by decide +kernel
theorem dX13_linesTo_98 : decode cX13_linesTo 98 = .ok (.iaload, 1) := by decide +kernel
theorem dX13_linesTo_99 : decode cX13_linesTo 99 = .ok (.i2l, 1) := by decide +kernel
theorem dX13_linesTo_100 : decode cX13_linesTo 100 = .ok (.ladd, 1) := by decide +kernel
theorem dX13_linesTo_101 : decode cX13_linesTo 101 = .ok (.lstore_n 2, 1) := by decide +kernel
theorem dX13_linesTo_102 : decode cX13_linesTo 102 = .ok (.iinc 4 (-1), 3) := by decide +kernel
theorem dX13_linesTo_105 : decode cX13_linesTo 105 = .ok (.goto (-27), 3) := by decide +kernel
theorem dX13_linesTo_108 : decode cX13_linesTo 108 = .ok (.aload_n 0, 1) := by decide +kernel
theorem dX13_linesTo_109 : decode cX13_linesTo 109 = .ok (.getfield 52, 3) := by decide +kernel
theorem dX13_linesTo_112 : decode cX13_linesTo 112 = .ok (.iload 4, 2) := by decide +kernel
theorem dX13_linesTo_114 : decode cX13_linesTo 114 = .ok (.iaload, 1) := by decide +kernel
theorem dX13_linesTo_115 : decode cX13_linesTo 115 = .ok (.aload_n 0, 1) := by decide +kernel
theorem dX13_linesTo_116 : decode cX13_linesTo 116 = .ok (.getfield 49, 3) := by decide +kernel
theorem dX13_linesTo_119 : decode cX13_linesTo 119 = .ok (.iload 4, 2) := by decide +kernel
theorem dX13_linesTo_121 : decode cX13_linesTo 121 = .ok (.iaload, 1) := by decide +kernel
theorem dX13_linesTo_122 : decode cX13_linesTo 122 = .ok (.if_icmp .ne 9, 3) := by decide +kernel
theorem dX13_linesTo_125 : decode cX13_linesTo 125 = .ok (.iinc 4 (-1), 3) := by decide +kernel
theorem dX13_linesTo_128 : decode cX13_linesTo 128 = .ok (.goto (-50), 3) := by decide +kernel
theorem dX13_linesTo_131 : decode cX13_linesTo 131 = .ok (.aload_n 0, 1) := by decide +kernel
theorem dX13_linesTo_132 : decode cX13_linesTo 132 = .ok (.bipush 69, 2) := by decide +kernel
theorem dX13_linesTo_134 : decode cX13_linesTo 134 = .ok (.iload 4, 2) := by decide +kernel
theorem dX13_linesTo_136 : decode cX13_linesTo 136 = .ok (.imul, 1) := by decide +kernel
theorem dX13_linesTo_137 : decode cX13_linesTo 137 = .ok (.aload_n 0, 1) := by decide +kernel
theorem dX13_linesTo_138 : decode cX13_linesTo 138 = .ok (.getfield 46, 3) := by decide +kernel
theorem dX13_linesTo_141 : decode cX13_linesTo 141 = .ok (.sipush 330, 3) := by decide +kernel
theorem dX13_linesTo_144 : decode cX13_linesTo 144 = .ok (.iload 4, 2) := by decide +kernel
theorem dX13_linesTo_146 : decode cX13_linesTo 146 = .ok (.imul, 1) := by decide +kernel
theorem dX13_linesTo_147 : decode cX13_linesTo 147 = .ok (.aload_n 0, 1) := by decide +kernel
theorem dX13_linesTo_148 : decode cX13_linesTo 148 = .ok (.getfield 52, 3) := by decide +kernel
theorem dX13_linesTo_151 : decode cX13_linesTo 151 = .ok (.iload 4, 2) := by decide +kernel
theorem dX13_linesTo_153 : decode cX13_linesTo 153 = .ok (.iaload, 1) := by decide +kernel
theorem dX13_linesTo_154 : decode cX13_linesTo 154 = .ok (.iadd, 1) := by decide +kernel
theorem dX13_linesTo_155 : decode cX13_linesTo 155 = .ok (.iaload, 1) := by decide +kernel
theorem dX13_linesTo_156 : decode cX13_linesTo 156 = .ok (.invokevirtual 112, 3) := by decide +kernel
theorem dX13_linesTo_159 : decode cX13_linesTo 159 = .ok (.aload_n 0, 1) := by decide +kernel
theorem dX13_linesTo_160 : decode cX13_linesTo 160 = .ok (.getfield 52, 3) := by decide +kernel
theorem dX13_linesTo_163 : decode cX13_linesTo 163 = .ok (.iload 4, 2) := by decide +kernel
theorem dX13_linesTo_165 : decode cX13_linesTo 165 = .ok (.dup2, 1) := by decide +kernel
theorem dX13_linesTo_166 : decode cX13_linesTo 166 = .ok (.iaload, 1) := by decide +kernel
theorem dX13_linesTo_167 : decode cX13_linesTo 167 = .ok (.iconst 1, 1) := by decide +kernel
theorem dX13_linesTo_168 : decode cX13_linesTo 168 = .ok (.iadd, 1) := by decide +kernel
theorem dX13_linesTo_169 : decode cX13_linesTo 169 = .ok (.iastore, 1) := by decide +kernel
theorem dX13_linesTo_170 : decode cX13_linesTo 170 = .ok (.iinc 4 1, 3) := by decide +kernel
theorem dX13_linesTo_173 : decode cX13_linesTo 173 = .ok (.aload_n 0, 1) := by decide +kernel
theorem dX13_linesTo_174 : decode cX13_linesTo 174 = .ok (.getfield 52, 3) := by decide +kernel
theorem dX13_linesTo_177 : decode cX13_linesTo 177 = .ok (.iload 4, 2) := by decide +kernel
theorem dX13_linesTo_179 : decode cX13_linesTo 179 = .ok (.iconst 0, 1) := by decide +kernel
theorem dX13_linesTo_180 : decode cX13_linesTo 180 = .ok (.iastore, 1) := by decide +kernel
theorem dX13_linesTo_181 : decode cX13_linesTo 181 = .ok (.aload_n 0, 1) := by decide +kernel
theorem dX13_linesTo_182 : decode cX13_linesTo 182 = .ok (.iload 4, 2) := by decide +kernel
theorem dX13_linesTo_184 : decode cX13_linesTo 184 = .ok (.invokevirtual 130, 3) := by decide +kernel
theorem dX13_linesTo_187 : decode cX13_linesTo 187 = .ok (.goto (-109), 3) := by decide +kernel
theorem dX13_linesTo_190 : decode cX13_linesTo 190 = .ok (.lload_n 2, 1) := by decide +kernel
theorem dX13_linesTo_191 : decode cX13_linesTo 191 = .ok (.lreturn, 1) := by decide +kernel
def kX13_linesTo_21 (mc ms : Nat) (X : Nat → zV) (Q : zQt) : zT :=
  zic (fun x y => x ≤ y) (zc (.int 0) <| zj X 29 [0, 1]) <| zj X 24 [0, 1]
def kX13_linesTo_45 (mc ms : Nat) (X : Nat → zV) (Q : zQt) : zT :=
  zli 1 <| zc (.int 2) <| zic (fun x y => y ≤ x) (zc (.long 0) <| zsl 2 <| zc (.int 0) <| zsi 4 <| zla 0 <| zgR 13 19 <| zc (.int 0) <| zc (.int 0) <| zas 1 (fun x => x) <| zj X 78 [0, 1, 2, 4]) <| zli 1 <| zif (fun x => x = 0) (zc (.long 1) <| zj X 65 []) <| zla 0 <| zgR 13 18 <| zc (.int 0) <| zal 1 <| zi2l <| zj X 65 []
def kX13_linesTo_187 (mc ms : Nat) (X : Nat → zV) (Q : zQt) : zT :=
  zj X 78 [0, 1, 2, 4]
def kX13_linesTo_159 (mc ms : Nat) (X : Nat → zV) (Q : zQt) : zT :=
  zla 0 <| zgR 13 19 <| zli 4 <| zdp2 <| zal 1 <| zc (.int 1) <| zii (fun x y => x + y) <| zas 1 (fun x => x) <| zinc 4 1 <| zla 0 <| zgR 13 19 <| zli 4 <| zc (.int 0) <| zas 1 (fun x => x) <| zla 0 <| zli 4 <| zcv mc ms 13 1 wX13_fill <| kX13_linesTo_187 mc ms X Q
def kX13_linesTo_102 (mc ms : Nat) (X : Nat → zV) (Q : zQt) : zT :=
  zinc 4 (-1) <| zj X 78 [0, 1, 2, 4]
def aX13_linesTo_0 (mc ms : Nat) (X : Nat → zV) (Q : zQt) : zT :=
  zla 0 <| zla 0 <| zgi 13 7 <| zif (fun x => x = 0) (zc (.int 1) <| zj X 29 [0, 1]) <| zli 1 <| zif (fun x => x < 0) (zj X 24 [0, 1]) <| zli 1 <| zla 0 <| zcv mc ms 13 0 wX13_deepest <| kX13_linesTo_21 mc ms X Q
def aX13_linesTo_24 (mc ms : Nat) (X : Nat → zV) (Q : zQt) : zT :=
  zc (.int 2) <| zj X 29 [0, 1]
def aX13_linesTo_29 (mc ms : Nat) (X : Nat → zV) (Q : zQt) : zT :=
  zpi 13 0 <| zla 0 <| zgi 13 0 <| zif (fun x => x ≤ 0) (zla 0 <| zcv mc ms 13 0 wX13_show <| kX13_linesTo_45 mc ms X Q) <| zc (.long 0) <| zrl Q
def aX13_linesTo_65 (mc ms : Nat) (X : Nat → zV) (Q : zQt) : zT :=
  zrl Q
def aX13_linesTo_78 (mc ms : Nat) (X : Nat → zV) (Q : zQt) : zT :=
  zli 4 <| zif (fun x => x < 0) (zll 2 <| zrl Q) <| zli 4 <| zli 1 <| zc (.int 1) <| zii (fun x y => x - y) <| zic (fun x y => x = y) (zll 2 <| zla 0 <| zgR 13 18 <| zli 4 <| zal 1 <| zi2l <| zjj (fun x y => x + y) <| zslN 2 <| kX13_linesTo_102 mc ms X Q) <| zla 0 <| zgR 13 19 <| zli 4 <| zal 1 <| zla 0 <| zgR 13 18 <| zli 4 <| zal 1 <| zic (fun x y => x = y) (zinc 4 (-1) <| zj X 78 [0, 1, 2, 4]) <| zla 0 <| zc (.int 69) <| zli 4 <| zii (fun x y => x * y) <| zla 0 <| zgR 13 17 <| zc (.int 330) <| zli 4 <| zii (fun x y => x * y) <| zla 0 <| zgR 13 19 <| zli 4 <| zal 1 <| zii (fun x y => x + y) <| zal 1 <| zcv mc ms 13 2 wX13_make <| kX13_linesTo_159 mc ms X Q
def lvX13_linesTo : Nat → List Nat := fun L => match L with
  | 0 => [0, 1]
  | 24 => [0, 1]
  | 29 => [0, 1]
  | 65 => []
  | 78 => [0, 1, 2, 4]
  | _ => []
def wX13_linesTo : zSp := fun mc ms av M Q => ((zlay av).length ≤ 5 ∧ zpick (zlay av) [0, 1] = some av) ∧ ∀ X : Nat → zV, zin 5 [0, 1] (aX13_linesTo_0 mc ms X Q) X 0 → zin 5 [0, 1] (aX13_linesTo_24 mc ms X Q) X 24 → zin 5 [0, 1] (aX13_linesTo_29 mc ms X Q) X 29 → zin 5 [] (aX13_linesTo_65 mc ms X Q) X 65 → zin 5 [0, 1, 2, 4] (aX13_linesTo_78 mc ms X Q) X 78 → X 0 0 0 av [] M
set_option maxRecDepth 100000 in
set_option maxHeartbeats 4000000 in
theorem sX13_linesTo (l : Launch) (G : zG) : zSnd l G yX13_linesTo cX13_linesTo 5 (some .long) 8 206 wX13_linesTo := by
  refine zmk [0, 1] (by decide) (fun mc ms av M Q h => h.1) ?_
  intro p e R s m args below meth c mc ms av M Q hC hRf hRl hr hnm h lv hlv
  obtain ⟨X, hXe⟩ : ∃ X : Nat → zV, X = fun L u v vs st M => ∀ lv, zpick lv (lvX13_linesTo L) = some vs → zAt p l e R s m args below meth c (MQ below (zQ G Q) args s mc ms (zA G)) G 5 L u v lv st M := ⟨_, rfl⟩
  have hJ : ∀ L, zOk p l e R s m args below meth c (MQ below (zQ G Q) args s mc ms (zA G)) G 5 L (zj X L (lvX13_linesTo L)) := fun L => S_jump (fun u v lv vs st M hp hx => by rw [hXe] at hx; exact hx lv hp)
  have hB0 : zin 5 [0, 1] (aX13_linesTo_0 mc ms X Q) X 0 := by
    intro u v vs st M hb
    rw [hXe]
    refine fun lv hp => S_block (L := 0) (live := [0, 1]) ?_ u v lv vs st M hp hb
    unfold aX13_linesTo_0
    refine S_aload_n (pc := 0) hC dX13_linesTo_0 rfl ?_
    refine S_aload_n (pc := 1) hC dX13_linesTo_1 rfl ?_
    refine S_geti (pc := 2) hC cfX13 (by decide) (Or.inr rfl) wd_1262 dX13_linesTo_2 ?_
    refine S_if_ne (pc := 5) (tgt := 12) hC dX13_linesTo_5 (by decide) ?_ ?_
    · refine S_iload_n (pc := 12) hC dX13_linesTo_12 rfl ?_
      refine S_if_lt (pc := 13) (tgt := 24) hC dX13_linesTo_13 (by decide) ?_ ?_
      · exact hJ 24
      · refine S_iload_n (pc := 16) hC dX13_linesTo_16 rfl ?_
        refine S_aload_n (pc := 17) hC dX13_linesTo_17 rfl ?_
        refine S_callV (pc := 18) hC (sX13_deepest l G) rfl wd_1641 wd_1643 ws_109 wd_12 wd_1644 (by decide +kernel) ⟨by rw [hRf]; decide, by rw [hRl]; decide⟩ dX13_linesTo_18 ?_
        unfold kX13_linesTo_21
        refine S_icmp_le (pc := 21) (tgt := 28) hC dX13_linesTo_21 (by decide) ?_ ?_
        · refine S_iconst (pc := 28) hC dX13_linesTo_28 (by decide) ?_
          exact hJ 29
        · exact hJ 24
    · refine S_iconst (pc := 8) hC dX13_linesTo_8 (by decide) ?_
      refine S_goto (pc := 9) (tgt := 29) hC dX13_linesTo_9 (by decide) ?_
      exact hJ 29
  have hB24 : zin 5 [0, 1] (aX13_linesTo_24 mc ms X Q) X 24 := by
    intro u v vs st M hb
    rw [hXe]
    refine fun lv hp => S_block (L := 24) (live := [0, 1]) ?_ u v lv vs st M hp hb
    unfold aX13_linesTo_24
    refine S_iconst (pc := 24) hC dX13_linesTo_24 (by decide) ?_
    refine S_goto (pc := 25) (tgt := 29) hC dX13_linesTo_25 (by decide) ?_
    exact hJ 29
  have hB29 : zin 5 [0, 1] (aX13_linesTo_29 mc ms X Q) X 29 := by
    intro u v vs st M hb
    rw [hXe]
    refine fun lv hp => S_block (L := 29) (live := [0, 1]) ?_ u v lv vs st M hp hb
    unfold aX13_linesTo_29
    refine S_puti (pc := 29) hC cfX13 (by decide) rfl (Or.inl rfl) wd_1255 dX13_linesTo_29 ?_
    refine S_aload_n (pc := 32) hC dX13_linesTo_32 rfl ?_
    refine S_geti (pc := 33) hC cfX13 (by decide) (Or.inl rfl) wd_1255 dX13_linesTo_33 ?_
    refine S_if_le (pc := 36) (tgt := 41) hC dX13_linesTo_36 (by decide) ?_ ?_
    · refine S_aload_n (pc := 41) hC dX13_linesTo_41 rfl ?_
      refine S_callV (pc := 42) hC (sX13_show l G) rfl wd_1585 wd_1587 ws_103 wd_12 wd_1588 (by decide +kernel) ⟨by rw [hRf]; decide, by rw [hRl]; decide⟩ dX13_linesTo_42 ?_
      unfold kX13_linesTo_45
      refine S_iload_n (pc := 45) hC dX13_linesTo_45 rfl ?_
      refine S_iconst (pc := 46) hC dX13_linesTo_46 (by decide) ?_
      refine S_icmp_ge (pc := 47) (tgt := 66) hC dX13_linesTo_47 (by decide) ?_ ?_
      · refine S_lconst (pc := 66) hC dX13_linesTo_66 (by decide) ?_
        refine S_lstore_n (pc := 67) hC dX13_linesTo_67 rfl (by decide) ?_
        refine S_iconst (pc := 68) hC dX13_linesTo_68 (by decide) ?_
        refine S_istore (pc := 69) hC dX13_linesTo_69 (by decide) ?_
        refine S_aload_n (pc := 71) hC dX13_linesTo_71 rfl ?_
        refine S_getR (pc := 72) hC cfX13 (by decide) (Or.inr ⟨_, rfl⟩) wd_1274 dX13_linesTo_72 ?_
        refine S_iconst (pc := 75) hC dX13_linesTo_75 (by decide) ?_
        refine S_iconst (pc := 76) hC dX13_linesTo_76 (by decide) ?_
        refine S_iastore (pc := 77) hC dX13_linesTo_77 ?_
        exact hJ 78
      · refine S_iload_n (pc := 50) hC dX13_linesTo_50 rfl ?_
        refine S_if_ne (pc := 51) (tgt := 58) hC dX13_linesTo_51 (by decide) ?_ ?_
        · refine S_aload_n (pc := 58) hC dX13_linesTo_58 rfl ?_
          refine S_getR (pc := 59) hC cfX13 (by decide) (Or.inr ⟨_, rfl⟩) wd_1273 dX13_linesTo_59 ?_
          refine S_iconst (pc := 62) hC dX13_linesTo_62 (by decide) ?_
          refine S_iaload (pc := 63) hC dX13_linesTo_63 ?_
          refine S_i2l (pc := 64) hC dX13_linesTo_64 ?_
          exact hJ 65
        · refine S_lconst (pc := 54) hC dX13_linesTo_54 (by decide) ?_
          refine S_goto (pc := 55) (tgt := 65) hC dX13_linesTo_55 (by decide) ?_
          exact hJ 65
    · refine S_lconst (pc := 39) hC dX13_linesTo_39 (by decide) ?_
      exact S_lreturn (pc := 40) hC hr dX13_linesTo_40
  have hB65 : zin 5 [] (aX13_linesTo_65 mc ms X Q) X 65 := by
    intro u v vs st M hb
    rw [hXe]
    refine fun lv hp => S_block (L := 65) (live := []) ?_ u v lv vs st M hp hb
    unfold aX13_linesTo_65
    exact S_lreturn (pc := 65) hC hr dX13_linesTo_65
  have hB78 : zin 5 [0, 1, 2, 4] (aX13_linesTo_78 mc ms X Q) X 78 := by
    intro u v vs st M hb
    rw [hXe]
    refine fun lv hp => S_block (L := 78) (live := [0, 1, 2, 4]) ?_ u v lv vs st M hp hb
    unfold aX13_linesTo_78
    refine S_iload (pc := 78) hC dX13_linesTo_78 ?_
    refine S_if_lt (pc := 80) (tgt := 190) hC dX13_linesTo_80 (by decide) ?_ ?_
    · refine S_lload_n (pc := 190) hC dX13_linesTo_190 rfl ?_
      exact S_lreturn (pc := 191) hC hr dX13_linesTo_191
    · refine S_iload (pc := 83) hC dX13_linesTo_83 ?_
      refine S_iload_n (pc := 85) hC dX13_linesTo_85 rfl ?_
      refine S_iconst (pc := 86) hC dX13_linesTo_86 (by decide) ?_
      refine S_isub (pc := 87) hC dX13_linesTo_87 ?_
      refine S_icmp_ne (pc := 88) (tgt := 108) hC dX13_linesTo_88 (by decide) ?_ ?_
      · refine S_aload_n (pc := 108) hC dX13_linesTo_108 rfl ?_
        refine S_getR (pc := 109) hC cfX13 (by decide) (Or.inr ⟨_, rfl⟩) wd_1274 dX13_linesTo_109 ?_
        refine S_iload (pc := 112) hC dX13_linesTo_112 ?_
        refine S_iaload (pc := 114) hC dX13_linesTo_114 ?_
        refine S_aload_n (pc := 115) hC dX13_linesTo_115 rfl ?_
        refine S_getR (pc := 116) hC cfX13 (by decide) (Or.inr ⟨_, rfl⟩) wd_1273 dX13_linesTo_116 ?_
        refine S_iload (pc := 119) hC dX13_linesTo_119 ?_
        refine S_iaload (pc := 121) hC dX13_linesTo_121 ?_
        refine S_icmp_ne (pc := 122) (tgt := 131) hC dX13_linesTo_122 (by decide) ?_ ?_
        · refine S_aload_n (pc := 131) hC dX13_linesTo_131 rfl ?_
          refine S_bipush (pc := 132) hC dX13_linesTo_132 (by decide) ?_
          refine S_iload (pc := 134) hC dX13_linesTo_134 ?_
          refine S_imul (pc := 136) hC dX13_linesTo_136 ?_
          refine S_aload_n (pc := 137) hC dX13_linesTo_137 rfl ?_
          refine S_getR (pc := 138) hC cfX13 (by decide) (Or.inr ⟨_, rfl⟩) wd_1272 dX13_linesTo_138 ?_
          refine S_sipush (pc := 141) hC dX13_linesTo_141 (by decide) ?_
          refine S_iload (pc := 144) hC dX13_linesTo_144 ?_
          refine S_imul (pc := 146) hC dX13_linesTo_146 ?_
          refine S_aload_n (pc := 147) hC dX13_linesTo_147 rfl ?_
          refine S_getR (pc := 148) hC cfX13 (by decide) (Or.inr ⟨_, rfl⟩) wd_1274 dX13_linesTo_148 ?_
          refine S_iload (pc := 151) hC dX13_linesTo_151 ?_
          refine S_iaload (pc := 153) hC dX13_linesTo_153 ?_
          refine S_iadd (pc := 154) hC dX13_linesTo_154 ?_
          refine S_iaload (pc := 155) hC dX13_linesTo_155 ?_
          refine S_callV (pc := 156) hC (sX13_make l G) rfl wd_1471 wd_1473 ws_79 wd_12 wd_1474 (by decide +kernel) ⟨by rw [hRf]; decide, by rw [hRl]; decide⟩ dX13_linesTo_156 ?_
          unfold kX13_linesTo_159
          refine S_aload_n (pc := 159) hC dX13_linesTo_159 rfl ?_
          refine S_getR (pc := 160) hC cfX13 (by decide) (Or.inr ⟨_, rfl⟩) wd_1274 dX13_linesTo_160 ?_
          refine S_iload (pc := 163) hC dX13_linesTo_163 ?_
          refine S_dup2 (pc := 165) hC dX13_linesTo_165 ?_
          refine S_iaload (pc := 166) hC dX13_linesTo_166 ?_
          refine S_iconst (pc := 167) hC dX13_linesTo_167 (by decide) ?_
          refine S_iadd (pc := 168) hC dX13_linesTo_168 ?_
          refine S_iastore (pc := 169) hC dX13_linesTo_169 ?_
          refine S_iinc (pc := 170) hC dX13_linesTo_170 (by decide) (by decide) ?_
          refine S_aload_n (pc := 173) hC dX13_linesTo_173 rfl ?_
          refine S_getR (pc := 174) hC cfX13 (by decide) (Or.inr ⟨_, rfl⟩) wd_1274 dX13_linesTo_174 ?_
          refine S_iload (pc := 177) hC dX13_linesTo_177 ?_
          refine S_iconst (pc := 179) hC dX13_linesTo_179 (by decide) ?_
          refine S_iastore (pc := 180) hC dX13_linesTo_180 ?_
          refine S_aload_n (pc := 181) hC dX13_linesTo_181 rfl ?_
          refine S_iload (pc := 182) hC dX13_linesTo_182 ?_
          refine S_callV (pc := 184) hC (sX13_fill l G) rfl wd_1443 wd_1445 ws_72 wd_12 wd_1446 (by decide +kernel) ⟨by rw [hRf]; decide, by rw [hRl]; decide⟩ dX13_linesTo_184 ?_
          unfold kX13_linesTo_187
          refine S_goto (pc := 187) (tgt := 78) hC dX13_linesTo_187 (by decide) ?_
          exact hJ 78
        · refine S_iinc (pc := 125) hC dX13_linesTo_125 (by decide) (by decide) ?_
          refine S_goto (pc := 128) (tgt := 78) hC dX13_linesTo_128 (by decide) ?_
          exact hJ 78
      · refine S_lload_n (pc := 91) hC dX13_linesTo_91 rfl ?_
        refine S_aload_n (pc := 92) hC dX13_linesTo_92 rfl ?_
        refine S_getR (pc := 93) hC cfX13 (by decide) (Or.inr ⟨_, rfl⟩) wd_1273 dX13_linesTo_93 ?_
        refine S_iload (pc := 96) hC dX13_linesTo_96 ?_
        refine S_iaload (pc := 98) hC dX13_linesTo_98 ?_
        refine S_i2l (pc := 99) hC dX13_linesTo_99 ?_
        refine S_ladd (pc := 100) hC dX13_linesTo_100 ?_
        refine S_lstore_n_N (pc := 101) hC dX13_linesTo_101 rfl (by decide) ?_
        unfold kX13_linesTo_102
        refine S_iinc (pc := 102) hC dX13_linesTo_102 (by decide) (by decide) ?_
        refine S_goto (pc := 105) (tgt := 78) hC dX13_linesTo_105 (by decide) ?_
        exact hJ 78
  have := h.2 X hB0 hB24 hB29 hB65 hB78
  rw [hXe] at this
  exact this lv hlv
theorem vX13_linesTo_0 {mc ms : Nat} {X : Nat → zV} {Q : zQt} {M : zM} {x1 : Int32} (hW : zFix M)  (h : ((M.1 55 7) = 0 → X 29 0 0 [.ref 55, .int x1] [.int 1, .ref 55] M) ∧ (¬ (M.1 55 7) = 0 → (x1 < 0 → X 24 0 0 [.ref 55, .int x1] [.ref 55] M) ∧ (¬ x1 < 0 → wX13_deepest 0 0 [.ref 55] M (fun r M1 => kX13_linesTo_21 mc ms X Q 0 0 [some (.ref 55), some (.int x1), none, none, none] (r.toList ++ [.int x1, .ref 55]) M1)))) : aX13_linesTo_0 mc ms X Q 0 0 [some (.ref 55), some (.int x1), none, none, none] [] M := ⟨(fxs_55 hW), ⟨fun c5 => (h.1 c5), fun c5 => ⟨fun c13 => ((h.2 c5).1 c13), fun c13 => ⟨Nat.le_of_ble_eq_true rfl, rfl, (fxs_55 hW), 0, 0, Nat.zero_le _, Nat.zero_le _, ((h.2 c5).2 c13)⟩⟩⟩⟩
theorem vX13_linesTo_24 {mc ms : Nat} {X : Nat → zV} {Q : zQt} {M : zM} {x1 : Int32} (hW : zFix M)  (h : X 29 0 0 [.ref 55, .int x1] [.int 2, .ref 55] M) : aX13_linesTo_24 mc ms X Q 0 0 [some (.ref 55), some (.int x1), none, none, none] [.ref 55] M := h
theorem vX13_linesTo_29 {mc ms : Nat} {X : Nat → zV} {Q : zQt} {M : zM} {x1 : Int32} {s0 : Int32} (hW : zFix M)  (h : ∀ M29 : zM, M29 = (zsI M 55 0 s0) → ((M29.1 55 0) ≤ 0 → wX13_show 0 0 [.ref 55] M29 (fun r M1 => kX13_linesTo_45 mc ms X Q 0 0 [some (.ref 55), some (.int x1), none, none, none] (r.toList ++ []) M1)) ∧ (¬ (M29.1 55 0) ≤ 0 → Q (some (.long 0)) M29)) : aX13_linesTo_29 mc ms X Q 0 0 [some (.ref 55), some (.int x1), none, none, none] [.int s0, .ref 55] M := ⟨(fxs_55 hW), (have h29 := h _ rfl; ⟨(fxs_55 hW), ⟨fun c36 => ⟨Nat.le_of_ble_eq_true rfl, rfl, (fxs_55 hW), 0, 0, Nat.zero_le _, Nat.zero_le _, (h29.1 c36)⟩, fun c36 => (h29.2 c36)⟩⟩)⟩
theorem vX13_linesTo_65 {mc ms : Nat} {X : Nat → zV} {Q : zQt} {M : zM} {s0 : Int64} (hW : zFix M)  (h : Q (some (.long s0)) M) : aX13_linesTo_65 mc ms X Q 0 0 [none, none, none, none, none] [.long s0] M := h
theorem vcX13_linesTo_102 {mc ms : Nat} {X : Nat → zV} {Q : zQt} {M : zM} {x1 : Int32} {x2 : Int64} {x4 : Int32} (hW : zFix M)  (h : X 78 0 0 [.ref 55, .int x1, .long x2, .int (x4 + (-1))] [] M) : kX13_linesTo_102 mc ms X Q 0 0 [some (.ref 55), some (.int x1), some (.long x2), none, some (.int x4)] [] M := h
theorem vX13_linesTo_78 {mc ms : Nat} {X : Nat → zV} {Q : zQt} {M : zM} {x1 : Int32} {x2 : Int64} {x4 : Int32} (hW : zFix M)  (h : (x4 < 0 → Q (some (.long x2)) M) ∧ (¬ x4 < 0 → (x4 = (x1 - (1 : Int32)) → vp_in x4 6 ∧ ∀ y101 : Int64, y101 = (x2 + (((M : zM).1 67 (x4 : Int32).toNatClampNeg) : Int32).toInt64) → X 78 0 0 [.ref 55, .int x1, .long y101, .int (x4 + (-1))] [] M) ∧ (¬ x4 = (x1 - (1 : Int32)) → vp_in x4 6 ∧ vp_in x4 6 ∧ (((M : zM).1 68 (x4 : Int32).toNatClampNeg) = ((M : zM).1 67 (x4 : Int32).toNatClampNeg) → X 78 0 0 [.ref 55, .int x1, .long x2, .int (x4 + (-1))] [] M) ∧ (¬ ((M : zM).1 68 (x4 : Int32).toNatClampNeg) = ((M : zM).1 67 (x4 : Int32).toNatClampNeg) → vp_in x4 6 ∧ vp_in ((((330 : Int32) * x4) + ((M : zM).1 68 (x4 : Int32).toNatClampNeg))) 1980 ∧ wX13_make 0 0 [.ref 55, .int ((69 : Int32) * x4), .int ((M : zM).1 66 ((((330 : Int32) * x4) + ((M : zM).1 68 (x4 : Int32).toNatClampNeg)) : Int32).toNatClampNeg)] M (fun r M1 => kX13_linesTo_159 mc ms X Q 0 0 [some (.ref 55), some (.int x1), some (.long x2), none, some (.int x4)] (r.toList ++ []) M1))))) : aX13_linesTo_78 mc ms X Q 0 0 [some (.ref 55), some (.int x1), some (.long x2), none, some (.int x4)] [] M := ⟨fun c80 => (h.1 c80), fun c80 => ⟨fun c88 => ⟨(fxs_55 hW), 67, (fxr_55_18 hW), ⟨6, (fxs_67 hW), ((h.2 c80).1 c88).1, (fun y101 e101 => have h101 := ((h.2 c80).1 c88).2 y101 e101; (vcX13_linesTo_102 hW  h101))⟩⟩, fun c88 => ⟨(fxs_55 hW), 68, (fxr_55_19 hW), ⟨6, (fxs_68 hW), ((h.2 c80).2 c88).1, ⟨(fxs_55 hW), 67, (fxr_55_18 hW), ⟨6, (fxs_67 hW), ((h.2 c80).2 c88).2.1, ⟨fun c122 => (((h.2 c80).2 c88).2.2.1 c122), fun c122 => ⟨(fxs_55 hW), 66, (fxr_55_17 hW), ⟨(fxs_55 hW), 68, (fxr_55_19 hW), ⟨6, (fxs_68 hW), (((h.2 c80).2 c88).2.2.2 c122).1, ⟨1980, (fxs_66 hW), (((h.2 c80).2 c88).2.2.2 c122).2.1, ⟨Nat.le_of_ble_eq_true rfl, rfl, (fxs_55 hW), 0, 0, Nat.zero_le _, Nat.zero_le _, (((h.2 c80).2 c88).2.2.2 c122).2.2⟩⟩⟩⟩⟩⟩⟩⟩⟩⟩⟩⟩
theorem vkX13_linesTo_21 {mc ms : Nat} {X : Nat → zV} {Q : zQt} {M : zM} {x1 : Int32} {s0 : Int32} {s1 : Int32} (hW : zFix M)  (h : (s1 ≤ s0 → X 29 0 0 [.ref 55, .int x1] [.int 0, .ref 55] M) ∧ (¬ s1 ≤ s0 → X 24 0 0 [.ref 55, .int x1] [.ref 55] M)) : kX13_linesTo_21 mc ms X Q 0 0 [some (.ref 55), some (.int x1), none, none, none] [.int s0, .int s1, .ref 55] M := ⟨fun c21 => (h.1 c21), fun c21 => (h.2 c21)⟩
theorem vkX13_linesTo_45 {mc ms : Nat} {X : Nat → zV} {Q : zQt} {M : zM} {x1 : Int32} (hW : zFix M)  (h : ((2 : Int32) ≤ x1 → ∀ M77 : zM, M77 = (zsI M 68 (0 : Int32).toNatClampNeg 0) → X 78 0 0 [.ref 55, .int x1, .long 0, .int 0] [] M77) ∧ (¬ (2 : Int32) ≤ x1 → (x1 = 0 → X 65 0 0 [] [.long 1] M) ∧ (¬ x1 = 0 → X 65 0 0 [] [.long (((M : zM).1 67 (0 : Int32).toNatClampNeg) : Int32).toInt64] M))) : kX13_linesTo_45 mc ms X Q 0 0 [some (.ref 55), some (.int x1), none, none, none] [] M := ⟨fun c47 => ⟨(fxs_55 hW), 68, (fxr_55_19 hW), ⟨6, (fxs_68 hW), by unfold vp_in; decide, (have h77 := (h.1 c47) _ rfl; h77)⟩⟩, fun c47 => ⟨fun c51 => ((h.2 c47).1 c51), fun c51 => ⟨(fxs_55 hW), 67, (fxr_55_18 hW), ⟨6, (fxs_67 hW), by unfold vp_in; decide, ((h.2 c47).2 c51)⟩⟩⟩⟩
theorem vkX13_linesTo_159 {mc ms : Nat} {X : Nat → zV} {Q : zQt} {M : zM} {x1 : Int32} {x2 : Int64} {x4 : Int32} (hW : zFix M)  (h : vp_in x4 6 ∧ vp_in x4 6 ∧ ∀ M169 : zM, M169 = (zsI M 68 (x4 : Int32).toNatClampNeg ((((M : zM).1 68 (x4 : Int32).toNatClampNeg) + (1 : Int32)))) → vp_in ((x4 + 1)) 6 ∧ ∀ M180 : zM, M180 = (zsI M169 68 ((x4 + 1) : Int32).toNatClampNeg 0) → wX13_fill 0 0 [.ref 55, .int (x4 + 1)] M180 (fun r M1 => kX13_linesTo_187 mc ms X Q 0 0 [some (.ref 55), some (.int x1), some (.long x2), none, some (.int (x4 + 1))] (r.toList ++ []) M1)) : kX13_linesTo_159 mc ms X Q 0 0 [some (.ref 55), some (.int x1), some (.long x2), none, some (.int x4)] [] M := ⟨(fxs_55 hW), 68, (fxr_55_19 hW), ⟨6, (fxs_68 hW), h.1, ⟨6, (fxs_68 hW), h.2.1, (have h169 := h.2.2 _ rfl; ⟨(fxs_55 hW), 68, (fxr_55_19 hW), ⟨6, (fxs_68 hW), h169.1, (have h180 := h169.2 _ rfl; ⟨Nat.le_of_ble_eq_true rfl, rfl, (fxs_55 hW), 0, 0, Nat.zero_le _, Nat.zero_le _, h180⟩)⟩⟩)⟩⟩⟩
theorem vkX13_linesTo_187 {mc ms : Nat} {X : Nat → zV} {Q : zQt} {M : zM} {x1 : Int32} {x2 : Int64} {x4 : Int32} (hW : zFix M)  (h : X 78 0 0 [.ref 55, .int x1, .long x2, .int x4] [] M) : kX13_linesTo_187 mc ms X Q 0 0 [some (.ref 55), some (.int x1), some (.long x2), none, some (.int x4)] [] M := h
theorem dX13_material_0 : decode cX13_material 0 = .ok (.bipush 69, 2) := by decide +kernel
theorem dX13_material_2 : decode cX13_material 2 = .ok (.iload_n 1, 1) := by decide +kernel
theorem dX13_material_3 : decode cX13_material 3 = .ok (.imul, 1) := by decide +kernel
theorem dX13_material_4 : decode cX13_material 4 = .ok (.istore_n 2, 1) := by decide +kernel
theorem dX13_material_5 : decode cX13_material 5 = .ok (.iconst 0, 1) := by decide +kernel
theorem dX13_material_6 : decode cX13_material 6 = .ok (.istore_n 3, 1) := by decide +kernel
theorem dX13_material_7 : decode cX13_material 7 = .ok (.iconst 0, 1) := by decide +kernel
theorem dX13_material_8 : decode cX13_material 8 = .ok (.istore 4, 2) := by decide +kernel
theorem dX13_material_10 : decode cX13_material 10 = .ok (.iload 4, 2) := by decide +kernel
theorem dX13_material_12 : decode cX13_material 12 = .ok (.bipush 64, 2) := by decide +kernel
theorem dX13_material_14 : decode cX13_material 14 = .ok (.if_icmp .ge 108, 3) := by decide +kernel
theorem dX13_material_17 : decode cX13_material 17 = .ok (.aload_n 0, 1) := by decide +kernel
theorem dX13_material_18 : decode cX13_material 18 = .ok (.getfield 43, 3) := by decide +kernel
theorem dX13_material_21 : decode cX13_material 21 = .ok (.iload_n 2, 1) := by decide +kernel
theorem dX13_material_22 : decode cX13_material 22 = .ok (.iload 4, 2) := by decide +kernel
theorem dX13_material_24 : decode cX13_material 24 = .ok (.iadd, 1) := by decide +kernel
theorem dX13_material_25 : decode cX13_material 25 = .ok (.iaload, 1) := by decide +kernel
theorem dX13_material_26 : decode cX13_material 26 = .ok (.invokestatic 71, 3) := by decide +kernel
theorem dX13_material_29 : decode cX13_material 29 = .ok (.istore 5, 2) := by decide +kernel
theorem dX13_material_31 : decode cX13_material 31 = .ok (.iload 5, 2) := by decide +kernel
theorem dX13_material_33 : decode cX13_material 33 = .ok (.iconst 1, 1) := by decide +kernel
theorem dX13_material_34 : decode cX13_material 34 = .ok (.if_icmp .ne 7, 3) := by decide +kernel
theorem dX13_material_37 : decode cX13_material 37 = .ok (.iconst 1, 1) := by decide +kernel
theorem dX13_material_38 : decode cX13_material 38 = .ok (.goto 41, 3) := by decide +kernel
theorem dX13_material_41 : decode cX13_material 41 = .ok (.iload 5, 2) := by decide +kernel
theorem dX13_material_43 : decode cX13_material 43 = .ok (.iconst 2, 1) := by decide +kernel
theorem dX13_material_44 : decode cX13_material 44 = .ok (.if_icmp .eq 9, 3) := by decide +kernel
theorem dX13_material_47 : decode cX13_material 47 = .ok (.iload 5, 2) := by decide +kernel
theorem dX13_material_49 : decode cX13_material 49 = .ok (.iconst 3, 1) := by decide +kernel
theorem dX13_material_50 : decode cX13_material 50 = .ok (.if_icmp .ne 7, 3) := by decide +kernel
theorem dX13_material_53 : decode cX13_material 53 = .ok (.iconst 3, 1) := by decide +kernel
theorem dX13_material_54 : decode cX13_material 54 = .ok (.goto 25, 3) := by decide +kernel
theorem dX13_material_57 : decode cX13_material 57 = .ok (.iload 5, 2) := by decide +kernel
theorem dX13_material_59 : decode cX13_material 59 = .ok (.iconst 4, 1) := by decide +kernel
theorem dX13_material_60 : decode cX13_material 60 = .ok (.if_icmp .ne 7, 3) := by decide +kernel
theorem dX13_material_63 : decode cX13_material 63 = .ok (.iconst 5, 1) := by decide +kernel
theorem dX13_material_64 : decode cX13_material 64 = .ok (.goto 15, 3) := by decide +kernel
theorem dX13_material_67 : decode cX13_material 67 = .ok (.iload 5, 2) := by decide +kernel
theorem dX13_material_69 : decode cX13_material 69 = .ok (.iconst 5, 1) := by decide +kernel
theorem dX13_material_70 : decode cX13_material 70 = .ok (.if_icmp .ne 8, 3) := by decide +kernel
theorem dX13_material_73 : decode cX13_material 73 = .ok (.bipush 9, 2) := by decide +kernel
theorem dX13_material_75 : decode cX13_material 75 = .ok (.goto 4, 3) := by decide +kernel
theorem dX13_material_78 : decode cX13_material 78 = .ok (.iconst 0, 1) := by decide +kernel
theorem dX13_material_79 : decode cX13_material 79 = .ok (.istore 6, 2) := by decide +kernel
theorem dX13_material_81 : decode cX13_material 81 = .ok (.iload_n 3, 1) := by decide +kernel
theorem dX13_material_82 : decode cX13_material 82 = .ok (.aload_n 0, 1) := by decide +kernel
theorem dX13_material_83 : decode cX13_material 83 = .ok (.getfield 43, 3) := by decide +kernel
theorem dX13_material_86 : decode cX13_material 86 = .ok (.iload_n 2, 1) := by decide +kernel
theorem dX13_material_87 : decode cX13_material 87 = .ok (.iload 4, 2) := by decide +kernel
theorem dX13_material_89 : decode cX13_material 89 = .ok (.iadd, 1) := by decide +kernel
theorem dX13_material_90 : decode cX13_material 90 = .ok (.iaload, 1) := by decide +kernel
theorem dX13_material_91 : decode cX13_material 91 = .ok (.invokestatic 78, 3) := by decide +kernel
theorem dX13_material_94 : decode cX13_material 94 = .ok (.aload_n 0, 1) := by decide +kernel
theorem dX13_material_95 : decode cX13_material 95 = .ok (.getfield 43, 3) := by decide +kernel
theorem dX13_material_98 : decode cX13_material 98 = .ok (.iload_n 2, 1) := by decide +kernel
theorem dX13_material_99 : decode cX13_material 99 = .ok (.bipush 64, 2) := by decide +kernel
theorem dX13_material_101 : decode cX13_material 101 = .ok (.iadd, 1) := by decide +kernel
theorem dX13_material_102 : decode cX13_material 102 = .ok (.iaload, 1) := by decide +kernel
theorem dX13_material_103 : decode cX13_material 103 = .ok (.if_icmp .ne 8, 3) := by decide +kernel
theorem dX13_material_106 : decode cX13_material 106 = .ok (.iload 6, 2) := by decide +kernel
theorem dX13_material_108 : decode cX13_material 108 = .ok (.goto 6, 3) := by decide +kernel
theorem dX13_material_111 : decode cX13_material 111 = .ok (.iload 6, 2) := by decide +kernel
theorem dX13_material_113 : decode cX13_material 113 = .ok (.ineg, 1) := by decide +kernel
theorem dX13_material_114 : decode cX13_material 114 = .ok (.iadd, 1) := by decide +kernel
theorem dX13_material_115 : decode cX13_material 115 = .ok (.istore_n 3, 1) := by decide +kernel
theorem dX13_material_116 : decode cX13_material 116 = .ok (.iinc 4 1, 3) := by decide +kernel
theorem dX13_material_119 : decode cX13_material 119 = .ok (.goto (-109), 3) := by decide +kernel
theorem dX13_material_122 : decode cX13_material 122 = .ok (.iload_n 3, 1) := by decide +kernel
theorem dX13_material_123 : decode cX13_material 123 = .ok (.ireturn, 1) := by decide +kernel
def kX13_material_29 (mc ms : Nat) (X : Nat → zV) (Q : zQt) : zT :=
  zsi 5 <| zli 5 <| zc (.int 1) <| zic (fun x y => x = y) (zc (.int 1) <| zj X 79 [0, 2, 3, 4]) <| zli 5 <| zc (.int 2) <| zic (fun x y => x = y) (zj X 53 [0, 2, 3, 4]) <| zli 5 <| zc (.int 3) <| zic (fun x y => x = y) (zj X 53 [0, 2, 3, 4]) <| zli 5 <| zc (.int 4) <| zic (fun x y => x = y) (zc (.int 5) <| zj X 79 [0, 2, 3, 4]) <| zli 5 <| zc (.int 5) <| zic (fun x y => x = y) (zc (.int 9) <| zj X 79 [0, 2, 3, 4]) <| zc (.int 0) <| zj X 79 [0, 2, 3, 4]
def kX13_material_94 (mc ms : Nat) (X : Nat → zV) (Q : zQt) : zT :=
  zla 0 <| zgR 13 16 <| zli 2 <| zc (.int 64) <| zii (fun x y => x + y) <| zal 1 <| zic (fun x y => x = y) (zli 6 <| zj X 114 [0, 2, 4]) <| zli 6 <| zi1 (fun x => -x) <| zj X 114 [0, 2, 4]
def aX13_material_0 (mc ms : Nat) (X : Nat → zV) (Q : zQt) : zT :=
  zc (.int 69) <| zli 1 <| zii (fun x y => x * y) <| zsi 2 <| zc (.int 0) <| zsi 3 <| zc (.int 0) <| zsi 4 <| zj X 10 [0, 2, 3, 4]
def aX13_material_10 (mc ms : Nat) (X : Nat → zV) (Q : zQt) : zT :=
  zli 4 <| zc (.int 64) <| zic (fun x y => y ≤ x) (zli 3 <| zri Q) <| zla 0 <| zgR 13 16 <| zli 2 <| zli 4 <| zii (fun x y => x + y) <| zal 1 <| zcs mc ms 1 wX13_kindOf <| kX13_material_29 mc ms X Q
def aX13_material_53 (mc ms : Nat) (X : Nat → zV) (Q : zQt) : zT :=
  zc (.int 3) <| zj X 79 [0, 2, 3, 4]
def aX13_material_79 (mc ms : Nat) (X : Nat → zV) (Q : zQt) : zT :=
  zsi 6 <| zli 3 <| zla 0 <| zgR 13 16 <| zli 2 <| zli 4 <| zii (fun x y => x + y) <| zal 1 <| zcs mc ms 1 wX13_sideOf <| kX13_material_94 mc ms X Q
def aX13_material_114 (mc ms : Nat) (X : Nat → zV) (Q : zQt) : zT :=
  zii (fun x y => x + y) <| zsi 3 <| zinc 4 1 <| zj X 10 [0, 2, 3, 4]
def lvX13_material : Nat → List Nat := fun L => match L with
  | 0 => [0, 1]
  | 10 => [0, 2, 3, 4]
  | 53 => [0, 2, 3, 4]
  | 79 => [0, 2, 3, 4]
  | 114 => [0, 2, 4]
  | _ => []
def wX13_material : zSp := fun mc ms av M Q => ((zlay av).length ≤ 7 ∧ zpick (zlay av) [0, 1] = some av) ∧ ∀ X : Nat → zV, zin 7 [0, 1] (aX13_material_0 mc ms X Q) X 0 → zin 7 [0, 2, 3, 4] (aX13_material_10 mc ms X Q) X 10 → zin 7 [0, 2, 3, 4] (aX13_material_53 mc ms X Q) X 53 → zin 7 [0, 2, 3, 4] (aX13_material_79 mc ms X Q) X 79 → zin 7 [0, 2, 4] (aX13_material_114 mc ms X Q) X 114 → X 0 0 0 av [] M
set_option maxRecDepth 100000 in
set_option maxHeartbeats 4000000 in
theorem sX13_material (l : Launch) (G : zG) : zSnd l G yX13_material cX13_material 7 (some .int) 1 20 wX13_material := by
  refine zmk [0, 1] (by decide) (fun mc ms av M Q h => h.1) ?_
  intro p e R s m args below meth c mc ms av M Q hC hRf hRl hr hnm h lv hlv
  obtain ⟨X, hXe⟩ : ∃ X : Nat → zV, X = fun L u v vs st M => ∀ lv, zpick lv (lvX13_material L) = some vs → zAt p l e R s m args below meth c (MQ below (zQ G Q) args s mc ms (zA G)) G 7 L u v lv st M := ⟨_, rfl⟩
  have hJ : ∀ L, zOk p l e R s m args below meth c (MQ below (zQ G Q) args s mc ms (zA G)) G 7 L (zj X L (lvX13_material L)) := fun L => S_jump (fun u v lv vs st M hp hx => by rw [hXe] at hx; exact hx lv hp)
  have hB0 : zin 7 [0, 1] (aX13_material_0 mc ms X Q) X 0 := by
    intro u v vs st M hb
    rw [hXe]
    refine fun lv hp => S_block (L := 0) (live := [0, 1]) ?_ u v lv vs st M hp hb
    unfold aX13_material_0
    refine S_bipush (pc := 0) hC dX13_material_0 (by decide) ?_
    refine S_iload_n (pc := 2) hC dX13_material_2 rfl ?_
    refine S_imul (pc := 3) hC dX13_material_3 ?_
    refine S_istore_n (pc := 4) hC dX13_material_4 rfl (by decide) ?_
    refine S_iconst (pc := 5) hC dX13_material_5 (by decide) ?_
    refine S_istore_n (pc := 6) hC dX13_material_6 rfl (by decide) ?_
    refine S_iconst (pc := 7) hC dX13_material_7 (by decide) ?_
    refine S_istore (pc := 8) hC dX13_material_8 (by decide) ?_
    exact hJ 10
  have hB10 : zin 7 [0, 2, 3, 4] (aX13_material_10 mc ms X Q) X 10 := by
    intro u v vs st M hb
    rw [hXe]
    refine fun lv hp => S_block (L := 10) (live := [0, 2, 3, 4]) ?_ u v lv vs st M hp hb
    unfold aX13_material_10
    refine S_iload (pc := 10) hC dX13_material_10 ?_
    refine S_bipush (pc := 12) hC dX13_material_12 (by decide) ?_
    refine S_icmp_ge (pc := 14) (tgt := 122) hC dX13_material_14 (by decide) ?_ ?_
    · refine S_iload_n (pc := 122) hC dX13_material_122 rfl ?_
      exact S_ireturn (pc := 123) hC hr dX13_material_123
    · refine S_aload_n (pc := 17) hC dX13_material_17 rfl ?_
      refine S_getR (pc := 18) hC cfX13 (by decide) (Or.inr ⟨_, rfl⟩) wd_1271 dX13_material_18 ?_
      refine S_iload_n (pc := 21) hC dX13_material_21 rfl ?_
      refine S_iload (pc := 22) hC dX13_material_22 ?_
      refine S_iadd (pc := 24) hC dX13_material_24 ?_
      refine S_iaload (pc := 25) hC dX13_material_25 ?_
      refine S_callS (pc := 26) hC (sX13_kindOf l G) wd_1376 wd_1377 wd_12 wd_1378 (by decide +kernel) ⟨by rw [hRf]; decide, by rw [hRl]; decide⟩ dX13_material_26 ?_
      unfold kX13_material_29
      refine S_istore (pc := 29) hC dX13_material_29 (by decide) ?_
      refine S_iload (pc := 31) hC dX13_material_31 ?_
      refine S_iconst (pc := 33) hC dX13_material_33 (by decide) ?_
      refine S_icmp_ne (pc := 34) (tgt := 41) hC dX13_material_34 (by decide) ?_ ?_
      · refine S_iload (pc := 41) hC dX13_material_41 ?_
        refine S_iconst (pc := 43) hC dX13_material_43 (by decide) ?_
        refine S_icmp_eq (pc := 44) (tgt := 53) hC dX13_material_44 (by decide) ?_ ?_
        · exact hJ 53
        · refine S_iload (pc := 47) hC dX13_material_47 ?_
          refine S_iconst (pc := 49) hC dX13_material_49 (by decide) ?_
          refine S_icmp_ne (pc := 50) (tgt := 57) hC dX13_material_50 (by decide) ?_ ?_
          · refine S_iload (pc := 57) hC dX13_material_57 ?_
            refine S_iconst (pc := 59) hC dX13_material_59 (by decide) ?_
            refine S_icmp_ne (pc := 60) (tgt := 67) hC dX13_material_60 (by decide) ?_ ?_
            · refine S_iload (pc := 67) hC dX13_material_67 ?_
              refine S_iconst (pc := 69) hC dX13_material_69 (by decide) ?_
              refine S_icmp_ne (pc := 70) (tgt := 78) hC dX13_material_70 (by decide) ?_ ?_
              · refine S_iconst (pc := 78) hC dX13_material_78 (by decide) ?_
                exact hJ 79
              · refine S_bipush (pc := 73) hC dX13_material_73 (by decide) ?_
                refine S_goto (pc := 75) (tgt := 79) hC dX13_material_75 (by decide) ?_
                exact hJ 79
            · refine S_iconst (pc := 63) hC dX13_material_63 (by decide) ?_
              refine S_goto (pc := 64) (tgt := 79) hC dX13_material_64 (by decide) ?_
              exact hJ 79
          · exact hJ 53
      · refine S_iconst (pc := 37) hC dX13_material_37 (by decide) ?_
        refine S_goto (pc := 38) (tgt := 79) hC dX13_material_38 (by decide) ?_
        exact hJ 79
  have hB53 : zin 7 [0, 2, 3, 4] (aX13_material_53 mc ms X Q) X 53 := by
    intro u v vs st M hb
    rw [hXe]
    refine fun lv hp => S_block (L := 53) (live := [0, 2, 3, 4]) ?_ u v lv vs st M hp hb
    unfold aX13_material_53
    refine S_iconst (pc := 53) hC dX13_material_53 (by decide) ?_
    refine S_goto (pc := 54) (tgt := 79) hC dX13_material_54 (by decide) ?_
    exact hJ 79
  have hB79 : zin 7 [0, 2, 3, 4] (aX13_material_79 mc ms X Q) X 79 := by
    intro u v vs st M hb
    rw [hXe]
    refine fun lv hp => S_block (L := 79) (live := [0, 2, 3, 4]) ?_ u v lv vs st M hp hb
    unfold aX13_material_79
    refine S_istore (pc := 79) hC dX13_material_79 (by decide) ?_
    refine S_iload_n (pc := 81) hC dX13_material_81 rfl ?_
    refine S_aload_n (pc := 82) hC dX13_material_82 rfl ?_
    refine S_getR (pc := 83) hC cfX13 (by decide) (Or.inr ⟨_, rfl⟩) wd_1271 dX13_material_83 ?_
    refine S_iload_n (pc := 86) hC dX13_material_86 rfl ?_
    refine S_iload (pc := 87) hC dX13_material_87 ?_
    refine S_iadd (pc := 89) hC dX13_material_89 ?_
    refine S_iaload (pc := 90) hC dX13_material_90 ?_
    refine S_callS (pc := 91) hC (sX13_sideOf l G) wd_1425 wd_1426 wd_12 wd_1427 (by decide +kernel) ⟨by rw [hRf]; decide, by rw [hRl]; decide⟩ dX13_material_91 ?_
    unfold kX13_material_94
    refine S_aload_n (pc := 94) hC dX13_material_94 rfl ?_
    refine S_getR (pc := 95) hC cfX13 (by decide) (Or.inr ⟨_, rfl⟩) wd_1271 dX13_material_95 ?_
    refine S_iload_n (pc := 98) hC dX13_material_98 rfl ?_
    refine S_bipush (pc := 99) hC dX13_material_99 (by decide) ?_
    refine S_iadd (pc := 101) hC dX13_material_101 ?_
    refine S_iaload (pc := 102) hC dX13_material_102 ?_
    refine S_icmp_ne (pc := 103) (tgt := 111) hC dX13_material_103 (by decide) ?_ ?_
    · refine S_iload (pc := 111) hC dX13_material_111 ?_
      refine S_ineg (pc := 113) hC dX13_material_113 ?_
      exact hJ 114
    · refine S_iload (pc := 106) hC dX13_material_106 ?_
      refine S_goto (pc := 108) (tgt := 114) hC dX13_material_108 (by decide) ?_
      exact hJ 114
  have hB114 : zin 7 [0, 2, 4] (aX13_material_114 mc ms X Q) X 114 := by
    intro u v vs st M hb
    rw [hXe]
    refine fun lv hp => S_block (L := 114) (live := [0, 2, 4]) ?_ u v lv vs st M hp hb
    unfold aX13_material_114
    refine S_iadd (pc := 114) hC dX13_material_114 ?_
    refine S_istore_n (pc := 115) hC dX13_material_115 rfl (by decide) ?_
    refine S_iinc (pc := 116) hC dX13_material_116 (by decide) (by decide) ?_
    refine S_goto (pc := 119) (tgt := 10) hC dX13_material_119 (by decide) ?_
    exact hJ 10
  have := h.2 X hB0 hB10 hB53 hB79 hB114
  rw [hXe] at this
  exact this lv hlv
theorem vX13_material_0 {mc ms : Nat} {X : Nat → zV} {Q : zQt} {M : zM} {x1 : Int32} (hW : zFix M)  (h : X 10 0 0 [.ref 55, .int ((69 : Int32) * x1), .int 0, .int 0] [] M) : aX13_material_0 mc ms X Q 0 0 [some (.ref 55), some (.int x1), none, none, none, none, none] [] M := h
theorem vX13_material_10 {mc ms : Nat} {X : Nat → zV} {Q : zQt} {M : zM} {x2 : Int32} {x3 : Int32} {x4 : Int32} (hW : zFix M)  (h : ((64 : Int32) ≤ x4 → Q (some (.int x3)) M) ∧ (¬ (64 : Int32) ≤ x4 → vp_in ((x2 + x4)) 414 ∧ wX13_kindOf 0 0 [.int ((M : zM).1 65 ((x2 + x4) : Int32).toNatClampNeg)] M (fun r M1 => kX13_material_29 mc ms X Q 0 0 [some (.ref 55), none, some (.int x2), some (.int x3), some (.int x4), none, none] (r.toList ++ []) M1))) : aX13_material_10 mc ms X Q 0 0 [some (.ref 55), none, some (.int x2), some (.int x3), some (.int x4), none, none] [] M := ⟨fun c14 => (h.1 c14), fun c14 => ⟨(fxs_55 hW), 65, (fxr_55_16 hW), ⟨414, (fxs_65 hW), (h.2 c14).1, ⟨Nat.le_of_ble_eq_true rfl, rfl, 0, 0, Nat.zero_le _, Nat.zero_le _, (h.2 c14).2⟩⟩⟩⟩
theorem vX13_material_53 {mc ms : Nat} {X : Nat → zV} {Q : zQt} {M : zM} {x2 : Int32} {x3 : Int32} {x4 : Int32} (hW : zFix M)  (h : X 79 0 0 [.ref 55, .int x2, .int x3, .int x4] [.int 3] M) : aX13_material_53 mc ms X Q 0 0 [some (.ref 55), none, some (.int x2), some (.int x3), some (.int x4), none, none] [] M := h
theorem vX13_material_79 {mc ms : Nat} {X : Nat → zV} {Q : zQt} {M : zM} {x2 : Int32} {x3 : Int32} {x4 : Int32} {s0 : Int32} (hW : zFix M)  (h : vp_in ((x2 + x4)) 414 ∧ wX13_sideOf 0 0 [.int ((M : zM).1 65 ((x2 + x4) : Int32).toNatClampNeg)] M (fun r M1 => kX13_material_94 mc ms X Q 0 0 [some (.ref 55), none, some (.int x2), some (.int x3), some (.int x4), none, some (.int s0)] (r.toList ++ [.int x3]) M1)) : aX13_material_79 mc ms X Q 0 0 [some (.ref 55), none, some (.int x2), some (.int x3), some (.int x4), none, none] [.int s0] M := ⟨(fxs_55 hW), 65, (fxr_55_16 hW), ⟨414, (fxs_65 hW), h.1, ⟨Nat.le_of_ble_eq_true rfl, rfl, 0, 0, Nat.zero_le _, Nat.zero_le _, h.2⟩⟩⟩
theorem vX13_material_114 {mc ms : Nat} {X : Nat → zV} {Q : zQt} {M : zM} {x2 : Int32} {x4 : Int32} {s0 : Int32} {s1 : Int32} (hW : zFix M)  (h : X 10 0 0 [.ref 55, .int x2, .int (s1 + s0), .int (x4 + 1)] [] M) : aX13_material_114 mc ms X Q 0 0 [some (.ref 55), none, some (.int x2), none, some (.int x4), none, none] [.int s0, .int s1] M := h
theorem vkX13_material_29 {mc ms : Nat} {X : Nat → zV} {Q : zQt} {M : zM} {x2 : Int32} {x3 : Int32} {x4 : Int32} {s0 : Int32} (hW : zFix M)  (h : (s0 = (1 : Int32) → X 79 0 0 [.ref 55, .int x2, .int x3, .int x4] [.int 1] M) ∧ (¬ s0 = (1 : Int32) → (s0 = (2 : Int32) → X 53 0 0 [.ref 55, .int x2, .int x3, .int x4] [] M) ∧ (¬ s0 = (2 : Int32) → (s0 = (3 : Int32) → X 53 0 0 [.ref 55, .int x2, .int x3, .int x4] [] M) ∧ (¬ s0 = (3 : Int32) → (s0 = (4 : Int32) → X 79 0 0 [.ref 55, .int x2, .int x3, .int x4] [.int 5] M) ∧ (¬ s0 = (4 : Int32) → (s0 = (5 : Int32) → X 79 0 0 [.ref 55, .int x2, .int x3, .int x4] [.int 9] M) ∧ (¬ s0 = (5 : Int32) → X 79 0 0 [.ref 55, .int x2, .int x3, .int x4] [.int 0] M)))))) : kX13_material_29 mc ms X Q 0 0 [some (.ref 55), none, some (.int x2), some (.int x3), some (.int x4), none, none] [.int s0] M := ⟨fun c34 => (h.1 c34), fun c34 => ⟨fun c44 => ((h.2 c34).1 c44), fun c44 => ⟨fun c50 => (((h.2 c34).2 c44).1 c50), fun c50 => ⟨fun c60 => ((((h.2 c34).2 c44).2 c50).1 c60), fun c60 => ⟨fun c70 => (((((h.2 c34).2 c44).2 c50).2 c60).1 c70), fun c70 => (((((h.2 c34).2 c44).2 c50).2 c60).2 c70)⟩⟩⟩⟩⟩
theorem vkX13_material_94 {mc ms : Nat} {X : Nat → zV} {Q : zQt} {M : zM} {x2 : Int32} {x3 : Int32} {x4 : Int32} {x6 : Int32} {s0 : Int32} {s1 : Int32} (hW : zFix M)  (h : vp_in ((x2 + (64 : Int32))) 414 ∧ (s0 = ((M : zM).1 65 ((x2 + (64 : Int32)) : Int32).toNatClampNeg) → X 114 0 0 [.ref 55, .int x2, .int x4] [.int x6, .int s1] M) ∧ (¬ s0 = ((M : zM).1 65 ((x2 + (64 : Int32)) : Int32).toNatClampNeg) → X 114 0 0 [.ref 55, .int x2, .int x4] [.int (-x6), .int s1] M)) : kX13_material_94 mc ms X Q 0 0 [some (.ref 55), none, some (.int x2), some (.int x3), some (.int x4), none, some (.int x6)] [.int s0, .int s1] M := ⟨(fxs_55 hW), 65, (fxr_55_16 hW), ⟨414, (fxs_65 hW), h.1, ⟨fun c103 => (h.2.1 c103), fun c103 => (h.2.2 c103)⟩⟩⟩
theorem dX13_back_0 : decode cX13_back 0 = .ok (.iload_n 0, 1) := by decide +kernel
theorem dX13_back_1 : decode cX13_back 1 = .ok (.ineg, 1) := by decide +kernel
theorem dX13_back_2 : decode cX13_back 2 = .ok (.sipush (-900), 3) := by decide +kernel
theorem dX13_back_5 : decode cX13_back 5 = .ok (.if_icmp .ge 9, 3) := by decide +kernel
theorem dX13_back_8 : decode cX13_back 8 = .ok (.iconst 1, 1) := by decide +kernel
theorem dX13_back_9 : decode cX13_back 9 = .ok (.iload_n 0, 1) := by decide +kernel
theorem dX13_back_10 : decode cX13_back 10 = .ok (.isub, 1) := by decide +kernel
theorem dX13_back_11 : decode cX13_back 11 = .ok (.goto 20, 3) := by decide +kernel
theorem dX13_back_14 : decode cX13_back 14 = .ok (.iload_n 0, 1) := by decide +kernel
theorem dX13_back_15 : decode cX13_back 15 = .ok (.ineg, 1) := by decide +kernel
theorem dX13_back_16 : decode cX13_back 16 = .ok (.sipush 900, 3) := by decide +kernel
theorem dX13_back_19 : decode cX13_back 19 = .ok (.if_icmp .le 10, 3) := by decide +kernel
theorem dX13_back_22 : decode cX13_back 22 = .ok (.iload_n 0, 1) := by decide +kernel
theorem dX13_back_23 : decode cX13_back 23 = .ok (.ineg, 1) := by decide +kernel
theorem dX13_back_24 : decode cX13_back 24 = .ok (.iconst 1, 1) := by decide +kernel
theorem dX13_back_25 : decode cX13_back 25 = .ok (.isub, 1) := by decide +kernel
theorem dX13_back_26 : decode cX13_back 26 = .ok (.goto 5, 3) := by decide +kernel
theorem dX13_back_29 : decode cX13_back 29 = .ok (.iload_n 0, 1) := by decide +kernel
theorem dX13_back_30 : decode cX13_back 30 = .ok (.ineg, 1) := by decide +kernel
theorem dX13_back_31 : decode cX13_back 31 = .ok (.ireturn, 1) := by decide +kernel
def aX13_back_0 (mc ms : Nat) (X : Nat → zV) (Q : zQt) : zT :=
  zli 0 <| zi1 (fun x => -x) <| zc (.int (-900)) <| zic (fun x y => y ≤ x) (zli 0 <| zi1 (fun x => -x) <| zc (.int 900) <| zic (fun x y => x ≤ y) (zli 0 <| zi1 (fun x => -x) <| zj X 31 []) <| zli 0 <| zi1 (fun x => -x) <| zc (.int 1) <| zii (fun x y => x - y) <| zj X 31 []) <| zc (.int 1) <| zli 0 <| zii (fun x y => x - y) <| zj X 31 []
def aX13_back_31 (mc ms : Nat) (X : Nat → zV) (Q : zQt) : zT :=
  zri Q
def lvX13_back : Nat → List Nat := fun L => match L with
  | 0 => [0]
  | 31 => []
  | _ => []
def wX13_back : zSp := fun mc ms av M Q => ((zlay av).length ≤ 1 ∧ zpick (zlay av) [0] = some av) ∧ ∀ X : Nat → zV, zin 1 [0] (aX13_back_0 mc ms X Q) X 0 → zin 1 [] (aX13_back_31 mc ms X Q) X 31 → X 0 0 0 av [] M
set_option maxRecDepth 100000 in
set_option maxHeartbeats 4000000 in
theorem sX13_back (l : Launch) (G : zG) : zSnd l G yX13_back cX13_back 1 (some .int) 0 0 wX13_back := by
  refine zmk [0] (by decide) (fun mc ms av M Q h => h.1) ?_
  intro p e R s m args below meth c mc ms av M Q hC hRf hRl hr hnm h lv hlv
  obtain ⟨X, hXe⟩ : ∃ X : Nat → zV, X = fun L u v vs st M => ∀ lv, zpick lv (lvX13_back L) = some vs → zAt p l e R s m args below meth c (MQ below (zQ G Q) args s mc ms (zA G)) G 1 L u v lv st M := ⟨_, rfl⟩
  have hJ : ∀ L, zOk p l e R s m args below meth c (MQ below (zQ G Q) args s mc ms (zA G)) G 1 L (zj X L (lvX13_back L)) := fun L => S_jump (fun u v lv vs st M hp hx => by rw [hXe] at hx; exact hx lv hp)
  have hB0 : zin 1 [0] (aX13_back_0 mc ms X Q) X 0 := by
    intro u v vs st M hb
    rw [hXe]
    refine fun lv hp => S_block (L := 0) (live := [0]) ?_ u v lv vs st M hp hb
    unfold aX13_back_0
    refine S_iload_n (pc := 0) hC dX13_back_0 rfl ?_
    refine S_ineg (pc := 1) hC dX13_back_1 ?_
    refine S_sipush (pc := 2) hC dX13_back_2 (by decide) ?_
    refine S_icmp_ge (pc := 5) (tgt := 14) hC dX13_back_5 (by decide) ?_ ?_
    · refine S_iload_n (pc := 14) hC dX13_back_14 rfl ?_
      refine S_ineg (pc := 15) hC dX13_back_15 ?_
      refine S_sipush (pc := 16) hC dX13_back_16 (by decide) ?_
      refine S_icmp_le (pc := 19) (tgt := 29) hC dX13_back_19 (by decide) ?_ ?_
      · refine S_iload_n (pc := 29) hC dX13_back_29 rfl ?_
        refine S_ineg (pc := 30) hC dX13_back_30 ?_
        exact hJ 31
      · refine S_iload_n (pc := 22) hC dX13_back_22 rfl ?_
        refine S_ineg (pc := 23) hC dX13_back_23 ?_
        refine S_iconst (pc := 24) hC dX13_back_24 (by decide) ?_
        refine S_isub (pc := 25) hC dX13_back_25 ?_
        refine S_goto (pc := 26) (tgt := 31) hC dX13_back_26 (by decide) ?_
        exact hJ 31
    · refine S_iconst (pc := 8) hC dX13_back_8 (by decide) ?_
      refine S_iload_n (pc := 9) hC dX13_back_9 rfl ?_
      refine S_isub (pc := 10) hC dX13_back_10 ?_
      refine S_goto (pc := 11) (tgt := 31) hC dX13_back_11 (by decide) ?_
      exact hJ 31
  have hB31 : zin 1 [] (aX13_back_31 mc ms X Q) X 31 := by
    intro u v vs st M hb
    rw [hXe]
    refine fun lv hp => S_block (L := 31) (live := []) ?_ u v lv vs st M hp hb
    unfold aX13_back_31
    exact S_ireturn (pc := 31) hC hr dX13_back_31
  have := h.2 X hB0 hB31
  rw [hXe] at this
  exact this lv hlv
theorem vX13_back_0 {mc ms : Nat} {X : Nat → zV} {Q : zQt} {M : zM} {x0 : Int32} (hW : zFix M)  (h : (((-900) : Int32) ≤ (-x0) → ((-x0) ≤ (900 : Int32) → X 31 0 0 [] [.int (-x0)] M) ∧ (¬ (-x0) ≤ (900 : Int32) → X 31 0 0 [] [.int ((-x0) - (1 : Int32))] M)) ∧ (¬ ((-900) : Int32) ≤ (-x0) → X 31 0 0 [] [.int ((1 : Int32) - x0)] M)) : aX13_back_0 mc ms X Q 0 0 [some (.int x0)] [] M := ⟨fun c5 => ⟨fun c19 => ((h.1 c5).1 c19), fun c19 => ((h.1 c5).2 c19)⟩, fun c5 => (h.2 c5)⟩
theorem vX13_back_31 {mc ms : Nat} {X : Nat → zV} {Q : zQt} {M : zM} {s0 : Int32} (hW : zFix M)  (h : Q (some (.int s0)) M) : aX13_back_31 mc ms X Q 0 0 [none] [.int s0] M := h
theorem dX13_still_0 : decode cX13_still 0 = .ok (.aload_n 0, 1) := by decide +kernel
theorem dX13_still_1 : decode cX13_still 1 = .ok (.iload_n 1, 1) := by decide +kernel
theorem dX13_still_2 : decode cX13_still 2 = .ok (.invokevirtual 252, 3) := by decide +kernel
theorem dX13_still_5 : decode cX13_still 5 = .ok (.istore_n 2, 1) := by decide +kernel
theorem dX13_still_6 : decode cX13_still 6 = .ok (.iload_n 2, 1) := by decide +kernel
theorem dX13_still_7 : decode cX13_still 7 = .ok (.ifCond .eq 11, 3) := by decide +kernel
theorem dX13_still_10 : decode cX13_still 10 = .ok (.aload_n 0, 1) := by decide +kernel
theorem dX13_still_11 : decode cX13_still 11 = .ok (.iload_n 1, 1) := by decide +kernel
theorem dX13_still_12 : decode cX13_still 12 = .ok (.invokevirtual 317, 3) := by decide +kernel
theorem dX13_still_15 : decode cX13_still 15 = .ok (.goto 33, 3) := by decide +kernel
theorem dX13_still_18 : decode cX13_still 18 = .ok (.aload_n 0, 1) := by decide +kernel
theorem dX13_still_19 : decode cX13_still 19 = .ok (.bipush 69, 2) := by decide +kernel
theorem dX13_still_21 : decode cX13_still 21 = .ok (.iload_n 1, 1) := by decide +kernel
theorem dX13_still_22 : decode cX13_still 22 = .ok (.imul, 1) := by decide +kernel
theorem dX13_still_23 : decode cX13_still 23 = .ok (.aload_n 0, 1) := by decide +kernel
theorem dX13_still_24 : decode cX13_still 24 = .ok (.getfield 43, 3) := by decide +kernel
theorem dX13_still_27 : decode cX13_still 27 = .ok (.bipush 69, 2) := by decide +kernel
theorem dX13_still_29 : decode cX13_still 29 = .ok (.iload_n 1, 1) := by decide +kernel
theorem dX13_still_30 : decode cX13_still 30 = .ok (.imul, 1) := by decide +kernel
theorem dX13_still_31 : decode cX13_still 31 = .ok (.bipush 64, 2) := by decide +kernel
theorem dX13_still_33 : decode cX13_still 33 = .ok (.iadd, 1) := by decide +kernel
theorem dX13_still_34 : decode cX13_still 34 = .ok (.iaload, 1) := by decide +kernel
theorem dX13_still_35 : decode cX13_still 35 = .ok (.invokevirtual 116, 3) := by decide +kernel
theorem dX13_still_38 : decode cX13_still 38 = .ok (.ifCond .eq 9, 3) := by decide +kernel
theorem dX13_still_41 : decode cX13_still 41 = .ok (.sipush (-1000), 3) := by decide +kernel
theorem dX13_still_44 : decode cX13_still 44 = .ok (.goto 4, 3) := by decide +kernel
theorem dX13_still_47 : decode cX13_still 47 = .ok (.iconst 0, 1) := by decide +kernel
theorem dX13_still_48 : decode cX13_still 48 = .ok (.ireturn, 1) := by decide +kernel
def kX13_still_38 (mc ms : Nat) (X : Nat → zV) (Q : zQt) : zT :=
  zif (fun x => x = 0) (zc (.int 0) <| zj X 48 []) <| zc (.int (-1000)) <| zj X 48 []
def kX13_still_15 (mc ms : Nat) (X : Nat → zV) (Q : zQt) : zT :=
  zj X 48 []
def kX13_still_5 (mc ms : Nat) (X : Nat → zV) (Q : zQt) : zT :=
  zsi 2 <| zli 2 <| zif (fun x => x = 0) (zla 0 <| zc (.int 69) <| zli 1 <| zii (fun x y => x * y) <| zla 0 <| zgR 13 16 <| zc (.int 69) <| zli 1 <| zii (fun x y => x * y) <| zc (.int 64) <| zii (fun x y => x + y) <| zal 1 <| zcv mc ms 13 2 wX13_isChecked <| kX13_still_38 mc ms X Q) <| zla 0 <| zli 1 <| zcv mc ms 13 1 wX13_material <| kX13_still_15 mc ms X Q
def aX13_still_0 (mc ms : Nat) (X : Nat → zV) (Q : zQt) : zT :=
  zla 0 <| zli 1 <| zcv mc ms 13 1 wX13_hasMove <| kX13_still_5 mc ms X Q
def aX13_still_48 (mc ms : Nat) (X : Nat → zV) (Q : zQt) : zT :=
  zri Q
def lvX13_still : Nat → List Nat := fun L => match L with
  | 0 => [0, 1]
  | 48 => []
  | _ => []
def wX13_still : zSp := fun mc ms av M Q => ((zlay av).length ≤ 3 ∧ zpick (zlay av) [0, 1] = some av) ∧ ∀ X : Nat → zV, zin 3 [0, 1] (aX13_still_0 mc ms X Q) X 0 → zin 3 [] (aX13_still_48 mc ms X Q) X 48 → X 0 0 0 av [] M
set_option maxRecDepth 100000 in
set_option maxHeartbeats 4000000 in
theorem sX13_still (l : Launch) (G : zG) : zSnd l G yX13_still cX13_still 3 (some .int) 7 181 wX13_still := by
  refine zmk [0, 1] (by decide) (fun mc ms av M Q h => h.1) ?_
  intro p e R s m args below meth c mc ms av M Q hC hRf hRl hr hnm h lv hlv
  obtain ⟨X, hXe⟩ : ∃ X : Nat → zV, X = fun L u v vs st M => ∀ lv, zpick lv (lvX13_still L) = some vs → zAt p l e R s m args below meth c (MQ below (zQ G Q) args s mc ms (zA G)) G 3 L u v lv st M := ⟨_, rfl⟩
  have hJ : ∀ L, zOk p l e R s m args below meth c (MQ below (zQ G Q) args s mc ms (zA G)) G 3 L (zj X L (lvX13_still L)) := fun L => S_jump (fun u v lv vs st M hp hx => by rw [hXe] at hx; exact hx lv hp)
  have hB0 : zin 3 [0, 1] (aX13_still_0 mc ms X Q) X 0 := by
    intro u v vs st M hb
    rw [hXe]
    refine fun lv hp => S_block (L := 0) (live := [0, 1]) ?_ u v lv vs st M hp hb
    unfold aX13_still_0
    refine S_aload_n (pc := 0) hC dX13_still_0 rfl ?_
    refine S_iload_n (pc := 1) hC dX13_still_1 rfl ?_
    refine S_callV (pc := 2) hC (sX13_hasMove l G) rfl wd_1577 wd_1579 ws_101 wd_12 wd_1580 (by decide +kernel) ⟨by rw [hRf]; decide, by rw [hRl]; decide⟩ dX13_still_2 ?_
    unfold kX13_still_5
    refine S_istore_n (pc := 5) hC dX13_still_5 rfl (by decide) ?_
    refine S_iload_n (pc := 6) hC dX13_still_6 rfl ?_
    refine S_if_eq (pc := 7) (tgt := 18) hC dX13_still_7 (by decide) ?_ ?_
    · refine S_aload_n (pc := 18) hC dX13_still_18 rfl ?_
      refine S_bipush (pc := 19) hC dX13_still_19 (by decide) ?_
      refine S_iload_n (pc := 21) hC dX13_still_21 rfl ?_
      refine S_imul (pc := 22) hC dX13_still_22 ?_
      refine S_aload_n (pc := 23) hC dX13_still_23 rfl ?_
      refine S_getR (pc := 24) hC cfX13 (by decide) (Or.inr ⟨_, rfl⟩) wd_1271 dX13_still_24 ?_
      refine S_bipush (pc := 27) hC dX13_still_27 (by decide) ?_
      refine S_iload_n (pc := 29) hC dX13_still_29 rfl ?_
      refine S_imul (pc := 30) hC dX13_still_30 ?_
      refine S_bipush (pc := 31) hC dX13_still_31 (by decide) ?_
      refine S_iadd (pc := 33) hC dX13_still_33 ?_
      refine S_iaload (pc := 34) hC dX13_still_34 ?_
      refine S_callV (pc := 35) hC (sX13_isChecked l G) rfl wd_1417 wd_1419 ws_67 wd_12 wd_1420 (by decide +kernel) ⟨by rw [hRf]; decide, by rw [hRl]; decide⟩ dX13_still_35 ?_
      unfold kX13_still_38
      refine S_if_eq (pc := 38) (tgt := 47) hC dX13_still_38 (by decide) ?_ ?_
      · refine S_iconst (pc := 47) hC dX13_still_47 (by decide) ?_
        exact hJ 48
      · refine S_sipush (pc := 41) hC dX13_still_41 (by decide) ?_
        refine S_goto (pc := 44) (tgt := 48) hC dX13_still_44 (by decide) ?_
        exact hJ 48
    · refine S_aload_n (pc := 10) hC dX13_still_10 rfl ?_
      refine S_iload_n (pc := 11) hC dX13_still_11 rfl ?_
      refine S_callV (pc := 12) hC (sX13_material l G) rfl wd_1665 wd_1667 ws_114 wd_12 wd_1668 (by decide +kernel) ⟨by rw [hRf]; decide, by rw [hRl]; decide⟩ dX13_still_12 ?_
      unfold kX13_still_15
      refine S_goto (pc := 15) (tgt := 48) hC dX13_still_15 (by decide) ?_
      exact hJ 48
  have hB48 : zin 3 [] (aX13_still_48 mc ms X Q) X 48 := by
    intro u v vs st M hb
    rw [hXe]
    refine fun lv hp => S_block (L := 48) (live := []) ?_ u v lv vs st M hp hb
    unfold aX13_still_48
    exact S_ireturn (pc := 48) hC hr dX13_still_48
  have := h.2 X hB0 hB48
  rw [hXe] at this
  exact this lv hlv
theorem vX13_still_0 {mc ms : Nat} {X : Nat → zV} {Q : zQt} {M : zM} {x1 : Int32} (hW : zFix M)  (h : wX13_hasMove 0 0 [.ref 55, .int x1] M (fun r M1 => kX13_still_5 mc ms X Q 0 0 [some (.ref 55), some (.int x1), none] (r.toList ++ []) M1)) : aX13_still_0 mc ms X Q 0 0 [some (.ref 55), some (.int x1), none] [] M := ⟨Nat.le_of_ble_eq_true rfl, rfl, (fxs_55 hW), 0, 0, Nat.zero_le _, Nat.zero_le _, h⟩
theorem vX13_still_48 {mc ms : Nat} {X : Nat → zV} {Q : zQt} {M : zM} {s0 : Int32} (hW : zFix M)  (h : Q (some (.int s0)) M) : aX13_still_48 mc ms X Q 0 0 [none, none, none] [.int s0] M := h
theorem vkX13_still_5 {mc ms : Nat} {X : Nat → zV} {Q : zQt} {M : zM} {x1 : Int32} {s0 : Int32} (hW : zFix M)  (h : (s0 = 0 → vp_in ((((69 : Int32) * x1) + (64 : Int32))) 414 ∧ wX13_isChecked 0 0 [.ref 55, .int ((69 : Int32) * x1), .int ((M : zM).1 65 ((((69 : Int32) * x1) + (64 : Int32)) : Int32).toNatClampNeg)] M (fun r M1 => kX13_still_38 mc ms X Q 0 0 [some (.ref 55), some (.int x1), some (.int s0)] (r.toList ++ []) M1)) ∧ (¬ s0 = 0 → wX13_material 0 0 [.ref 55, .int x1] M (fun r M1 => kX13_still_15 mc ms X Q 0 0 [some (.ref 55), some (.int x1), some (.int s0)] (r.toList ++ []) M1))) : kX13_still_5 mc ms X Q 0 0 [some (.ref 55), some (.int x1), none] [.int s0] M := ⟨fun c7 => ⟨(fxs_55 hW), 65, (fxr_55_16 hW), ⟨414, (fxs_65 hW), (h.1 c7).1, ⟨Nat.le_of_ble_eq_true rfl, rfl, (fxs_55 hW), 0, 0, Nat.zero_le _, Nat.zero_le _, (h.1 c7).2⟩⟩⟩, fun c7 => ⟨Nat.le_of_ble_eq_true rfl, rfl, (fxs_55 hW), 0, 0, Nat.zero_le _, Nat.zero_le _, (h.2 c7)⟩⟩
theorem vkX13_still_15 {mc ms : Nat} {X : Nat → zV} {Q : zQt} {M : zM} {x1 : Int32} {x2 : Int32} {s0 : Int32} (hW : zFix M)  (h : X 48 0 0 [] [.int s0] M) : kX13_still_15 mc ms X Q 0 0 [some (.ref 55), some (.int x1), some (.int x2)] [.int s0] M := h
theorem vkX13_still_38 {mc ms : Nat} {X : Nat → zV} {Q : zQt} {M : zM} {x1 : Int32} {x2 : Int32} {s0 : Int32} (hW : zFix M)  (h : (s0 = 0 → X 48 0 0 [] [.int 0] M) ∧ (¬ s0 = 0 → X 48 0 0 [] [.int (-1000)] M)) : kX13_still_38 mc ms X Q 0 0 [some (.ref 55), some (.int x1), some (.int x2)] [.int s0] M := ⟨fun c38 => (h.1 c38), fun c38 => (h.2 c38)⟩
theorem dX13_search_0 : decode cX13_search 0 = .ok (.aload_n 0, 1) := by decide +kernel
theorem dX13_search_1 : decode cX13_search 1 = .ok (.invokevirtual 181, 3) := by decide +kernel
theorem dX13_search_4 : decode cX13_search 4 = .ok (.iconst (-1), 1) := by decide +kernel
theorem dX13_search_5 : decode cX13_search 5 = .ok (.istore_n 2, 1) := by decide +kernel
theorem dX13_search_6 : decode cX13_search 6 = .ok (.iload_n 1, 1) := by decide +kernel
theorem dX13_search_7 : decode cX13_search 7 = .ok (.ifCond .eq 12, 3) := by decide +kernel
theorem dX13_search_10 : decode cX13_search 10 = .ok (.aload_n 0, 1) := by decide +kernel
theorem dX13_search_11 : decode cX13_search 11 = .ok (.getfield 49, 3) := by decide +kernel
theorem dX13_search_14 : decode cX13_search 14 = .ok (.iconst 0, 1) := by decide +kernel
theorem dX13_search_15 : decode cX13_search 15 = .ok (.iaload, 1) := by decide +kernel
theorem dX13_search_16 : decode cX13_search 16 = .ok (.ifCond .ne 16, 3) := by decide +kernel
theorem dX13_search_19 : decode cX13_search 19 = .ok (.aload_n 0, 1) := by decide +kernel
theorem dX13_search_20 : decode cX13_search 20 = .ok (.getfield 55, 3) := by decide +kernel
theorem dX13_search_23 : decode cX13_search 23 = .ok (.iconst 0, 1) := by decide +kernel
theorem dX13_search_24 : decode cX13_search 24 = .ok (.iconst (-1), 1) := by decide +kernel
theorem dX13_search_25 : decode cX13_search 25 = .ok (.iastore, 1) := by decide +kernel
theorem dX13_search_26 : decode cX13_search 26 = .ok (.aload_n 0, 1) := by decide +kernel
theorem dX13_search_27 : decode cX13_search 27 = .ok (.iconst 0, 1) := by decide +kernel
theorem dX13_search_28 : decode cX13_search 28 = .ok (.invokevirtual 320, 3) := by decide +kernel
theorem dX13_search_31 : decode cX13_search 31 = .ok (.ireturn, 1) := by decide +kernel
theorem dX13_search_32 : decode cX13_search 32 = .ok (.iconst 0, 1) := by decide +kernel
theorem dX13_search_33 : decode cX13_search 33 = .ok (.istore_n 3, 1) := by decide +kernel
theorem dX13_search_34 : decode cX13_search 34 = .ok (.iconst 0, 1) := by decide +kernel
theorem dX13_search_35 : decode cX13_search 35 = .ok (.istore 4, 2) := by decide +kernel
theorem dX13_search_37 : decode cX13_search 37 = .ok (.aload_n 0, 1) := by decide +kernel
theorem dX13_search_38 : decode cX13_search 38 = .ok (.getfield 52, 3) := by decide +kernel
theorem dX13_search_41 : decode cX13_search 41 = .ok (.iconst 0, 1) := by decide +kernel
theorem dX13_search_42 : decode cX13_search 42 = .ok (.iconst 0, 1) := by decide +kernel
theorem dX13_search_43 : decode cX13_search 43 = .ok (.iastore, 1) := by decide +kernel
theorem dX13_search_44 : decode cX13_search 44 = .ok (.aload_n 0, 1) := by decide +kernel
theorem dX13_search_45 : decode cX13_search 45 = .ok (.getfield 55, 3) := by decide +kernel
theorem dX13_search_48 : decode cX13_search 48 = .ok (.iconst 0, 1) := by decide +kernel
theorem dX13_search_49 : decode cX13_search 49 = .ok (.sipush (-2000), 3) := by decide +kernel
theorem dX13_search_52 : decode cX13_search 52 = .ok (.iastore, 1) := by decide +kernel
theorem dX13_search_53 : decode cX13_search 53 = .ok (.iload_n 3, 1) := by decide +kernel
theorem dX13_search_54 : decode cX13_search 54 = .ok (.ifCond .lt 209, 3) := by decide +kernel
theorem dX13_search_57 : decode cX13_search 57 = .ok (.iconst 1, 1) := by decide +kernel
theorem dX13_search_58 : decode cX13_search 58 = .ok (.istore 5, 2) := by decide +kernel
theorem dX13_search_60 : decode cX13_search 60 = .ok (.iload_n 3, 1) := by decide +kernel
theorem dX13_search_61 : decode cX13_search 61 = .ok (.iload_n 1, 1) := by decide +kernel
theorem dX13_search_62 : decode cX13_search 62 = .ok (.if_icmp .ne 13, 3) := by decide +kernel
theorem dX13_search_65 : decode cX13_search 65 = .ok (.aload_n 0, 1) := by decide +kernel
theorem dX13_search_66 : decode cX13_search 66 = .ok (.iload_n 3, 1) := by decide +kernel
theorem dX13_search_67 : decode cX13_search 67 = .ok (.invokevirtual 320, 3) := by decide +kernel
theorem dX13_search_70 : decode cX13_search 70 = .ok (.istore 4, 2) := by decide +kernel
theorem dX13_search_72 : decode cX13_search 72 = .ok (.goto 105, 3) := by decide +kernel
theorem dX13_search_75 : decode cX13_search 75 = .ok (.aload_n 0, 1) := by decide +kernel
theorem dX13_search_76 : decode cX13_search 76 = .ok (.getfield 49, 3) := by decide +kernel
theorem dX13_search_79 : decode cX13_search 79 = .ok (.iload_n 3, 1) := by decide +kernel
theorem dX13_search_80 : decode cX13_search 80 = .ok (.iaload, 1) := by decide +kernel
theorem dX13_search_81 : decode cX13_search 81 = .ok (.ifCond .ne 13, 3) := by decide +kernel
theorem dX13_search_84 : decode cX13_search 84 = .ok (.aload_n 0, 1) := by decide +kernel
theorem dX13_search_85 : decode cX13_search 85 = .ok (.iload_n 3, 1) := by decide +kernel
theorem dX13_search_86 : decode cX13_search 86 = .ok (.invokevirtual 320, 3) := by decide +kernel
theorem dX13_search_89 : decode cX13_search 89 = .ok (.istore 4, 2) := by decide +kernel
theorem dX13_search_91 : decode cX13_search 91 = .ok (.goto 86, 3) := by decide +kernel
theorem dX13_search_94 : decode cX13_search 94 = .ok (.aload_n 0, 1) := by decide +kernel
theorem dX13_search_95 : decode cX13_search 95 = .ok (.getfield 52, 3) := by decide +kernel
theorem dX13_search_98 : decode cX13_search 98 = .ok (.iload_n 3, 1) := by decide +kernel
theorem dX13_search_99 : decode cX13_search 99 = .ok (.iaload, 1) := by decide +kernel
theorem dX13_search_100 : decode cX13_search 100 = .ok (.aload_n 0, 1) := by decide +kernel
theorem dX13_search_101 : decode cX13_search 101 = .ok (.getfield 49, 3) := by decide +kernel
theorem dX13_search_104 : decode cX13_search 104 = .ok (.iload_n 3, 1) := by decide +kernel
theorem dX13_search_105 : decode cX13_search 105 = .ok (.iaload, 1) := by decide +kernel
theorem dX13_search_106 : decode cX13_search 106 = .ok (.if_icmp .ne 14, 3) := by decide +kernel
theorem dX13_search_109 : decode cX13_search 109 = .ok (.aload_n 0, 1) := by decide +kernel
theorem dX13_search_110 : decode cX13_search 110 = .ok (.getfield 55, 3) := by decide +kernel
theorem dX13_search_113 : decode cX13_search 113 = .ok (.iload_n 3, 1) := by decide +kernel
theorem dX13_search_114 : decode cX13_search 114 = .ok (.iaload, 1) := by decide +kernel
theorem dX13_search_115 : decode cX13_search 115 = .ok (.istore 4, 2) := by decide +kernel
theorem dX13_search_117 : decode cX13_search 117 = .ok (.goto 60, 3) := by decide +kernel
theorem dX13_search_120 : decode cX13_search 120 = .ok (.iconst 0, 1) := by decide +kernel
theorem dX13_search_121 : decode cX13_search 121 = .ok (.istore 5, 2) := by decide +kernel
theorem dX13_search_123 : decode cX13_search 123 = .ok (.aload_n 0, 1) := by decide +kernel
theorem dX13_search_124 : decode cX13_search 124 = .ok (.bipush 69, 2) := by decide +kernel
theorem dX13_search_126 : decode cX13_search 126 = .ok (.iload_n 3, 1) := by decide +kernel
theorem dX13_search_127 : decode cX13_search 127 = .ok (.imul, 1) := by decide +kernel
theorem dX13_search_128 : decode cX13_search 128 = .ok (.aload_n 0, 1) := by decide +kernel
theorem dX13_search_129 : decode cX13_search 129 = .ok (.getfield 46, 3) := by decide +kernel
theorem dX13_search_132 : decode cX13_search 132 = .ok (.sipush 330, 3) := by decide +kernel
theorem dX13_search_135 : decode cX13_search 135 = .ok (.iload_n 3, 1) := by decide +kernel
theorem dX13_search_136 : decode cX13_search 136 = .ok (.imul, 1) := by decide +kernel
theorem dX13_search_137 : decode cX13_search 137 = .ok (.aload_n 0, 1) := by decide +kernel
theorem dX13_search_138 : decode cX13_search 138 = .ok (.getfield 52, 3) := by decide +kernel
theorem dX13_search_141 : decode cX13_search 141 = .ok (.iload_n 3, 1) := by decide +kernel
theorem dX13_search_142 : decode cX13_search 142 = .ok (.iaload, 1) := by decide +kernel
theorem dX13_search_143 : decode cX13_search 143 = .ok (.iadd, 1) := by decide +kernel
theorem dX13_search_144 : decode cX13_search 144 = .ok (.iaload, 1) := by decide +kernel
theorem dX13_search_145 : decode cX13_search 145 = .ok (.invokevirtual 112, 3) := by decide +kernel
theorem dX13_search_148 : decode cX13_search 148 = .ok (.iinc 3 1, 3) := by decide +kernel
theorem dX13_search_151 : decode cX13_search 151 = .ok (.aload_n 0, 1) := by decide +kernel
theorem dX13_search_152 : decode cX13_search 152 = .ok (.getfield 52, 3) := by decide +kernel
theorem dX13_search_155 : decode cX13_search 155 = .ok (.iload_n 3, 1) := by decide +kernel
theorem dX13_search_156 : decode cX13_search 156 = .ok (.iconst 0, 1) := by decide +kernel
theorem dX13_search_157 : decode cX13_search 157 = .ok (.iastore, 1) := by decide +kernel
theorem dX13_search_158 : decode cX13_search 158 = .ok (.aload_n 0, 1) := by decide +kernel
theorem dX13_search_159 : decode cX13_search 159 = .ok (.getfield 55, 3) := by decide +kernel
theorem dX13_search_162 : decode cX13_search 162 = .ok (.iload_n 3, 1) := by decide +kernel
theorem dX13_search_163 : decode cX13_search 163 = .ok (.sipush (-2000), 3) := by decide +kernel
theorem dX13_search_166 : decode cX13_search 166 = .ok (.iastore, 1) := by decide +kernel
theorem dX13_search_167 : decode cX13_search 167 = .ok (.iload_n 3, 1) := by decide +kernel
theorem dX13_search_168 : decode cX13_search 168 = .ok (.iload_n 1, 1) := by decide +kernel
theorem dX13_search_169 : decode cX13_search 169 = .ok (.if_icmp .ge 8, 3) := by decide +kernel
theorem dX13_search_172 : decode cX13_search 172 = .ok (.aload_n 0, 1) := by decide +kernel
theorem dX13_search_173 : decode cX13_search 173 = .ok (.iload_n 3, 1) := by decide +kernel
theorem dX13_search_174 : decode cX13_search 174 = .ok (.invokevirtual 130, 3) := by decide +kernel
theorem dX13_search_177 : decode cX13_search 177 = .ok (.iload 5, 2) := by decide +kernel
theorem dX13_search_179 : decode cX13_search 179 = .ok (.ifCond .eq 81, 3) := by decide +kernel
theorem dX13_search_182 : decode cX13_search 182 = .ok (.iinc 3 (-1), 3) := by decide +kernel
theorem dX13_search_185 : decode cX13_search 185 = .ok (.iload_n 3, 1) := by decide +kernel
theorem dX13_search_186 : decode cX13_search 186 = .ok (.ifCond .lt 74, 3) := by decide +kernel
theorem dX13_search_189 : decode cX13_search 189 = .ok (.iload 4, 2) := by decide +kernel
theorem dX13_search_191 : decode cX13_search 191 = .ok (.invokestatic 323, 3) := by decide +kernel
theorem dX13_search_194 : decode cX13_search 194 = .ok (.istore 6, 2) := by decide +kernel
theorem dX13_search_196 : decode cX13_search 196 = .ok (.iload_n 3, 1) := by decide +kernel
theorem dX13_search_197 : decode cX13_search 197 = .ok (.ifCond .ne 23, 3) := by decide +kernel
theorem dX13_search_200 : decode cX13_search 200 = .ok (.iload 6, 2) := by decide +kernel
theorem dX13_search_202 : decode cX13_search 202 = .ok (.aload_n 0, 1) := by decide +kernel
theorem dX13_search_203 : decode cX13_search 203 = .ok (.getfield 55, 3) := by decide +kernel
theorem dX13_search_206 : decode cX13_search 206 = .ok (.iconst 0, 1) := by decide +kernel
theorem dX13_search_207 : decode cX13_search 207 = .ok (.iaload, 1) := by decide +kernel
theorem dX13_search_208 : decode cX13_search 208 = .ok (.if_icmp .le 12, 3) := by decide +kernel
theorem dX13_search_211 : decode cX13_search 211 = .ok (.aload_n 0, 1) := by decide +kernel
theorem dX13_search_212 : decode cX13_search 212 = .ok (.getfield 52, 3) := by decide +kernel
theorem dX13_search_215 : decode cX13_search 215 = .ok (.iconst 0, 1) := by decide +kernel
theorem dX13_search_216 : decode cX13_search 216 = .ok (.iaload, 1) := by decide +kernel
theorem dX13_search_217 : decode cX13_search 217 = .ok (.goto 4, 3) := by decide +kernel
theorem dX13_search_220 : decode cX13_search 220 = .ok (.iload_n 2, 1) := by decide +kernel
theorem dX13_search_221 : decode cX13_search 221 = .ok (.istore_n 2, 1) := by decide +kernel
theorem dX13_search_222 : decode cX13_search 222 = .ok (.aload_n 0, 1) := by decide +kernel
theorem dX13_search_223 : decode cX13_search 223 = .ok (.getfield 55, 3) := by decide +kernel
theorem dX13_search_226 : decode cX13_search 226 = .ok (.iload_n 3, 1) := by decide +kernel
theorem dX13_search_227 : decode cX13_search 227 = .ok (.iload 6, 2) := by decide +kernel
theorem dX13_search_229 : decode cX13_search 229 = .ok (.aload_n 0, 1) := by decide +kernel
theorem dX13_search_230 : decode cX13_search 230 = .ok (.getfield 55, 3) := by decide +kernel
theorem dX13_search_233 : decode cX13_search 233 = .ok (.iload_n 3, 1) := by decide +kernel
theorem dX13_search_234 : decode cX13_search 234 = .ok (.iaload, 1) := by decide +kernel
theorem dX13_search_235 : decode cX13_search 235 = .ok (.if_icmp .le 8, 3) := by decide +kernel
theorem dX13_search_238 : decode cX13_search 238 = .ok (.iload 6, 2) := by decide +kernel
theorem dX13_search_240 : decode cX13_search 240 = .ok (.goto 9, 3) := by decide +kernel
theorem dX13_search_243 : decode cX13_search 243 = .ok (.aload_n 0, 1) := by decide +kernel
theorem dX13_search_244 : decode cX13_search 244 = .ok (.getfield 55, 3) := by decide +kernel
theorem dX13_search_247 : decode cX13_search 247 = .ok (.iload_n 3, 1) := by decide +kernel
theorem dX13_search_248 : decode cX13_search 248 = .ok (.iaload, 1) := by decide +kernel
theorem dX13_search_249 : decode cX13_search 249 = .ok (.iastore, 1) := by decide +kernel
theorem dX13_search_250 : decode cX13_search 250 = .ok (.aload_n 0, 1) := by decide +kernel
theorem dX13_search_251 : decode cX13_search 251 = .ok (.getfield 52, 3) := by decide +kernel
theorem dX13_search_254 : decode cX13_search 254 = .ok (.iload_n 3, 1) := by decide +kernel
theorem dX13_search_255 : decode cX13_search 255 = .ok (.dup2, 1) := by decide +kernel
theorem dX13_search_256 : decode cX13_search 256 = .ok (.iaload, 1) := by decide +kernel
theorem dX13_search_257 : decode cX13_search 257 = .ok (.iconst 1, 1) := by decide +kernel
theorem dX13_search_258 : decode cX13_search 258 = .ok (.iadd, 1) := by decide +kernel
theorem dX13_search_259 : decode cX13_search 259 = .ok (.iastore, 1) := by decide +kernel
theorem dX13_search_260 : decode cX13_search 260 = .ok (.goto (-207), 3) := by decide +kernel
theorem dX13_search_263 : decode cX13_search 263 = .ok (.aload_n 0, 1) := by decide +kernel
theorem dX13_search_264 : decode cX13_search 264 = .ok (.getfield 55, 3) := by decide +kernel
theorem dX13_search_267 : decode cX13_search 267 = .ok (.iconst 0, 1) := by decide +kernel
theorem dX13_search_268 : decode cX13_search 268 = .ok (.iload_n 2, 1) := by decide +kernel
theorem dX13_search_269 : decode cX13_search 269 = .ok (.iastore, 1) := by decide +kernel
theorem dX13_search_270 : decode cX13_search 270 = .ok (.iload 4, 2) := by decide +kernel
theorem dX13_search_272 : decode cX13_search 272 = .ok (.ireturn, 1) := by decide +kernel
def kX13_search_4 (mc ms : Nat) (X : Nat → zV) (Q : zQt) : zT :=
  zc (.int (-1)) <| zsi 2 <| zli 1 <| zif (fun x => x = 0) (zj X 19 [0]) <| zla 0 <| zgR 13 18 <| zc (.int 0) <| zal 1 <| zif (fun x => x = 0) (zj X 19 [0]) <| zc (.int 0) <| zsi 3 <| zc (.int 0) <| zsi 4 <| zla 0 <| zgR 13 19 <| zc (.int 0) <| zc (.int 0) <| zas 1 (fun x => x) <| zla 0 <| zgR 13 20 <| zc (.int 0) <| zc (.int (-2000)) <| zas 1 (fun x => x) <| zj X 53 [0, 1, 2, 3, 4]
def kX13_search_31 (mc ms : Nat) (X : Nat → zV) (Q : zQt) : zT :=
  zri Q
def kX13_search_177 (mc ms : Nat) (X : Nat → zV) (Q : zQt) : zT :=
  zj X 177 [0, 1, 2, 3, 4, 5]
def kX13_search_148 (mc ms : Nat) (X : Nat → zV) (Q : zQt) : zT :=
  zinc 3 1 <| zla 0 <| zgR 13 19 <| zli 3 <| zc (.int 0) <| zas 1 (fun x => x) <| zla 0 <| zgR 13 20 <| zli 3 <| zc (.int (-2000)) <| zas 1 (fun x => x) <| zli 3 <| zli 1 <| zic (fun x y => y ≤ x) (zj X 177 [0, 1, 2, 3, 4, 5]) <| zla 0 <| zli 3 <| zcv mc ms 13 1 wX13_fill <| kX13_search_177 mc ms X Q
def kX13_search_117 (mc ms : Nat) (X : Nat → zV) (Q : zQt) : zT :=
  zj X 177 [0, 1, 2, 3, 4, 5]
def kX13_search_89 (mc ms : Nat) (X : Nat → zV) (Q : zQt) : zT :=
  zsi 4 <| zj X 177 [0, 1, 2, 3, 4, 5]
def kX13_search_70 (mc ms : Nat) (X : Nat → zV) (Q : zQt) : zT :=
  zsi 4 <| zj X 177 [0, 1, 2, 3, 4, 5]
def kX13_search_194 (mc ms : Nat) (X : Nat → zV) (Q : zQt) : zT :=
  zsi 6 <| zli 3 <| zif (fun x => x = 0) (zli 6 <| zla 0 <| zgR 13 20 <| zc (.int 0) <| zal 1 <| zic (fun x y => x ≤ y) (zj X 220 [0, 1, 2, 3, 4, 6]) <| zla 0 <| zgR 13 19 <| zc (.int 0) <| zal 1 <| zj X 221 [0, 1, 3, 4, 6]) <| zj X 220 [0, 1, 2, 3, 4, 6]
def aX13_search_0 (mc ms : Nat) (X : Nat → zV) (Q : zQt) : zT :=
  zla 0 <| zcv mc ms 13 0 wX13_show <| kX13_search_4 mc ms X Q
def aX13_search_19 (mc ms : Nat) (X : Nat → zV) (Q : zQt) : zT :=
  zla 0 <| zgR 13 20 <| zc (.int 0) <| zc (.int (-1)) <| zas 1 (fun x => x) <| zla 0 <| zc (.int 0) <| zcv mc ms 13 1 wX13_still <| kX13_search_31 mc ms X Q
def aX13_search_53 (mc ms : Nat) (X : Nat → zV) (Q : zQt) : zT :=
  zli 3 <| zif (fun x => x < 0) (zla 0 <| zgR 13 20 <| zc (.int 0) <| zli 2 <| zas 1 (fun x => x) <| zli 4 <| zri Q) <| zc (.int 1) <| zsi 5 <| zli 3 <| zli 1 <| zic (fun x y => x = y) (zla 0 <| zli 3 <| zcv mc ms 13 1 wX13_still <| kX13_search_70 mc ms X Q) <| zla 0 <| zgR 13 18 <| zli 3 <| zal 1 <| zif (fun x => x = 0) (zla 0 <| zli 3 <| zcv mc ms 13 1 wX13_still <| kX13_search_89 mc ms X Q) <| zla 0 <| zgR 13 19 <| zli 3 <| zal 1 <| zla 0 <| zgR 13 18 <| zli 3 <| zal 1 <| zic (fun x y => x = y) (zla 0 <| zgR 13 20 <| zli 3 <| zal 1 <| zsiN 4 <| kX13_search_117 mc ms X Q) <| zc (.int 0) <| zsi 5 <| zla 0 <| zc (.int 69) <| zli 3 <| zii (fun x y => x * y) <| zla 0 <| zgR 13 17 <| zc (.int 330) <| zli 3 <| zii (fun x y => x * y) <| zla 0 <| zgR 13 19 <| zli 3 <| zal 1 <| zii (fun x y => x + y) <| zal 1 <| zcv mc ms 13 2 wX13_make <| kX13_search_148 mc ms X Q
def aX13_search_177 (mc ms : Nat) (X : Nat → zV) (Q : zQt) : zT :=
  zli 5 <| zif (fun x => x = 0) (zj X 260 [0, 1, 2, 3, 4]) <| zinc 3 (-1) <| zli 3 <| zif (fun x => x < 0) (zj X 260 [0, 1, 2, 3, 4]) <| zli 4 <| zcs mc ms 1 wX13_back <| kX13_search_194 mc ms X Q
def aX13_search_220 (mc ms : Nat) (X : Nat → zV) (Q : zQt) : zT :=
  zli 2 <| zj X 221 [0, 1, 3, 4, 6]
def aX13_search_221 (mc ms : Nat) (X : Nat → zV) (Q : zQt) : zT :=
  zsi 2 <| zla 0 <| zgR 13 20 <| zli 3 <| zli 6 <| zla 0 <| zgR 13 20 <| zli 3 <| zal 1 <| zic (fun x y => x ≤ y) (zla 0 <| zgR 13 20 <| zli 3 <| zal 1 <| zj X 249 [0, 1, 2, 3, 4]) <| zli 6 <| zj X 249 [0, 1, 2, 3, 4]
def aX13_search_249 (mc ms : Nat) (X : Nat → zV) (Q : zQt) : zT :=
  zas 1 (fun x => x) <| zla 0 <| zgR 13 19 <| zli 3 <| zdp2 <| zal 1 <| zc (.int 1) <| zii (fun x y => x + y) <| zas 1 (fun x => x) <| zj X 260 [0, 1, 2, 3, 4]
def aX13_search_260 (mc ms : Nat) (X : Nat → zV) (Q : zQt) : zT :=
  zj X 53 [0, 1, 2, 3, 4]
def lvX13_search : Nat → List Nat := fun L => match L with
  | 0 => [0, 1]
  | 19 => [0]
  | 53 => [0, 1, 2, 3, 4]
  | 177 => [0, 1, 2, 3, 4, 5]
  | 220 => [0, 1, 2, 3, 4, 6]
  | 221 => [0, 1, 3, 4, 6]
  | 249 => [0, 1, 2, 3, 4]
  | 260 => [0, 1, 2, 3, 4]
  | _ => []
def wX13_search : zSp := fun mc ms av M Q => ((zlay av).length ≤ 7 ∧ zpick (zlay av) [0, 1] = some av) ∧ ∀ X : Nat → zV, zin 7 [0, 1] (aX13_search_0 mc ms X Q) X 0 → zin 7 [0] (aX13_search_19 mc ms X Q) X 19 → zin 7 [0, 1, 2, 3, 4] (aX13_search_53 mc ms X Q) X 53 → zin 7 [0, 1, 2, 3, 4, 5] (aX13_search_177 mc ms X Q) X 177 → zin 7 [0, 1, 2, 3, 4, 6] (aX13_search_220 mc ms X Q) X 220 → zin 7 [0, 1, 3, 4, 6] (aX13_search_221 mc ms X Q) X 221 → zin 7 [0, 1, 2, 3, 4] (aX13_search_249 mc ms X Q) X 249 → zin 7 [0, 1, 2, 3, 4] (aX13_search_260 mc ms X Q) X 260 → X 0 0 0 av [] M
set_option maxRecDepth 100000 in
set_option maxHeartbeats 4000000 in
theorem sX13_search (l : Launch) (G : zG) : zSnd l G yX13_search cX13_search 7 (some .int) 8 206 wX13_search := by
  refine zmk [0, 1] (by decide) (fun mc ms av M Q h => h.1) ?_
  intro p e R s m args below meth c mc ms av M Q hC hRf hRl hr hnm h lv hlv
  obtain ⟨X, hXe⟩ : ∃ X : Nat → zV, X = fun L u v vs st M => ∀ lv, zpick lv (lvX13_search L) = some vs → zAt p l e R s m args below meth c (MQ below (zQ G Q) args s mc ms (zA G)) G 7 L u v lv st M := ⟨_, rfl⟩
  have hJ : ∀ L, zOk p l e R s m args below meth c (MQ below (zQ G Q) args s mc ms (zA G)) G 7 L (zj X L (lvX13_search L)) := fun L => S_jump (fun u v lv vs st M hp hx => by rw [hXe] at hx; exact hx lv hp)
  have hB0 : zin 7 [0, 1] (aX13_search_0 mc ms X Q) X 0 := by
    intro u v vs st M hb
    rw [hXe]
    refine fun lv hp => S_block (L := 0) (live := [0, 1]) ?_ u v lv vs st M hp hb
    unfold aX13_search_0
    refine S_aload_n (pc := 0) hC dX13_search_0 rfl ?_
    refine S_callV (pc := 1) hC (sX13_show l G) rfl wd_1585 wd_1587 ws_103 wd_12 wd_1588 (by decide +kernel) ⟨by rw [hRf]; decide, by rw [hRl]; decide⟩ dX13_search_1 ?_
    unfold kX13_search_4
    refine S_iconst (pc := 4) hC dX13_search_4 (by decide) ?_
    refine S_istore_n (pc := 5) hC dX13_search_5 rfl (by decide) ?_
    refine S_iload_n (pc := 6) hC dX13_search_6 rfl ?_
    refine S_if_eq (pc := 7) (tgt := 19) hC dX13_search_7 (by decide) ?_ ?_
    · exact hJ 19
    · refine S_aload_n (pc := 10) hC dX13_search_10 rfl ?_
      refine S_getR (pc := 11) hC cfX13 (by decide) (Or.inr ⟨_, rfl⟩) wd_1273 dX13_search_11 ?_
      refine S_iconst (pc := 14) hC dX13_search_14 (by decide) ?_
      refine S_iaload (pc := 15) hC dX13_search_15 ?_
      refine S_if_ne (pc := 16) (tgt := 32) hC dX13_search_16 (by decide) ?_ ?_
      · refine S_iconst (pc := 32) hC dX13_search_32 (by decide) ?_
        refine S_istore_n (pc := 33) hC dX13_search_33 rfl (by decide) ?_
        refine S_iconst (pc := 34) hC dX13_search_34 (by decide) ?_
        refine S_istore (pc := 35) hC dX13_search_35 (by decide) ?_
        refine S_aload_n (pc := 37) hC dX13_search_37 rfl ?_
        refine S_getR (pc := 38) hC cfX13 (by decide) (Or.inr ⟨_, rfl⟩) wd_1274 dX13_search_38 ?_
        refine S_iconst (pc := 41) hC dX13_search_41 (by decide) ?_
        refine S_iconst (pc := 42) hC dX13_search_42 (by decide) ?_
        refine S_iastore (pc := 43) hC dX13_search_43 ?_
        refine S_aload_n (pc := 44) hC dX13_search_44 rfl ?_
        refine S_getR (pc := 45) hC cfX13 (by decide) (Or.inr ⟨_, rfl⟩) wd_1275 dX13_search_45 ?_
        refine S_iconst (pc := 48) hC dX13_search_48 (by decide) ?_
        refine S_sipush (pc := 49) hC dX13_search_49 (by decide) ?_
        refine S_iastore (pc := 52) hC dX13_search_52 ?_
        exact hJ 53
      · exact hJ 19
  have hB19 : zin 7 [0] (aX13_search_19 mc ms X Q) X 19 := by
    intro u v vs st M hb
    rw [hXe]
    refine fun lv hp => S_block (L := 19) (live := [0]) ?_ u v lv vs st M hp hb
    unfold aX13_search_19
    refine S_aload_n (pc := 19) hC dX13_search_19 rfl ?_
    refine S_getR (pc := 20) hC cfX13 (by decide) (Or.inr ⟨_, rfl⟩) wd_1275 dX13_search_20 ?_
    refine S_iconst (pc := 23) hC dX13_search_23 (by decide) ?_
    refine S_iconst (pc := 24) hC dX13_search_24 (by decide) ?_
    refine S_iastore (pc := 25) hC dX13_search_25 ?_
    refine S_aload_n (pc := 26) hC dX13_search_26 rfl ?_
    refine S_iconst (pc := 27) hC dX13_search_27 (by decide) ?_
    refine S_callV (pc := 28) hC (sX13_still l G) rfl wd_1661 wd_1663 ws_113 wd_12 wd_1664 (by decide +kernel) ⟨by rw [hRf]; decide, by rw [hRl]; decide⟩ dX13_search_28 ?_
    unfold kX13_search_31
    exact S_ireturn (pc := 31) hC hr dX13_search_31
  have hB53 : zin 7 [0, 1, 2, 3, 4] (aX13_search_53 mc ms X Q) X 53 := by
    intro u v vs st M hb
    rw [hXe]
    refine fun lv hp => S_block (L := 53) (live := [0, 1, 2, 3, 4]) ?_ u v lv vs st M hp hb
    unfold aX13_search_53
    refine S_iload_n (pc := 53) hC dX13_search_53 rfl ?_
    refine S_if_lt (pc := 54) (tgt := 263) hC dX13_search_54 (by decide) ?_ ?_
    · refine S_aload_n (pc := 263) hC dX13_search_263 rfl ?_
      refine S_getR (pc := 264) hC cfX13 (by decide) (Or.inr ⟨_, rfl⟩) wd_1275 dX13_search_264 ?_
      refine S_iconst (pc := 267) hC dX13_search_267 (by decide) ?_
      refine S_iload_n (pc := 268) hC dX13_search_268 rfl ?_
      refine S_iastore (pc := 269) hC dX13_search_269 ?_
      refine S_iload (pc := 270) hC dX13_search_270 ?_
      exact S_ireturn (pc := 272) hC hr dX13_search_272
    · refine S_iconst (pc := 57) hC dX13_search_57 (by decide) ?_
      refine S_istore (pc := 58) hC dX13_search_58 (by decide) ?_
      refine S_iload_n (pc := 60) hC dX13_search_60 rfl ?_
      refine S_iload_n (pc := 61) hC dX13_search_61 rfl ?_
      refine S_icmp_ne (pc := 62) (tgt := 75) hC dX13_search_62 (by decide) ?_ ?_
      · refine S_aload_n (pc := 75) hC dX13_search_75 rfl ?_
        refine S_getR (pc := 76) hC cfX13 (by decide) (Or.inr ⟨_, rfl⟩) wd_1273 dX13_search_76 ?_
        refine S_iload_n (pc := 79) hC dX13_search_79 rfl ?_
        refine S_iaload (pc := 80) hC dX13_search_80 ?_
        refine S_if_ne (pc := 81) (tgt := 94) hC dX13_search_81 (by decide) ?_ ?_
        · refine S_aload_n (pc := 94) hC dX13_search_94 rfl ?_
          refine S_getR (pc := 95) hC cfX13 (by decide) (Or.inr ⟨_, rfl⟩) wd_1274 dX13_search_95 ?_
          refine S_iload_n (pc := 98) hC dX13_search_98 rfl ?_
          refine S_iaload (pc := 99) hC dX13_search_99 ?_
          refine S_aload_n (pc := 100) hC dX13_search_100 rfl ?_
          refine S_getR (pc := 101) hC cfX13 (by decide) (Or.inr ⟨_, rfl⟩) wd_1273 dX13_search_101 ?_
          refine S_iload_n (pc := 104) hC dX13_search_104 rfl ?_
          refine S_iaload (pc := 105) hC dX13_search_105 ?_
          refine S_icmp_ne (pc := 106) (tgt := 120) hC dX13_search_106 (by decide) ?_ ?_
          · refine S_iconst (pc := 120) hC dX13_search_120 (by decide) ?_
            refine S_istore (pc := 121) hC dX13_search_121 (by decide) ?_
            refine S_aload_n (pc := 123) hC dX13_search_123 rfl ?_
            refine S_bipush (pc := 124) hC dX13_search_124 (by decide) ?_
            refine S_iload_n (pc := 126) hC dX13_search_126 rfl ?_
            refine S_imul (pc := 127) hC dX13_search_127 ?_
            refine S_aload_n (pc := 128) hC dX13_search_128 rfl ?_
            refine S_getR (pc := 129) hC cfX13 (by decide) (Or.inr ⟨_, rfl⟩) wd_1272 dX13_search_129 ?_
            refine S_sipush (pc := 132) hC dX13_search_132 (by decide) ?_
            refine S_iload_n (pc := 135) hC dX13_search_135 rfl ?_
            refine S_imul (pc := 136) hC dX13_search_136 ?_
            refine S_aload_n (pc := 137) hC dX13_search_137 rfl ?_
            refine S_getR (pc := 138) hC cfX13 (by decide) (Or.inr ⟨_, rfl⟩) wd_1274 dX13_search_138 ?_
            refine S_iload_n (pc := 141) hC dX13_search_141 rfl ?_
            refine S_iaload (pc := 142) hC dX13_search_142 ?_
            refine S_iadd (pc := 143) hC dX13_search_143 ?_
            refine S_iaload (pc := 144) hC dX13_search_144 ?_
            refine S_callV (pc := 145) hC (sX13_make l G) rfl wd_1471 wd_1473 ws_79 wd_12 wd_1474 (by decide +kernel) ⟨by rw [hRf]; decide, by rw [hRl]; decide⟩ dX13_search_145 ?_
            unfold kX13_search_148
            refine S_iinc (pc := 148) hC dX13_search_148 (by decide) (by decide) ?_
            refine S_aload_n (pc := 151) hC dX13_search_151 rfl ?_
            refine S_getR (pc := 152) hC cfX13 (by decide) (Or.inr ⟨_, rfl⟩) wd_1274 dX13_search_152 ?_
            refine S_iload_n (pc := 155) hC dX13_search_155 rfl ?_
            refine S_iconst (pc := 156) hC dX13_search_156 (by decide) ?_
            refine S_iastore (pc := 157) hC dX13_search_157 ?_
            refine S_aload_n (pc := 158) hC dX13_search_158 rfl ?_
            refine S_getR (pc := 159) hC cfX13 (by decide) (Or.inr ⟨_, rfl⟩) wd_1275 dX13_search_159 ?_
            refine S_iload_n (pc := 162) hC dX13_search_162 rfl ?_
            refine S_sipush (pc := 163) hC dX13_search_163 (by decide) ?_
            refine S_iastore (pc := 166) hC dX13_search_166 ?_
            refine S_iload_n (pc := 167) hC dX13_search_167 rfl ?_
            refine S_iload_n (pc := 168) hC dX13_search_168 rfl ?_
            refine S_icmp_ge (pc := 169) (tgt := 177) hC dX13_search_169 (by decide) ?_ ?_
            · exact hJ 177
            · refine S_aload_n (pc := 172) hC dX13_search_172 rfl ?_
              refine S_iload_n (pc := 173) hC dX13_search_173 rfl ?_
              refine S_callV (pc := 174) hC (sX13_fill l G) rfl wd_1443 wd_1445 ws_72 wd_12 wd_1446 (by decide +kernel) ⟨by rw [hRf]; decide, by rw [hRl]; decide⟩ dX13_search_174 ?_
              unfold kX13_search_177
              exact hJ 177
          · refine S_aload_n (pc := 109) hC dX13_search_109 rfl ?_
            refine S_getR (pc := 110) hC cfX13 (by decide) (Or.inr ⟨_, rfl⟩) wd_1275 dX13_search_110 ?_
            refine S_iload_n (pc := 113) hC dX13_search_113 rfl ?_
            refine S_iaload (pc := 114) hC dX13_search_114 ?_
            refine S_istore_N (pc := 115) hC dX13_search_115 (by decide) ?_
            unfold kX13_search_117
            refine S_goto (pc := 117) (tgt := 177) hC dX13_search_117 (by decide) ?_
            exact hJ 177
        · refine S_aload_n (pc := 84) hC dX13_search_84 rfl ?_
          refine S_iload_n (pc := 85) hC dX13_search_85 rfl ?_
          refine S_callV (pc := 86) hC (sX13_still l G) rfl wd_1661 wd_1663 ws_113 wd_12 wd_1664 (by decide +kernel) ⟨by rw [hRf]; decide, by rw [hRl]; decide⟩ dX13_search_86 ?_
          unfold kX13_search_89
          refine S_istore (pc := 89) hC dX13_search_89 (by decide) ?_
          refine S_goto (pc := 91) (tgt := 177) hC dX13_search_91 (by decide) ?_
          exact hJ 177
      · refine S_aload_n (pc := 65) hC dX13_search_65 rfl ?_
        refine S_iload_n (pc := 66) hC dX13_search_66 rfl ?_
        refine S_callV (pc := 67) hC (sX13_still l G) rfl wd_1661 wd_1663 ws_113 wd_12 wd_1664 (by decide +kernel) ⟨by rw [hRf]; decide, by rw [hRl]; decide⟩ dX13_search_67 ?_
        unfold kX13_search_70
        refine S_istore (pc := 70) hC dX13_search_70 (by decide) ?_
        refine S_goto (pc := 72) (tgt := 177) hC dX13_search_72 (by decide) ?_
        exact hJ 177
  have hB177 : zin 7 [0, 1, 2, 3, 4, 5] (aX13_search_177 mc ms X Q) X 177 := by
    intro u v vs st M hb
    rw [hXe]
    refine fun lv hp => S_block (L := 177) (live := [0, 1, 2, 3, 4, 5]) ?_ u v lv vs st M hp hb
    unfold aX13_search_177
    refine S_iload (pc := 177) hC dX13_search_177 ?_
    refine S_if_eq (pc := 179) (tgt := 260) hC dX13_search_179 (by decide) ?_ ?_
    · exact hJ 260
    · refine S_iinc (pc := 182) hC dX13_search_182 (by decide) (by decide) ?_
      refine S_iload_n (pc := 185) hC dX13_search_185 rfl ?_
      refine S_if_lt (pc := 186) (tgt := 260) hC dX13_search_186 (by decide) ?_ ?_
      · exact hJ 260
      · refine S_iload (pc := 189) hC dX13_search_189 ?_
        refine S_callS (pc := 191) hC (sX13_back l G) wd_1669 wd_1670 wd_12 wd_1671 (by decide +kernel) ⟨by rw [hRf]; decide, by rw [hRl]; decide⟩ dX13_search_191 ?_
        unfold kX13_search_194
        refine S_istore (pc := 194) hC dX13_search_194 (by decide) ?_
        refine S_iload_n (pc := 196) hC dX13_search_196 rfl ?_
        refine S_if_ne (pc := 197) (tgt := 220) hC dX13_search_197 (by decide) ?_ ?_
        · exact hJ 220
        · refine S_iload (pc := 200) hC dX13_search_200 ?_
          refine S_aload_n (pc := 202) hC dX13_search_202 rfl ?_
          refine S_getR (pc := 203) hC cfX13 (by decide) (Or.inr ⟨_, rfl⟩) wd_1275 dX13_search_203 ?_
          refine S_iconst (pc := 206) hC dX13_search_206 (by decide) ?_
          refine S_iaload (pc := 207) hC dX13_search_207 ?_
          refine S_icmp_le (pc := 208) (tgt := 220) hC dX13_search_208 (by decide) ?_ ?_
          · exact hJ 220
          · refine S_aload_n (pc := 211) hC dX13_search_211 rfl ?_
            refine S_getR (pc := 212) hC cfX13 (by decide) (Or.inr ⟨_, rfl⟩) wd_1274 dX13_search_212 ?_
            refine S_iconst (pc := 215) hC dX13_search_215 (by decide) ?_
            refine S_iaload (pc := 216) hC dX13_search_216 ?_
            refine S_goto (pc := 217) (tgt := 221) hC dX13_search_217 (by decide) ?_
            exact hJ 221
  have hB220 : zin 7 [0, 1, 2, 3, 4, 6] (aX13_search_220 mc ms X Q) X 220 := by
    intro u v vs st M hb
    rw [hXe]
    refine fun lv hp => S_block (L := 220) (live := [0, 1, 2, 3, 4, 6]) ?_ u v lv vs st M hp hb
    unfold aX13_search_220
    refine S_iload_n (pc := 220) hC dX13_search_220 rfl ?_
    exact hJ 221
  have hB221 : zin 7 [0, 1, 3, 4, 6] (aX13_search_221 mc ms X Q) X 221 := by
    intro u v vs st M hb
    rw [hXe]
    refine fun lv hp => S_block (L := 221) (live := [0, 1, 3, 4, 6]) ?_ u v lv vs st M hp hb
    unfold aX13_search_221
    refine S_istore_n (pc := 221) hC dX13_search_221 rfl (by decide) ?_
    refine S_aload_n (pc := 222) hC dX13_search_222 rfl ?_
    refine S_getR (pc := 223) hC cfX13 (by decide) (Or.inr ⟨_, rfl⟩) wd_1275 dX13_search_223 ?_
    refine S_iload_n (pc := 226) hC dX13_search_226 rfl ?_
    refine S_iload (pc := 227) hC dX13_search_227 ?_
    refine S_aload_n (pc := 229) hC dX13_search_229 rfl ?_
    refine S_getR (pc := 230) hC cfX13 (by decide) (Or.inr ⟨_, rfl⟩) wd_1275 dX13_search_230 ?_
    refine S_iload_n (pc := 233) hC dX13_search_233 rfl ?_
    refine S_iaload (pc := 234) hC dX13_search_234 ?_
    refine S_icmp_le (pc := 235) (tgt := 243) hC dX13_search_235 (by decide) ?_ ?_
    · refine S_aload_n (pc := 243) hC dX13_search_243 rfl ?_
      refine S_getR (pc := 244) hC cfX13 (by decide) (Or.inr ⟨_, rfl⟩) wd_1275 dX13_search_244 ?_
      refine S_iload_n (pc := 247) hC dX13_search_247 rfl ?_
      refine S_iaload (pc := 248) hC dX13_search_248 ?_
      exact hJ 249
    · refine S_iload (pc := 238) hC dX13_search_238 ?_
      refine S_goto (pc := 240) (tgt := 249) hC dX13_search_240 (by decide) ?_
      exact hJ 249
  have hB249 : zin 7 [0, 1, 2, 3, 4] (aX13_search_249 mc ms X Q) X 249 := by
    intro u v vs st M hb
    rw [hXe]
    refine fun lv hp => S_block (L := 249) (live := [0, 1, 2, 3, 4]) ?_ u v lv vs st M hp hb
    unfold aX13_search_249
    refine S_iastore (pc := 249) hC dX13_search_249 ?_
    refine S_aload_n (pc := 250) hC dX13_search_250 rfl ?_
    refine S_getR (pc := 251) hC cfX13 (by decide) (Or.inr ⟨_, rfl⟩) wd_1274 dX13_search_251 ?_
    refine S_iload_n (pc := 254) hC dX13_search_254 rfl ?_
    refine S_dup2 (pc := 255) hC dX13_search_255 ?_
    refine S_iaload (pc := 256) hC dX13_search_256 ?_
    refine S_iconst (pc := 257) hC dX13_search_257 (by decide) ?_
    refine S_iadd (pc := 258) hC dX13_search_258 ?_
    refine S_iastore (pc := 259) hC dX13_search_259 ?_
    exact hJ 260
  have hB260 : zin 7 [0, 1, 2, 3, 4] (aX13_search_260 mc ms X Q) X 260 := by
    intro u v vs st M hb
    rw [hXe]
    refine fun lv hp => S_block (L := 260) (live := [0, 1, 2, 3, 4]) ?_ u v lv vs st M hp hb
    unfold aX13_search_260
    refine S_goto (pc := 260) (tgt := 53) hC dX13_search_260 (by decide) ?_
    exact hJ 53
  have := h.2 X hB0 hB19 hB53 hB177 hB220 hB221 hB249 hB260
  rw [hXe] at this
  exact this lv hlv
theorem vX13_search_0 {mc ms : Nat} {X : Nat → zV} {Q : zQt} {M : zM} {x1 : Int32} (hW : zFix M)  (h : wX13_show 0 0 [.ref 55] M (fun r M1 => kX13_search_4 mc ms X Q 0 0 [some (.ref 55), some (.int x1), none, none, none, none, none] (r.toList ++ []) M1)) : aX13_search_0 mc ms X Q 0 0 [some (.ref 55), some (.int x1), none, none, none, none, none] [] M := ⟨Nat.le_of_ble_eq_true rfl, rfl, (fxs_55 hW), 0, 0, Nat.zero_le _, Nat.zero_le _, h⟩
theorem vX13_search_19 {mc ms : Nat} {X : Nat → zV} {Q : zQt} {M : zM}  (hW : zFix M)  (h : ∀ M25 : zM, M25 = (zsI M 69 (0 : Int32).toNatClampNeg ((-1))) → wX13_still 0 0 [.ref 55, .int 0] M25 (fun r M1 => kX13_search_31 mc ms X Q 0 0 [some (.ref 55), none, none, none, none, none, none] (r.toList ++ []) M1)) : aX13_search_19 mc ms X Q 0 0 [some (.ref 55), none, none, none, none, none, none] [] M := ⟨(fxs_55 hW), 69, (fxr_55_20 hW), ⟨6, (fxs_69 hW), by unfold vp_in; decide, (have h25 := h _ rfl; ⟨Nat.le_of_ble_eq_true rfl, rfl, (fxs_55 hW), 0, 0, Nat.zero_le _, Nat.zero_le _, h25⟩)⟩⟩
theorem vcX13_search_117 {mc ms : Nat} {X : Nat → zV} {Q : zQt} {M : zM} {x1 : Int32} {x2 : Int32} {x3 : Int32} {x4 : Int32} {x5 : Int32} (hW : zFix M)  (h : X 177 0 0 [.ref 55, .int x1, .int x2, .int x3, .int x4, .int x5] [] M) : kX13_search_117 mc ms X Q 0 0 [some (.ref 55), some (.int x1), some (.int x2), some (.int x3), some (.int x4), some (.int x5), none] [] M := h
theorem vX13_search_53 {mc ms : Nat} {X : Nat → zV} {Q : zQt} {M : zM} {x1 : Int32} {x2 : Int32} {x3 : Int32} {x4 : Int32} (hW : zFix M)  (h : (x3 < 0 → ∀ M269 : zM, M269 = (zsI M 69 (0 : Int32).toNatClampNeg x2) → Q (some (.int x4)) M269) ∧ (¬ x3 < 0 → (x3 = x1 → wX13_still 0 0 [.ref 55, .int x3] M (fun r M1 => kX13_search_70 mc ms X Q 0 0 [some (.ref 55), some (.int x1), some (.int x2), some (.int x3), some (.int x4), some (.int 1), none] (r.toList ++ []) M1)) ∧ (¬ x3 = x1 → vp_in x3 6 ∧ (((M : zM).1 67 (x3 : Int32).toNatClampNeg) = 0 → wX13_still 0 0 [.ref 55, .int x3] M (fun r M1 => kX13_search_89 mc ms X Q 0 0 [some (.ref 55), some (.int x1), some (.int x2), some (.int x3), some (.int x4), some (.int 1), none] (r.toList ++ []) M1)) ∧ (¬ ((M : zM).1 67 (x3 : Int32).toNatClampNeg) = 0 → vp_in x3 6 ∧ vp_in x3 6 ∧ (((M : zM).1 68 (x3 : Int32).toNatClampNeg) = ((M : zM).1 67 (x3 : Int32).toNatClampNeg) → vp_in x3 6 ∧ ∀ y115 : Int32, y115 = ((M : zM).1 69 (x3 : Int32).toNatClampNeg) → X 177 0 0 [.ref 55, .int x1, .int x2, .int x3, .int y115, .int 1] [] M) ∧ (¬ ((M : zM).1 68 (x3 : Int32).toNatClampNeg) = ((M : zM).1 67 (x3 : Int32).toNatClampNeg) → vp_in x3 6 ∧ vp_in ((((330 : Int32) * x3) + ((M : zM).1 68 (x3 : Int32).toNatClampNeg))) 1980 ∧ wX13_make 0 0 [.ref 55, .int ((69 : Int32) * x3), .int ((M : zM).1 66 ((((330 : Int32) * x3) + ((M : zM).1 68 (x3 : Int32).toNatClampNeg)) : Int32).toNatClampNeg)] M (fun r M1 => kX13_search_148 mc ms X Q 0 0 [some (.ref 55), some (.int x1), some (.int x2), some (.int x3), some (.int x4), some (.int 0), none] (r.toList ++ []) M1)))))) : aX13_search_53 mc ms X Q 0 0 [some (.ref 55), some (.int x1), some (.int x2), some (.int x3), some (.int x4), none, none] [] M := ⟨fun c54 => ⟨(fxs_55 hW), 69, (fxr_55_20 hW), ⟨6, (fxs_69 hW), by unfold vp_in; decide, (have h269 := (h.1 c54) _ rfl; h269)⟩⟩, fun c54 => ⟨fun c62 => ⟨Nat.le_of_ble_eq_true rfl, rfl, (fxs_55 hW), 0, 0, Nat.zero_le _, Nat.zero_le _, ((h.2 c54).1 c62)⟩, fun c62 => ⟨(fxs_55 hW), 67, (fxr_55_18 hW), ⟨6, (fxs_67 hW), ((h.2 c54).2 c62).1, ⟨fun c81 => ⟨Nat.le_of_ble_eq_true rfl, rfl, (fxs_55 hW), 0, 0, Nat.zero_le _, Nat.zero_le _, (((h.2 c54).2 c62).2.1 c81)⟩, fun c81 => ⟨(fxs_55 hW), 68, (fxr_55_19 hW), ⟨6, (fxs_68 hW), (((h.2 c54).2 c62).2.2 c81).1, ⟨(fxs_55 hW), 67, (fxr_55_18 hW), ⟨6, (fxs_67 hW), (((h.2 c54).2 c62).2.2 c81).2.1, ⟨fun c106 => ⟨(fxs_55 hW), 69, (fxr_55_20 hW), ⟨6, (fxs_69 hW), ((((h.2 c54).2 c62).2.2 c81).2.2.1 c106).1, (fun y115 e115 => have h115 := ((((h.2 c54).2 c62).2.2 c81).2.2.1 c106).2 y115 e115; (vcX13_search_117 hW  h115))⟩⟩, fun c106 => ⟨(fxs_55 hW), 66, (fxr_55_17 hW), ⟨(fxs_55 hW), 68, (fxr_55_19 hW), ⟨6, (fxs_68 hW), ((((h.2 c54).2 c62).2.2 c81).2.2.2 c106).1, ⟨1980, (fxs_66 hW), ((((h.2 c54).2 c62).2.2 c81).2.2.2 c106).2.1, ⟨Nat.le_of_ble_eq_true rfl, rfl, (fxs_55 hW), 0, 0, Nat.zero_le _, Nat.zero_le _, ((((h.2 c54).2 c62).2.2 c81).2.2.2 c106).2.2⟩⟩⟩⟩⟩⟩⟩⟩⟩⟩⟩⟩⟩⟩⟩
theorem vX13_search_177 {mc ms : Nat} {X : Nat → zV} {Q : zQt} {M : zM} {x1 : Int32} {x2 : Int32} {x3 : Int32} {x4 : Int32} {x5 : Int32} (hW : zFix M)  (h : (x5 = 0 → X 260 0 0 [.ref 55, .int x1, .int x2, .int x3, .int x4] [] M) ∧ (¬ x5 = 0 → ((x3 + (-1)) < 0 → X 260 0 0 [.ref 55, .int x1, .int x2, .int (x3 + (-1)), .int x4] [] M) ∧ (¬ (x3 + (-1)) < 0 → wX13_back 0 0 [.int x4] M (fun r M1 => kX13_search_194 mc ms X Q 0 0 [some (.ref 55), some (.int x1), some (.int x2), some (.int (x3 + (-1))), some (.int x4), some (.int x5), none] (r.toList ++ []) M1)))) : aX13_search_177 mc ms X Q 0 0 [some (.ref 55), some (.int x1), some (.int x2), some (.int x3), some (.int x4), some (.int x5), none] [] M := ⟨fun c179 => (h.1 c179), fun c179 => ⟨fun c186 => ((h.2 c179).1 c186), fun c186 => ⟨Nat.le_of_ble_eq_true rfl, rfl, 0, 0, Nat.zero_le _, Nat.zero_le _, ((h.2 c179).2 c186)⟩⟩⟩
theorem vX13_search_220 {mc ms : Nat} {X : Nat → zV} {Q : zQt} {M : zM} {x1 : Int32} {x2 : Int32} {x3 : Int32} {x4 : Int32} {x6 : Int32} (hW : zFix M)  (h : X 221 0 0 [.ref 55, .int x1, .int x3, .int x4, .int x6] [.int x2] M) : aX13_search_220 mc ms X Q 0 0 [some (.ref 55), some (.int x1), some (.int x2), some (.int x3), some (.int x4), none, some (.int x6)] [] M := h
theorem vX13_search_221 {mc ms : Nat} {X : Nat → zV} {Q : zQt} {M : zM} {x1 : Int32} {x3 : Int32} {x4 : Int32} {x6 : Int32} {s0 : Int32} (hW : zFix M)  (h : vp_in x3 6 ∧ (x6 ≤ ((M : zM).1 69 (x3 : Int32).toNatClampNeg) → vp_in x3 6 ∧ X 249 0 0 [.ref 55, .int x1, .int s0, .int x3, .int x4] [.int ((M : zM).1 69 (x3 : Int32).toNatClampNeg), .int x3, .ref 69] M) ∧ (¬ x6 ≤ ((M : zM).1 69 (x3 : Int32).toNatClampNeg) → X 249 0 0 [.ref 55, .int x1, .int s0, .int x3, .int x4] [.int x6, .int x3, .ref 69] M)) : aX13_search_221 mc ms X Q 0 0 [some (.ref 55), some (.int x1), none, some (.int x3), some (.int x4), none, some (.int x6)] [.int s0] M := ⟨(fxs_55 hW), 69, (fxr_55_20 hW), ⟨(fxs_55 hW), 69, (fxr_55_20 hW), ⟨6, (fxs_69 hW), h.1, ⟨fun c235 => ⟨(fxs_55 hW), 69, (fxr_55_20 hW), ⟨6, (fxs_69 hW), (h.2.1 c235).1, (h.2.1 c235).2⟩⟩, fun c235 => (h.2.2 c235)⟩⟩⟩⟩
theorem vX13_search_249 {mc ms : Nat} {X : Nat → zV} {Q : zQt} {M : zM} {x1 : Int32} {x2 : Int32} {x3 : Int32} {x4 : Int32} {s0 : Int32} {s1 : Int32} (hW : zFix M)  (h : vp_in s1 6 ∧ ∀ M249 : zM, M249 = (zsI M 69 (s1 : Int32).toNatClampNeg s0) → vp_in x3 6 ∧ vp_in x3 6 ∧ ∀ M259 : zM, M259 = (zsI M249 68 (x3 : Int32).toNatClampNeg ((((M249 : zM).1 68 (x3 : Int32).toNatClampNeg) + (1 : Int32)))) → X 260 0 0 [.ref 55, .int x1, .int x2, .int x3, .int x4] [] M259) : aX13_search_249 mc ms X Q 0 0 [some (.ref 55), some (.int x1), some (.int x2), some (.int x3), some (.int x4), none, none] [.int s0, .int s1, .ref 69] M := ⟨6, (fxs_69 hW), h.1, (have h249 := h.2 _ rfl; ⟨(fxs_55 hW), 68, (fxr_55_19 hW), ⟨6, (fxs_68 hW), h249.1, ⟨6, (fxs_68 hW), h249.2.1, (have h259 := h249.2.2 _ rfl; h259)⟩⟩⟩)⟩
theorem vX13_search_260 {mc ms : Nat} {X : Nat → zV} {Q : zQt} {M : zM} {x1 : Int32} {x2 : Int32} {x3 : Int32} {x4 : Int32} (hW : zFix M)  (h : X 53 0 0 [.ref 55, .int x1, .int x2, .int x3, .int x4] [] M) : aX13_search_260 mc ms X Q 0 0 [some (.ref 55), some (.int x1), some (.int x2), some (.int x3), some (.int x4), none, none] [] M := h
theorem vkX13_search_4 {mc ms : Nat} {X : Nat → zV} {Q : zQt} {M : zM} {x1 : Int32} (hW : zFix M)  (h : (x1 = 0 → X 19 0 0 [.ref 55] [] M) ∧ (¬ x1 = 0 → (((M : zM).1 67 (0 : Int32).toNatClampNeg) = 0 → X 19 0 0 [.ref 55] [] M) ∧ (¬ ((M : zM).1 67 (0 : Int32).toNatClampNeg) = 0 → ∀ M43 : zM, M43 = (zsI M 68 (0 : Int32).toNatClampNeg 0) → ∀ M52 : zM, M52 = (zsI M43 69 (0 : Int32).toNatClampNeg ((-2000))) → X 53 0 0 [.ref 55, .int x1, .int (-1), .int 0, .int 0] [] M52))) : kX13_search_4 mc ms X Q 0 0 [some (.ref 55), some (.int x1), none, none, none, none, none] [] M := ⟨fun c7 => (h.1 c7), fun c7 => ⟨(fxs_55 hW), 67, (fxr_55_18 hW), ⟨6, (fxs_67 hW), by unfold vp_in; decide, ⟨fun c16 => ((h.2 c7).1 c16), fun c16 => ⟨(fxs_55 hW), 68, (fxr_55_19 hW), ⟨6, (fxs_68 hW), by unfold vp_in; decide, (have h43 := ((h.2 c7).2 c16) _ rfl; ⟨(fxs_55 hW), 69, (fxr_55_20 hW), ⟨6, (fxs_69 hW), by unfold vp_in; decide, (have h52 := h43 _ rfl; h52)⟩⟩)⟩⟩⟩⟩⟩⟩
theorem vkX13_search_31 {mc ms : Nat} {X : Nat → zV} {Q : zQt} {M : zM} {s0 : Int32} (hW : zFix M)  (h : Q (some (.int s0)) M) : kX13_search_31 mc ms X Q 0 0 [some (.ref 55), none, none, none, none, none, none] [.int s0] M := h
theorem vkX13_search_70 {mc ms : Nat} {X : Nat → zV} {Q : zQt} {M : zM} {x1 : Int32} {x2 : Int32} {x3 : Int32} {x4 : Int32} {x5 : Int32} {s0 : Int32} (hW : zFix M)  (h : X 177 0 0 [.ref 55, .int x1, .int x2, .int x3, .int s0, .int x5] [] M) : kX13_search_70 mc ms X Q 0 0 [some (.ref 55), some (.int x1), some (.int x2), some (.int x3), some (.int x4), some (.int x5), none] [.int s0] M := h
theorem vkX13_search_89 {mc ms : Nat} {X : Nat → zV} {Q : zQt} {M : zM} {x1 : Int32} {x2 : Int32} {x3 : Int32} {x4 : Int32} {x5 : Int32} {s0 : Int32} (hW : zFix M)  (h : X 177 0 0 [.ref 55, .int x1, .int x2, .int x3, .int s0, .int x5] [] M) : kX13_search_89 mc ms X Q 0 0 [some (.ref 55), some (.int x1), some (.int x2), some (.int x3), some (.int x4), some (.int x5), none] [.int s0] M := h
theorem vkX13_search_148 {mc ms : Nat} {X : Nat → zV} {Q : zQt} {M : zM} {x1 : Int32} {x2 : Int32} {x3 : Int32} {x4 : Int32} {x5 : Int32} (hW : zFix M)  (h : vp_in ((x3 + 1)) 6 ∧ ∀ M157 : zM, M157 = (zsI M 68 ((x3 + 1) : Int32).toNatClampNeg 0) → vp_in ((x3 + 1)) 6 ∧ ∀ M166 : zM, M166 = (zsI M157 69 ((x3 + 1) : Int32).toNatClampNeg ((-2000))) → (x1 ≤ (x3 + 1) → X 177 0 0 [.ref 55, .int x1, .int x2, .int (x3 + 1), .int x4, .int x5] [] M166) ∧ (¬ x1 ≤ (x3 + 1) → wX13_fill 0 0 [.ref 55, .int (x3 + 1)] M166 (fun r M1 => kX13_search_177 mc ms X Q 0 0 [some (.ref 55), some (.int x1), some (.int x2), some (.int (x3 + 1)), some (.int x4), some (.int x5), none] (r.toList ++ []) M1))) : kX13_search_148 mc ms X Q 0 0 [some (.ref 55), some (.int x1), some (.int x2), some (.int x3), some (.int x4), some (.int x5), none] [] M := ⟨(fxs_55 hW), 68, (fxr_55_19 hW), ⟨6, (fxs_68 hW), h.1, (have h157 := h.2 _ rfl; ⟨(fxs_55 hW), 69, (fxr_55_20 hW), ⟨6, (fxs_69 hW), h157.1, (have h166 := h157.2 _ rfl; ⟨fun c169 => (h166.1 c169), fun c169 => ⟨Nat.le_of_ble_eq_true rfl, rfl, (fxs_55 hW), 0, 0, Nat.zero_le _, Nat.zero_le _, (h166.2 c169)⟩⟩)⟩⟩)⟩⟩
theorem vkX13_search_177 {mc ms : Nat} {X : Nat → zV} {Q : zQt} {M : zM} {x1 : Int32} {x2 : Int32} {x3 : Int32} {x4 : Int32} {x5 : Int32} (hW : zFix M)  (h : X 177 0 0 [.ref 55, .int x1, .int x2, .int x3, .int x4, .int x5] [] M) : kX13_search_177 mc ms X Q 0 0 [some (.ref 55), some (.int x1), some (.int x2), some (.int x3), some (.int x4), some (.int x5), none] [] M := h
theorem vkX13_search_194 {mc ms : Nat} {X : Nat → zV} {Q : zQt} {M : zM} {x1 : Int32} {x2 : Int32} {x3 : Int32} {x4 : Int32} {x5 : Int32} {s0 : Int32} (hW : zFix M)  (h : (x3 = 0 → (s0 ≤ ((M : zM).1 69 (0 : Int32).toNatClampNeg) → X 220 0 0 [.ref 55, .int x1, .int x2, .int x3, .int x4, .int s0] [] M) ∧ (¬ s0 ≤ ((M : zM).1 69 (0 : Int32).toNatClampNeg) → X 221 0 0 [.ref 55, .int x1, .int x3, .int x4, .int s0] [.int ((M : zM).1 68 (0 : Int32).toNatClampNeg)] M)) ∧ (¬ x3 = 0 → X 220 0 0 [.ref 55, .int x1, .int x2, .int x3, .int x4, .int s0] [] M)) : kX13_search_194 mc ms X Q 0 0 [some (.ref 55), some (.int x1), some (.int x2), some (.int x3), some (.int x4), some (.int x5), none] [.int s0] M := ⟨fun c197 => ⟨(fxs_55 hW), 69, (fxr_55_20 hW), ⟨6, (fxs_69 hW), by unfold vp_in; decide, ⟨fun c208 => ((h.1 c197).1 c208), fun c208 => ⟨(fxs_55 hW), 68, (fxr_55_19 hW), ⟨6, (fxs_68 hW), by unfold vp_in; decide, ((h.1 c197).2 c208)⟩⟩⟩⟩⟩, fun c197 => (h.2 c197)⟩
theorem dX13_men_0 : decode cX13_men 0 = .ok (.iconst 0, 1) := by decide +kernel
theorem dX13_men_1 : decode cX13_men 1 = .ok (.istore_n 1, 1) := by decide +kernel
theorem dX13_men_2 : decode cX13_men 2 = .ok (.iconst 0, 1) := by decide +kernel
theorem dX13_men_3 : decode cX13_men 3 = .ok (.istore_n 2, 1) := by decide +kernel
theorem dX13_men_4 : decode cX13_men 4 = .ok (.iload_n 2, 1) := by decide +kernel
theorem dX13_men_5 : decode cX13_men 5 = .ok (.bipush 64, 2) := by decide +kernel
theorem dX13_men_7 : decode cX13_men 7 = .ok (.if_icmp .ge 46, 3) := by decide +kernel
theorem dX13_men_10 : decode cX13_men 10 = .ok (.iload_n 1, 1) := by decide +kernel
theorem dX13_men_11 : decode cX13_men 11 = .ok (.aload_n 0, 1) := by decide +kernel
theorem dX13_men_12 : decode cX13_men 12 = .ok (.getfield 18, 3) := by decide +kernel
theorem dX13_men_15 : decode cX13_men 15 = .ok (.bipush 69, 2) := by decide +kernel
theorem dX13_men_17 : decode cX13_men 17 = .ok (.aload_n 0, 1) := by decide +kernel
theorem dX13_men_18 : decode cX13_men 18 = .ok (.invokevirtual 126, 3) := by decide +kernel
theorem dX13_men_21 : decode cX13_men 21 = .ok (.aload_n 0, 1) := by decide +kernel
theorem dX13_men_22 : decode cX13_men 22 = .ok (.getfield 22, 3) := by decide +kernel
theorem dX13_men_25 : decode cX13_men 25 = .ok (.aload_n 0, 1) := by decide +kernel
theorem dX13_men_26 : decode cX13_men 26 = .ok (.getfield 123, 3) := by decide +kernel
theorem dX13_men_29 : decode cX13_men 29 = .ok (.iaload, 1) := by decide +kernel
theorem dX13_men_30 : decode cX13_men 30 = .ok (.iadd, 1) := by decide +kernel
theorem dX13_men_31 : decode cX13_men 31 = .ok (.iconst 1, 1) := by decide +kernel
theorem dX13_men_32 : decode cX13_men 32 = .ok (.isub, 1) := by decide +kernel
theorem dX13_men_33 : decode cX13_men 33 = .ok (.imul, 1) := by decide +kernel
theorem dX13_men_34 : decode cX13_men 34 = .ok (.iload_n 2, 1) := by decide +kernel
theorem dX13_men_35 : decode cX13_men 35 = .ok (.iadd, 1) := by decide +kernel
theorem dX13_men_36 : decode cX13_men 36 = .ok (.iaload, 1) := by decide +kernel
theorem dX13_men_37 : decode cX13_men 37 = .ok (.ifCond .le 7, 3) := by decide +kernel
theorem dX13_men_40 : decode cX13_men 40 = .ok (.iconst 1, 1) := by decide +kernel
theorem dX13_men_41 : decode cX13_men 41 = .ok (.goto 4, 3) := by decide +kernel
theorem dX13_men_44 : decode cX13_men 44 = .ok (.iconst 0, 1) := by decide +kernel
theorem dX13_men_45 : decode cX13_men 45 = .ok (.iadd, 1) := by decide +kernel
theorem dX13_men_46 : decode cX13_men 46 = .ok (.istore_n 1, 1) := by decide +kernel
theorem dX13_men_47 : decode cX13_men 47 = .ok (.iinc 2 1, 3) := by decide +kernel
theorem dX13_men_50 : decode cX13_men 50 = .ok (.goto (-46), 3) := by decide +kernel
theorem dX13_men_53 : decode cX13_men 53 = .ok (.iload_n 1, 1) := by decide +kernel
theorem dX13_men_54 : decode cX13_men 54 = .ok (.ireturn, 1) := by decide +kernel
def kX13_men_21 (mc ms : Nat) (X : Nat → zV) (Q : zQt) : zT :=
  zla 0 <| zgR 13 9 <| zla 0 <| zgi 13 6 <| zal 1 <| zii (fun x y => x + y) <| zc (.int 1) <| zii (fun x y => x - y) <| zii (fun x y => x * y) <| zli 2 <| zii (fun x y => x + y) <| zal 1 <| zif (fun x => x ≤ 0) (zc (.int 0) <| zj X 45 [0, 2]) <| zc (.int 1) <| zj X 45 [0, 2]
def aX13_men_0 (mc ms : Nat) (X : Nat → zV) (Q : zQt) : zT :=
  zc (.int 0) <| zsi 1 <| zc (.int 0) <| zsi 2 <| zj X 4 [0, 1, 2]
def aX13_men_4 (mc ms : Nat) (X : Nat → zV) (Q : zQt) : zT :=
  zli 2 <| zc (.int 64) <| zic (fun x y => y ≤ x) (zli 1 <| zri Q) <| zli 1 <| zla 0 <| zgR 13 8 <| zc (.int 69) <| zla 0 <| zcv mc ms 13 0 wX13_base <| kX13_men_21 mc ms X Q
def aX13_men_45 (mc ms : Nat) (X : Nat → zV) (Q : zQt) : zT :=
  zii (fun x y => x + y) <| zsi 1 <| zinc 2 1 <| zj X 4 [0, 1, 2]
def lvX13_men : Nat → List Nat := fun L => match L with
  | 0 => [0]
  | 4 => [0, 1, 2]
  | 45 => [0, 2]
  | _ => []
def wX13_men : zSp := fun mc ms av M Q => ((zlay av).length ≤ 3 ∧ zpick (zlay av) [0] = some av) ∧ ∀ X : Nat → zV, zin 3 [0] (aX13_men_0 mc ms X Q) X 0 → zin 3 [0, 1, 2] (aX13_men_4 mc ms X Q) X 4 → zin 3 [0, 2] (aX13_men_45 mc ms X Q) X 45 → X 0 0 0 av [] M
set_option maxRecDepth 100000 in
set_option maxHeartbeats 4000000 in
theorem sX13_men (l : Launch) (G : zG) : zSnd l G yX13_men cX13_men 3 (some .int) 1 20 wX13_men := by
  refine zmk [0] (by decide) (fun mc ms av M Q h => h.1) ?_
  intro p e R s m args below meth c mc ms av M Q hC hRf hRl hr hnm h lv hlv
  obtain ⟨X, hXe⟩ : ∃ X : Nat → zV, X = fun L u v vs st M => ∀ lv, zpick lv (lvX13_men L) = some vs → zAt p l e R s m args below meth c (MQ below (zQ G Q) args s mc ms (zA G)) G 3 L u v lv st M := ⟨_, rfl⟩
  have hJ : ∀ L, zOk p l e R s m args below meth c (MQ below (zQ G Q) args s mc ms (zA G)) G 3 L (zj X L (lvX13_men L)) := fun L => S_jump (fun u v lv vs st M hp hx => by rw [hXe] at hx; exact hx lv hp)
  have hB0 : zin 3 [0] (aX13_men_0 mc ms X Q) X 0 := by
    intro u v vs st M hb
    rw [hXe]
    refine fun lv hp => S_block (L := 0) (live := [0]) ?_ u v lv vs st M hp hb
    unfold aX13_men_0
    refine S_iconst (pc := 0) hC dX13_men_0 (by decide) ?_
    refine S_istore_n (pc := 1) hC dX13_men_1 rfl (by decide) ?_
    refine S_iconst (pc := 2) hC dX13_men_2 (by decide) ?_
    refine S_istore_n (pc := 3) hC dX13_men_3 rfl (by decide) ?_
    exact hJ 4
  have hB4 : zin 3 [0, 1, 2] (aX13_men_4 mc ms X Q) X 4 := by
    intro u v vs st M hb
    rw [hXe]
    refine fun lv hp => S_block (L := 4) (live := [0, 1, 2]) ?_ u v lv vs st M hp hb
    unfold aX13_men_4
    refine S_iload_n (pc := 4) hC dX13_men_4 rfl ?_
    refine S_bipush (pc := 5) hC dX13_men_5 (by decide) ?_
    refine S_icmp_ge (pc := 7) (tgt := 53) hC dX13_men_7 (by decide) ?_ ?_
    · refine S_iload_n (pc := 53) hC dX13_men_53 rfl ?_
      exact S_ireturn (pc := 54) hC hr dX13_men_54
    · refine S_iload_n (pc := 10) hC dX13_men_10 rfl ?_
      refine S_aload_n (pc := 11) hC dX13_men_11 rfl ?_
      refine S_getR (pc := 12) hC cfX13 (by decide) (Or.inr ⟨_, rfl⟩) wd_1263 dX13_men_12 ?_
      refine S_bipush (pc := 15) hC dX13_men_15 (by decide) ?_
      refine S_aload_n (pc := 17) hC dX13_men_17 rfl ?_
      refine S_callV (pc := 18) hC (sX13_base l G) rfl wd_1439 wd_1441 ws_71 wd_12 wd_1442 (by decide +kernel) ⟨by rw [hRf]; decide, by rw [hRl]; decide⟩ dX13_men_18 ?_
      unfold kX13_men_21
      refine S_aload_n (pc := 21) hC dX13_men_21 rfl ?_
      refine S_getR (pc := 22) hC cfX13 (by decide) (Or.inr ⟨_, rfl⟩) wd_1264 dX13_men_22 ?_
      refine S_aload_n (pc := 25) hC dX13_men_25 rfl ?_
      refine S_geti (pc := 26) hC cfX13 (by decide) (Or.inl rfl) wd_1261 dX13_men_26 ?_
      refine S_iaload (pc := 29) hC dX13_men_29 ?_
      refine S_iadd (pc := 30) hC dX13_men_30 ?_
      refine S_iconst (pc := 31) hC dX13_men_31 (by decide) ?_
      refine S_isub (pc := 32) hC dX13_men_32 ?_
      refine S_imul (pc := 33) hC dX13_men_33 ?_
      refine S_iload_n (pc := 34) hC dX13_men_34 rfl ?_
      refine S_iadd (pc := 35) hC dX13_men_35 ?_
      refine S_iaload (pc := 36) hC dX13_men_36 ?_
      refine S_if_le (pc := 37) (tgt := 44) hC dX13_men_37 (by decide) ?_ ?_
      · refine S_iconst (pc := 44) hC dX13_men_44 (by decide) ?_
        exact hJ 45
      · refine S_iconst (pc := 40) hC dX13_men_40 (by decide) ?_
        refine S_goto (pc := 41) (tgt := 45) hC dX13_men_41 (by decide) ?_
        exact hJ 45
  have hB45 : zin 3 [0, 2] (aX13_men_45 mc ms X Q) X 45 := by
    intro u v vs st M hb
    rw [hXe]
    refine fun lv hp => S_block (L := 45) (live := [0, 2]) ?_ u v lv vs st M hp hb
    unfold aX13_men_45
    refine S_iadd (pc := 45) hC dX13_men_45 ?_
    refine S_istore_n (pc := 46) hC dX13_men_46 rfl (by decide) ?_
    refine S_iinc (pc := 47) hC dX13_men_47 (by decide) (by decide) ?_
    refine S_goto (pc := 50) (tgt := 4) hC dX13_men_50 (by decide) ?_
    exact hJ 4
  have := h.2 X hB0 hB4 hB45
  rw [hXe] at this
  exact this lv hlv
theorem vX13_men_0 {mc ms : Nat} {X : Nat → zV} {Q : zQt} {M : zM}  (hW : zFix M)  (h : X 4 0 0 [.ref 55, .int 0, .int 0] [] M) : aX13_men_0 mc ms X Q 0 0 [some (.ref 55), none, none] [] M := h
theorem vX13_men_4 {mc ms : Nat} {X : Nat → zV} {Q : zQt} {M : zM} {x1 : Int32} {x2 : Int32} (hW : zFix M)  (h : ((64 : Int32) ≤ x2 → Q (some (.int x1)) M) ∧ (¬ (64 : Int32) ≤ x2 → wX13_base 0 0 [.ref 55] M (fun r M1 => kX13_men_21 mc ms X Q 0 0 [some (.ref 55), some (.int x1), some (.int x2)] (r.toList ++ [.int 69, .ref 57, .int x1]) M1))) : aX13_men_4 mc ms X Q 0 0 [some (.ref 55), some (.int x1), some (.int x2)] [] M := ⟨fun c7 => (h.1 c7), fun c7 => ⟨(fxs_55 hW), 57, (fxr_55_8 hW), ⟨Nat.le_of_ble_eq_true rfl, rfl, (fxs_55 hW), 0, 0, Nat.zero_le _, Nat.zero_le _, (h.2 c7)⟩⟩⟩
theorem vX13_men_45 {mc ms : Nat} {X : Nat → zV} {Q : zQt} {M : zM} {x2 : Int32} {s0 : Int32} {s1 : Int32} (hW : zFix M)  (h : X 4 0 0 [.ref 55, .int (s1 + s0), .int (x2 + 1)] [] M) : aX13_men_45 mc ms X Q 0 0 [some (.ref 55), none, some (.int x2)] [.int s0, .int s1] M := h
theorem vkX13_men_21 {mc ms : Nat} {X : Nat → zV} {Q : zQt} {M : zM} {x1 : Int32} {x2 : Int32} {s0 : Int32} {s1 : Int32} {s3 : Int32} (hW : zFix M)  (h : vp_in ((M.1 55 6)) 2 ∧ vp_in (((s1 * ((s0 + ((M : zM).1 58 ((M.1 55 6) : Int32).toNatClampNeg)) - (1 : Int32))) + x2)) 82938 ∧ (((M : zM).1 57 (((s1 * ((s0 + ((M : zM).1 58 ((M.1 55 6) : Int32).toNatClampNeg)) - (1 : Int32))) + x2) : Int32).toNatClampNeg) ≤ 0 → X 45 0 0 [.ref 55, .int x2] [.int 0, .int s3] M) ∧ (¬ ((M : zM).1 57 (((s1 * ((s0 + ((M : zM).1 58 ((M.1 55 6) : Int32).toNatClampNeg)) - (1 : Int32))) + x2) : Int32).toNatClampNeg) ≤ 0 → X 45 0 0 [.ref 55, .int x2] [.int 1, .int s3] M)) : kX13_men_21 mc ms X Q 0 0 [some (.ref 55), some (.int x1), some (.int x2)] [.int s0, .int s1, .ref 57, .int s3] M := ⟨(fxs_55 hW), 58, (fxr_55_9 hW), ⟨(fxs_55 hW), ⟨2, (fxs_58 hW), h.1, ⟨82938, (fxs_57 hW), h.2.1, ⟨fun c37 => (h.2.2.1 c37), fun c37 => (h.2.2.2 c37)⟩⟩⟩⟩⟩
theorem dX13_wrongDepth_0 : decode cX13_wrongDepth 0 = .ok (.aload_n 0, 1) := by decide +kernel
theorem dX13_wrongDepth_1 : decode cX13_wrongDepth 1 = .ok (.getfield 177, 3) := by decide +kernel
theorem dX13_wrongDepth_4 : decode cX13_wrongDepth 4 = .ok (.ifCond .ne 7, 3) := by decide +kernel
theorem dX13_wrongDepth_7 : decode cX13_wrongDepth 7 = .ok (.iconst 1, 1) := by decide +kernel
theorem dX13_wrongDepth_8 : decode cX13_wrongDepth 8 = .ok (.goto 32, 3) := by decide +kernel
theorem dX13_wrongDepth_11 : decode cX13_wrongDepth 11 = .ok (.iload_n 1, 1) := by decide +kernel
theorem dX13_wrongDepth_12 : decode cX13_wrongDepth 12 = .ok (.ifCond .lt 23, 3) := by decide +kernel
theorem dX13_wrongDepth_15 : decode cX13_wrongDepth 15 = .ok (.iload_n 1, 1) := by decide +kernel
theorem dX13_wrongDepth_16 : decode cX13_wrongDepth 16 = .ok (.aload_n 0, 1) := by decide +kernel
theorem dX13_wrongDepth_17 : decode cX13_wrongDepth 17 = .ok (.invokevirtual 326, 3) := by decide +kernel
theorem dX13_wrongDepth_20 : decode cX13_wrongDepth 20 = .ok (.iconst 3, 1) := by decide +kernel
theorem dX13_wrongDepth_21 : decode cX13_wrongDepth 21 = .ok (.if_icmp .le 10, 3) := by decide +kernel
theorem dX13_wrongDepth_24 : decode cX13_wrongDepth 24 = .ok (.aload_n 0, 1) := by decide +kernel
theorem dX13_wrongDepth_25 : decode cX13_wrongDepth 25 = .ok (.invokevirtual 314, 3) := by decide +kernel
theorem dX13_wrongDepth_28 : decode cX13_wrongDepth 28 = .ok (.goto 4, 3) := by decide +kernel
theorem dX13_wrongDepth_31 : decode cX13_wrongDepth 31 = .ok (.iconst 4, 1) := by decide +kernel
theorem dX13_wrongDepth_32 : decode cX13_wrongDepth 32 = .ok (.if_icmp .le 7, 3) := by decide +kernel
theorem dX13_wrongDepth_35 : decode cX13_wrongDepth 35 = .ok (.iconst 2, 1) := by decide +kernel
theorem dX13_wrongDepth_36 : decode cX13_wrongDepth 36 = .ok (.goto 4, 3) := by decide +kernel
theorem dX13_wrongDepth_39 : decode cX13_wrongDepth 39 = .ok (.iconst 0, 1) := by decide +kernel
theorem dX13_wrongDepth_40 : decode cX13_wrongDepth 40 = .ok (.ireturn, 1) := by decide +kernel
def kX13_wrongDepth_28 (mc ms : Nat) (X : Nat → zV) (Q : zQt) : zT :=
  zj X 32 []
def kX13_wrongDepth_20 (mc ms : Nat) (X : Nat → zV) (Q : zQt) : zT :=
  zc (.int 3) <| zic (fun x y => x ≤ y) (zc (.int 4) <| zj X 32 []) <| zla 0 <| zcv mc ms 13 0 wX13_deepest <| kX13_wrongDepth_28 mc ms X Q
def aX13_wrongDepth_0 (mc ms : Nat) (X : Nat → zV) (Q : zQt) : zT :=
  zla 0 <| zgi 13 7 <| zif (fun x => x = 0) (zc (.int 1) <| zj X 40 []) <| zli 1 <| zif (fun x => x < 0) (zj X 35 []) <| zli 1 <| zla 0 <| zcv mc ms 13 0 wX13_men <| kX13_wrongDepth_20 mc ms X Q
def aX13_wrongDepth_32 (mc ms : Nat) (X : Nat → zV) (Q : zQt) : zT :=
  zic (fun x y => x ≤ y) (zc (.int 0) <| zj X 40 []) <| zj X 35 []
def aX13_wrongDepth_35 (mc ms : Nat) (X : Nat → zV) (Q : zQt) : zT :=
  zc (.int 2) <| zj X 40 []
def aX13_wrongDepth_40 (mc ms : Nat) (X : Nat → zV) (Q : zQt) : zT :=
  zri Q
def lvX13_wrongDepth : Nat → List Nat := fun L => match L with
  | 0 => [0, 1]
  | 32 => []
  | 35 => []
  | 40 => []
  | _ => []
def wX13_wrongDepth : zSp := fun mc ms av M Q => ((zlay av).length ≤ 2 ∧ zpick (zlay av) [0, 1] = some av) ∧ ∀ X : Nat → zV, zin 2 [0, 1] (aX13_wrongDepth_0 mc ms X Q) X 0 → zin 2 [] (aX13_wrongDepth_32 mc ms X Q) X 32 → zin 2 [] (aX13_wrongDepth_35 mc ms X Q) X 35 → zin 2 [] (aX13_wrongDepth_40 mc ms X Q) X 40 → X 0 0 0 av [] M
set_option maxRecDepth 100000 in
set_option maxHeartbeats 4000000 in
theorem sX13_wrongDepth (l : Launch) (G : zG) : zSnd l G yX13_wrongDepth cX13_wrongDepth 2 (some .int) 2 42 wX13_wrongDepth := by
  refine zmk [0, 1] (by decide) (fun mc ms av M Q h => h.1) ?_
  intro p e R s m args below meth c mc ms av M Q hC hRf hRl hr hnm h lv hlv
  obtain ⟨X, hXe⟩ : ∃ X : Nat → zV, X = fun L u v vs st M => ∀ lv, zpick lv (lvX13_wrongDepth L) = some vs → zAt p l e R s m args below meth c (MQ below (zQ G Q) args s mc ms (zA G)) G 2 L u v lv st M := ⟨_, rfl⟩
  have hJ : ∀ L, zOk p l e R s m args below meth c (MQ below (zQ G Q) args s mc ms (zA G)) G 2 L (zj X L (lvX13_wrongDepth L)) := fun L => S_jump (fun u v lv vs st M hp hx => by rw [hXe] at hx; exact hx lv hp)
  have hB0 : zin 2 [0, 1] (aX13_wrongDepth_0 mc ms X Q) X 0 := by
    intro u v vs st M hb
    rw [hXe]
    refine fun lv hp => S_block (L := 0) (live := [0, 1]) ?_ u v lv vs st M hp hb
    unfold aX13_wrongDepth_0
    refine S_aload_n (pc := 0) hC dX13_wrongDepth_0 rfl ?_
    refine S_geti (pc := 1) hC cfX13 (by decide) (Or.inr rfl) wd_1262 dX13_wrongDepth_1 ?_
    refine S_if_ne (pc := 4) (tgt := 11) hC dX13_wrongDepth_4 (by decide) ?_ ?_
    · refine S_iload_n (pc := 11) hC dX13_wrongDepth_11 rfl ?_
      refine S_if_lt (pc := 12) (tgt := 35) hC dX13_wrongDepth_12 (by decide) ?_ ?_
      · exact hJ 35
      · refine S_iload_n (pc := 15) hC dX13_wrongDepth_15 rfl ?_
        refine S_aload_n (pc := 16) hC dX13_wrongDepth_16 rfl ?_
        refine S_callV (pc := 17) hC (sX13_men l G) rfl wd_1653 wd_1655 ws_111 wd_12 wd_1656 (by decide +kernel) ⟨by rw [hRf]; decide, by rw [hRl]; decide⟩ dX13_wrongDepth_17 ?_
        unfold kX13_wrongDepth_20
        refine S_iconst (pc := 20) hC dX13_wrongDepth_20 (by decide) ?_
        refine S_icmp_le (pc := 21) (tgt := 31) hC dX13_wrongDepth_21 (by decide) ?_ ?_
        · refine S_iconst (pc := 31) hC dX13_wrongDepth_31 (by decide) ?_
          exact hJ 32
        · refine S_aload_n (pc := 24) hC dX13_wrongDepth_24 rfl ?_
          refine S_callV (pc := 25) hC (sX13_deepest l G) rfl wd_1641 wd_1643 ws_109 wd_12 wd_1644 (by decide +kernel) ⟨by rw [hRf]; decide, by rw [hRl]; decide⟩ dX13_wrongDepth_25 ?_
          unfold kX13_wrongDepth_28
          refine S_goto (pc := 28) (tgt := 32) hC dX13_wrongDepth_28 (by decide) ?_
          exact hJ 32
    · refine S_iconst (pc := 7) hC dX13_wrongDepth_7 (by decide) ?_
      refine S_goto (pc := 8) (tgt := 40) hC dX13_wrongDepth_8 (by decide) ?_
      exact hJ 40
  have hB32 : zin 2 [] (aX13_wrongDepth_32 mc ms X Q) X 32 := by
    intro u v vs st M hb
    rw [hXe]
    refine fun lv hp => S_block (L := 32) (live := []) ?_ u v lv vs st M hp hb
    unfold aX13_wrongDepth_32
    refine S_icmp_le (pc := 32) (tgt := 39) hC dX13_wrongDepth_32 (by decide) ?_ ?_
    · refine S_iconst (pc := 39) hC dX13_wrongDepth_39 (by decide) ?_
      exact hJ 40
    · exact hJ 35
  have hB35 : zin 2 [] (aX13_wrongDepth_35 mc ms X Q) X 35 := by
    intro u v vs st M hb
    rw [hXe]
    refine fun lv hp => S_block (L := 35) (live := []) ?_ u v lv vs st M hp hb
    unfold aX13_wrongDepth_35
    refine S_iconst (pc := 35) hC dX13_wrongDepth_35 (by decide) ?_
    refine S_goto (pc := 36) (tgt := 40) hC dX13_wrongDepth_36 (by decide) ?_
    exact hJ 40
  have hB40 : zin 2 [] (aX13_wrongDepth_40 mc ms X Q) X 40 := by
    intro u v vs st M hb
    rw [hXe]
    refine fun lv hp => S_block (L := 40) (live := []) ?_ u v lv vs st M hp hb
    unfold aX13_wrongDepth_40
    exact S_ireturn (pc := 40) hC hr dX13_wrongDepth_40
  have := h.2 X hB0 hB32 hB35 hB40
  rw [hXe] at this
  exact this lv hlv
theorem vX13_wrongDepth_0 {mc ms : Nat} {X : Nat → zV} {Q : zQt} {M : zM} {x1 : Int32} (hW : zFix M)  (h : ((M.1 55 7) = 0 → X 40 0 0 [] [.int 1] M) ∧ (¬ (M.1 55 7) = 0 → (x1 < 0 → X 35 0 0 [] [] M) ∧ (¬ x1 < 0 → wX13_men 0 0 [.ref 55] M (fun r M1 => kX13_wrongDepth_20 mc ms X Q 0 0 [some (.ref 55), some (.int x1)] (r.toList ++ [.int x1]) M1)))) : aX13_wrongDepth_0 mc ms X Q 0 0 [some (.ref 55), some (.int x1)] [] M := ⟨(fxs_55 hW), ⟨fun c4 => (h.1 c4), fun c4 => ⟨fun c12 => ((h.2 c4).1 c12), fun c12 => ⟨Nat.le_of_ble_eq_true rfl, rfl, (fxs_55 hW), 0, 0, Nat.zero_le _, Nat.zero_le _, ((h.2 c4).2 c12)⟩⟩⟩⟩
theorem vX13_wrongDepth_32 {mc ms : Nat} {X : Nat → zV} {Q : zQt} {M : zM} {s0 : Int32} {s1 : Int32} (hW : zFix M)  (h : (s1 ≤ s0 → X 40 0 0 [] [.int 0] M) ∧ (¬ s1 ≤ s0 → X 35 0 0 [] [] M)) : aX13_wrongDepth_32 mc ms X Q 0 0 [none, none] [.int s0, .int s1] M := ⟨fun c32 => (h.1 c32), fun c32 => (h.2 c32)⟩
theorem vX13_wrongDepth_35 {mc ms : Nat} {X : Nat → zV} {Q : zQt} {M : zM}  (hW : zFix M)  (h : X 40 0 0 [] [.int 2] M) : aX13_wrongDepth_35 mc ms X Q 0 0 [none, none] [] M := h
theorem vX13_wrongDepth_40 {mc ms : Nat} {X : Nat → zV} {Q : zQt} {M : zM} {s0 : Int32} (hW : zFix M)  (h : Q (some (.int s0)) M) : aX13_wrongDepth_40 mc ms X Q 0 0 [none, none] [.int s0] M := h
theorem vkX13_wrongDepth_20 {mc ms : Nat} {X : Nat → zV} {Q : zQt} {M : zM} {x1 : Int32} {s0 : Int32} {s1 : Int32} (hW : zFix M)  (h : (s0 ≤ (3 : Int32) → X 32 0 0 [] [.int 4, .int s1] M) ∧ (¬ s0 ≤ (3 : Int32) → wX13_deepest 0 0 [.ref 55] M (fun r M1 => kX13_wrongDepth_28 mc ms X Q 0 0 [some (.ref 55), some (.int x1)] (r.toList ++ [.int s1]) M1))) : kX13_wrongDepth_20 mc ms X Q 0 0 [some (.ref 55), some (.int x1)] [.int s0, .int s1] M := ⟨fun c21 => (h.1 c21), fun c21 => ⟨Nat.le_of_ble_eq_true rfl, rfl, (fxs_55 hW), 0, 0, Nat.zero_le _, Nat.zero_le _, (h.2 c21)⟩⟩
theorem vkX13_wrongDepth_28 {mc ms : Nat} {X : Nat → zV} {Q : zQt} {M : zM} {x1 : Int32} {s0 : Int32} {s1 : Int32} (hW : zFix M)  (h : X 32 0 0 [] [.int s0, .int s1] M) : kX13_wrongDepth_28 mc ms X Q 0 0 [some (.ref 55), some (.int x1)] [.int s0, .int s1] M := h
theorem dX13_valueAt_0 : decode cX13_valueAt 0 = .ok (.aload_n 0, 1) := by decide +kernel
theorem dX13_valueAt_1 : decode cX13_valueAt 1 = .ok (.aload_n 0, 1) := by decide +kernel
theorem dX13_valueAt_2 : decode cX13_valueAt 2 = .ok (.iload_n 1, 1) := by decide +kernel
theorem dX13_valueAt_3 : decode cX13_valueAt 3 = .ok (.invokevirtual 329, 3) := by decide +kernel
theorem dX13_valueAt_6 : decode cX13_valueAt 6 = .ok (.putfield 68, 3) := by decide +kernel
theorem dX13_valueAt_9 : decode cX13_valueAt 9 = .ok (.aload_n 0, 1) := by decide +kernel
theorem dX13_valueAt_10 : decode cX13_valueAt 10 = .ok (.getfield 68, 3) := by decide +kernel
theorem dX13_valueAt_13 : decode cX13_valueAt 13 = .ok (.ifCond .le 7, 3) := by decide +kernel
theorem dX13_valueAt_16 : decode cX13_valueAt 16 = .ok (.iconst 0, 1) := by decide +kernel
theorem dX13_valueAt_17 : decode cX13_valueAt 17 = .ok (.goto 8, 3) := by decide +kernel
theorem dX13_valueAt_20 : decode cX13_valueAt 20 = .ok (.aload_n 0, 1) := by decide +kernel
theorem dX13_valueAt_21 : decode cX13_valueAt 21 = .ok (.iload_n 1, 1) := by decide +kernel
theorem dX13_valueAt_22 : decode cX13_valueAt 22 = .ok (.invokevirtual 332, 3) := by decide +kernel
theorem dX13_valueAt_25 : decode cX13_valueAt 25 = .ok (.ireturn, 1) := by decide +kernel
def kX13_valueAt_25 (mc ms : Nat) (X : Nat → zV) (Q : zQt) : zT :=
  zj X 25 []
def kX13_valueAt_6 (mc ms : Nat) (X : Nat → zV) (Q : zQt) : zT :=
  zpi 13 0 <| zla 0 <| zgi 13 0 <| zif (fun x => x ≤ 0) (zla 0 <| zli 1 <| zcv mc ms 13 1 wX13_search <| kX13_valueAt_25 mc ms X Q) <| zc (.int 0) <| zj X 25 []
def aX13_valueAt_0 (mc ms : Nat) (X : Nat → zV) (Q : zQt) : zT :=
  zla 0 <| zla 0 <| zli 1 <| zcv mc ms 13 1 wX13_wrongDepth <| kX13_valueAt_6 mc ms X Q
def aX13_valueAt_25 (mc ms : Nat) (X : Nat → zV) (Q : zQt) : zT :=
  zri Q
def lvX13_valueAt : Nat → List Nat := fun L => match L with
  | 0 => [0, 1]
  | 25 => []
  | _ => []
def wX13_valueAt : zSp := fun mc ms av M Q => ((zlay av).length ≤ 2 ∧ zpick (zlay av) [0, 1] = some av) ∧ ∀ X : Nat → zV, zin 2 [0, 1] (aX13_valueAt_0 mc ms X Q) X 0 → zin 2 [] (aX13_valueAt_25 mc ms X Q) X 25 → X 0 0 0 av [] M
set_option maxRecDepth 100000 in
set_option maxHeartbeats 4000000 in
theorem sX13_valueAt (l : Launch) (G : zG) : zSnd l G yX13_valueAt cX13_valueAt 2 (some .int) 9 232 wX13_valueAt := by
  refine zmk [0, 1] (by decide) (fun mc ms av M Q h => h.1) ?_
  intro p e R s m args below meth c mc ms av M Q hC hRf hRl hr hnm h lv hlv
  obtain ⟨X, hXe⟩ : ∃ X : Nat → zV, X = fun L u v vs st M => ∀ lv, zpick lv (lvX13_valueAt L) = some vs → zAt p l e R s m args below meth c (MQ below (zQ G Q) args s mc ms (zA G)) G 2 L u v lv st M := ⟨_, rfl⟩
  have hJ : ∀ L, zOk p l e R s m args below meth c (MQ below (zQ G Q) args s mc ms (zA G)) G 2 L (zj X L (lvX13_valueAt L)) := fun L => S_jump (fun u v lv vs st M hp hx => by rw [hXe] at hx; exact hx lv hp)
  have hB0 : zin 2 [0, 1] (aX13_valueAt_0 mc ms X Q) X 0 := by
    intro u v vs st M hb
    rw [hXe]
    refine fun lv hp => S_block (L := 0) (live := [0, 1]) ?_ u v lv vs st M hp hb
    unfold aX13_valueAt_0
    refine S_aload_n (pc := 0) hC dX13_valueAt_0 rfl ?_
    refine S_aload_n (pc := 1) hC dX13_valueAt_1 rfl ?_
    refine S_iload_n (pc := 2) hC dX13_valueAt_2 rfl ?_
    refine S_callV (pc := 3) hC (sX13_wrongDepth l G) rfl wd_1649 wd_1651 ws_110 wd_12 wd_1652 (by decide +kernel) ⟨by rw [hRf]; decide, by rw [hRl]; decide⟩ dX13_valueAt_3 ?_
    unfold kX13_valueAt_6
    refine S_puti (pc := 6) hC cfX13 (by decide) rfl (Or.inl rfl) wd_1255 dX13_valueAt_6 ?_
    refine S_aload_n (pc := 9) hC dX13_valueAt_9 rfl ?_
    refine S_geti (pc := 10) hC cfX13 (by decide) (Or.inl rfl) wd_1255 dX13_valueAt_10 ?_
    refine S_if_le (pc := 13) (tgt := 20) hC dX13_valueAt_13 (by decide) ?_ ?_
    · refine S_aload_n (pc := 20) hC dX13_valueAt_20 rfl ?_
      refine S_iload_n (pc := 21) hC dX13_valueAt_21 rfl ?_
      refine S_callV (pc := 22) hC (sX13_search l G) rfl wd_1657 wd_1659 ws_112 wd_12 wd_1660 (by decide +kernel) ⟨by rw [hRf]; decide, by rw [hRl]; decide⟩ dX13_valueAt_22 ?_
      unfold kX13_valueAt_25
      exact hJ 25
    · refine S_iconst (pc := 16) hC dX13_valueAt_16 (by decide) ?_
      refine S_goto (pc := 17) (tgt := 25) hC dX13_valueAt_17 (by decide) ?_
      exact hJ 25
  have hB25 : zin 2 [] (aX13_valueAt_25 mc ms X Q) X 25 := by
    intro u v vs st M hb
    rw [hXe]
    refine fun lv hp => S_block (L := 25) (live := []) ?_ u v lv vs st M hp hb
    unfold aX13_valueAt_25
    exact S_ireturn (pc := 25) hC hr dX13_valueAt_25
  have := h.2 X hB0 hB25
  rw [hXe] at this
  exact this lv hlv
theorem vX13_valueAt_0 {mc ms : Nat} {X : Nat → zV} {Q : zQt} {M : zM} {x1 : Int32} (hW : zFix M)  (h : wX13_wrongDepth 0 0 [.ref 55, .int x1] M (fun r M1 => kX13_valueAt_6 mc ms X Q 0 0 [some (.ref 55), some (.int x1)] (r.toList ++ [.ref 55]) M1)) : aX13_valueAt_0 mc ms X Q 0 0 [some (.ref 55), some (.int x1)] [] M := ⟨Nat.le_of_ble_eq_true rfl, rfl, (fxs_55 hW), 0, 0, Nat.zero_le _, Nat.zero_le _, h⟩
theorem vX13_valueAt_25 {mc ms : Nat} {X : Nat → zV} {Q : zQt} {M : zM} {s0 : Int32} (hW : zFix M)  (h : Q (some (.int s0)) M) : aX13_valueAt_25 mc ms X Q 0 0 [none, none] [.int s0] M := h
theorem vkX13_valueAt_6 {mc ms : Nat} {X : Nat → zV} {Q : zQt} {M : zM} {x1 : Int32} {s0 : Int32} (hW : zFix M)  (h : ∀ M6 : zM, M6 = (zsI M 55 0 s0) → ((M6.1 55 0) ≤ 0 → wX13_search 0 0 [.ref 55, .int x1] M6 (fun r M1 => kX13_valueAt_25 mc ms X Q 0 0 [some (.ref 55), some (.int x1)] (r.toList ++ []) M1)) ∧ (¬ (M6.1 55 0) ≤ 0 → X 25 0 0 [] [.int 0] M6)) : kX13_valueAt_6 mc ms X Q 0 0 [some (.ref 55), some (.int x1)] [.int s0, .ref 55] M := ⟨(fxs_55 hW), (have h6 := h _ rfl; ⟨(fxs_55 hW), ⟨fun c13 => ⟨Nat.le_of_ble_eq_true rfl, rfl, (fxs_55 hW), 0, 0, Nat.zero_le _, Nat.zero_le _, (h6.1 c13)⟩, fun c13 => (h6.2 c13)⟩⟩)⟩
theorem vkX13_valueAt_25 {mc ms : Nat} {X : Nat → zV} {Q : zQt} {M : zM} {x1 : Int32} {s0 : Int32} (hW : zFix M)  (h : X 25 0 0 [] [.int s0] M) : kX13_valueAt_25 mc ms X Q 0 0 [some (.ref 55), some (.int x1)] [.int s0] M := h
theorem dX13_bestAt_0 : decode cX13_bestAt 0 = .ok (.aload_n 0, 1) := by decide +kernel
theorem dX13_bestAt_1 : decode cX13_bestAt 1 = .ok (.aload_n 0, 1) := by decide +kernel
theorem dX13_bestAt_2 : decode cX13_bestAt 2 = .ok (.iload_n 1, 1) := by decide +kernel
theorem dX13_bestAt_3 : decode cX13_bestAt 3 = .ok (.invokevirtual 329, 3) := by decide +kernel
theorem dX13_bestAt_6 : decode cX13_bestAt 6 = .ok (.putfield 68, 3) := by decide +kernel
theorem dX13_bestAt_9 : decode cX13_bestAt 9 = .ok (.aload_n 0, 1) := by decide +kernel
theorem dX13_bestAt_10 : decode cX13_bestAt 10 = .ok (.getfield 68, 3) := by decide +kernel
theorem dX13_bestAt_13 : decode cX13_bestAt 13 = .ok (.ifCond .le 5, 3) := by decide +kernel
theorem dX13_bestAt_16 : decode cX13_bestAt 16 = .ok (.iconst 0, 1) := by decide +kernel
theorem dX13_bestAt_17 : decode cX13_bestAt 17 = .ok (.ireturn, 1) := by decide +kernel
theorem dX13_bestAt_18 : decode cX13_bestAt 18 = .ok (.aload_n 0, 1) := by decide +kernel
theorem dX13_bestAt_19 : decode cX13_bestAt 19 = .ok (.iload_n 1, 1) := by decide +kernel
theorem dX13_bestAt_20 : decode cX13_bestAt 20 = .ok (.invokevirtual 332, 3) := by decide +kernel
theorem dX13_bestAt_23 : decode cX13_bestAt 23 = .ok (.istore_n 2, 1) := by decide +kernel
theorem dX13_bestAt_24 : decode cX13_bestAt 24 = .ok (.aload_n 0, 1) := by decide +kernel
theorem dX13_bestAt_25 : decode cX13_bestAt 25 = .ok (.getfield 55, 3) := by decide +kernel
theorem dX13_bestAt_28 : decode cX13_bestAt 28 = .ok (.iconst 0, 1) := by decide +kernel
theorem dX13_bestAt_29 : decode cX13_bestAt 29 = .ok (.iaload, 1) := by decide +kernel
theorem dX13_bestAt_30 : decode cX13_bestAt 30 = .ok (.ireturn, 1) := by decide +kernel
def kX13_bestAt_23 (mc ms : Nat) (X : Nat → zV) (Q : zQt) : zT :=
  zsi 2 <| zla 0 <| zgR 13 20 <| zc (.int 0) <| zal 1 <| zri Q
def kX13_bestAt_6 (mc ms : Nat) (X : Nat → zV) (Q : zQt) : zT :=
  zpi 13 0 <| zla 0 <| zgi 13 0 <| zif (fun x => x ≤ 0) (zla 0 <| zli 1 <| zcv mc ms 13 1 wX13_search <| kX13_bestAt_23 mc ms X Q) <| zc (.int 0) <| zri Q
def aX13_bestAt_0 (mc ms : Nat) (X : Nat → zV) (Q : zQt) : zT :=
  zla 0 <| zla 0 <| zli 1 <| zcv mc ms 13 1 wX13_wrongDepth <| kX13_bestAt_6 mc ms X Q
def lvX13_bestAt : Nat → List Nat := fun L => match L with
  | 0 => [0, 1]
  | _ => []
def wX13_bestAt : zSp := fun mc ms av M Q => ((zlay av).length ≤ 3 ∧ zpick (zlay av) [0, 1] = some av) ∧ ∀ X : Nat → zV, zin 3 [0, 1] (aX13_bestAt_0 mc ms X Q) X 0 → X 0 0 0 av [] M
set_option maxRecDepth 100000 in
set_option maxHeartbeats 4000000 in
theorem sX13_bestAt (l : Launch) (G : zG) : zSnd l G yX13_bestAt cX13_bestAt 3 (some .int) 9 232 wX13_bestAt := by
  refine zmk [0, 1] (by decide) (fun mc ms av M Q h => h.1) ?_
  intro p e R s m args below meth c mc ms av M Q hC hRf hRl hr hnm h lv hlv
  obtain ⟨X, hXe⟩ : ∃ X : Nat → zV, X = fun L u v vs st M => ∀ lv, zpick lv (lvX13_bestAt L) = some vs → zAt p l e R s m args below meth c (MQ below (zQ G Q) args s mc ms (zA G)) G 3 L u v lv st M := ⟨_, rfl⟩
  have hJ : ∀ L, zOk p l e R s m args below meth c (MQ below (zQ G Q) args s mc ms (zA G)) G 3 L (zj X L (lvX13_bestAt L)) := fun L => S_jump (fun u v lv vs st M hp hx => by rw [hXe] at hx; exact hx lv hp)
  have hB0 : zin 3 [0, 1] (aX13_bestAt_0 mc ms X Q) X 0 := by
    intro u v vs st M hb
    rw [hXe]
    refine fun lv hp => S_block (L := 0) (live := [0, 1]) ?_ u v lv vs st M hp hb
    unfold aX13_bestAt_0
    refine S_aload_n (pc := 0) hC dX13_bestAt_0 rfl ?_
    refine S_aload_n (pc := 1) hC dX13_bestAt_1 rfl ?_
    refine S_iload_n (pc := 2) hC dX13_bestAt_2 rfl ?_
    refine S_callV (pc := 3) hC (sX13_wrongDepth l G) rfl wd_1649 wd_1651 ws_110 wd_12 wd_1652 (by decide +kernel) ⟨by rw [hRf]; decide, by rw [hRl]; decide⟩ dX13_bestAt_3 ?_
    unfold kX13_bestAt_6
    refine S_puti (pc := 6) hC cfX13 (by decide) rfl (Or.inl rfl) wd_1255 dX13_bestAt_6 ?_
    refine S_aload_n (pc := 9) hC dX13_bestAt_9 rfl ?_
    refine S_geti (pc := 10) hC cfX13 (by decide) (Or.inl rfl) wd_1255 dX13_bestAt_10 ?_
    refine S_if_le (pc := 13) (tgt := 18) hC dX13_bestAt_13 (by decide) ?_ ?_
    · refine S_aload_n (pc := 18) hC dX13_bestAt_18 rfl ?_
      refine S_iload_n (pc := 19) hC dX13_bestAt_19 rfl ?_
      refine S_callV (pc := 20) hC (sX13_search l G) rfl wd_1657 wd_1659 ws_112 wd_12 wd_1660 (by decide +kernel) ⟨by rw [hRf]; decide, by rw [hRl]; decide⟩ dX13_bestAt_20 ?_
      unfold kX13_bestAt_23
      refine S_istore_n (pc := 23) hC dX13_bestAt_23 rfl (by decide) ?_
      refine S_aload_n (pc := 24) hC dX13_bestAt_24 rfl ?_
      refine S_getR (pc := 25) hC cfX13 (by decide) (Or.inr ⟨_, rfl⟩) wd_1275 dX13_bestAt_25 ?_
      refine S_iconst (pc := 28) hC dX13_bestAt_28 (by decide) ?_
      refine S_iaload (pc := 29) hC dX13_bestAt_29 ?_
      exact S_ireturn (pc := 30) hC hr dX13_bestAt_30
    · refine S_iconst (pc := 16) hC dX13_bestAt_16 (by decide) ?_
      exact S_ireturn (pc := 17) hC hr dX13_bestAt_17
  have := h.2 X hB0
  rw [hXe] at this
  exact this lv hlv
theorem vX13_bestAt_0 {mc ms : Nat} {X : Nat → zV} {Q : zQt} {M : zM} {x1 : Int32} (hW : zFix M)  (h : wX13_wrongDepth 0 0 [.ref 55, .int x1] M (fun r M1 => kX13_bestAt_6 mc ms X Q 0 0 [some (.ref 55), some (.int x1), none] (r.toList ++ [.ref 55]) M1)) : aX13_bestAt_0 mc ms X Q 0 0 [some (.ref 55), some (.int x1), none] [] M := ⟨Nat.le_of_ble_eq_true rfl, rfl, (fxs_55 hW), 0, 0, Nat.zero_le _, Nat.zero_le _, h⟩
theorem vkX13_bestAt_6 {mc ms : Nat} {X : Nat → zV} {Q : zQt} {M : zM} {x1 : Int32} {s0 : Int32} (hW : zFix M)  (h : ∀ M6 : zM, M6 = (zsI M 55 0 s0) → ((M6.1 55 0) ≤ 0 → wX13_search 0 0 [.ref 55, .int x1] M6 (fun r M1 => kX13_bestAt_23 mc ms X Q 0 0 [some (.ref 55), some (.int x1), none] (r.toList ++ []) M1)) ∧ (¬ (M6.1 55 0) ≤ 0 → Q (some (.int 0)) M6)) : kX13_bestAt_6 mc ms X Q 0 0 [some (.ref 55), some (.int x1), none] [.int s0, .ref 55] M := ⟨(fxs_55 hW), (have h6 := h _ rfl; ⟨(fxs_55 hW), ⟨fun c13 => ⟨Nat.le_of_ble_eq_true rfl, rfl, (fxs_55 hW), 0, 0, Nat.zero_le _, Nat.zero_le _, (h6.1 c13)⟩, fun c13 => (h6.2 c13)⟩⟩)⟩
theorem vkX13_bestAt_23 {mc ms : Nat} {X : Nat → zV} {Q : zQt} {M : zM} {x1 : Int32} {s0 : Int32} (hW : zFix M)  (h : Q (some (.int (((M : zM).1 69 (0 : Int32).toNatClampNeg)))) M) : kX13_bestAt_23 mc ms X Q 0 0 [some (.ref 55), some (.int x1), none] [.int s0] M := ⟨(fxs_55 hW), 69, (fxr_55_20 hW), ⟨6, (fxs_69 hW), by unfold vp_in; decide, h⟩⟩
theorem dX13_historyOf_0 : decode cX13_historyOf 0 = .ok (.aload_n 0, 1) := by decide +kernel
theorem dX13_historyOf_1 : decode cX13_historyOf 1 = .ok (.aload_n 0, 1) := by decide +kernel
theorem dX13_historyOf_2 : decode cX13_historyOf 2 = .ok (.getfield 177, 3) := by decide +kernel
theorem dX13_historyOf_5 : decode cX13_historyOf 5 = .ok (.ifCond .eq 34, 3) := by decide +kernel
theorem dX13_historyOf_8 : decode cX13_historyOf 8 = .ok (.iload_n 1, 1) := by decide +kernel
theorem dX13_historyOf_9 : decode cX13_historyOf 9 = .ok (.ifCond .lt 30, 3) := by decide +kernel
theorem dX13_historyOf_12 : decode cX13_historyOf 12 = .ok (.iload_n 1, 1) := by decide +kernel
theorem dX13_historyOf_13 : decode cX13_historyOf 13 = .ok (.aload_n 0, 1) := by decide +kernel
theorem dX13_historyOf_14 : decode cX13_historyOf 14 = .ok (.getfield 22, 3) := by decide +kernel
theorem dX13_historyOf_17 : decode cX13_historyOf 17 = .ok (.aload_n 0, 1) := by decide +kernel
theorem dX13_historyOf_18 : decode cX13_historyOf 18 = .ok (.getfield 123, 3) := by decide +kernel
theorem dX13_historyOf_21 : decode cX13_historyOf 21 = .ok (.iaload, 1) := by decide +kernel
theorem dX13_historyOf_22 : decode cX13_historyOf 22 = .ok (.if_icmp .ge 17, 3) := by decide +kernel
theorem dX13_historyOf_25 : decode cX13_historyOf 25 = .ok (.iload_n 2, 1) := by decide +kernel
theorem dX13_historyOf_26 : decode cX13_historyOf 26 = .ok (.ifCond .lt 13, 3) := by decide +kernel
theorem dX13_historyOf_29 : decode cX13_historyOf 29 = .ok (.iload_n 2, 1) := by decide +kernel
theorem dX13_historyOf_30 : decode cX13_historyOf 30 = .ok (.bipush 8, 2) := by decide +kernel
theorem dX13_historyOf_32 : decode cX13_historyOf 32 = .ok (.if_icmp .ge 7, 3) := by decide +kernel
theorem dX13_historyOf_35 : decode cX13_historyOf 35 = .ok (.iconst 0, 1) := by decide +kernel
theorem dX13_historyOf_36 : decode cX13_historyOf 36 = .ok (.goto 4, 3) := by decide +kernel
theorem dX13_historyOf_39 : decode cX13_historyOf 39 = .ok (.iconst 1, 1) := by decide +kernel
theorem dX13_historyOf_40 : decode cX13_historyOf 40 = .ok (.putfield 68, 3) := by decide +kernel
theorem dX13_historyOf_43 : decode cX13_historyOf 43 = .ok (.aload_n 0, 1) := by decide +kernel
theorem dX13_historyOf_44 : decode cX13_historyOf 44 = .ok (.getfield 68, 3) := by decide +kernel
theorem dX13_historyOf_47 : decode cX13_historyOf 47 = .ok (.ifCond .le 5, 3) := by decide +kernel
theorem dX13_historyOf_50 : decode cX13_historyOf 50 = .ok (.iconst 0, 1) := by decide +kernel
theorem dX13_historyOf_51 : decode cX13_historyOf 51 = .ok (.ireturn, 1) := by decide +kernel
theorem dX13_historyOf_52 : decode cX13_historyOf 52 = .ok (.aload_n 0, 1) := by decide +kernel
theorem dX13_historyOf_53 : decode cX13_historyOf 53 = .ok (.invokevirtual 126, 3) := by decide +kernel
theorem dX13_historyOf_56 : decode cX13_historyOf 56 = .ok (.iload_n 1, 1) := by decide +kernel
theorem dX13_historyOf_57 : decode cX13_historyOf 57 = .ok (.iadd, 1) := by decide +kernel
theorem dX13_historyOf_58 : decode cX13_historyOf 58 = .ok (.istore_n 3, 1) := by decide +kernel
theorem dX13_historyOf_59 : decode cX13_historyOf 59 = .ok (.iload_n 2, 1) := by decide +kernel
theorem dX13_historyOf_60 : decode cX13_historyOf 60 = .ok (.tableswitch 114 0 6 #[44, 51, 64, 71, 78, 85, 92], 44) := by decide +kernel
theorem dX13_historyOf_104 : decode cX13_historyOf 104 = .ok (.aload_n 0, 1) := by decide +kernel
theorem dX13_historyOf_105 : decode cX13_historyOf 105 = .ok (.getfield 37, 3) := by decide +kernel
theorem dX13_historyOf_108 : decode cX13_historyOf 108 = .ok (.iload_n 3, 1) := by decide +kernel
theorem dX13_historyOf_109 : decode cX13_historyOf 109 = .ok (.iaload, 1) := by decide +kernel
theorem dX13_historyOf_110 : decode cX13_historyOf 110 = .ok (.ireturn, 1) := by decide +kernel
theorem dX13_historyOf_111 : decode cX13_historyOf 111 = .ok (.aload_n 0, 1) := by decide +kernel
theorem dX13_historyOf_112 : decode cX13_historyOf 112 = .ok (.getfield 18, 3) := by decide +kernel
theorem dX13_historyOf_115 : decode cX13_historyOf 115 = .ok (.bipush 69, 2) := by decide +kernel
theorem dX13_historyOf_117 : decode cX13_historyOf 117 = .ok (.iload_n 3, 1) := by decide +kernel
theorem dX13_historyOf_118 : decode cX13_historyOf 118 = .ok (.imul, 1) := by decide +kernel
theorem dX13_historyOf_119 : decode cX13_historyOf 119 = .ok (.bipush 67, 2) := by decide +kernel
theorem dX13_historyOf_121 : decode cX13_historyOf 121 = .ok (.iadd, 1) := by decide +kernel
theorem dX13_historyOf_122 : decode cX13_historyOf 122 = .ok (.iaload, 1) := by decide +kernel
theorem dX13_historyOf_123 : decode cX13_historyOf 123 = .ok (.ireturn, 1) := by decide +kernel
theorem dX13_historyOf_124 : decode cX13_historyOf 124 = .ok (.aload_n 0, 1) := by decide +kernel
theorem dX13_historyOf_125 : decode cX13_historyOf 125 = .ok (.getfield 40, 3) := by decide +kernel
theorem dX13_historyOf_128 : decode cX13_historyOf 128 = .ok (.iload_n 3, 1) := by decide +kernel
theorem dX13_historyOf_129 : decode cX13_historyOf 129 = .ok (.iaload, 1) := by decide +kernel
theorem dX13_historyOf_130 : decode cX13_historyOf 130 = .ok (.ireturn, 1) := by decide +kernel
theorem dX13_historyOf_131 : decode cX13_historyOf 131 = .ok (.aload_n 0, 1) := by decide +kernel
theorem dX13_historyOf_132 : decode cX13_historyOf 132 = .ok (.getfield 25, 3) := by decide +kernel
theorem dX13_historyOf_135 : decode cX13_historyOf 135 = .ok (.iload_n 3, 1) := by decide +kernel
theorem dX13_historyOf_136 : decode cX13_historyOf 136 = .ok (.iaload, 1) := by decide +kernel
theorem dX13_historyOf_137 : decode cX13_historyOf 137 = .ok (.ireturn, 1) := by decide +kernel
theorem dX13_historyOf_138 : decode cX13_historyOf 138 = .ok (.aload_n 0, 1) := by decide +kernel
theorem dX13_historyOf_139 : decode cX13_historyOf 139 = .ok (.getfield 28, 3) := by decide +kernel
theorem dX13_historyOf_142 : decode cX13_historyOf 142 = .ok (.iload_n 3, 1) := by decide +kernel
theorem dX13_historyOf_143 : decode cX13_historyOf 143 = .ok (.iaload, 1) := by decide +kernel
theorem dX13_historyOf_144 : decode cX13_historyOf 144 = .ok (.ireturn, 1) := by decide +kernel
theorem dX13_historyOf_145 : decode cX13_historyOf 145 = .ok (.aload_n 0, 1) := by decide +kernel
theorem dX13_historyOf_146 : decode cX13_historyOf 146 = .ok (.getfield 31, 3) := by decide +kernel
theorem dX13_historyOf_149 : decode cX13_historyOf 149 = .ok (.iload_n 3, 1) := by decide +kernel
theorem dX13_historyOf_150 : decode cX13_historyOf 150 = .ok (.iaload, 1) := by decide +kernel
theorem dX13_historyOf_151 : decode cX13_historyOf 151 = .ok (.ireturn, 1) := by decide +kernel
theorem dX13_historyOf_152 : decode cX13_historyOf 152 = .ok (.iconst 0, 1) := by decide +kernel
theorem dX13_historyOf_153 : decode cX13_historyOf 153 = .ok (.istore 4, 2) := by decide +kernel
theorem dX13_historyOf_155 : decode cX13_historyOf 155 = .ok (.aload_n 0, 1) := by decide +kernel
theorem dX13_historyOf_156 : decode cX13_historyOf 156 = .ok (.iload_n 1, 1) := by decide +kernel
theorem dX13_historyOf_157 : decode cX13_historyOf 157 = .ok (.iload 4, 2) := by decide +kernel
theorem dX13_historyOf_159 : decode cX13_historyOf 159 = .ok (.invokevirtual 141, 3) := by decide +kernel
theorem dX13_historyOf_162 : decode cX13_historyOf 162 = .ok (.ifCond .ne 9, 3) := by decide +kernel
theorem dX13_historyOf_165 : decode cX13_historyOf 165 = .ok (.iinc 4 1, 3) := by decide +kernel
theorem dX13_historyOf_168 : decode cX13_historyOf 168 = .ok (.goto (-13), 3) := by decide +kernel
theorem dX13_historyOf_171 : decode cX13_historyOf 171 = .ok (.iload 4, 2) := by decide +kernel
theorem dX13_historyOf_173 : decode cX13_historyOf 173 = .ok (.ireturn, 1) := by decide +kernel
theorem dX13_historyOf_174 : decode cX13_historyOf 174 = .ok (.aload_n 0, 1) := by decide +kernel
theorem dX13_historyOf_175 : decode cX13_historyOf 175 = .ok (.getfield 34, 3) := by decide +kernel
theorem dX13_historyOf_178 : decode cX13_historyOf 178 = .ok (.iload_n 3, 1) := by decide +kernel
theorem dX13_historyOf_179 : decode cX13_historyOf 179 = .ok (.iaload, 1) := by decide +kernel
theorem dX13_historyOf_180 : decode cX13_historyOf 180 = .ok (.ireturn, 1) := by decide +kernel
def kX13_historyOf_56 (mc ms : Nat) (X : Nat → zV) (Q : zQt) : zT :=
  zli 1 <| zii (fun x y => x + y) <| zsi 3 <| zli 2 <| zsw 0 6 [(zla 0 <| zgR 13 14 <| zli 3 <| zal 1 <| zri Q), (zla 0 <| zgR 13 8 <| zc (.int 69) <| zli 3 <| zii (fun x y => x * y) <| zc (.int 67) <| zii (fun x y => x + y) <| zal 1 <| zri Q), (zla 0 <| zgR 13 15 <| zli 3 <| zal 1 <| zri Q), (zla 0 <| zgR 13 10 <| zli 3 <| zal 1 <| zri Q), (zla 0 <| zgR 13 11 <| zli 3 <| zal 1 <| zri Q), (zla 0 <| zgR 13 12 <| zli 3 <| zal 1 <| zri Q), (zc (.int 0) <| zsi 4 <| zj X 155 [0, 1, 4])] <| zla 0 <| zgR 13 13 <| zli 3 <| zal 1 <| zri Q
def kX13_historyOf_162 (mc ms : Nat) (X : Nat → zV) (Q : zQt) : zT :=
  zif (fun x => x = 0) (zinc 4 1 <| zj X 155 [0, 1, 4]) <| zli 4 <| zri Q
def aX13_historyOf_0 (mc ms : Nat) (X : Nat → zV) (Q : zQt) : zT :=
  zla 0 <| zla 0 <| zgi 13 7 <| zif (fun x => x = 0) (zj X 39 [0, 1, 2]) <| zli 1 <| zif (fun x => x < 0) (zj X 39 [0, 1, 2]) <| zli 1 <| zla 0 <| zgR 13 9 <| zla 0 <| zgi 13 6 <| zal 1 <| zic (fun x y => y ≤ x) (zj X 39 [0, 1, 2]) <| zli 2 <| zif (fun x => x < 0) (zj X 39 [0, 1, 2]) <| zli 2 <| zc (.int 8) <| zic (fun x y => y ≤ x) (zj X 39 [0, 1, 2]) <| zc (.int 0) <| zj X 40 [0, 1, 2]
def aX13_historyOf_39 (mc ms : Nat) (X : Nat → zV) (Q : zQt) : zT :=
  zc (.int 1) <| zj X 40 [0, 1, 2]
def aX13_historyOf_40 (mc ms : Nat) (X : Nat → zV) (Q : zQt) : zT :=
  zpi 13 0 <| zla 0 <| zgi 13 0 <| zif (fun x => x ≤ 0) (zla 0 <| zcv mc ms 13 0 wX13_base <| kX13_historyOf_56 mc ms X Q) <| zc (.int 0) <| zri Q
def aX13_historyOf_155 (mc ms : Nat) (X : Nat → zV) (Q : zQt) : zT :=
  zla 0 <| zli 1 <| zli 4 <| zcv mc ms 13 2 wX13_isSame <| kX13_historyOf_162 mc ms X Q
def lvX13_historyOf : Nat → List Nat := fun L => match L with
  | 0 => [0, 1, 2]
  | 39 => [0, 1, 2]
  | 40 => [0, 1, 2]
  | 155 => [0, 1, 4]
  | _ => []
def wX13_historyOf : zSp := fun mc ms av M Q => ((zlay av).length ≤ 5 ∧ zpick (zlay av) [0, 1, 2] = some av) ∧ ∀ X : Nat → zV, zin 5 [0, 1, 2] (aX13_historyOf_0 mc ms X Q) X 0 → zin 5 [0, 1, 2] (aX13_historyOf_39 mc ms X Q) X 39 → zin 5 [0, 1, 2] (aX13_historyOf_40 mc ms X Q) X 40 → zin 5 [0, 1, 4] (aX13_historyOf_155 mc ms X Q) X 155 → X 0 0 0 av [] M
set_option maxRecDepth 100000 in
set_option maxHeartbeats 4000000 in
theorem sX13_historyOf (l : Launch) (G : zG) : zSnd l G yX13_historyOf cX13_historyOf 5 (some .int) 2 46 wX13_historyOf := by
  refine zmk [0, 1, 2] (by decide) (fun mc ms av M Q h => h.1) ?_
  intro p e R s m args below meth c mc ms av M Q hC hRf hRl hr hnm h lv hlv
  obtain ⟨X, hXe⟩ : ∃ X : Nat → zV, X = fun L u v vs st M => ∀ lv, zpick lv (lvX13_historyOf L) = some vs → zAt p l e R s m args below meth c (MQ below (zQ G Q) args s mc ms (zA G)) G 5 L u v lv st M := ⟨_, rfl⟩
  have hJ : ∀ L, zOk p l e R s m args below meth c (MQ below (zQ G Q) args s mc ms (zA G)) G 5 L (zj X L (lvX13_historyOf L)) := fun L => S_jump (fun u v lv vs st M hp hx => by rw [hXe] at hx; exact hx lv hp)
  have hB0 : zin 5 [0, 1, 2] (aX13_historyOf_0 mc ms X Q) X 0 := by
    intro u v vs st M hb
    rw [hXe]
    refine fun lv hp => S_block (L := 0) (live := [0, 1, 2]) ?_ u v lv vs st M hp hb
    unfold aX13_historyOf_0
    refine S_aload_n (pc := 0) hC dX13_historyOf_0 rfl ?_
    refine S_aload_n (pc := 1) hC dX13_historyOf_1 rfl ?_
    refine S_geti (pc := 2) hC cfX13 (by decide) (Or.inr rfl) wd_1262 dX13_historyOf_2 ?_
    refine S_if_eq (pc := 5) (tgt := 39) hC dX13_historyOf_5 (by decide) ?_ ?_
    · exact hJ 39
    · refine S_iload_n (pc := 8) hC dX13_historyOf_8 rfl ?_
      refine S_if_lt (pc := 9) (tgt := 39) hC dX13_historyOf_9 (by decide) ?_ ?_
      · exact hJ 39
      · refine S_iload_n (pc := 12) hC dX13_historyOf_12 rfl ?_
        refine S_aload_n (pc := 13) hC dX13_historyOf_13 rfl ?_
        refine S_getR (pc := 14) hC cfX13 (by decide) (Or.inr ⟨_, rfl⟩) wd_1264 dX13_historyOf_14 ?_
        refine S_aload_n (pc := 17) hC dX13_historyOf_17 rfl ?_
        refine S_geti (pc := 18) hC cfX13 (by decide) (Or.inl rfl) wd_1261 dX13_historyOf_18 ?_
        refine S_iaload (pc := 21) hC dX13_historyOf_21 ?_
        refine S_icmp_ge (pc := 22) (tgt := 39) hC dX13_historyOf_22 (by decide) ?_ ?_
        · exact hJ 39
        · refine S_iload_n (pc := 25) hC dX13_historyOf_25 rfl ?_
          refine S_if_lt (pc := 26) (tgt := 39) hC dX13_historyOf_26 (by decide) ?_ ?_
          · exact hJ 39
          · refine S_iload_n (pc := 29) hC dX13_historyOf_29 rfl ?_
            refine S_bipush (pc := 30) hC dX13_historyOf_30 (by decide) ?_
            refine S_icmp_ge (pc := 32) (tgt := 39) hC dX13_historyOf_32 (by decide) ?_ ?_
            · exact hJ 39
            · refine S_iconst (pc := 35) hC dX13_historyOf_35 (by decide) ?_
              refine S_goto (pc := 36) (tgt := 40) hC dX13_historyOf_36 (by decide) ?_
              exact hJ 40
  have hB39 : zin 5 [0, 1, 2] (aX13_historyOf_39 mc ms X Q) X 39 := by
    intro u v vs st M hb
    rw [hXe]
    refine fun lv hp => S_block (L := 39) (live := [0, 1, 2]) ?_ u v lv vs st M hp hb
    unfold aX13_historyOf_39
    refine S_iconst (pc := 39) hC dX13_historyOf_39 (by decide) ?_
    exact hJ 40
  have hB40 : zin 5 [0, 1, 2] (aX13_historyOf_40 mc ms X Q) X 40 := by
    intro u v vs st M hb
    rw [hXe]
    refine fun lv hp => S_block (L := 40) (live := [0, 1, 2]) ?_ u v lv vs st M hp hb
    unfold aX13_historyOf_40
    refine S_puti (pc := 40) hC cfX13 (by decide) rfl (Or.inl rfl) wd_1255 dX13_historyOf_40 ?_
    refine S_aload_n (pc := 43) hC dX13_historyOf_43 rfl ?_
    refine S_geti (pc := 44) hC cfX13 (by decide) (Or.inl rfl) wd_1255 dX13_historyOf_44 ?_
    refine S_if_le (pc := 47) (tgt := 52) hC dX13_historyOf_47 (by decide) ?_ ?_
    · refine S_aload_n (pc := 52) hC dX13_historyOf_52 rfl ?_
      refine S_callV (pc := 53) hC (sX13_base l G) rfl wd_1439 wd_1441 ws_71 wd_12 wd_1442 (by decide +kernel) ⟨by rw [hRf]; decide, by rw [hRl]; decide⟩ dX13_historyOf_53 ?_
      unfold kX13_historyOf_56
      refine S_iload_n (pc := 56) hC dX13_historyOf_56 rfl ?_
      refine S_iadd (pc := 57) hC dX13_historyOf_57 ?_
      refine S_istore_n (pc := 58) hC dX13_historyOf_58 rfl (by decide) ?_
      refine S_iload_n (pc := 59) hC dX13_historyOf_59 rfl ?_
      refine S_table (pc := 60) (tgd := 174) hC dX13_historyOf_60 (by decide) ?_ (fun i hi => ?_)
      · refine S_aload_n (pc := 174) hC dX13_historyOf_174 rfl ?_
        refine S_getR (pc := 175) hC cfX13 (by decide) (Or.inr ⟨_, rfl⟩) wd_1268 dX13_historyOf_175 ?_
        refine S_iload_n (pc := 178) hC dX13_historyOf_178 rfl ?_
        refine S_iaload (pc := 179) hC dX13_historyOf_179 ?_
        exact S_ireturn (pc := 180) hC hr dX13_historyOf_180
      · match i, hi with
          | 0, _ =>
            refine ⟨_, 104, _, rfl, by decide, rfl, ?_⟩
            refine S_aload_n (pc := 104) hC dX13_historyOf_104 rfl ?_
            refine S_getR (pc := 105) hC cfX13 (by decide) (Or.inr ⟨_, rfl⟩) wd_1269 dX13_historyOf_105 ?_
            refine S_iload_n (pc := 108) hC dX13_historyOf_108 rfl ?_
            refine S_iaload (pc := 109) hC dX13_historyOf_109 ?_
            exact S_ireturn (pc := 110) hC hr dX13_historyOf_110
          | 1, _ =>
            refine ⟨_, 111, _, rfl, by decide, rfl, ?_⟩
            refine S_aload_n (pc := 111) hC dX13_historyOf_111 rfl ?_
            refine S_getR (pc := 112) hC cfX13 (by decide) (Or.inr ⟨_, rfl⟩) wd_1263 dX13_historyOf_112 ?_
            refine S_bipush (pc := 115) hC dX13_historyOf_115 (by decide) ?_
            refine S_iload_n (pc := 117) hC dX13_historyOf_117 rfl ?_
            refine S_imul (pc := 118) hC dX13_historyOf_118 ?_
            refine S_bipush (pc := 119) hC dX13_historyOf_119 (by decide) ?_
            refine S_iadd (pc := 121) hC dX13_historyOf_121 ?_
            refine S_iaload (pc := 122) hC dX13_historyOf_122 ?_
            exact S_ireturn (pc := 123) hC hr dX13_historyOf_123
          | 2, _ =>
            refine ⟨_, 124, _, rfl, by decide, rfl, ?_⟩
            refine S_aload_n (pc := 124) hC dX13_historyOf_124 rfl ?_
            refine S_getR (pc := 125) hC cfX13 (by decide) (Or.inr ⟨_, rfl⟩) wd_1270 dX13_historyOf_125 ?_
            refine S_iload_n (pc := 128) hC dX13_historyOf_128 rfl ?_
            refine S_iaload (pc := 129) hC dX13_historyOf_129 ?_
            exact S_ireturn (pc := 130) hC hr dX13_historyOf_130
          | 3, _ =>
            refine ⟨_, 131, _, rfl, by decide, rfl, ?_⟩
            refine S_aload_n (pc := 131) hC dX13_historyOf_131 rfl ?_
            refine S_getR (pc := 132) hC cfX13 (by decide) (Or.inr ⟨_, rfl⟩) wd_1265 dX13_historyOf_132 ?_
            refine S_iload_n (pc := 135) hC dX13_historyOf_135 rfl ?_
            refine S_iaload (pc := 136) hC dX13_historyOf_136 ?_
            exact S_ireturn (pc := 137) hC hr dX13_historyOf_137
          | 4, _ =>
            refine ⟨_, 138, _, rfl, by decide, rfl, ?_⟩
            refine S_aload_n (pc := 138) hC dX13_historyOf_138 rfl ?_
            refine S_getR (pc := 139) hC cfX13 (by decide) (Or.inr ⟨_, rfl⟩) wd_1266 dX13_historyOf_139 ?_
            refine S_iload_n (pc := 142) hC dX13_historyOf_142 rfl ?_
            refine S_iaload (pc := 143) hC dX13_historyOf_143 ?_
            exact S_ireturn (pc := 144) hC hr dX13_historyOf_144
          | 5, _ =>
            refine ⟨_, 145, _, rfl, by decide, rfl, ?_⟩
            refine S_aload_n (pc := 145) hC dX13_historyOf_145 rfl ?_
            refine S_getR (pc := 146) hC cfX13 (by decide) (Or.inr ⟨_, rfl⟩) wd_1267 dX13_historyOf_146 ?_
            refine S_iload_n (pc := 149) hC dX13_historyOf_149 rfl ?_
            refine S_iaload (pc := 150) hC dX13_historyOf_150 ?_
            exact S_ireturn (pc := 151) hC hr dX13_historyOf_151
          | 6, _ =>
            refine ⟨_, 152, _, rfl, by decide, rfl, ?_⟩
            refine S_iconst (pc := 152) hC dX13_historyOf_152 (by decide) ?_
            refine S_istore (pc := 153) hC dX13_historyOf_153 (by decide) ?_
            exact hJ 155
          | n + 7, h => exact absurd h (by omega)
    · refine S_iconst (pc := 50) hC dX13_historyOf_50 (by decide) ?_
      exact S_ireturn (pc := 51) hC hr dX13_historyOf_51
  have hB155 : zin 5 [0, 1, 4] (aX13_historyOf_155 mc ms X Q) X 155 := by
    intro u v vs st M hb
    rw [hXe]
    refine fun lv hp => S_block (L := 155) (live := [0, 1, 4]) ?_ u v lv vs st M hp hb
    unfold aX13_historyOf_155
    refine S_aload_n (pc := 155) hC dX13_historyOf_155 rfl ?_
    refine S_iload_n (pc := 156) hC dX13_historyOf_156 rfl ?_
    refine S_iload (pc := 157) hC dX13_historyOf_157 ?_
    refine S_callV (pc := 159) hC (sX13_isSame l G) rfl wd_1488 wd_1490 ws_81 wd_12 wd_1491 (by decide +kernel) ⟨by rw [hRf]; decide, by rw [hRl]; decide⟩ dX13_historyOf_159 ?_
    unfold kX13_historyOf_162
    refine S_if_ne (pc := 162) (tgt := 171) hC dX13_historyOf_162 (by decide) ?_ ?_
    · refine S_iload (pc := 171) hC dX13_historyOf_171 ?_
      exact S_ireturn (pc := 173) hC hr dX13_historyOf_173
    · refine S_iinc (pc := 165) hC dX13_historyOf_165 (by decide) (by decide) ?_
      refine S_goto (pc := 168) (tgt := 155) hC dX13_historyOf_168 (by decide) ?_
      exact hJ 155
  have := h.2 X hB0 hB39 hB40 hB155
  rw [hXe] at this
  exact this lv hlv
theorem vX13_historyOf_0 {mc ms : Nat} {X : Nat → zV} {Q : zQt} {M : zM} {x1 : Int32} {x2 : Int32} (hW : zFix M)  (h : ((M.1 55 7) = 0 → X 39 0 0 [.ref 55, .int x1, .int x2] [.ref 55] M) ∧ (¬ (M.1 55 7) = 0 → (x1 < 0 → X 39 0 0 [.ref 55, .int x1, .int x2] [.ref 55] M) ∧ (¬ x1 < 0 → vp_in ((M.1 55 6)) 2 ∧ (((M : zM).1 58 ((M.1 55 6) : Int32).toNatClampNeg) ≤ x1 → X 39 0 0 [.ref 55, .int x1, .int x2] [.ref 55] M) ∧ (¬ ((M : zM).1 58 ((M.1 55 6) : Int32).toNatClampNeg) ≤ x1 → (x2 < 0 → X 39 0 0 [.ref 55, .int x1, .int x2] [.ref 55] M) ∧ (¬ x2 < 0 → ((8 : Int32) ≤ x2 → X 39 0 0 [.ref 55, .int x1, .int x2] [.ref 55] M) ∧ (¬ (8 : Int32) ≤ x2 → X 40 0 0 [.ref 55, .int x1, .int x2] [.int 0, .ref 55] M)))))) : aX13_historyOf_0 mc ms X Q 0 0 [some (.ref 55), some (.int x1), some (.int x2), none, none] [] M := ⟨(fxs_55 hW), ⟨fun c5 => (h.1 c5), fun c5 => ⟨fun c9 => ((h.2 c5).1 c9), fun c9 => ⟨(fxs_55 hW), 58, (fxr_55_9 hW), ⟨(fxs_55 hW), ⟨2, (fxs_58 hW), ((h.2 c5).2 c9).1, ⟨fun c22 => (((h.2 c5).2 c9).2.1 c22), fun c22 => ⟨fun c26 => ((((h.2 c5).2 c9).2.2 c22).1 c26), fun c26 => ⟨fun c32 => (((((h.2 c5).2 c9).2.2 c22).2 c26).1 c32), fun c32 => (((((h.2 c5).2 c9).2.2 c22).2 c26).2 c32)⟩⟩⟩⟩⟩⟩⟩⟩⟩
theorem vX13_historyOf_39 {mc ms : Nat} {X : Nat → zV} {Q : zQt} {M : zM} {x1 : Int32} {x2 : Int32} (hW : zFix M)  (h : X 40 0 0 [.ref 55, .int x1, .int x2] [.int 1, .ref 55] M) : aX13_historyOf_39 mc ms X Q 0 0 [some (.ref 55), some (.int x1), some (.int x2), none, none] [.ref 55] M := h
theorem vX13_historyOf_40 {mc ms : Nat} {X : Nat → zV} {Q : zQt} {M : zM} {x1 : Int32} {x2 : Int32} {s0 : Int32} (hW : zFix M)  (h : ∀ M40 : zM, M40 = (zsI M 55 0 s0) → ((M40.1 55 0) ≤ 0 → wX13_base 0 0 [.ref 55] M40 (fun r M1 => kX13_historyOf_56 mc ms X Q 0 0 [some (.ref 55), some (.int x1), some (.int x2), none, none] (r.toList ++ []) M1)) ∧ (¬ (M40.1 55 0) ≤ 0 → Q (some (.int 0)) M40)) : aX13_historyOf_40 mc ms X Q 0 0 [some (.ref 55), some (.int x1), some (.int x2), none, none] [.int s0, .ref 55] M := ⟨(fxs_55 hW), (have h40 := h _ rfl; ⟨(fxs_55 hW), ⟨fun c47 => ⟨Nat.le_of_ble_eq_true rfl, rfl, (fxs_55 hW), 0, 0, Nat.zero_le _, Nat.zero_le _, (h40.1 c47)⟩, fun c47 => (h40.2 c47)⟩⟩)⟩
theorem vX13_historyOf_155 {mc ms : Nat} {X : Nat → zV} {Q : zQt} {M : zM} {x1 : Int32} {x4 : Int32} (hW : zFix M)  (h : wX13_isSame 0 0 [.ref 55, .int x1, .int x4] M (fun r M1 => kX13_historyOf_162 mc ms X Q 0 0 [some (.ref 55), some (.int x1), none, none, some (.int x4)] (r.toList ++ []) M1)) : aX13_historyOf_155 mc ms X Q 0 0 [some (.ref 55), some (.int x1), none, none, some (.int x4)] [] M := ⟨Nat.le_of_ble_eq_true rfl, rfl, (fxs_55 hW), 0, 0, Nat.zero_le _, Nat.zero_le _, h⟩
theorem vkX13_historyOf_56 {mc ms : Nat} {X : Nat → zV} {Q : zQt} {M : zM} {x1 : Int32} {x2 : Int32} {s0 : Int32} (hW : zFix M)  (h : ((x2 : Int32).toInt < 0 ∨ 6 < (x2 : Int32).toInt → vp_in ((s0 + x1)) 1202 ∧ Q (some (.int (((M : zM).1 62 ((s0 + x1) : Int32).toNatClampNeg)))) M) ∧ ((x2 : Int32).toInt = 0 → vp_in ((s0 + x1)) 1202 ∧ Q (some (.int (((M : zM).1 63 ((s0 + x1) : Int32).toNatClampNeg)))) M) ∧ ((x2 : Int32).toInt = 1 → vp_in ((((69 : Int32) * (s0 + x1)) + (67 : Int32))) 82938 ∧ Q (some (.int (((M : zM).1 57 ((((69 : Int32) * (s0 + x1)) + (67 : Int32)) : Int32).toNatClampNeg)))) M) ∧ ((x2 : Int32).toInt = 2 → vp_in ((s0 + x1)) 1202 ∧ Q (some (.int (((M : zM).1 64 ((s0 + x1) : Int32).toNatClampNeg)))) M) ∧ ((x2 : Int32).toInt = 3 → vp_in ((s0 + x1)) 1202 ∧ Q (some (.int (((M : zM).1 59 ((s0 + x1) : Int32).toNatClampNeg)))) M) ∧ ((x2 : Int32).toInt = 4 → vp_in ((s0 + x1)) 1202 ∧ Q (some (.int (((M : zM).1 60 ((s0 + x1) : Int32).toNatClampNeg)))) M) ∧ ((x2 : Int32).toInt = 5 → vp_in ((s0 + x1)) 1202 ∧ Q (some (.int (((M : zM).1 61 ((s0 + x1) : Int32).toNatClampNeg)))) M) ∧ ((x2 : Int32).toInt = 6 → X 155 0 0 [.ref 55, .int x1, .int 0] [] M)) : kX13_historyOf_56 mc ms X Q 0 0 [some (.ref 55), some (.int x1), some (.int x2), none, none] [.int s0] M := ⟨fun c60 => ⟨(fxs_55 hW), 62, (fxr_55_13 hW), ⟨1202, (fxs_62 hW), (h.1 c60).1, (h.1 c60).2⟩⟩, ⟨fun c60 => ⟨(fxs_55 hW), 63, (fxr_55_14 hW), ⟨1202, (fxs_63 hW), (h.2.1 c60).1, (h.2.1 c60).2⟩⟩, ⟨fun c60 => ⟨(fxs_55 hW), 57, (fxr_55_8 hW), ⟨82938, (fxs_57 hW), (h.2.2.1 c60).1, (h.2.2.1 c60).2⟩⟩, ⟨fun c60 => ⟨(fxs_55 hW), 64, (fxr_55_15 hW), ⟨1202, (fxs_64 hW), (h.2.2.2.1 c60).1, (h.2.2.2.1 c60).2⟩⟩, ⟨fun c60 => ⟨(fxs_55 hW), 59, (fxr_55_10 hW), ⟨1202, (fxs_59 hW), (h.2.2.2.2.1 c60).1, (h.2.2.2.2.1 c60).2⟩⟩, ⟨fun c60 => ⟨(fxs_55 hW), 60, (fxr_55_11 hW), ⟨1202, (fxs_60 hW), (h.2.2.2.2.2.1 c60).1, (h.2.2.2.2.2.1 c60).2⟩⟩, ⟨fun c60 => ⟨(fxs_55 hW), 61, (fxr_55_12 hW), ⟨1202, (fxs_61 hW), (h.2.2.2.2.2.2.1 c60).1, (h.2.2.2.2.2.2.1 c60).2⟩⟩, ⟨fun c60 => (h.2.2.2.2.2.2.2 c60), trivial⟩⟩⟩⟩⟩⟩⟩⟩
theorem vkX13_historyOf_162 {mc ms : Nat} {X : Nat → zV} {Q : zQt} {M : zM} {x1 : Int32} {x4 : Int32} {s0 : Int32} (hW : zFix M)  (h : (s0 = 0 → X 155 0 0 [.ref 55, .int x1, .int (x4 + 1)] [] M) ∧ (¬ s0 = 0 → Q (some (.int x4)) M)) : kX13_historyOf_162 mc ms X Q 0 0 [some (.ref 55), some (.int x1), none, none, some (.int x4)] [.int s0] M := ⟨fun c162 => (h.1 c162), fun c162 => (h.2 c162)⟩
theorem dX13_counted_0 : decode cX13_counted 0 = .ok (.iconst 0, 1) := by decide +kernel
theorem dX13_counted_1 : decode cX13_counted 1 = .ok (.istore_n 2, 1) := by decide +kernel
theorem dX13_counted_2 : decode cX13_counted 2 = .ok (.iconst 0, 1) := by decide +kernel
theorem dX13_counted_3 : decode cX13_counted 3 = .ok (.istore_n 3, 1) := by decide +kernel
theorem dX13_counted_4 : decode cX13_counted 4 = .ok (.iconst 0, 1) := by decide +kernel
theorem dX13_counted_5 : decode cX13_counted 5 = .ok (.istore 4, 2) := by decide +kernel
theorem dX13_counted_7 : decode cX13_counted 7 = .ok (.iload 4, 2) := by decide +kernel
theorem dX13_counted_9 : decode cX13_counted 9 = .ok (.aload_n 0, 1) := by decide +kernel
theorem dX13_counted_10 : decode cX13_counted 10 = .ok (.getfield 22, 3) := by decide +kernel
theorem dX13_counted_13 : decode cX13_counted 13 = .ok (.aload_n 0, 1) := by decide +kernel
theorem dX13_counted_14 : decode cX13_counted 14 = .ok (.getfield 123, 3) := by decide +kernel
theorem dX13_counted_17 : decode cX13_counted 17 = .ok (.iaload, 1) := by decide +kernel
theorem dX13_counted_18 : decode cX13_counted 18 = .ok (.if_icmp .ge 50, 3) := by decide +kernel
theorem dX13_counted_21 : decode cX13_counted 21 = .ok (.aload_n 0, 1) := by decide +kernel
theorem dX13_counted_22 : decode cX13_counted 22 = .ok (.getfield 37, 3) := by decide +kernel
theorem dX13_counted_25 : decode cX13_counted 25 = .ok (.aload_n 0, 1) := by decide +kernel
theorem dX13_counted_26 : decode cX13_counted 26 = .ok (.invokevirtual 126, 3) := by decide +kernel
theorem dX13_counted_29 : decode cX13_counted 29 = .ok (.iload 4, 2) := by decide +kernel
theorem dX13_counted_31 : decode cX13_counted 31 = .ok (.iadd, 1) := by decide +kernel
theorem dX13_counted_32 : decode cX13_counted 32 = .ok (.iaload, 1) := by decide +kernel
theorem dX13_counted_33 : decode cX13_counted 33 = .ok (.istore 5, 2) := by decide +kernel
theorem dX13_counted_35 : decode cX13_counted 35 = .ok (.iload_n 2, 1) := by decide +kernel
theorem dX13_counted_36 : decode cX13_counted 36 = .ok (.iload 5, 2) := by decide +kernel
theorem dX13_counted_38 : decode cX13_counted 38 = .ok (.iconst 1, 1) := by decide +kernel
theorem dX13_counted_39 : decode cX13_counted 39 = .ok (.if_icmp .ne 7, 3) := by decide +kernel
theorem dX13_counted_42 : decode cX13_counted 42 = .ok (.iconst 1, 1) := by decide +kernel
theorem dX13_counted_43 : decode cX13_counted 43 = .ok (.goto 4, 3) := by decide +kernel
theorem dX13_counted_46 : decode cX13_counted 46 = .ok (.iconst 0, 1) := by decide +kernel
theorem dX13_counted_47 : decode cX13_counted 47 = .ok (.iadd, 1) := by decide +kernel
theorem dX13_counted_48 : decode cX13_counted 48 = .ok (.istore_n 2, 1) := by decide +kernel
theorem dX13_counted_49 : decode cX13_counted 49 = .ok (.iload 5, 2) := by decide +kernel
theorem dX13_counted_51 : decode cX13_counted 51 = .ok (.iload_n 3, 1) := by decide +kernel
theorem dX13_counted_52 : decode cX13_counted 52 = .ok (.if_icmp .le 8, 3) := by decide +kernel
theorem dX13_counted_55 : decode cX13_counted 55 = .ok (.iload 5, 2) := by decide +kernel
theorem dX13_counted_57 : decode cX13_counted 57 = .ok (.goto 4, 3) := by decide +kernel
theorem dX13_counted_60 : decode cX13_counted 60 = .ok (.iload_n 3, 1) := by decide +kernel
theorem dX13_counted_61 : decode cX13_counted 61 = .ok (.istore_n 3, 1) := by decide +kernel
theorem dX13_counted_62 : decode cX13_counted 62 = .ok (.iinc 4 1, 3) := by decide +kernel
theorem dX13_counted_65 : decode cX13_counted 65 = .ok (.goto (-58), 3) := by decide +kernel
theorem dX13_counted_68 : decode cX13_counted 68 = .ok (.iload_n 1, 1) := by decide +kernel
theorem dX13_counted_69 : decode cX13_counted 69 = .ok (.ifCond .ne 7, 3) := by decide +kernel
theorem dX13_counted_72 : decode cX13_counted 72 = .ok (.iload_n 2, 1) := by decide +kernel
theorem dX13_counted_73 : decode cX13_counted 73 = .ok (.goto 4, 3) := by decide +kernel
theorem dX13_counted_76 : decode cX13_counted 76 = .ok (.iload_n 3, 1) := by decide +kernel
theorem dX13_counted_77 : decode cX13_counted 77 = .ok (.ireturn, 1) := by decide +kernel
def kX13_counted_35 (mc ms : Nat) (X : Nat → zV) (Q : zQt) : zT :=
  zli 2 <| zli 5 <| zc (.int 1) <| zic (fun x y => x = y) (zc (.int 1) <| zj X 47 [0, 1, 3, 4, 5]) <| zc (.int 0) <| zj X 47 [0, 1, 3, 4, 5]
def kX13_counted_29 (mc ms : Nat) (X : Nat → zV) (Q : zQt) : zT :=
  zli 4 <| zii (fun x y => x + y) <| zal 1 <| zsiN 5 <| kX13_counted_35 mc ms X Q
def aX13_counted_0 (mc ms : Nat) (X : Nat → zV) (Q : zQt) : zT :=
  zc (.int 0) <| zsi 2 <| zc (.int 0) <| zsi 3 <| zc (.int 0) <| zsi 4 <| zj X 7 [0, 1, 2, 3, 4]
def aX13_counted_7 (mc ms : Nat) (X : Nat → zV) (Q : zQt) : zT :=
  zli 4 <| zla 0 <| zgR 13 9 <| zla 0 <| zgi 13 6 <| zal 1 <| zic (fun x y => y ≤ x) (zli 1 <| zif (fun x => x = 0) (zli 2 <| zj X 77 []) <| zli 3 <| zj X 77 []) <| zla 0 <| zgR 13 14 <| zla 0 <| zcv mc ms 13 0 wX13_base <| kX13_counted_29 mc ms X Q
def aX13_counted_47 (mc ms : Nat) (X : Nat → zV) (Q : zQt) : zT :=
  zii (fun x y => x + y) <| zsi 2 <| zli 5 <| zli 3 <| zic (fun x y => x ≤ y) (zli 3 <| zj X 61 [0, 1, 2, 4]) <| zli 5 <| zj X 61 [0, 1, 2, 4]
def aX13_counted_61 (mc ms : Nat) (X : Nat → zV) (Q : zQt) : zT :=
  zsi 3 <| zinc 4 1 <| zj X 7 [0, 1, 2, 3, 4]
def aX13_counted_77 (mc ms : Nat) (X : Nat → zV) (Q : zQt) : zT :=
  zri Q
def lvX13_counted : Nat → List Nat := fun L => match L with
  | 0 => [0, 1]
  | 7 => [0, 1, 2, 3, 4]
  | 47 => [0, 1, 3, 4, 5]
  | 61 => [0, 1, 2, 4]
  | 77 => []
  | _ => []
def wX13_counted : zSp := fun mc ms av M Q => ((zlay av).length ≤ 6 ∧ zpick (zlay av) [0, 1] = some av) ∧ ∀ X : Nat → zV, zin 6 [0, 1] (aX13_counted_0 mc ms X Q) X 0 → zin 6 [0, 1, 2, 3, 4] (aX13_counted_7 mc ms X Q) X 7 → zin 6 [0, 1, 3, 4, 5] (aX13_counted_47 mc ms X Q) X 47 → zin 6 [0, 1, 2, 4] (aX13_counted_61 mc ms X Q) X 61 → zin 6 [] (aX13_counted_77 mc ms X Q) X 77 → X 0 0 0 av [] M
set_option maxRecDepth 100000 in
set_option maxHeartbeats 4000000 in
theorem sX13_counted (l : Launch) (G : zG) : zSnd l G yX13_counted cX13_counted 6 (some .int) 1 20 wX13_counted := by
  refine zmk [0, 1] (by decide) (fun mc ms av M Q h => h.1) ?_
  intro p e R s m args below meth c mc ms av M Q hC hRf hRl hr hnm h lv hlv
  obtain ⟨X, hXe⟩ : ∃ X : Nat → zV, X = fun L u v vs st M => ∀ lv, zpick lv (lvX13_counted L) = some vs → zAt p l e R s m args below meth c (MQ below (zQ G Q) args s mc ms (zA G)) G 6 L u v lv st M := ⟨_, rfl⟩
  have hJ : ∀ L, zOk p l e R s m args below meth c (MQ below (zQ G Q) args s mc ms (zA G)) G 6 L (zj X L (lvX13_counted L)) := fun L => S_jump (fun u v lv vs st M hp hx => by rw [hXe] at hx; exact hx lv hp)
  have hB0 : zin 6 [0, 1] (aX13_counted_0 mc ms X Q) X 0 := by
    intro u v vs st M hb
    rw [hXe]
    refine fun lv hp => S_block (L := 0) (live := [0, 1]) ?_ u v lv vs st M hp hb
    unfold aX13_counted_0
    refine S_iconst (pc := 0) hC dX13_counted_0 (by decide) ?_
    refine S_istore_n (pc := 1) hC dX13_counted_1 rfl (by decide) ?_
    refine S_iconst (pc := 2) hC dX13_counted_2 (by decide) ?_
    refine S_istore_n (pc := 3) hC dX13_counted_3 rfl (by decide) ?_
    refine S_iconst (pc := 4) hC dX13_counted_4 (by decide) ?_
    refine S_istore (pc := 5) hC dX13_counted_5 (by decide) ?_
    exact hJ 7
  have hB7 : zin 6 [0, 1, 2, 3, 4] (aX13_counted_7 mc ms X Q) X 7 := by
    intro u v vs st M hb
    rw [hXe]
    refine fun lv hp => S_block (L := 7) (live := [0, 1, 2, 3, 4]) ?_ u v lv vs st M hp hb
    unfold aX13_counted_7
    refine S_iload (pc := 7) hC dX13_counted_7 ?_
    refine S_aload_n (pc := 9) hC dX13_counted_9 rfl ?_
    refine S_getR (pc := 10) hC cfX13 (by decide) (Or.inr ⟨_, rfl⟩) wd_1264 dX13_counted_10 ?_
    refine S_aload_n (pc := 13) hC dX13_counted_13 rfl ?_
    refine S_geti (pc := 14) hC cfX13 (by decide) (Or.inl rfl) wd_1261 dX13_counted_14 ?_
    refine S_iaload (pc := 17) hC dX13_counted_17 ?_
    refine S_icmp_ge (pc := 18) (tgt := 68) hC dX13_counted_18 (by decide) ?_ ?_
    · refine S_iload_n (pc := 68) hC dX13_counted_68 rfl ?_
      refine S_if_ne (pc := 69) (tgt := 76) hC dX13_counted_69 (by decide) ?_ ?_
      · refine S_iload_n (pc := 76) hC dX13_counted_76 rfl ?_
        exact hJ 77
      · refine S_iload_n (pc := 72) hC dX13_counted_72 rfl ?_
        refine S_goto (pc := 73) (tgt := 77) hC dX13_counted_73 (by decide) ?_
        exact hJ 77
    · refine S_aload_n (pc := 21) hC dX13_counted_21 rfl ?_
      refine S_getR (pc := 22) hC cfX13 (by decide) (Or.inr ⟨_, rfl⟩) wd_1269 dX13_counted_22 ?_
      refine S_aload_n (pc := 25) hC dX13_counted_25 rfl ?_
      refine S_callV (pc := 26) hC (sX13_base l G) rfl wd_1439 wd_1441 ws_71 wd_12 wd_1442 (by decide +kernel) ⟨by rw [hRf]; decide, by rw [hRl]; decide⟩ dX13_counted_26 ?_
      unfold kX13_counted_29
      refine S_iload (pc := 29) hC dX13_counted_29 ?_
      refine S_iadd (pc := 31) hC dX13_counted_31 ?_
      refine S_iaload (pc := 32) hC dX13_counted_32 ?_
      refine S_istore_N (pc := 33) hC dX13_counted_33 (by decide) ?_
      unfold kX13_counted_35
      refine S_iload_n (pc := 35) hC dX13_counted_35 rfl ?_
      refine S_iload (pc := 36) hC dX13_counted_36 ?_
      refine S_iconst (pc := 38) hC dX13_counted_38 (by decide) ?_
      refine S_icmp_ne (pc := 39) (tgt := 46) hC dX13_counted_39 (by decide) ?_ ?_
      · refine S_iconst (pc := 46) hC dX13_counted_46 (by decide) ?_
        exact hJ 47
      · refine S_iconst (pc := 42) hC dX13_counted_42 (by decide) ?_
        refine S_goto (pc := 43) (tgt := 47) hC dX13_counted_43 (by decide) ?_
        exact hJ 47
  have hB47 : zin 6 [0, 1, 3, 4, 5] (aX13_counted_47 mc ms X Q) X 47 := by
    intro u v vs st M hb
    rw [hXe]
    refine fun lv hp => S_block (L := 47) (live := [0, 1, 3, 4, 5]) ?_ u v lv vs st M hp hb
    unfold aX13_counted_47
    refine S_iadd (pc := 47) hC dX13_counted_47 ?_
    refine S_istore_n (pc := 48) hC dX13_counted_48 rfl (by decide) ?_
    refine S_iload (pc := 49) hC dX13_counted_49 ?_
    refine S_iload_n (pc := 51) hC dX13_counted_51 rfl ?_
    refine S_icmp_le (pc := 52) (tgt := 60) hC dX13_counted_52 (by decide) ?_ ?_
    · refine S_iload_n (pc := 60) hC dX13_counted_60 rfl ?_
      exact hJ 61
    · refine S_iload (pc := 55) hC dX13_counted_55 ?_
      refine S_goto (pc := 57) (tgt := 61) hC dX13_counted_57 (by decide) ?_
      exact hJ 61
  have hB61 : zin 6 [0, 1, 2, 4] (aX13_counted_61 mc ms X Q) X 61 := by
    intro u v vs st M hb
    rw [hXe]
    refine fun lv hp => S_block (L := 61) (live := [0, 1, 2, 4]) ?_ u v lv vs st M hp hb
    unfold aX13_counted_61
    refine S_istore_n (pc := 61) hC dX13_counted_61 rfl (by decide) ?_
    refine S_iinc (pc := 62) hC dX13_counted_62 (by decide) (by decide) ?_
    refine S_goto (pc := 65) (tgt := 7) hC dX13_counted_65 (by decide) ?_
    exact hJ 7
  have hB77 : zin 6 [] (aX13_counted_77 mc ms X Q) X 77 := by
    intro u v vs st M hb
    rw [hXe]
    refine fun lv hp => S_block (L := 77) (live := []) ?_ u v lv vs st M hp hb
    unfold aX13_counted_77
    exact S_ireturn (pc := 77) hC hr dX13_counted_77
  have := h.2 X hB0 hB7 hB47 hB61 hB77
  rw [hXe] at this
  exact this lv hlv
theorem vX13_counted_0 {mc ms : Nat} {X : Nat → zV} {Q : zQt} {M : zM} {x1 : Int32} (hW : zFix M)  (h : X 7 0 0 [.ref 55, .int x1, .int 0, .int 0, .int 0] [] M) : aX13_counted_0 mc ms X Q 0 0 [some (.ref 55), some (.int x1), none, none, none, none] [] M := h
theorem vX13_counted_7 {mc ms : Nat} {X : Nat → zV} {Q : zQt} {M : zM} {x1 : Int32} {x2 : Int32} {x3 : Int32} {x4 : Int32} (hW : zFix M)  (h : vp_in ((M.1 55 6)) 2 ∧ (((M : zM).1 58 ((M.1 55 6) : Int32).toNatClampNeg) ≤ x4 → (x1 = 0 → X 77 0 0 [] [.int x2] M) ∧ (¬ x1 = 0 → X 77 0 0 [] [.int x3] M)) ∧ (¬ ((M : zM).1 58 ((M.1 55 6) : Int32).toNatClampNeg) ≤ x4 → wX13_base 0 0 [.ref 55] M (fun r M1 => kX13_counted_29 mc ms X Q 0 0 [some (.ref 55), some (.int x1), some (.int x2), some (.int x3), some (.int x4), none] (r.toList ++ [.ref 63]) M1))) : aX13_counted_7 mc ms X Q 0 0 [some (.ref 55), some (.int x1), some (.int x2), some (.int x3), some (.int x4), none] [] M := ⟨(fxs_55 hW), 58, (fxr_55_9 hW), ⟨(fxs_55 hW), ⟨2, (fxs_58 hW), h.1, ⟨fun c18 => ⟨fun c69 => ((h.2.1 c18).1 c69), fun c69 => ((h.2.1 c18).2 c69)⟩, fun c18 => ⟨(fxs_55 hW), 63, (fxr_55_14 hW), ⟨Nat.le_of_ble_eq_true rfl, rfl, (fxs_55 hW), 0, 0, Nat.zero_le _, Nat.zero_le _, (h.2.2 c18)⟩⟩⟩⟩⟩⟩
theorem vX13_counted_47 {mc ms : Nat} {X : Nat → zV} {Q : zQt} {M : zM} {x1 : Int32} {x3 : Int32} {x4 : Int32} {x5 : Int32} {s0 : Int32} {s1 : Int32} (hW : zFix M)  (h : (x5 ≤ x3 → X 61 0 0 [.ref 55, .int x1, .int (s1 + s0), .int x4] [.int x3] M) ∧ (¬ x5 ≤ x3 → X 61 0 0 [.ref 55, .int x1, .int (s1 + s0), .int x4] [.int x5] M)) : aX13_counted_47 mc ms X Q 0 0 [some (.ref 55), some (.int x1), none, some (.int x3), some (.int x4), some (.int x5)] [.int s0, .int s1] M := ⟨fun c52 => (h.1 c52), fun c52 => (h.2 c52)⟩
theorem vX13_counted_61 {mc ms : Nat} {X : Nat → zV} {Q : zQt} {M : zM} {x1 : Int32} {x2 : Int32} {x4 : Int32} {s0 : Int32} (hW : zFix M)  (h : X 7 0 0 [.ref 55, .int x1, .int x2, .int s0, .int (x4 + 1)] [] M) : aX13_counted_61 mc ms X Q 0 0 [some (.ref 55), some (.int x1), some (.int x2), none, some (.int x4), none] [.int s0] M := h
theorem vX13_counted_77 {mc ms : Nat} {X : Nat → zV} {Q : zQt} {M : zM} {s0 : Int32} (hW : zFix M)  (h : Q (some (.int s0)) M) : aX13_counted_77 mc ms X Q 0 0 [none, none, none, none, none, none] [.int s0] M := h
theorem vcX13_counted_35 {mc ms : Nat} {X : Nat → zV} {Q : zQt} {M : zM} {x1 : Int32} {x2 : Int32} {x3 : Int32} {x4 : Int32} {x5 : Int32} (hW : zFix M)  (h : (x5 = (1 : Int32) → X 47 0 0 [.ref 55, .int x1, .int x3, .int x4, .int x5] [.int 1, .int x2] M) ∧ (¬ x5 = (1 : Int32) → X 47 0 0 [.ref 55, .int x1, .int x3, .int x4, .int x5] [.int 0, .int x2] M)) : kX13_counted_35 mc ms X Q 0 0 [some (.ref 55), some (.int x1), some (.int x2), some (.int x3), some (.int x4), some (.int x5)] [] M := ⟨fun c39 => (h.1 c39), fun c39 => (h.2 c39)⟩
theorem vkX13_counted_29 {mc ms : Nat} {X : Nat → zV} {Q : zQt} {M : zM} {x1 : Int32} {x2 : Int32} {x3 : Int32} {x4 : Int32} {s0 : Int32} (hW : zFix M)  (h : vp_in ((s0 + x4)) 1202 ∧ ∀ y33 : Int32, y33 = ((M : zM).1 63 ((s0 + x4) : Int32).toNatClampNeg) → (y33 = (1 : Int32) → X 47 0 0 [.ref 55, .int x1, .int x3, .int x4, .int y33] [.int 1, .int x2] M) ∧ (¬ y33 = (1 : Int32) → X 47 0 0 [.ref 55, .int x1, .int x3, .int x4, .int y33] [.int 0, .int x2] M)) : kX13_counted_29 mc ms X Q 0 0 [some (.ref 55), some (.int x1), some (.int x2), some (.int x3), some (.int x4), none] [.int s0, .ref 63] M := ⟨1202, (fxs_63 hW), h.1, (fun y33 e33 => have h33 := h.2 y33 e33; (vcX13_counted_35 hW  h33))⟩
theorem dX13_status_0 : decode cX13_status 0 = .ok (.aload_n 0, 1) := by decide +kernel
theorem dX13_status_1 : decode cX13_status 1 = .ok (.iconst 0, 1) := by decide +kernel
theorem dX13_status_2 : decode cX13_status 2 = .ok (.putfield 68, 3) := by decide +kernel
theorem dX13_status_5 : decode cX13_status 5 = .ok (.iload_n 1, 1) := by decide +kernel
theorem dX13_status_6 : decode cX13_status 6 = .ok (.ifCond .lt 9, 3) := by decide +kernel
theorem dX13_status_9 : decode cX13_status 9 = .ok (.iload_n 1, 1) := by decide +kernel
theorem dX13_status_10 : decode cX13_status 10 = .ok (.bipush 13, 2) := by decide +kernel
theorem dX13_status_12 : decode cX13_status 12 = .ok (.if_icmp .le 5, 3) := by decide +kernel
theorem dX13_status_15 : decode cX13_status 15 = .ok (.iconst (-1), 1) := by decide +kernel
theorem dX13_status_16 : decode cX13_status 16 = .ok (.ireturn, 1) := by decide +kernel
theorem dX13_status_17 : decode cX13_status 17 = .ok (.iload_n 1, 1) := by decide +kernel
theorem dX13_status_18 : decode cX13_status 18 = .ok (.iconst 3, 1) := by decide +kernel
theorem dX13_status_19 : decode cX13_status 19 = .ok (.if_icmp .ge 31, 3) := by decide +kernel
theorem dX13_status_22 : decode cX13_status 22 = .ok (.iload_n 1, 1) := by decide +kernel
theorem dX13_status_23 : decode cX13_status 23 = .ok (.ifCond .ne 10, 3) := by decide +kernel
theorem dX13_status_26 : decode cX13_status 26 = .ok (.aload_n 0, 1) := by decide +kernel
theorem dX13_status_27 : decode cX13_status 27 = .ok (.getfield 153, 3) := by decide +kernel
theorem dX13_status_30 : decode cX13_status 30 = .ok (.goto 19, 3) := by decide +kernel
theorem dX13_status_33 : decode cX13_status 33 = .ok (.iload_n 1, 1) := by decide +kernel
theorem dX13_status_34 : decode cX13_status 34 = .ok (.iconst 1, 1) := by decide +kernel
theorem dX13_status_35 : decode cX13_status 35 = .ok (.if_icmp .ne 10, 3) := by decide +kernel
theorem dX13_status_38 : decode cX13_status 38 = .ok (.aload_n 0, 1) := by decide +kernel
theorem dX13_status_39 : decode cX13_status 39 = .ok (.getfield 171, 3) := by decide +kernel
theorem dX13_status_42 : decode cX13_status 42 = .ok (.goto 7, 3) := by decide +kernel
theorem dX13_status_45 : decode cX13_status 45 = .ok (.aload_n 0, 1) := by decide +kernel
theorem dX13_status_46 : decode cX13_status 46 = .ok (.getfield 13, 3) := by decide +kernel
theorem dX13_status_49 : decode cX13_status 49 = .ok (.ireturn, 1) := by decide +kernel
theorem dX13_status_50 : decode cX13_status 50 = .ok (.iload_n 1, 1) := by decide +kernel
theorem dX13_status_51 : decode cX13_status 51 = .ok (.iconst 3, 1) := by decide +kernel
theorem dX13_status_52 : decode cX13_status 52 = .ok (.if_icmp .eq 15, 3) := by decide +kernel
theorem dX13_status_55 : decode cX13_status 55 = .ok (.iload_n 1, 1) := by decide +kernel
theorem dX13_status_56 : decode cX13_status 56 = .ok (.bipush 9, 2) := by decide +kernel
theorem dX13_status_58 : decode cX13_status 58 = .ok (.if_icmp .le 59, 3) := by decide +kernel
theorem dX13_status_61 : decode cX13_status 61 = .ok (.iload_n 1, 1) := by decide +kernel
theorem dX13_status_62 : decode cX13_status 62 = .ok (.bipush 13, 2) := by decide +kernel
theorem dX13_status_64 : decode cX13_status 64 = .ok (.if_icmp .ge 53, 3) := by decide +kernel
theorem dX13_status_67 : decode cX13_status 67 = .ok (.aload_n 0, 1) := by decide +kernel
theorem dX13_status_68 : decode cX13_status 68 = .ok (.getfield 177, 3) := by decide +kernel
theorem dX13_status_71 : decode cX13_status 71 = .ok (.ifCond .ne 7, 3) := by decide +kernel
theorem dX13_status_74 : decode cX13_status 74 = .ok (.iconst 0, 1) := by decide +kernel
theorem dX13_status_75 : decode cX13_status 75 = .ok (.goto 41, 3) := by decide +kernel
theorem dX13_status_78 : decode cX13_status 78 = .ok (.iload_n 1, 1) := by decide +kernel
theorem dX13_status_79 : decode cX13_status 79 = .ok (.iconst 3, 1) := by decide +kernel
theorem dX13_status_80 : decode cX13_status 80 = .ok (.if_icmp .ne 15, 3) := by decide +kernel
theorem dX13_status_83 : decode cX13_status 83 = .ok (.aload_n 0, 1) := by decide +kernel
theorem dX13_status_84 : decode cX13_status 84 = .ok (.getfield 22, 3) := by decide +kernel
theorem dX13_status_87 : decode cX13_status 87 = .ok (.aload_n 0, 1) := by decide +kernel
theorem dX13_status_88 : decode cX13_status 88 = .ok (.getfield 123, 3) := by decide +kernel
theorem dX13_status_91 : decode cX13_status 91 = .ok (.iaload, 1) := by decide +kernel
theorem dX13_status_92 : decode cX13_status 92 = .ok (.goto 24, 3) := by decide +kernel
theorem dX13_status_95 : decode cX13_status 95 = .ok (.iload_n 1, 1) := by decide +kernel
theorem dX13_status_96 : decode cX13_status 96 = .ok (.bipush 10, 2) := by decide +kernel
theorem dX13_status_98 : decode cX13_status 98 = .ok (.if_icmp .ne 10, 3) := by decide +kernel
theorem dX13_status_101 : decode cX13_status 101 = .ok (.aload_n 0, 1) := by decide +kernel
theorem dX13_status_102 : decode cX13_status 102 = .ok (.invokevirtual 326, 3) := by decide +kernel
theorem dX13_status_105 : decode cX13_status 105 = .ok (.goto 11, 3) := by decide +kernel
theorem dX13_status_108 : decode cX13_status 108 = .ok (.aload_n 0, 1) := by decide +kernel
theorem dX13_status_109 : decode cX13_status 109 = .ok (.iload_n 1, 1) := by decide +kernel
theorem dX13_status_110 : decode cX13_status 110 = .ok (.bipush 11, 2) := by decide +kernel
theorem dX13_status_112 : decode cX13_status 112 = .ok (.isub, 1) := by decide +kernel
theorem dX13_status_113 : decode cX13_status 113 = .ok (.invokevirtual 345, 3) := by decide +kernel
theorem dX13_status_116 : decode cX13_status 116 = .ok (.ireturn, 1) := by decide +kernel
theorem dX13_status_117 : decode cX13_status 117 = .ok (.iload_n 1, 1) := by decide +kernel
theorem dX13_status_118 : decode cX13_status 118 = .ok (.bipush 13, 2) := by decide +kernel
theorem dX13_status_120 : decode cX13_status 120 = .ok (.if_icmp .ne 8, 3) := by decide +kernel
theorem dX13_status_123 : decode cX13_status 123 = .ok (.aload_n 0, 1) := by decide +kernel
theorem dX13_status_124 : decode cX13_status 124 = .ok (.getfield 184, 3) := by decide +kernel
theorem dX13_status_127 : decode cX13_status 127 = .ok (.ireturn, 1) := by decide +kernel
theorem dX13_status_128 : decode cX13_status 128 = .ok (.aload_n 0, 1) := by decide +kernel
theorem dX13_status_129 : decode cX13_status 129 = .ok (.getfield 177, 3) := by decide +kernel
theorem dX13_status_132 : decode cX13_status 132 = .ok (.ifCond .ne 5, 3) := by decide +kernel
theorem dX13_status_135 : decode cX13_status 135 = .ok (.iconst (-1), 1) := by decide +kernel
theorem dX13_status_136 : decode cX13_status 136 = .ok (.ireturn, 1) := by decide +kernel
theorem dX13_status_137 : decode cX13_status 137 = .ok (.bipush 69, 2) := by decide +kernel
theorem dX13_status_139 : decode cX13_status 139 = .ok (.aload_n 0, 1) := by decide +kernel
theorem dX13_status_140 : decode cX13_status 140 = .ok (.invokevirtual 126, 3) := by decide +kernel
theorem dX13_status_143 : decode cX13_status 143 = .ok (.aload_n 0, 1) := by decide +kernel
theorem dX13_status_144 : decode cX13_status 144 = .ok (.getfield 22, 3) := by decide +kernel
theorem dX13_status_147 : decode cX13_status 147 = .ok (.aload_n 0, 1) := by decide +kernel
theorem dX13_status_148 : decode cX13_status 148 = .ok (.getfield 123, 3) := by decide +kernel
theorem dX13_status_151 : decode cX13_status 151 = .ok (.iaload, 1) := by decide +kernel
theorem dX13_status_152 : decode cX13_status 152 = .ok (.iadd, 1) := by decide +kernel
theorem dX13_status_153 : decode cX13_status 153 = .ok (.iconst 1, 1) := by decide +kernel
theorem dX13_status_154 : decode cX13_status 154 = .ok (.isub, 1) := by decide +kernel
theorem dX13_status_155 : decode cX13_status 155 = .ok (.imul, 1) := by decide +kernel
theorem dX13_status_156 : decode cX13_status 156 = .ok (.istore_n 2, 1) := by decide +kernel
theorem dX13_status_157 : decode cX13_status 157 = .ok (.iload_n 1, 1) := by decide +kernel
theorem dX13_status_158 : decode cX13_status 158 = .ok (.iconst 4, 1) := by decide +kernel
theorem dX13_status_159 : decode cX13_status 159 = .ok (.if_icmp .ne 10, 3) := by decide +kernel
theorem dX13_status_162 : decode cX13_status 162 = .ok (.aload_n 0, 1) := by decide +kernel
theorem dX13_status_163 : decode cX13_status 163 = .ok (.invokevirtual 147, 3) := by decide +kernel
theorem dX13_status_166 : decode cX13_status 166 = .ok (.goto 16, 3) := by decide +kernel
theorem dX13_status_169 : decode cX13_status 169 = .ok (.aload_n 0, 1) := by decide +kernel
theorem dX13_status_170 : decode cX13_status 170 = .ok (.getfield 18, 3) := by decide +kernel
theorem dX13_status_173 : decode cX13_status 173 = .ok (.iload_n 2, 1) := by decide +kernel
theorem dX13_status_174 : decode cX13_status 174 = .ok (.bipush 64, 2) := by decide +kernel
theorem dX13_status_176 : decode cX13_status 176 = .ok (.iadd, 1) := by decide +kernel
theorem dX13_status_177 : decode cX13_status 177 = .ok (.iload_n 1, 1) := by decide +kernel
theorem dX13_status_178 : decode cX13_status 178 = .ok (.iadd, 1) := by decide +kernel
theorem dX13_status_179 : decode cX13_status 179 = .ok (.iconst 5, 1) := by decide +kernel
theorem dX13_status_180 : decode cX13_status 180 = .ok (.isub, 1) := by decide +kernel
theorem dX13_status_181 : decode cX13_status 181 = .ok (.iaload, 1) := by decide +kernel
theorem dX13_status_182 : decode cX13_status 182 = .ok (.ireturn, 1) := by decide +kernel
def kX13_status_116 (mc ms : Nat) (X : Nat → zV) (Q : zQt) : zT :=
  zj X 116 []
def kX13_status_105 (mc ms : Nat) (X : Nat → zV) (Q : zQt) : zT :=
  zj X 116 []
def kX13_status_166 (mc ms : Nat) (X : Nat → zV) (Q : zQt) : zT :=
  zj X 182 []
def kX13_status_157 (mc ms : Nat) (X : Nat → zV) (Q : zQt) : zT :=
  zli 1 <| zc (.int 4) <| zic (fun x y => x = y) (zla 0 <| zcv mc ms 13 0 wX13_verdict <| kX13_status_166 mc ms X Q) <| zla 0 <| zgR 13 8 <| zli 2 <| zc (.int 64) <| zii (fun x y => x + y) <| zli 1 <| zii (fun x y => x + y) <| zc (.int 5) <| zii (fun x y => x - y) <| zal 1 <| zj X 182 []
def kX13_status_143 (mc ms : Nat) (X : Nat → zV) (Q : zQt) : zT :=
  zla 0 <| zgR 13 9 <| zla 0 <| zgi 13 6 <| zal 1 <| zii (fun x y => x + y) <| zc (.int 1) <| zii (fun x y => x - y) <| zii (fun x y => x * y) <| zsiN 2 <| kX13_status_157 mc ms X Q
def aX13_status_0 (mc ms : Nat) (X : Nat → zV) (Q : zQt) : zT :=
  zla 0 <| zc (.int 0) <| zpi 13 0 <| zli 1 <| zif (fun x => x < 0) (zj X 15 []) <| zli 1 <| zc (.int 13) <| zic (fun x y => x ≤ y) (zli 1 <| zc (.int 3) <| zic (fun x y => y ≤ x) (zli 1 <| zc (.int 3) <| zic (fun x y => x = y) (zj X 67 [0, 1]) <| zli 1 <| zc (.int 9) <| zic (fun x y => x ≤ y) (zj X 117 [0, 1]) <| zli 1 <| zc (.int 13) <| zic (fun x y => y ≤ x) (zj X 117 [0, 1]) <| zj X 67 [0, 1]) <| zli 1 <| zif (fun x => x = 0) (zla 0 <| zgi 13 2 <| zj X 49 []) <| zli 1 <| zc (.int 1) <| zic (fun x y => x = y) (zla 0 <| zgi 13 3 <| zj X 49 []) <| zla 0 <| zgi 13 4 <| zj X 49 []) <| zj X 15 []
def aX13_status_15 (mc ms : Nat) (X : Nat → zV) (Q : zQt) : zT :=
  zc (.int (-1)) <| zri Q
def aX13_status_49 (mc ms : Nat) (X : Nat → zV) (Q : zQt) : zT :=
  zri Q
def aX13_status_67 (mc ms : Nat) (X : Nat → zV) (Q : zQt) : zT :=
  zla 0 <| zgi 13 7 <| zif (fun x => x = 0) (zc (.int 0) <| zj X 116 []) <| zli 1 <| zc (.int 3) <| zic (fun x y => x = y) (zla 0 <| zgR 13 9 <| zla 0 <| zgi 13 6 <| zal 1 <| zj X 116 []) <| zli 1 <| zc (.int 10) <| zic (fun x y => x = y) (zla 0 <| zcv mc ms 13 0 wX13_men <| kX13_status_105 mc ms X Q) <| zla 0 <| zli 1 <| zc (.int 11) <| zii (fun x y => x - y) <| zcv mc ms 13 1 wX13_counted <| kX13_status_116 mc ms X Q
def aX13_status_116 (mc ms : Nat) (X : Nat → zV) (Q : zQt) : zT :=
  zri Q
def aX13_status_117 (mc ms : Nat) (X : Nat → zV) (Q : zQt) : zT :=
  zli 1 <| zc (.int 13) <| zic (fun x y => x = y) (zla 0 <| zgi 13 5 <| zri Q) <| zla 0 <| zgi 13 7 <| zif (fun x => x = 0) (zc (.int (-1)) <| zri Q) <| zc (.int 69) <| zla 0 <| zcv mc ms 13 0 wX13_base <| kX13_status_143 mc ms X Q
def aX13_status_182 (mc ms : Nat) (X : Nat → zV) (Q : zQt) : zT :=
  zri Q
def lvX13_status : Nat → List Nat := fun L => match L with
  | 0 => [0, 1]
  | 15 => []
  | 49 => []
  | 67 => [0, 1]
  | 116 => []
  | 117 => [0, 1]
  | 182 => []
  | _ => []
def wX13_status : zSp := fun mc ms av M Q => ((zlay av).length ≤ 3 ∧ zpick (zlay av) [0, 1] = some av) ∧ ∀ X : Nat → zV, zin 3 [0, 1] (aX13_status_0 mc ms X Q) X 0 → zin 3 [] (aX13_status_15 mc ms X Q) X 15 → zin 3 [] (aX13_status_49 mc ms X Q) X 49 → zin 3 [0, 1] (aX13_status_67 mc ms X Q) X 67 → zin 3 [] (aX13_status_116 mc ms X Q) X 116 → zin 3 [0, 1] (aX13_status_117 mc ms X Q) X 117 → zin 3 [] (aX13_status_182 mc ms X Q) X 182 → X 0 0 0 av [] M
set_option maxRecDepth 100000 in
set_option maxHeartbeats 4000000 in
theorem sX13_status (l : Launch) (G : zG) : zSnd l G yX13_status cX13_status 3 (some .int) 2 45 wX13_status := by
  refine zmk [0, 1] (by decide) (fun mc ms av M Q h => h.1) ?_
  intro p e R s m args below meth c mc ms av M Q hC hRf hRl hr hnm h lv hlv
  obtain ⟨X, hXe⟩ : ∃ X : Nat → zV, X = fun L u v vs st M => ∀ lv, zpick lv (lvX13_status L) = some vs → zAt p l e R s m args below meth c (MQ below (zQ G Q) args s mc ms (zA G)) G 3 L u v lv st M := ⟨_, rfl⟩
  have hJ : ∀ L, zOk p l e R s m args below meth c (MQ below (zQ G Q) args s mc ms (zA G)) G 3 L (zj X L (lvX13_status L)) := fun L => S_jump (fun u v lv vs st M hp hx => by rw [hXe] at hx; exact hx lv hp)
  have hB0 : zin 3 [0, 1] (aX13_status_0 mc ms X Q) X 0 := by
    intro u v vs st M hb
    rw [hXe]
    refine fun lv hp => S_block (L := 0) (live := [0, 1]) ?_ u v lv vs st M hp hb
    unfold aX13_status_0
    refine S_aload_n (pc := 0) hC dX13_status_0 rfl ?_
    refine S_iconst (pc := 1) hC dX13_status_1 (by decide) ?_
    refine S_puti (pc := 2) hC cfX13 (by decide) rfl (Or.inl rfl) wd_1255 dX13_status_2 ?_
    refine S_iload_n (pc := 5) hC dX13_status_5 rfl ?_
    refine S_if_lt (pc := 6) (tgt := 15) hC dX13_status_6 (by decide) ?_ ?_
    · exact hJ 15
    · refine S_iload_n (pc := 9) hC dX13_status_9 rfl ?_
      refine S_bipush (pc := 10) hC dX13_status_10 (by decide) ?_
      refine S_icmp_le (pc := 12) (tgt := 17) hC dX13_status_12 (by decide) ?_ ?_
      · refine S_iload_n (pc := 17) hC dX13_status_17 rfl ?_
        refine S_iconst (pc := 18) hC dX13_status_18 (by decide) ?_
        refine S_icmp_ge (pc := 19) (tgt := 50) hC dX13_status_19 (by decide) ?_ ?_
        · refine S_iload_n (pc := 50) hC dX13_status_50 rfl ?_
          refine S_iconst (pc := 51) hC dX13_status_51 (by decide) ?_
          refine S_icmp_eq (pc := 52) (tgt := 67) hC dX13_status_52 (by decide) ?_ ?_
          · exact hJ 67
          · refine S_iload_n (pc := 55) hC dX13_status_55 rfl ?_
            refine S_bipush (pc := 56) hC dX13_status_56 (by decide) ?_
            refine S_icmp_le (pc := 58) (tgt := 117) hC dX13_status_58 (by decide) ?_ ?_
            · exact hJ 117
            · refine S_iload_n (pc := 61) hC dX13_status_61 rfl ?_
              refine S_bipush (pc := 62) hC dX13_status_62 (by decide) ?_
              refine S_icmp_ge (pc := 64) (tgt := 117) hC dX13_status_64 (by decide) ?_ ?_
              · exact hJ 117
              · exact hJ 67
        · refine S_iload_n (pc := 22) hC dX13_status_22 rfl ?_
          refine S_if_ne (pc := 23) (tgt := 33) hC dX13_status_23 (by decide) ?_ ?_
          · refine S_iload_n (pc := 33) hC dX13_status_33 rfl ?_
            refine S_iconst (pc := 34) hC dX13_status_34 (by decide) ?_
            refine S_icmp_ne (pc := 35) (tgt := 45) hC dX13_status_35 (by decide) ?_ ?_
            · refine S_aload_n (pc := 45) hC dX13_status_45 rfl ?_
              refine S_geti (pc := 46) hC cfX13 (by decide) (Or.inl rfl) wd_1259 dX13_status_46 ?_
              exact hJ 49
            · refine S_aload_n (pc := 38) hC dX13_status_38 rfl ?_
              refine S_geti (pc := 39) hC cfX13 (by decide) (Or.inl rfl) wd_1258 dX13_status_39 ?_
              refine S_goto (pc := 42) (tgt := 49) hC dX13_status_42 (by decide) ?_
              exact hJ 49
          · refine S_aload_n (pc := 26) hC dX13_status_26 rfl ?_
            refine S_geti (pc := 27) hC cfX13 (by decide) (Or.inl rfl) wd_1257 dX13_status_27 ?_
            refine S_goto (pc := 30) (tgt := 49) hC dX13_status_30 (by decide) ?_
            exact hJ 49
      · exact hJ 15
  have hB15 : zin 3 [] (aX13_status_15 mc ms X Q) X 15 := by
    intro u v vs st M hb
    rw [hXe]
    refine fun lv hp => S_block (L := 15) (live := []) ?_ u v lv vs st M hp hb
    unfold aX13_status_15
    refine S_iconst (pc := 15) hC dX13_status_15 (by decide) ?_
    exact S_ireturn (pc := 16) hC hr dX13_status_16
  have hB49 : zin 3 [] (aX13_status_49 mc ms X Q) X 49 := by
    intro u v vs st M hb
    rw [hXe]
    refine fun lv hp => S_block (L := 49) (live := []) ?_ u v lv vs st M hp hb
    unfold aX13_status_49
    exact S_ireturn (pc := 49) hC hr dX13_status_49
  have hB67 : zin 3 [0, 1] (aX13_status_67 mc ms X Q) X 67 := by
    intro u v vs st M hb
    rw [hXe]
    refine fun lv hp => S_block (L := 67) (live := [0, 1]) ?_ u v lv vs st M hp hb
    unfold aX13_status_67
    refine S_aload_n (pc := 67) hC dX13_status_67 rfl ?_
    refine S_geti (pc := 68) hC cfX13 (by decide) (Or.inr rfl) wd_1262 dX13_status_68 ?_
    refine S_if_ne (pc := 71) (tgt := 78) hC dX13_status_71 (by decide) ?_ ?_
    · refine S_iload_n (pc := 78) hC dX13_status_78 rfl ?_
      refine S_iconst (pc := 79) hC dX13_status_79 (by decide) ?_
      refine S_icmp_ne (pc := 80) (tgt := 95) hC dX13_status_80 (by decide) ?_ ?_
      · refine S_iload_n (pc := 95) hC dX13_status_95 rfl ?_
        refine S_bipush (pc := 96) hC dX13_status_96 (by decide) ?_
        refine S_icmp_ne (pc := 98) (tgt := 108) hC dX13_status_98 (by decide) ?_ ?_
        · refine S_aload_n (pc := 108) hC dX13_status_108 rfl ?_
          refine S_iload_n (pc := 109) hC dX13_status_109 rfl ?_
          refine S_bipush (pc := 110) hC dX13_status_110 (by decide) ?_
          refine S_isub (pc := 112) hC dX13_status_112 ?_
          refine S_callV (pc := 113) hC (sX13_counted l G) rfl wd_1787 wd_1789 ws_137 wd_12 wd_1790 (by decide +kernel) ⟨by rw [hRf]; decide, by rw [hRl]; decide⟩ dX13_status_113 ?_
          unfold kX13_status_116
          exact hJ 116
        · refine S_aload_n (pc := 101) hC dX13_status_101 rfl ?_
          refine S_callV (pc := 102) hC (sX13_men l G) rfl wd_1653 wd_1655 ws_111 wd_12 wd_1656 (by decide +kernel) ⟨by rw [hRf]; decide, by rw [hRl]; decide⟩ dX13_status_102 ?_
          unfold kX13_status_105
          refine S_goto (pc := 105) (tgt := 116) hC dX13_status_105 (by decide) ?_
          exact hJ 116
      · refine S_aload_n (pc := 83) hC dX13_status_83 rfl ?_
        refine S_getR (pc := 84) hC cfX13 (by decide) (Or.inr ⟨_, rfl⟩) wd_1264 dX13_status_84 ?_
        refine S_aload_n (pc := 87) hC dX13_status_87 rfl ?_
        refine S_geti (pc := 88) hC cfX13 (by decide) (Or.inl rfl) wd_1261 dX13_status_88 ?_
        refine S_iaload (pc := 91) hC dX13_status_91 ?_
        refine S_goto (pc := 92) (tgt := 116) hC dX13_status_92 (by decide) ?_
        exact hJ 116
    · refine S_iconst (pc := 74) hC dX13_status_74 (by decide) ?_
      refine S_goto (pc := 75) (tgt := 116) hC dX13_status_75 (by decide) ?_
      exact hJ 116
  have hB116 : zin 3 [] (aX13_status_116 mc ms X Q) X 116 := by
    intro u v vs st M hb
    rw [hXe]
    refine fun lv hp => S_block (L := 116) (live := []) ?_ u v lv vs st M hp hb
    unfold aX13_status_116
    exact S_ireturn (pc := 116) hC hr dX13_status_116
  have hB117 : zin 3 [0, 1] (aX13_status_117 mc ms X Q) X 117 := by
    intro u v vs st M hb
    rw [hXe]
    refine fun lv hp => S_block (L := 117) (live := [0, 1]) ?_ u v lv vs st M hp hb
    unfold aX13_status_117
    refine S_iload_n (pc := 117) hC dX13_status_117 rfl ?_
    refine S_bipush (pc := 118) hC dX13_status_118 (by decide) ?_
    refine S_icmp_ne (pc := 120) (tgt := 128) hC dX13_status_120 (by decide) ?_ ?_
    · refine S_aload_n (pc := 128) hC dX13_status_128 rfl ?_
      refine S_geti (pc := 129) hC cfX13 (by decide) (Or.inr rfl) wd_1262 dX13_status_129 ?_
      refine S_if_ne (pc := 132) (tgt := 137) hC dX13_status_132 (by decide) ?_ ?_
      · refine S_bipush (pc := 137) hC dX13_status_137 (by decide) ?_
        refine S_aload_n (pc := 139) hC dX13_status_139 rfl ?_
        refine S_callV (pc := 140) hC (sX13_base l G) rfl wd_1439 wd_1441 ws_71 wd_12 wd_1442 (by decide +kernel) ⟨by rw [hRf]; decide, by rw [hRl]; decide⟩ dX13_status_140 ?_
        unfold kX13_status_143
        refine S_aload_n (pc := 143) hC dX13_status_143 rfl ?_
        refine S_getR (pc := 144) hC cfX13 (by decide) (Or.inr ⟨_, rfl⟩) wd_1264 dX13_status_144 ?_
        refine S_aload_n (pc := 147) hC dX13_status_147 rfl ?_
        refine S_geti (pc := 148) hC cfX13 (by decide) (Or.inl rfl) wd_1261 dX13_status_148 ?_
        refine S_iaload (pc := 151) hC dX13_status_151 ?_
        refine S_iadd (pc := 152) hC dX13_status_152 ?_
        refine S_iconst (pc := 153) hC dX13_status_153 (by decide) ?_
        refine S_isub (pc := 154) hC dX13_status_154 ?_
        refine S_imul (pc := 155) hC dX13_status_155 ?_
        refine S_istore_n_N (pc := 156) hC dX13_status_156 rfl (by decide) ?_
        unfold kX13_status_157
        refine S_iload_n (pc := 157) hC dX13_status_157 rfl ?_
        refine S_iconst (pc := 158) hC dX13_status_158 (by decide) ?_
        refine S_icmp_ne (pc := 159) (tgt := 169) hC dX13_status_159 (by decide) ?_ ?_
        · refine S_aload_n (pc := 169) hC dX13_status_169 rfl ?_
          refine S_getR (pc := 170) hC cfX13 (by decide) (Or.inr ⟨_, rfl⟩) wd_1263 dX13_status_170 ?_
          refine S_iload_n (pc := 173) hC dX13_status_173 rfl ?_
          refine S_bipush (pc := 174) hC dX13_status_174 (by decide) ?_
          refine S_iadd (pc := 176) hC dX13_status_176 ?_
          refine S_iload_n (pc := 177) hC dX13_status_177 rfl ?_
          refine S_iadd (pc := 178) hC dX13_status_178 ?_
          refine S_iconst (pc := 179) hC dX13_status_179 (by decide) ?_
          refine S_isub (pc := 180) hC dX13_status_180 ?_
          refine S_iaload (pc := 181) hC dX13_status_181 ?_
          exact hJ 182
        · refine S_aload_n (pc := 162) hC dX13_status_162 rfl ?_
          refine S_callV (pc := 163) hC (sX13_verdict l G) rfl wd_1508 wd_1510 ws_86 wd_12 wd_1511 (by decide +kernel) ⟨by rw [hRf]; decide, by rw [hRl]; decide⟩ dX13_status_163 ?_
          unfold kX13_status_166
          refine S_goto (pc := 166) (tgt := 182) hC dX13_status_166 (by decide) ?_
          exact hJ 182
      · refine S_iconst (pc := 135) hC dX13_status_135 (by decide) ?_
        exact S_ireturn (pc := 136) hC hr dX13_status_136
    · refine S_aload_n (pc := 123) hC dX13_status_123 rfl ?_
      refine S_geti (pc := 124) hC cfX13 (by decide) (Or.inl rfl) wd_1260 dX13_status_124 ?_
      exact S_ireturn (pc := 127) hC hr dX13_status_127
  have hB182 : zin 3 [] (aX13_status_182 mc ms X Q) X 182 := by
    intro u v vs st M hb
    rw [hXe]
    refine fun lv hp => S_block (L := 182) (live := []) ?_ u v lv vs st M hp hb
    unfold aX13_status_182
    exact S_ireturn (pc := 182) hC hr dX13_status_182
  have := h.2 X hB0 hB15 hB49 hB67 hB116 hB117 hB182
  rw [hXe] at this
  exact this lv hlv
theorem vX13_status_0 {mc ms : Nat} {X : Nat → zV} {Q : zQt} {M : zM} {x1 : Int32} (hW : zFix M)  (h : ∀ M2 : zM, M2 = (zsI M 55 0 0) → (x1 < 0 → X 15 0 0 [] [] M2) ∧ (¬ x1 < 0 → (x1 ≤ (13 : Int32) → ((3 : Int32) ≤ x1 → (x1 = (3 : Int32) → X 67 0 0 [.ref 55, .int x1] [] M2) ∧ (¬ x1 = (3 : Int32) → (x1 ≤ (9 : Int32) → X 117 0 0 [.ref 55, .int x1] [] M2) ∧ (¬ x1 ≤ (9 : Int32) → ((13 : Int32) ≤ x1 → X 117 0 0 [.ref 55, .int x1] [] M2) ∧ (¬ (13 : Int32) ≤ x1 → X 67 0 0 [.ref 55, .int x1] [] M2)))) ∧ (¬ (3 : Int32) ≤ x1 → (x1 = 0 → X 49 0 0 [] [.int (M2.1 55 2)] M2) ∧ (¬ x1 = 0 → (x1 = (1 : Int32) → X 49 0 0 [] [.int (M2.1 55 3)] M2) ∧ (¬ x1 = (1 : Int32) → X 49 0 0 [] [.int (M2.1 55 4)] M2)))) ∧ (¬ x1 ≤ (13 : Int32) → X 15 0 0 [] [] M2))) : aX13_status_0 mc ms X Q 0 0 [some (.ref 55), some (.int x1), none] [] M := ⟨(fxs_55 hW), (have h2 := h _ rfl; ⟨fun c6 => (h2.1 c6), fun c6 => ⟨fun c12 => ⟨fun c19 => ⟨fun c52 => ((((h2.2 c6).1 c12).1 c19).1 c52), fun c52 => ⟨fun c58 => (((((h2.2 c6).1 c12).1 c19).2 c52).1 c58), fun c58 => ⟨fun c64 => ((((((h2.2 c6).1 c12).1 c19).2 c52).2 c58).1 c64), fun c64 => ((((((h2.2 c6).1 c12).1 c19).2 c52).2 c58).2 c64)⟩⟩⟩, fun c19 => ⟨fun c23 => ⟨(fxs_55 hW), ((((h2.2 c6).1 c12).2 c19).1 c23)⟩, fun c23 => ⟨fun c35 => ⟨(fxs_55 hW), (((((h2.2 c6).1 c12).2 c19).2 c23).1 c35)⟩, fun c35 => ⟨(fxs_55 hW), (((((h2.2 c6).1 c12).2 c19).2 c23).2 c35)⟩⟩⟩⟩, fun c12 => ((h2.2 c6).2 c12)⟩⟩)⟩
theorem vX13_status_15 {mc ms : Nat} {X : Nat → zV} {Q : zQt} {M : zM}  (hW : zFix M)  (h : Q (some (.int ((-1)))) M) : aX13_status_15 mc ms X Q 0 0 [none, none, none] [] M := h
theorem vX13_status_49 {mc ms : Nat} {X : Nat → zV} {Q : zQt} {M : zM} {s0 : Int32} (hW : zFix M)  (h : Q (some (.int s0)) M) : aX13_status_49 mc ms X Q 0 0 [none, none, none] [.int s0] M := h
theorem vX13_status_67 {mc ms : Nat} {X : Nat → zV} {Q : zQt} {M : zM} {x1 : Int32} (hW : zFix M)  (h : ((M.1 55 7) = 0 → X 116 0 0 [] [.int 0] M) ∧ (¬ (M.1 55 7) = 0 → (x1 = (3 : Int32) → vp_in ((M.1 55 6)) 2 ∧ X 116 0 0 [] [.int ((M : zM).1 58 ((M.1 55 6) : Int32).toNatClampNeg)] M) ∧ (¬ x1 = (3 : Int32) → (x1 = (10 : Int32) → wX13_men 0 0 [.ref 55] M (fun r M1 => kX13_status_105 mc ms X Q 0 0 [some (.ref 55), some (.int x1), none] (r.toList ++ []) M1)) ∧ (¬ x1 = (10 : Int32) → wX13_counted 0 0 [.ref 55, .int (x1 - (11 : Int32))] M (fun r M1 => kX13_status_116 mc ms X Q 0 0 [some (.ref 55), some (.int x1), none] (r.toList ++ []) M1))))) : aX13_status_67 mc ms X Q 0 0 [some (.ref 55), some (.int x1), none] [] M := ⟨(fxs_55 hW), ⟨fun c71 => (h.1 c71), fun c71 => ⟨fun c80 => ⟨(fxs_55 hW), 58, (fxr_55_9 hW), ⟨(fxs_55 hW), ⟨2, (fxs_58 hW), ((h.2 c71).1 c80).1, ((h.2 c71).1 c80).2⟩⟩⟩, fun c80 => ⟨fun c98 => ⟨Nat.le_of_ble_eq_true rfl, rfl, (fxs_55 hW), 0, 0, Nat.zero_le _, Nat.zero_le _, (((h.2 c71).2 c80).1 c98)⟩, fun c98 => ⟨Nat.le_of_ble_eq_true rfl, rfl, (fxs_55 hW), 0, 0, Nat.zero_le _, Nat.zero_le _, (((h.2 c71).2 c80).2 c98)⟩⟩⟩⟩⟩
theorem vX13_status_116 {mc ms : Nat} {X : Nat → zV} {Q : zQt} {M : zM} {s0 : Int32} (hW : zFix M)  (h : Q (some (.int s0)) M) : aX13_status_116 mc ms X Q 0 0 [none, none, none] [.int s0] M := h
theorem vX13_status_117 {mc ms : Nat} {X : Nat → zV} {Q : zQt} {M : zM} {x1 : Int32} (hW : zFix M)  (h : (x1 = (13 : Int32) → Q (some (.int ((M.1 55 5)))) M) ∧ (¬ x1 = (13 : Int32) → ((M.1 55 7) = 0 → Q (some (.int ((-1)))) M) ∧ (¬ (M.1 55 7) = 0 → wX13_base 0 0 [.ref 55] M (fun r M1 => kX13_status_143 mc ms X Q 0 0 [some (.ref 55), some (.int x1), none] (r.toList ++ [.int 69]) M1)))) : aX13_status_117 mc ms X Q 0 0 [some (.ref 55), some (.int x1), none] [] M := ⟨fun c120 => ⟨(fxs_55 hW), (h.1 c120)⟩, fun c120 => ⟨(fxs_55 hW), ⟨fun c132 => ((h.2 c120).1 c132), fun c132 => ⟨Nat.le_of_ble_eq_true rfl, rfl, (fxs_55 hW), 0, 0, Nat.zero_le _, Nat.zero_le _, ((h.2 c120).2 c132)⟩⟩⟩⟩
theorem vX13_status_182 {mc ms : Nat} {X : Nat → zV} {Q : zQt} {M : zM} {s0 : Int32} (hW : zFix M)  (h : Q (some (.int s0)) M) : aX13_status_182 mc ms X Q 0 0 [none, none, none] [.int s0] M := h
theorem vkX13_status_105 {mc ms : Nat} {X : Nat → zV} {Q : zQt} {M : zM} {x1 : Int32} {s0 : Int32} (hW : zFix M)  (h : X 116 0 0 [] [.int s0] M) : kX13_status_105 mc ms X Q 0 0 [some (.ref 55), some (.int x1), none] [.int s0] M := h
theorem vkX13_status_116 {mc ms : Nat} {X : Nat → zV} {Q : zQt} {M : zM} {x1 : Int32} {s0 : Int32} (hW : zFix M)  (h : X 116 0 0 [] [.int s0] M) : kX13_status_116 mc ms X Q 0 0 [some (.ref 55), some (.int x1), none] [.int s0] M := h
theorem vcX13_status_157 {mc ms : Nat} {X : Nat → zV} {Q : zQt} {M : zM} {x1 : Int32} {x2 : Int32} (hW : zFix M)  (h : (x1 = (4 : Int32) → wX13_verdict 0 0 [.ref 55] M (fun r M1 => kX13_status_166 mc ms X Q 0 0 [some (.ref 55), some (.int x1), some (.int x2)] (r.toList ++ []) M1)) ∧ (¬ x1 = (4 : Int32) → vp_in ((((x2 + (64 : Int32)) + x1) - (5 : Int32))) 82938 ∧ X 182 0 0 [] [.int ((M : zM).1 57 ((((x2 + (64 : Int32)) + x1) - (5 : Int32)) : Int32).toNatClampNeg)] M)) : kX13_status_157 mc ms X Q 0 0 [some (.ref 55), some (.int x1), some (.int x2)] [] M := ⟨fun c159 => ⟨Nat.le_of_ble_eq_true rfl, rfl, (fxs_55 hW), 0, 0, Nat.zero_le _, Nat.zero_le _, (h.1 c159)⟩, fun c159 => ⟨(fxs_55 hW), 57, (fxr_55_8 hW), ⟨82938, (fxs_57 hW), (h.2 c159).1, (h.2 c159).2⟩⟩⟩
theorem vkX13_status_143 {mc ms : Nat} {X : Nat → zV} {Q : zQt} {M : zM} {x1 : Int32} {s0 : Int32} {s1 : Int32} (hW : zFix M)  (h : vp_in ((M.1 55 6)) 2 ∧ ∀ y156 : Int32, y156 = (s1 * ((s0 + ((M : zM).1 58 ((M.1 55 6) : Int32).toNatClampNeg)) - (1 : Int32))) → (x1 = (4 : Int32) → wX13_verdict 0 0 [.ref 55] M (fun r M1 => kX13_status_166 mc ms X Q 0 0 [some (.ref 55), some (.int x1), some (.int y156)] (r.toList ++ []) M1)) ∧ (¬ x1 = (4 : Int32) → vp_in ((((y156 + (64 : Int32)) + x1) - (5 : Int32))) 82938 ∧ X 182 0 0 [] [.int ((M : zM).1 57 ((((y156 + (64 : Int32)) + x1) - (5 : Int32)) : Int32).toNatClampNeg)] M)) : kX13_status_143 mc ms X Q 0 0 [some (.ref 55), some (.int x1), none] [.int s0, .int s1] M := ⟨(fxs_55 hW), 58, (fxr_55_9 hW), ⟨(fxs_55 hW), ⟨2, (fxs_58 hW), h.1, (fun y156 e156 => have h156 := h.2 y156 e156; (vcX13_status_157 hW  h156))⟩⟩⟩
theorem vkX13_status_166 {mc ms : Nat} {X : Nat → zV} {Q : zQt} {M : zM} {x1 : Int32} {x2 : Int32} {s0 : Int32} (hW : zFix M)  (h : X 182 0 0 [] [.int s0] M) : kX13_status_166 mc ms X Q 0 0 [some (.ref 55), some (.int x1), some (.int x2)] [.int s0] M := h
