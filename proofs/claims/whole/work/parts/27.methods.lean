theorem dJ0_isLatin1_aae02_0 : decode cJ0_isLatin1_aae02 0 = .ok (.getstatic 38, 3) := by decide +kernel
theorem dJ0_isLatin1_aae02_3 : decode cJ0_isLatin1_aae02 3 = .ok (.ifCond .eq 14, 3) := by decide +kernel
theorem dJ0_isLatin1_aae02_6 : decode cJ0_isLatin1_aae02 6 = .ok (.aload_n 0, 1) := by decide +kernel
theorem dJ0_isLatin1_aae02_7 : decode cJ0_isLatin1_aae02 7 = .ok (.getfield 15, 3) := by decide +kernel
theorem dJ0_isLatin1_aae02_10 : decode cJ0_isLatin1_aae02 10 = .ok (.ifCond .ne 7, 3) := by decide +kernel
theorem dJ0_isLatin1_aae02_13 : decode cJ0_isLatin1_aae02 13 = .ok (.iconst 1, 1) := by decide +kernel
theorem dJ0_isLatin1_aae02_14 : decode cJ0_isLatin1_aae02 14 = .ok (.goto 4, 3) := by decide +kernel
theorem dJ0_isLatin1_aae02_17 : decode cJ0_isLatin1_aae02 17 = .ok (.iconst 0, 1) := by decide +kernel
theorem dJ0_isLatin1_aae02_18 : decode cJ0_isLatin1_aae02 18 = .ok (.ireturn, 1) := by decide +kernel
def aJ0_isLatin1_aae02_0 (mc ms : Nat) (X : Nat → zV) (Q : zQt) : zT :=
  zgz <| zif (fun x => x = 0) (zj X 17 []) <| zla 0 <| zxc <| zif (fun x => x = 0) (zc (.int 1) <| zj X 18 []) <| zj X 17 []
def aJ0_isLatin1_aae02_17 (mc ms : Nat) (X : Nat → zV) (Q : zQt) : zT :=
  zc (.int 0) <| zj X 18 []
def aJ0_isLatin1_aae02_18 (mc ms : Nat) (X : Nat → zV) (Q : zQt) : zT :=
  zrz .boolean Q
def lvJ0_isLatin1_aae02 : Nat → List Nat := fun L => match L with
  | 0 => [0]
  | 17 => []
  | 18 => []
  | _ => []
def wJ0_isLatin1_aae02 : zSp := fun mc ms av M Q => ((zlay av).length ≤ 1 ∧ zpick (zlay av) [0] = some av) ∧ ∀ X : Nat → zV, zin 1 [0] (aJ0_isLatin1_aae02_0 mc ms X Q) X 0 → zin 1 [] (aJ0_isLatin1_aae02_17 mc ms X Q) X 17 → zin 1 [] (aJ0_isLatin1_aae02_18 mc ms X Q) X 18 → X 0 0 0 av [] M
set_option maxRecDepth 100000 in
set_option maxHeartbeats 4000000 in
theorem sJ0_isLatin1_aae02 (l : Launch) (G : zG) (hE : zXt G) : zSnd l G yJ0_isLatin1_aae02 cJ0_isLatin1_aae02 1 (some .boolean) 0 0 wJ0_isLatin1_aae02 := by
  refine zmk [0] (by decide) (fun mc ms av M Q h => h.1) ?_
  intro p e R s m args below meth c mc ms av M Q hC hRf hRl hr hnm h lv hlv
  obtain ⟨X, hXe⟩ : ∃ X : Nat → zV, X = fun L u v vs st M => ∀ lv, zpick lv (lvJ0_isLatin1_aae02 L) = some vs → zAt p l e R s m args below meth c (MQ below (zQ G Q) args s mc ms (zA G)) G 1 L u v lv st M := ⟨_, rfl⟩
  have hJ : ∀ L, zOk p l e R s m args below meth c (MQ below (zQ G Q) args s mc ms (zA G)) G 1 L (zj X L (lvJ0_isLatin1_aae02 L)) := fun L => S_jump (fun u v lv vs st M hp hx => by rw [hXe] at hx; exact hx lv hp)
  have hB0 : zin 1 [0] (aJ0_isLatin1_aae02_0 mc ms X Q) X 0 := by
    intro u v vs st M hb
    rw [hXe]
    refine fun lv hp => S_block (L := 0) (live := [0]) ?_ u v lv vs st M hp hb
    unfold aJ0_isLatin1_aae02_0
    refine S_getz (pc := 0) hC hE.2.1 wd_524 dJ0_isLatin1_aae02_0 ?_
    refine S_if_eq (pc := 3) (tgt := 17) hC dJ0_isLatin1_aae02_3 (by decide) ?_ ?_
    · exact hJ 17
    · refine S_aload_n (pc := 6) hC dJ0_isLatin1_aae02_6 rfl ?_
      refine S_xcoder (pc := 7) hC hE.2.1 wd_1792 dJ0_isLatin1_aae02_7 ?_
      refine S_if_ne (pc := 10) (tgt := 17) hC dJ0_isLatin1_aae02_10 (by decide) ?_ ?_
      · exact hJ 17
      · refine S_iconst (pc := 13) hC dJ0_isLatin1_aae02_13 (by decide) ?_
        refine S_goto (pc := 14) (tgt := 18) hC dJ0_isLatin1_aae02_14 (by decide) ?_
        exact hJ 18
  have hB17 : zin 1 [] (aJ0_isLatin1_aae02_17 mc ms X Q) X 17 := by
    intro u v vs st M hb
    rw [hXe]
    refine fun lv hp => S_block (L := 17) (live := []) ?_ u v lv vs st M hp hb
    unfold aJ0_isLatin1_aae02_17
    refine S_iconst (pc := 17) hC dJ0_isLatin1_aae02_17 (by decide) ?_
    exact hJ 18
  have hB18 : zin 1 [] (aJ0_isLatin1_aae02_18 mc ms X Q) X 18 := by
    intro u v vs st M hb
    rw [hXe]
    refine fun lv hp => S_block (L := 18) (live := []) ?_ u v lv vs st M hp hb
    unfold aJ0_isLatin1_aae02_18
    exact S_zreturn (pc := 18) hC hr dJ0_isLatin1_aae02_18
  have := h.2 X hB0 hB17 hB18
  rw [hXe] at this
  exact this lv hlv
theorem dJ3_checkIndex_8e157_0 : decode cJ3_checkIndex_8e157 0 = .ok (.iload_n 0, 1) := by decide +kernel
theorem dJ3_checkIndex_8e157_1 : decode cJ3_checkIndex_8e157 1 = .ok (.ifCond .lt 8, 3) := by decide +kernel
theorem dJ3_checkIndex_8e157_4 : decode cJ3_checkIndex_8e157 4 = .ok (.iload_n 0, 1) := by decide +kernel
theorem dJ3_checkIndex_8e157_5 : decode cJ3_checkIndex_8e157 5 = .ok (.iload_n 1, 1) := by decide +kernel
theorem dJ3_checkIndex_8e157_6 : decode cJ3_checkIndex_8e157 6 = .ok (.if_icmp .lt 10, 3) := by decide +kernel
theorem dJ3_checkIndex_8e157_9 : decode cJ3_checkIndex_8e157 9 = .ok (.aload_n 2, 1) := by decide +kernel
theorem dJ3_checkIndex_8e157_10 : decode cJ3_checkIndex_8e157 10 = .ok (.iload_n 0, 1) := by decide +kernel
theorem dJ3_checkIndex_8e157_11 : decode cJ3_checkIndex_8e157 11 = .ok (.iload_n 1, 1) := by decide +kernel
theorem dJ3_checkIndex_8e157_12 : decode cJ3_checkIndex_8e157 12 = .ok (.invokestatic 95, 3) := by decide +kernel
theorem dJ3_checkIndex_8e157_15 : decode cJ3_checkIndex_8e157 15 = .ok (.athrow, 1) := by decide +kernel
theorem dJ3_checkIndex_8e157_16 : decode cJ3_checkIndex_8e157 16 = .ok (.iload_n 0, 1) := by decide +kernel
theorem dJ3_checkIndex_8e157_17 : decode cJ3_checkIndex_8e157 17 = .ok (.ireturn, 1) := by decide +kernel
def aJ3_checkIndex_8e157_0 (mc ms : Nat) (X : Nat → zV) (Q : zQt) : zT :=
  zli 0 <| zif (fun x => x < 0) (zj X 9 [0, 1, 2]) <| zli 0 <| zli 1 <| zic (fun x y => x < y) (zli 0 <| zri Q) <| zj X 9 [0, 1, 2]
def aJ3_checkIndex_8e157_9 (mc ms : Nat) (X : Nat → zV) (Q : zQt) : zT :=
  zla 2 <| zli 0 <| zli 1 <| zno
def lvJ3_checkIndex_8e157 : Nat → List Nat := fun L => match L with
  | 0 => [0, 1, 2]
  | 9 => [0, 1, 2]
  | _ => []
def wJ3_checkIndex_8e157 : zSp := fun mc ms av M Q => ((zlay av).length ≤ 3 ∧ zpick (zlay av) [0, 1, 2] = some av) ∧ ∀ X : Nat → zV, zin 3 [0, 1, 2] (aJ3_checkIndex_8e157_0 mc ms X Q) X 0 → zin 3 [0, 1, 2] (aJ3_checkIndex_8e157_9 mc ms X Q) X 9 → X 0 0 0 av [] M
set_option maxRecDepth 100000 in
set_option maxHeartbeats 4000000 in
theorem sJ3_checkIndex_8e157 (l : Launch) (G : zG) : zSnd l G yJ3_checkIndex_8e157 cJ3_checkIndex_8e157 3 (some .int) 0 0 wJ3_checkIndex_8e157 := by
  refine zmk [0, 1, 2] (by decide) (fun mc ms av M Q h => h.1) ?_
  intro p e R s m args below meth c mc ms av M Q hC hRf hRl hr hnm h lv hlv
  obtain ⟨X, hXe⟩ : ∃ X : Nat → zV, X = fun L u v vs st M => ∀ lv, zpick lv (lvJ3_checkIndex_8e157 L) = some vs → zAt p l e R s m args below meth c (MQ below (zQ G Q) args s mc ms (zA G)) G 3 L u v lv st M := ⟨_, rfl⟩
  have hJ : ∀ L, zOk p l e R s m args below meth c (MQ below (zQ G Q) args s mc ms (zA G)) G 3 L (zj X L (lvJ3_checkIndex_8e157 L)) := fun L => S_jump (fun u v lv vs st M hp hx => by rw [hXe] at hx; exact hx lv hp)
  have hB0 : zin 3 [0, 1, 2] (aJ3_checkIndex_8e157_0 mc ms X Q) X 0 := by
    intro u v vs st M hb
    rw [hXe]
    refine fun lv hp => S_block (L := 0) (live := [0, 1, 2]) ?_ u v lv vs st M hp hb
    unfold aJ3_checkIndex_8e157_0
    refine S_iload_n (pc := 0) hC dJ3_checkIndex_8e157_0 rfl ?_
    refine S_if_lt (pc := 1) (tgt := 9) hC dJ3_checkIndex_8e157_1 (by decide) ?_ ?_
    · exact hJ 9
    · refine S_iload_n (pc := 4) hC dJ3_checkIndex_8e157_4 rfl ?_
      refine S_iload_n (pc := 5) hC dJ3_checkIndex_8e157_5 rfl ?_
      refine S_icmp_lt (pc := 6) (tgt := 16) hC dJ3_checkIndex_8e157_6 (by decide) ?_ ?_
      · refine S_iload_n (pc := 16) hC dJ3_checkIndex_8e157_16 rfl ?_
        exact S_ireturn (pc := 17) hC hr dJ3_checkIndex_8e157_17
      · exact hJ 9
  have hB9 : zin 3 [0, 1, 2] (aJ3_checkIndex_8e157_9 mc ms X Q) X 9 := by
    intro u v vs st M hb
    rw [hXe]
    refine fun lv hp => S_block (L := 9) (live := [0, 1, 2]) ?_ u v lv vs st M hp hb
    unfold aJ3_checkIndex_8e157_9
    refine S_aload_n (pc := 9) hC dJ3_checkIndex_8e157_9 rfl ?_
    refine S_iload_n (pc := 10) hC dJ3_checkIndex_8e157_10 rfl ?_
    refine S_iload_n (pc := 11) hC dJ3_checkIndex_8e157_11 rfl ?_
    exact S_no
  have := h.2 X hB0 hB9
  rw [hXe] at this
  exact this lv hlv
theorem dJ0_checkIndex_df160_0 : decode cJ0_checkIndex_df160 0 = .ok (.iload_n 0, 1) := by decide +kernel
theorem dJ0_checkIndex_df160_1 : decode cJ0_checkIndex_df160 1 = .ok (.iload_n 1, 1) := by decide +kernel
theorem dJ0_checkIndex_df160_2 : decode cJ0_checkIndex_df160 2 = .ok (.getstatic 1053, 3) := by decide +kernel
theorem dJ0_checkIndex_df160_5 : decode cJ0_checkIndex_df160 5 = .ok (.invokestatic 1059, 3) := by decide +kernel
theorem dJ0_checkIndex_df160_8 : decode cJ0_checkIndex_df160 8 = .ok (.pop, 1) := by decide +kernel
theorem dJ0_checkIndex_df160_9 : decode cJ0_checkIndex_df160 9 = .ok (.return_, 1) := by decide +kernel
def kJ0_checkIndex_df160_8 (mc ms : Nat) (X : Nat → zV) (Q : zQt) : zT :=
  zpop <| zrv Q
def aJ0_checkIndex_df160_0 (mc ms : Nat) (X : Nat → zV) (Q : zQt) : zT :=
  zli 0 <| zli 1 <| zgq <| zcs mc ms 3 wJ3_checkIndex_8e157 <| kJ0_checkIndex_df160_8 mc ms X Q
def lvJ0_checkIndex_df160 : Nat → List Nat := fun L => match L with
  | 0 => [0, 1]
  | _ => []
def wJ0_checkIndex_df160 : zSp := fun mc ms av M Q => ((zlay av).length ≤ 2 ∧ zpick (zlay av) [0, 1] = some av) ∧ ∀ X : Nat → zV, zin 2 [0, 1] (aJ0_checkIndex_df160_0 mc ms X Q) X 0 → X 0 0 0 av [] M
set_option maxRecDepth 100000 in
set_option maxHeartbeats 4000000 in
theorem sJ0_checkIndex_df160 (l : Launch) (G : zG) (hE : zXt G) : zSnd l G yJ0_checkIndex_df160 cJ0_checkIndex_df160 2 none 1 22 wJ0_checkIndex_df160 := by
  refine zmk [0, 1] (by decide) (fun mc ms av M Q h => h.1) ?_
  intro p e R s m args below meth c mc ms av M Q hC hRf hRl hr hnm h lv hlv
  obtain ⟨X, hXe⟩ : ∃ X : Nat → zV, X = fun L u v vs st M => ∀ lv, zpick lv (lvJ0_checkIndex_df160 L) = some vs → zAt p l e R s m args below meth c (MQ below (zQ G Q) args s mc ms (zA G)) G 2 L u v lv st M := ⟨_, rfl⟩
  have hJ : ∀ L, zOk p l e R s m args below meth c (MQ below (zQ G Q) args s mc ms (zA G)) G 2 L (zj X L (lvJ0_checkIndex_df160 L)) := fun L => S_jump (fun u v lv vs st M hp hx => by rw [hXe] at hx; exact hx lv hp)
  have hB0 : zin 2 [0, 1] (aJ0_checkIndex_df160_0 mc ms X Q) X 0 := by
    intro u v vs st M hb
    rw [hXe]
    refine fun lv hp => S_block (L := 0) (live := [0, 1]) ?_ u v lv vs st M hp hb
    unfold aJ0_checkIndex_df160_0
    refine S_iload_n (pc := 0) hC dJ0_checkIndex_df160_0 rfl ?_
    refine S_iload_n (pc := 1) hC dJ0_checkIndex_df160_1 rfl ?_
    refine S_getq (pc := 2) hC hE.2.2.2 wd_532 dJ0_checkIndex_df160_2 ?_
    refine S_callS (pc := 5) hC (sJ3_checkIndex_8e157 l G) wd_534 wd_535 wd_23 wd_536 (by decide +kernel) ⟨by rw [hRf]; decide, by rw [hRl]; decide⟩ dJ0_checkIndex_df160_5 ?_
    unfold kJ0_checkIndex_df160_8
    refine S_pop (pc := 8) hC dJ0_checkIndex_df160_8 ?_
    exact S_vreturn (pc := 9) hC hr dJ0_checkIndex_df160_9
  have := h.2 X hB0
  rw [hXe] at this
  exact this lv hlv
theorem dJ1_charAt_3b067_0 : decode cJ1_charAt_3b067 0 = .ok (.iload_n 1, 1) := by decide +kernel
theorem dJ1_charAt_3b067_1 : decode cJ1_charAt_3b067 1 = .ok (.aload_n 0, 1) := by decide +kernel
theorem dJ1_charAt_3b067_2 : decode cJ1_charAt_3b067 2 = .ok (.arraylength, 1) := by decide +kernel
theorem dJ1_charAt_3b067_3 : decode cJ1_charAt_3b067 3 = .ok (.invokestatic 9, 3) := by decide +kernel
theorem dJ1_charAt_3b067_6 : decode cJ1_charAt_3b067 6 = .ok (.aload_n 0, 1) := by decide +kernel
theorem dJ1_charAt_3b067_7 : decode cJ1_charAt_3b067 7 = .ok (.iload_n 1, 1) := by decide +kernel
theorem dJ1_charAt_3b067_8 : decode cJ1_charAt_3b067 8 = .ok (.baload, 1) := by decide +kernel
theorem dJ1_charAt_3b067_9 : decode cJ1_charAt_3b067 9 = .ok (.sipush 255, 3) := by decide +kernel
theorem dJ1_charAt_3b067_12 : decode cJ1_charAt_3b067 12 = .ok (.iand, 1) := by decide +kernel
theorem dJ1_charAt_3b067_13 : decode cJ1_charAt_3b067 13 = .ok (.i2c, 1) := by decide +kernel
theorem dJ1_charAt_3b067_14 : decode cJ1_charAt_3b067 14 = .ok (.ireturn, 1) := by decide +kernel
def kJ1_charAt_3b067_6 (mc ms : Nat) (X : Nat → zV) (Q : zQt) : zT :=
  zla 0 <| zli 1 <| zxb <| zc (.int 255) <| zii (fun x y => x &&& y) <| zi1 (fun x => (x.toUInt32 % 65536).toInt32) <| zrz .char Q
def aJ1_charAt_3b067_0 (mc ms : Nat) (X : Nat → zV) (Q : zQt) : zT :=
  zli 1 <| zla 0 <| zxa <| zcs mc ms 2 wJ0_checkIndex_df160 <| kJ1_charAt_3b067_6 mc ms X Q
def lvJ1_charAt_3b067 : Nat → List Nat := fun L => match L with
  | 0 => [0, 1]
  | _ => []
def wJ1_charAt_3b067 : zSp := fun mc ms av M Q => ((zlay av).length ≤ 2 ∧ zpick (zlay av) [0, 1] = some av) ∧ ∀ X : Nat → zV, zin 2 [0, 1] (aJ1_charAt_3b067_0 mc ms X Q) X 0 → X 0 0 0 av [] M
set_option maxRecDepth 100000 in
set_option maxHeartbeats 4000000 in
theorem sJ1_charAt_3b067 (l : Launch) (G : zG) (hE : zXt G) : zSnd l G yJ1_charAt_3b067 cJ1_charAt_3b067 2 (some .char) 2 43 wJ1_charAt_3b067 := by
  refine zmk [0, 1] (by decide) (fun mc ms av M Q h => h.1) ?_
  intro p e R s m args below meth c mc ms av M Q hC hRf hRl hr hnm h lv hlv
  obtain ⟨X, hXe⟩ : ∃ X : Nat → zV, X = fun L u v vs st M => ∀ lv, zpick lv (lvJ1_charAt_3b067 L) = some vs → zAt p l e R s m args below meth c (MQ below (zQ G Q) args s mc ms (zA G)) G 2 L u v lv st M := ⟨_, rfl⟩
  have hJ : ∀ L, zOk p l e R s m args below meth c (MQ below (zQ G Q) args s mc ms (zA G)) G 2 L (zj X L (lvJ1_charAt_3b067 L)) := fun L => S_jump (fun u v lv vs st M hp hx => by rw [hXe] at hx; exact hx lv hp)
  have hB0 : zin 2 [0, 1] (aJ1_charAt_3b067_0 mc ms X Q) X 0 := by
    intro u v vs st M hb
    rw [hXe]
    refine fun lv hp => S_block (L := 0) (live := [0, 1]) ?_ u v lv vs st M hp hb
    unfold aJ1_charAt_3b067_0
    refine S_iload_n (pc := 0) hC dJ1_charAt_3b067_0 rfl ?_
    refine S_aload_n (pc := 1) hC dJ1_charAt_3b067_1 rfl ?_
    refine S_xalen (pc := 2) hC hE.2.1 dJ1_charAt_3b067_2 ?_
    refine S_callS (pc := 3) hC (sJ0_checkIndex_df160 l G hE) wd_529 wd_530 wd_19 wd_531 (by decide +kernel) ⟨by rw [hRf]; decide, by rw [hRl]; decide⟩ dJ1_charAt_3b067_3 ?_
    unfold kJ1_charAt_3b067_6
    refine S_aload_n (pc := 6) hC dJ1_charAt_3b067_6 rfl ?_
    refine S_iload_n (pc := 7) hC dJ1_charAt_3b067_7 rfl ?_
    refine S_xbload (pc := 8) hC hE.2.1 dJ1_charAt_3b067_8 ?_
    refine S_sipush (pc := 9) hC dJ1_charAt_3b067_9 (by decide) ?_
    refine S_iand (pc := 12) hC dJ1_charAt_3b067_12 ?_
    refine S_i2c (pc := 13) hC dJ1_charAt_3b067_13 ?_
    exact S_zreturn (pc := 14) hC hr dJ1_charAt_3b067_14
  have := h.2 X hB0
  rw [hXe] at this
  exact this lv hlv
theorem dJ0_charAt_5068e_0 : decode cJ0_charAt_5068e 0 = .ok (.aload_n 0, 1) := by decide +kernel
theorem dJ0_charAt_5068e_1 : decode cJ0_charAt_5068e 1 = .ok (.invokevirtual 492, 3) := by decide +kernel
theorem dJ0_charAt_5068e_4 : decode cJ0_charAt_5068e 4 = .ok (.ifCond .eq 12, 3) := by decide +kernel
theorem dJ0_charAt_5068e_7 : decode cJ0_charAt_5068e 7 = .ok (.aload_n 0, 1) := by decide +kernel
theorem dJ0_charAt_5068e_8 : decode cJ0_charAt_5068e 8 = .ok (.getfield 9, 3) := by decide +kernel
theorem dJ0_charAt_5068e_11 : decode cJ0_charAt_5068e 11 = .ok (.iload_n 1, 1) := by decide +kernel
theorem dJ0_charAt_5068e_12 : decode cJ0_charAt_5068e 12 = .ok (.invokestatic 495, 3) := by decide +kernel
theorem dJ0_charAt_5068e_15 : decode cJ0_charAt_5068e 15 = .ok (.ireturn, 1) := by decide +kernel
theorem dJ0_charAt_5068e_16 : decode cJ0_charAt_5068e 16 = .ok (.aload_n 0, 1) := by decide +kernel
theorem dJ0_charAt_5068e_17 : decode cJ0_charAt_5068e 17 = .ok (.getfield 9, 3) := by decide +kernel
theorem dJ0_charAt_5068e_20 : decode cJ0_charAt_5068e 20 = .ok (.iload_n 1, 1) := by decide +kernel
theorem dJ0_charAt_5068e_21 : decode cJ0_charAt_5068e 21 = .ok (.invokestatic 498, 3) := by decide +kernel
theorem dJ0_charAt_5068e_24 : decode cJ0_charAt_5068e 24 = .ok (.ireturn, 1) := by decide +kernel
def kJ0_charAt_5068e_15 (mc ms : Nat) (X : Nat → zV) (Q : zQt) : zT :=
  zrz .char Q
def kJ0_charAt_5068e_4 (mc ms : Nat) (X : Nat → zV) (Q : zQt) : zT :=
  zif (fun x => x = 0) (zla 0 <| zxv <| zli 1 <| zno) <| zla 0 <| zxv <| zli 1 <| zcs mc ms 2 wJ1_charAt_3b067 <| kJ0_charAt_5068e_15 mc ms X Q
def aJ0_charAt_5068e_0 (mc ms : Nat) (X : Nat → zV) (Q : zQt) : zT :=
  zla 0 <| zcx mc ms 0 wJ0_isLatin1_aae02 <| kJ0_charAt_5068e_4 mc ms X Q
def lvJ0_charAt_5068e : Nat → List Nat := fun L => match L with
  | 0 => [0, 1]
  | _ => []
def wJ0_charAt_5068e : zSp := fun mc ms av M Q => ((zlay av).length ≤ 2 ∧ zpick (zlay av) [0, 1] = some av) ∧ ∀ X : Nat → zV, zin 2 [0, 1] (aJ0_charAt_5068e_0 mc ms X Q) X 0 → X 0 0 0 av [] M
set_option maxRecDepth 100000 in
set_option maxHeartbeats 4000000 in
theorem sJ0_charAt_5068e (l : Launch) (G : zG) (hE : zXt G) : zSnd l G yJ0_charAt_5068e cJ0_charAt_5068e 2 (some .char) 3 64 wJ0_charAt_5068e := by
  refine zmk [0, 1] (by decide) (fun mc ms av M Q h => h.1) ?_
  intro p e R s m args below meth c mc ms av M Q hC hRf hRl hr hnm h lv hlv
  obtain ⟨X, hXe⟩ : ∃ X : Nat → zV, X = fun L u v vs st M => ∀ lv, zpick lv (lvJ0_charAt_5068e L) = some vs → zAt p l e R s m args below meth c (MQ below (zQ G Q) args s mc ms (zA G)) G 2 L u v lv st M := ⟨_, rfl⟩
  have hJ : ∀ L, zOk p l e R s m args below meth c (MQ below (zQ G Q) args s mc ms (zA G)) G 2 L (zj X L (lvJ0_charAt_5068e L)) := fun L => S_jump (fun u v lv vs st M hp hx => by rw [hXe] at hx; exact hx lv hp)
  have hB0 : zin 2 [0, 1] (aJ0_charAt_5068e_0 mc ms X Q) X 0 := by
    intro u v vs st M hb
    rw [hXe]
    refine fun lv hp => S_block (L := 0) (live := [0, 1]) ?_ u v lv vs st M hp hb
    unfold aJ0_charAt_5068e_0
    refine S_aload_n (pc := 0) hC dJ0_charAt_5068e_0 rfl ?_
    refine S_callX (pc := 1) hC hE.2.1 (sJ0_isLatin1_aae02 l G hE) wd_520 wd_521 wd_522 wd_19 wd_523 (by decide +kernel) ⟨by rw [hRf]; decide, by rw [hRl]; decide⟩ dJ0_charAt_5068e_1 ?_
    unfold kJ0_charAt_5068e_4
    refine S_if_eq (pc := 4) (tgt := 16) hC dJ0_charAt_5068e_4 (by decide) ?_ ?_
    · refine S_aload_n (pc := 16) hC dJ0_charAt_5068e_16 rfl ?_
      refine S_xvalue (pc := 17) hC hE.2.1 wd_1793 dJ0_charAt_5068e_17 ?_
      refine S_iload_n (pc := 20) hC dJ0_charAt_5068e_20 rfl ?_
      exact S_no
    · refine S_aload_n (pc := 7) hC dJ0_charAt_5068e_7 rfl ?_
      refine S_xvalue (pc := 8) hC hE.2.1 wd_1793 dJ0_charAt_5068e_8 ?_
      refine S_iload_n (pc := 11) hC dJ0_charAt_5068e_11 rfl ?_
      refine S_callS (pc := 12) hC (sJ1_charAt_3b067 l G hE) wd_526 wd_527 wd_20 wd_528 (by decide +kernel) ⟨by rw [hRf]; decide, by rw [hRl]; decide⟩ dJ0_charAt_5068e_12 ?_
      unfold kJ0_charAt_5068e_15
      exact S_zreturn (pc := 15) hC hr dJ0_charAt_5068e_15
  have := h.2 X hB0
  rw [hXe] at this
  exact this lv hlv
theorem dJ1_canEncode_9a6ad_0 : decode cJ1_canEncode_9a6ad 0 = .ok (.iload_n 0, 1) := by decide +kernel
theorem dJ1_canEncode_9a6ad_1 : decode cJ1_canEncode_9a6ad 1 = .ok (.ifCond .lt 14, 3) := by decide +kernel
theorem dJ1_canEncode_9a6ad_4 : decode cJ1_canEncode_9a6ad 4 = .ok (.iload_n 0, 1) := by decide +kernel
theorem dJ1_canEncode_9a6ad_5 : decode cJ1_canEncode_9a6ad 5 = .ok (.sipush 255, 3) := by decide +kernel
theorem dJ1_canEncode_9a6ad_8 : decode cJ1_canEncode_9a6ad 8 = .ok (.if_icmp .gt 7, 3) := by decide +kernel
theorem dJ1_canEncode_9a6ad_11 : decode cJ1_canEncode_9a6ad 11 = .ok (.iconst 1, 1) := by decide +kernel
theorem dJ1_canEncode_9a6ad_12 : decode cJ1_canEncode_9a6ad 12 = .ok (.goto 4, 3) := by decide +kernel
theorem dJ1_canEncode_9a6ad_15 : decode cJ1_canEncode_9a6ad 15 = .ok (.iconst 0, 1) := by decide +kernel
theorem dJ1_canEncode_9a6ad_16 : decode cJ1_canEncode_9a6ad 16 = .ok (.ireturn, 1) := by decide +kernel
def aJ1_canEncode_9a6ad_0 (mc ms : Nat) (X : Nat → zV) (Q : zQt) : zT :=
  zli 0 <| zif (fun x => x < 0) (zj X 15 []) <| zli 0 <| zc (.int 255) <| zic (fun x y => y < x) (zj X 15 []) <| zc (.int 1) <| zj X 16 []
def aJ1_canEncode_9a6ad_15 (mc ms : Nat) (X : Nat → zV) (Q : zQt) : zT :=
  zc (.int 0) <| zj X 16 []
def aJ1_canEncode_9a6ad_16 (mc ms : Nat) (X : Nat → zV) (Q : zQt) : zT :=
  zrz .boolean Q
def lvJ1_canEncode_9a6ad : Nat → List Nat := fun L => match L with
  | 0 => [0]
  | 15 => []
  | 16 => []
  | _ => []
def wJ1_canEncode_9a6ad : zSp := fun mc ms av M Q => ((zlay av).length ≤ 1 ∧ zpick (zlay av) [0] = some av) ∧ ∀ X : Nat → zV, zin 1 [0] (aJ1_canEncode_9a6ad_0 mc ms X Q) X 0 → zin 1 [] (aJ1_canEncode_9a6ad_15 mc ms X Q) X 15 → zin 1 [] (aJ1_canEncode_9a6ad_16 mc ms X Q) X 16 → X 0 0 0 av [] M
set_option maxRecDepth 100000 in
set_option maxHeartbeats 4000000 in
theorem sJ1_canEncode_9a6ad (l : Launch) (G : zG) : zSnd l G yJ1_canEncode_9a6ad cJ1_canEncode_9a6ad 1 (some .boolean) 0 0 wJ1_canEncode_9a6ad := by
  refine zmk [0] (by decide) (fun mc ms av M Q h => h.1) ?_
  intro p e R s m args below meth c mc ms av M Q hC hRf hRl hr hnm h lv hlv
  obtain ⟨X, hXe⟩ : ∃ X : Nat → zV, X = fun L u v vs st M => ∀ lv, zpick lv (lvJ1_canEncode_9a6ad L) = some vs → zAt p l e R s m args below meth c (MQ below (zQ G Q) args s mc ms (zA G)) G 1 L u v lv st M := ⟨_, rfl⟩
  have hJ : ∀ L, zOk p l e R s m args below meth c (MQ below (zQ G Q) args s mc ms (zA G)) G 1 L (zj X L (lvJ1_canEncode_9a6ad L)) := fun L => S_jump (fun u v lv vs st M hp hx => by rw [hXe] at hx; exact hx lv hp)
  have hB0 : zin 1 [0] (aJ1_canEncode_9a6ad_0 mc ms X Q) X 0 := by
    intro u v vs st M hb
    rw [hXe]
    refine fun lv hp => S_block (L := 0) (live := [0]) ?_ u v lv vs st M hp hb
    unfold aJ1_canEncode_9a6ad_0
    refine S_iload_n (pc := 0) hC dJ1_canEncode_9a6ad_0 rfl ?_
    refine S_if_lt (pc := 1) (tgt := 15) hC dJ1_canEncode_9a6ad_1 (by decide) ?_ ?_
    · exact hJ 15
    · refine S_iload_n (pc := 4) hC dJ1_canEncode_9a6ad_4 rfl ?_
      refine S_sipush (pc := 5) hC dJ1_canEncode_9a6ad_5 (by decide) ?_
      refine S_icmp_gt (pc := 8) (tgt := 15) hC dJ1_canEncode_9a6ad_8 (by decide) ?_ ?_
      · exact hJ 15
      · refine S_iconst (pc := 11) hC dJ1_canEncode_9a6ad_11 (by decide) ?_
        refine S_goto (pc := 12) (tgt := 16) hC dJ1_canEncode_9a6ad_12 (by decide) ?_
        exact hJ 16
  have hB15 : zin 1 [] (aJ1_canEncode_9a6ad_15 mc ms X Q) X 15 := by
    intro u v vs st M hb
    rw [hXe]
    refine fun lv hp => S_block (L := 15) (live := []) ?_ u v lv vs st M hp hb
    unfold aJ1_canEncode_9a6ad_15
    refine S_iconst (pc := 15) hC dJ1_canEncode_9a6ad_15 (by decide) ?_
    exact hJ 16
  have hB16 : zin 1 [] (aJ1_canEncode_9a6ad_16 mc ms X Q) X 16 := by
    intro u v vs st M hb
    rw [hXe]
    refine fun lv hp => S_block (L := 16) (live := []) ?_ u v lv vs st M hp hb
    unfold aJ1_canEncode_9a6ad_16
    exact S_zreturn (pc := 16) hC hr dJ1_canEncode_9a6ad_16
  have := h.2 X hB0 hB15 hB16
  rw [hXe] at this
  exact this lv hlv
theorem dJ1_indexOfChar_4cfef_0 : decode cJ1_indexOfChar_4cfef 0 = .ok (.iload_n 1, 1) := by decide +kernel
theorem dJ1_indexOfChar_4cfef_1 : decode cJ1_indexOfChar_4cfef 1 = .ok (.i2b, 1) := by decide +kernel
theorem dJ1_indexOfChar_4cfef_2 : decode cJ1_indexOfChar_4cfef 2 = .ok (.istore 4, 2) := by decide +kernel
theorem dJ1_indexOfChar_4cfef_4 : decode cJ1_indexOfChar_4cfef 4 = .ok (.iload_n 2, 1) := by decide +kernel
theorem dJ1_indexOfChar_4cfef_5 : decode cJ1_indexOfChar_4cfef 5 = .ok (.istore 5, 2) := by decide +kernel
theorem dJ1_indexOfChar_4cfef_7 : decode cJ1_indexOfChar_4cfef 7 = .ok (.iload 5, 2) := by decide +kernel
theorem dJ1_indexOfChar_4cfef_9 : decode cJ1_indexOfChar_4cfef 9 = .ok (.iload_n 3, 1) := by decide +kernel
theorem dJ1_indexOfChar_4cfef_10 : decode cJ1_indexOfChar_4cfef 10 = .ok (.if_icmp .ge 21, 3) := by decide +kernel
theorem dJ1_indexOfChar_4cfef_13 : decode cJ1_indexOfChar_4cfef 13 = .ok (.aload_n 0, 1) := by decide +kernel
theorem dJ1_indexOfChar_4cfef_14 : decode cJ1_indexOfChar_4cfef 14 = .ok (.iload 5, 2) := by decide +kernel
theorem dJ1_indexOfChar_4cfef_16 : decode cJ1_indexOfChar_4cfef 16 = .ok (.baload, 1) := by decide +kernel
theorem dJ1_indexOfChar_4cfef_17 : decode cJ1_indexOfChar_4cfef 17 = .ok (.iload 4, 2) := by decide +kernel
theorem dJ1_indexOfChar_4cfef_19 : decode cJ1_indexOfChar_4cfef 19 = .ok (.if_icmp .ne 6, 3) := by decide +kernel
theorem dJ1_indexOfChar_4cfef_22 : decode cJ1_indexOfChar_4cfef 22 = .ok (.iload 5, 2) := by decide +kernel
theorem dJ1_indexOfChar_4cfef_24 : decode cJ1_indexOfChar_4cfef 24 = .ok (.ireturn, 1) := by decide +kernel
theorem dJ1_indexOfChar_4cfef_25 : decode cJ1_indexOfChar_4cfef 25 = .ok (.iinc 5 1, 3) := by decide +kernel
theorem dJ1_indexOfChar_4cfef_28 : decode cJ1_indexOfChar_4cfef 28 = .ok (.goto (-21), 3) := by decide +kernel
theorem dJ1_indexOfChar_4cfef_31 : decode cJ1_indexOfChar_4cfef 31 = .ok (.iconst (-1), 1) := by decide +kernel
theorem dJ1_indexOfChar_4cfef_32 : decode cJ1_indexOfChar_4cfef 32 = .ok (.ireturn, 1) := by decide +kernel
def aJ1_indexOfChar_4cfef_0 (mc ms : Nat) (X : Nat → zV) (Q : zQt) : zT :=
  zli 1 <| zi1 (fun x => x.toInt8.toInt32) <| zsi 4 <| zli 2 <| zsi 5 <| zj X 7 [0, 3, 4, 5]
def aJ1_indexOfChar_4cfef_7 (mc ms : Nat) (X : Nat → zV) (Q : zQt) : zT :=
  zli 5 <| zli 3 <| zic (fun x y => y ≤ x) (zc (.int (-1)) <| zri Q) <| zla 0 <| zli 5 <| zxb <| zli 4 <| zic (fun x y => x = y) (zli 5 <| zri Q) <| zinc 5 1 <| zj X 7 [0, 3, 4, 5]
def lvJ1_indexOfChar_4cfef : Nat → List Nat := fun L => match L with
  | 0 => [0, 1, 2, 3]
  | 7 => [0, 3, 4, 5]
  | _ => []
def wJ1_indexOfChar_4cfef : zSp := fun mc ms av M Q => ((zlay av).length ≤ 6 ∧ zpick (zlay av) [0, 1, 2, 3] = some av) ∧ ∀ X : Nat → zV, zin 6 [0, 1, 2, 3] (aJ1_indexOfChar_4cfef_0 mc ms X Q) X 0 → zin 6 [0, 3, 4, 5] (aJ1_indexOfChar_4cfef_7 mc ms X Q) X 7 → X 0 0 0 av [] M
set_option maxRecDepth 100000 in
set_option maxHeartbeats 4000000 in
theorem sJ1_indexOfChar_4cfef (l : Launch) (G : zG) (hE : zXt G) : zSnd l G yJ1_indexOfChar_4cfef cJ1_indexOfChar_4cfef 6 (some .int) 0 0 wJ1_indexOfChar_4cfef := by
  refine zmk [0, 1, 2, 3] (by decide) (fun mc ms av M Q h => h.1) ?_
  intro p e R s m args below meth c mc ms av M Q hC hRf hRl hr hnm h lv hlv
  obtain ⟨X, hXe⟩ : ∃ X : Nat → zV, X = fun L u v vs st M => ∀ lv, zpick lv (lvJ1_indexOfChar_4cfef L) = some vs → zAt p l e R s m args below meth c (MQ below (zQ G Q) args s mc ms (zA G)) G 6 L u v lv st M := ⟨_, rfl⟩
  have hJ : ∀ L, zOk p l e R s m args below meth c (MQ below (zQ G Q) args s mc ms (zA G)) G 6 L (zj X L (lvJ1_indexOfChar_4cfef L)) := fun L => S_jump (fun u v lv vs st M hp hx => by rw [hXe] at hx; exact hx lv hp)
  have hB0 : zin 6 [0, 1, 2, 3] (aJ1_indexOfChar_4cfef_0 mc ms X Q) X 0 := by
    intro u v vs st M hb
    rw [hXe]
    refine fun lv hp => S_block (L := 0) (live := [0, 1, 2, 3]) ?_ u v lv vs st M hp hb
    unfold aJ1_indexOfChar_4cfef_0
    refine S_iload_n (pc := 0) hC dJ1_indexOfChar_4cfef_0 rfl ?_
    refine S_i2b (pc := 1) hC dJ1_indexOfChar_4cfef_1 ?_
    refine S_istore (pc := 2) hC dJ1_indexOfChar_4cfef_2 (by decide) ?_
    refine S_iload_n (pc := 4) hC dJ1_indexOfChar_4cfef_4 rfl ?_
    refine S_istore (pc := 5) hC dJ1_indexOfChar_4cfef_5 (by decide) ?_
    exact hJ 7
  have hB7 : zin 6 [0, 3, 4, 5] (aJ1_indexOfChar_4cfef_7 mc ms X Q) X 7 := by
    intro u v vs st M hb
    rw [hXe]
    refine fun lv hp => S_block (L := 7) (live := [0, 3, 4, 5]) ?_ u v lv vs st M hp hb
    unfold aJ1_indexOfChar_4cfef_7
    refine S_iload (pc := 7) hC dJ1_indexOfChar_4cfef_7 ?_
    refine S_iload_n (pc := 9) hC dJ1_indexOfChar_4cfef_9 rfl ?_
    refine S_icmp_ge (pc := 10) (tgt := 31) hC dJ1_indexOfChar_4cfef_10 (by decide) ?_ ?_
    · refine S_iconst (pc := 31) hC dJ1_indexOfChar_4cfef_31 (by decide) ?_
      exact S_ireturn (pc := 32) hC hr dJ1_indexOfChar_4cfef_32
    · refine S_aload_n (pc := 13) hC dJ1_indexOfChar_4cfef_13 rfl ?_
      refine S_iload (pc := 14) hC dJ1_indexOfChar_4cfef_14 ?_
      refine S_xbload (pc := 16) hC hE.2.1 dJ1_indexOfChar_4cfef_16 ?_
      refine S_iload (pc := 17) hC dJ1_indexOfChar_4cfef_17 ?_
      refine S_icmp_ne (pc := 19) (tgt := 25) hC dJ1_indexOfChar_4cfef_19 (by decide) ?_ ?_
      · refine S_iinc (pc := 25) hC dJ1_indexOfChar_4cfef_25 (by decide) (by decide) ?_
        refine S_goto (pc := 28) (tgt := 7) hC dJ1_indexOfChar_4cfef_28 (by decide) ?_
        exact hJ 7
      · refine S_iload (pc := 22) hC dJ1_indexOfChar_4cfef_22 ?_
        exact S_ireturn (pc := 24) hC hr dJ1_indexOfChar_4cfef_24
  have := h.2 X hB0 hB7
  rw [hXe] at this
  exact this lv hlv
theorem dJ1_indexOf_4cfef_0 : decode cJ1_indexOf_4cfef 0 = .ok (.iload_n 1, 1) := by decide +kernel
theorem dJ1_indexOf_4cfef_1 : decode cJ1_indexOf_4cfef 1 = .ok (.invokestatic 88, 3) := by decide +kernel
theorem dJ1_indexOf_4cfef_4 : decode cJ1_indexOf_4cfef 4 = .ok (.ifCond .ne 5, 3) := by decide +kernel
theorem dJ1_indexOf_4cfef_7 : decode cJ1_indexOf_4cfef 7 = .ok (.iconst (-1), 1) := by decide +kernel
theorem dJ1_indexOf_4cfef_8 : decode cJ1_indexOf_4cfef 8 = .ok (.ireturn, 1) := by decide +kernel
theorem dJ1_indexOf_4cfef_9 : decode cJ1_indexOf_4cfef 9 = .ok (.iload_n 2, 1) := by decide +kernel
theorem dJ1_indexOf_4cfef_10 : decode cJ1_indexOf_4cfef 10 = .ok (.iconst 0, 1) := by decide +kernel
theorem dJ1_indexOf_4cfef_11 : decode cJ1_indexOf_4cfef 11 = .ok (.invokestatic 92, 3) := by decide +kernel
theorem dJ1_indexOf_4cfef_14 : decode cJ1_indexOf_4cfef 14 = .ok (.istore_n 2, 1) := by decide +kernel
theorem dJ1_indexOf_4cfef_15 : decode cJ1_indexOf_4cfef 15 = .ok (.iload_n 3, 1) := by decide +kernel
theorem dJ1_indexOf_4cfef_16 : decode cJ1_indexOf_4cfef 16 = .ok (.aload_n 0, 1) := by decide +kernel
theorem dJ1_indexOf_4cfef_17 : decode cJ1_indexOf_4cfef 17 = .ok (.arraylength, 1) := by decide +kernel
theorem dJ1_indexOf_4cfef_18 : decode cJ1_indexOf_4cfef 18 = .ok (.invokestatic 38, 3) := by decide +kernel
theorem dJ1_indexOf_4cfef_21 : decode cJ1_indexOf_4cfef 21 = .ok (.istore_n 3, 1) := by decide +kernel
theorem dJ1_indexOf_4cfef_22 : decode cJ1_indexOf_4cfef 22 = .ok (.iload_n 2, 1) := by decide +kernel
theorem dJ1_indexOf_4cfef_23 : decode cJ1_indexOf_4cfef 23 = .ok (.iload_n 3, 1) := by decide +kernel
theorem dJ1_indexOf_4cfef_24 : decode cJ1_indexOf_4cfef 24 = .ok (.if_icmp .lt 5, 3) := by decide +kernel
theorem dJ1_indexOf_4cfef_27 : decode cJ1_indexOf_4cfef 27 = .ok (.iconst (-1), 1) := by decide +kernel
theorem dJ1_indexOf_4cfef_28 : decode cJ1_indexOf_4cfef 28 = .ok (.ireturn, 1) := by decide +kernel
theorem dJ1_indexOf_4cfef_29 : decode cJ1_indexOf_4cfef 29 = .ok (.aload_n 0, 1) := by decide +kernel
theorem dJ1_indexOf_4cfef_30 : decode cJ1_indexOf_4cfef 30 = .ok (.iload_n 1, 1) := by decide +kernel
theorem dJ1_indexOf_4cfef_31 : decode cJ1_indexOf_4cfef 31 = .ok (.iload_n 2, 1) := by decide +kernel
theorem dJ1_indexOf_4cfef_32 : decode cJ1_indexOf_4cfef 32 = .ok (.iload_n 3, 1) := by decide +kernel
theorem dJ1_indexOf_4cfef_33 : decode cJ1_indexOf_4cfef 33 = .ok (.invokestatic 95, 3) := by decide +kernel
theorem dJ1_indexOf_4cfef_36 : decode cJ1_indexOf_4cfef 36 = .ok (.ireturn, 1) := by decide +kernel
def kJ1_indexOf_4cfef_36 (mc ms : Nat) (X : Nat → zV) (Q : zQt) : zT :=
  zri Q
def kJ1_indexOf_4cfef_4 (mc ms : Nat) (X : Nat → zV) (Q : zQt) : zT :=
  zif (fun x => x = 0) (zc (.int (-1)) <| zri Q) <| zli 2 <| zc (.int 0) <| zmx <| zsi 2 <| zli 3 <| zla 0 <| zxa <| zmn <| zsi 3 <| zli 2 <| zli 3 <| zic (fun x y => x < y) (zla 0 <| zli 1 <| zli 2 <| zli 3 <| zcs mc ms 4 wJ1_indexOfChar_4cfef <| kJ1_indexOf_4cfef_36 mc ms X Q) <| zc (.int (-1)) <| zri Q
def aJ1_indexOf_4cfef_0 (mc ms : Nat) (X : Nat → zV) (Q : zQt) : zT :=
  zli 1 <| zcs mc ms 1 wJ1_canEncode_9a6ad <| kJ1_indexOf_4cfef_4 mc ms X Q
def lvJ1_indexOf_4cfef : Nat → List Nat := fun L => match L with
  | 0 => [0, 1, 2, 3]
  | _ => []
def wJ1_indexOf_4cfef : zSp := fun mc ms av M Q => ((zlay av).length ≤ 4 ∧ zpick (zlay av) [0, 1, 2, 3] = some av) ∧ ∀ X : Nat → zV, zin 4 [0, 1, 2, 3] (aJ1_indexOf_4cfef_0 mc ms X Q) X 0 → X 0 0 0 av [] M
set_option maxRecDepth 100000 in
set_option maxHeartbeats 4000000 in
theorem sJ1_indexOf_4cfef (l : Launch) (G : zG) (hE : zXt G) : zSnd l G yJ1_indexOf_4cfef cJ1_indexOf_4cfef 4 (some .int) 1 25 wJ1_indexOf_4cfef := by
  refine zmk [0, 1, 2, 3] (by decide) (fun mc ms av M Q h => h.1) ?_
  intro p e R s m args below meth c mc ms av M Q hC hRf hRl hr hnm h lv hlv
  obtain ⟨X, hXe⟩ : ∃ X : Nat → zV, X = fun L u v vs st M => ∀ lv, zpick lv (lvJ1_indexOf_4cfef L) = some vs → zAt p l e R s m args below meth c (MQ below (zQ G Q) args s mc ms (zA G)) G 4 L u v lv st M := ⟨_, rfl⟩
  have hJ : ∀ L, zOk p l e R s m args below meth c (MQ below (zQ G Q) args s mc ms (zA G)) G 4 L (zj X L (lvJ1_indexOf_4cfef L)) := fun L => S_jump (fun u v lv vs st M hp hx => by rw [hXe] at hx; exact hx lv hp)
  have hB0 : zin 4 [0, 1, 2, 3] (aJ1_indexOf_4cfef_0 mc ms X Q) X 0 := by
    intro u v vs st M hb
    rw [hXe]
    refine fun lv hp => S_block (L := 0) (live := [0, 1, 2, 3]) ?_ u v lv vs st M hp hb
    unfold aJ1_indexOf_4cfef_0
    refine S_iload_n (pc := 0) hC dJ1_indexOf_4cfef_0 rfl ?_
    refine S_callS (pc := 1) hC (sJ1_canEncode_9a6ad l G) wd_713 wd_714 wd_20 wd_715 (by decide +kernel) ⟨by rw [hRf]; decide, by rw [hRl]; decide⟩ dJ1_indexOf_4cfef_1 ?_
    unfold kJ1_indexOf_4cfef_4
    refine S_if_ne (pc := 4) (tgt := 9) hC dJ1_indexOf_4cfef_4 (by decide) ?_ ?_
    · refine S_iload_n (pc := 9) hC dJ1_indexOf_4cfef_9 rfl ?_
      refine S_iconst (pc := 10) hC dJ1_indexOf_4cfef_10 (by decide) ?_
      refine S_max (pc := 11) hC wd_716 wd_583 wd_21 wd_584 (by rw [hRf]; decide) (by rw [hRl]; decide) dJ1_indexOf_4cfef_11 ?_
      refine S_istore_n (pc := 14) hC dJ1_indexOf_4cfef_14 rfl (by decide) ?_
      refine S_iload_n (pc := 15) hC dJ1_indexOf_4cfef_15 rfl ?_
      refine S_aload_n (pc := 16) hC dJ1_indexOf_4cfef_16 rfl ?_
      refine S_xalen (pc := 17) hC hE.2.1 dJ1_indexOf_4cfef_17 ?_
      refine S_min (pc := 18) hC wd_717 wd_718 wd_21 wd_719 (by rw [hRf]; decide) (by rw [hRl]; decide) dJ1_indexOf_4cfef_18 ?_
      refine S_istore_n (pc := 21) hC dJ1_indexOf_4cfef_21 rfl (by decide) ?_
      refine S_iload_n (pc := 22) hC dJ1_indexOf_4cfef_22 rfl ?_
      refine S_iload_n (pc := 23) hC dJ1_indexOf_4cfef_23 rfl ?_
      refine S_icmp_lt (pc := 24) (tgt := 29) hC dJ1_indexOf_4cfef_24 (by decide) ?_ ?_
      · refine S_aload_n (pc := 29) hC dJ1_indexOf_4cfef_29 rfl ?_
        refine S_iload_n (pc := 30) hC dJ1_indexOf_4cfef_30 rfl ?_
        refine S_iload_n (pc := 31) hC dJ1_indexOf_4cfef_31 rfl ?_
        refine S_iload_n (pc := 32) hC dJ1_indexOf_4cfef_32 rfl ?_
        refine S_callS (pc := 33) hC (sJ1_indexOfChar_4cfef l G hE) wd_720 wd_721 wd_20 wd_722 (by decide +kernel) ⟨by rw [hRf]; decide, by rw [hRl]; decide⟩ dJ1_indexOf_4cfef_33 ?_
        unfold kJ1_indexOf_4cfef_36
        exact S_ireturn (pc := 36) hC hr dJ1_indexOf_4cfef_36
      · refine S_iconst (pc := 27) hC dJ1_indexOf_4cfef_27 (by decide) ?_
        exact S_ireturn (pc := 28) hC hr dJ1_indexOf_4cfef_28
    · refine S_iconst (pc := 7) hC dJ1_indexOf_4cfef_7 (by decide) ?_
      exact S_ireturn (pc := 8) hC hr dJ1_indexOf_4cfef_8
  have := h.2 X hB0
  rw [hXe] at this
  exact this lv hlv
theorem dJ0_coder_7d493_0 : decode cJ0_coder_7d493 0 = .ok (.getstatic 38, 3) := by decide +kernel
theorem dJ0_coder_7d493_3 : decode cJ0_coder_7d493 3 = .ok (.ifCond .eq 10, 3) := by decide +kernel
theorem dJ0_coder_7d493_6 : decode cJ0_coder_7d493 6 = .ok (.aload_n 0, 1) := by decide +kernel
theorem dJ0_coder_7d493_7 : decode cJ0_coder_7d493 7 = .ok (.getfield 15, 3) := by decide +kernel
theorem dJ0_coder_7d493_10 : decode cJ0_coder_7d493 10 = .ok (.goto 4, 3) := by decide +kernel
theorem dJ0_coder_7d493_13 : decode cJ0_coder_7d493 13 = .ok (.iconst 1, 1) := by decide +kernel
theorem dJ0_coder_7d493_14 : decode cJ0_coder_7d493 14 = .ok (.ireturn, 1) := by decide +kernel
def aJ0_coder_7d493_0 (mc ms : Nat) (X : Nat → zV) (Q : zQt) : zT :=
  zgz <| zif (fun x => x = 0) (zc (.int 1) <| zj X 14 []) <| zla 0 <| zxc <| zj X 14 []
def aJ0_coder_7d493_14 (mc ms : Nat) (X : Nat → zV) (Q : zQt) : zT :=
  zrz .byte Q
def lvJ0_coder_7d493 : Nat → List Nat := fun L => match L with
  | 0 => [0]
  | 14 => []
  | _ => []
def wJ0_coder_7d493 : zSp := fun mc ms av M Q => ((zlay av).length ≤ 1 ∧ zpick (zlay av) [0] = some av) ∧ ∀ X : Nat → zV, zin 1 [0] (aJ0_coder_7d493_0 mc ms X Q) X 0 → zin 1 [] (aJ0_coder_7d493_14 mc ms X Q) X 14 → X 0 0 0 av [] M
set_option maxRecDepth 100000 in
set_option maxHeartbeats 4000000 in
theorem sJ0_coder_7d493 (l : Launch) (G : zG) (hE : zXt G) : zSnd l G yJ0_coder_7d493 cJ0_coder_7d493 1 (some .byte) 0 0 wJ0_coder_7d493 := by
  refine zmk [0] (by decide) (fun mc ms av M Q h => h.1) ?_
  intro p e R s m args below meth c mc ms av M Q hC hRf hRl hr hnm h lv hlv
  obtain ⟨X, hXe⟩ : ∃ X : Nat → zV, X = fun L u v vs st M => ∀ lv, zpick lv (lvJ0_coder_7d493 L) = some vs → zAt p l e R s m args below meth c (MQ below (zQ G Q) args s mc ms (zA G)) G 1 L u v lv st M := ⟨_, rfl⟩
  have hJ : ∀ L, zOk p l e R s m args below meth c (MQ below (zQ G Q) args s mc ms (zA G)) G 1 L (zj X L (lvJ0_coder_7d493 L)) := fun L => S_jump (fun u v lv vs st M hp hx => by rw [hXe] at hx; exact hx lv hp)
  have hB0 : zin 1 [0] (aJ0_coder_7d493_0 mc ms X Q) X 0 := by
    intro u v vs st M hb
    rw [hXe]
    refine fun lv hp => S_block (L := 0) (live := [0]) ?_ u v lv vs st M hp hb
    unfold aJ0_coder_7d493_0
    refine S_getz (pc := 0) hC hE.2.1 wd_524 dJ0_coder_7d493_0 ?_
    refine S_if_eq (pc := 3) (tgt := 13) hC dJ0_coder_7d493_3 (by decide) ?_ ?_
    · refine S_iconst (pc := 13) hC dJ0_coder_7d493_13 (by decide) ?_
      exact hJ 14
    · refine S_aload_n (pc := 6) hC dJ0_coder_7d493_6 rfl ?_
      refine S_xcoder (pc := 7) hC hE.2.1 wd_1792 dJ0_coder_7d493_7 ?_
      refine S_goto (pc := 10) (tgt := 14) hC dJ0_coder_7d493_10 (by decide) ?_
      exact hJ 14
  have hB14 : zin 1 [] (aJ0_coder_7d493_14 mc ms X Q) X 14 := by
    intro u v vs st M hb
    rw [hXe]
    refine fun lv hp => S_block (L := 14) (live := []) ?_ u v lv vs st M hp hb
    unfold aJ0_coder_7d493_14
    exact S_zreturn (pc := 14) hC hr dJ0_coder_7d493_14
  have := h.2 X hB0 hB14
  rw [hXe] at this
  exact this lv hlv
theorem dJ0_length_8abf5_0 : decode cJ0_length_8abf5 0 = .ok (.aload_n 0, 1) := by decide +kernel
theorem dJ0_length_8abf5_1 : decode cJ0_length_8abf5 1 = .ok (.getfield 9, 3) := by decide +kernel
theorem dJ0_length_8abf5_4 : decode cJ0_length_8abf5 4 = .ok (.arraylength, 1) := by decide +kernel
theorem dJ0_length_8abf5_5 : decode cJ0_length_8abf5 5 = .ok (.aload_n 0, 1) := by decide +kernel
theorem dJ0_length_8abf5_6 : decode cJ0_length_8abf5 6 = .ok (.invokevirtual 335, 3) := by decide +kernel
theorem dJ0_length_8abf5_9 : decode cJ0_length_8abf5 9 = .ok (.ishr, 1) := by decide +kernel
theorem dJ0_length_8abf5_10 : decode cJ0_length_8abf5 10 = .ok (.ireturn, 1) := by decide +kernel
def kJ0_length_8abf5_9 (mc ms : Nat) (X : Nat → zV) (Q : zQt) : zT :=
  zii (fun x y => x >>> (y &&& 31)) <| zri Q
def aJ0_length_8abf5_0 (mc ms : Nat) (X : Nat → zV) (Q : zQt) : zT :=
  zla 0 <| zxv <| zxa <| zla 0 <| zcx mc ms 0 wJ0_coder_7d493 <| kJ0_length_8abf5_9 mc ms X Q
def lvJ0_length_8abf5 : Nat → List Nat := fun L => match L with
  | 0 => [0]
  | _ => []
def wJ0_length_8abf5 : zSp := fun mc ms av M Q => ((zlay av).length ≤ 1 ∧ zpick (zlay av) [0] = some av) ∧ ∀ X : Nat → zV, zin 1 [0] (aJ0_length_8abf5_0 mc ms X Q) X 0 → X 0 0 0 av [] M
set_option maxRecDepth 100000 in
set_option maxHeartbeats 4000000 in
theorem sJ0_length_8abf5 (l : Launch) (G : zG) (hE : zXt G) : zSnd l G yJ0_length_8abf5 cJ0_length_8abf5 1 (some .int) 1 20 wJ0_length_8abf5 := by
  refine zmk [0] (by decide) (fun mc ms av M Q h => h.1) ?_
  intro p e R s m args below meth c mc ms av M Q hC hRf hRl hr hnm h lv hlv
  obtain ⟨X, hXe⟩ : ∃ X : Nat → zV, X = fun L u v vs st M => ∀ lv, zpick lv (lvJ0_length_8abf5 L) = some vs → zAt p l e R s m args below meth c (MQ below (zQ G Q) args s mc ms (zA G)) G 1 L u v lv st M := ⟨_, rfl⟩
  have hJ : ∀ L, zOk p l e R s m args below meth c (MQ below (zQ G Q) args s mc ms (zA G)) G 1 L (zj X L (lvJ0_length_8abf5 L)) := fun L => S_jump (fun u v lv vs st M hp hx => by rw [hXe] at hx; exact hx lv hp)
  have hB0 : zin 1 [0] (aJ0_length_8abf5_0 mc ms X Q) X 0 := by
    intro u v vs st M hb
    rw [hXe]
    refine fun lv hp => S_block (L := 0) (live := [0]) ?_ u v lv vs st M hp hb
    unfold aJ0_length_8abf5_0
    refine S_aload_n (pc := 0) hC dJ0_length_8abf5_0 rfl ?_
    refine S_xvalue (pc := 1) hC hE.2.1 wd_1793 dJ0_length_8abf5_1 ?_
    refine S_xalen (pc := 4) hC hE.2.1 dJ0_length_8abf5_4 ?_
    refine S_aload_n (pc := 5) hC dJ0_length_8abf5_5 rfl ?_
    refine S_callX (pc := 6) hC hE.2.1 (sJ0_coder_7d493 l G hE) wd_706 wd_707 wd_708 wd_19 wd_709 (by decide +kernel) ⟨by rw [hRf]; decide, by rw [hRl]; decide⟩ dJ0_length_8abf5_6 ?_
    unfold kJ0_length_8abf5_9
    refine S_ishr (pc := 9) hC dJ0_length_8abf5_9 ?_
    exact S_ireturn (pc := 10) hC hr dJ0_length_8abf5_10
  have := h.2 X hB0
  rw [hXe] at this
  exact this lv hlv
theorem dJ0_indexOf_7cf53_0 : decode cJ0_indexOf_7cf53 0 = .ok (.aload_n 0, 1) := by decide +kernel
theorem dJ0_indexOf_7cf53_1 : decode cJ0_indexOf_7cf53 1 = .ok (.invokevirtual 492, 3) := by decide +kernel
theorem dJ0_indexOf_7cf53_4 : decode cJ0_indexOf_7cf53 4 = .ok (.ifCond .eq 19, 3) := by decide +kernel
theorem dJ0_indexOf_7cf53_7 : decode cJ0_indexOf_7cf53 7 = .ok (.aload_n 0, 1) := by decide +kernel
theorem dJ0_indexOf_7cf53_8 : decode cJ0_indexOf_7cf53 8 = .ok (.getfield 9, 3) := by decide +kernel
theorem dJ0_indexOf_7cf53_11 : decode cJ0_indexOf_7cf53 11 = .ok (.iload_n 1, 1) := by decide +kernel
theorem dJ0_indexOf_7cf53_12 : decode cJ0_indexOf_7cf53 12 = .ok (.iload_n 2, 1) := by decide +kernel
theorem dJ0_indexOf_7cf53_13 : decode cJ0_indexOf_7cf53 13 = .ok (.aload_n 0, 1) := by decide +kernel
theorem dJ0_indexOf_7cf53_14 : decode cJ0_indexOf_7cf53 14 = .ok (.invokevirtual 505, 3) := by decide +kernel
theorem dJ0_indexOf_7cf53_17 : decode cJ0_indexOf_7cf53 17 = .ok (.invokestatic 637, 3) := by decide +kernel
theorem dJ0_indexOf_7cf53_20 : decode cJ0_indexOf_7cf53 20 = .ok (.goto 16, 3) := by decide +kernel
theorem dJ0_indexOf_7cf53_23 : decode cJ0_indexOf_7cf53 23 = .ok (.aload_n 0, 1) := by decide +kernel
theorem dJ0_indexOf_7cf53_24 : decode cJ0_indexOf_7cf53 24 = .ok (.getfield 9, 3) := by decide +kernel
theorem dJ0_indexOf_7cf53_27 : decode cJ0_indexOf_7cf53 27 = .ok (.iload_n 1, 1) := by decide +kernel
theorem dJ0_indexOf_7cf53_28 : decode cJ0_indexOf_7cf53 28 = .ok (.iload_n 2, 1) := by decide +kernel
theorem dJ0_indexOf_7cf53_29 : decode cJ0_indexOf_7cf53 29 = .ok (.aload_n 0, 1) := by decide +kernel
theorem dJ0_indexOf_7cf53_30 : decode cJ0_indexOf_7cf53 30 = .ok (.invokevirtual 505, 3) := by decide +kernel
theorem dJ0_indexOf_7cf53_33 : decode cJ0_indexOf_7cf53 33 = .ok (.invokestatic 640, 3) := by decide +kernel
theorem dJ0_indexOf_7cf53_36 : decode cJ0_indexOf_7cf53 36 = .ok (.ireturn, 1) := by decide +kernel
def kJ0_indexOf_7cf53_33 (mc ms : Nat) (X : Nat → zV) (Q : zQt) : zT :=
  zno
def kJ0_indexOf_7cf53_20 (mc ms : Nat) (X : Nat → zV) (Q : zQt) : zT :=
  zj X 36 []
def kJ0_indexOf_7cf53_17 (mc ms : Nat) (X : Nat → zV) (Q : zQt) : zT :=
  zcs mc ms 4 wJ1_indexOf_4cfef <| kJ0_indexOf_7cf53_20 mc ms X Q
def kJ0_indexOf_7cf53_4 (mc ms : Nat) (X : Nat → zV) (Q : zQt) : zT :=
  zif (fun x => x = 0) (zla 0 <| zxv <| zli 1 <| zli 2 <| zla 0 <| zcx mc ms 0 wJ0_length_8abf5 <| kJ0_indexOf_7cf53_33 mc ms X Q) <| zla 0 <| zxv <| zli 1 <| zli 2 <| zla 0 <| zcx mc ms 0 wJ0_length_8abf5 <| kJ0_indexOf_7cf53_17 mc ms X Q
def aJ0_indexOf_7cf53_0 (mc ms : Nat) (X : Nat → zV) (Q : zQt) : zT :=
  zla 0 <| zcx mc ms 0 wJ0_isLatin1_aae02 <| kJ0_indexOf_7cf53_4 mc ms X Q
def aJ0_indexOf_7cf53_36 (mc ms : Nat) (X : Nat → zV) (Q : zQt) : zT :=
  zri Q
def lvJ0_indexOf_7cf53 : Nat → List Nat := fun L => match L with
  | 0 => [0, 1, 2]
  | 36 => []
  | _ => []
def wJ0_indexOf_7cf53 : zSp := fun mc ms av M Q => ((zlay av).length ≤ 3 ∧ zpick (zlay av) [0, 1, 2] = some av) ∧ ∀ X : Nat → zV, zin 3 [0, 1, 2] (aJ0_indexOf_7cf53_0 mc ms X Q) X 0 → zin 3 [] (aJ0_indexOf_7cf53_36 mc ms X Q) X 36 → X 0 0 0 av [] M
set_option maxRecDepth 100000 in
set_option maxHeartbeats 4000000 in
theorem sJ0_indexOf_7cf53 (l : Launch) (G : zG) (hE : zXt G) : zSnd l G yJ0_indexOf_7cf53 cJ0_indexOf_7cf53 3 (some .int) 2 48 wJ0_indexOf_7cf53 := by
  refine zmk [0, 1, 2] (by decide) (fun mc ms av M Q h => h.1) ?_
  intro p e R s m args below meth c mc ms av M Q hC hRf hRl hr hnm h lv hlv
  obtain ⟨X, hXe⟩ : ∃ X : Nat → zV, X = fun L u v vs st M => ∀ lv, zpick lv (lvJ0_indexOf_7cf53 L) = some vs → zAt p l e R s m args below meth c (MQ below (zQ G Q) args s mc ms (zA G)) G 3 L u v lv st M := ⟨_, rfl⟩
  have hJ : ∀ L, zOk p l e R s m args below meth c (MQ below (zQ G Q) args s mc ms (zA G)) G 3 L (zj X L (lvJ0_indexOf_7cf53 L)) := fun L => S_jump (fun u v lv vs st M hp hx => by rw [hXe] at hx; exact hx lv hp)
  have hB0 : zin 3 [0, 1, 2] (aJ0_indexOf_7cf53_0 mc ms X Q) X 0 := by
    intro u v vs st M hb
    rw [hXe]
    refine fun lv hp => S_block (L := 0) (live := [0, 1, 2]) ?_ u v lv vs st M hp hb
    unfold aJ0_indexOf_7cf53_0
    refine S_aload_n (pc := 0) hC dJ0_indexOf_7cf53_0 rfl ?_
    refine S_callX (pc := 1) hC hE.2.1 (sJ0_isLatin1_aae02 l G hE) wd_520 wd_521 wd_522 wd_19 wd_523 (by decide +kernel) ⟨by rw [hRf]; decide, by rw [hRl]; decide⟩ dJ0_indexOf_7cf53_1 ?_
    unfold kJ0_indexOf_7cf53_4
    refine S_if_eq (pc := 4) (tgt := 23) hC dJ0_indexOf_7cf53_4 (by decide) ?_ ?_
    · refine S_aload_n (pc := 23) hC dJ0_indexOf_7cf53_23 rfl ?_
      refine S_xvalue (pc := 24) hC hE.2.1 wd_1793 dJ0_indexOf_7cf53_24 ?_
      refine S_iload_n (pc := 27) hC dJ0_indexOf_7cf53_27 rfl ?_
      refine S_iload_n (pc := 28) hC dJ0_indexOf_7cf53_28 rfl ?_
      refine S_aload_n (pc := 29) hC dJ0_indexOf_7cf53_29 rfl ?_
      refine S_callX (pc := 30) hC hE.2.1 (sJ0_length_8abf5 l G hE) wd_702 wd_703 wd_704 wd_19 wd_705 (by decide +kernel) ⟨by rw [hRf]; decide, by rw [hRl]; decide⟩ dJ0_indexOf_7cf53_30 ?_
      unfold kJ0_indexOf_7cf53_33
      exact S_no
    · refine S_aload_n (pc := 7) hC dJ0_indexOf_7cf53_7 rfl ?_
      refine S_xvalue (pc := 8) hC hE.2.1 wd_1793 dJ0_indexOf_7cf53_8 ?_
      refine S_iload_n (pc := 11) hC dJ0_indexOf_7cf53_11 rfl ?_
      refine S_iload_n (pc := 12) hC dJ0_indexOf_7cf53_12 rfl ?_
      refine S_aload_n (pc := 13) hC dJ0_indexOf_7cf53_13 rfl ?_
      refine S_callX (pc := 14) hC hE.2.1 (sJ0_length_8abf5 l G hE) wd_702 wd_703 wd_704 wd_19 wd_705 (by decide +kernel) ⟨by rw [hRf]; decide, by rw [hRl]; decide⟩ dJ0_indexOf_7cf53_14 ?_
      unfold kJ0_indexOf_7cf53_17
      refine S_callS (pc := 17) hC (sJ1_indexOf_4cfef l G hE) wd_710 wd_711 wd_20 wd_712 (by decide +kernel) ⟨by rw [hRf]; decide, by rw [hRl]; decide⟩ dJ0_indexOf_7cf53_17 ?_
      unfold kJ0_indexOf_7cf53_20
      refine S_goto (pc := 20) (tgt := 36) hC dJ0_indexOf_7cf53_20 (by decide) ?_
      exact hJ 36
  have hB36 : zin 3 [] (aJ0_indexOf_7cf53_36 mc ms X Q) X 36 := by
    intro u v vs st M hb
    rw [hXe]
    refine fun lv hp => S_block (L := 36) (live := []) ?_ u v lv vs st M hp hb
    unfold aJ0_indexOf_7cf53_36
    exact S_ireturn (pc := 36) hC hr dJ0_indexOf_7cf53_36
  have := h.2 X hB0 hB36
  rw [hXe] at this
  exact this lv hlv
theorem dJ0_indexOf_0f7a4_0 : decode cJ0_indexOf_0f7a4 0 = .ok (.aload_n 0, 1) := by decide +kernel
theorem dJ0_indexOf_0f7a4_1 : decode cJ0_indexOf_0f7a4 1 = .ok (.iload_n 1, 1) := by decide +kernel
theorem dJ0_indexOf_0f7a4_2 : decode cJ0_indexOf_0f7a4 2 = .ok (.iconst 0, 1) := by decide +kernel
theorem dJ0_indexOf_0f7a4_3 : decode cJ0_indexOf_0f7a4 3 = .ok (.invokevirtual 633, 3) := by decide +kernel
theorem dJ0_indexOf_0f7a4_6 : decode cJ0_indexOf_0f7a4 6 = .ok (.ireturn, 1) := by decide +kernel
def kJ0_indexOf_0f7a4_6 (mc ms : Nat) (X : Nat → zV) (Q : zQt) : zT :=
  zri Q
def aJ0_indexOf_0f7a4_0 (mc ms : Nat) (X : Nat → zV) (Q : zQt) : zT :=
  zla 0 <| zli 1 <| zc (.int 0) <| zcx mc ms 2 wJ0_indexOf_7cf53 <| kJ0_indexOf_0f7a4_6 mc ms X Q
def lvJ0_indexOf_0f7a4 : Nat → List Nat := fun L => match L with
  | 0 => [0, 1]
  | _ => []
def wJ0_indexOf_0f7a4 : zSp := fun mc ms av M Q => ((zlay av).length ≤ 2 ∧ zpick (zlay av) [0, 1] = some av) ∧ ∀ X : Nat → zV, zin 2 [0, 1] (aJ0_indexOf_0f7a4_0 mc ms X Q) X 0 → X 0 0 0 av [] M
set_option maxRecDepth 100000 in
set_option maxHeartbeats 4000000 in
theorem sJ0_indexOf_0f7a4 (l : Launch) (G : zG) (hE : zXt G) : zSnd l G yJ0_indexOf_0f7a4 cJ0_indexOf_0f7a4 2 (some .int) 3 70 wJ0_indexOf_0f7a4 := by
  refine zmk [0, 1] (by decide) (fun mc ms av M Q h => h.1) ?_
  intro p e R s m args below meth c mc ms av M Q hC hRf hRl hr hnm h lv hlv
  obtain ⟨X, hXe⟩ : ∃ X : Nat → zV, X = fun L u v vs st M => ∀ lv, zpick lv (lvJ0_indexOf_0f7a4 L) = some vs → zAt p l e R s m args below meth c (MQ below (zQ G Q) args s mc ms (zA G)) G 2 L u v lv st M := ⟨_, rfl⟩
  have hJ : ∀ L, zOk p l e R s m args below meth c (MQ below (zQ G Q) args s mc ms (zA G)) G 2 L (zj X L (lvJ0_indexOf_0f7a4 L)) := fun L => S_jump (fun u v lv vs st M hp hx => by rw [hXe] at hx; exact hx lv hp)
  have hB0 : zin 2 [0, 1] (aJ0_indexOf_0f7a4_0 mc ms X Q) X 0 := by
    intro u v vs st M hb
    rw [hXe]
    refine fun lv hp => S_block (L := 0) (live := [0, 1]) ?_ u v lv vs st M hp hb
    unfold aJ0_indexOf_0f7a4_0
    refine S_aload_n (pc := 0) hC dJ0_indexOf_0f7a4_0 rfl ?_
    refine S_iload_n (pc := 1) hC dJ0_indexOf_0f7a4_1 rfl ?_
    refine S_iconst (pc := 2) hC dJ0_indexOf_0f7a4_2 (by decide) ?_
    refine S_callX (pc := 3) hC hE.2.1 (sJ0_indexOf_7cf53 l G hE) wd_698 wd_699 wd_700 wd_19 wd_701 (by decide +kernel) ⟨by rw [hRf]; decide, by rw [hRl]; decide⟩ dJ0_indexOf_0f7a4_3 ?_
    unfold kJ0_indexOf_0f7a4_6
    exact S_ireturn (pc := 6) hC hr dJ0_indexOf_0f7a4_6
  have := h.2 X hB0
  rw [hXe] at this
  exact this lv hlv
theorem dX3_init_0 : decode cX3_init 0 = .ok (.aload_n 0, 1) := by decide +kernel
theorem dX3_init_1 : decode cX3_init 1 = .ok (.invokespecial 3, 3) := by decide +kernel
theorem dX3_init_4 : decode cX3_init 4 = .ok (.aload_n 0, 1) := by decide +kernel
theorem dX3_init_5 : decode cX3_init 5 = .ok (.aload_n 1, 1) := by decide +kernel
theorem dX3_init_6 : decode cX3_init 6 = .ok (.putfield 9, 3) := by decide +kernel
theorem dX3_init_9 : decode cX3_init 9 = .ok (.aload_n 0, 1) := by decide +kernel
theorem dX3_init_10 : decode cX3_init 10 = .ok (.bipush 6, 2) := by decide +kernel
theorem dX3_init_12 : decode cX3_init 12 = .ok (.anewarray 15, 3) := by decide +kernel
theorem dX3_init_15 : decode cX3_init 15 = .ok (.putfield 17, 3) := by decide +kernel
theorem dX3_init_18 : decode cX3_init 18 = .ok (.return_, 1) := by decide +kernel
def aX3_init_0 (mc ms : Nat) (X : Nat → zV) (Q : zQt) : zT :=
  zla 0 <| zoi <| zla 0 <| zla 1 <| zpr 3 0 <| zla 0 <| zc (.int 6) <| zna mc ms 6 <| zpr 3 1 <| zrv Q
def lvX3_init : Nat → List Nat := fun L => match L with
  | 0 => [0, 1]
  | _ => []
def wX3_init : zSp := fun mc ms av M Q => ((zlay av).length ≤ 2 ∧ zpick (zlay av) [0, 1] = some av) ∧ ∀ X : Nat → zV, zin 2 [0, 1] (aX3_init_0 mc ms X Q) X 0 → X 0 0 0 av [] M
set_option maxRecDepth 100000 in
set_option maxHeartbeats 4000000 in
theorem sX3_init (l : Launch) (G : zG) (hE : zXt G) : zSnd l G yX3_init cX3_init 2 none 1 20 wX3_init := by
  refine zmk [0, 1] (by decide) (fun mc ms av M Q h => h.1) ?_
  intro p e R s m args below meth c mc ms av M Q hC hRf hRl hr hnm h lv hlv
  obtain ⟨X, hXe⟩ : ∃ X : Nat → zV, X = fun L u v vs st M => ∀ lv, zpick lv (lvX3_init L) = some vs → zAt p l e R s m args below meth c (MQ below (zQ G Q) args s mc ms (zA G)) G 2 L u v lv st M := ⟨_, rfl⟩
  have hJ : ∀ L, zOk p l e R s m args below meth c (MQ below (zQ G Q) args s mc ms (zA G)) G 2 L (zj X L (lvX3_init L)) := fun L => S_jump (fun u v lv vs st M hp hx => by rw [hXe] at hx; exact hx lv hp)
  have hB0 : zin 2 [0, 1] (aX3_init_0 mc ms X Q) X 0 := by
    intro u v vs st M hb
    rw [hXe]
    refine fun lv hp => S_block (L := 0) (live := [0, 1]) ?_ u v lv vs st M hp hb
    unfold aX3_init_0
    refine S_aload_n (pc := 0) hC dX3_init_0 rfl ?_
    refine S_objInit (pc := 1) hC wd_190 wd_35 wd_36 (by rw [hRf]; decide) (by rw [hRl]; decide) dX3_init_1 ?_
    refine S_aload_n (pc := 4) hC dX3_init_4 rfl ?_
    refine S_aload_n (pc := 5) hC dX3_init_5 rfl ?_
    refine S_putr (pc := 6) hC cfX3 (by decide) (Or.inl ⟨_, rfl⟩) (Or.inr ⟨rfl, hnm, rfl⟩) wd_193 dX3_init_6 ?_
    refine S_aload_n (pc := 9) hC dX3_init_9 rfl ?_
    refine S_bipush (pc := 10) hC dX3_init_10 (by decide) ?_
    refine S_anewa (pc := 12) hC wd_191 (hE.2.2.1 s s.heap (zF_now hC)).2.2 dX3_init_12 ?_
    refine S_putr (pc := 15) hC cfX3 (by decide) (Or.inr ⟨_, rfl⟩) (Or.inr ⟨rfl, hnm, rfl⟩) wd_194 dX3_init_15 ?_
    exact S_vreturn (pc := 18) hC hr dX3_init_18
  have := h.2 X hB0
  rw [hXe] at this
  exact this lv hlv
theorem dX6_init_0 : decode cX6_init 0 = .ok (.aload_n 0, 1) := by decide +kernel
theorem dX6_init_1 : decode cX6_init 1 = .ok (.invokespecial 3, 3) := by decide +kernel
theorem dX6_init_4 : decode cX6_init 4 = .ok (.aload_n 0, 1) := by decide +kernel
theorem dX6_init_5 : decode cX6_init 5 = .ok (.aload_n 1, 1) := by decide +kernel
theorem dX6_init_6 : decode cX6_init 6 = .ok (.putfield 9, 3) := by decide +kernel
theorem dX6_init_9 : decode cX6_init 9 = .ok (.aload_n 0, 1) := by decide +kernel
theorem dX6_init_10 : decode cX6_init 10 = .ok (.aload_n 2, 1) := by decide +kernel
theorem dX6_init_11 : decode cX6_init 11 = .ok (.putfield 15, 3) := by decide +kernel
theorem dX6_init_14 : decode cX6_init 14 = .ok (.aload_n 0, 1) := by decide +kernel
theorem dX6_init_15 : decode cX6_init 15 = .ok (.new 19, 3) := by decide +kernel
theorem dX6_init_18 : decode cX6_init 18 = .ok (.dup, 1) := by decide +kernel
theorem dX6_init_19 : decode cX6_init 19 = .ok (.invokespecial 21, 3) := by decide +kernel
theorem dX6_init_22 : decode cX6_init 22 = .ok (.putfield 22, 3) := by decide +kernel
theorem dX6_init_25 : decode cX6_init 25 = .ok (.return_, 1) := by decide +kernel
def kX6_init_22 (mc ms : Nat) (X : Nat → zV) (Q : zQt) : zT :=
  zpr 6 2 <| zrv Q
def aX6_init_0 (mc ms : Nat) (X : Nat → zV) (Q : zQt) : zT :=
  zla 0 <| zoi <| zla 0 <| zla 1 <| zpr 6 0 <| zla 0 <| zla 2 <| zpr 6 1 <| zla 0 <| znew mc ms 10 <| zdup <| zci mc ms 0 wX10_init <| kX6_init_22 mc ms X Q
def lvX6_init : Nat → List Nat := fun L => match L with
  | 0 => [0, 1, 2]
  | _ => []
def wX6_init : zSp := fun mc ms av M Q => ((zlay av).length ≤ 3 ∧ zpick (zlay av) [0, 1, 2] = some av) ∧ ∀ X : Nat → zV, zin 3 [0, 1, 2] (aX6_init_0 mc ms X Q) X 0 → X 0 0 0 av [] M
set_option maxRecDepth 100000 in
set_option maxHeartbeats 4000000 in
theorem sX6_init (l : Launch) (G : zG) (hE : zXt G) : zSnd l G yX6_init cX6_init 3 none 2 40 wX6_init := by
  refine zmk [0, 1, 2] (by decide) (fun mc ms av M Q h => h.1) ?_
  intro p e R s m args below meth c mc ms av M Q hC hRf hRl hr hnm h lv hlv
  obtain ⟨X, hXe⟩ : ∃ X : Nat → zV, X = fun L u v vs st M => ∀ lv, zpick lv (lvX6_init L) = some vs → zAt p l e R s m args below meth c (MQ below (zQ G Q) args s mc ms (zA G)) G 3 L u v lv st M := ⟨_, rfl⟩
  have hJ : ∀ L, zOk p l e R s m args below meth c (MQ below (zQ G Q) args s mc ms (zA G)) G 3 L (zj X L (lvX6_init L)) := fun L => S_jump (fun u v lv vs st M hp hx => by rw [hXe] at hx; exact hx lv hp)
  have hB0 : zin 3 [0, 1, 2] (aX6_init_0 mc ms X Q) X 0 := by
    intro u v vs st M hb
    rw [hXe]
    refine fun lv hp => S_block (L := 0) (live := [0, 1, 2]) ?_ u v lv vs st M hp hb
    unfold aX6_init_0
    refine S_aload_n (pc := 0) hC dX6_init_0 rfl ?_
    refine S_objInit (pc := 1) hC wd_106 wd_35 wd_36 (by rw [hRf]; decide) (by rw [hRl]; decide) dX6_init_1 ?_
    refine S_aload_n (pc := 4) hC dX6_init_4 rfl ?_
    refine S_aload_n (pc := 5) hC dX6_init_5 rfl ?_
    refine S_putr (pc := 6) hC cfX6 (by decide) (Or.inr ⟨_, rfl⟩) (Or.inr ⟨rfl, hnm, rfl⟩) wd_138 dX6_init_6 ?_
    refine S_aload_n (pc := 9) hC dX6_init_9 rfl ?_
    refine S_aload_n (pc := 10) hC dX6_init_10 rfl ?_
    refine S_putr (pc := 11) hC cfX6 (by decide) (Or.inl ⟨_, rfl⟩) (Or.inr ⟨rfl, hnm, rfl⟩) wd_139 dX6_init_11 ?_
    refine S_aload_n (pc := 14) hC dX6_init_14 rfl ?_
    refine S_new (pc := 15) hC cfX10 (by decide) wd_107 wd_108 wd_5 dX6_init_15 ?_
    refine S_dup (pc := 18) hC dX6_init_18 ?_
    refine S_callIN (pc := 19) hC (sX10_init l G) (hE.2.2.1 s s.heap (zF_now hC)).1 wd_110 wd_5 wd_111 rfl (by decide +kernel) ⟨by rw [hRf]; decide, by rw [hRl]; decide⟩ dX6_init_19 ?_
    unfold kX6_init_22
    refine S_putr (pc := 22) hC cfX6 (by decide) (Or.inl ⟨_, rfl⟩) (Or.inr ⟨rfl, hnm, rfl⟩) wd_140 dX6_init_22 ?_
    exact S_vreturn (pc := 25) hC hr dX6_init_25
  have := h.2 X hB0
  rw [hXe] at this
  exact this lv hlv
theorem dX6_readRank_0 : decode cX6_readRank 0 = .ok (.iconst 0, 1) := by decide +kernel
theorem dX6_readRank_1 : decode cX6_readRank 1 = .ok (.istore_n 3, 1) := by decide +kernel
theorem dX6_readRank_2 : decode cX6_readRank 2 = .ok (.iconst 0, 1) := by decide +kernel
theorem dX6_readRank_3 : decode cX6_readRank 3 = .ok (.istore 4, 2) := by decide +kernel
theorem dX6_readRank_5 : decode cX6_readRank 5 = .ok (.iconst 0, 1) := by decide +kernel
theorem dX6_readRank_6 : decode cX6_readRank 6 = .ok (.istore 5, 2) := by decide +kernel
theorem dX6_readRank_8 : decode cX6_readRank 8 = .ok (.iload 5, 2) := by decide +kernel
theorem dX6_readRank_10 : decode cX6_readRank 10 = .ok (.bipush 8, 2) := by decide +kernel
theorem dX6_readRank_12 : decode cX6_readRank 12 = .ok (.if_icmp .ge 106, 3) := by decide +kernel
theorem dX6_readRank_15 : decode cX6_readRank 15 = .ok (.iload 4, 2) := by decide +kernel
theorem dX6_readRank_17 : decode cX6_readRank 17 = .ok (.bipush 8, 2) := by decide +kernel
theorem dX6_readRank_19 : decode cX6_readRank 19 = .ok (.if_icmp .ge 99, 3) := by decide +kernel
theorem dX6_readRank_22 : decode cX6_readRank 22 = .ok (.aload_n 0, 1) := by decide +kernel
theorem dX6_readRank_23 : decode cX6_readRank 23 = .ok (.invokevirtual 69, 3) := by decide +kernel
theorem dX6_readRank_26 : decode cX6_readRank 26 = .ok (.istore 6, 2) := by decide +kernel
theorem dX6_readRank_28 : decode cX6_readRank 28 = .ok (.ldc 77, 2) := by decide +kernel
theorem dX6_readRank_30 : decode cX6_readRank 30 = .ok (.iload 6, 2) := by decide +kernel
theorem dX6_readRank_32 : decode cX6_readRank 32 = .ok (.invokevirtual 79, 3) := by decide +kernel
theorem dX6_readRank_35 : decode cX6_readRank 35 = .ok (.istore 7, 2) := by decide +kernel
theorem dX6_readRank_37 : decode cX6_readRank 37 = .ok (.iload 7, 2) := by decide +kernel
theorem dX6_readRank_39 : decode cX6_readRank 39 = .ok (.ifCond .le 19, 3) := by decide +kernel
theorem dX6_readRank_42 : decode cX6_readRank 42 = .ok (.aload_n 1, 1) := by decide +kernel
theorem dX6_readRank_43 : decode cX6_readRank 43 = .ok (.iload_n 2, 1) := by decide +kernel
theorem dX6_readRank_44 : decode cX6_readRank 44 = .ok (.iload 4, 2) := by decide +kernel
theorem dX6_readRank_46 : decode cX6_readRank 46 = .ok (.iadd, 1) := by decide +kernel
theorem dX6_readRank_47 : decode cX6_readRank 47 = .ok (.iload 7, 2) := by decide +kernel
theorem dX6_readRank_49 : decode cX6_readRank 49 = .ok (.invokevirtual 84, 3) := by decide +kernel
theorem dX6_readRank_52 : decode cX6_readRank 52 = .ok (.iinc 4 1, 3) := by decide +kernel
theorem dX6_readRank_55 : decode cX6_readRank 55 = .ok (.goto 36, 3) := by decide +kernel
theorem dX6_readRank_58 : decode cX6_readRank 58 = .ok (.iload 6, 2) := by decide +kernel
theorem dX6_readRank_60 : decode cX6_readRank 60 = .ok (.bipush 49, 2) := by decide +kernel
theorem dX6_readRank_62 : decode cX6_readRank 62 = .ok (.if_icmp .lt 27, 3) := by decide +kernel
theorem dX6_readRank_65 : decode cX6_readRank 65 = .ok (.iload 6, 2) := by decide +kernel
theorem dX6_readRank_67 : decode cX6_readRank 67 = .ok (.bipush 56, 2) := by decide +kernel
theorem dX6_readRank_69 : decode cX6_readRank 69 = .ok (.if_icmp .gt 20, 3) := by decide +kernel
theorem dX6_readRank_72 : decode cX6_readRank 72 = .ok (.iload_n 3, 1) := by decide +kernel
theorem dX6_readRank_73 : decode cX6_readRank 73 = .ok (.ifCond .ne 16, 3) := by decide +kernel
theorem dX6_readRank_76 : decode cX6_readRank 76 = .ok (.iload 4, 2) := by decide +kernel
theorem dX6_readRank_78 : decode cX6_readRank 78 = .ok (.iload 6, 2) := by decide +kernel
theorem dX6_readRank_80 : decode cX6_readRank 80 = .ok (.bipush 48, 2) := by decide +kernel
theorem dX6_readRank_82 : decode cX6_readRank 82 = .ok (.isub, 1) := by decide +kernel
theorem dX6_readRank_83 : decode cX6_readRank 83 = .ok (.iadd, 1) := by decide +kernel
theorem dX6_readRank_84 : decode cX6_readRank 84 = .ok (.istore 4, 2) := by decide +kernel
theorem dX6_readRank_86 : decode cX6_readRank 86 = .ok (.goto 5, 3) := by decide +kernel
theorem dX6_readRank_89 : decode cX6_readRank 89 = .ok (.iconst 0, 1) := by decide +kernel
theorem dX6_readRank_90 : decode cX6_readRank 90 = .ok (.ireturn, 1) := by decide +kernel
theorem dX6_readRank_91 : decode cX6_readRank 91 = .ok (.iload 7, 2) := by decide +kernel
theorem dX6_readRank_93 : decode cX6_readRank 93 = .ok (.ifCond .gt 7, 3) := by decide +kernel
theorem dX6_readRank_96 : decode cX6_readRank 96 = .ok (.iconst 1, 1) := by decide +kernel
theorem dX6_readRank_97 : decode cX6_readRank 97 = .ok (.goto 4, 3) := by decide +kernel
theorem dX6_readRank_100 : decode cX6_readRank 100 = .ok (.iconst 0, 1) := by decide +kernel
theorem dX6_readRank_101 : decode cX6_readRank 101 = .ok (.istore_n 3, 1) := by decide +kernel
theorem dX6_readRank_102 : decode cX6_readRank 102 = .ok (.aload_n 0, 1) := by decide +kernel
theorem dX6_readRank_103 : decode cX6_readRank 103 = .ok (.dup, 1) := by decide +kernel
theorem dX6_readRank_104 : decode cX6_readRank 104 = .ok (.getfield 26, 3) := by decide +kernel
theorem dX6_readRank_107 : decode cX6_readRank 107 = .ok (.iconst 1, 1) := by decide +kernel
theorem dX6_readRank_108 : decode cX6_readRank 108 = .ok (.iadd, 1) := by decide +kernel
theorem dX6_readRank_109 : decode cX6_readRank 109 = .ok (.putfield 26, 3) := by decide +kernel
theorem dX6_readRank_112 : decode cX6_readRank 112 = .ok (.iinc 5 1, 3) := by decide +kernel
theorem dX6_readRank_115 : decode cX6_readRank 115 = .ok (.goto (-107), 3) := by decide +kernel
theorem dX6_readRank_118 : decode cX6_readRank 118 = .ok (.iload 4, 2) := by decide +kernel
theorem dX6_readRank_120 : decode cX6_readRank 120 = .ok (.bipush 8, 2) := by decide +kernel
theorem dX6_readRank_122 : decode cX6_readRank 122 = .ok (.if_icmp .ne 7, 3) := by decide +kernel
theorem dX6_readRank_125 : decode cX6_readRank 125 = .ok (.iconst 1, 1) := by decide +kernel
theorem dX6_readRank_126 : decode cX6_readRank 126 = .ok (.goto 4, 3) := by decide +kernel
theorem dX6_readRank_129 : decode cX6_readRank 129 = .ok (.iconst 0, 1) := by decide +kernel
theorem dX6_readRank_130 : decode cX6_readRank 130 = .ok (.ireturn, 1) := by decide +kernel
def kX6_readRank_52 (mc ms : Nat) (X : Nat → zV) (Q : zQt) : zT :=
  zinc 4 1 <| zj X 91 [0, 1, 2, 4, 5, 7]
def kX6_readRank_35 (mc ms : Nat) (X : Nat → zV) (Q : zQt) : zT :=
  zsi 7 <| zli 7 <| zif (fun x => x ≤ 0) (zli 6 <| zc (.int 49) <| zic (fun x y => x < y) (zj X 89 []) <| zli 6 <| zc (.int 56) <| zic (fun x y => y < x) (zj X 89 []) <| zli 3 <| zif (fun x => x = 0) (zli 4 <| zli 6 <| zc (.int 48) <| zii (fun x y => x - y) <| zii (fun x y => x + y) <| zsi 4 <| zj X 91 [0, 1, 2, 4, 5, 7]) <| zj X 89 []) <| zla 1 <| zli 2 <| zli 4 <| zii (fun x y => x + y) <| zli 7 <| zcv mc ms 0 2 wX0_put <| kX6_readRank_52 mc ms X Q
def kX6_readRank_26 (mc ms : Nat) (X : Nat → zV) (Q : zQt) : zT :=
  zsi 6 <| zgs 5 <| zli 6 <| zcx mc ms 1 wJ0_indexOf_0f7a4 <| kX6_readRank_35 mc ms X Q
def aX6_readRank_0 (mc ms : Nat) (X : Nat → zV) (Q : zQt) : zT :=
  zc (.int 0) <| zsi 3 <| zc (.int 0) <| zsi 4 <| zc (.int 0) <| zsi 5 <| zj X 8 [0, 1, 2, 3, 4, 5]
def aX6_readRank_8 (mc ms : Nat) (X : Nat → zV) (Q : zQt) : zT :=
  zli 5 <| zc (.int 8) <| zic (fun x y => y ≤ x) (zj X 118 [4]) <| zli 4 <| zc (.int 8) <| zic (fun x y => y ≤ x) (zj X 118 [4]) <| zla 0 <| zcv mc ms 6 0 wX6_sign <| kX6_readRank_26 mc ms X Q
def aX6_readRank_89 (mc ms : Nat) (X : Nat → zV) (Q : zQt) : zT :=
  zc (.int 0) <| zrz .boolean Q
def aX6_readRank_91 (mc ms : Nat) (X : Nat → zV) (Q : zQt) : zT :=
  zli 7 <| zif (fun x => 0 < x) (zc (.int 0) <| zj X 101 [0, 1, 2, 4, 5]) <| zc (.int 1) <| zj X 101 [0, 1, 2, 4, 5]
def aX6_readRank_101 (mc ms : Nat) (X : Nat → zV) (Q : zQt) : zT :=
  zsi 3 <| zla 0 <| zdup <| zgi 6 3 <| zc (.int 1) <| zii (fun x y => x + y) <| zpi 6 3 <| zinc 5 1 <| zj X 8 [0, 1, 2, 3, 4, 5]
def aX6_readRank_118 (mc ms : Nat) (X : Nat → zV) (Q : zQt) : zT :=
  zli 4 <| zc (.int 8) <| zic (fun x y => x = y) (zc (.int 1) <| zj X 130 []) <| zc (.int 0) <| zj X 130 []
def aX6_readRank_130 (mc ms : Nat) (X : Nat → zV) (Q : zQt) : zT :=
  zrz .boolean Q
def lvX6_readRank : Nat → List Nat := fun L => match L with
  | 0 => [0, 1, 2]
  | 8 => [0, 1, 2, 3, 4, 5]
  | 89 => []
  | 91 => [0, 1, 2, 4, 5, 7]
  | 101 => [0, 1, 2, 4, 5]
  | 118 => [4]
  | 130 => []
  | _ => []
def wX6_readRank : zSp := fun mc ms av M Q => ((zlay av).length ≤ 8 ∧ zpick (zlay av) [0, 1, 2] = some av) ∧ ∀ X : Nat → zV, zin 8 [0, 1, 2] (aX6_readRank_0 mc ms X Q) X 0 → zin 8 [0, 1, 2, 3, 4, 5] (aX6_readRank_8 mc ms X Q) X 8 → zin 8 [] (aX6_readRank_89 mc ms X Q) X 89 → zin 8 [0, 1, 2, 4, 5, 7] (aX6_readRank_91 mc ms X Q) X 91 → zin 8 [0, 1, 2, 4, 5] (aX6_readRank_101 mc ms X Q) X 101 → zin 8 [4] (aX6_readRank_118 mc ms X Q) X 118 → zin 8 [] (aX6_readRank_130 mc ms X Q) X 130 → X 0 0 0 av [] M
set_option maxRecDepth 100000 in
set_option maxHeartbeats 4000000 in
theorem sX6_readRank (l : Launch) (G : zG) (hE : zXt G) : zSnd l G yX6_readRank cX6_readRank 8 (some .boolean) 4 91 wX6_readRank := by
  refine zmk [0, 1, 2] (by decide) (fun mc ms av M Q h => h.1) ?_
  intro p e R s m args below meth c mc ms av M Q hC hRf hRl hr hnm h lv hlv
  obtain ⟨X, hXe⟩ : ∃ X : Nat → zV, X = fun L u v vs st M => ∀ lv, zpick lv (lvX6_readRank L) = some vs → zAt p l e R s m args below meth c (MQ below (zQ G Q) args s mc ms (zA G)) G 8 L u v lv st M := ⟨_, rfl⟩
  have hJ : ∀ L, zOk p l e R s m args below meth c (MQ below (zQ G Q) args s mc ms (zA G)) G 8 L (zj X L (lvX6_readRank L)) := fun L => S_jump (fun u v lv vs st M hp hx => by rw [hXe] at hx; exact hx lv hp)
  have hB0 : zin 8 [0, 1, 2] (aX6_readRank_0 mc ms X Q) X 0 := by
    intro u v vs st M hb
    rw [hXe]
    refine fun lv hp => S_block (L := 0) (live := [0, 1, 2]) ?_ u v lv vs st M hp hb
    unfold aX6_readRank_0
    refine S_iconst (pc := 0) hC dX6_readRank_0 (by decide) ?_
    refine S_istore_n (pc := 1) hC dX6_readRank_1 rfl (by decide) ?_
    refine S_iconst (pc := 2) hC dX6_readRank_2 (by decide) ?_
    refine S_istore (pc := 3) hC dX6_readRank_3 (by decide) ?_
    refine S_iconst (pc := 5) hC dX6_readRank_5 (by decide) ?_
    refine S_istore (pc := 6) hC dX6_readRank_6 (by decide) ?_
    exact hJ 8
  have hB8 : zin 8 [0, 1, 2, 3, 4, 5] (aX6_readRank_8 mc ms X Q) X 8 := by
    intro u v vs st M hb
    rw [hXe]
    refine fun lv hp => S_block (L := 8) (live := [0, 1, 2, 3, 4, 5]) ?_ u v lv vs st M hp hb
    unfold aX6_readRank_8
    refine S_iload (pc := 8) hC dX6_readRank_8 ?_
    refine S_bipush (pc := 10) hC dX6_readRank_10 (by decide) ?_
    refine S_icmp_ge (pc := 12) (tgt := 118) hC dX6_readRank_12 (by decide) ?_ ?_
    · exact hJ 118
    · refine S_iload (pc := 15) hC dX6_readRank_15 ?_
      refine S_bipush (pc := 17) hC dX6_readRank_17 (by decide) ?_
      refine S_icmp_ge (pc := 19) (tgt := 118) hC dX6_readRank_19 (by decide) ?_ ?_
      · exact hJ 118
      · refine S_aload_n (pc := 22) hC dX6_readRank_22 rfl ?_
        refine S_callV (pc := 23) hC (sX6_sign l G) rfl wd_689 wd_691 ws_16 wd_4 wd_692 (by decide +kernel) ⟨by rw [hRf]; decide, by rw [hRl]; decide⟩ dX6_readRank_23 ?_
        unfold kX6_readRank_26
        refine S_istore (pc := 26) hC dX6_readRank_26 (by decide) ?_
        refine S_ldcS (pc := 28) hC hE.2.1 (w := 0) (tx := " PNBRQKpnbrqk") (by decide) (by decide) dX6_readRank_28 ?_
        refine S_iload (pc := 30) hC dX6_readRank_30 ?_
        refine S_callX (pc := 32) hC hE.2.1 (sJ0_indexOf_0f7a4 l G hE) wd_694 wd_695 wd_696 wd_19 wd_697 (by decide +kernel) ⟨by rw [hRf]; decide, by rw [hRl]; decide⟩ dX6_readRank_32 ?_
        unfold kX6_readRank_35
        refine S_istore (pc := 35) hC dX6_readRank_35 (by decide) ?_
        refine S_iload (pc := 37) hC dX6_readRank_37 ?_
        refine S_if_le (pc := 39) (tgt := 58) hC dX6_readRank_39 (by decide) ?_ ?_
        · refine S_iload (pc := 58) hC dX6_readRank_58 ?_
          refine S_bipush (pc := 60) hC dX6_readRank_60 (by decide) ?_
          refine S_icmp_lt (pc := 62) (tgt := 89) hC dX6_readRank_62 (by decide) ?_ ?_
          · exact hJ 89
          · refine S_iload (pc := 65) hC dX6_readRank_65 ?_
            refine S_bipush (pc := 67) hC dX6_readRank_67 (by decide) ?_
            refine S_icmp_gt (pc := 69) (tgt := 89) hC dX6_readRank_69 (by decide) ?_ ?_
            · exact hJ 89
            · refine S_iload_n (pc := 72) hC dX6_readRank_72 rfl ?_
              refine S_if_ne (pc := 73) (tgt := 89) hC dX6_readRank_73 (by decide) ?_ ?_
              · exact hJ 89
              · refine S_iload (pc := 76) hC dX6_readRank_76 ?_
                refine S_iload (pc := 78) hC dX6_readRank_78 ?_
                refine S_bipush (pc := 80) hC dX6_readRank_80 (by decide) ?_
                refine S_isub (pc := 82) hC dX6_readRank_82 ?_
                refine S_iadd (pc := 83) hC dX6_readRank_83 ?_
                refine S_istore (pc := 84) hC dX6_readRank_84 (by decide) ?_
                refine S_goto (pc := 86) (tgt := 91) hC dX6_readRank_86 (by decide) ?_
                exact hJ 91
        · refine S_aload_n (pc := 42) hC dX6_readRank_42 rfl ?_
          refine S_iload_n (pc := 43) hC dX6_readRank_43 rfl ?_
          refine S_iload (pc := 44) hC dX6_readRank_44 ?_
          refine S_iadd (pc := 46) hC dX6_readRank_46 ?_
          refine S_iload (pc := 47) hC dX6_readRank_47 ?_
          refine S_callV (pc := 49) hC (sX0_put l G hE.1) rfl wd_758 wd_414 wd_415 wd_10 wd_416 (by decide +kernel) ⟨by rw [hRf]; decide, by rw [hRl]; decide⟩ dX6_readRank_49 ?_
          unfold kX6_readRank_52
          refine S_iinc (pc := 52) hC dX6_readRank_52 (by decide) (by decide) ?_
          refine S_goto (pc := 55) (tgt := 91) hC dX6_readRank_55 (by decide) ?_
          exact hJ 91
  have hB89 : zin 8 [] (aX6_readRank_89 mc ms X Q) X 89 := by
    intro u v vs st M hb
    rw [hXe]
    refine fun lv hp => S_block (L := 89) (live := []) ?_ u v lv vs st M hp hb
    unfold aX6_readRank_89
    refine S_iconst (pc := 89) hC dX6_readRank_89 (by decide) ?_
    exact S_zreturn (pc := 90) hC hr dX6_readRank_90
  have hB91 : zin 8 [0, 1, 2, 4, 5, 7] (aX6_readRank_91 mc ms X Q) X 91 := by
    intro u v vs st M hb
    rw [hXe]
    refine fun lv hp => S_block (L := 91) (live := [0, 1, 2, 4, 5, 7]) ?_ u v lv vs st M hp hb
    unfold aX6_readRank_91
    refine S_iload (pc := 91) hC dX6_readRank_91 ?_
    refine S_if_gt (pc := 93) (tgt := 100) hC dX6_readRank_93 (by decide) ?_ ?_
    · refine S_iconst (pc := 100) hC dX6_readRank_100 (by decide) ?_
      exact hJ 101
    · refine S_iconst (pc := 96) hC dX6_readRank_96 (by decide) ?_
      refine S_goto (pc := 97) (tgt := 101) hC dX6_readRank_97 (by decide) ?_
      exact hJ 101
  have hB101 : zin 8 [0, 1, 2, 4, 5] (aX6_readRank_101 mc ms X Q) X 101 := by
    intro u v vs st M hb
    rw [hXe]
    refine fun lv hp => S_block (L := 101) (live := [0, 1, 2, 4, 5]) ?_ u v lv vs st M hp hb
    unfold aX6_readRank_101
    refine S_istore_n (pc := 101) hC dX6_readRank_101 rfl (by decide) ?_
    refine S_aload_n (pc := 102) hC dX6_readRank_102 rfl ?_
    refine S_dup (pc := 103) hC dX6_readRank_103 ?_
    refine S_geti (pc := 104) hC cfX6 (by decide) (Or.inl rfl) wd_141 dX6_readRank_104 ?_
    refine S_iconst (pc := 107) hC dX6_readRank_107 (by decide) ?_
    refine S_iadd (pc := 108) hC dX6_readRank_108 ?_
    refine S_puti (pc := 109) hC cfX6 (by decide) rfl (Or.inl rfl) wd_141 dX6_readRank_109 ?_
    refine S_iinc (pc := 112) hC dX6_readRank_112 (by decide) (by decide) ?_
    refine S_goto (pc := 115) (tgt := 8) hC dX6_readRank_115 (by decide) ?_
    exact hJ 8
  have hB118 : zin 8 [4] (aX6_readRank_118 mc ms X Q) X 118 := by
    intro u v vs st M hb
    rw [hXe]
    refine fun lv hp => S_block (L := 118) (live := [4]) ?_ u v lv vs st M hp hb
    unfold aX6_readRank_118
    refine S_iload (pc := 118) hC dX6_readRank_118 ?_
    refine S_bipush (pc := 120) hC dX6_readRank_120 (by decide) ?_
    refine S_icmp_ne (pc := 122) (tgt := 129) hC dX6_readRank_122 (by decide) ?_ ?_
    · refine S_iconst (pc := 129) hC dX6_readRank_129 (by decide) ?_
      exact hJ 130
    · refine S_iconst (pc := 125) hC dX6_readRank_125 (by decide) ?_
      refine S_goto (pc := 126) (tgt := 130) hC dX6_readRank_126 (by decide) ?_
      exact hJ 130
  have hB130 : zin 8 [] (aX6_readRank_130 mc ms X Q) X 130 := by
    intro u v vs st M hb
    rw [hXe]
    refine fun lv hp => S_block (L := 130) (live := []) ?_ u v lv vs st M hp hb
    unfold aX6_readRank_130
    exact S_zreturn (pc := 130) hC hr dX6_readRank_130
  have := h.2 X hB0 hB8 hB89 hB91 hB101 hB118 hB130
  rw [hXe] at this
  exact this lv hlv
theorem vX6_readRank_0 {mc ms : Nat} {X : Nat → zV} {Q : zQt} {M : zM} {g : Nat} {x2 : Int32} (hW : zWd M g)  (h : X 8 0 0 [.ref 27, .ref (g + 1), .int x2, .int 0, .int 0, .int 0] [] M) : aX6_readRank_0 mc ms X Q 0 0 [some (.ref 27), some (.ref (g + 1)), some (.int x2), none, none, none, none, none] [] M := h
theorem vX6_readRank_8 {mc ms : Nat} {X : Nat → zV} {Q : zQt} {M : zM} {g : Nat} {x2 : Int32} {x3 : Int32} {x4 : Int32} {x5 : Int32} (hW : zWd M g)  (h : ((8 : Int32) ≤ x5 → X 118 0 0 [.int x4] [] M) ∧ (¬ (8 : Int32) ≤ x5 → ((8 : Int32) ≤ x4 → X 118 0 0 [.int x4] [] M) ∧ (¬ (8 : Int32) ≤ x4 → wX6_sign 0 0 [.ref 27] M (fun r M1 => kX6_readRank_26 mc ms X Q 0 0 [some (.ref 27), some (.ref (g + 1)), some (.int x2), some (.int x3), some (.int x4), some (.int x5), none, none] (r.toList ++ []) M1)))) : aX6_readRank_8 mc ms X Q 0 0 [some (.ref 27), some (.ref (g + 1)), some (.int x2), some (.int x3), some (.int x4), some (.int x5), none, none] [] M := ⟨fun c12 => (h.1 c12), fun c12 => ⟨fun c19 => ((h.2 c12).1 c19), fun c19 => ⟨Nat.le_of_ble_eq_true rfl, rfl, (fxs_27 hW.1), 0, 0, Nat.zero_le _, Nat.zero_le _, ((h.2 c12).2 c19)⟩⟩⟩
theorem vX6_readRank_89 {mc ms : Nat} {X : Nat → zV} {Q : zQt} {M : zM} {g : Nat}  (hW : zWd M g)  (h : Q (some (.int 0)) M) : aX6_readRank_89 mc ms X Q 0 0 [none, none, none, none, none, none, none, none] [] M := ⟨rfl, h⟩
theorem vX6_readRank_91 {mc ms : Nat} {X : Nat → zV} {Q : zQt} {M : zM} {g : Nat} {x2 : Int32} {x4 : Int32} {x5 : Int32} {x7 : Int32} (hW : zWd M g)  (h : (0 < x7 → X 101 0 0 [.ref 27, .ref (g + 1), .int x2, .int x4, .int x5] [.int 0] M) ∧ (¬ 0 < x7 → X 101 0 0 [.ref 27, .ref (g + 1), .int x2, .int x4, .int x5] [.int 1] M)) : aX6_readRank_91 mc ms X Q 0 0 [some (.ref 27), some (.ref (g + 1)), some (.int x2), none, some (.int x4), some (.int x5), none, some (.int x7)] [] M := ⟨fun c93 => (h.1 c93), fun c93 => (h.2 c93)⟩
theorem vX6_readRank_101 {mc ms : Nat} {X : Nat → zV} {Q : zQt} {M : zM} {g : Nat} {x2 : Int32} {x4 : Int32} {x5 : Int32} {s0 : Int32} (hW : zWd M g)  (h : ∀ M109 : zM, M109 = (zsI M 27 3 (((M.1 27 3) + (1 : Int32)))) → X 8 0 0 [.ref 27, .ref (g + 1), .int x2, .int s0, .int x4, .int (x5 + 1)] [] M109) : aX6_readRank_101 mc ms X Q 0 0 [some (.ref 27), some (.ref (g + 1)), some (.int x2), none, some (.int x4), some (.int x5), none, none] [.int s0] M := ⟨(fxs_27 hW.1), ⟨(fxs_27 hW.1), (have h109 := h _ rfl; h109)⟩⟩
theorem vX6_readRank_118 {mc ms : Nat} {X : Nat → zV} {Q : zQt} {M : zM} {g : Nat} {x4 : Int32} (hW : zWd M g)  (h : (x4 = (8 : Int32) → X 130 0 0 [] [.int 1] M) ∧ (¬ x4 = (8 : Int32) → X 130 0 0 [] [.int 0] M)) : aX6_readRank_118 mc ms X Q 0 0 [none, none, none, none, some (.int x4), none, none, none] [] M := ⟨fun c122 => (h.1 c122), fun c122 => (h.2 c122)⟩
theorem vX6_readRank_130 {mc ms : Nat} {X : Nat → zV} {Q : zQt} {M : zM} {g : Nat} {s0 : Int32} (hW : zWd M g)  (h : narrow .boolean (.int s0) = .int s0 ∧ Q (some (.int s0)) M) : aX6_readRank_130 mc ms X Q 0 0 [none, none, none, none, none, none, none, none] [.int s0] M := h
theorem vkX6_readRank_26 {mc ms : Nat} {X : Nat → zV} {Q : zQt} {M : zM} {g : Nat} {x2 : Int32} {x3 : Int32} {x4 : Int32} {x5 : Int32} {s0 : Int32} (hW : zWd M g)  (h : wJ0_indexOf_0f7a4 0 0 [.ref 5, .int s0] M (fun r M1 => kX6_readRank_35 mc ms X Q 0 0 [some (.ref 27), some (.ref (g + 1)), some (.int x2), some (.int x3), some (.int x4), some (.int x5), some (.int s0), none] (r.toList ++ []) M1)) : kX6_readRank_26 mc ms X Q 0 0 [some (.ref 27), some (.ref (g + 1)), some (.int x2), some (.int x3), some (.int x4), some (.int x5), none, none] [.int s0] M := ⟨Nat.le_of_ble_eq_true rfl, rfl, Or.inl rfl, 0, 0, Nat.zero_le _, Nat.zero_le _, h⟩
theorem vkX6_readRank_35 {mc ms : Nat} {X : Nat → zV} {Q : zQt} {M : zM} {g : Nat} {x2 : Int32} {x3 : Int32} {x4 : Int32} {x5 : Int32} {x6 : Int32} {s0 : Int32} (hW : zWd M g)  (h : (s0 ≤ 0 → (x6 < (49 : Int32) → X 89 0 0 [] [] M) ∧ (¬ x6 < (49 : Int32) → ((56 : Int32) < x6 → X 89 0 0 [] [] M) ∧ (¬ (56 : Int32) < x6 → (x3 = 0 → X 91 0 0 [.ref 27, .ref (g + 1), .int x2, .int (x4 + (x6 - (48 : Int32))), .int x5, .int s0] [] M) ∧ (¬ x3 = 0 → X 89 0 0 [] [] M)))) ∧ (¬ s0 ≤ 0 → wX0_put 0 0 [.ref (g + 1), .int (x2 + x4), .int s0] M (fun r M1 => kX6_readRank_52 mc ms X Q 0 0 [some (.ref 27), some (.ref (g + 1)), some (.int x2), some (.int x3), some (.int x4), some (.int x5), some (.int x6), some (.int s0)] (r.toList ++ []) M1))) : kX6_readRank_35 mc ms X Q 0 0 [some (.ref 27), some (.ref (g + 1)), some (.int x2), some (.int x3), some (.int x4), some (.int x5), some (.int x6), none] [.int s0] M := ⟨fun c39 => ⟨fun c62 => ((h.1 c39).1 c62), fun c62 => ⟨fun c69 => (((h.1 c39).2 c62).1 c69), fun c69 => ⟨fun c73 => ((((h.1 c39).2 c62).2 c69).1 c73), fun c73 => ((((h.1 c39).2 c62).2 c69).2 c73)⟩⟩⟩, fun c39 => ⟨Nat.le_of_ble_eq_true rfl, rfl, (fgs_1 hW), 0, 0, Nat.zero_le _, Nat.zero_le _, (h.2 c39)⟩⟩
theorem vkX6_readRank_52 {mc ms : Nat} {X : Nat → zV} {Q : zQt} {M : zM} {g : Nat} {x2 : Int32} {x3 : Int32} {x4 : Int32} {x5 : Int32} {x6 : Int32} {x7 : Int32} (hW : zWd M g)  (h : X 91 0 0 [.ref 27, .ref (g + 1), .int x2, .int (x4 + 1), .int x5, .int x7] [] M) : kX6_readRank_52 mc ms X Q 0 0 [some (.ref 27), some (.ref (g + 1)), some (.int x2), some (.int x3), some (.int x4), some (.int x5), some (.int x6), some (.int x7)] [] M := h
theorem dX6_readRights_0 : decode cX6_readRights 0 = .ok (.aload_n 0, 1) := by decide +kernel
theorem dX6_readRights_1 : decode cX6_readRights 1 = .ok (.invokevirtual 69, 3) := by decide +kernel
theorem dX6_readRights_4 : decode cX6_readRights 4 = .ok (.bipush 45, 2) := by decide +kernel
theorem dX6_readRights_6 : decode cX6_readRights 6 = .ok (.if_icmp .ne 15, 3) := by decide +kernel
theorem dX6_readRights_9 : decode cX6_readRights 9 = .ok (.aload_n 0, 1) := by decide +kernel
theorem dX6_readRights_10 : decode cX6_readRights 10 = .ok (.dup, 1) := by decide +kernel
theorem dX6_readRights_11 : decode cX6_readRights 11 = .ok (.getfield 26, 3) := by decide +kernel
theorem dX6_readRights_14 : decode cX6_readRights 14 = .ok (.iconst 1, 1) := by decide +kernel
theorem dX6_readRights_15 : decode cX6_readRights 15 = .ok (.iadd, 1) := by decide +kernel
theorem dX6_readRights_16 : decode cX6_readRights 16 = .ok (.putfield 26, 3) := by decide +kernel
theorem dX6_readRights_19 : decode cX6_readRights 19 = .ok (.iconst 1, 1) := by decide +kernel
theorem dX6_readRights_20 : decode cX6_readRights 20 = .ok (.ireturn, 1) := by decide +kernel
theorem dX6_readRights_21 : decode cX6_readRights 21 = .ok (.iconst 0, 1) := by decide +kernel
theorem dX6_readRights_22 : decode cX6_readRights 22 = .ok (.istore_n 2, 1) := by decide +kernel
theorem dX6_readRights_23 : decode cX6_readRights 23 = .ok (.iload_n 2, 1) := by decide +kernel
theorem dX6_readRights_24 : decode cX6_readRights 24 = .ok (.iconst 4, 1) := by decide +kernel
theorem dX6_readRights_25 : decode cX6_readRights 25 = .ok (.if_icmp .ge 44, 3) := by decide +kernel
theorem dX6_readRights_28 : decode cX6_readRights 28 = .ok (.aload_n 0, 1) := by decide +kernel
theorem dX6_readRights_29 : decode cX6_readRights 29 = .ok (.invokevirtual 69, 3) := by decide +kernel
theorem dX6_readRights_32 : decode cX6_readRights 32 = .ok (.ldc 91, 2) := by decide +kernel
theorem dX6_readRights_34 : decode cX6_readRights 34 = .ok (.iload_n 2, 1) := by decide +kernel
theorem dX6_readRights_35 : decode cX6_readRights 35 = .ok (.invokevirtual 93, 3) := by decide +kernel
theorem dX6_readRights_38 : decode cX6_readRights 38 = .ok (.if_icmp .ne 25, 3) := by decide +kernel
theorem dX6_readRights_41 : decode cX6_readRights 41 = .ok (.aload_n 1, 1) := by decide +kernel
theorem dX6_readRights_42 : decode cX6_readRights 42 = .ok (.dup, 1) := by decide +kernel
theorem dX6_readRights_43 : decode cX6_readRights 43 = .ok (.getfield 97, 3) := by decide +kernel
theorem dX6_readRights_46 : decode cX6_readRights 46 = .ok (.iconst 1, 1) := by decide +kernel
theorem dX6_readRights_47 : decode cX6_readRights 47 = .ok (.iload_n 2, 1) := by decide +kernel
theorem dX6_readRights_48 : decode cX6_readRights 48 = .ok (.ishl, 1) := by decide +kernel
theorem dX6_readRights_49 : decode cX6_readRights 49 = .ok (.ior, 1) := by decide +kernel
theorem dX6_readRights_50 : decode cX6_readRights 50 = .ok (.putfield 97, 3) := by decide +kernel
theorem dX6_readRights_53 : decode cX6_readRights 53 = .ok (.aload_n 0, 1) := by decide +kernel
theorem dX6_readRights_54 : decode cX6_readRights 54 = .ok (.dup, 1) := by decide +kernel
theorem dX6_readRights_55 : decode cX6_readRights 55 = .ok (.getfield 26, 3) := by decide +kernel
theorem dX6_readRights_58 : decode cX6_readRights 58 = .ok (.iconst 1, 1) := by decide +kernel
theorem dX6_readRights_59 : decode cX6_readRights 59 = .ok (.iadd, 1) := by decide +kernel
theorem dX6_readRights_60 : decode cX6_readRights 60 = .ok (.putfield 26, 3) := by decide +kernel
theorem dX6_readRights_63 : decode cX6_readRights 63 = .ok (.iinc 2 1, 3) := by decide +kernel
theorem dX6_readRights_66 : decode cX6_readRights 66 = .ok (.goto (-43), 3) := by decide +kernel
theorem dX6_readRights_69 : decode cX6_readRights 69 = .ok (.aload_n 1, 1) := by decide +kernel
theorem dX6_readRights_70 : decode cX6_readRights 70 = .ok (.getfield 97, 3) := by decide +kernel
theorem dX6_readRights_73 : decode cX6_readRights 73 = .ok (.ifCond .eq 7, 3) := by decide +kernel
theorem dX6_readRights_76 : decode cX6_readRights 76 = .ok (.iconst 1, 1) := by decide +kernel
theorem dX6_readRights_77 : decode cX6_readRights 77 = .ok (.goto 4, 3) := by decide +kernel
theorem dX6_readRights_80 : decode cX6_readRights 80 = .ok (.iconst 0, 1) := by decide +kernel
theorem dX6_readRights_81 : decode cX6_readRights 81 = .ok (.ireturn, 1) := by decide +kernel
def kX6_readRights_4 (mc ms : Nat) (X : Nat → zV) (Q : zQt) : zT :=
  zc (.int 45) <| zic (fun x y => x = y) (zla 0 <| zdup <| zgi 6 3 <| zc (.int 1) <| zii (fun x y => x + y) <| zpi 6 3 <| zc (.int 1) <| zrz .boolean Q) <| zc (.int 0) <| zsi 2 <| zj X 23 [0, 1, 2]
def kX6_readRights_38 (mc ms : Nat) (X : Nat → zV) (Q : zQt) : zT :=
  zic (fun x y => x = y) (zla 1 <| zdup <| zgi 0 5 <| zc (.int 1) <| zli 2 <| zii (fun x y => x <<< (y &&& 31)) <| zii (fun x y => x ||| y) <| zpi 0 5 <| zla 0 <| zdup <| zgi 6 3 <| zc (.int 1) <| zii (fun x y => x + y) <| zpi 6 3 <| zj X 63 [0, 1, 2]) <| zj X 63 [0, 1, 2]
def kX6_readRights_32 (mc ms : Nat) (X : Nat → zV) (Q : zQt) : zT :=
  zgs 6 <| zli 2 <| zcx mc ms 1 wJ0_charAt_5068e <| kX6_readRights_38 mc ms X Q
def aX6_readRights_0 (mc ms : Nat) (X : Nat → zV) (Q : zQt) : zT :=
  zla 0 <| zcv mc ms 6 0 wX6_sign <| kX6_readRights_4 mc ms X Q
def aX6_readRights_23 (mc ms : Nat) (X : Nat → zV) (Q : zQt) : zT :=
  zli 2 <| zc (.int 4) <| zic (fun x y => y ≤ x) (zla 1 <| zgi 0 5 <| zif (fun x => x = 0) (zc (.int 0) <| zj X 81 []) <| zc (.int 1) <| zj X 81 []) <| zla 0 <| zcv mc ms 6 0 wX6_sign <| kX6_readRights_32 mc ms X Q
def aX6_readRights_63 (mc ms : Nat) (X : Nat → zV) (Q : zQt) : zT :=
  zinc 2 1 <| zj X 23 [0, 1, 2]
def aX6_readRights_81 (mc ms : Nat) (X : Nat → zV) (Q : zQt) : zT :=
  zrz .boolean Q
def lvX6_readRights : Nat → List Nat := fun L => match L with
  | 0 => [0, 1]
  | 23 => [0, 1, 2]
  | 63 => [0, 1, 2]
  | 81 => []
  | _ => []
def wX6_readRights : zSp := fun mc ms av M Q => ((zlay av).length ≤ 3 ∧ zpick (zlay av) [0, 1] = some av) ∧ ∀ X : Nat → zV, zin 3 [0, 1] (aX6_readRights_0 mc ms X Q) X 0 → zin 3 [0, 1, 2] (aX6_readRights_23 mc ms X Q) X 23 → zin 3 [0, 1, 2] (aX6_readRights_63 mc ms X Q) X 63 → zin 3 [] (aX6_readRights_81 mc ms X Q) X 81 → X 0 0 0 av [] M
set_option maxRecDepth 100000 in
set_option maxHeartbeats 4000000 in
theorem sX6_readRights (l : Launch) (G : zG) (hE : zXt G) : zSnd l G yX6_readRights cX6_readRights 3 (some .boolean) 4 85 wX6_readRights := by
  refine zmk [0, 1] (by decide) (fun mc ms av M Q h => h.1) ?_
  intro p e R s m args below meth c mc ms av M Q hC hRf hRl hr hnm h lv hlv
  obtain ⟨X, hXe⟩ : ∃ X : Nat → zV, X = fun L u v vs st M => ∀ lv, zpick lv (lvX6_readRights L) = some vs → zAt p l e R s m args below meth c (MQ below (zQ G Q) args s mc ms (zA G)) G 3 L u v lv st M := ⟨_, rfl⟩
  have hJ : ∀ L, zOk p l e R s m args below meth c (MQ below (zQ G Q) args s mc ms (zA G)) G 3 L (zj X L (lvX6_readRights L)) := fun L => S_jump (fun u v lv vs st M hp hx => by rw [hXe] at hx; exact hx lv hp)
  have hB0 : zin 3 [0, 1] (aX6_readRights_0 mc ms X Q) X 0 := by
    intro u v vs st M hb
    rw [hXe]
    refine fun lv hp => S_block (L := 0) (live := [0, 1]) ?_ u v lv vs st M hp hb
    unfold aX6_readRights_0
    refine S_aload_n (pc := 0) hC dX6_readRights_0 rfl ?_
    refine S_callV (pc := 1) hC (sX6_sign l G) rfl wd_689 wd_691 ws_16 wd_4 wd_692 (by decide +kernel) ⟨by rw [hRf]; decide, by rw [hRl]; decide⟩ dX6_readRights_1 ?_
    unfold kX6_readRights_4
    refine S_bipush (pc := 4) hC dX6_readRights_4 (by decide) ?_
    refine S_icmp_ne (pc := 6) (tgt := 21) hC dX6_readRights_6 (by decide) ?_ ?_
    · refine S_iconst (pc := 21) hC dX6_readRights_21 (by decide) ?_
      refine S_istore_n (pc := 22) hC dX6_readRights_22 rfl (by decide) ?_
      exact hJ 23
    · refine S_aload_n (pc := 9) hC dX6_readRights_9 rfl ?_
      refine S_dup (pc := 10) hC dX6_readRights_10 ?_
      refine S_geti (pc := 11) hC cfX6 (by decide) (Or.inl rfl) wd_141 dX6_readRights_11 ?_
      refine S_iconst (pc := 14) hC dX6_readRights_14 (by decide) ?_
      refine S_iadd (pc := 15) hC dX6_readRights_15 ?_
      refine S_puti (pc := 16) hC cfX6 (by decide) rfl (Or.inl rfl) wd_141 dX6_readRights_16 ?_
      refine S_iconst (pc := 19) hC dX6_readRights_19 (by decide) ?_
      exact S_zreturn (pc := 20) hC hr dX6_readRights_20
  have hB23 : zin 3 [0, 1, 2] (aX6_readRights_23 mc ms X Q) X 23 := by
    intro u v vs st M hb
    rw [hXe]
    refine fun lv hp => S_block (L := 23) (live := [0, 1, 2]) ?_ u v lv vs st M hp hb
    unfold aX6_readRights_23
    refine S_iload_n (pc := 23) hC dX6_readRights_23 rfl ?_
    refine S_iconst (pc := 24) hC dX6_readRights_24 (by decide) ?_
    refine S_icmp_ge (pc := 25) (tgt := 69) hC dX6_readRights_25 (by decide) ?_ ?_
    · refine S_aload_n (pc := 69) hC dX6_readRights_69 rfl ?_
      refine S_geti (pc := 70) hC cfX0 (by decide) (Or.inl rfl) wd_242 dX6_readRights_70 ?_
      refine S_if_eq (pc := 73) (tgt := 80) hC dX6_readRights_73 (by decide) ?_ ?_
      · refine S_iconst (pc := 80) hC dX6_readRights_80 (by decide) ?_
        exact hJ 81
      · refine S_iconst (pc := 76) hC dX6_readRights_76 (by decide) ?_
        refine S_goto (pc := 77) (tgt := 81) hC dX6_readRights_77 (by decide) ?_
        exact hJ 81
    · refine S_aload_n (pc := 28) hC dX6_readRights_28 rfl ?_
      refine S_callV (pc := 29) hC (sX6_sign l G) rfl wd_689 wd_691 ws_16 wd_4 wd_692 (by decide +kernel) ⟨by rw [hRf]; decide, by rw [hRl]; decide⟩ dX6_readRights_29 ?_
      unfold kX6_readRights_32
      refine S_ldcS (pc := 32) hC hE.2.1 (w := 1) (tx := "KQkq") (by decide) (by decide) dX6_readRights_32 ?_
      refine S_iload_n (pc := 34) hC dX6_readRights_34 rfl ?_
      refine S_callX (pc := 35) hC hE.2.1 (sJ0_charAt_5068e l G hE) wd_772 wd_517 wd_518 wd_19 wd_519 (by decide +kernel) ⟨by rw [hRf]; decide, by rw [hRl]; decide⟩ dX6_readRights_35 ?_
      unfold kX6_readRights_38
      refine S_icmp_ne (pc := 38) (tgt := 63) hC dX6_readRights_38 (by decide) ?_ ?_
      · exact hJ 63
      · refine S_aload_n (pc := 41) hC dX6_readRights_41 rfl ?_
        refine S_dup (pc := 42) hC dX6_readRights_42 ?_
        refine S_geti (pc := 43) hC cfX0 (by decide) (Or.inl rfl) wd_242 dX6_readRights_43 ?_
        refine S_iconst (pc := 46) hC dX6_readRights_46 (by decide) ?_
        refine S_iload_n (pc := 47) hC dX6_readRights_47 rfl ?_
        refine S_ishl (pc := 48) hC dX6_readRights_48 ?_
        refine S_ior (pc := 49) hC dX6_readRights_49 ?_
        refine S_puti (pc := 50) hC cfX0 (by decide) rfl (Or.inl rfl) wd_242 dX6_readRights_50 ?_
        refine S_aload_n (pc := 53) hC dX6_readRights_53 rfl ?_
        refine S_dup (pc := 54) hC dX6_readRights_54 ?_
        refine S_geti (pc := 55) hC cfX6 (by decide) (Or.inl rfl) wd_141 dX6_readRights_55 ?_
        refine S_iconst (pc := 58) hC dX6_readRights_58 (by decide) ?_
        refine S_iadd (pc := 59) hC dX6_readRights_59 ?_
        refine S_puti (pc := 60) hC cfX6 (by decide) rfl (Or.inl rfl) wd_141 dX6_readRights_60 ?_
        exact hJ 63
  have hB63 : zin 3 [0, 1, 2] (aX6_readRights_63 mc ms X Q) X 63 := by
    intro u v vs st M hb
    rw [hXe]
    refine fun lv hp => S_block (L := 63) (live := [0, 1, 2]) ?_ u v lv vs st M hp hb
    unfold aX6_readRights_63
    refine S_iinc (pc := 63) hC dX6_readRights_63 (by decide) (by decide) ?_
    refine S_goto (pc := 66) (tgt := 23) hC dX6_readRights_66 (by decide) ?_
    exact hJ 23
  have hB81 : zin 3 [] (aX6_readRights_81 mc ms X Q) X 81 := by
    intro u v vs st M hb
    rw [hXe]
    refine fun lv hp => S_block (L := 81) (live := []) ?_ u v lv vs st M hp hb
    unfold aX6_readRights_81
    exact S_zreturn (pc := 81) hC hr dX6_readRights_81
  have := h.2 X hB0 hB23 hB63 hB81
  rw [hXe] at this
  exact this lv hlv
theorem vX6_readRights_0 {mc ms : Nat} {X : Nat → zV} {Q : zQt} {M : zM} {g : Nat}  (hW : zWd M g)  (h : wX6_sign 0 0 [.ref 27] M (fun r M1 => kX6_readRights_4 mc ms X Q 0 0 [some (.ref 27), some (.ref (g + 1)), none] (r.toList ++ []) M1)) : aX6_readRights_0 mc ms X Q 0 0 [some (.ref 27), some (.ref (g + 1)), none] [] M := ⟨Nat.le_of_ble_eq_true rfl, rfl, (fxs_27 hW.1), 0, 0, Nat.zero_le _, Nat.zero_le _, h⟩
theorem vX6_readRights_23 {mc ms : Nat} {X : Nat → zV} {Q : zQt} {M : zM} {g : Nat} {x2 : Int32} (hW : zWd M g)  (h : ((4 : Int32) ≤ x2 → ((M.1 ((g + 1)) 5) = 0 → X 81 0 0 [] [.int 0] M) ∧ (¬ (M.1 ((g + 1)) 5) = 0 → X 81 0 0 [] [.int 1] M)) ∧ (¬ (4 : Int32) ≤ x2 → wX6_sign 0 0 [.ref 27] M (fun r M1 => kX6_readRights_32 mc ms X Q 0 0 [some (.ref 27), some (.ref (g + 1)), some (.int x2)] (r.toList ++ []) M1))) : aX6_readRights_23 mc ms X Q 0 0 [some (.ref 27), some (.ref (g + 1)), some (.int x2)] [] M := ⟨fun c25 => ⟨(fgs_1 hW), ⟨fun c73 => ((h.1 c25).1 c73), fun c73 => ((h.1 c25).2 c73)⟩⟩, fun c25 => ⟨Nat.le_of_ble_eq_true rfl, rfl, (fxs_27 hW.1), 0, 0, Nat.zero_le _, Nat.zero_le _, (h.2 c25)⟩⟩
theorem vX6_readRights_63 {mc ms : Nat} {X : Nat → zV} {Q : zQt} {M : zM} {g : Nat} {x2 : Int32} (hW : zWd M g)  (h : X 23 0 0 [.ref 27, .ref (g + 1), .int (x2 + 1)] [] M) : aX6_readRights_63 mc ms X Q 0 0 [some (.ref 27), some (.ref (g + 1)), some (.int x2)] [] M := h
theorem vX6_readRights_81 {mc ms : Nat} {X : Nat → zV} {Q : zQt} {M : zM} {g : Nat} {s0 : Int32} (hW : zWd M g)  (h : narrow .boolean (.int s0) = .int s0 ∧ Q (some (.int s0)) M) : aX6_readRights_81 mc ms X Q 0 0 [none, none, none] [.int s0] M := h
theorem vkX6_readRights_4 {mc ms : Nat} {X : Nat → zV} {Q : zQt} {M : zM} {g : Nat} {s0 : Int32} (hW : zWd M g)  (h : (s0 = (45 : Int32) → ∀ M16 : zM, M16 = (zsI M 27 3 (((M.1 27 3) + (1 : Int32)))) → Q (some (.int 1)) M16) ∧ (¬ s0 = (45 : Int32) → X 23 0 0 [.ref 27, .ref (g + 1), .int 0] [] M)) : kX6_readRights_4 mc ms X Q 0 0 [some (.ref 27), some (.ref (g + 1)), none] [.int s0] M := ⟨fun c6 => ⟨(fxs_27 hW.1), ⟨(fxs_27 hW.1), (have h16 := (h.1 c6) _ rfl; ⟨rfl, h16⟩)⟩⟩, fun c6 => (h.2 c6)⟩
theorem vkX6_readRights_32 {mc ms : Nat} {X : Nat → zV} {Q : zQt} {M : zM} {g : Nat} {x2 : Int32} {s0 : Int32} (hW : zWd M g)  (h : wJ0_charAt_5068e 0 0 [.ref 6, .int x2] M (fun r M1 => kX6_readRights_38 mc ms X Q 0 0 [some (.ref 27), some (.ref (g + 1)), some (.int x2)] (r.toList ++ [.int s0]) M1)) : kX6_readRights_32 mc ms X Q 0 0 [some (.ref 27), some (.ref (g + 1)), some (.int x2)] [.int s0] M := ⟨Nat.le_of_ble_eq_true rfl, rfl, Or.inr rfl, 0, 0, Nat.zero_le _, Nat.zero_le _, h⟩
theorem vkX6_readRights_38 {mc ms : Nat} {X : Nat → zV} {Q : zQt} {M : zM} {g : Nat} {x2 : Int32} {s0 : Int32} {s1 : Int32} (hW : zWd M g)  (h : (s1 = s0 → ∀ M50 : zM, M50 = (zsI M ((g + 1)) 5 (((M.1 ((g + 1)) 5) ||| ((1 : Int32) <<< (x2 &&& 31))))) → ∀ M60 : zM, M60 = (zsI M50 27 3 (((M50.1 27 3) + (1 : Int32)))) → X 63 0 0 [.ref 27, .ref (g + 1), .int x2] [] M60) ∧ (¬ s1 = s0 → X 63 0 0 [.ref 27, .ref (g + 1), .int x2] [] M)) : kX6_readRights_38 mc ms X Q 0 0 [some (.ref 27), some (.ref (g + 1)), some (.int x2)] [.int s0, .int s1] M := ⟨fun c38 => ⟨(fgs_1 hW), ⟨(fgs_1 hW), (have h50 := (h.1 c38) _ rfl; ⟨(fxs_27 hW.1), ⟨(fxs_27 hW.1), (have h60 := h50 _ rfl; h60)⟩⟩)⟩⟩, fun c38 => (h.2 c38)⟩
theorem dX7_writeRank_0 : decode cX7_writeRank 0 = .ok (.iconst 0, 1) := by decide +kernel
theorem dX7_writeRank_1 : decode cX7_writeRank 1 = .ok (.istore_n 3, 1) := by decide +kernel
theorem dX7_writeRank_2 : decode cX7_writeRank 2 = .ok (.iload_n 2, 1) := by decide +kernel
theorem dX7_writeRank_3 : decode cX7_writeRank 3 = .ok (.istore 4, 2) := by decide +kernel
theorem dX7_writeRank_5 : decode cX7_writeRank 5 = .ok (.iload 4, 2) := by decide +kernel
theorem dX7_writeRank_7 : decode cX7_writeRank 7 = .ok (.iload_n 2, 1) := by decide +kernel
theorem dX7_writeRank_8 : decode cX7_writeRank 8 = .ok (.bipush 8, 2) := by decide +kernel
theorem dX7_writeRank_10 : decode cX7_writeRank 10 = .ok (.iadd, 1) := by decide +kernel
theorem dX7_writeRank_11 : decode cX7_writeRank 11 = .ok (.if_icmp .ge 47, 3) := by decide +kernel
theorem dX7_writeRank_14 : decode cX7_writeRank 14 = .ok (.aload_n 1, 1) := by decide +kernel
theorem dX7_writeRank_15 : decode cX7_writeRank 15 = .ok (.getfield 60, 3) := by decide +kernel
theorem dX7_writeRank_18 : decode cX7_writeRank 18 = .ok (.iload 4, 2) := by decide +kernel
theorem dX7_writeRank_20 : decode cX7_writeRank 20 = .ok (.iaload, 1) := by decide +kernel
theorem dX7_writeRank_21 : decode cX7_writeRank 21 = .ok (.istore 5, 2) := by decide +kernel
theorem dX7_writeRank_23 : decode cX7_writeRank 23 = .ok (.iload 5, 2) := by decide +kernel
theorem dX7_writeRank_25 : decode cX7_writeRank 25 = .ok (.ifCond .ne 9, 3) := by decide +kernel
theorem dX7_writeRank_28 : decode cX7_writeRank 28 = .ok (.iinc 3 1, 3) := by decide +kernel
theorem dX7_writeRank_31 : decode cX7_writeRank 31 = .ok (.goto 21, 3) := by decide +kernel
theorem dX7_writeRank_34 : decode cX7_writeRank 34 = .ok (.aload_n 0, 1) := by decide +kernel
theorem dX7_writeRank_35 : decode cX7_writeRank 35 = .ok (.iload_n 3, 1) := by decide +kernel
theorem dX7_writeRank_36 : decode cX7_writeRank 36 = .ok (.invokevirtual 64, 3) := by decide +kernel
theorem dX7_writeRank_39 : decode cX7_writeRank 39 = .ok (.iconst 0, 1) := by decide +kernel
theorem dX7_writeRank_40 : decode cX7_writeRank 40 = .ok (.istore_n 3, 1) := by decide +kernel
theorem dX7_writeRank_41 : decode cX7_writeRank 41 = .ok (.aload_n 0, 1) := by decide +kernel
theorem dX7_writeRank_42 : decode cX7_writeRank 42 = .ok (.ldc 67, 2) := by decide +kernel
theorem dX7_writeRank_44 : decode cX7_writeRank 44 = .ok (.iload 5, 2) := by decide +kernel
theorem dX7_writeRank_46 : decode cX7_writeRank 46 = .ok (.invokevirtual 41, 3) := by decide +kernel
theorem dX7_writeRank_49 : decode cX7_writeRank 49 = .ok (.invokevirtual 27, 3) := by decide +kernel
theorem dX7_writeRank_52 : decode cX7_writeRank 52 = .ok (.iinc 4 1, 3) := by decide +kernel
theorem dX7_writeRank_55 : decode cX7_writeRank 55 = .ok (.goto (-50), 3) := by decide +kernel
theorem dX7_writeRank_58 : decode cX7_writeRank 58 = .ok (.aload_n 0, 1) := by decide +kernel
theorem dX7_writeRank_59 : decode cX7_writeRank 59 = .ok (.iload_n 3, 1) := by decide +kernel
theorem dX7_writeRank_60 : decode cX7_writeRank 60 = .ok (.invokevirtual 64, 3) := by decide +kernel
theorem dX7_writeRank_63 : decode cX7_writeRank 63 = .ok (.return_, 1) := by decide +kernel
def kX7_writeRank_63 (mc ms : Nat) (X : Nat → zV) (Q : zQt) : zT :=
  zrv Q
def kX7_writeRank_52 (mc ms : Nat) (X : Nat → zV) (Q : zQt) : zT :=
  zj X 52 [0, 1, 2, 3, 4]
def kX7_writeRank_49 (mc ms : Nat) (X : Nat → zV) (Q : zQt) : zT :=
  zcv mc ms 7 1 wX7_put <| kX7_writeRank_52 mc ms X Q
def kX7_writeRank_39 (mc ms : Nat) (X : Nat → zV) (Q : zQt) : zT :=
  zc (.int 0) <| zsi 3 <| zla 0 <| zgs 5 <| zli 5 <| zcx mc ms 1 wJ0_charAt_5068e <| kX7_writeRank_49 mc ms X Q
def kX7_writeRank_23 (mc ms : Nat) (X : Nat → zV) (Q : zQt) : zT :=
  zli 5 <| zif (fun x => x = 0) (zinc 3 1 <| zj X 52 [0, 1, 2, 3, 4]) <| zla 0 <| zli 3 <| zcv mc ms 7 1 wX7_putEmpty <| kX7_writeRank_39 mc ms X Q
def aX7_writeRank_0 (mc ms : Nat) (X : Nat → zV) (Q : zQt) : zT :=
  zc (.int 0) <| zsi 3 <| zli 2 <| zsi 4 <| zj X 5 [0, 1, 2, 3, 4]
def aX7_writeRank_5 (mc ms : Nat) (X : Nat → zV) (Q : zQt) : zT :=
  zli 4 <| zli 2 <| zc (.int 8) <| zii (fun x y => x + y) <| zic (fun x y => y ≤ x) (zla 0 <| zli 3 <| zcv mc ms 7 1 wX7_putEmpty <| kX7_writeRank_63 mc ms X Q) <| zla 1 <| zgR 0 1 <| zli 4 <| zal 1 <| zsiN 5 <| kX7_writeRank_23 mc ms X Q
def aX7_writeRank_52 (mc ms : Nat) (X : Nat → zV) (Q : zQt) : zT :=
  zinc 4 1 <| zj X 5 [0, 1, 2, 3, 4]
def lvX7_writeRank : Nat → List Nat := fun L => match L with
  | 0 => [0, 1, 2]
  | 5 => [0, 1, 2, 3, 4]
  | 52 => [0, 1, 2, 3, 4]
  | _ => []
def wX7_writeRank : zSp := fun mc ms av M Q => ((zlay av).length ≤ 6 ∧ zpick (zlay av) [0, 1, 2] = some av) ∧ ∀ X : Nat → zV, zin 6 [0, 1, 2] (aX7_writeRank_0 mc ms X Q) X 0 → zin 6 [0, 1, 2, 3, 4] (aX7_writeRank_5 mc ms X Q) X 5 → zin 6 [0, 1, 2, 3, 4] (aX7_writeRank_52 mc ms X Q) X 52 → X 0 0 0 av [] M
set_option maxRecDepth 100000 in
set_option maxHeartbeats 4000000 in
theorem sX7_writeRank (l : Launch) (G : zG) (hE : zXt G) : zSnd l G yX7_writeRank cX7_writeRank 6 none 4 85 wX7_writeRank := by
  refine zmk [0, 1, 2] (by decide) (fun mc ms av M Q h => h.1) ?_
  intro p e R s m args below meth c mc ms av M Q hC hRf hRl hr hnm h lv hlv
  obtain ⟨X, hXe⟩ : ∃ X : Nat → zV, X = fun L u v vs st M => ∀ lv, zpick lv (lvX7_writeRank L) = some vs → zAt p l e R s m args below meth c (MQ below (zQ G Q) args s mc ms (zA G)) G 6 L u v lv st M := ⟨_, rfl⟩
  have hJ : ∀ L, zOk p l e R s m args below meth c (MQ below (zQ G Q) args s mc ms (zA G)) G 6 L (zj X L (lvX7_writeRank L)) := fun L => S_jump (fun u v lv vs st M hp hx => by rw [hXe] at hx; exact hx lv hp)
  have hB0 : zin 6 [0, 1, 2] (aX7_writeRank_0 mc ms X Q) X 0 := by
    intro u v vs st M hb
    rw [hXe]
    refine fun lv hp => S_block (L := 0) (live := [0, 1, 2]) ?_ u v lv vs st M hp hb
    unfold aX7_writeRank_0
    refine S_iconst (pc := 0) hC dX7_writeRank_0 (by decide) ?_
    refine S_istore_n (pc := 1) hC dX7_writeRank_1 rfl (by decide) ?_
    refine S_iload_n (pc := 2) hC dX7_writeRank_2 rfl ?_
    refine S_istore (pc := 3) hC dX7_writeRank_3 (by decide) ?_
    exact hJ 5
  have hB5 : zin 6 [0, 1, 2, 3, 4] (aX7_writeRank_5 mc ms X Q) X 5 := by
    intro u v vs st M hb
    rw [hXe]
    refine fun lv hp => S_block (L := 5) (live := [0, 1, 2, 3, 4]) ?_ u v lv vs st M hp hb
    unfold aX7_writeRank_5
    refine S_iload (pc := 5) hC dX7_writeRank_5 ?_
    refine S_iload_n (pc := 7) hC dX7_writeRank_7 rfl ?_
    refine S_bipush (pc := 8) hC dX7_writeRank_8 (by decide) ?_
    refine S_iadd (pc := 10) hC dX7_writeRank_10 ?_
    refine S_icmp_ge (pc := 11) (tgt := 58) hC dX7_writeRank_11 (by decide) ?_ ?_
    · refine S_aload_n (pc := 58) hC dX7_writeRank_58 rfl ?_
      refine S_iload_n (pc := 59) hC dX7_writeRank_59 rfl ?_
      refine S_callV (pc := 60) hC (sX7_putEmpty l G) rfl wd_507 wd_509 ws_9 wd_6 wd_510 (by decide +kernel) ⟨by rw [hRf]; decide, by rw [hRl]; decide⟩ dX7_writeRank_60 ?_
      unfold kX7_writeRank_63
      exact S_vreturn (pc := 63) hC hr dX7_writeRank_63
    · refine S_aload_n (pc := 14) hC dX7_writeRank_14 rfl ?_
      refine S_getR (pc := 15) hC cfX0 (by decide) (Or.inr ⟨_, rfl⟩) wd_217 dX7_writeRank_15 ?_
      refine S_iload (pc := 18) hC dX7_writeRank_18 ?_
      refine S_iaload (pc := 20) hC dX7_writeRank_20 ?_
      refine S_istore_N (pc := 21) hC dX7_writeRank_21 (by decide) ?_
      unfold kX7_writeRank_23
      refine S_iload (pc := 23) hC dX7_writeRank_23 ?_
      refine S_if_ne (pc := 25) (tgt := 34) hC dX7_writeRank_25 (by decide) ?_ ?_
      · refine S_aload_n (pc := 34) hC dX7_writeRank_34 rfl ?_
        refine S_iload_n (pc := 35) hC dX7_writeRank_35 rfl ?_
        refine S_callV (pc := 36) hC (sX7_putEmpty l G) rfl wd_507 wd_509 ws_9 wd_6 wd_510 (by decide +kernel) ⟨by rw [hRf]; decide, by rw [hRl]; decide⟩ dX7_writeRank_36 ?_
        unfold kX7_writeRank_39
        refine S_iconst (pc := 39) hC dX7_writeRank_39 (by decide) ?_
        refine S_istore_n (pc := 40) hC dX7_writeRank_40 rfl (by decide) ?_
        refine S_aload_n (pc := 41) hC dX7_writeRank_41 rfl ?_
        refine S_ldcS (pc := 42) hC hE.2.1 (w := 0) (tx := " PNBRQKpnbrqk") (by decide) (by decide) dX7_writeRank_42 ?_
        refine S_iload (pc := 44) hC dX7_writeRank_44 ?_
        refine S_callX (pc := 46) hC hE.2.1 (sJ0_charAt_5068e l G hE) wd_516 wd_517 wd_518 wd_19 wd_519 (by decide +kernel) ⟨by rw [hRf]; decide, by rw [hRl]; decide⟩ dX7_writeRank_46 ?_
        unfold kX7_writeRank_49
        refine S_callV (pc := 49) hC (sX7_put l G) rfl wd_511 wd_513 ws_10 wd_6 wd_514 (by decide +kernel) ⟨by rw [hRf]; decide, by rw [hRl]; decide⟩ dX7_writeRank_49 ?_
        unfold kX7_writeRank_52
        exact hJ 52
      · refine S_iinc (pc := 28) hC dX7_writeRank_28 (by decide) (by decide) ?_
        refine S_goto (pc := 31) (tgt := 52) hC dX7_writeRank_31 (by decide) ?_
        exact hJ 52
  have hB52 : zin 6 [0, 1, 2, 3, 4] (aX7_writeRank_52 mc ms X Q) X 52 := by
    intro u v vs st M hb
    rw [hXe]
    refine fun lv hp => S_block (L := 52) (live := [0, 1, 2, 3, 4]) ?_ u v lv vs st M hp hb
    unfold aX7_writeRank_52
    refine S_iinc (pc := 52) hC dX7_writeRank_52 (by decide) (by decide) ?_
    refine S_goto (pc := 55) (tgt := 5) hC dX7_writeRank_55 (by decide) ?_
    exact hJ 5
  have := h.2 X hB0 hB5 hB52
  rw [hXe] at this
  exact this lv hlv
theorem vX7_writeRank_0 {mc ms : Nat} {X : Nat → zV} {Q : zQt} {M : zM} {g : Nat} {x2 : Int32} (hW : zWd M g)  (h : X 5 0 0 [.ref 29, .ref (g + 1), .int x2, .int 0, .int x2] [] M) : aX7_writeRank_0 mc ms X Q 0 0 [some (.ref 29), some (.ref (g + 1)), some (.int x2), none, none, none] [] M := h
theorem vcX7_writeRank_23 {mc ms : Nat} {X : Nat → zV} {Q : zQt} {M : zM} {g : Nat} {x2 : Int32} {x3 : Int32} {x4 : Int32} {x5 : Int32} (hW : zWd M g)  (h : (x5 = 0 → X 52 0 0 [.ref 29, .ref (g + 1), .int x2, .int (x3 + 1), .int x4] [] M) ∧ (¬ x5 = 0 → wX7_putEmpty 0 0 [.ref 29, .int x3] M (fun r M1 => kX7_writeRank_39 mc ms X Q 0 0 [some (.ref 29), some (.ref (g + 1)), some (.int x2), some (.int x3), some (.int x4), some (.int x5)] (r.toList ++ []) M1))) : kX7_writeRank_23 mc ms X Q 0 0 [some (.ref 29), some (.ref (g + 1)), some (.int x2), some (.int x3), some (.int x4), some (.int x5)] [] M := ⟨fun c25 => (h.1 c25), fun c25 => ⟨Nat.le_of_ble_eq_true rfl, rfl, (fxs_29 hW.1), 0, 0, Nat.zero_le _, Nat.zero_le _, (h.2 c25)⟩⟩
theorem vX7_writeRank_5 {mc ms : Nat} {X : Nat → zV} {Q : zQt} {M : zM} {g : Nat} {x2 : Int32} {x3 : Int32} {x4 : Int32} (hW : zWd M g)  (h : ((x2 + (8 : Int32)) ≤ x4 → wX7_putEmpty 0 0 [.ref 29, .int x3] M (fun r M1 => kX7_writeRank_63 mc ms X Q 0 0 [some (.ref 29), some (.ref (g + 1)), some (.int x2), some (.int x3), some (.int x4), none] (r.toList ++ []) M1)) ∧ (¬ (x2 + (8 : Int32)) ≤ x4 → vp_in x4 64 ∧ ∀ y21 : Int32, y21 = ((M : zM).1 ((g + 2)) (x4 : Int32).toNatClampNeg) → (y21 = 0 → X 52 0 0 [.ref 29, .ref (g + 1), .int x2, .int (x3 + 1), .int x4] [] M) ∧ (¬ y21 = 0 → wX7_putEmpty 0 0 [.ref 29, .int x3] M (fun r M1 => kX7_writeRank_39 mc ms X Q 0 0 [some (.ref 29), some (.ref (g + 1)), some (.int x2), some (.int x3), some (.int x4), some (.int y21)] (r.toList ++ []) M1)))) : aX7_writeRank_5 mc ms X Q 0 0 [some (.ref 29), some (.ref (g + 1)), some (.int x2), some (.int x3), some (.int x4), none] [] M := ⟨fun c11 => ⟨Nat.le_of_ble_eq_true rfl, rfl, (fxs_29 hW.1), 0, 0, Nat.zero_le _, Nat.zero_le _, (h.1 c11)⟩, fun c11 => ⟨(fgs_1 hW), (g + 2), (fgr_1_1 hW), ⟨64, (fgs_2 hW), (h.2 c11).1, (fun y21 e21 => have h21 := (h.2 c11).2 y21 e21; (vcX7_writeRank_23 hW  h21))⟩⟩⟩
theorem vX7_writeRank_52 {mc ms : Nat} {X : Nat → zV} {Q : zQt} {M : zM} {g : Nat} {x2 : Int32} {x3 : Int32} {x4 : Int32} (hW : zWd M g)  (h : X 5 0 0 [.ref 29, .ref (g + 1), .int x2, .int x3, .int (x4 + 1)] [] M) : aX7_writeRank_52 mc ms X Q 0 0 [some (.ref 29), some (.ref (g + 1)), some (.int x2), some (.int x3), some (.int x4), none] [] M := h
theorem vkX7_writeRank_39 {mc ms : Nat} {X : Nat → zV} {Q : zQt} {M : zM} {g : Nat} {x2 : Int32} {x3 : Int32} {x4 : Int32} {x5 : Int32} (hW : zWd M g)  (h : wJ0_charAt_5068e 0 0 [.ref 5, .int x5] M (fun r M1 => kX7_writeRank_49 mc ms X Q 0 0 [some (.ref 29), some (.ref (g + 1)), some (.int x2), some (.int 0), some (.int x4), some (.int x5)] (r.toList ++ [.ref 29]) M1)) : kX7_writeRank_39 mc ms X Q 0 0 [some (.ref 29), some (.ref (g + 1)), some (.int x2), some (.int x3), some (.int x4), some (.int x5)] [] M := ⟨Nat.le_of_ble_eq_true rfl, rfl, Or.inl rfl, 0, 0, Nat.zero_le _, Nat.zero_le _, h⟩
theorem vkX7_writeRank_49 {mc ms : Nat} {X : Nat → zV} {Q : zQt} {M : zM} {g : Nat} {x2 : Int32} {x3 : Int32} {x4 : Int32} {x5 : Int32} {s0 : Int32} (hW : zWd M g)  (h : wX7_put 0 0 [.ref 29, .int s0] M (fun r M1 => kX7_writeRank_52 mc ms X Q 0 0 [some (.ref 29), some (.ref (g + 1)), some (.int x2), some (.int x3), some (.int x4), some (.int x5)] (r.toList ++ []) M1)) : kX7_writeRank_49 mc ms X Q 0 0 [some (.ref 29), some (.ref (g + 1)), some (.int x2), some (.int x3), some (.int x4), some (.int x5)] [.int s0, .ref 29] M := ⟨Nat.le_of_ble_eq_true rfl, rfl, (fxs_29 hW.1), 0, 0, Nat.zero_le _, Nat.zero_le _, h⟩
theorem vkX7_writeRank_52 {mc ms : Nat} {X : Nat → zV} {Q : zQt} {M : zM} {g : Nat} {x2 : Int32} {x3 : Int32} {x4 : Int32} {x5 : Int32} (hW : zWd M g)  (h : X 52 0 0 [.ref 29, .ref (g + 1), .int x2, .int x3, .int x4] [] M) : kX7_writeRank_52 mc ms X Q 0 0 [some (.ref 29), some (.ref (g + 1)), some (.int x2), some (.int x3), some (.int x4), some (.int x5)] [] M := h
theorem vkX7_writeRank_63 {mc ms : Nat} {X : Nat → zV} {Q : zQt} {M : zM} {g : Nat} {x2 : Int32} {x3 : Int32} {x4 : Int32} (hW : zWd M g)  (h : Q none M) : kX7_writeRank_63 mc ms X Q 0 0 [some (.ref 29), some (.ref (g + 1)), some (.int x2), some (.int x3), some (.int x4), none] [] M := h
theorem dX8_linesBelow_0 : decode cX8_linesBelow 0 = .ok (.iload_n 2, 1) := by decide +kernel
theorem dX8_linesBelow_1 : decode cX8_linesBelow 1 = .ok (.ifCond .le 8, 3) := by decide +kernel
theorem dX8_linesBelow_4 : decode cX8_linesBelow 4 = .ok (.iload_n 3, 1) := by decide +kernel
theorem dX8_linesBelow_5 : decode cX8_linesBelow 5 = .ok (.iconst 4, 1) := by decide +kernel
theorem dX8_linesBelow_6 : decode cX8_linesBelow 6 = .ok (.if_icmp .lt 5, 3) := by decide +kernel
theorem dX8_linesBelow_9 : decode cX8_linesBelow 9 = .ok (.lconst 1, 1) := by decide +kernel
theorem dX8_linesBelow_10 : decode cX8_linesBelow 10 = .ok (.lreturn, 1) := by decide +kernel
theorem dX8_linesBelow_11 : decode cX8_linesBelow 11 = .ok (.iload_n 3, 1) := by decide +kernel
theorem dX8_linesBelow_12 : decode cX8_linesBelow 12 = .ok (.sipush 384, 3) := by decide +kernel
theorem dX8_linesBelow_15 : decode cX8_linesBelow 15 = .ok (.imul, 1) := by decide +kernel
theorem dX8_linesBelow_16 : decode cX8_linesBelow 16 = .ok (.istore 4, 2) := by decide +kernel
theorem dX8_linesBelow_18 : decode cX8_linesBelow 18 = .ok (.aload_n 0, 1) := by decide +kernel
theorem dX8_linesBelow_19 : decode cX8_linesBelow 19 = .ok (.getfield 19, 3) := by decide +kernel
theorem dX8_linesBelow_22 : decode cX8_linesBelow 22 = .ok (.aload_n 1, 1) := by decide +kernel
theorem dX8_linesBelow_23 : decode cX8_linesBelow 23 = .ok (.iload 4, 2) := by decide +kernel
theorem dX8_linesBelow_25 : decode cX8_linesBelow 25 = .ok (.sipush 384, 3) := by decide +kernel
theorem dX8_linesBelow_28 : decode cX8_linesBelow 28 = .ok (.invokevirtual 25, 3) := by decide +kernel
theorem dX8_linesBelow_31 : decode cX8_linesBelow 31 = .ok (.istore 5, 2) := by decide +kernel
theorem dX8_linesBelow_33 : decode cX8_linesBelow 33 = .ok (.iload_n 2, 1) := by decide +kernel
theorem dX8_linesBelow_34 : decode cX8_linesBelow 34 = .ok (.iconst 1, 1) := by decide +kernel
theorem dX8_linesBelow_35 : decode cX8_linesBelow 35 = .ok (.if_icmp .ne 7, 3) := by decide +kernel
theorem dX8_linesBelow_38 : decode cX8_linesBelow 38 = .ok (.iload 5, 2) := by decide +kernel
theorem dX8_linesBelow_40 : decode cX8_linesBelow 40 = .ok (.i2l, 1) := by decide +kernel
theorem dX8_linesBelow_41 : decode cX8_linesBelow 41 = .ok (.lreturn, 1) := by decide +kernel
theorem dX8_linesBelow_42 : decode cX8_linesBelow 42 = .ok (.lconst 0, 1) := by decide +kernel
theorem dX8_linesBelow_43 : decode cX8_linesBelow 43 = .ok (.lstore 6, 2) := by decide +kernel
theorem dX8_linesBelow_45 : decode cX8_linesBelow 45 = .ok (.iload 4, 2) := by decide +kernel
theorem dX8_linesBelow_47 : decode cX8_linesBelow 47 = .ok (.istore 8, 2) := by decide +kernel
theorem dX8_linesBelow_49 : decode cX8_linesBelow 49 = .ok (.iload 8, 2) := by decide +kernel
theorem dX8_linesBelow_51 : decode cX8_linesBelow 51 = .ok (.iload 4, 2) := by decide +kernel
theorem dX8_linesBelow_53 : decode cX8_linesBelow 53 = .ok (.iload 5, 2) := by decide +kernel
theorem dX8_linesBelow_55 : decode cX8_linesBelow 55 = .ok (.iadd, 1) := by decide +kernel
theorem dX8_linesBelow_56 : decode cX8_linesBelow 56 = .ok (.if_icmp .ge 47, 3) := by decide +kernel
theorem dX8_linesBelow_59 : decode cX8_linesBelow 59 = .ok (.aload_n 0, 1) := by decide +kernel
theorem dX8_linesBelow_60 : decode cX8_linesBelow 60 = .ok (.getfield 31, 3) := by decide +kernel
theorem dX8_linesBelow_63 : decode cX8_linesBelow 63 = .ok (.aload_n 1, 1) := by decide +kernel
theorem dX8_linesBelow_64 : decode cX8_linesBelow 64 = .ok (.iload 8, 2) := by decide +kernel
theorem dX8_linesBelow_66 : decode cX8_linesBelow 66 = .ok (.iaload, 1) := by decide +kernel
theorem dX8_linesBelow_67 : decode cX8_linesBelow 67 = .ok (.invokevirtual 35, 3) := by decide +kernel
theorem dX8_linesBelow_70 : decode cX8_linesBelow 70 = .ok (.lload 6, 2) := by decide +kernel
theorem dX8_linesBelow_72 : decode cX8_linesBelow 72 = .ok (.aload_n 0, 1) := by decide +kernel
theorem dX8_linesBelow_73 : decode cX8_linesBelow 73 = .ok (.aload_n 1, 1) := by decide +kernel
theorem dX8_linesBelow_74 : decode cX8_linesBelow 74 = .ok (.iload_n 2, 1) := by decide +kernel
theorem dX8_linesBelow_75 : decode cX8_linesBelow 75 = .ok (.iconst 1, 1) := by decide +kernel
theorem dX8_linesBelow_76 : decode cX8_linesBelow 76 = .ok (.isub, 1) := by decide +kernel
theorem dX8_linesBelow_77 : decode cX8_linesBelow 77 = .ok (.iload_n 3, 1) := by decide +kernel
theorem dX8_linesBelow_78 : decode cX8_linesBelow 78 = .ok (.iconst 1, 1) := by decide +kernel
theorem dX8_linesBelow_79 : decode cX8_linesBelow 79 = .ok (.iadd, 1) := by decide +kernel
theorem dX8_linesBelow_80 : decode cX8_linesBelow 80 = .ok (.invokestatic 15, 3) := by decide +kernel
theorem dX8_linesBelow_83 : decode cX8_linesBelow 83 = .ok (.ladd, 1) := by decide +kernel
theorem dX8_linesBelow_84 : decode cX8_linesBelow 84 = .ok (.lstore 6, 2) := by decide +kernel
theorem dX8_linesBelow_86 : decode cX8_linesBelow 86 = .ok (.aload_n 0, 1) := by decide +kernel
theorem dX8_linesBelow_87 : decode cX8_linesBelow 87 = .ok (.getfield 31, 3) := by decide +kernel
theorem dX8_linesBelow_90 : decode cX8_linesBelow 90 = .ok (.aload_n 1, 1) := by decide +kernel
theorem dX8_linesBelow_91 : decode cX8_linesBelow 91 = .ok (.iload 8, 2) := by decide +kernel
theorem dX8_linesBelow_93 : decode cX8_linesBelow 93 = .ok (.iaload, 1) := by decide +kernel
theorem dX8_linesBelow_94 : decode cX8_linesBelow 94 = .ok (.invokevirtual 41, 3) := by decide +kernel
theorem dX8_linesBelow_97 : decode cX8_linesBelow 97 = .ok (.iinc 8 1, 3) := by decide +kernel
theorem dX8_linesBelow_100 : decode cX8_linesBelow 100 = .ok (.goto (-51), 3) := by decide +kernel
theorem dX8_linesBelow_103 : decode cX8_linesBelow 103 = .ok (.lload 6, 2) := by decide +kernel
theorem dX8_linesBelow_105 : decode cX8_linesBelow 105 = .ok (.lreturn, 1) := by decide +kernel
def kX8_linesBelow_31 (mc ms : Nat) (X : Nat → zV) (Q : zQt) (S : zSp) : zT :=
  zsi 5 <| zli 2 <| zc (.int 1) <| zic (fun x y => x = y) (zli 5 <| zi2l <| zrl Q) <| zc (.long 0) <| zsl 6 <| zli 4 <| zsi 8 <| zj X 49 [0, 1, 2, 3, 4, 5, 6, 8]
def kX8_linesBelow_97 (mc ms : Nat) (X : Nat → zV) (Q : zQt) (S : zSp) : zT :=
  zinc 8 1 <| zj X 49 [0, 1, 2, 3, 4, 5, 6, 8]
def kX8_linesBelow_83 (mc ms : Nat) (X : Nat → zV) (Q : zQt) (S : zSp) : zT :=
  zjj (fun x y => x + y) <| zsl 6 <| zla 0 <| zgR 4 0 <| zla 1 <| zli 8 <| zal 1 <| zcv mc ms 0 1 wX0_unmake <| kX8_linesBelow_97 mc ms X Q S
def kX8_linesBelow_70 (mc ms : Nat) (X : Nat → zV) (Q : zQt) (S : zSp) : zT :=
  zll 6 <| zla 0 <| zla 1 <| zli 2 <| zc (.int 1) <| zii (fun x y => x - y) <| zli 3 <| zc (.int 1) <| zii (fun x y => x + y) <| zcs mc ms 4 S <| kX8_linesBelow_83 mc ms X Q S
def aX8_linesBelow_0 (mc ms : Nat) (X : Nat → zV) (Q : zQt) (S : zSp) : zT :=
  zli 2 <| zif (fun x => x ≤ 0) (zj X 9 []) <| zli 3 <| zc (.int 4) <| zic (fun x y => x < y) (zli 3 <| zc (.int 384) <| zii (fun x y => x * y) <| zsi 4 <| zla 0 <| zgR 4 1 <| zla 1 <| zli 4 <| zc (.int 384) <| zcv mc ms 5 3 wX5_fill <| kX8_linesBelow_31 mc ms X Q S) <| zj X 9 []
def aX8_linesBelow_9 (mc ms : Nat) (X : Nat → zV) (Q : zQt) (S : zSp) : zT :=
  zc (.long 1) <| zrl Q
def aX8_linesBelow_49 (mc ms : Nat) (X : Nat → zV) (Q : zQt) (S : zSp) : zT :=
  zli 8 <| zli 4 <| zli 5 <| zii (fun x y => x + y) <| zic (fun x y => y ≤ x) (zll 6 <| zrl Q) <| zla 0 <| zgR 4 0 <| zla 1 <| zli 8 <| zal 1 <| zcv mc ms 0 1 wX0_make <| kX8_linesBelow_70 mc ms X Q S
def lvX8_linesBelow : Nat → List Nat := fun L => match L with
  | 0 => [0, 1, 2, 3]
  | 9 => []
  | 49 => [0, 1, 2, 3, 4, 5, 6, 8]
  | _ => []
def wX8_linesBelow : Nat → zSp
  | 0 => fun _ _ _ _ _ => False
  | d + 1 => fun mc ms av M Q => ((zlay av).length ≤ 9 ∧ zpick (zlay av) [0, 1, 2, 3] = some av) ∧ ∀ X : Nat → zV, zin 9 [0, 1, 2, 3] (aX8_linesBelow_0 mc ms X Q (wX8_linesBelow d)) X 0 → zin 9 [] (aX8_linesBelow_9 mc ms X Q (wX8_linesBelow d)) X 9 → zin 9 [0, 1, 2, 3, 4, 5, 6, 8] (aX8_linesBelow_49 mc ms X Q (wX8_linesBelow d)) X 49 → X 0 0 0 av [] M
set_option maxRecDepth 100000 in
set_option maxHeartbeats 4000000 in
theorem sX8_linesBelow (l : Launch) (G : zG) (hE : zXt G) : ∀ d : Nat, zSnd l G yX8_linesBelow cX8_linesBelow 9 (some .long) (5 + d) (131 + d * 28) (wX8_linesBelow d) := by
  intro d
  induction d with
  | zero => exact fun mc ms av M Q h => h.elim
  | succ d hS =>
  generalize hSe : wX8_linesBelow d = S at hS
  refine zmk [0, 1, 2, 3] (by decide) (fun mc ms av M Q h => h.1) ?_
  intro p e R s m args below meth c mc ms av M Q hC hRf hRl hr hnm h lv hlv
  unfold wX8_linesBelow at h
  rw [hSe] at h
  obtain ⟨X, hXe⟩ : ∃ X : Nat → zV, X = fun L u v vs st M => ∀ lv, zpick lv (lvX8_linesBelow L) = some vs → zAt p l e R s m args below meth c (MQ below (zQ G Q) args s mc ms (zA G)) G 9 L u v lv st M := ⟨_, rfl⟩
  have hJ : ∀ L, zOk p l e R s m args below meth c (MQ below (zQ G Q) args s mc ms (zA G)) G 9 L (zj X L (lvX8_linesBelow L)) := fun L => S_jump (fun u v lv vs st M hp hx => by rw [hXe] at hx; exact hx lv hp)
  have hB0 : zin 9 [0, 1, 2, 3] (aX8_linesBelow_0 mc ms X Q S) X 0 := by
    intro u v vs st M hb
    rw [hXe]
    refine fun lv hp => S_block (L := 0) (live := [0, 1, 2, 3]) ?_ u v lv vs st M hp hb
    unfold aX8_linesBelow_0
    refine S_iload_n (pc := 0) hC dX8_linesBelow_0 rfl ?_
    refine S_if_le (pc := 1) (tgt := 9) hC dX8_linesBelow_1 (by decide) ?_ ?_
    · exact hJ 9
    · refine S_iload_n (pc := 4) hC dX8_linesBelow_4 rfl ?_
      refine S_iconst (pc := 5) hC dX8_linesBelow_5 (by decide) ?_
      refine S_icmp_lt (pc := 6) (tgt := 11) hC dX8_linesBelow_6 (by decide) ?_ ?_
      · refine S_iload_n (pc := 11) hC dX8_linesBelow_11 rfl ?_
        refine S_sipush (pc := 12) hC dX8_linesBelow_12 (by decide) ?_
        refine S_imul (pc := 15) hC dX8_linesBelow_15 ?_
        refine S_istore (pc := 16) hC dX8_linesBelow_16 (by decide) ?_
        refine S_aload_n (pc := 18) hC dX8_linesBelow_18 rfl ?_
        refine S_getR (pc := 19) hC cfX4 (by decide) (Or.inl ⟨_, rfl⟩) wd_313 dX8_linesBelow_19 ?_
        refine S_aload_n (pc := 22) hC dX8_linesBelow_22 rfl ?_
        refine S_iload (pc := 23) hC dX8_linesBelow_23 ?_
        refine S_sipush (pc := 25) hC dX8_linesBelow_25 (by decide) ?_
        refine S_callV (pc := 28) hC (sX5_fill l G) rfl wd_1019 wd_423 wd_424 wd_11 wd_425 (by decide +kernel) ⟨by rw [hRf]; omega, by rw [hRl]; omega⟩ dX8_linesBelow_28 ?_
        unfold kX8_linesBelow_31
        refine S_istore (pc := 31) hC dX8_linesBelow_31 (by decide) ?_
        refine S_iload_n (pc := 33) hC dX8_linesBelow_33 rfl ?_
        refine S_iconst (pc := 34) hC dX8_linesBelow_34 (by decide) ?_
        refine S_icmp_ne (pc := 35) (tgt := 42) hC dX8_linesBelow_35 (by decide) ?_ ?_
        · refine S_lconst (pc := 42) hC dX8_linesBelow_42 (by decide) ?_
          refine S_lstore (pc := 43) hC dX8_linesBelow_43 (by decide) ?_
          refine S_iload (pc := 45) hC dX8_linesBelow_45 ?_
          refine S_istore (pc := 47) hC dX8_linesBelow_47 (by decide) ?_
          exact hJ 49
        · refine S_iload (pc := 38) hC dX8_linesBelow_38 ?_
          refine S_i2l (pc := 40) hC dX8_linesBelow_40 ?_
          exact S_lreturn (pc := 41) hC hr dX8_linesBelow_41
      · exact hJ 9
  have hB9 : zin 9 [] (aX8_linesBelow_9 mc ms X Q S) X 9 := by
    intro u v vs st M hb
    rw [hXe]
    refine fun lv hp => S_block (L := 9) (live := []) ?_ u v lv vs st M hp hb
    unfold aX8_linesBelow_9
    refine S_lconst (pc := 9) hC dX8_linesBelow_9 (by decide) ?_
    exact S_lreturn (pc := 10) hC hr dX8_linesBelow_10
  have hB49 : zin 9 [0, 1, 2, 3, 4, 5, 6, 8] (aX8_linesBelow_49 mc ms X Q S) X 49 := by
    intro u v vs st M hb
    rw [hXe]
    refine fun lv hp => S_block (L := 49) (live := [0, 1, 2, 3, 4, 5, 6, 8]) ?_ u v lv vs st M hp hb
    unfold aX8_linesBelow_49
    refine S_iload (pc := 49) hC dX8_linesBelow_49 ?_
    refine S_iload (pc := 51) hC dX8_linesBelow_51 ?_
    refine S_iload (pc := 53) hC dX8_linesBelow_53 ?_
    refine S_iadd (pc := 55) hC dX8_linesBelow_55 ?_
    refine S_icmp_ge (pc := 56) (tgt := 103) hC dX8_linesBelow_56 (by decide) ?_ ?_
    · refine S_lload (pc := 103) hC dX8_linesBelow_103 ?_
      exact S_lreturn (pc := 105) hC hr dX8_linesBelow_105
    · refine S_aload_n (pc := 59) hC dX8_linesBelow_59 rfl ?_
      refine S_getR (pc := 60) hC cfX4 (by decide) (Or.inl ⟨_, rfl⟩) wd_309 dX8_linesBelow_60 ?_
      refine S_aload_n (pc := 63) hC dX8_linesBelow_63 rfl ?_
      refine S_iload (pc := 64) hC dX8_linesBelow_64 ?_
      refine S_iaload (pc := 66) hC dX8_linesBelow_66 ?_
      refine S_callV (pc := 67) hC (sX0_make l G hE.1) rfl wd_1020 wd_812 wd_813 wd_10 wd_814 (by decide +kernel) ⟨by rw [hRf]; omega, by rw [hRl]; omega⟩ dX8_linesBelow_67 ?_
      unfold kX8_linesBelow_70
      refine S_lload (pc := 70) hC dX8_linesBelow_70 ?_
      refine S_aload_n (pc := 72) hC dX8_linesBelow_72 rfl ?_
      refine S_aload_n (pc := 73) hC dX8_linesBelow_73 rfl ?_
      refine S_iload_n (pc := 74) hC dX8_linesBelow_74 rfl ?_
      refine S_iconst (pc := 75) hC dX8_linesBelow_75 (by decide) ?_
      refine S_isub (pc := 76) hC dX8_linesBelow_76 ?_
      refine S_iload_n (pc := 77) hC dX8_linesBelow_77 rfl ?_
      refine S_iconst (pc := 78) hC dX8_linesBelow_78 (by decide) ?_
      refine S_iadd (pc := 79) hC dX8_linesBelow_79 ?_
      refine S_callS (pc := 80) hC hS wd_1016 wd_1017 wd_7 wd_1018 (by decide +kernel) ⟨by rw [hRf]; omega, by rw [hRl]; omega⟩ dX8_linesBelow_80 ?_
      unfold kX8_linesBelow_83
      refine S_ladd (pc := 83) hC dX8_linesBelow_83 ?_
      refine S_lstore (pc := 84) hC dX8_linesBelow_84 (by decide) ?_
      refine S_aload_n (pc := 86) hC dX8_linesBelow_86 rfl ?_
      refine S_getR (pc := 87) hC cfX4 (by decide) (Or.inl ⟨_, rfl⟩) wd_309 dX8_linesBelow_87 ?_
      refine S_aload_n (pc := 90) hC dX8_linesBelow_90 rfl ?_
      refine S_iload (pc := 91) hC dX8_linesBelow_91 ?_
      refine S_iaload (pc := 93) hC dX8_linesBelow_93 ?_
      refine S_callV (pc := 94) hC (sX0_unmake l G hE.1) rfl wd_1021 wd_403 wd_404 wd_10 wd_405 (by decide +kernel) ⟨by rw [hRf]; omega, by rw [hRl]; omega⟩ dX8_linesBelow_94 ?_
      unfold kX8_linesBelow_97
      refine S_iinc (pc := 97) hC dX8_linesBelow_97 (by decide) (by decide) ?_
      refine S_goto (pc := 100) (tgt := 49) hC dX8_linesBelow_100 (by decide) ?_
      exact hJ 49
  have := h.2 X hB0 hB9 hB49
  rw [hXe] at this
  exact this lv hlv
theorem vX8_linesBelow_0 {mc ms : Nat} {X : Nat → zV} {Q : zQt} {S : zSp} {M : zM} {g : Nat} {x1 : Nat} {x1n : Nat} {x2 : Int32} {x3 : Int32} (hW : zWd M g) (hx1 : zsh M x1 = some (1, x1n)) (h : (x2 ≤ 0 → X 9 0 0 [] [] M) ∧ (¬ x2 ≤ 0 → (x3 < (4 : Int32) → wX5_fill 0 0 [.ref (g + 6), .ref x1, .int (x3 * (384 : Int32)), .int 384] M (fun r M1 => kX8_linesBelow_31 mc ms X Q S 0 0 [some (.ref g), some (.ref x1), some (.int x2), some (.int x3), some (.int (x3 * (384 : Int32))), none, none, none, none] (r.toList ++ []) M1)) ∧ (¬ x3 < (4 : Int32) → X 9 0 0 [] [] M))) : aX8_linesBelow_0 mc ms X Q S 0 0 [some (.ref g), some (.ref x1), some (.int x2), some (.int x3), none, none, none, none, none] [] M := ⟨fun c1 => (h.1 c1), fun c1 => ⟨fun c6 => ⟨(fgs_0 hW), (g + 6), (fgr_0_1 hW), ⟨Nat.le_of_ble_eq_true rfl, rfl, (fgs_6 hW), 0, 0, Nat.zero_le _, Nat.zero_le _, ((h.2 c1).1 c6)⟩⟩, fun c6 => ((h.2 c1).2 c6)⟩⟩
theorem vX8_linesBelow_9 {mc ms : Nat} {X : Nat → zV} {Q : zQt} {S : zSp} {M : zM} {g : Nat}  (hW : zWd M g)  (h : Q (some (.long 1)) M) : aX8_linesBelow_9 mc ms X Q S 0 0 [none, none, none, none, none, none, none, none, none] [] M := h
theorem vX8_linesBelow_49 {mc ms : Nat} {X : Nat → zV} {Q : zQt} {S : zSp} {M : zM} {g : Nat} {x1 : Nat} {x1n : Nat} {x2 : Int32} {x3 : Int32} {x4 : Int32} {x5 : Int32} {x6 : Int64} {x8 : Int32} (hW : zWd M g) (hx1 : zsh M x1 = some (1, x1n)) (h : ((x4 + x5) ≤ x8 → Q (some (.long x6)) M) ∧ (¬ (x4 + x5) ≤ x8 → vp_in x8 x1n ∧ wX0_make 0 0 [.ref (g + 1), .int ((M : zM).1 x1 (x8 : Int32).toNatClampNeg)] M (fun r M1 => kX8_linesBelow_70 mc ms X Q S 0 0 [some (.ref g), some (.ref x1), some (.int x2), some (.int x3), some (.int x4), some (.int x5), some (.long x6), none, some (.int x8)] (r.toList ++ []) M1))) : aX8_linesBelow_49 mc ms X Q S 0 0 [some (.ref g), some (.ref x1), some (.int x2), some (.int x3), some (.int x4), some (.int x5), some (.long x6), none, some (.int x8)] [] M := ⟨fun c56 => (h.1 c56), fun c56 => ⟨(fgs_0 hW), (g + 1), (fgr_0_0 hW), ⟨x1n, hx1, (h.2 c56).1, ⟨Nat.le_of_ble_eq_true rfl, rfl, (fgs_1 hW), 0, 0, Nat.zero_le _, Nat.zero_le _, (h.2 c56).2⟩⟩⟩⟩
theorem vkX8_linesBelow_31 {mc ms : Nat} {X : Nat → zV} {Q : zQt} {S : zSp} {M : zM} {g : Nat} {x1 : Nat} {x1n : Nat} {x2 : Int32} {x3 : Int32} {x4 : Int32} {s0 : Int32} (hW : zWd M g) (hx1 : zsh M x1 = some (1, x1n)) (h : (x2 = (1 : Int32) → Q (some (.long ((s0 : Int32).toInt64))) M) ∧ (¬ x2 = (1 : Int32) → X 49 0 0 [.ref g, .ref x1, .int x2, .int x3, .int x4, .int s0, .long 0, .int x4] [] M)) : kX8_linesBelow_31 mc ms X Q S 0 0 [some (.ref g), some (.ref x1), some (.int x2), some (.int x3), some (.int x4), none, none, none, none] [.int s0] M := ⟨fun c35 => (h.1 c35), fun c35 => (h.2 c35)⟩
theorem vkX8_linesBelow_70 {mc ms : Nat} {X : Nat → zV} {Q : zQt} {S : zSp} {M : zM} {g : Nat} {x1 : Nat} {x1n : Nat} {x2 : Int32} {x3 : Int32} {x4 : Int32} {x5 : Int32} {x6 : Int64} {x8 : Int32} (hW : zWd M g) (hx1 : zsh M x1 = some (1, x1n)) (h : S 0 0 [.ref g, .ref x1, .int (x2 - (1 : Int32)), .int (x3 + (1 : Int32))] M (fun r M1 => kX8_linesBelow_83 mc ms X Q S 0 0 [some (.ref g), some (.ref x1), some (.int x2), some (.int x3), some (.int x4), some (.int x5), some (.long x6), none, some (.int x8)] (r.toList ++ [.long x6]) M1)) : kX8_linesBelow_70 mc ms X Q S 0 0 [some (.ref g), some (.ref x1), some (.int x2), some (.int x3), some (.int x4), some (.int x5), some (.long x6), none, some (.int x8)] [] M := ⟨Nat.le_of_ble_eq_true rfl, rfl, 0, 0, Nat.zero_le _, Nat.zero_le _, h⟩
theorem vkX8_linesBelow_83 {mc ms : Nat} {X : Nat → zV} {Q : zQt} {S : zSp} {M : zM} {g : Nat} {x1 : Nat} {x1n : Nat} {x2 : Int32} {x3 : Int32} {x4 : Int32} {x5 : Int32} {x6 : Int64} {x8 : Int32} {s0 : Int64} {s1 : Int64} (hW : zWd M g) (hx1 : zsh M x1 = some (1, x1n)) (h : vp_in x8 x1n ∧ wX0_unmake 0 0 [.ref (g + 1), .int ((M : zM).1 x1 (x8 : Int32).toNatClampNeg)] M (fun r M1 => kX8_linesBelow_97 mc ms X Q S 0 0 [some (.ref g), some (.ref x1), some (.int x2), some (.int x3), some (.int x4), some (.int x5), some (.long (s1 + s0)), none, some (.int x8)] (r.toList ++ []) M1)) : kX8_linesBelow_83 mc ms X Q S 0 0 [some (.ref g), some (.ref x1), some (.int x2), some (.int x3), some (.int x4), some (.int x5), some (.long x6), none, some (.int x8)] [.long s0, .long s1] M := ⟨(fgs_0 hW), (g + 1), (fgr_0_0 hW), ⟨x1n, hx1, h.1, ⟨Nat.le_of_ble_eq_true rfl, rfl, (fgs_1 hW), 0, 0, Nat.zero_le _, Nat.zero_le _, h.2⟩⟩⟩
theorem vkX8_linesBelow_97 {mc ms : Nat} {X : Nat → zV} {Q : zQt} {S : zSp} {M : zM} {g : Nat} {x1 : Nat} {x1n : Nat} {x2 : Int32} {x3 : Int32} {x4 : Int32} {x5 : Int32} {x6 : Int64} {x8 : Int32} (hW : zWd M g) (hx1 : zsh M x1 = some (1, x1n)) (h : X 49 0 0 [.ref g, .ref x1, .int x2, .int x3, .int x4, .int x5, .long x6, .int (x8 + 1)] [] M) : kX8_linesBelow_97 mc ms X Q S 0 0 [some (.ref g), some (.ref x1), some (.int x2), some (.int x3), some (.int x4), some (.int x5), some (.long x6), none, some (.int x8)] [] M := h
theorem dX8_valueBelow_0 : decode cX8_valueBelow 0 = .ok (.iload_n 2, 1) := by decide +kernel
theorem dX8_valueBelow_1 : decode cX8_valueBelow 1 = .ok (.ifCond .le 8, 3) := by decide +kernel
theorem dX8_valueBelow_4 : decode cX8_valueBelow 4 = .ok (.iload_n 3, 1) := by decide +kernel
theorem dX8_valueBelow_5 : decode cX8_valueBelow 5 = .ok (.iconst 4, 1) := by decide +kernel
theorem dX8_valueBelow_6 : decode cX8_valueBelow 6 = .ok (.if_icmp .lt 7, 3) := by decide +kernel
theorem dX8_valueBelow_9 : decode cX8_valueBelow 9 = .ok (.iconst 1, 1) := by decide +kernel
theorem dX8_valueBelow_10 : decode cX8_valueBelow 10 = .ok (.goto 4, 3) := by decide +kernel
theorem dX8_valueBelow_13 : decode cX8_valueBelow 13 = .ok (.iconst 0, 1) := by decide +kernel
theorem dX8_valueBelow_14 : decode cX8_valueBelow 14 = .ok (.istore 6, 2) := by decide +kernel
theorem dX8_valueBelow_16 : decode cX8_valueBelow 16 = .ok (.iload_n 3, 1) := by decide +kernel
theorem dX8_valueBelow_17 : decode cX8_valueBelow 17 = .ok (.sipush 384, 3) := by decide +kernel
theorem dX8_valueBelow_20 : decode cX8_valueBelow 20 = .ok (.imul, 1) := by decide +kernel
theorem dX8_valueBelow_21 : decode cX8_valueBelow 21 = .ok (.istore 7, 2) := by decide +kernel
theorem dX8_valueBelow_23 : decode cX8_valueBelow 23 = .ok (.aload_n 0, 1) := by decide +kernel
theorem dX8_valueBelow_24 : decode cX8_valueBelow 24 = .ok (.getfield 19, 3) := by decide +kernel
theorem dX8_valueBelow_27 : decode cX8_valueBelow 27 = .ok (.aload_n 1, 1) := by decide +kernel
theorem dX8_valueBelow_28 : decode cX8_valueBelow 28 = .ok (.iload 7, 2) := by decide +kernel
theorem dX8_valueBelow_30 : decode cX8_valueBelow 30 = .ok (.iload 6, 2) := by decide +kernel
theorem dX8_valueBelow_32 : decode cX8_valueBelow 32 = .ok (.ifCond .eq 7, 3) := by decide +kernel
theorem dX8_valueBelow_35 : decode cX8_valueBelow 35 = .ok (.iconst 1, 1) := by decide +kernel
theorem dX8_valueBelow_36 : decode cX8_valueBelow 36 = .ok (.goto 6, 3) := by decide +kernel
theorem dX8_valueBelow_39 : decode cX8_valueBelow 39 = .ok (.sipush 384, 3) := by decide +kernel
theorem dX8_valueBelow_42 : decode cX8_valueBelow 42 = .ok (.invokevirtual 25, 3) := by decide +kernel
theorem dX8_valueBelow_45 : decode cX8_valueBelow 45 = .ok (.istore 8, 2) := by decide +kernel
theorem dX8_valueBelow_47 : decode cX8_valueBelow 47 = .ok (.iload 8, 2) := by decide +kernel
theorem dX8_valueBelow_49 : decode cX8_valueBelow 49 = .ok (.ifCond .ne 23, 3) := by decide +kernel
theorem dX8_valueBelow_52 : decode cX8_valueBelow 52 = .ok (.aload_n 0, 1) := by decide +kernel
theorem dX8_valueBelow_53 : decode cX8_valueBelow 53 = .ok (.getfield 31, 3) := by decide +kernel
theorem dX8_valueBelow_56 : decode cX8_valueBelow 56 = .ok (.invokevirtual 61, 3) := by decide +kernel
theorem dX8_valueBelow_59 : decode cX8_valueBelow 59 = .ok (.ifCond .eq 11, 3) := by decide +kernel
theorem dX8_valueBelow_62 : decode cX8_valueBelow 62 = .ok (.iload_n 3, 1) := by decide +kernel
theorem dX8_valueBelow_63 : decode cX8_valueBelow 63 = .ok (.sipush 1000, 3) := by decide +kernel
theorem dX8_valueBelow_66 : decode cX8_valueBelow 66 = .ok (.isub, 1) := by decide +kernel
theorem dX8_valueBelow_67 : decode cX8_valueBelow 67 = .ok (.goto 4, 3) := by decide +kernel
theorem dX8_valueBelow_70 : decode cX8_valueBelow 70 = .ok (.iconst 0, 1) := by decide +kernel
theorem dX8_valueBelow_71 : decode cX8_valueBelow 71 = .ok (.ireturn, 1) := by decide +kernel
theorem dX8_valueBelow_72 : decode cX8_valueBelow 72 = .ok (.iload 6, 2) := by decide +kernel
theorem dX8_valueBelow_74 : decode cX8_valueBelow 74 = .ok (.ifCond .eq 32, 3) := by decide +kernel
theorem dX8_valueBelow_77 : decode cX8_valueBelow 77 = .ok (.aload_n 0, 1) := by decide +kernel
theorem dX8_valueBelow_78 : decode cX8_valueBelow 78 = .ok (.getfield 31, 3) := by decide +kernel
theorem dX8_valueBelow_81 : decode cX8_valueBelow 81 = .ok (.getfield 65, 3) := by decide +kernel
theorem dX8_valueBelow_84 : decode cX8_valueBelow 84 = .ok (.ifCond .ne 13, 3) := by decide +kernel
theorem dX8_valueBelow_87 : decode cX8_valueBelow 87 = .ok (.aload_n 0, 1) := by decide +kernel
theorem dX8_valueBelow_88 : decode cX8_valueBelow 88 = .ok (.getfield 31, 3) := by decide +kernel
theorem dX8_valueBelow_91 : decode cX8_valueBelow 91 = .ok (.getfield 68, 3) := by decide +kernel
theorem dX8_valueBelow_94 : decode cX8_valueBelow 94 = .ok (.goto 11, 3) := by decide +kernel
theorem dX8_valueBelow_97 : decode cX8_valueBelow 97 = .ok (.aload_n 0, 1) := by decide +kernel
theorem dX8_valueBelow_98 : decode cX8_valueBelow 98 = .ok (.getfield 31, 3) := by decide +kernel
theorem dX8_valueBelow_101 : decode cX8_valueBelow 101 = .ok (.getfield 68, 3) := by decide +kernel
theorem dX8_valueBelow_104 : decode cX8_valueBelow 104 = .ok (.ineg, 1) := by decide +kernel
theorem dX8_valueBelow_105 : decode cX8_valueBelow 105 = .ok (.ireturn, 1) := by decide +kernel
theorem dX8_valueBelow_106 : decode cX8_valueBelow 106 = .ok (.iload 4, 2) := by decide +kernel
theorem dX8_valueBelow_108 : decode cX8_valueBelow 108 = .ok (.istore 9, 2) := by decide +kernel
theorem dX8_valueBelow_110 : decode cX8_valueBelow 110 = .ok (.iload 7, 2) := by decide +kernel
theorem dX8_valueBelow_112 : decode cX8_valueBelow 112 = .ok (.istore 10, 2) := by decide +kernel
theorem dX8_valueBelow_114 : decode cX8_valueBelow 114 = .ok (.iload 10, 2) := by decide +kernel
theorem dX8_valueBelow_116 : decode cX8_valueBelow 116 = .ok (.iload 7, 2) := by decide +kernel
theorem dX8_valueBelow_118 : decode cX8_valueBelow 118 = .ok (.iload 8, 2) := by decide +kernel
theorem dX8_valueBelow_120 : decode cX8_valueBelow 120 = .ok (.iadd, 1) := by decide +kernel
theorem dX8_valueBelow_121 : decode cX8_valueBelow 121 = .ok (.if_icmp .ge 67, 3) := by decide +kernel
theorem dX8_valueBelow_124 : decode cX8_valueBelow 124 = .ok (.iload 9, 2) := by decide +kernel
theorem dX8_valueBelow_126 : decode cX8_valueBelow 126 = .ok (.iload 5, 2) := by decide +kernel
theorem dX8_valueBelow_128 : decode cX8_valueBelow 128 = .ok (.if_icmp .ge 60, 3) := by decide +kernel
theorem dX8_valueBelow_131 : decode cX8_valueBelow 131 = .ok (.aload_n 0, 1) := by decide +kernel
theorem dX8_valueBelow_132 : decode cX8_valueBelow 132 = .ok (.getfield 31, 3) := by decide +kernel
theorem dX8_valueBelow_135 : decode cX8_valueBelow 135 = .ok (.aload_n 1, 1) := by decide +kernel
theorem dX8_valueBelow_136 : decode cX8_valueBelow 136 = .ok (.iload 10, 2) := by decide +kernel
theorem dX8_valueBelow_138 : decode cX8_valueBelow 138 = .ok (.iaload, 1) := by decide +kernel
theorem dX8_valueBelow_139 : decode cX8_valueBelow 139 = .ok (.invokevirtual 35, 3) := by decide +kernel
theorem dX8_valueBelow_142 : decode cX8_valueBelow 142 = .ok (.aload_n 0, 1) := by decide +kernel
theorem dX8_valueBelow_143 : decode cX8_valueBelow 143 = .ok (.aload_n 1, 1) := by decide +kernel
theorem dX8_valueBelow_144 : decode cX8_valueBelow 144 = .ok (.iload_n 2, 1) := by decide +kernel
theorem dX8_valueBelow_145 : decode cX8_valueBelow 145 = .ok (.iconst 1, 1) := by decide +kernel
theorem dX8_valueBelow_146 : decode cX8_valueBelow 146 = .ok (.isub, 1) := by decide +kernel
theorem dX8_valueBelow_147 : decode cX8_valueBelow 147 = .ok (.iload_n 3, 1) := by decide +kernel
theorem dX8_valueBelow_148 : decode cX8_valueBelow 148 = .ok (.iconst 1, 1) := by decide +kernel
theorem dX8_valueBelow_149 : decode cX8_valueBelow 149 = .ok (.iadd, 1) := by decide +kernel
theorem dX8_valueBelow_150 : decode cX8_valueBelow 150 = .ok (.iload 5, 2) := by decide +kernel
theorem dX8_valueBelow_152 : decode cX8_valueBelow 152 = .ok (.ineg, 1) := by decide +kernel
theorem dX8_valueBelow_153 : decode cX8_valueBelow 153 = .ok (.iload 9, 2) := by decide +kernel
theorem dX8_valueBelow_155 : decode cX8_valueBelow 155 = .ok (.ineg, 1) := by decide +kernel
theorem dX8_valueBelow_156 : decode cX8_valueBelow 156 = .ok (.invokestatic 51, 3) := by decide +kernel
theorem dX8_valueBelow_159 : decode cX8_valueBelow 159 = .ok (.ineg, 1) := by decide +kernel
theorem dX8_valueBelow_160 : decode cX8_valueBelow 160 = .ok (.istore 11, 2) := by decide +kernel
theorem dX8_valueBelow_162 : decode cX8_valueBelow 162 = .ok (.aload_n 0, 1) := by decide +kernel
theorem dX8_valueBelow_163 : decode cX8_valueBelow 163 = .ok (.getfield 31, 3) := by decide +kernel
theorem dX8_valueBelow_166 : decode cX8_valueBelow 166 = .ok (.aload_n 1, 1) := by decide +kernel
theorem dX8_valueBelow_167 : decode cX8_valueBelow 167 = .ok (.iload 10, 2) := by decide +kernel
theorem dX8_valueBelow_169 : decode cX8_valueBelow 169 = .ok (.iaload, 1) := by decide +kernel
theorem dX8_valueBelow_170 : decode cX8_valueBelow 170 = .ok (.invokevirtual 41, 3) := by decide +kernel
theorem dX8_valueBelow_173 : decode cX8_valueBelow 173 = .ok (.iload 9, 2) := by decide +kernel
theorem dX8_valueBelow_175 : decode cX8_valueBelow 175 = .ok (.iload 11, 2) := by decide +kernel
theorem dX8_valueBelow_177 : decode cX8_valueBelow 177 = .ok (.invokestatic 71, 3) := by decide +kernel
theorem dX8_valueBelow_180 : decode cX8_valueBelow 180 = .ok (.istore 9, 2) := by decide +kernel
theorem dX8_valueBelow_182 : decode cX8_valueBelow 182 = .ok (.iinc 10 1, 3) := by decide +kernel
theorem dX8_valueBelow_185 : decode cX8_valueBelow 185 = .ok (.goto (-71), 3) := by decide +kernel
theorem dX8_valueBelow_188 : decode cX8_valueBelow 188 = .ok (.iload 9, 2) := by decide +kernel
theorem dX8_valueBelow_190 : decode cX8_valueBelow 190 = .ok (.ireturn, 1) := by decide +kernel
def kX8_valueBelow_59 (mc ms : Nat) (X : Nat → zV) (Q : zQt) (S : zSp) : zT :=
  zif (fun x => x = 0) (zc (.int 0) <| zj X 71 []) <| zli 3 <| zc (.int 1000) <| zii (fun x y => x - y) <| zj X 71 []
def kX8_valueBelow_45 (mc ms : Nat) (X : Nat → zV) (Q : zQt) (S : zSp) : zT :=
  zsi 8 <| zli 8 <| zif (fun x => x = 0) (zla 0 <| zgR 4 0 <| zcv mc ms 0 0 wX0_inCheck <| kX8_valueBelow_59 mc ms X Q S) <| zli 6 <| zif (fun x => x = 0) (zli 4 <| zsi 9 <| zli 7 <| zsi 10 <| zj X 114 [0, 1, 2, 3, 5, 7, 8, 9, 10]) <| zla 0 <| zgR 4 0 <| zgi 0 4 <| zif (fun x => x = 0) (zla 0 <| zgR 4 0 <| zgi 0 9 <| zj X 105 []) <| zla 0 <| zgR 4 0 <| zgi 0 9 <| zi1 (fun x => -x) <| zj X 105 []
def kX8_valueBelow_173 (mc ms : Nat) (X : Nat → zV) (Q : zQt) (S : zSp) : zT :=
  zli 9 <| zli 11 <| zmx <| zsi 9 <| zinc 10 1 <| zj X 114 [0, 1, 2, 3, 5, 7, 8, 9, 10]
def kX8_valueBelow_159 (mc ms : Nat) (X : Nat → zV) (Q : zQt) (S : zSp) : zT :=
  zi1 (fun x => -x) <| zsi 11 <| zla 0 <| zgR 4 0 <| zla 1 <| zli 10 <| zal 1 <| zcv mc ms 0 1 wX0_unmake <| kX8_valueBelow_173 mc ms X Q S
def kX8_valueBelow_142 (mc ms : Nat) (X : Nat → zV) (Q : zQt) (S : zSp) : zT :=
  zla 0 <| zla 1 <| zli 2 <| zc (.int 1) <| zii (fun x y => x - y) <| zli 3 <| zc (.int 1) <| zii (fun x y => x + y) <| zli 5 <| zi1 (fun x => -x) <| zli 9 <| zi1 (fun x => -x) <| zcs mc ms 6 S <| kX8_valueBelow_159 mc ms X Q S
def aX8_valueBelow_0 (mc ms : Nat) (X : Nat → zV) (Q : zQt) (S : zSp) : zT :=
  zli 2 <| zif (fun x => x ≤ 0) (zj X 9 [0, 1, 2, 3, 4, 5]) <| zli 3 <| zc (.int 4) <| zic (fun x y => x < y) (zc (.int 0) <| zj X 14 [0, 1, 2, 3, 4, 5]) <| zj X 9 [0, 1, 2, 3, 4, 5]
def aX8_valueBelow_9 (mc ms : Nat) (X : Nat → zV) (Q : zQt) (S : zSp) : zT :=
  zc (.int 1) <| zj X 14 [0, 1, 2, 3, 4, 5]
def aX8_valueBelow_14 (mc ms : Nat) (X : Nat → zV) (Q : zQt) (S : zSp) : zT :=
  zsi 6 <| zli 3 <| zc (.int 384) <| zii (fun x y => x * y) <| zsi 7 <| zla 0 <| zgR 4 1 <| zla 1 <| zli 7 <| zli 6 <| zif (fun x => x = 0) (zc (.int 384) <| zj X 42 [0, 1, 2, 3, 4, 5, 6, 7]) <| zc (.int 1) <| zj X 42 [0, 1, 2, 3, 4, 5, 6, 7]
def aX8_valueBelow_42 (mc ms : Nat) (X : Nat → zV) (Q : zQt) (S : zSp) : zT :=
  zcv mc ms 5 3 wX5_fill <| kX8_valueBelow_45 mc ms X Q S
def aX8_valueBelow_71 (mc ms : Nat) (X : Nat → zV) (Q : zQt) (S : zSp) : zT :=
  zri Q
def aX8_valueBelow_105 (mc ms : Nat) (X : Nat → zV) (Q : zQt) (S : zSp) : zT :=
  zri Q
def aX8_valueBelow_114 (mc ms : Nat) (X : Nat → zV) (Q : zQt) (S : zSp) : zT :=
  zli 10 <| zli 7 <| zli 8 <| zii (fun x y => x + y) <| zic (fun x y => y ≤ x) (zj X 188 [9]) <| zli 9 <| zli 5 <| zic (fun x y => y ≤ x) (zj X 188 [9]) <| zla 0 <| zgR 4 0 <| zla 1 <| zli 10 <| zal 1 <| zcv mc ms 0 1 wX0_make <| kX8_valueBelow_142 mc ms X Q S
def aX8_valueBelow_188 (mc ms : Nat) (X : Nat → zV) (Q : zQt) (S : zSp) : zT :=
  zli 9 <| zri Q
def lvX8_valueBelow : Nat → List Nat := fun L => match L with
  | 0 => [0, 1, 2, 3, 4, 5]
  | 9 => [0, 1, 2, 3, 4, 5]
  | 14 => [0, 1, 2, 3, 4, 5]
  | 42 => [0, 1, 2, 3, 4, 5, 6, 7]
  | 71 => []
  | 105 => []
  | 114 => [0, 1, 2, 3, 5, 7, 8, 9, 10]
  | 188 => [9]
  | _ => []
def wX8_valueBelow : Nat → zSp
  | 0 => fun _ _ _ _ _ => False
  | d + 1 => fun mc ms av M Q => ((zlay av).length ≤ 12 ∧ zpick (zlay av) [0, 1, 2, 3, 4, 5] = some av) ∧ ∀ X : Nat → zV, zin 12 [0, 1, 2, 3, 4, 5] (aX8_valueBelow_0 mc ms X Q (wX8_valueBelow d)) X 0 → zin 12 [0, 1, 2, 3, 4, 5] (aX8_valueBelow_9 mc ms X Q (wX8_valueBelow d)) X 9 → zin 12 [0, 1, 2, 3, 4, 5] (aX8_valueBelow_14 mc ms X Q (wX8_valueBelow d)) X 14 → zin 12 [0, 1, 2, 3, 4, 5, 6, 7] (aX8_valueBelow_42 mc ms X Q (wX8_valueBelow d)) X 42 → zin 12 [] (aX8_valueBelow_71 mc ms X Q (wX8_valueBelow d)) X 71 → zin 12 [] (aX8_valueBelow_105 mc ms X Q (wX8_valueBelow d)) X 105 → zin 12 [0, 1, 2, 3, 5, 7, 8, 9, 10] (aX8_valueBelow_114 mc ms X Q (wX8_valueBelow d)) X 114 → zin 12 [9] (aX8_valueBelow_188 mc ms X Q (wX8_valueBelow d)) X 188 → X 0 0 0 av [] M
set_option maxRecDepth 100000 in
set_option maxHeartbeats 4000000 in
theorem sX8_valueBelow (l : Launch) (G : zG) (hE : zXt G) : ∀ d : Nat, zSnd l G yX8_valueBelow cX8_valueBelow 12 (some .int) (5 + d) (131 + d * 31) (wX8_valueBelow d) := by
  intro d
  induction d with
  | zero => exact fun mc ms av M Q h => h.elim
  | succ d hS =>
  generalize hSe : wX8_valueBelow d = S at hS
  refine zmk [0, 1, 2, 3, 4, 5] (by decide) (fun mc ms av M Q h => h.1) ?_
  intro p e R s m args below meth c mc ms av M Q hC hRf hRl hr hnm h lv hlv
  unfold wX8_valueBelow at h
  rw [hSe] at h
  obtain ⟨X, hXe⟩ : ∃ X : Nat → zV, X = fun L u v vs st M => ∀ lv, zpick lv (lvX8_valueBelow L) = some vs → zAt p l e R s m args below meth c (MQ below (zQ G Q) args s mc ms (zA G)) G 12 L u v lv st M := ⟨_, rfl⟩
  have hJ : ∀ L, zOk p l e R s m args below meth c (MQ below (zQ G Q) args s mc ms (zA G)) G 12 L (zj X L (lvX8_valueBelow L)) := fun L => S_jump (fun u v lv vs st M hp hx => by rw [hXe] at hx; exact hx lv hp)
  have hB0 : zin 12 [0, 1, 2, 3, 4, 5] (aX8_valueBelow_0 mc ms X Q S) X 0 := by
    intro u v vs st M hb
    rw [hXe]
    refine fun lv hp => S_block (L := 0) (live := [0, 1, 2, 3, 4, 5]) ?_ u v lv vs st M hp hb
    unfold aX8_valueBelow_0
    refine S_iload_n (pc := 0) hC dX8_valueBelow_0 rfl ?_
    refine S_if_le (pc := 1) (tgt := 9) hC dX8_valueBelow_1 (by decide) ?_ ?_
    · exact hJ 9
    · refine S_iload_n (pc := 4) hC dX8_valueBelow_4 rfl ?_
      refine S_iconst (pc := 5) hC dX8_valueBelow_5 (by decide) ?_
      refine S_icmp_lt (pc := 6) (tgt := 13) hC dX8_valueBelow_6 (by decide) ?_ ?_
      · refine S_iconst (pc := 13) hC dX8_valueBelow_13 (by decide) ?_
        exact hJ 14
      · exact hJ 9
  have hB9 : zin 12 [0, 1, 2, 3, 4, 5] (aX8_valueBelow_9 mc ms X Q S) X 9 := by
    intro u v vs st M hb
    rw [hXe]
    refine fun lv hp => S_block (L := 9) (live := [0, 1, 2, 3, 4, 5]) ?_ u v lv vs st M hp hb
    unfold aX8_valueBelow_9
    refine S_iconst (pc := 9) hC dX8_valueBelow_9 (by decide) ?_
    refine S_goto (pc := 10) (tgt := 14) hC dX8_valueBelow_10 (by decide) ?_
    exact hJ 14
  have hB14 : zin 12 [0, 1, 2, 3, 4, 5] (aX8_valueBelow_14 mc ms X Q S) X 14 := by
    intro u v vs st M hb
    rw [hXe]
    refine fun lv hp => S_block (L := 14) (live := [0, 1, 2, 3, 4, 5]) ?_ u v lv vs st M hp hb
    unfold aX8_valueBelow_14
    refine S_istore (pc := 14) hC dX8_valueBelow_14 (by decide) ?_
    refine S_iload_n (pc := 16) hC dX8_valueBelow_16 rfl ?_
    refine S_sipush (pc := 17) hC dX8_valueBelow_17 (by decide) ?_
    refine S_imul (pc := 20) hC dX8_valueBelow_20 ?_
    refine S_istore (pc := 21) hC dX8_valueBelow_21 (by decide) ?_
    refine S_aload_n (pc := 23) hC dX8_valueBelow_23 rfl ?_
    refine S_getR (pc := 24) hC cfX4 (by decide) (Or.inl ⟨_, rfl⟩) wd_313 dX8_valueBelow_24 ?_
    refine S_aload_n (pc := 27) hC dX8_valueBelow_27 rfl ?_
    refine S_iload (pc := 28) hC dX8_valueBelow_28 ?_
    refine S_iload (pc := 30) hC dX8_valueBelow_30 ?_
    refine S_if_eq (pc := 32) (tgt := 39) hC dX8_valueBelow_32 (by decide) ?_ ?_
    · refine S_sipush (pc := 39) hC dX8_valueBelow_39 (by decide) ?_
      exact hJ 42
    · refine S_iconst (pc := 35) hC dX8_valueBelow_35 (by decide) ?_
      refine S_goto (pc := 36) (tgt := 42) hC dX8_valueBelow_36 (by decide) ?_
      exact hJ 42
  have hB42 : zin 12 [0, 1, 2, 3, 4, 5, 6, 7] (aX8_valueBelow_42 mc ms X Q S) X 42 := by
    intro u v vs st M hb
    rw [hXe]
    refine fun lv hp => S_block (L := 42) (live := [0, 1, 2, 3, 4, 5, 6, 7]) ?_ u v lv vs st M hp hb
    unfold aX8_valueBelow_42
    refine S_callV (pc := 42) hC (sX5_fill l G) rfl wd_1019 wd_423 wd_424 wd_11 wd_425 (by decide +kernel) ⟨by rw [hRf]; omega, by rw [hRl]; omega⟩ dX8_valueBelow_42 ?_
    unfold kX8_valueBelow_45
    refine S_istore (pc := 45) hC dX8_valueBelow_45 (by decide) ?_
    refine S_iload (pc := 47) hC dX8_valueBelow_47 ?_
    refine S_if_ne (pc := 49) (tgt := 72) hC dX8_valueBelow_49 (by decide) ?_ ?_
    · refine S_iload (pc := 72) hC dX8_valueBelow_72 ?_
      refine S_if_eq (pc := 74) (tgt := 106) hC dX8_valueBelow_74 (by decide) ?_ ?_
      · refine S_iload (pc := 106) hC dX8_valueBelow_106 ?_
        refine S_istore (pc := 108) hC dX8_valueBelow_108 (by decide) ?_
        refine S_iload (pc := 110) hC dX8_valueBelow_110 ?_
        refine S_istore (pc := 112) hC dX8_valueBelow_112 (by decide) ?_
        exact hJ 114
      · refine S_aload_n (pc := 77) hC dX8_valueBelow_77 rfl ?_
        refine S_getR (pc := 78) hC cfX4 (by decide) (Or.inl ⟨_, rfl⟩) wd_309 dX8_valueBelow_78 ?_
        refine S_geti (pc := 81) hC cfX0 (by decide) (Or.inl rfl) wd_234 dX8_valueBelow_81 ?_
        refine S_if_ne (pc := 84) (tgt := 97) hC dX8_valueBelow_84 (by decide) ?_ ?_
        · refine S_aload_n (pc := 97) hC dX8_valueBelow_97 rfl ?_
          refine S_getR (pc := 98) hC cfX4 (by decide) (Or.inl ⟨_, rfl⟩) wd_309 dX8_valueBelow_98 ?_
          refine S_geti (pc := 101) hC cfX0 (by decide) (Or.inl rfl) wd_260 dX8_valueBelow_101 ?_
          refine S_ineg (pc := 104) hC dX8_valueBelow_104 ?_
          exact hJ 105
        · refine S_aload_n (pc := 87) hC dX8_valueBelow_87 rfl ?_
          refine S_getR (pc := 88) hC cfX4 (by decide) (Or.inl ⟨_, rfl⟩) wd_309 dX8_valueBelow_88 ?_
          refine S_geti (pc := 91) hC cfX0 (by decide) (Or.inl rfl) wd_260 dX8_valueBelow_91 ?_
          refine S_goto (pc := 94) (tgt := 105) hC dX8_valueBelow_94 (by decide) ?_
          exact hJ 105
    · refine S_aload_n (pc := 52) hC dX8_valueBelow_52 rfl ?_
      refine S_getR (pc := 53) hC cfX4 (by decide) (Or.inl ⟨_, rfl⟩) wd_309 dX8_valueBelow_53 ?_
      refine S_callV (pc := 56) hC (sX0_inCheck l G) rfl wd_1040 wd_827 wd_828 wd_10 wd_829 (by decide +kernel) ⟨by rw [hRf]; omega, by rw [hRl]; omega⟩ dX8_valueBelow_56 ?_
      unfold kX8_valueBelow_59
      refine S_if_eq (pc := 59) (tgt := 70) hC dX8_valueBelow_59 (by decide) ?_ ?_
      · refine S_iconst (pc := 70) hC dX8_valueBelow_70 (by decide) ?_
        exact hJ 71
      · refine S_iload_n (pc := 62) hC dX8_valueBelow_62 rfl ?_
        refine S_sipush (pc := 63) hC dX8_valueBelow_63 (by decide) ?_
        refine S_isub (pc := 66) hC dX8_valueBelow_66 ?_
        refine S_goto (pc := 67) (tgt := 71) hC dX8_valueBelow_67 (by decide) ?_
        exact hJ 71
  have hB71 : zin 12 [] (aX8_valueBelow_71 mc ms X Q S) X 71 := by
    intro u v vs st M hb
    rw [hXe]
    refine fun lv hp => S_block (L := 71) (live := []) ?_ u v lv vs st M hp hb
    unfold aX8_valueBelow_71
    exact S_ireturn (pc := 71) hC hr dX8_valueBelow_71
  have hB105 : zin 12 [] (aX8_valueBelow_105 mc ms X Q S) X 105 := by
    intro u v vs st M hb
    rw [hXe]
    refine fun lv hp => S_block (L := 105) (live := []) ?_ u v lv vs st M hp hb
    unfold aX8_valueBelow_105
    exact S_ireturn (pc := 105) hC hr dX8_valueBelow_105
  have hB114 : zin 12 [0, 1, 2, 3, 5, 7, 8, 9, 10] (aX8_valueBelow_114 mc ms X Q S) X 114 := by
    intro u v vs st M hb
    rw [hXe]
    refine fun lv hp => S_block (L := 114) (live := [0, 1, 2, 3, 5, 7, 8, 9, 10]) ?_ u v lv vs st M hp hb
    unfold aX8_valueBelow_114
    refine S_iload (pc := 114) hC dX8_valueBelow_114 ?_
    refine S_iload (pc := 116) hC dX8_valueBelow_116 ?_
    refine S_iload (pc := 118) hC dX8_valueBelow_118 ?_
    refine S_iadd (pc := 120) hC dX8_valueBelow_120 ?_
    refine S_icmp_ge (pc := 121) (tgt := 188) hC dX8_valueBelow_121 (by decide) ?_ ?_
    · exact hJ 188
    · refine S_iload (pc := 124) hC dX8_valueBelow_124 ?_
      refine S_iload (pc := 126) hC dX8_valueBelow_126 ?_
      refine S_icmp_ge (pc := 128) (tgt := 188) hC dX8_valueBelow_128 (by decide) ?_ ?_
      · exact hJ 188
      · refine S_aload_n (pc := 131) hC dX8_valueBelow_131 rfl ?_
        refine S_getR (pc := 132) hC cfX4 (by decide) (Or.inl ⟨_, rfl⟩) wd_309 dX8_valueBelow_132 ?_
        refine S_aload_n (pc := 135) hC dX8_valueBelow_135 rfl ?_
        refine S_iload (pc := 136) hC dX8_valueBelow_136 ?_
        refine S_iaload (pc := 138) hC dX8_valueBelow_138 ?_
        refine S_callV (pc := 139) hC (sX0_make l G hE.1) rfl wd_1020 wd_812 wd_813 wd_10 wd_814 (by decide +kernel) ⟨by rw [hRf]; omega, by rw [hRl]; omega⟩ dX8_valueBelow_139 ?_
        unfold kX8_valueBelow_142
        refine S_aload_n (pc := 142) hC dX8_valueBelow_142 rfl ?_
        refine S_aload_n (pc := 143) hC dX8_valueBelow_143 rfl ?_
        refine S_iload_n (pc := 144) hC dX8_valueBelow_144 rfl ?_
        refine S_iconst (pc := 145) hC dX8_valueBelow_145 (by decide) ?_
        refine S_isub (pc := 146) hC dX8_valueBelow_146 ?_
        refine S_iload_n (pc := 147) hC dX8_valueBelow_147 rfl ?_
        refine S_iconst (pc := 148) hC dX8_valueBelow_148 (by decide) ?_
        refine S_iadd (pc := 149) hC dX8_valueBelow_149 ?_
        refine S_iload (pc := 150) hC dX8_valueBelow_150 ?_
        refine S_ineg (pc := 152) hC dX8_valueBelow_152 ?_
        refine S_iload (pc := 153) hC dX8_valueBelow_153 ?_
        refine S_ineg (pc := 155) hC dX8_valueBelow_155 ?_
        refine S_callS (pc := 156) hC hS wd_1037 wd_1038 wd_7 wd_1039 (by decide +kernel) ⟨by rw [hRf]; omega, by rw [hRl]; omega⟩ dX8_valueBelow_156 ?_
        unfold kX8_valueBelow_159
        refine S_ineg (pc := 159) hC dX8_valueBelow_159 ?_
        refine S_istore (pc := 160) hC dX8_valueBelow_160 (by decide) ?_
        refine S_aload_n (pc := 162) hC dX8_valueBelow_162 rfl ?_
        refine S_getR (pc := 163) hC cfX4 (by decide) (Or.inl ⟨_, rfl⟩) wd_309 dX8_valueBelow_163 ?_
        refine S_aload_n (pc := 166) hC dX8_valueBelow_166 rfl ?_
        refine S_iload (pc := 167) hC dX8_valueBelow_167 ?_
        refine S_iaload (pc := 169) hC dX8_valueBelow_169 ?_
        refine S_callV (pc := 170) hC (sX0_unmake l G hE.1) rfl wd_1021 wd_403 wd_404 wd_10 wd_405 (by decide +kernel) ⟨by rw [hRf]; omega, by rw [hRl]; omega⟩ dX8_valueBelow_170 ?_
        unfold kX8_valueBelow_173
        refine S_iload (pc := 173) hC dX8_valueBelow_173 ?_
        refine S_iload (pc := 175) hC dX8_valueBelow_175 ?_
        refine S_max (pc := 177) hC wd_1041 wd_583 wd_21 wd_584 (by rw [hRf]; omega) (by rw [hRl]; omega) dX8_valueBelow_177 ?_
        refine S_istore (pc := 180) hC dX8_valueBelow_180 (by decide) ?_
        refine S_iinc (pc := 182) hC dX8_valueBelow_182 (by decide) (by decide) ?_
        refine S_goto (pc := 185) (tgt := 114) hC dX8_valueBelow_185 (by decide) ?_
        exact hJ 114
  have hB188 : zin 12 [9] (aX8_valueBelow_188 mc ms X Q S) X 188 := by
    intro u v vs st M hb
    rw [hXe]
    refine fun lv hp => S_block (L := 188) (live := [9]) ?_ u v lv vs st M hp hb
    unfold aX8_valueBelow_188
    refine S_iload (pc := 188) hC dX8_valueBelow_188 ?_
    exact S_ireturn (pc := 190) hC hr dX8_valueBelow_190
  have := h.2 X hB0 hB9 hB14 hB42 hB71 hB105 hB114 hB188
  rw [hXe] at this
  exact this lv hlv
theorem vX8_valueBelow_0 {mc ms : Nat} {X : Nat → zV} {Q : zQt} {S : zSp} {M : zM} {g : Nat} {x1 : Nat} {x1n : Nat} {x2 : Int32} {x3 : Int32} {x4 : Int32} {x5 : Int32} (hW : zWd M g) (hx1 : zsh M x1 = some (1, x1n)) (h : (x2 ≤ 0 → X 9 0 0 [.ref g, .ref x1, .int x2, .int x3, .int x4, .int x5] [] M) ∧ (¬ x2 ≤ 0 → (x3 < (4 : Int32) → X 14 0 0 [.ref g, .ref x1, .int x2, .int x3, .int x4, .int x5] [.int 0] M) ∧ (¬ x3 < (4 : Int32) → X 9 0 0 [.ref g, .ref x1, .int x2, .int x3, .int x4, .int x5] [] M))) : aX8_valueBelow_0 mc ms X Q S 0 0 [some (.ref g), some (.ref x1), some (.int x2), some (.int x3), some (.int x4), some (.int x5), none, none, none, none, none, none] [] M := ⟨fun c1 => (h.1 c1), fun c1 => ⟨fun c6 => ((h.2 c1).1 c6), fun c6 => ((h.2 c1).2 c6)⟩⟩
theorem vX8_valueBelow_9 {mc ms : Nat} {X : Nat → zV} {Q : zQt} {S : zSp} {M : zM} {g : Nat} {x1 : Nat} {x1n : Nat} {x2 : Int32} {x3 : Int32} {x4 : Int32} {x5 : Int32} (hW : zWd M g) (hx1 : zsh M x1 = some (1, x1n)) (h : X 14 0 0 [.ref g, .ref x1, .int x2, .int x3, .int x4, .int x5] [.int 1] M) : aX8_valueBelow_9 mc ms X Q S 0 0 [some (.ref g), some (.ref x1), some (.int x2), some (.int x3), some (.int x4), some (.int x5), none, none, none, none, none, none] [] M := h
theorem vX8_valueBelow_14 {mc ms : Nat} {X : Nat → zV} {Q : zQt} {S : zSp} {M : zM} {g : Nat} {x1 : Nat} {x1n : Nat} {x2 : Int32} {x3 : Int32} {x4 : Int32} {x5 : Int32} {s0 : Int32} (hW : zWd M g) (hx1 : zsh M x1 = some (1, x1n)) (h : (s0 = 0 → X 42 0 0 [.ref g, .ref x1, .int x2, .int x3, .int x4, .int x5, .int s0, .int (x3 * (384 : Int32))] [.int 384, .int (x3 * (384 : Int32)), .ref x1, .ref (g + 6)] M) ∧ (¬ s0 = 0 → X 42 0 0 [.ref g, .ref x1, .int x2, .int x3, .int x4, .int x5, .int s0, .int (x3 * (384 : Int32))] [.int 1, .int (x3 * (384 : Int32)), .ref x1, .ref (g + 6)] M)) : aX8_valueBelow_14 mc ms X Q S 0 0 [some (.ref g), some (.ref x1), some (.int x2), some (.int x3), some (.int x4), some (.int x5), none, none, none, none, none, none] [.int s0] M := ⟨(fgs_0 hW), (g + 6), (fgr_0_1 hW), ⟨fun c32 => (h.1 c32), fun c32 => (h.2 c32)⟩⟩
theorem vX8_valueBelow_42 {mc ms : Nat} {X : Nat → zV} {Q : zQt} {S : zSp} {M : zM} {g : Nat} {x1 : Nat} {x1n : Nat} {x2 : Int32} {x3 : Int32} {x4 : Int32} {x5 : Int32} {x6 : Int32} {x7 : Int32} {s0 : Int32} {s1 : Int32} {s2 : Nat} {s2n : Nat} (hW : zWd M g) (hx1 : zsh M x1 = some (1, x1n)) (hs2 : zsh M s2 = some (1, s2n)) (h : wX5_fill 0 0 [.ref (g + 6), .ref s2, .int s1, .int s0] M (fun r M1 => kX8_valueBelow_45 mc ms X Q S 0 0 [some (.ref g), some (.ref x1), some (.int x2), some (.int x3), some (.int x4), some (.int x5), some (.int x6), some (.int x7), none, none, none, none] (r.toList ++ []) M1)) : aX8_valueBelow_42 mc ms X Q S 0 0 [some (.ref g), some (.ref x1), some (.int x2), some (.int x3), some (.int x4), some (.int x5), some (.int x6), some (.int x7), none, none, none, none] [.int s0, .int s1, .ref s2, .ref (g + 6)] M := ⟨Nat.le_of_ble_eq_true rfl, rfl, (fgs_6 hW), 0, 0, Nat.zero_le _, Nat.zero_le _, h⟩
theorem vX8_valueBelow_71 {mc ms : Nat} {X : Nat → zV} {Q : zQt} {S : zSp} {M : zM} {g : Nat} {s0 : Int32} (hW : zWd M g)  (h : Q (some (.int s0)) M) : aX8_valueBelow_71 mc ms X Q S 0 0 [none, none, none, none, none, none, none, none, none, none, none, none] [.int s0] M := h
theorem vX8_valueBelow_105 {mc ms : Nat} {X : Nat → zV} {Q : zQt} {S : zSp} {M : zM} {g : Nat} {s0 : Int32} (hW : zWd M g)  (h : Q (some (.int s0)) M) : aX8_valueBelow_105 mc ms X Q S 0 0 [none, none, none, none, none, none, none, none, none, none, none, none] [.int s0] M := h
theorem vX8_valueBelow_114 {mc ms : Nat} {X : Nat → zV} {Q : zQt} {S : zSp} {M : zM} {g : Nat} {x1 : Nat} {x1n : Nat} {x2 : Int32} {x3 : Int32} {x5 : Int32} {x7 : Int32} {x8 : Int32} {x9 : Int32} {x10 : Int32} (hW : zWd M g) (hx1 : zsh M x1 = some (1, x1n)) (h : ((x7 + x8) ≤ x10 → X 188 0 0 [.int x9] [] M) ∧ (¬ (x7 + x8) ≤ x10 → (x5 ≤ x9 → X 188 0 0 [.int x9] [] M) ∧ (¬ x5 ≤ x9 → vp_in x10 x1n ∧ wX0_make 0 0 [.ref (g + 1), .int ((M : zM).1 x1 (x10 : Int32).toNatClampNeg)] M (fun r M1 => kX8_valueBelow_142 mc ms X Q S 0 0 [some (.ref g), some (.ref x1), some (.int x2), some (.int x3), none, some (.int x5), none, some (.int x7), some (.int x8), some (.int x9), some (.int x10), none] (r.toList ++ []) M1)))) : aX8_valueBelow_114 mc ms X Q S 0 0 [some (.ref g), some (.ref x1), some (.int x2), some (.int x3), none, some (.int x5), none, some (.int x7), some (.int x8), some (.int x9), some (.int x10), none] [] M := ⟨fun c121 => (h.1 c121), fun c121 => ⟨fun c128 => ((h.2 c121).1 c128), fun c128 => ⟨(fgs_0 hW), (g + 1), (fgr_0_0 hW), ⟨x1n, hx1, ((h.2 c121).2 c128).1, ⟨Nat.le_of_ble_eq_true rfl, rfl, (fgs_1 hW), 0, 0, Nat.zero_le _, Nat.zero_le _, ((h.2 c121).2 c128).2⟩⟩⟩⟩⟩
theorem vX8_valueBelow_188 {mc ms : Nat} {X : Nat → zV} {Q : zQt} {S : zSp} {M : zM} {g : Nat} {x9 : Int32} (hW : zWd M g)  (h : Q (some (.int x9)) M) : aX8_valueBelow_188 mc ms X Q S 0 0 [none, none, none, none, none, none, none, none, none, some (.int x9), none, none] [] M := h
theorem vkX8_valueBelow_45 {mc ms : Nat} {X : Nat → zV} {Q : zQt} {S : zSp} {M : zM} {g : Nat} {x1 : Nat} {x1n : Nat} {x2 : Int32} {x3 : Int32} {x4 : Int32} {x5 : Int32} {x6 : Int32} {x7 : Int32} {s0 : Int32} (hW : zWd M g) (hx1 : zsh M x1 = some (1, x1n)) (h : (s0 = 0 → wX0_inCheck 0 0 [.ref (g + 1)] M (fun r M1 => kX8_valueBelow_59 mc ms X Q S 0 0 [some (.ref g), some (.ref x1), some (.int x2), some (.int x3), some (.int x4), some (.int x5), some (.int x6), some (.int x7), some (.int s0), none, none, none] (r.toList ++ []) M1)) ∧ (¬ s0 = 0 → (x6 = 0 → X 114 0 0 [.ref g, .ref x1, .int x2, .int x3, .int x5, .int x7, .int s0, .int x4, .int x7] [] M) ∧ (¬ x6 = 0 → ((M.1 ((g + 1)) 4) = 0 → X 105 0 0 [] [.int (M.1 ((g + 1)) 9)] M) ∧ (¬ (M.1 ((g + 1)) 4) = 0 → X 105 0 0 [] [.int (-(M.1 ((g + 1)) 9))] M)))) : kX8_valueBelow_45 mc ms X Q S 0 0 [some (.ref g), some (.ref x1), some (.int x2), some (.int x3), some (.int x4), some (.int x5), some (.int x6), some (.int x7), none, none, none, none] [.int s0] M := ⟨fun c49 => ⟨(fgs_0 hW), (g + 1), (fgr_0_0 hW), ⟨Nat.le_of_ble_eq_true rfl, rfl, (fgs_1 hW), 0, 0, Nat.zero_le _, Nat.zero_le _, (h.1 c49)⟩⟩, fun c49 => ⟨fun c74 => ((h.2 c49).1 c74), fun c74 => ⟨(fgs_0 hW), (g + 1), (fgr_0_0 hW), ⟨(fgs_1 hW), ⟨fun c84 => ⟨(fgs_0 hW), (g + 1), (fgr_0_0 hW), ⟨(fgs_1 hW), (((h.2 c49).2 c74).1 c84)⟩⟩, fun c84 => ⟨(fgs_0 hW), (g + 1), (fgr_0_0 hW), ⟨(fgs_1 hW), (((h.2 c49).2 c74).2 c84)⟩⟩⟩⟩⟩⟩⟩
theorem vkX8_valueBelow_59 {mc ms : Nat} {X : Nat → zV} {Q : zQt} {S : zSp} {M : zM} {g : Nat} {x1 : Nat} {x1n : Nat} {x2 : Int32} {x3 : Int32} {x4 : Int32} {x5 : Int32} {x6 : Int32} {x7 : Int32} {x8 : Int32} {s0 : Int32} (hW : zWd M g) (hx1 : zsh M x1 = some (1, x1n)) (h : (s0 = 0 → X 71 0 0 [] [.int 0] M) ∧ (¬ s0 = 0 → X 71 0 0 [] [.int (x3 - (1000 : Int32))] M)) : kX8_valueBelow_59 mc ms X Q S 0 0 [some (.ref g), some (.ref x1), some (.int x2), some (.int x3), some (.int x4), some (.int x5), some (.int x6), some (.int x7), some (.int x8), none, none, none] [.int s0] M := ⟨fun c59 => (h.1 c59), fun c59 => (h.2 c59)⟩
theorem vkX8_valueBelow_142 {mc ms : Nat} {X : Nat → zV} {Q : zQt} {S : zSp} {M : zM} {g : Nat} {x1 : Nat} {x1n : Nat} {x2 : Int32} {x3 : Int32} {x5 : Int32} {x7 : Int32} {x8 : Int32} {x9 : Int32} {x10 : Int32} (hW : zWd M g) (hx1 : zsh M x1 = some (1, x1n)) (h : S 0 0 [.ref g, .ref x1, .int (x2 - (1 : Int32)), .int (x3 + (1 : Int32)), .int (-x5), .int (-x9)] M (fun r M1 => kX8_valueBelow_159 mc ms X Q S 0 0 [some (.ref g), some (.ref x1), some (.int x2), some (.int x3), none, some (.int x5), none, some (.int x7), some (.int x8), some (.int x9), some (.int x10), none] (r.toList ++ []) M1)) : kX8_valueBelow_142 mc ms X Q S 0 0 [some (.ref g), some (.ref x1), some (.int x2), some (.int x3), none, some (.int x5), none, some (.int x7), some (.int x8), some (.int x9), some (.int x10), none] [] M := ⟨Nat.le_of_ble_eq_true rfl, rfl, 0, 0, Nat.zero_le _, Nat.zero_le _, h⟩
theorem vkX8_valueBelow_159 {mc ms : Nat} {X : Nat → zV} {Q : zQt} {S : zSp} {M : zM} {g : Nat} {x1 : Nat} {x1n : Nat} {x2 : Int32} {x3 : Int32} {x5 : Int32} {x7 : Int32} {x8 : Int32} {x9 : Int32} {x10 : Int32} {s0 : Int32} (hW : zWd M g) (hx1 : zsh M x1 = some (1, x1n)) (h : vp_in x10 x1n ∧ wX0_unmake 0 0 [.ref (g + 1), .int ((M : zM).1 x1 (x10 : Int32).toNatClampNeg)] M (fun r M1 => kX8_valueBelow_173 mc ms X Q S 0 0 [some (.ref g), some (.ref x1), some (.int x2), some (.int x3), none, some (.int x5), none, some (.int x7), some (.int x8), some (.int x9), some (.int x10), some (.int (-s0))] (r.toList ++ []) M1)) : kX8_valueBelow_159 mc ms X Q S 0 0 [some (.ref g), some (.ref x1), some (.int x2), some (.int x3), none, some (.int x5), none, some (.int x7), some (.int x8), some (.int x9), some (.int x10), none] [.int s0] M := ⟨(fgs_0 hW), (g + 1), (fgr_0_0 hW), ⟨x1n, hx1, h.1, ⟨Nat.le_of_ble_eq_true rfl, rfl, (fgs_1 hW), 0, 0, Nat.zero_le _, Nat.zero_le _, h.2⟩⟩⟩
theorem vkX8_valueBelow_173 {mc ms : Nat} {X : Nat → zV} {Q : zQt} {S : zSp} {M : zM} {g : Nat} {x1 : Nat} {x1n : Nat} {x2 : Int32} {x3 : Int32} {x5 : Int32} {x7 : Int32} {x8 : Int32} {x9 : Int32} {x10 : Int32} {x11 : Int32} (hW : zWd M g) (hx1 : zsh M x1 = some (1, x1n)) (h : X 114 0 0 [.ref g, .ref x1, .int x2, .int x3, .int x5, .int x7, .int x8, .int (if x9 < x11 then x11 else x9), .int (x10 + 1)] [] M) : kX8_valueBelow_173 mc ms X Q S 0 0 [some (.ref g), some (.ref x1), some (.int x2), some (.int x3), none, some (.int x5), none, some (.int x7), some (.int x8), some (.int x9), some (.int x10), some (.int x11)] [] M := ⟨Nat.le_of_ble_eq_true rfl, h⟩
theorem dX9_plain_0 : decode cX9_plain 0 = .ok (.aload_n 1, 1) := by decide +kernel
theorem dX9_plain_1 : decode cX9_plain 1 = .ok (.getfield 28, 3) := by decide +kernel
theorem dX9_plain_4 : decode cX9_plain 4 = .ok (.astore_n 3, 1) := by decide +kernel
theorem dX9_plain_5 : decode cX9_plain 5 = .ok (.aload_n 1, 1) := by decide +kernel
theorem dX9_plain_6 : decode cX9_plain 6 = .ok (.getfield 19, 3) := by decide +kernel
theorem dX9_plain_9 : decode cX9_plain 9 = .ok (.iload_n 2, 1) := by decide +kernel
theorem dX9_plain_10 : decode cX9_plain 10 = .ok (.iaload, 1) := by decide +kernel
theorem dX9_plain_11 : decode cX9_plain 11 = .ok (.bipush 63, 2) := by decide +kernel
theorem dX9_plain_13 : decode cX9_plain 13 = .ok (.iand, 1) := by decide +kernel
theorem dX9_plain_14 : decode cX9_plain 14 = .ok (.istore 4, 2) := by decide +kernel
theorem dX9_plain_16 : decode cX9_plain 16 = .ok (.aload_n 1, 1) := by decide +kernel
theorem dX9_plain_17 : decode cX9_plain 17 = .ok (.getfield 19, 3) := by decide +kernel
theorem dX9_plain_20 : decode cX9_plain 20 = .ok (.iload_n 2, 1) := by decide +kernel
theorem dX9_plain_21 : decode cX9_plain 21 = .ok (.iaload, 1) := by decide +kernel
theorem dX9_plain_22 : decode cX9_plain 22 = .ok (.bipush 6, 2) := by decide +kernel
theorem dX9_plain_24 : decode cX9_plain 24 = .ok (.ishr, 1) := by decide +kernel
theorem dX9_plain_25 : decode cX9_plain 25 = .ok (.bipush 63, 2) := by decide +kernel
theorem dX9_plain_27 : decode cX9_plain 27 = .ok (.iand, 1) := by decide +kernel
theorem dX9_plain_28 : decode cX9_plain 28 = .ok (.istore 5, 2) := by decide +kernel
theorem dX9_plain_30 : decode cX9_plain 30 = .ok (.aload_n 1, 1) := by decide +kernel
theorem dX9_plain_31 : decode cX9_plain 31 = .ok (.getfield 19, 3) := by decide +kernel
theorem dX9_plain_34 : decode cX9_plain 34 = .ok (.iload_n 2, 1) := by decide +kernel
theorem dX9_plain_35 : decode cX9_plain 35 = .ok (.iaload, 1) := by decide +kernel
theorem dX9_plain_36 : decode cX9_plain 36 = .ok (.bipush 12, 2) := by decide +kernel
theorem dX9_plain_38 : decode cX9_plain 38 = .ok (.ishr, 1) := by decide +kernel
theorem dX9_plain_39 : decode cX9_plain 39 = .ok (.istore 6, 2) := by decide +kernel
theorem dX9_plain_41 : decode cX9_plain 41 = .ok (.aload_n 3, 1) := by decide +kernel
theorem dX9_plain_42 : decode cX9_plain 42 = .ok (.iload 4, 2) := by decide +kernel
theorem dX9_plain_44 : decode cX9_plain 44 = .ok (.iload 5, 2) := by decide +kernel
theorem dX9_plain_46 : decode cX9_plain 46 = .ok (.invokevirtual 32, 3) := by decide +kernel
theorem dX9_plain_49 : decode cX9_plain 49 = .ok (.istore 7, 2) := by decide +kernel
theorem dX9_plain_51 : decode cX9_plain 51 = .ok (.iload 7, 2) := by decide +kernel
theorem dX9_plain_53 : decode cX9_plain 53 = .ok (.ifCond .eq 18, 3) := by decide +kernel
theorem dX9_plain_56 : decode cX9_plain 56 = .ok (.iload 7, 2) := by decide +kernel
theorem dX9_plain_58 : decode cX9_plain 58 = .ok (.ifCond .le 9, 3) := by decide +kernel
theorem dX9_plain_61 : decode cX9_plain 61 = .ok (.ldc2_w 38, 3) := by decide +kernel
theorem dX9_plain_64 : decode cX9_plain 64 = .ok (.goto 6, 3) := by decide +kernel
theorem dX9_plain_67 : decode cX9_plain 67 = .ok (.ldc2_w 40, 3) := by decide +kernel
theorem dX9_plain_70 : decode cX9_plain 70 = .ok (.lreturn, 1) := by decide +kernel
theorem dX9_plain_71 : decode cX9_plain 71 = .ok (.aload_n 3, 1) := by decide +kernel
theorem dX9_plain_72 : decode cX9_plain 72 = .ok (.getfield 42, 3) := by decide +kernel
theorem dX9_plain_75 : decode cX9_plain 75 = .ok (.iload 4, 2) := by decide +kernel
theorem dX9_plain_77 : decode cX9_plain 77 = .ok (.iaload, 1) := by decide +kernel
theorem dX9_plain_78 : decode cX9_plain 78 = .ok (.bipush 6, 2) := by decide +kernel
theorem dX9_plain_80 : decode cX9_plain 80 = .ok (.aload_n 3, 1) := by decide +kernel
theorem dX9_plain_81 : decode cX9_plain 81 = .ok (.getfield 45, 3) := by decide +kernel
theorem dX9_plain_84 : decode cX9_plain 84 = .ok (.imul, 1) := by decide +kernel
theorem dX9_plain_85 : decode cX9_plain 85 = .ok (.isub, 1) := by decide +kernel
theorem dX9_plain_86 : decode cX9_plain 86 = .ok (.istore 8, 2) := by decide +kernel
theorem dX9_plain_88 : decode cX9_plain 88 = .ok (.aload_n 3, 1) := by decide +kernel
theorem dX9_plain_89 : decode cX9_plain 89 = .ok (.getfield 42, 3) := by decide +kernel
theorem dX9_plain_92 : decode cX9_plain 92 = .ok (.iload 5, 2) := by decide +kernel
theorem dX9_plain_94 : decode cX9_plain 94 = .ok (.iaload, 1) := by decide +kernel
theorem dX9_plain_95 : decode cX9_plain 95 = .ok (.ifCond .eq 7, 3) := by decide +kernel
theorem dX9_plain_98 : decode cX9_plain 98 = .ok (.iconst 1, 1) := by decide +kernel
theorem dX9_plain_99 : decode cX9_plain 99 = .ok (.goto 4, 3) := by decide +kernel
theorem dX9_plain_102 : decode cX9_plain 102 = .ok (.iconst 0, 1) := by decide +kernel
theorem dX9_plain_103 : decode cX9_plain 103 = .ok (.istore 9, 2) := by decide +kernel
theorem dX9_plain_105 : decode cX9_plain 105 = .ok (.iload 8, 2) := by decide +kernel
theorem dX9_plain_107 : decode cX9_plain 107 = .ok (.iconst 1, 1) := by decide +kernel
theorem dX9_plain_108 : decode cX9_plain 108 = .ok (.if_icmp .ne 46, 3) := by decide +kernel
theorem dX9_plain_111 : decode cX9_plain 111 = .ok (.iload 4, 2) := by decide +kernel
theorem dX9_plain_113 : decode cX9_plain 113 = .ok (.bipush 7, 2) := by decide +kernel
theorem dX9_plain_115 : decode cX9_plain 115 = .ok (.iand, 1) := by decide +kernel
theorem dX9_plain_116 : decode cX9_plain 116 = .ok (.iload 5, 2) := by decide +kernel
theorem dX9_plain_118 : decode cX9_plain 118 = .ok (.bipush 7, 2) := by decide +kernel
theorem dX9_plain_120 : decode cX9_plain 120 = .ok (.iand, 1) := by decide +kernel
theorem dX9_plain_121 : decode cX9_plain 121 = .ok (.if_icmp .eq 7, 3) := by decide +kernel
theorem dX9_plain_124 : decode cX9_plain 124 = .ok (.iconst 1, 1) := by decide +kernel
theorem dX9_plain_125 : decode cX9_plain 125 = .ok (.goto 4, 3) := by decide +kernel
theorem dX9_plain_128 : decode cX9_plain 128 = .ok (.iconst 0, 1) := by decide +kernel
theorem dX9_plain_129 : decode cX9_plain 129 = .ok (.istore 9, 2) := by decide +kernel
theorem dX9_plain_131 : decode cX9_plain 131 = .ok (.iload 9, 2) := by decide +kernel
theorem dX9_plain_133 : decode cX9_plain 133 = .ok (.ifCond .eq 15, 3) := by decide +kernel
theorem dX9_plain_136 : decode cX9_plain 136 = .ok (.bipush 97, 2) := by decide +kernel
theorem dX9_plain_138 : decode cX9_plain 138 = .ok (.iload 4, 2) := by decide +kernel
theorem dX9_plain_140 : decode cX9_plain 140 = .ok (.bipush 7, 2) := by decide +kernel
theorem dX9_plain_142 : decode cX9_plain 142 = .ok (.iand, 1) := by decide +kernel
theorem dX9_plain_143 : decode cX9_plain 143 = .ok (.iadd, 1) := by decide +kernel
theorem dX9_plain_144 : decode cX9_plain 144 = .ok (.i2l, 1) := by decide +kernel
theorem dX9_plain_145 : decode cX9_plain 145 = .ok (.goto 4, 3) := by decide +kernel
theorem dX9_plain_148 : decode cX9_plain 148 = .ok (.lconst 0, 1) := by decide +kernel
theorem dX9_plain_149 : decode cX9_plain 149 = .ok (.lstore 10, 2) := by decide +kernel
theorem dX9_plain_151 : decode cX9_plain 151 = .ok (.goto 19, 3) := by decide +kernel
theorem dX9_plain_154 : decode cX9_plain 154 = .ok (.aload_n 0, 1) := by decide +kernel
theorem dX9_plain_155 : decode cX9_plain 155 = .ok (.aload_n 1, 1) := by decide +kernel
theorem dX9_plain_156 : decode cX9_plain 156 = .ok (.iload_n 2, 1) := by decide +kernel
theorem dX9_plain_157 : decode cX9_plain 157 = .ok (.ldc 49, 2) := by decide +kernel
theorem dX9_plain_159 : decode cX9_plain 159 = .ok (.iload 8, 2) := by decide +kernel
theorem dX9_plain_161 : decode cX9_plain 161 = .ok (.invokevirtual 51, 3) := by decide +kernel
theorem dX9_plain_164 : decode cX9_plain 164 = .ok (.i2l, 1) := by decide +kernel
theorem dX9_plain_165 : decode cX9_plain 165 = .ok (.invokevirtual 57, 3) := by decide +kernel
theorem dX9_plain_168 : decode cX9_plain 168 = .ok (.lstore 10, 2) := by decide +kernel
theorem dX9_plain_170 : decode cX9_plain 170 = .ok (.iload 9, 2) := by decide +kernel
theorem dX9_plain_172 : decode cX9_plain 172 = .ok (.ifCond .eq 14, 3) := by decide +kernel
theorem dX9_plain_175 : decode cX9_plain 175 = .ok (.lload 10, 2) := by decide +kernel
theorem dX9_plain_177 : decode cX9_plain 177 = .ok (.bipush 8, 2) := by decide +kernel
theorem dX9_plain_179 : decode cX9_plain 179 = .ok (.lshl, 1) := by decide +kernel
theorem dX9_plain_180 : decode cX9_plain 180 = .ok (.ldc2_w 61, 3) := by decide +kernel
theorem dX9_plain_183 : decode cX9_plain 183 = .ok (.lor, 1) := by decide +kernel
theorem dX9_plain_184 : decode cX9_plain 184 = .ok (.lstore 10, 2) := by decide +kernel
theorem dX9_plain_186 : decode cX9_plain 186 = .ok (.lload 10, 2) := by decide +kernel
theorem dX9_plain_188 : decode cX9_plain 188 = .ok (.bipush 8, 2) := by decide +kernel
theorem dX9_plain_190 : decode cX9_plain 190 = .ok (.lshl, 1) := by decide +kernel
theorem dX9_plain_191 : decode cX9_plain 191 = .ok (.bipush 97, 2) := by decide +kernel
theorem dX9_plain_193 : decode cX9_plain 193 = .ok (.iload 5, 2) := by decide +kernel
theorem dX9_plain_195 : decode cX9_plain 195 = .ok (.bipush 7, 2) := by decide +kernel
theorem dX9_plain_197 : decode cX9_plain 197 = .ok (.iand, 1) := by decide +kernel
theorem dX9_plain_198 : decode cX9_plain 198 = .ok (.iadd, 1) := by decide +kernel
theorem dX9_plain_199 : decode cX9_plain 199 = .ok (.i2l, 1) := by decide +kernel
theorem dX9_plain_200 : decode cX9_plain 200 = .ok (.lor, 1) := by decide +kernel
theorem dX9_plain_201 : decode cX9_plain 201 = .ok (.bipush 8, 2) := by decide +kernel
theorem dX9_plain_203 : decode cX9_plain 203 = .ok (.lshl, 1) := by decide +kernel
theorem dX9_plain_204 : decode cX9_plain 204 = .ok (.bipush 49, 2) := by decide +kernel
theorem dX9_plain_206 : decode cX9_plain 206 = .ok (.iload 5, 2) := by decide +kernel
theorem dX9_plain_208 : decode cX9_plain 208 = .ok (.bipush 8, 2) := by decide +kernel
theorem dX9_plain_210 : decode cX9_plain 210 = .ok (.idiv, 1) := by decide +kernel
theorem dX9_plain_211 : decode cX9_plain 211 = .ok (.iadd, 1) := by decide +kernel
theorem dX9_plain_212 : decode cX9_plain 212 = .ok (.i2l, 1) := by decide +kernel
theorem dX9_plain_213 : decode cX9_plain 213 = .ok (.lor, 1) := by decide +kernel
theorem dX9_plain_214 : decode cX9_plain 214 = .ok (.lstore 10, 2) := by decide +kernel
theorem dX9_plain_216 : decode cX9_plain 216 = .ok (.iload 6, 2) := by decide +kernel
theorem dX9_plain_218 : decode cX9_plain 218 = .ok (.ifCond .ne 8, 3) := by decide +kernel
theorem dX9_plain_221 : decode cX9_plain 221 = .ok (.lload 10, 2) := by decide +kernel
theorem dX9_plain_223 : decode cX9_plain 223 = .ok (.goto 17, 3) := by decide +kernel
theorem dX9_plain_226 : decode cX9_plain 226 = .ok (.lload 10, 2) := by decide +kernel
theorem dX9_plain_228 : decode cX9_plain 228 = .ok (.bipush 8, 2) := by decide +kernel
theorem dX9_plain_230 : decode cX9_plain 230 = .ok (.lshl, 1) := by decide +kernel
theorem dX9_plain_231 : decode cX9_plain 231 = .ok (.ldc 49, 2) := by decide +kernel
theorem dX9_plain_233 : decode cX9_plain 233 = .ok (.iload 6, 2) := by decide +kernel
theorem dX9_plain_235 : decode cX9_plain 235 = .ok (.invokevirtual 51, 3) := by decide +kernel
theorem dX9_plain_238 : decode cX9_plain 238 = .ok (.i2l, 1) := by decide +kernel
theorem dX9_plain_239 : decode cX9_plain 239 = .ok (.lor, 1) := by decide +kernel
theorem dX9_plain_240 : decode cX9_plain 240 = .ok (.lreturn, 1) := by decide +kernel
def kX9_plain_88 (mc ms : Nat) (X : Nat → zV) (Q : zQt) : zT :=
  zla 3 <| zgR 0 1 <| zli 5 <| zal 1 <| zif (fun x => x = 0) (zc (.int 0) <| zj X 103 [0, 1, 2, 4, 5, 6, 8]) <| zc (.int 1) <| zj X 103 [0, 1, 2, 4, 5, 6, 8]
def kX9_plain_49 (mc ms : Nat) (X : Nat → zV) (Q : zQt) : zT :=
  zsi 7 <| zli 7 <| zif (fun x => x = 0) (zla 3 <| zgR 0 1 <| zli 4 <| zal 1 <| zc (.int 6) <| zla 3 <| zgi 0 4 <| zii (fun x y => x * y) <| zii (fun x y => x - y) <| zsiN 8 <| kX9_plain_88 mc ms X Q) <| zli 7 <| zif (fun x => x ≤ 0) (zc (.long 206916562224) <| zj X 70 []) <| zc (.long 3157296) <| zj X 70 []
def kX9_plain_41 (mc ms : Nat) (X : Nat → zV) (Q : zQt) : zT :=
  zla 3 <| zli 4 <| zli 5 <| zcv mc ms 0 2 wX0_castleStep <| kX9_plain_49 mc ms X Q
def kX9_plain_30 (mc ms : Nat) (X : Nat → zV) (Q : zQt) : zT :=
  zla 1 <| zgR 4 2 <| zli 2 <| zal 1 <| zc (.int 12) <| zii (fun x y => x >>> (y &&& 31)) <| zsiN 6 <| kX9_plain_41 mc ms X Q
def kX9_plain_16 (mc ms : Nat) (X : Nat → zV) (Q : zQt) : zT :=
  zla 1 <| zgR 4 2 <| zli 2 <| zal 1 <| zc (.int 6) <| zii (fun x y => x >>> (y &&& 31)) <| zc (.int 63) <| zii (fun x y => x &&& y) <| zsiN 5 <| kX9_plain_30 mc ms X Q
def kX9_plain_168 (mc ms : Nat) (X : Nat → zV) (Q : zQt) : zT :=
  zsl 10 <| zj X 170 [5, 6, 9, 10]
def kX9_plain_164 (mc ms : Nat) (X : Nat → zV) (Q : zQt) : zT :=
  zi2l <| zcv mc ms 9 3 wX9_origin <| kX9_plain_168 mc ms X Q
def kX9_plain_238 (mc ms : Nat) (X : Nat → zV) (Q : zQt) : zT :=
  zi2l <| zjj (fun x y => x ||| y) <| zj X 240 []
def kX9_plain_216 (mc ms : Nat) (X : Nat → zV) (Q : zQt) : zT :=
  zli 6 <| zif (fun x => x = 0) (zll 10 <| zj X 240 []) <| zll 10 <| zc (.int 8) <| zji (fun x y => x <<< (y.toInt64 &&& 63)) <| zgs 5 <| zli 6 <| zcx mc ms 1 wJ0_charAt_5068e <| kX9_plain_238 mc ms X Q
def aX9_plain_0 (mc ms : Nat) (X : Nat → zV) (Q : zQt) : zT :=
  zla 1 <| zgR 4 0 <| zsa 3 <| zla 1 <| zgR 4 2 <| zli 2 <| zal 1 <| zc (.int 63) <| zii (fun x y => x &&& y) <| zsiN 4 <| kX9_plain_16 mc ms X Q
def aX9_plain_70 (mc ms : Nat) (X : Nat → zV) (Q : zQt) : zT :=
  zrl Q
def aX9_plain_103 (mc ms : Nat) (X : Nat → zV) (Q : zQt) : zT :=
  zsi 9 <| zli 8 <| zc (.int 1) <| zic (fun x y => x = y) (zli 4 <| zc (.int 7) <| zii (fun x y => x &&& y) <| zli 5 <| zc (.int 7) <| zii (fun x y => x &&& y) <| zic (fun x y => x = y) (zc (.int 0) <| zj X 129 [4, 5, 6]) <| zc (.int 1) <| zj X 129 [4, 5, 6]) <| zla 0 <| zla 1 <| zli 2 <| zgs 5 <| zli 8 <| zcx mc ms 1 wJ0_charAt_5068e <| kX9_plain_164 mc ms X Q
def aX9_plain_129 (mc ms : Nat) (X : Nat → zV) (Q : zQt) : zT :=
  zsi 9 <| zli 9 <| zif (fun x => x = 0) (zc (.long 0) <| zj X 149 [5, 6, 9]) <| zc (.int 97) <| zli 4 <| zc (.int 7) <| zii (fun x y => x &&& y) <| zii (fun x y => x + y) <| zi2l <| zj X 149 [5, 6, 9]
def aX9_plain_149 (mc ms : Nat) (X : Nat → zV) (Q : zQt) : zT :=
  zsl 10 <| zj X 170 [5, 6, 9, 10]
def aX9_plain_170 (mc ms : Nat) (X : Nat → zV) (Q : zQt) : zT :=
  zli 9 <| zif (fun x => x = 0) (zj X 186 [5, 6, 10]) <| zll 10 <| zc (.int 8) <| zji (fun x y => x <<< (y.toInt64 &&& 63)) <| zc (.long 120) <| zjj (fun x y => x ||| y) <| zslN 10 <| zj X 186 [5, 6, 10]
def aX9_plain_186 (mc ms : Nat) (X : Nat → zV) (Q : zQt) : zT :=
  zll 10 <| zc (.int 8) <| zji (fun x y => x <<< (y.toInt64 &&& 63)) <| zc (.int 97) <| zli 5 <| zc (.int 7) <| zii (fun x y => x &&& y) <| zii (fun x y => x + y) <| zi2l <| zjj (fun x y => x ||| y) <| zc (.int 8) <| zji (fun x y => x <<< (y.toInt64 &&& 63)) <| zc (.int 49) <| zli 5 <| zc (.int 8) <| zid (fun x y => x / y) <| zii (fun x y => x + y) <| zi2l <| zjj (fun x y => x ||| y) <| zslN 10 <| kX9_plain_216 mc ms X Q
def aX9_plain_240 (mc ms : Nat) (X : Nat → zV) (Q : zQt) : zT :=
  zrl Q
def lvX9_plain : Nat → List Nat := fun L => match L with
  | 0 => [0, 1, 2]
  | 70 => []
  | 103 => [0, 1, 2, 4, 5, 6, 8]
  | 129 => [4, 5, 6]
  | 149 => [5, 6, 9]
  | 170 => [5, 6, 9, 10]
  | 186 => [5, 6, 10]
  | 240 => []
  | _ => []
def wX9_plain : zSp := fun mc ms av M Q => ((zlay av).length ≤ 12 ∧ zpick (zlay av) [0, 1, 2] = some av) ∧ ∀ X : Nat → zV, zin 12 [0, 1, 2] (aX9_plain_0 mc ms X Q) X 0 → zin 12 [] (aX9_plain_70 mc ms X Q) X 70 → zin 12 [0, 1, 2, 4, 5, 6, 8] (aX9_plain_103 mc ms X Q) X 103 → zin 12 [4, 5, 6] (aX9_plain_129 mc ms X Q) X 129 → zin 12 [5, 6, 9] (aX9_plain_149 mc ms X Q) X 149 → zin 12 [5, 6, 9, 10] (aX9_plain_170 mc ms X Q) X 170 → zin 12 [5, 6, 10] (aX9_plain_186 mc ms X Q) X 186 → zin 12 [] (aX9_plain_240 mc ms X Q) X 240 → X 0 0 0 av [] M
set_option maxRecDepth 100000 in
set_option maxHeartbeats 4000000 in
theorem sX9_plain (l : Launch) (G : zG) (hE : zXt G) : zSnd l G yX9_plain cX9_plain 12 (some .long) 4 85 wX9_plain := by
  refine zmk [0, 1, 2] (by decide) (fun mc ms av M Q h => h.1) ?_
  intro p e R s m args below meth c mc ms av M Q hC hRf hRl hr hnm h lv hlv
  obtain ⟨X, hXe⟩ : ∃ X : Nat → zV, X = fun L u v vs st M => ∀ lv, zpick lv (lvX9_plain L) = some vs → zAt p l e R s m args below meth c (MQ below (zQ G Q) args s mc ms (zA G)) G 12 L u v lv st M := ⟨_, rfl⟩
  have hJ : ∀ L, zOk p l e R s m args below meth c (MQ below (zQ G Q) args s mc ms (zA G)) G 12 L (zj X L (lvX9_plain L)) := fun L => S_jump (fun u v lv vs st M hp hx => by rw [hXe] at hx; exact hx lv hp)
  have hB0 : zin 12 [0, 1, 2] (aX9_plain_0 mc ms X Q) X 0 := by
    intro u v vs st M hb
    rw [hXe]
    refine fun lv hp => S_block (L := 0) (live := [0, 1, 2]) ?_ u v lv vs st M hp hb
    unfold aX9_plain_0
    refine S_aload_n (pc := 0) hC dX9_plain_0 rfl ?_
    refine S_getR (pc := 1) hC cfX4 (by decide) (Or.inl ⟨_, rfl⟩) wd_308 dX9_plain_1 ?_
    refine S_astore_n (pc := 4) hC dX9_plain_4 rfl (by decide) ?_
    refine S_aload_n (pc := 5) hC dX9_plain_5 rfl ?_
    refine S_getR (pc := 6) hC cfX4 (by decide) (Or.inr ⟨_, rfl⟩) wd_316 dX9_plain_6 ?_
    refine S_iload_n (pc := 9) hC dX9_plain_9 rfl ?_
    refine S_iaload (pc := 10) hC dX9_plain_10 ?_
    refine S_bipush (pc := 11) hC dX9_plain_11 (by decide) ?_
    refine S_iand (pc := 13) hC dX9_plain_13 ?_
    refine S_istore_N (pc := 14) hC dX9_plain_14 (by decide) ?_
    unfold kX9_plain_16
    refine S_aload_n (pc := 16) hC dX9_plain_16 rfl ?_
    refine S_getR (pc := 17) hC cfX4 (by decide) (Or.inr ⟨_, rfl⟩) wd_316 dX9_plain_17 ?_
    refine S_iload_n (pc := 20) hC dX9_plain_20 rfl ?_
    refine S_iaload (pc := 21) hC dX9_plain_21 ?_
    refine S_bipush (pc := 22) hC dX9_plain_22 (by decide) ?_
    refine S_ishr (pc := 24) hC dX9_plain_24 ?_
    refine S_bipush (pc := 25) hC dX9_plain_25 (by decide) ?_
    refine S_iand (pc := 27) hC dX9_plain_27 ?_
    refine S_istore_N (pc := 28) hC dX9_plain_28 (by decide) ?_
    unfold kX9_plain_30
    refine S_aload_n (pc := 30) hC dX9_plain_30 rfl ?_
    refine S_getR (pc := 31) hC cfX4 (by decide) (Or.inr ⟨_, rfl⟩) wd_316 dX9_plain_31 ?_
    refine S_iload_n (pc := 34) hC dX9_plain_34 rfl ?_
    refine S_iaload (pc := 35) hC dX9_plain_35 ?_
    refine S_bipush (pc := 36) hC dX9_plain_36 (by decide) ?_
    refine S_ishr (pc := 38) hC dX9_plain_38 ?_
    refine S_istore_N (pc := 39) hC dX9_plain_39 (by decide) ?_
    unfold kX9_plain_41
    refine S_aload_n (pc := 41) hC dX9_plain_41 rfl ?_
    refine S_iload (pc := 42) hC dX9_plain_42 ?_
    refine S_iload (pc := 44) hC dX9_plain_44 ?_
    refine S_callV (pc := 46) hC (sX0_castleStep l G) rfl wd_913 wd_418 wd_419 wd_10 wd_420 (by decide +kernel) ⟨by rw [hRf]; decide, by rw [hRl]; decide⟩ dX9_plain_46 ?_
    unfold kX9_plain_49
    refine S_istore (pc := 49) hC dX9_plain_49 (by decide) ?_
    refine S_iload (pc := 51) hC dX9_plain_51 ?_
    refine S_if_eq (pc := 53) (tgt := 71) hC dX9_plain_53 (by decide) ?_ ?_
    · refine S_aload_n (pc := 71) hC dX9_plain_71 rfl ?_
      refine S_getR (pc := 72) hC cfX0 (by decide) (Or.inr ⟨_, rfl⟩) wd_216 dX9_plain_72 ?_
      refine S_iload (pc := 75) hC dX9_plain_75 ?_
      refine S_iaload (pc := 77) hC dX9_plain_77 ?_
      refine S_bipush (pc := 78) hC dX9_plain_78 (by decide) ?_
      refine S_aload_n (pc := 80) hC dX9_plain_80 rfl ?_
      refine S_geti (pc := 81) hC cfX0 (by decide) (Or.inl rfl) wd_232 dX9_plain_81 ?_
      refine S_imul (pc := 84) hC dX9_plain_84 ?_
      refine S_isub (pc := 85) hC dX9_plain_85 ?_
      refine S_istore_N (pc := 86) hC dX9_plain_86 (by decide) ?_
      unfold kX9_plain_88
      refine S_aload_n (pc := 88) hC dX9_plain_88 rfl ?_
      refine S_getR (pc := 89) hC cfX0 (by decide) (Or.inr ⟨_, rfl⟩) wd_216 dX9_plain_89 ?_
      refine S_iload (pc := 92) hC dX9_plain_92 ?_
      refine S_iaload (pc := 94) hC dX9_plain_94 ?_
      refine S_if_eq (pc := 95) (tgt := 102) hC dX9_plain_95 (by decide) ?_ ?_
      · refine S_iconst (pc := 102) hC dX9_plain_102 (by decide) ?_
        exact hJ 103
      · refine S_iconst (pc := 98) hC dX9_plain_98 (by decide) ?_
        refine S_goto (pc := 99) (tgt := 103) hC dX9_plain_99 (by decide) ?_
        exact hJ 103
    · refine S_iload (pc := 56) hC dX9_plain_56 ?_
      refine S_if_le (pc := 58) (tgt := 67) hC dX9_plain_58 (by decide) ?_ ?_
      · refine S_ldc2 (pc := 67) hC wd_919 dX9_plain_67 ?_
        exact hJ 70
      · refine S_ldc2 (pc := 61) hC wd_918 dX9_plain_61 ?_
        refine S_goto (pc := 64) (tgt := 70) hC dX9_plain_64 (by decide) ?_
        exact hJ 70
  have hB70 : zin 12 [] (aX9_plain_70 mc ms X Q) X 70 := by
    intro u v vs st M hb
    rw [hXe]
    refine fun lv hp => S_block (L := 70) (live := []) ?_ u v lv vs st M hp hb
    unfold aX9_plain_70
    exact S_lreturn (pc := 70) hC hr dX9_plain_70
  have hB103 : zin 12 [0, 1, 2, 4, 5, 6, 8] (aX9_plain_103 mc ms X Q) X 103 := by
    intro u v vs st M hb
    rw [hXe]
    refine fun lv hp => S_block (L := 103) (live := [0, 1, 2, 4, 5, 6, 8]) ?_ u v lv vs st M hp hb
    unfold aX9_plain_103
    refine S_istore (pc := 103) hC dX9_plain_103 (by decide) ?_
    refine S_iload (pc := 105) hC dX9_plain_105 ?_
    refine S_iconst (pc := 107) hC dX9_plain_107 (by decide) ?_
    refine S_icmp_ne (pc := 108) (tgt := 154) hC dX9_plain_108 (by decide) ?_ ?_
    · refine S_aload_n (pc := 154) hC dX9_plain_154 rfl ?_
      refine S_aload_n (pc := 155) hC dX9_plain_155 rfl ?_
      refine S_iload_n (pc := 156) hC dX9_plain_156 rfl ?_
      refine S_ldcS (pc := 157) hC hE.2.1 (w := 0) (tx := " PNBRQKpnbrqk") (by decide) (by decide) dX9_plain_157 ?_
      refine S_iload (pc := 159) hC dX9_plain_159 ?_
      refine S_callX (pc := 161) hC hE.2.1 (sJ0_charAt_5068e l G hE) wd_921 wd_517 wd_518 wd_19 wd_519 (by decide +kernel) ⟨by rw [hRf]; decide, by rw [hRl]; decide⟩ dX9_plain_161 ?_
      unfold kX9_plain_164
      refine S_i2l (pc := 164) hC dX9_plain_164 ?_
      refine S_callV (pc := 165) hC (sX9_origin l G) rfl wd_922 wd_924 ws_39 wd_3 wd_925 (by decide +kernel) ⟨by rw [hRf]; decide, by rw [hRl]; decide⟩ dX9_plain_165 ?_
      unfold kX9_plain_168
      refine S_lstore (pc := 168) hC dX9_plain_168 (by decide) ?_
      exact hJ 170
    · refine S_iload (pc := 111) hC dX9_plain_111 ?_
      refine S_bipush (pc := 113) hC dX9_plain_113 (by decide) ?_
      refine S_iand (pc := 115) hC dX9_plain_115 ?_
      refine S_iload (pc := 116) hC dX9_plain_116 ?_
      refine S_bipush (pc := 118) hC dX9_plain_118 (by decide) ?_
      refine S_iand (pc := 120) hC dX9_plain_120 ?_
      refine S_icmp_eq (pc := 121) (tgt := 128) hC dX9_plain_121 (by decide) ?_ ?_
      · refine S_iconst (pc := 128) hC dX9_plain_128 (by decide) ?_
        exact hJ 129
      · refine S_iconst (pc := 124) hC dX9_plain_124 (by decide) ?_
        refine S_goto (pc := 125) (tgt := 129) hC dX9_plain_125 (by decide) ?_
        exact hJ 129
  have hB129 : zin 12 [4, 5, 6] (aX9_plain_129 mc ms X Q) X 129 := by
    intro u v vs st M hb
    rw [hXe]
    refine fun lv hp => S_block (L := 129) (live := [4, 5, 6]) ?_ u v lv vs st M hp hb
    unfold aX9_plain_129
    refine S_istore (pc := 129) hC dX9_plain_129 (by decide) ?_
    refine S_iload (pc := 131) hC dX9_plain_131 ?_
    refine S_if_eq (pc := 133) (tgt := 148) hC dX9_plain_133 (by decide) ?_ ?_
    · refine S_lconst (pc := 148) hC dX9_plain_148 (by decide) ?_
      exact hJ 149
    · refine S_bipush (pc := 136) hC dX9_plain_136 (by decide) ?_
      refine S_iload (pc := 138) hC dX9_plain_138 ?_
      refine S_bipush (pc := 140) hC dX9_plain_140 (by decide) ?_
      refine S_iand (pc := 142) hC dX9_plain_142 ?_
      refine S_iadd (pc := 143) hC dX9_plain_143 ?_
      refine S_i2l (pc := 144) hC dX9_plain_144 ?_
      refine S_goto (pc := 145) (tgt := 149) hC dX9_plain_145 (by decide) ?_
      exact hJ 149
  have hB149 : zin 12 [5, 6, 9] (aX9_plain_149 mc ms X Q) X 149 := by
    intro u v vs st M hb
    rw [hXe]
    refine fun lv hp => S_block (L := 149) (live := [5, 6, 9]) ?_ u v lv vs st M hp hb
    unfold aX9_plain_149
    refine S_lstore (pc := 149) hC dX9_plain_149 (by decide) ?_
    refine S_goto (pc := 151) (tgt := 170) hC dX9_plain_151 (by decide) ?_
    exact hJ 170
  have hB170 : zin 12 [5, 6, 9, 10] (aX9_plain_170 mc ms X Q) X 170 := by
    intro u v vs st M hb
    rw [hXe]
    refine fun lv hp => S_block (L := 170) (live := [5, 6, 9, 10]) ?_ u v lv vs st M hp hb
    unfold aX9_plain_170
    refine S_iload (pc := 170) hC dX9_plain_170 ?_
    refine S_if_eq (pc := 172) (tgt := 186) hC dX9_plain_172 (by decide) ?_ ?_
    · exact hJ 186
    · refine S_lload (pc := 175) hC dX9_plain_175 ?_
      refine S_bipush (pc := 177) hC dX9_plain_177 (by decide) ?_
      refine S_lshl (pc := 179) hC dX9_plain_179 ?_
      refine S_ldc2 (pc := 180) hC wd_926 dX9_plain_180 ?_
      refine S_lor (pc := 183) hC dX9_plain_183 ?_
      refine S_lstore_N (pc := 184) hC dX9_plain_184 (by decide) ?_
      exact hJ 186
  have hB186 : zin 12 [5, 6, 10] (aX9_plain_186 mc ms X Q) X 186 := by
    intro u v vs st M hb
    rw [hXe]
    refine fun lv hp => S_block (L := 186) (live := [5, 6, 10]) ?_ u v lv vs st M hp hb
    unfold aX9_plain_186
    refine S_lload (pc := 186) hC dX9_plain_186 ?_
    refine S_bipush (pc := 188) hC dX9_plain_188 (by decide) ?_
    refine S_lshl (pc := 190) hC dX9_plain_190 ?_
    refine S_bipush (pc := 191) hC dX9_plain_191 (by decide) ?_
    refine S_iload (pc := 193) hC dX9_plain_193 ?_
    refine S_bipush (pc := 195) hC dX9_plain_195 (by decide) ?_
    refine S_iand (pc := 197) hC dX9_plain_197 ?_
    refine S_iadd (pc := 198) hC dX9_plain_198 ?_
    refine S_i2l (pc := 199) hC dX9_plain_199 ?_
    refine S_lor (pc := 200) hC dX9_plain_200 ?_
    refine S_bipush (pc := 201) hC dX9_plain_201 (by decide) ?_
    refine S_lshl (pc := 203) hC dX9_plain_203 ?_
    refine S_bipush (pc := 204) hC dX9_plain_204 (by decide) ?_
    refine S_iload (pc := 206) hC dX9_plain_206 ?_
    refine S_bipush (pc := 208) hC dX9_plain_208 (by decide) ?_
    refine S_idiv (pc := 210) hC dX9_plain_210 ?_
    refine S_iadd (pc := 211) hC dX9_plain_211 ?_
    refine S_i2l (pc := 212) hC dX9_plain_212 ?_
    refine S_lor (pc := 213) hC dX9_plain_213 ?_
    refine S_lstore_N (pc := 214) hC dX9_plain_214 (by decide) ?_
    unfold kX9_plain_216
    refine S_iload (pc := 216) hC dX9_plain_216 ?_
    refine S_if_ne (pc := 218) (tgt := 226) hC dX9_plain_218 (by decide) ?_ ?_
    · refine S_lload (pc := 226) hC dX9_plain_226 ?_
      refine S_bipush (pc := 228) hC dX9_plain_228 (by decide) ?_
      refine S_lshl (pc := 230) hC dX9_plain_230 ?_
      refine S_ldcS (pc := 231) hC hE.2.1 (w := 0) (tx := " PNBRQKpnbrqk") (by decide) (by decide) dX9_plain_231 ?_
      refine S_iload (pc := 233) hC dX9_plain_233 ?_
      refine S_callX (pc := 235) hC hE.2.1 (sJ0_charAt_5068e l G hE) wd_921 wd_517 wd_518 wd_19 wd_519 (by decide +kernel) ⟨by rw [hRf]; decide, by rw [hRl]; decide⟩ dX9_plain_235 ?_
      unfold kX9_plain_238
      refine S_i2l (pc := 238) hC dX9_plain_238 ?_
      refine S_lor (pc := 239) hC dX9_plain_239 ?_
      exact hJ 240
    · refine S_lload (pc := 221) hC dX9_plain_221 ?_
      refine S_goto (pc := 223) (tgt := 240) hC dX9_plain_223 (by decide) ?_
      exact hJ 240
  have hB240 : zin 12 [] (aX9_plain_240 mc ms X Q) X 240 := by
    intro u v vs st M hb
    rw [hXe]
    refine fun lv hp => S_block (L := 240) (live := []) ?_ u v lv vs st M hp hb
    unfold aX9_plain_240
    exact S_lreturn (pc := 240) hC hr dX9_plain_240
  have := h.2 X hB0 hB70 hB103 hB129 hB149 hB170 hB186 hB240
  rw [hXe] at this
  exact this lv hlv
theorem vcX9_plain_41 {mc ms : Nat} {X : Nat → zV} {Q : zQt} {M : zM} {g : Nat} {x2 : Int32} {x4 : Int32} {x5 : Int32} {x6 : Int32} (hW : zWd M g)  (h : wX0_castleStep 0 0 [.ref (g + 1), .int x4, .int x5] M (fun r M1 => kX9_plain_49 mc ms X Q 0 0 [some (.ref 25), some (.ref g), some (.int x2), some (.ref (g + 1)), some (.int x4), some (.int x5), some (.int x6), none, none, none, none, none] (r.toList ++ []) M1)) : kX9_plain_41 mc ms X Q 0 0 [some (.ref 25), some (.ref g), some (.int x2), some (.ref (g + 1)), some (.int x4), some (.int x5), some (.int x6), none, none, none, none, none] [] M := ⟨Nat.le_of_ble_eq_true rfl, rfl, (fgs_1 hW), 0, 0, Nat.zero_le _, Nat.zero_le _, h⟩
theorem vcX9_plain_30 {mc ms : Nat} {X : Nat → zV} {Q : zQt} {M : zM} {g : Nat} {x2 : Int32} {x4 : Int32} {x5 : Int32} (hW : zWd M g)  (h : vp_in x2 384 ∧ ∀ y39 : Int32, y39 = (((M : zM).1 ((g + 7)) (x2 : Int32).toNatClampNeg) >>> ((12 : Int32) &&& 31)) → wX0_castleStep 0 0 [.ref (g + 1), .int x4, .int x5] M (fun r M1 => kX9_plain_49 mc ms X Q 0 0 [some (.ref 25), some (.ref g), some (.int x2), some (.ref (g + 1)), some (.int x4), some (.int x5), some (.int y39), none, none, none, none, none] (r.toList ++ []) M1)) : kX9_plain_30 mc ms X Q 0 0 [some (.ref 25), some (.ref g), some (.int x2), some (.ref (g + 1)), some (.int x4), some (.int x5), none, none, none, none, none, none] [] M := ⟨(fgs_0 hW), (g + 7), (fgr_0_2 hW), ⟨384, (fgs_7 hW), h.1, (fun y39 e39 => have h39 := h.2 y39 e39; (vcX9_plain_41 hW  h39))⟩⟩
theorem vcX9_plain_16 {mc ms : Nat} {X : Nat → zV} {Q : zQt} {M : zM} {g : Nat} {x2 : Int32} {x4 : Int32} (hW : zWd M g)  (h : vp_in x2 384 ∧ ∀ y28 : Int32, y28 = ((((M : zM).1 ((g + 7)) (x2 : Int32).toNatClampNeg) >>> ((6 : Int32) &&& 31)) &&& (63 : Int32)) → vp_in x2 384 ∧ ∀ y39 : Int32, y39 = (((M : zM).1 ((g + 7)) (x2 : Int32).toNatClampNeg) >>> ((12 : Int32) &&& 31)) → wX0_castleStep 0 0 [.ref (g + 1), .int x4, .int y28] M (fun r M1 => kX9_plain_49 mc ms X Q 0 0 [some (.ref 25), some (.ref g), some (.int x2), some (.ref (g + 1)), some (.int x4), some (.int y28), some (.int y39), none, none, none, none, none] (r.toList ++ []) M1)) : kX9_plain_16 mc ms X Q 0 0 [some (.ref 25), some (.ref g), some (.int x2), some (.ref (g + 1)), some (.int x4), none, none, none, none, none, none, none] [] M := ⟨(fgs_0 hW), (g + 7), (fgr_0_2 hW), ⟨384, (fgs_7 hW), h.1, (fun y28 e28 => have h28 := h.2 y28 e28; (vcX9_plain_30 hW  h28))⟩⟩
theorem vX9_plain_0 {mc ms : Nat} {X : Nat → zV} {Q : zQt} {M : zM} {g : Nat} {x2 : Int32} (hW : zWd M g)  (h : vp_in x2 384 ∧ ∀ y14 : Int32, y14 = (((M : zM).1 ((g + 7)) (x2 : Int32).toNatClampNeg) &&& (63 : Int32)) → vp_in x2 384 ∧ ∀ y28 : Int32, y28 = ((((M : zM).1 ((g + 7)) (x2 : Int32).toNatClampNeg) >>> ((6 : Int32) &&& 31)) &&& (63 : Int32)) → vp_in x2 384 ∧ ∀ y39 : Int32, y39 = (((M : zM).1 ((g + 7)) (x2 : Int32).toNatClampNeg) >>> ((12 : Int32) &&& 31)) → wX0_castleStep 0 0 [.ref (g + 1), .int y14, .int y28] M (fun r M1 => kX9_plain_49 mc ms X Q 0 0 [some (.ref 25), some (.ref g), some (.int x2), some (.ref (g + 1)), some (.int y14), some (.int y28), some (.int y39), none, none, none, none, none] (r.toList ++ []) M1)) : aX9_plain_0 mc ms X Q 0 0 [some (.ref 25), some (.ref g), some (.int x2), none, none, none, none, none, none, none, none, none] [] M := ⟨(fgs_0 hW), (g + 1), (fgr_0_0 hW), ⟨(fgs_0 hW), (g + 7), (fgr_0_2 hW), ⟨384, (fgs_7 hW), h.1, (fun y14 e14 => have h14 := h.2 y14 e14; (vcX9_plain_16 hW  h14))⟩⟩⟩
theorem vX9_plain_70 {mc ms : Nat} {X : Nat → zV} {Q : zQt} {M : zM} {g : Nat} {s0 : Int64} (hW : zWd M g)  (h : Q (some (.long s0)) M) : aX9_plain_70 mc ms X Q 0 0 [none, none, none, none, none, none, none, none, none, none, none, none] [.long s0] M := h
theorem vX9_plain_103 {mc ms : Nat} {X : Nat → zV} {Q : zQt} {M : zM} {g : Nat} {x2 : Int32} {x4 : Int32} {x5 : Int32} {x6 : Int32} {x8 : Int32} {s0 : Int32} (hW : zWd M g)  (h : (x8 = (1 : Int32) → ((x4 &&& (7 : Int32)) = (x5 &&& (7 : Int32)) → X 129 0 0 [.int x4, .int x5, .int x6] [.int 0] M) ∧ (¬ (x4 &&& (7 : Int32)) = (x5 &&& (7 : Int32)) → X 129 0 0 [.int x4, .int x5, .int x6] [.int 1] M)) ∧ (¬ x8 = (1 : Int32) → wJ0_charAt_5068e 0 0 [.ref 5, .int x8] M (fun r M1 => kX9_plain_164 mc ms X Q 0 0 [some (.ref 25), some (.ref g), some (.int x2), none, some (.int x4), some (.int x5), some (.int x6), none, some (.int x8), some (.int s0), none, none] (r.toList ++ [.int x2, .ref g, .ref 25]) M1))) : aX9_plain_103 mc ms X Q 0 0 [some (.ref 25), some (.ref g), some (.int x2), none, some (.int x4), some (.int x5), some (.int x6), none, some (.int x8), none, none, none] [.int s0] M := ⟨fun c108 => ⟨fun c121 => ((h.1 c108).1 c121), fun c121 => ((h.1 c108).2 c121)⟩, fun c108 => ⟨Nat.le_of_ble_eq_true rfl, rfl, Or.inl rfl, 0, 0, Nat.zero_le _, Nat.zero_le _, (h.2 c108)⟩⟩
theorem vX9_plain_129 {mc ms : Nat} {X : Nat → zV} {Q : zQt} {M : zM} {g : Nat} {x4 : Int32} {x5 : Int32} {x6 : Int32} {s0 : Int32} (hW : zWd M g)  (h : (s0 = 0 → X 149 0 0 [.int x5, .int x6, .int s0] [.long 0] M) ∧ (¬ s0 = 0 → X 149 0 0 [.int x5, .int x6, .int s0] [.long (((97 : Int32) + (x4 &&& (7 : Int32))) : Int32).toInt64] M)) : aX9_plain_129 mc ms X Q 0 0 [none, none, none, none, some (.int x4), some (.int x5), some (.int x6), none, none, none, none, none] [.int s0] M := ⟨fun c133 => (h.1 c133), fun c133 => (h.2 c133)⟩
theorem vX9_plain_149 {mc ms : Nat} {X : Nat → zV} {Q : zQt} {M : zM} {g : Nat} {x5 : Int32} {x6 : Int32} {x9 : Int32} {s0 : Int64} (hW : zWd M g)  (h : X 170 0 0 [.int x5, .int x6, .int x9, .long s0] [] M) : aX9_plain_149 mc ms X Q 0 0 [none, none, none, none, none, some (.int x5), some (.int x6), none, none, some (.int x9), none, none] [.long s0] M := h
theorem vX9_plain_170 {mc ms : Nat} {X : Nat → zV} {Q : zQt} {M : zM} {g : Nat} {x5 : Int32} {x6 : Int32} {x9 : Int32} {x10 : Int64} (hW : zWd M g)  (h : (x9 = 0 → X 186 0 0 [.int x5, .int x6, .long x10] [] M) ∧ (¬ x9 = 0 → ∀ y184 : Int64, y184 = ((x10 <<< ((8 : Int32).toInt64 &&& 63)) ||| (120 : Int64)) → X 186 0 0 [.int x5, .int x6, .long y184] [] M)) : aX9_plain_170 mc ms X Q 0 0 [none, none, none, none, none, some (.int x5), some (.int x6), none, none, some (.int x9), some (.long x10), none] [] M := ⟨fun c172 => (h.1 c172), fun c172 => (fun y184 e184 => have h184 := (h.2 c172) y184 e184; h184)⟩
theorem vcX9_plain_216 {mc ms : Nat} {X : Nat → zV} {Q : zQt} {M : zM} {g : Nat} {x5 : Int32} {x6 : Int32} {x10 : Int64} (hW : zWd M g)  (h : (x6 = 0 → X 240 0 0 [] [.long x10] M) ∧ (¬ x6 = 0 → wJ0_charAt_5068e 0 0 [.ref 5, .int x6] M (fun r M1 => kX9_plain_238 mc ms X Q 0 0 [none, none, none, none, none, some (.int x5), some (.int x6), none, none, none, some (.long x10), none] (r.toList ++ [.long (x10 <<< ((8 : Int32).toInt64 &&& 63))]) M1))) : kX9_plain_216 mc ms X Q 0 0 [none, none, none, none, none, some (.int x5), some (.int x6), none, none, none, some (.long x10), none] [] M := ⟨fun c218 => (h.1 c218), fun c218 => ⟨Nat.le_of_ble_eq_true rfl, rfl, Or.inl rfl, 0, 0, Nat.zero_le _, Nat.zero_le _, (h.2 c218)⟩⟩
theorem vX9_plain_186 {mc ms : Nat} {X : Nat → zV} {Q : zQt} {M : zM} {g : Nat} {x5 : Int32} {x6 : Int32} {x10 : Int64} (hW : zWd M g)  (h : ∀ y214 : Int64, y214 = ((((x10 <<< ((8 : Int32).toInt64 &&& 63)) ||| (((97 : Int32) + (x5 &&& (7 : Int32))) : Int32).toInt64) <<< ((8 : Int32).toInt64 &&& 63)) ||| (((49 : Int32) + (x5 / (8 : Int32))) : Int32).toInt64) → (x6 = 0 → X 240 0 0 [] [.long y214] M) ∧ (¬ x6 = 0 → wJ0_charAt_5068e 0 0 [.ref 5, .int x6] M (fun r M1 => kX9_plain_238 mc ms X Q 0 0 [none, none, none, none, none, some (.int x5), some (.int x6), none, none, none, some (.long y214), none] (r.toList ++ [.long (y214 <<< ((8 : Int32).toInt64 &&& 63))]) M1))) : aX9_plain_186 mc ms X Q 0 0 [none, none, none, none, none, some (.int x5), some (.int x6), none, none, none, some (.long x10), none] [] M := ⟨by decide, (fun y214 e214 => have h214 := h y214 e214; (vcX9_plain_216 hW  h214))⟩
theorem vX9_plain_240 {mc ms : Nat} {X : Nat → zV} {Q : zQt} {M : zM} {g : Nat} {s0 : Int64} (hW : zWd M g)  (h : Q (some (.long s0)) M) : aX9_plain_240 mc ms X Q 0 0 [none, none, none, none, none, none, none, none, none, none, none, none] [.long s0] M := h
theorem vcX9_plain_88 {mc ms : Nat} {X : Nat → zV} {Q : zQt} {M : zM} {g : Nat} {x2 : Int32} {x4 : Int32} {x5 : Int32} {x6 : Int32} {x7 : Int32} {x8 : Int32} (hW : zWd M g)  (h : vp_in x5 64 ∧ (((M : zM).1 ((g + 2)) (x5 : Int32).toNatClampNeg) = 0 → X 103 0 0 [.ref 25, .ref g, .int x2, .int x4, .int x5, .int x6, .int x8] [.int 0] M) ∧ (¬ ((M : zM).1 ((g + 2)) (x5 : Int32).toNatClampNeg) = 0 → X 103 0 0 [.ref 25, .ref g, .int x2, .int x4, .int x5, .int x6, .int x8] [.int 1] M)) : kX9_plain_88 mc ms X Q 0 0 [some (.ref 25), some (.ref g), some (.int x2), some (.ref (g + 1)), some (.int x4), some (.int x5), some (.int x6), some (.int x7), some (.int x8), none, none, none] [] M := ⟨(fgs_1 hW), (g + 2), (fgr_1_1 hW), ⟨64, (fgs_2 hW), h.1, ⟨fun c95 => (h.2.1 c95), fun c95 => (h.2.2 c95)⟩⟩⟩
theorem vkX9_plain_49 {mc ms : Nat} {X : Nat → zV} {Q : zQt} {M : zM} {g : Nat} {x2 : Int32} {x4 : Int32} {x5 : Int32} {x6 : Int32} {s0 : Int32} (hW : zWd M g)  (h : (s0 = 0 → vp_in x4 64 ∧ ∀ y86 : Int32, y86 = (((M : zM).1 ((g + 2)) (x4 : Int32).toNatClampNeg) - ((6 : Int32) * (M.1 ((g + 1)) 4))) → vp_in x5 64 ∧ (((M : zM).1 ((g + 2)) (x5 : Int32).toNatClampNeg) = 0 → X 103 0 0 [.ref 25, .ref g, .int x2, .int x4, .int x5, .int x6, .int y86] [.int 0] M) ∧ (¬ ((M : zM).1 ((g + 2)) (x5 : Int32).toNatClampNeg) = 0 → X 103 0 0 [.ref 25, .ref g, .int x2, .int x4, .int x5, .int x6, .int y86] [.int 1] M)) ∧ (¬ s0 = 0 → (s0 ≤ 0 → X 70 0 0 [] [.long 206916562224] M) ∧ (¬ s0 ≤ 0 → X 70 0 0 [] [.long 3157296] M))) : kX9_plain_49 mc ms X Q 0 0 [some (.ref 25), some (.ref g), some (.int x2), some (.ref (g + 1)), some (.int x4), some (.int x5), some (.int x6), none, none, none, none, none] [.int s0] M := ⟨fun c53 => ⟨(fgs_1 hW), (g + 2), (fgr_1_1 hW), ⟨64, (fgs_2 hW), (h.1 c53).1, ⟨(fgs_1 hW), (fun y86 e86 => have h86 := (h.1 c53).2 y86 e86; (vcX9_plain_88 hW  h86))⟩⟩⟩, fun c53 => ⟨fun c58 => ((h.2 c53).1 c58), fun c58 => ((h.2 c53).2 c58)⟩⟩
theorem vkX9_plain_164 {mc ms : Nat} {X : Nat → zV} {Q : zQt} {M : zM} {g : Nat} {x2 : Int32} {x4 : Int32} {x5 : Int32} {x6 : Int32} {x8 : Int32} {x9 : Int32} {s0 : Int32} {s1 : Int32} (hW : zWd M g)  (h : wX9_origin 0 0 [.ref 25, .ref g, .int s1, .long (s0 : Int32).toInt64] M (fun r M1 => kX9_plain_168 mc ms X Q 0 0 [some (.ref 25), some (.ref g), some (.int x2), none, some (.int x4), some (.int x5), some (.int x6), none, some (.int x8), some (.int x9), none, none] (r.toList ++ []) M1)) : kX9_plain_164 mc ms X Q 0 0 [some (.ref 25), some (.ref g), some (.int x2), none, some (.int x4), some (.int x5), some (.int x6), none, some (.int x8), some (.int x9), none, none] [.int s0, .int s1, .ref g, .ref 25] M := ⟨Nat.le_of_ble_eq_true rfl, rfl, (fxs_25 hW.1), 0, 0, Nat.zero_le _, Nat.zero_le _, h⟩
theorem vkX9_plain_168 {mc ms : Nat} {X : Nat → zV} {Q : zQt} {M : zM} {g : Nat} {x2 : Int32} {x4 : Int32} {x5 : Int32} {x6 : Int32} {x8 : Int32} {x9 : Int32} {s0 : Int64} (hW : zWd M g)  (h : X 170 0 0 [.int x5, .int x6, .int x9, .long s0] [] M) : kX9_plain_168 mc ms X Q 0 0 [some (.ref 25), some (.ref g), some (.int x2), none, some (.int x4), some (.int x5), some (.int x6), none, some (.int x8), some (.int x9), none, none] [.long s0] M := h
theorem vkX9_plain_238 {mc ms : Nat} {X : Nat → zV} {Q : zQt} {M : zM} {g : Nat} {x5 : Int32} {x6 : Int32} {x10 : Int64} {s0 : Int32} {s1 : Int64} (hW : zWd M g)  (h : X 240 0 0 [] [.long (s1 ||| (s0 : Int32).toInt64)] M) : kX9_plain_238 mc ms X Q 0 0 [none, none, none, none, none, some (.int x5), some (.int x6), none, none, none, some (.long x10), none] [.int s0, .long s1] M := h
theorem dX9_choose_0 : decode cX9_choose 0 = .ok (.iconst 0, 1) := by decide +kernel
theorem dX9_choose_1 : decode cX9_choose 1 = .ok (.istore_n 3, 1) := by decide +kernel
theorem dX9_choose_2 : decode cX9_choose 2 = .ok (.iconst 0, 1) := by decide +kernel
theorem dX9_choose_3 : decode cX9_choose 3 = .ok (.istore 4, 2) := by decide +kernel
theorem dX9_choose_5 : decode cX9_choose 5 = .ok (.iload 4, 2) := by decide +kernel
theorem dX9_choose_7 : decode cX9_choose 7 = .ok (.aload_n 1, 1) := by decide +kernel
theorem dX9_choose_8 : decode cX9_choose 8 = .ok (.getfield 63, 3) := by decide +kernel
theorem dX9_choose_11 : decode cX9_choose 11 = .ok (.if_icmp .ge 45, 3) := by decide +kernel
theorem dX9_choose_14 : decode cX9_choose 14 = .ok (.aload_n 0, 1) := by decide +kernel
theorem dX9_choose_15 : decode cX9_choose 15 = .ok (.aload_n 1, 1) := by decide +kernel
theorem dX9_choose_16 : decode cX9_choose 16 = .ok (.aload_n 2, 1) := by decide +kernel
theorem dX9_choose_17 : decode cX9_choose 17 = .ok (.aload_n 1, 1) := by decide +kernel
theorem dX9_choose_18 : decode cX9_choose 18 = .ok (.getfield 19, 3) := by decide +kernel
theorem dX9_choose_21 : decode cX9_choose 21 = .ok (.iload 4, 2) := by decide +kernel
theorem dX9_choose_23 : decode cX9_choose 23 = .ok (.iaload, 1) := by decide +kernel
theorem dX9_choose_24 : decode cX9_choose 24 = .ok (.invokevirtual 87, 3) := by decide +kernel
theorem dX9_choose_27 : decode cX9_choose 27 = .ok (.ifCond .eq 23, 3) := by decide +kernel
theorem dX9_choose_30 : decode cX9_choose 30 = .ok (.aload_n 0, 1) := by decide +kernel
theorem dX9_choose_31 : decode cX9_choose 31 = .ok (.aload_n 1, 1) := by decide +kernel
theorem dX9_choose_32 : decode cX9_choose 32 = .ok (.iload 4, 2) := by decide +kernel
theorem dX9_choose_34 : decode cX9_choose 34 = .ok (.invokevirtual 15, 3) := by decide +kernel
theorem dX9_choose_37 : decode cX9_choose 37 = .ok (.aload_n 2, 1) := by decide +kernel
theorem dX9_choose_38 : decode cX9_choose 38 = .ok (.getfield 91, 3) := by decide +kernel
theorem dX9_choose_41 : decode cX9_choose 41 = .ok (.lcmp, 1) := by decide +kernel
theorem dX9_choose_42 : decode cX9_choose 42 = .ok (.ifCond .ne 6, 3) := by decide +kernel
theorem dX9_choose_45 : decode cX9_choose 45 = .ok (.iload 4, 2) := by decide +kernel
theorem dX9_choose_47 : decode cX9_choose 47 = .ok (.ireturn, 1) := by decide +kernel
theorem dX9_choose_48 : decode cX9_choose 48 = .ok (.iconst 1, 1) := by decide +kernel
theorem dX9_choose_49 : decode cX9_choose 49 = .ok (.istore_n 3, 1) := by decide +kernel
theorem dX9_choose_50 : decode cX9_choose 50 = .ok (.iinc 4 1, 3) := by decide +kernel
theorem dX9_choose_53 : decode cX9_choose 53 = .ok (.goto (-48), 3) := by decide +kernel
theorem dX9_choose_56 : decode cX9_choose 56 = .ok (.iload_n 3, 1) := by decide +kernel
theorem dX9_choose_57 : decode cX9_choose 57 = .ok (.ifCond .eq 8, 3) := by decide +kernel
theorem dX9_choose_60 : decode cX9_choose 60 = .ok (.bipush (-23), 2) := by decide +kernel
theorem dX9_choose_62 : decode cX9_choose 62 = .ok (.goto 5, 3) := by decide +kernel
theorem dX9_choose_65 : decode cX9_choose 65 = .ok (.bipush (-22), 2) := by decide +kernel
theorem dX9_choose_67 : decode cX9_choose 67 = .ok (.ireturn, 1) := by decide +kernel
def kX9_choose_37 (mc ms : Nat) (X : Nat → zV) (Q : zQt) : zT :=
  zla 2 <| zgl 10 4 <| zlc <| zif (fun x => x = 0) (zli 4 <| zri Q) <| zc (.int 1) <| zsi 3 <| zj X 50 [0, 1, 2, 3, 4]
def kX9_choose_27 (mc ms : Nat) (X : Nat → zV) (Q : zQt) : zT :=
  zif (fun x => x = 0) (zj X 50 [0, 1, 2, 3, 4]) <| zla 0 <| zla 1 <| zli 4 <| zcv mc ms 9 2 wX9_plain <| kX9_choose_37 mc ms X Q
def aX9_choose_0 (mc ms : Nat) (X : Nat → zV) (Q : zQt) : zT :=
  zc (.int 0) <| zsi 3 <| zc (.int 0) <| zsi 4 <| zj X 5 [0, 1, 2, 3, 4]
def aX9_choose_5 (mc ms : Nat) (X : Nat → zV) (Q : zQt) : zT :=
  zli 4 <| zla 1 <| zgi 4 3 <| zic (fun x y => y ≤ x) (zli 3 <| zif (fun x => x = 0) (zc (.int (-22)) <| zj X 67 []) <| zc (.int (-23)) <| zj X 67 []) <| zla 0 <| zla 1 <| zla 2 <| zla 1 <| zgR 4 2 <| zli 4 <| zal 1 <| zcv mc ms 9 3 wX9_means <| kX9_choose_27 mc ms X Q
def aX9_choose_50 (mc ms : Nat) (X : Nat → zV) (Q : zQt) : zT :=
  zinc 4 1 <| zj X 5 [0, 1, 2, 3, 4]
def aX9_choose_67 (mc ms : Nat) (X : Nat → zV) (Q : zQt) : zT :=
  zri Q
def lvX9_choose : Nat → List Nat := fun L => match L with
  | 0 => [0, 1, 2]
  | 5 => [0, 1, 2, 3, 4]
  | 50 => [0, 1, 2, 3, 4]
  | 67 => []
  | _ => []
def wX9_choose : zSp := fun mc ms av M Q => ((zlay av).length ≤ 5 ∧ zpick (zlay av) [0, 1, 2] = some av) ∧ ∀ X : Nat → zV, zin 5 [0, 1, 2] (aX9_choose_0 mc ms X Q) X 0 → zin 5 [0, 1, 2, 3, 4] (aX9_choose_5 mc ms X Q) X 5 → zin 5 [0, 1, 2, 3, 4] (aX9_choose_50 mc ms X Q) X 50 → zin 5 [] (aX9_choose_67 mc ms X Q) X 67 → X 0 0 0 av [] M
set_option maxRecDepth 100000 in
set_option maxHeartbeats 4000000 in
theorem sX9_choose (l : Launch) (G : zG) (hE : zXt G) : zSnd l G yX9_choose cX9_choose 5 (some .int) 5 116 wX9_choose := by
  refine zmk [0, 1, 2] (by decide) (fun mc ms av M Q h => h.1) ?_
  intro p e R s m args below meth c mc ms av M Q hC hRf hRl hr hnm h lv hlv
  obtain ⟨X, hXe⟩ : ∃ X : Nat → zV, X = fun L u v vs st M => ∀ lv, zpick lv (lvX9_choose L) = some vs → zAt p l e R s m args below meth c (MQ below (zQ G Q) args s mc ms (zA G)) G 5 L u v lv st M := ⟨_, rfl⟩
  have hJ : ∀ L, zOk p l e R s m args below meth c (MQ below (zQ G Q) args s mc ms (zA G)) G 5 L (zj X L (lvX9_choose L)) := fun L => S_jump (fun u v lv vs st M hp hx => by rw [hXe] at hx; exact hx lv hp)
  have hB0 : zin 5 [0, 1, 2] (aX9_choose_0 mc ms X Q) X 0 := by
    intro u v vs st M hb
    rw [hXe]
    refine fun lv hp => S_block (L := 0) (live := [0, 1, 2]) ?_ u v lv vs st M hp hb
    unfold aX9_choose_0
    refine S_iconst (pc := 0) hC dX9_choose_0 (by decide) ?_
    refine S_istore_n (pc := 1) hC dX9_choose_1 rfl (by decide) ?_
    refine S_iconst (pc := 2) hC dX9_choose_2 (by decide) ?_
    refine S_istore (pc := 3) hC dX9_choose_3 (by decide) ?_
    exact hJ 5
  have hB5 : zin 5 [0, 1, 2, 3, 4] (aX9_choose_5 mc ms X Q) X 5 := by
    intro u v vs st M hb
    rw [hXe]
    refine fun lv hp => S_block (L := 5) (live := [0, 1, 2, 3, 4]) ?_ u v lv vs st M hp hb
    unfold aX9_choose_5
    refine S_iload (pc := 5) hC dX9_choose_5 ?_
    refine S_aload_n (pc := 7) hC dX9_choose_7 rfl ?_
    refine S_geti (pc := 8) hC cfX4 (by decide) (Or.inl rfl) wd_324 dX9_choose_8 ?_
    refine S_icmp_ge (pc := 11) (tgt := 56) hC dX9_choose_11 (by decide) ?_ ?_
    · refine S_iload_n (pc := 56) hC dX9_choose_56 rfl ?_
      refine S_if_eq (pc := 57) (tgt := 65) hC dX9_choose_57 (by decide) ?_ ?_
      · refine S_bipush (pc := 65) hC dX9_choose_65 (by decide) ?_
        exact hJ 67
      · refine S_bipush (pc := 60) hC dX9_choose_60 (by decide) ?_
        refine S_goto (pc := 62) (tgt := 67) hC dX9_choose_62 (by decide) ?_
        exact hJ 67
    · refine S_aload_n (pc := 14) hC dX9_choose_14 rfl ?_
      refine S_aload_n (pc := 15) hC dX9_choose_15 rfl ?_
      refine S_aload_n (pc := 16) hC dX9_choose_16 rfl ?_
      refine S_aload_n (pc := 17) hC dX9_choose_17 rfl ?_
      refine S_getR (pc := 18) hC cfX4 (by decide) (Or.inr ⟨_, rfl⟩) wd_316 dX9_choose_18 ?_
      refine S_iload (pc := 21) hC dX9_choose_21 ?_
      refine S_iaload (pc := 23) hC dX9_choose_23 ?_
      refine S_callV (pc := 24) hC (sX9_means l G) rfl wd_909 wd_911 ws_37 wd_3 wd_912 (by decide +kernel) ⟨by rw [hRf]; decide, by rw [hRl]; decide⟩ dX9_choose_24 ?_
      unfold kX9_choose_27
      refine S_if_eq (pc := 27) (tgt := 50) hC dX9_choose_27 (by decide) ?_ ?_
      · exact hJ 50
      · refine S_aload_n (pc := 30) hC dX9_choose_30 rfl ?_
        refine S_aload_n (pc := 31) hC dX9_choose_31 rfl ?_
        refine S_iload (pc := 32) hC dX9_choose_32 ?_
        refine S_callV (pc := 34) hC (sX9_plain l G hE) rfl wd_914 wd_916 ws_38 wd_3 wd_917 (by decide +kernel) ⟨by rw [hRf]; decide, by rw [hRl]; decide⟩ dX9_choose_34 ?_
        unfold kX9_choose_37
        refine S_aload_n (pc := 37) hC dX9_choose_37 rfl ?_
        refine S_getl (pc := 38) hC cfX10 (by decide) rfl wd_122 dX9_choose_38 ?_
        refine S_lcmp (pc := 41) hC dX9_choose_41 ?_
        refine S_if_ne (pc := 42) (tgt := 48) hC dX9_choose_42 (by decide) ?_ ?_
        · refine S_iconst (pc := 48) hC dX9_choose_48 (by decide) ?_
          refine S_istore_n (pc := 49) hC dX9_choose_49 rfl (by decide) ?_
          exact hJ 50
        · refine S_iload (pc := 45) hC dX9_choose_45 ?_
          exact S_ireturn (pc := 47) hC hr dX9_choose_47
  have hB50 : zin 5 [0, 1, 2, 3, 4] (aX9_choose_50 mc ms X Q) X 50 := by
    intro u v vs st M hb
    rw [hXe]
    refine fun lv hp => S_block (L := 50) (live := [0, 1, 2, 3, 4]) ?_ u v lv vs st M hp hb
    unfold aX9_choose_50
    refine S_iinc (pc := 50) hC dX9_choose_50 (by decide) (by decide) ?_
    refine S_goto (pc := 53) (tgt := 5) hC dX9_choose_53 (by decide) ?_
    exact hJ 5
  have hB67 : zin 5 [] (aX9_choose_67 mc ms X Q) X 67 := by
    intro u v vs st M hb
    rw [hXe]
    refine fun lv hp => S_block (L := 67) (live := []) ?_ u v lv vs st M hp hb
    unfold aX9_choose_67
    exact S_ireturn (pc := 67) hC hr dX9_choose_67
  have := h.2 X hB0 hB5 hB50 hB67
  rw [hXe] at this
  exact this lv hlv
theorem vX9_choose_0 {mc ms : Nat} {X : Nat → zV} {Q : zQt} {M : zM} {g : Nat}  (hW : zWd M g)  (h : X 5 0 0 [.ref 25, .ref g, .ref 28, .int 0, .int 0] [] M) : aX9_choose_0 mc ms X Q 0 0 [some (.ref 25), some (.ref g), some (.ref 28), none, none] [] M := h
theorem vX9_choose_5 {mc ms : Nat} {X : Nat → zV} {Q : zQt} {M : zM} {g : Nat} {x3 : Int32} {x4 : Int32} (hW : zWd M g)  (h : ((M.1 g 3) ≤ x4 → (x3 = 0 → X 67 0 0 [] [.int (-22)] M) ∧ (¬ x3 = 0 → X 67 0 0 [] [.int (-23)] M)) ∧ (¬ (M.1 g 3) ≤ x4 → vp_in x4 384 ∧ wX9_means 0 0 [.ref 25, .ref g, .ref 28, .int ((M : zM).1 ((g + 7)) (x4 : Int32).toNatClampNeg)] M (fun r M1 => kX9_choose_27 mc ms X Q 0 0 [some (.ref 25), some (.ref g), some (.ref 28), some (.int x3), some (.int x4)] (r.toList ++ []) M1))) : aX9_choose_5 mc ms X Q 0 0 [some (.ref 25), some (.ref g), some (.ref 28), some (.int x3), some (.int x4)] [] M := ⟨(fgs_0 hW), ⟨fun c11 => ⟨fun c57 => ((h.1 c11).1 c57), fun c57 => ((h.1 c11).2 c57)⟩, fun c11 => ⟨(fgs_0 hW), (g + 7), (fgr_0_2 hW), ⟨384, (fgs_7 hW), (h.2 c11).1, ⟨Nat.le_of_ble_eq_true rfl, rfl, (fxs_25 hW.1), 0, 0, Nat.zero_le _, Nat.zero_le _, (h.2 c11).2⟩⟩⟩⟩⟩
theorem vX9_choose_50 {mc ms : Nat} {X : Nat → zV} {Q : zQt} {M : zM} {g : Nat} {x3 : Int32} {x4 : Int32} (hW : zWd M g)  (h : X 5 0 0 [.ref 25, .ref g, .ref 28, .int x3, .int (x4 + 1)] [] M) : aX9_choose_50 mc ms X Q 0 0 [some (.ref 25), some (.ref g), some (.ref 28), some (.int x3), some (.int x4)] [] M := h
theorem vX9_choose_67 {mc ms : Nat} {X : Nat → zV} {Q : zQt} {M : zM} {g : Nat} {s0 : Int32} (hW : zWd M g)  (h : Q (some (.int s0)) M) : aX9_choose_67 mc ms X Q 0 0 [none, none, none, none, none] [.int s0] M := h
theorem vkX9_choose_27 {mc ms : Nat} {X : Nat → zV} {Q : zQt} {M : zM} {g : Nat} {x3 : Int32} {x4 : Int32} {s0 : Int32} (hW : zWd M g)  (h : (s0 = 0 → X 50 0 0 [.ref 25, .ref g, .ref 28, .int x3, .int x4] [] M) ∧ (¬ s0 = 0 → wX9_plain 0 0 [.ref 25, .ref g, .int x4] M (fun r M1 => kX9_choose_37 mc ms X Q 0 0 [some (.ref 25), some (.ref g), some (.ref 28), some (.int x3), some (.int x4)] (r.toList ++ []) M1))) : kX9_choose_27 mc ms X Q 0 0 [some (.ref 25), some (.ref g), some (.ref 28), some (.int x3), some (.int x4)] [.int s0] M := ⟨fun c27 => (h.1 c27), fun c27 => ⟨Nat.le_of_ble_eq_true rfl, rfl, (fxs_25 hW.1), 0, 0, Nat.zero_le _, Nat.zero_le _, (h.2 c27)⟩⟩
theorem vkX9_choose_37 {mc ms : Nat} {X : Nat → zV} {Q : zQt} {M : zM} {g : Nat} {x3 : Int32} {x4 : Int32} {s0 : Int64} (hW : zWd M g)  (h : ((lg_cmp s0 ((M.2.1 28 4))) = 0 → Q (some (.int x4)) M) ∧ (¬ (lg_cmp s0 ((M.2.1 28 4))) = 0 → X 50 0 0 [.ref 25, .ref g, .ref 28, .int 1, .int x4] [] M)) : kX9_choose_37 mc ms X Q 0 0 [some (.ref 25), some (.ref g), some (.ref 28), some (.int x3), some (.int x4)] [.long s0] M := ⟨(fxs_28 hW.1), ⟨fun c42 => (h.1 c42), fun c42 => (h.2 c42)⟩⟩
theorem dX10_readMan_0 : decode cX10_readMan 0 = .ok (.aload_n 0, 1) := by decide +kernel
theorem dX10_readMan_1 : decode cX10_readMan 1 = .ok (.ldc 36, 2) := by decide +kernel
theorem dX10_readMan_3 : decode cX10_readMan 3 = .ok (.aload_n 1, 1) := by decide +kernel
theorem dX10_readMan_4 : decode cX10_readMan 4 = .ok (.iload_n 2, 1) := by decide +kernel
theorem dX10_readMan_5 : decode cX10_readMan 5 = .ok (.caload, 1) := by decide +kernel
theorem dX10_readMan_6 : decode cX10_readMan 6 = .ok (.invokevirtual 38, 3) := by decide +kernel
theorem dX10_readMan_9 : decode cX10_readMan 9 = .ok (.putfield 44, 3) := by decide +kernel
theorem dX10_readMan_12 : decode cX10_readMan 12 = .ok (.aload_n 0, 1) := by decide +kernel
theorem dX10_readMan_13 : decode cX10_readMan 13 = .ok (.getfield 44, 3) := by decide +kernel
theorem dX10_readMan_16 : decode cX10_readMan 16 = .ok (.iconst 2, 1) := by decide +kernel
theorem dX10_readMan_17 : decode cX10_readMan 17 = .ok (.if_icmp .lt 24, 3) := by decide +kernel
theorem dX10_readMan_20 : decode cX10_readMan 20 = .ok (.aload_n 0, 1) := by decide +kernel
theorem dX10_readMan_21 : decode cX10_readMan 21 = .ok (.getfield 44, 3) := by decide +kernel
theorem dX10_readMan_24 : decode cX10_readMan 24 = .ok (.bipush 6, 2) := by decide +kernel
theorem dX10_readMan_26 : decode cX10_readMan 26 = .ok (.if_icmp .gt 15, 3) := by decide +kernel
theorem dX10_readMan_29 : decode cX10_readMan 29 = .ok (.aload_n 0, 1) := by decide +kernel
theorem dX10_readMan_30 : decode cX10_readMan 30 = .ok (.aload_n 1, 1) := by decide +kernel
theorem dX10_readMan_31 : decode cX10_readMan 31 = .ok (.iload_n 2, 1) := by decide +kernel
theorem dX10_readMan_32 : decode cX10_readMan 32 = .ok (.iconst 1, 1) := by decide +kernel
theorem dX10_readMan_33 : decode cX10_readMan 33 = .ok (.iadd, 1) := by decide +kernel
theorem dX10_readMan_34 : decode cX10_readMan 34 = .ok (.iload_n 3, 1) := by decide +kernel
theorem dX10_readMan_35 : decode cX10_readMan 35 = .ok (.invokevirtual 47, 3) := by decide +kernel
theorem dX10_readMan_38 : decode cX10_readMan 38 = .ok (.ifCond .ne 5, 3) := by decide +kernel
theorem dX10_readMan_41 : decode cX10_readMan 41 = .ok (.iconst 0, 1) := by decide +kernel
theorem dX10_readMan_42 : decode cX10_readMan 42 = .ok (.ireturn, 1) := by decide +kernel
theorem dX10_readMan_43 : decode cX10_readMan 43 = .ok (.iload_n 2, 1) := by decide +kernel
theorem dX10_readMan_44 : decode cX10_readMan 44 = .ok (.iconst 1, 1) := by decide +kernel
theorem dX10_readMan_45 : decode cX10_readMan 45 = .ok (.iadd, 1) := by decide +kernel
theorem dX10_readMan_46 : decode cX10_readMan 46 = .ok (.istore 4, 2) := by decide +kernel
theorem dX10_readMan_48 : decode cX10_readMan 48 = .ok (.iload_n 3, 1) := by decide +kernel
theorem dX10_readMan_49 : decode cX10_readMan 49 = .ok (.iconst 2, 1) := by decide +kernel
theorem dX10_readMan_50 : decode cX10_readMan 50 = .ok (.isub, 1) := by decide +kernel
theorem dX10_readMan_51 : decode cX10_readMan 51 = .ok (.istore 5, 2) := by decide +kernel
theorem dX10_readMan_53 : decode cX10_readMan 53 = .ok (.iload 4, 2) := by decide +kernel
theorem dX10_readMan_55 : decode cX10_readMan 55 = .ok (.iload 5, 2) := by decide +kernel
theorem dX10_readMan_57 : decode cX10_readMan 57 = .ok (.if_icmp .ge 16, 3) := by decide +kernel
theorem dX10_readMan_60 : decode cX10_readMan 60 = .ok (.aload_n 1, 1) := by decide +kernel
theorem dX10_readMan_61 : decode cX10_readMan 61 = .ok (.iload 4, 2) := by decide +kernel
theorem dX10_readMan_63 : decode cX10_readMan 63 = .ok (.caload, 1) := by decide +kernel
theorem dX10_readMan_64 : decode cX10_readMan 64 = .ok (.invokestatic 50, 3) := by decide +kernel
theorem dX10_readMan_67 : decode cX10_readMan 67 = .ok (.ifCond .eq 6, 3) := by decide +kernel
theorem dX10_readMan_70 : decode cX10_readMan 70 = .ok (.iinc 4 1, 3) := by decide +kernel
theorem dX10_readMan_73 : decode cX10_readMan 73 = .ok (.iload 4, 2) := by decide +kernel
theorem dX10_readMan_75 : decode cX10_readMan 75 = .ok (.iload 5, 2) := by decide +kernel
theorem dX10_readMan_77 : decode cX10_readMan 77 = .ok (.if_icmp .ge 16, 3) := by decide +kernel
theorem dX10_readMan_80 : decode cX10_readMan 80 = .ok (.aload_n 1, 1) := by decide +kernel
theorem dX10_readMan_81 : decode cX10_readMan 81 = .ok (.iload 4, 2) := by decide +kernel
theorem dX10_readMan_83 : decode cX10_readMan 83 = .ok (.caload, 1) := by decide +kernel
theorem dX10_readMan_84 : decode cX10_readMan 84 = .ok (.invokestatic 54, 3) := by decide +kernel
theorem dX10_readMan_87 : decode cX10_readMan 87 = .ok (.ifCond .eq 6, 3) := by decide +kernel
theorem dX10_readMan_90 : decode cX10_readMan 90 = .ok (.iinc 4 1, 3) := by decide +kernel
theorem dX10_readMan_93 : decode cX10_readMan 93 = .ok (.iload 4, 2) := by decide +kernel
theorem dX10_readMan_95 : decode cX10_readMan 95 = .ok (.iload 5, 2) := by decide +kernel
theorem dX10_readMan_97 : decode cX10_readMan 97 = .ok (.if_icmp .ge 15, 3) := by decide +kernel
theorem dX10_readMan_100 : decode cX10_readMan 100 = .ok (.aload_n 1, 1) := by decide +kernel
theorem dX10_readMan_101 : decode cX10_readMan 101 = .ok (.iload 4, 2) := by decide +kernel
theorem dX10_readMan_103 : decode cX10_readMan 103 = .ok (.caload, 1) := by decide +kernel
theorem dX10_readMan_104 : decode cX10_readMan 104 = .ok (.bipush 120, 2) := by decide +kernel
theorem dX10_readMan_106 : decode cX10_readMan 106 = .ok (.if_icmp .ne 6, 3) := by decide +kernel
theorem dX10_readMan_109 : decode cX10_readMan 109 = .ok (.iinc 4 1, 3) := by decide +kernel
theorem dX10_readMan_112 : decode cX10_readMan 112 = .ok (.iload 4, 2) := by decide +kernel
theorem dX10_readMan_114 : decode cX10_readMan 114 = .ok (.iload 5, 2) := by decide +kernel
theorem dX10_readMan_116 : decode cX10_readMan 116 = .ok (.if_icmp .ne 7, 3) := by decide +kernel
theorem dX10_readMan_119 : decode cX10_readMan 119 = .ok (.iconst 1, 1) := by decide +kernel
theorem dX10_readMan_120 : decode cX10_readMan 120 = .ok (.goto 4, 3) := by decide +kernel
theorem dX10_readMan_123 : decode cX10_readMan 123 = .ok (.iconst 0, 1) := by decide +kernel
theorem dX10_readMan_124 : decode cX10_readMan 124 = .ok (.ireturn, 1) := by decide +kernel
def kX10_readMan_67 (mc ms : Nat) (X : Nat → zV) (Q : zQt) : zT :=
  zif (fun x => x = 0) (zj X 73 [1, 4, 5]) <| zinc 4 1 <| zj X 73 [1, 4, 5]
def kX10_readMan_38 (mc ms : Nat) (X : Nat → zV) (Q : zQt) : zT :=
  zif (fun x => x = 0) (zj X 41 []) <| zli 2 <| zc (.int 1) <| zii (fun x y => x + y) <| zsi 4 <| zli 3 <| zc (.int 2) <| zii (fun x y => x - y) <| zsi 5 <| zli 4 <| zli 5 <| zic (fun x y => y ≤ x) (zj X 73 [1, 4, 5]) <| zla 1 <| zli 4 <| zal 4 <| zcs mc ms 1 wX10_isFile <| kX10_readMan_67 mc ms X Q
def kX10_readMan_9 (mc ms : Nat) (X : Nat → zV) (Q : zQt) : zT :=
  zpi 10 0 <| zla 0 <| zgi 10 0 <| zc (.int 2) <| zic (fun x y => x < y) (zj X 41 []) <| zla 0 <| zgi 10 0 <| zc (.int 6) <| zic (fun x y => y < x) (zj X 41 []) <| zla 0 <| zla 1 <| zli 2 <| zc (.int 1) <| zii (fun x y => x + y) <| zli 3 <| zcv mc ms 10 3 wX10_readTarget <| kX10_readMan_38 mc ms X Q
def kX10_readMan_87 (mc ms : Nat) (X : Nat → zV) (Q : zQt) : zT :=
  zif (fun x => x = 0) (zj X 93 [1, 4, 5]) <| zinc 4 1 <| zj X 93 [1, 4, 5]
def aX10_readMan_0 (mc ms : Nat) (X : Nat → zV) (Q : zQt) : zT :=
  zla 0 <| zgs 5 <| zla 1 <| zli 2 <| zal 4 <| zcx mc ms 1 wJ0_indexOf_0f7a4 <| kX10_readMan_9 mc ms X Q
def aX10_readMan_41 (mc ms : Nat) (X : Nat → zV) (Q : zQt) : zT :=
  zc (.int 0) <| zrz .boolean Q
def aX10_readMan_73 (mc ms : Nat) (X : Nat → zV) (Q : zQt) : zT :=
  zli 4 <| zli 5 <| zic (fun x y => y ≤ x) (zj X 93 [1, 4, 5]) <| zla 1 <| zli 4 <| zal 4 <| zcs mc ms 1 wX10_isRank <| kX10_readMan_87 mc ms X Q
def aX10_readMan_93 (mc ms : Nat) (X : Nat → zV) (Q : zQt) : zT :=
  zli 4 <| zli 5 <| zic (fun x y => y ≤ x) (zj X 112 [4, 5]) <| zla 1 <| zli 4 <| zal 4 <| zc (.int 120) <| zic (fun x y => x = y) (zinc 4 1 <| zj X 112 [4, 5]) <| zj X 112 [4, 5]
def aX10_readMan_112 (mc ms : Nat) (X : Nat → zV) (Q : zQt) : zT :=
  zli 4 <| zli 5 <| zic (fun x y => x = y) (zc (.int 1) <| zj X 124 []) <| zc (.int 0) <| zj X 124 []
def aX10_readMan_124 (mc ms : Nat) (X : Nat → zV) (Q : zQt) : zT :=
  zrz .boolean Q
def lvX10_readMan : Nat → List Nat := fun L => match L with
  | 0 => [0, 1, 2, 3]
  | 41 => []
  | 73 => [1, 4, 5]
  | 93 => [1, 4, 5]
  | 112 => [4, 5]
  | 124 => []
  | _ => []
def wX10_readMan : zSp := fun mc ms av M Q => ((zlay av).length ≤ 6 ∧ zpick (zlay av) [0, 1, 2, 3] = some av) ∧ ∀ X : Nat → zV, zin 6 [0, 1, 2, 3] (aX10_readMan_0 mc ms X Q) X 0 → zin 6 [] (aX10_readMan_41 mc ms X Q) X 41 → zin 6 [1, 4, 5] (aX10_readMan_73 mc ms X Q) X 73 → zin 6 [1, 4, 5] (aX10_readMan_93 mc ms X Q) X 93 → zin 6 [4, 5] (aX10_readMan_112 mc ms X Q) X 112 → zin 6 [] (aX10_readMan_124 mc ms X Q) X 124 → X 0 0 0 av [] M
set_option maxRecDepth 100000 in
set_option maxHeartbeats 4000000 in
theorem sX10_readMan (l : Launch) (G : zG) (hE : zXt G) : zSnd l G yX10_readMan cX10_readMan 6 (some .boolean) 4 91 wX10_readMan := by
  refine zmk [0, 1, 2, 3] (by decide) (fun mc ms av M Q h => h.1) ?_
  intro p e R s m args below meth c mc ms av M Q hC hRf hRl hr hnm h lv hlv
  obtain ⟨X, hXe⟩ : ∃ X : Nat → zV, X = fun L u v vs st M => ∀ lv, zpick lv (lvX10_readMan L) = some vs → zAt p l e R s m args below meth c (MQ below (zQ G Q) args s mc ms (zA G)) G 6 L u v lv st M := ⟨_, rfl⟩
  have hJ : ∀ L, zOk p l e R s m args below meth c (MQ below (zQ G Q) args s mc ms (zA G)) G 6 L (zj X L (lvX10_readMan L)) := fun L => S_jump (fun u v lv vs st M hp hx => by rw [hXe] at hx; exact hx lv hp)
  have hB0 : zin 6 [0, 1, 2, 3] (aX10_readMan_0 mc ms X Q) X 0 := by
    intro u v vs st M hb
    rw [hXe]
    refine fun lv hp => S_block (L := 0) (live := [0, 1, 2, 3]) ?_ u v lv vs st M hp hb
    unfold aX10_readMan_0
    refine S_aload_n (pc := 0) hC dX10_readMan_0 rfl ?_
    refine S_ldcS (pc := 1) hC hE.2.1 (w := 0) (tx := " PNBRQKpnbrqk") (by decide) (by decide) dX10_readMan_1 ?_
    refine S_aload_n (pc := 3) hC dX10_readMan_3 rfl ?_
    refine S_iload_n (pc := 4) hC dX10_readMan_4 rfl ?_
    refine S_caload (pc := 5) hC dX10_readMan_5 ?_
    refine S_callX (pc := 6) hC hE.2.1 (sJ0_indexOf_0f7a4 l G hE) wd_890 wd_695 wd_696 wd_19 wd_697 (by decide +kernel) ⟨by rw [hRf]; decide, by rw [hRl]; decide⟩ dX10_readMan_6 ?_
    unfold kX10_readMan_9
    refine S_puti (pc := 9) hC cfX10 (by decide) rfl (Or.inl rfl) wd_113 dX10_readMan_9 ?_
    refine S_aload_n (pc := 12) hC dX10_readMan_12 rfl ?_
    refine S_geti (pc := 13) hC cfX10 (by decide) (Or.inl rfl) wd_113 dX10_readMan_13 ?_
    refine S_iconst (pc := 16) hC dX10_readMan_16 (by decide) ?_
    refine S_icmp_lt (pc := 17) (tgt := 41) hC dX10_readMan_17 (by decide) ?_ ?_
    · exact hJ 41
    · refine S_aload_n (pc := 20) hC dX10_readMan_20 rfl ?_
      refine S_geti (pc := 21) hC cfX10 (by decide) (Or.inl rfl) wd_113 dX10_readMan_21 ?_
      refine S_bipush (pc := 24) hC dX10_readMan_24 (by decide) ?_
      refine S_icmp_gt (pc := 26) (tgt := 41) hC dX10_readMan_26 (by decide) ?_ ?_
      · exact hJ 41
      · refine S_aload_n (pc := 29) hC dX10_readMan_29 rfl ?_
        refine S_aload_n (pc := 30) hC dX10_readMan_30 rfl ?_
        refine S_iload_n (pc := 31) hC dX10_readMan_31 rfl ?_
        refine S_iconst (pc := 32) hC dX10_readMan_32 (by decide) ?_
        refine S_iadd (pc := 33) hC dX10_readMan_33 ?_
        refine S_iload_n (pc := 34) hC dX10_readMan_34 rfl ?_
        refine S_callV (pc := 35) hC (sX10_readTarget l G) rfl wd_891 wd_893 ws_35 wd_5 wd_894 (by decide +kernel) ⟨by rw [hRf]; decide, by rw [hRl]; decide⟩ dX10_readMan_35 ?_
        unfold kX10_readMan_38
        refine S_if_ne (pc := 38) (tgt := 43) hC dX10_readMan_38 (by decide) ?_ ?_
        · refine S_iload_n (pc := 43) hC dX10_readMan_43 rfl ?_
          refine S_iconst (pc := 44) hC dX10_readMan_44 (by decide) ?_
          refine S_iadd (pc := 45) hC dX10_readMan_45 ?_
          refine S_istore (pc := 46) hC dX10_readMan_46 (by decide) ?_
          refine S_iload_n (pc := 48) hC dX10_readMan_48 rfl ?_
          refine S_iconst (pc := 49) hC dX10_readMan_49 (by decide) ?_
          refine S_isub (pc := 50) hC dX10_readMan_50 ?_
          refine S_istore (pc := 51) hC dX10_readMan_51 (by decide) ?_
          refine S_iload (pc := 53) hC dX10_readMan_53 ?_
          refine S_iload (pc := 55) hC dX10_readMan_55 ?_
          refine S_icmp_ge (pc := 57) (tgt := 73) hC dX10_readMan_57 (by decide) ?_ ?_
          · exact hJ 73
          · refine S_aload_n (pc := 60) hC dX10_readMan_60 rfl ?_
            refine S_iload (pc := 61) hC dX10_readMan_61 ?_
            refine S_caload (pc := 63) hC dX10_readMan_63 ?_
            refine S_callS (pc := 64) hC (sX10_isFile l G) wd_895 wd_896 wd_5 wd_897 (by decide +kernel) ⟨by rw [hRf]; decide, by rw [hRl]; decide⟩ dX10_readMan_64 ?_
            unfold kX10_readMan_67
            refine S_if_eq (pc := 67) (tgt := 73) hC dX10_readMan_67 (by decide) ?_ ?_
            · exact hJ 73
            · refine S_iinc (pc := 70) hC dX10_readMan_70 (by decide) (by decide) ?_
              exact hJ 73
        · exact hJ 41
  have hB41 : zin 6 [] (aX10_readMan_41 mc ms X Q) X 41 := by
    intro u v vs st M hb
    rw [hXe]
    refine fun lv hp => S_block (L := 41) (live := []) ?_ u v lv vs st M hp hb
    unfold aX10_readMan_41
    refine S_iconst (pc := 41) hC dX10_readMan_41 (by decide) ?_
    exact S_zreturn (pc := 42) hC hr dX10_readMan_42
  have hB73 : zin 6 [1, 4, 5] (aX10_readMan_73 mc ms X Q) X 73 := by
    intro u v vs st M hb
    rw [hXe]
    refine fun lv hp => S_block (L := 73) (live := [1, 4, 5]) ?_ u v lv vs st M hp hb
    unfold aX10_readMan_73
    refine S_iload (pc := 73) hC dX10_readMan_73 ?_
    refine S_iload (pc := 75) hC dX10_readMan_75 ?_
    refine S_icmp_ge (pc := 77) (tgt := 93) hC dX10_readMan_77 (by decide) ?_ ?_
    · exact hJ 93
    · refine S_aload_n (pc := 80) hC dX10_readMan_80 rfl ?_
      refine S_iload (pc := 81) hC dX10_readMan_81 ?_
      refine S_caload (pc := 83) hC dX10_readMan_83 ?_
      refine S_callS (pc := 84) hC (sX10_isRank l G) wd_898 wd_899 wd_5 wd_900 (by decide +kernel) ⟨by rw [hRf]; decide, by rw [hRl]; decide⟩ dX10_readMan_84 ?_
      unfold kX10_readMan_87
      refine S_if_eq (pc := 87) (tgt := 93) hC dX10_readMan_87 (by decide) ?_ ?_
      · exact hJ 93
      · refine S_iinc (pc := 90) hC dX10_readMan_90 (by decide) (by decide) ?_
        exact hJ 93
  have hB93 : zin 6 [1, 4, 5] (aX10_readMan_93 mc ms X Q) X 93 := by
    intro u v vs st M hb
    rw [hXe]
    refine fun lv hp => S_block (L := 93) (live := [1, 4, 5]) ?_ u v lv vs st M hp hb
    unfold aX10_readMan_93
    refine S_iload (pc := 93) hC dX10_readMan_93 ?_
    refine S_iload (pc := 95) hC dX10_readMan_95 ?_
    refine S_icmp_ge (pc := 97) (tgt := 112) hC dX10_readMan_97 (by decide) ?_ ?_
    · exact hJ 112
    · refine S_aload_n (pc := 100) hC dX10_readMan_100 rfl ?_
      refine S_iload (pc := 101) hC dX10_readMan_101 ?_
      refine S_caload (pc := 103) hC dX10_readMan_103 ?_
      refine S_bipush (pc := 104) hC dX10_readMan_104 (by decide) ?_
      refine S_icmp_ne (pc := 106) (tgt := 112) hC dX10_readMan_106 (by decide) ?_ ?_
      · exact hJ 112
      · refine S_iinc (pc := 109) hC dX10_readMan_109 (by decide) (by decide) ?_
        exact hJ 112
  have hB112 : zin 6 [4, 5] (aX10_readMan_112 mc ms X Q) X 112 := by
    intro u v vs st M hb
    rw [hXe]
    refine fun lv hp => S_block (L := 112) (live := [4, 5]) ?_ u v lv vs st M hp hb
    unfold aX10_readMan_112
    refine S_iload (pc := 112) hC dX10_readMan_112 ?_
    refine S_iload (pc := 114) hC dX10_readMan_114 ?_
    refine S_icmp_ne (pc := 116) (tgt := 123) hC dX10_readMan_116 (by decide) ?_ ?_
    · refine S_iconst (pc := 123) hC dX10_readMan_123 (by decide) ?_
      exact hJ 124
    · refine S_iconst (pc := 119) hC dX10_readMan_119 (by decide) ?_
      refine S_goto (pc := 120) (tgt := 124) hC dX10_readMan_120 (by decide) ?_
      exact hJ 124
  have hB124 : zin 6 [] (aX10_readMan_124 mc ms X Q) X 124 := by
    intro u v vs st M hb
    rw [hXe]
    refine fun lv hp => S_block (L := 124) (live := []) ?_ u v lv vs st M hp hb
    unfold aX10_readMan_124
    exact S_zreturn (pc := 124) hC hr dX10_readMan_124
  have := h.2 X hB0 hB41 hB73 hB93 hB112 hB124
  rw [hXe] at this
  exact this lv hlv
theorem vX10_readMan_0 {mc ms : Nat} {X : Nat → zV} {Q : zQt} {M : zM} {g : Nat} {x2 : Int32} {x3 : Int32} (hW : zWd M g)  (h : vp_in x2 8180 ∧ wJ0_indexOf_0f7a4 0 0 [.ref 5, .int ((M : zM).1 24 (x2 : Int32).toNatClampNeg)] M (fun r M1 => kX10_readMan_9 mc ms X Q 0 0 [some (.ref 28), some (.ref 24), some (.int x2), some (.int x3), none, none] (r.toList ++ [.ref 28]) M1)) : aX10_readMan_0 mc ms X Q 0 0 [some (.ref 28), some (.ref 24), some (.int x2), some (.int x3), none, none] [] M := ⟨8180, (fxs_24 hW.1), h.1, ⟨Nat.le_of_ble_eq_true rfl, rfl, Or.inl rfl, 0, 0, Nat.zero_le _, Nat.zero_le _, h.2⟩⟩
theorem vX10_readMan_41 {mc ms : Nat} {X : Nat → zV} {Q : zQt} {M : zM} {g : Nat}  (hW : zWd M g)  (h : Q (some (.int 0)) M) : aX10_readMan_41 mc ms X Q 0 0 [none, none, none, none, none, none] [] M := ⟨rfl, h⟩
theorem vX10_readMan_73 {mc ms : Nat} {X : Nat → zV} {Q : zQt} {M : zM} {g : Nat} {x4 : Int32} {x5 : Int32} (hW : zWd M g)  (h : (x5 ≤ x4 → X 93 0 0 [.ref 24, .int x4, .int x5] [] M) ∧ (¬ x5 ≤ x4 → vp_in x4 8180 ∧ wX10_isRank 0 0 [.int ((M : zM).1 24 (x4 : Int32).toNatClampNeg)] M (fun r M1 => kX10_readMan_87 mc ms X Q 0 0 [none, some (.ref 24), none, none, some (.int x4), some (.int x5)] (r.toList ++ []) M1))) : aX10_readMan_73 mc ms X Q 0 0 [none, some (.ref 24), none, none, some (.int x4), some (.int x5)] [] M := ⟨fun c77 => (h.1 c77), fun c77 => ⟨8180, (fxs_24 hW.1), (h.2 c77).1, ⟨Nat.le_of_ble_eq_true rfl, rfl, 0, 0, Nat.zero_le _, Nat.zero_le _, (h.2 c77).2⟩⟩⟩
theorem vX10_readMan_93 {mc ms : Nat} {X : Nat → zV} {Q : zQt} {M : zM} {g : Nat} {x4 : Int32} {x5 : Int32} (hW : zWd M g)  (h : (x5 ≤ x4 → X 112 0 0 [.int x4, .int x5] [] M) ∧ (¬ x5 ≤ x4 → vp_in x4 8180 ∧ (((M : zM).1 24 (x4 : Int32).toNatClampNeg) = (120 : Int32) → X 112 0 0 [.int (x4 + 1), .int x5] [] M) ∧ (¬ ((M : zM).1 24 (x4 : Int32).toNatClampNeg) = (120 : Int32) → X 112 0 0 [.int x4, .int x5] [] M))) : aX10_readMan_93 mc ms X Q 0 0 [none, some (.ref 24), none, none, some (.int x4), some (.int x5)] [] M := ⟨fun c97 => (h.1 c97), fun c97 => ⟨8180, (fxs_24 hW.1), (h.2 c97).1, ⟨fun c106 => ((h.2 c97).2.1 c106), fun c106 => ((h.2 c97).2.2 c106)⟩⟩⟩
theorem vX10_readMan_112 {mc ms : Nat} {X : Nat → zV} {Q : zQt} {M : zM} {g : Nat} {x4 : Int32} {x5 : Int32} (hW : zWd M g)  (h : (x4 = x5 → X 124 0 0 [] [.int 1] M) ∧ (¬ x4 = x5 → X 124 0 0 [] [.int 0] M)) : aX10_readMan_112 mc ms X Q 0 0 [none, none, none, none, some (.int x4), some (.int x5)] [] M := ⟨fun c116 => (h.1 c116), fun c116 => (h.2 c116)⟩
theorem vX10_readMan_124 {mc ms : Nat} {X : Nat → zV} {Q : zQt} {M : zM} {g : Nat} {s0 : Int32} (hW : zWd M g)  (h : narrow .boolean (.int s0) = .int s0 ∧ Q (some (.int s0)) M) : aX10_readMan_124 mc ms X Q 0 0 [none, none, none, none, none, none] [.int s0] M := h
theorem vkX10_readMan_9 {mc ms : Nat} {X : Nat → zV} {Q : zQt} {M : zM} {g : Nat} {x2 : Int32} {x3 : Int32} {s0 : Int32} (hW : zWd M g)  (h : ∀ M9 : zM, M9 = (zsI M 28 0 s0) → ((M9.1 28 0) < (2 : Int32) → X 41 0 0 [] [] M9) ∧ (¬ (M9.1 28 0) < (2 : Int32) → ((6 : Int32) < (M9.1 28 0) → X 41 0 0 [] [] M9) ∧ (¬ (6 : Int32) < (M9.1 28 0) → wX10_readTarget 0 0 [.ref 28, .ref 24, .int (x2 + (1 : Int32)), .int x3] M9 (fun r M1 => kX10_readMan_38 mc ms X Q 0 0 [some (.ref 28), some (.ref 24), some (.int x2), some (.int x3), none, none] (r.toList ++ []) M1)))) : kX10_readMan_9 mc ms X Q 0 0 [some (.ref 28), some (.ref 24), some (.int x2), some (.int x3), none, none] [.int s0, .ref 28] M := ⟨(fxs_28 hW.1), (have h9 := h _ rfl; ⟨(fxs_28 hW.1), ⟨fun c17 => (h9.1 c17), fun c17 => ⟨(fxs_28 hW.1), ⟨fun c26 => ((h9.2 c17).1 c26), fun c26 => ⟨Nat.le_of_ble_eq_true rfl, rfl, (fxs_28 hW.1), 0, 0, Nat.zero_le _, Nat.zero_le _, ((h9.2 c17).2 c26)⟩⟩⟩⟩⟩)⟩
theorem vkX10_readMan_38 {mc ms : Nat} {X : Nat → zV} {Q : zQt} {M : zM} {g : Nat} {x2 : Int32} {x3 : Int32} {s0 : Int32} (hW : zWd M g)  (h : (s0 = 0 → X 41 0 0 [] [] M) ∧ (¬ s0 = 0 → ((x3 - (2 : Int32)) ≤ (x2 + (1 : Int32)) → X 73 0 0 [.ref 24, .int (x2 + (1 : Int32)), .int (x3 - (2 : Int32))] [] M) ∧ (¬ (x3 - (2 : Int32)) ≤ (x2 + (1 : Int32)) → vp_in ((x2 + (1 : Int32))) 8180 ∧ wX10_isFile 0 0 [.int ((M : zM).1 24 ((x2 + (1 : Int32)) : Int32).toNatClampNeg)] M (fun r M1 => kX10_readMan_67 mc ms X Q 0 0 [some (.ref 28), some (.ref 24), some (.int x2), some (.int x3), some (.int (x2 + (1 : Int32))), some (.int (x3 - (2 : Int32)))] (r.toList ++ []) M1)))) : kX10_readMan_38 mc ms X Q 0 0 [some (.ref 28), some (.ref 24), some (.int x2), some (.int x3), none, none] [.int s0] M := ⟨fun c38 => (h.1 c38), fun c38 => ⟨fun c57 => ((h.2 c38).1 c57), fun c57 => ⟨8180, (fxs_24 hW.1), ((h.2 c38).2 c57).1, ⟨Nat.le_of_ble_eq_true rfl, rfl, 0, 0, Nat.zero_le _, Nat.zero_le _, ((h.2 c38).2 c57).2⟩⟩⟩⟩
theorem vkX10_readMan_67 {mc ms : Nat} {X : Nat → zV} {Q : zQt} {M : zM} {g : Nat} {x2 : Int32} {x3 : Int32} {x4 : Int32} {x5 : Int32} {s0 : Int32} (hW : zWd M g)  (h : (s0 = 0 → X 73 0 0 [.ref 24, .int x4, .int x5] [] M) ∧ (¬ s0 = 0 → X 73 0 0 [.ref 24, .int (x4 + 1), .int x5] [] M)) : kX10_readMan_67 mc ms X Q 0 0 [some (.ref 28), some (.ref 24), some (.int x2), some (.int x3), some (.int x4), some (.int x5)] [.int s0] M := ⟨fun c67 => (h.1 c67), fun c67 => (h.2 c67)⟩
theorem vkX10_readMan_87 {mc ms : Nat} {X : Nat → zV} {Q : zQt} {M : zM} {g : Nat} {x4 : Int32} {x5 : Int32} {s0 : Int32} (hW : zWd M g)  (h : (s0 = 0 → X 93 0 0 [.ref 24, .int x4, .int x5] [] M) ∧ (¬ s0 = 0 → X 93 0 0 [.ref 24, .int (x4 + 1), .int x5] [] M)) : kX10_readMan_87 mc ms X Q 0 0 [none, some (.ref 24), none, none, some (.int x4), some (.int x5)] [.int s0] M := ⟨fun c87 => (h.1 c87), fun c87 => (h.2 c87)⟩
