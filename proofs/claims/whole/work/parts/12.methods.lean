theorem dX2_spread_0 : decode cX2_spread 0 = .ok (.lload_n 0, 1) := by decide +kernel
theorem dX2_spread_1 : decode cX2_spread 1 = .ok (.ldc2_w 96, 3) := by decide +kernel
theorem dX2_spread_4 : decode cX2_spread 4 = .ok (.land, 1) := by decide +kernel
theorem dX2_spread_5 : decode cX2_spread 5 = .ok (.iconst 1, 1) := by decide +kernel
theorem dX2_spread_6 : decode cX2_spread 6 = .ok (.lshl, 1) := by decide +kernel
theorem dX2_spread_7 : decode cX2_spread 7 = .ok (.lload_n 0, 1) := by decide +kernel
theorem dX2_spread_8 : decode cX2_spread 8 = .ok (.ldc2_w 98, 3) := by decide +kernel
theorem dX2_spread_11 : decode cX2_spread 11 = .ok (.land, 1) := by decide +kernel
theorem dX2_spread_12 : decode cX2_spread 12 = .ok (.iconst 1, 1) := by decide +kernel
theorem dX2_spread_13 : decode cX2_spread 13 = .ok (.lushr, 1) := by decide +kernel
theorem dX2_spread_14 : decode cX2_spread 14 = .ok (.lor, 1) := by decide +kernel
theorem dX2_spread_15 : decode cX2_spread 15 = .ok (.lstore_n 2, 1) := by decide +kernel
theorem dX2_spread_16 : decode cX2_spread 16 = .ok (.lload_n 0, 1) := by decide +kernel
theorem dX2_spread_17 : decode cX2_spread 17 = .ok (.lload_n 2, 1) := by decide +kernel
theorem dX2_spread_18 : decode cX2_spread 18 = .ok (.lor, 1) := by decide +kernel
theorem dX2_spread_19 : decode cX2_spread 19 = .ok (.lstore 4, 2) := by decide +kernel
theorem dX2_spread_21 : decode cX2_spread 21 = .ok (.lload_n 2, 1) := by decide +kernel
theorem dX2_spread_22 : decode cX2_spread 22 = .ok (.lload 4, 2) := by decide +kernel
theorem dX2_spread_24 : decode cX2_spread 24 = .ok (.bipush 8, 2) := by decide +kernel
theorem dX2_spread_26 : decode cX2_spread 26 = .ok (.lshl, 1) := by decide +kernel
theorem dX2_spread_27 : decode cX2_spread 27 = .ok (.lor, 1) := by decide +kernel
theorem dX2_spread_28 : decode cX2_spread 28 = .ok (.lload 4, 2) := by decide +kernel
theorem dX2_spread_30 : decode cX2_spread 30 = .ok (.bipush 8, 2) := by decide +kernel
theorem dX2_spread_32 : decode cX2_spread 32 = .ok (.lushr, 1) := by decide +kernel
theorem dX2_spread_33 : decode cX2_spread 33 = .ok (.lor, 1) := by decide +kernel
theorem dX2_spread_34 : decode cX2_spread 34 = .ok (.lreturn, 1) := by decide +kernel
def kX2_spread_16 (mc ms : Nat) (X : Nat → zV) (Q : zQt) : zT :=
  zll 0 <| zll 2 <| zjj (fun x y => x ||| y) <| zsl 4 <| zll 2 <| zll 4 <| zc (.int 8) <| zji (fun x y => x <<< (y.toInt64 &&& 63)) <| zjj (fun x y => x ||| y) <| zll 4 <| zc (.int 8) <| zji (fun x y => (x.toUInt64 >>> (y.toInt64.toUInt64 &&& Int64.toUInt64 63)).toInt64) <| zjj (fun x y => x ||| y) <| zrl Q
def aX2_spread_0 (mc ms : Nat) (X : Nat → zV) (Q : zQt) : zT :=
  zll 0 <| zc (.long 9187201950435737471) <| zjj (fun x y => x &&& y) <| zc (.int 1) <| zji (fun x y => x <<< (y.toInt64 &&& 63)) <| zll 0 <| zc (.long (-72340172838076674)) <| zjj (fun x y => x &&& y) <| zc (.int 1) <| zji (fun x y => (x.toUInt64 >>> (y.toInt64.toUInt64 &&& Int64.toUInt64 63)).toInt64) <| zjj (fun x y => x ||| y) <| zslN 2 <| kX2_spread_16 mc ms X Q
def lvX2_spread : Nat → List Nat := fun L => match L with
  | 0 => [0]
  | _ => []
def wX2_spread : zSp := fun mc ms av M Q => ((zlay av).length ≤ 6 ∧ zpick (zlay av) [0] = some av) ∧ ∀ X : Nat → zV, zin 6 [0] (aX2_spread_0 mc ms X Q) X 0 → X 0 0 0 av [] M
set_option maxRecDepth 100000 in
set_option maxHeartbeats 4000000 in
theorem sX2_spread (l : Launch) (G : zG) : zSnd l G yX2_spread cX2_spread 6 (some .long) 0 0 wX2_spread := by
  refine zmk [0] (by decide) (fun mc ms av M Q h => h.1) ?_
  intro p e R s m args below meth c mc ms av M Q hC hRf hRl hr hnm h lv hlv
  obtain ⟨X, hXe⟩ : ∃ X : Nat → zV, X = fun L u v vs st M => ∀ lv, zpick lv (lvX2_spread L) = some vs → zAt p l e R s m args below meth c (MQ below (zQ G Q) args s mc ms (zA G)) G 6 L u v lv st M := ⟨_, rfl⟩
  have hJ : ∀ L, zOk p l e R s m args below meth c (MQ below (zQ G Q) args s mc ms (zA G)) G 6 L (zj X L (lvX2_spread L)) := fun L => S_jump (fun u v lv vs st M hp hx => by rw [hXe] at hx; exact hx lv hp)
  have hB0 : zin 6 [0] (aX2_spread_0 mc ms X Q) X 0 := by
    intro u v vs st M hb
    rw [hXe]
    refine fun lv hp => S_block (L := 0) (live := [0]) ?_ u v lv vs st M hp hb
    unfold aX2_spread_0
    refine S_lload_n (pc := 0) hC dX2_spread_0 rfl ?_
    refine S_ldc2 (pc := 1) hC wd_1129 dX2_spread_1 ?_
    refine S_land (pc := 4) hC dX2_spread_4 ?_
    refine S_iconst (pc := 5) hC dX2_spread_5 (by decide) ?_
    refine S_lshl (pc := 6) hC dX2_spread_6 ?_
    refine S_lload_n (pc := 7) hC dX2_spread_7 rfl ?_
    refine S_ldc2 (pc := 8) hC wd_1130 dX2_spread_8 ?_
    refine S_land (pc := 11) hC dX2_spread_11 ?_
    refine S_iconst (pc := 12) hC dX2_spread_12 (by decide) ?_
    refine S_lushr (pc := 13) hC dX2_spread_13 ?_
    refine S_lor (pc := 14) hC dX2_spread_14 ?_
    refine S_lstore_n_N (pc := 15) hC dX2_spread_15 rfl (by decide) ?_
    unfold kX2_spread_16
    refine S_lload_n (pc := 16) hC dX2_spread_16 rfl ?_
    refine S_lload_n (pc := 17) hC dX2_spread_17 rfl ?_
    refine S_lor (pc := 18) hC dX2_spread_18 ?_
    refine S_lstore (pc := 19) hC dX2_spread_19 (by decide) ?_
    refine S_lload_n (pc := 21) hC dX2_spread_21 rfl ?_
    refine S_lload (pc := 22) hC dX2_spread_22 ?_
    refine S_bipush (pc := 24) hC dX2_spread_24 (by decide) ?_
    refine S_lshl (pc := 26) hC dX2_spread_26 ?_
    refine S_lor (pc := 27) hC dX2_spread_27 ?_
    refine S_lload (pc := 28) hC dX2_spread_28 ?_
    refine S_bipush (pc := 30) hC dX2_spread_30 (by decide) ?_
    refine S_lushr (pc := 32) hC dX2_spread_32 ?_
    refine S_lor (pc := 33) hC dX2_spread_33 ?_
    exact S_lreturn (pc := 34) hC hr dX2_spread_34
  have := h.2 X hB0
  rw [hXe] at this
  exact this lv hlv
theorem vcX2_spread_16 {mc ms : Nat} {X : Nat → zV} {Q : zQt} {M : zM} {g : Nat} {x0 : Int64} {x2 : Int64} (hW : zWd M g)  (h : Q (some (.long (((x2 ||| ((x0 ||| x2) <<< ((8 : Int32).toInt64 &&& 63))) ||| (((x0 ||| x2).toUInt64 >>> ((8 : Int32).toInt64.toUInt64 &&& Int64.toUInt64 63)).toInt64))))) M) : kX2_spread_16 mc ms X Q 0 0 [some (.long x0), none, some (.long x2), none, none, none] [] M := h
theorem vX2_spread_0 {mc ms : Nat} {X : Nat → zV} {Q : zQt} {M : zM} {g : Nat} {x0 : Int64} (hW : zWd M g)  (h : ∀ y15 : Int64, y15 = (((x0 &&& (9187201950435737471 : Int64)) <<< ((1 : Int32).toInt64 &&& 63)) ||| (((x0 &&& ((-72340172838076674) : Int64)).toUInt64 >>> ((1 : Int32).toInt64.toUInt64 &&& Int64.toUInt64 63)).toInt64)) → Q (some (.long (((y15 ||| ((x0 ||| y15) <<< ((8 : Int32).toInt64 &&& 63))) ||| (((x0 ||| y15).toUInt64 >>> ((8 : Int32).toInt64.toUInt64 &&& Int64.toUInt64 63)).toInt64))))) M) : aX2_spread_0 mc ms X Q 0 0 [some (.long x0), none, none, none, none, none] [] M := (fun y15 e15 => have h15 := h y15 e15; (vcX2_spread_16 hW  h15))
theorem dX2_cameFrom_0 : decode cX2_cameFrom 0 = .ok (.lconst 1, 1) := by decide +kernel
theorem dX2_cameFrom_1 : decode cX2_cameFrom 1 = .ok (.iload_n 2, 1) := by decide +kernel
theorem dX2_cameFrom_2 : decode cX2_cameFrom 2 = .ok (.lshl, 1) := by decide +kernel
theorem dX2_cameFrom_3 : decode cX2_cameFrom 3 = .ok (.ldc2_w 83, 3) := by decide +kernel
theorem dX2_cameFrom_6 : decode cX2_cameFrom 6 = .ok (.lxor, 1) := by decide +kernel
theorem dX2_cameFrom_7 : decode cX2_cameFrom 7 = .ok (.lstore_n 3, 1) := by decide +kernel
theorem dX2_cameFrom_8 : decode cX2_cameFrom 8 = .ok (.aload_n 0, 1) := by decide +kernel
theorem dX2_cameFrom_9 : decode cX2_cameFrom 9 = .ok (.getfield 15, 3) := by decide +kernel
theorem dX2_cameFrom_12 : decode cX2_cameFrom 12 = .ok (.iconst 1, 1) := by decide +kernel
theorem dX2_cameFrom_13 : decode cX2_cameFrom 13 = .ok (.if_icmp .eq 17, 3) := by decide +kernel
theorem dX2_cameFrom_16 : decode cX2_cameFrom 16 = .ok (.aload_n 0, 1) := by decide +kernel
theorem dX2_cameFrom_17 : decode cX2_cameFrom 17 = .ok (.getfield 26, 3) := by decide +kernel
theorem dX2_cameFrom_20 : decode cX2_cameFrom 20 = .ok (.iload_n 1, 1) := by decide +kernel
theorem dX2_cameFrom_21 : decode cX2_cameFrom 21 = .ok (.bipush 64, 2) := by decide +kernel
theorem dX2_cameFrom_23 : decode cX2_cameFrom 23 = .ok (.imul, 1) := by decide +kernel
theorem dX2_cameFrom_24 : decode cX2_cameFrom 24 = .ok (.iload_n 2, 1) := by decide +kernel
theorem dX2_cameFrom_25 : decode cX2_cameFrom 25 = .ok (.iadd, 1) := by decide +kernel
theorem dX2_cameFrom_26 : decode cX2_cameFrom 26 = .ok (.laload, 1) := by decide +kernel
theorem dX2_cameFrom_27 : decode cX2_cameFrom 27 = .ok (.lload_n 3, 1) := by decide +kernel
theorem dX2_cameFrom_28 : decode cX2_cameFrom 28 = .ok (.land, 1) := by decide +kernel
theorem dX2_cameFrom_29 : decode cX2_cameFrom 29 = .ok (.lreturn, 1) := by decide +kernel
theorem dX2_cameFrom_30 : decode cX2_cameFrom 30 = .ok (.lconst 1, 1) := by decide +kernel
theorem dX2_cameFrom_31 : decode cX2_cameFrom 31 = .ok (.iload_n 1, 1) := by decide +kernel
theorem dX2_cameFrom_32 : decode cX2_cameFrom 32 = .ok (.lshl, 1) := by decide +kernel
theorem dX2_cameFrom_33 : decode cX2_cameFrom 33 = .ok (.bipush 8, 2) := by decide +kernel
theorem dX2_cameFrom_35 : decode cX2_cameFrom 35 = .ok (.lushr, 1) := by decide +kernel
theorem dX2_cameFrom_36 : decode cX2_cameFrom 36 = .ok (.lload_n 3, 1) := by decide +kernel
theorem dX2_cameFrom_37 : decode cX2_cameFrom 37 = .ok (.land, 1) := by decide +kernel
theorem dX2_cameFrom_38 : decode cX2_cameFrom 38 = .ok (.ldc2_w 118, 3) := by decide +kernel
theorem dX2_cameFrom_41 : decode cX2_cameFrom 41 = .ok (.land, 1) := by decide +kernel
theorem dX2_cameFrom_42 : decode cX2_cameFrom 42 = .ok (.lstore 5, 2) := by decide +kernel
theorem dX2_cameFrom_44 : decode cX2_cameFrom 44 = .ok (.iload_n 1, 1) := by decide +kernel
theorem dX2_cameFrom_45 : decode cX2_cameFrom 45 = .ok (.bipush 8, 2) := by decide +kernel
theorem dX2_cameFrom_47 : decode cX2_cameFrom 47 = .ok (.idiv, 1) := by decide +kernel
theorem dX2_cameFrom_48 : decode cX2_cameFrom 48 = .ok (.iconst 3, 1) := by decide +kernel
theorem dX2_cameFrom_49 : decode cX2_cameFrom 49 = .ok (.if_icmp .ne 14, 3) := by decide +kernel
theorem dX2_cameFrom_52 : decode cX2_cameFrom 52 = .ok (.lload 5, 2) := by decide +kernel
theorem dX2_cameFrom_54 : decode cX2_cameFrom 54 = .ok (.lload 5, 2) := by decide +kernel
theorem dX2_cameFrom_56 : decode cX2_cameFrom 56 = .ok (.bipush 8, 2) := by decide +kernel
theorem dX2_cameFrom_58 : decode cX2_cameFrom 58 = .ok (.lushr, 1) := by decide +kernel
theorem dX2_cameFrom_59 : decode cX2_cameFrom 59 = .ok (.lor, 1) := by decide +kernel
theorem dX2_cameFrom_60 : decode cX2_cameFrom 60 = .ok (.goto 5, 3) := by decide +kernel
theorem dX2_cameFrom_63 : decode cX2_cameFrom 63 = .ok (.lload 5, 2) := by decide +kernel
theorem dX2_cameFrom_65 : decode cX2_cameFrom 65 = .ok (.lreturn, 1) := by decide +kernel
def kX2_cameFrom_44 (mc ms : Nat) (X : Nat → zV) (Q : zQt) : zT :=
  zli 1 <| zc (.int 8) <| zid (fun x y => x / y) <| zc (.int 3) <| zic (fun x y => x = y) (zll 5 <| zll 5 <| zc (.int 8) <| zji (fun x y => (x.toUInt64 >>> (y.toInt64.toUInt64 &&& Int64.toUInt64 63)).toInt64) <| zjj (fun x y => x ||| y) <| zj X 65 []) <| zll 5 <| zj X 65 []
def kX2_cameFrom_8 (mc ms : Nat) (X : Nat → zV) (Q : zQt) : zT :=
  zla 0 <| zgi 2 1 <| zc (.int 1) <| zic (fun x y => x = y) (zc (.long 1) <| zli 1 <| zji (fun x y => x <<< (y.toInt64 &&& 63)) <| zc (.int 8) <| zji (fun x y => (x.toUInt64 >>> (y.toInt64.toUInt64 &&& Int64.toUInt64 63)).toInt64) <| zll 3 <| zjj (fun x y => x &&& y) <| zc (.long 72057594037927680) <| zjj (fun x y => x &&& y) <| zslN 5 <| kX2_cameFrom_44 mc ms X Q) <| zla 0 <| zgR 2 4 <| zli 1 <| zc (.int 64) <| zii (fun x y => x * y) <| zli 2 <| zii (fun x y => x + y) <| zall <| zll 3 <| zjj (fun x y => x &&& y) <| zrl Q
def aX2_cameFrom_0 (mc ms : Nat) (X : Nat → zV) (Q : zQt) : zT :=
  zc (.long 1) <| zli 2 <| zji (fun x y => x <<< (y.toInt64 &&& 63)) <| zc (.long (-1)) <| zjj (fun x y => x ^^^ y) <| zslN 3 <| kX2_cameFrom_8 mc ms X Q
def aX2_cameFrom_65 (mc ms : Nat) (X : Nat → zV) (Q : zQt) : zT :=
  zrl Q
def lvX2_cameFrom : Nat → List Nat := fun L => match L with
  | 0 => [0, 1, 2]
  | 65 => []
  | _ => []
def wX2_cameFrom : zSp := fun mc ms av M Q => ((zlay av).length ≤ 7 ∧ zpick (zlay av) [0, 1, 2] = some av) ∧ ∀ X : Nat → zV, zin 7 [0, 1, 2] (aX2_cameFrom_0 mc ms X Q) X 0 → zin 7 [] (aX2_cameFrom_65 mc ms X Q) X 65 → X 0 0 0 av [] M
set_option maxRecDepth 100000 in
set_option maxHeartbeats 4000000 in
theorem sX2_cameFrom (l : Launch) (G : zG) : zSnd l G yX2_cameFrom cX2_cameFrom 7 (some .long) 0 0 wX2_cameFrom := by
  refine zmk [0, 1, 2] (by decide) (fun mc ms av M Q h => h.1) ?_
  intro p e R s m args below meth c mc ms av M Q hC hRf hRl hr hnm h lv hlv
  obtain ⟨X, hXe⟩ : ∃ X : Nat → zV, X = fun L u v vs st M => ∀ lv, zpick lv (lvX2_cameFrom L) = some vs → zAt p l e R s m args below meth c (MQ below (zQ G Q) args s mc ms (zA G)) G 7 L u v lv st M := ⟨_, rfl⟩
  have hJ : ∀ L, zOk p l e R s m args below meth c (MQ below (zQ G Q) args s mc ms (zA G)) G 7 L (zj X L (lvX2_cameFrom L)) := fun L => S_jump (fun u v lv vs st M hp hx => by rw [hXe] at hx; exact hx lv hp)
  have hB0 : zin 7 [0, 1, 2] (aX2_cameFrom_0 mc ms X Q) X 0 := by
    intro u v vs st M hb
    rw [hXe]
    refine fun lv hp => S_block (L := 0) (live := [0, 1, 2]) ?_ u v lv vs st M hp hb
    unfold aX2_cameFrom_0
    refine S_lconst (pc := 0) hC dX2_cameFrom_0 (by decide) ?_
    refine S_iload_n (pc := 1) hC dX2_cameFrom_1 rfl ?_
    refine S_lshl (pc := 2) hC dX2_cameFrom_2 ?_
    refine S_ldc2 (pc := 3) hC wd_1125 dX2_cameFrom_3 ?_
    refine S_lxor (pc := 6) hC dX2_cameFrom_6 ?_
    refine S_lstore_n_N (pc := 7) hC dX2_cameFrom_7 rfl (by decide) ?_
    unfold kX2_cameFrom_8
    refine S_aload_n (pc := 8) hC dX2_cameFrom_8 rfl ?_
    refine S_geti (pc := 9) hC cfX2 (by decide) (Or.inl rfl) wd_1075 dX2_cameFrom_9 ?_
    refine S_iconst (pc := 12) hC dX2_cameFrom_12 (by decide) ?_
    refine S_icmp_eq (pc := 13) (tgt := 30) hC dX2_cameFrom_13 (by decide) ?_ ?_
    · refine S_lconst (pc := 30) hC dX2_cameFrom_30 (by decide) ?_
      refine S_iload_n (pc := 31) hC dX2_cameFrom_31 rfl ?_
      refine S_lshl (pc := 32) hC dX2_cameFrom_32 ?_
      refine S_bipush (pc := 33) hC dX2_cameFrom_33 (by decide) ?_
      refine S_lushr (pc := 35) hC dX2_cameFrom_35 ?_
      refine S_lload_n (pc := 36) hC dX2_cameFrom_36 rfl ?_
      refine S_land (pc := 37) hC dX2_cameFrom_37 ?_
      refine S_ldc2 (pc := 38) hC wd_1146 dX2_cameFrom_38 ?_
      refine S_land (pc := 41) hC dX2_cameFrom_41 ?_
      refine S_lstore_N (pc := 42) hC dX2_cameFrom_42 (by decide) ?_
      unfold kX2_cameFrom_44
      refine S_iload_n (pc := 44) hC dX2_cameFrom_44 rfl ?_
      refine S_bipush (pc := 45) hC dX2_cameFrom_45 (by decide) ?_
      refine S_idiv (pc := 47) hC dX2_cameFrom_47 ?_
      refine S_iconst (pc := 48) hC dX2_cameFrom_48 (by decide) ?_
      refine S_icmp_ne (pc := 49) (tgt := 63) hC dX2_cameFrom_49 (by decide) ?_ ?_
      · refine S_lload (pc := 63) hC dX2_cameFrom_63 ?_
        exact hJ 65
      · refine S_lload (pc := 52) hC dX2_cameFrom_52 ?_
        refine S_lload (pc := 54) hC dX2_cameFrom_54 ?_
        refine S_bipush (pc := 56) hC dX2_cameFrom_56 (by decide) ?_
        refine S_lushr (pc := 58) hC dX2_cameFrom_58 ?_
        refine S_lor (pc := 59) hC dX2_cameFrom_59 ?_
        refine S_goto (pc := 60) (tgt := 65) hC dX2_cameFrom_60 (by decide) ?_
        exact hJ 65
    · refine S_aload_n (pc := 16) hC dX2_cameFrom_16 rfl ?_
      refine S_getR (pc := 17) hC cfX2 (by decide) (Or.inr ⟨_, rfl⟩) wd_1078 dX2_cameFrom_17 ?_
      refine S_iload_n (pc := 20) hC dX2_cameFrom_20 rfl ?_
      refine S_bipush (pc := 21) hC dX2_cameFrom_21 (by decide) ?_
      refine S_imul (pc := 23) hC dX2_cameFrom_23 ?_
      refine S_iload_n (pc := 24) hC dX2_cameFrom_24 rfl ?_
      refine S_iadd (pc := 25) hC dX2_cameFrom_25 ?_
      refine S_laload (pc := 26) hC dX2_cameFrom_26 ?_
      refine S_lload_n (pc := 27) hC dX2_cameFrom_27 rfl ?_
      refine S_land (pc := 28) hC dX2_cameFrom_28 ?_
      exact S_lreturn (pc := 29) hC hr dX2_cameFrom_29
  have hB65 : zin 7 [] (aX2_cameFrom_65 mc ms X Q) X 65 := by
    intro u v vs st M hb
    rw [hXe]
    refine fun lv hp => S_block (L := 65) (live := []) ?_ u v lv vs st M hp hb
    unfold aX2_cameFrom_65
    exact S_lreturn (pc := 65) hC hr dX2_cameFrom_65
  have := h.2 X hB0 hB65
  rw [hXe] at this
  exact this lv hlv
theorem vcX2_cameFrom_44 {mc ms : Nat} {X : Nat → zV} {Q : zQt} {M : zM} {g : Nat} {x0 : Nat} {x1 : Int32} {x2 : Int32} {x3 : Int64} {x5 : Int64} (hW : zWd M g) (hx0 : zsh M x0 = some (0, 2)) (h : ((x1 / (8 : Int32)) = (3 : Int32) → X 65 0 0 [] [.long (x5 ||| ((x5.toUInt64 >>> ((8 : Int32).toInt64.toUInt64 &&& Int64.toUInt64 63)).toInt64))] M) ∧ (¬ (x1 / (8 : Int32)) = (3 : Int32) → X 65 0 0 [] [.long x5] M)) : kX2_cameFrom_44 mc ms X Q 0 0 [some (.ref x0), some (.int x1), some (.int x2), some (.long x3), none, some (.long x5), none] [] M := ⟨by decide, ⟨fun c49 => (h.1 c49), fun c49 => (h.2 c49)⟩⟩
theorem vcX2_cameFrom_8 {mc ms : Nat} {X : Nat → zV} {Q : zQt} {M : zM} {g : Nat} {x0 : Nat} {x1 : Int32} {x2 : Int32} {x3 : Int64} (hW : zWd M g) (hx0 : zsh M x0 = some (0, 2)) (h : ((M.1 x0 1) = (1 : Int32) → ∀ y42 : Int64, y42 = ((((((1 : Int64) <<< (x1.toInt64 &&& 63)).toUInt64 >>> ((8 : Int32).toInt64.toUInt64 &&& Int64.toUInt64 63)).toInt64) &&& x3) &&& (72057594037927680 : Int64)) → ((x1 / (8 : Int32)) = (3 : Int32) → X 65 0 0 [] [.long (y42 ||| ((y42.toUInt64 >>> ((8 : Int32).toInt64.toUInt64 &&& Int64.toUInt64 63)).toInt64))] M) ∧ (¬ (x1 / (8 : Int32)) = (3 : Int32) → X 65 0 0 [] [.long y42] M)) ∧ (¬ (M.1 x0 1) = (1 : Int32) → ∃ r17 r17n, ((M : zM).2.2.1 x0 4) = some r17 ∧ zsh M r17 = some (2, r17n) ∧ vp_in (((x1 * (64 : Int32)) + x2)) r17n ∧ Q (some (.long ((((M : zM).2.1 r17 (((x1 * (64 : Int32)) + x2) : Int32).toNatClampNeg) &&& x3)))) M)) : kX2_cameFrom_8 mc ms X Q 0 0 [some (.ref x0), some (.int x1), some (.int x2), some (.long x3), none, none, none] [] M := ⟨hx0, ⟨fun c13 => (fun y42 e42 => have h42 := (h.1 c13) y42 e42; (vcX2_cameFrom_44 hW hx0 h42)), fun c13 => (let ⟨r17, r17n, q17, hr17, h17⟩ := (h.2 c13); ⟨hx0, r17, q17, ⟨r17n, hr17, h17.1, h17.2⟩⟩)⟩⟩
theorem vX2_cameFrom_0 {mc ms : Nat} {X : Nat → zV} {Q : zQt} {M : zM} {g : Nat} {x0 : Nat} {x1 : Int32} {x2 : Int32} (hW : zWd M g) (hx0 : zsh M x0 = some (0, 2)) (h : ∀ y7 : Int64, y7 = (((1 : Int64) <<< (x2.toInt64 &&& 63)) ^^^ ((-1) : Int64)) → ((M.1 x0 1) = (1 : Int32) → ∀ y42 : Int64, y42 = ((((((1 : Int64) <<< (x1.toInt64 &&& 63)).toUInt64 >>> ((8 : Int32).toInt64.toUInt64 &&& Int64.toUInt64 63)).toInt64) &&& y7) &&& (72057594037927680 : Int64)) → ((x1 / (8 : Int32)) = (3 : Int32) → X 65 0 0 [] [.long (y42 ||| ((y42.toUInt64 >>> ((8 : Int32).toInt64.toUInt64 &&& Int64.toUInt64 63)).toInt64))] M) ∧ (¬ (x1 / (8 : Int32)) = (3 : Int32) → X 65 0 0 [] [.long y42] M)) ∧ (¬ (M.1 x0 1) = (1 : Int32) → ∃ r17 r17n, ((M : zM).2.2.1 x0 4) = some r17 ∧ zsh M r17 = some (2, r17n) ∧ vp_in (((x1 * (64 : Int32)) + x2)) r17n ∧ Q (some (.long ((((M : zM).2.1 r17 (((x1 * (64 : Int32)) + x2) : Int32).toNatClampNeg) &&& y7)))) M)) : aX2_cameFrom_0 mc ms X Q 0 0 [some (.ref x0), some (.int x1), some (.int x2), none, none, none, none] [] M := (fun y7 e7 => have h7 := h y7 e7; (vcX2_cameFrom_8 hW hx0 h7))
theorem vX2_cameFrom_65 {mc ms : Nat} {X : Nat → zV} {Q : zQt} {M : zM} {g : Nat} {s0 : Int64} (hW : zWd M g)  (h : Q (some (.long s0)) M) : aX2_cameFrom_65 mc ms X Q 0 0 [none, none, none, none, none, none, none] [.long s0] M := h
theorem dX2_lostIn_0 : decode cX2_lostIn 0 = .ok (.aload_n 0, 1) := by decide +kernel
theorem dX2_lostIn_1 : decode cX2_lostIn 1 = .ok (.getfield 33, 3) := by decide +kernel
theorem dX2_lostIn_4 : decode cX2_lostIn 4 = .ok (.iload_n 1, 1) := by decide +kernel
theorem dX2_lostIn_5 : decode cX2_lostIn 5 = .ok (.laload, 1) := by decide +kernel
theorem dX2_lostIn_6 : decode cX2_lostIn 6 = .ok (.lstore_n 3, 1) := by decide +kernel
theorem dX2_lostIn_7 : decode cX2_lostIn 7 = .ok (.iconst 0, 1) := by decide +kernel
theorem dX2_lostIn_8 : decode cX2_lostIn 8 = .ok (.istore 5, 2) := by decide +kernel
theorem dX2_lostIn_10 : decode cX2_lostIn 10 = .ok (.iload 5, 2) := by decide +kernel
theorem dX2_lostIn_12 : decode cX2_lostIn 12 = .ok (.iconst 5, 1) := by decide +kernel
theorem dX2_lostIn_13 : decode cX2_lostIn 13 = .ok (.if_icmp .ge 49, 3) := by decide +kernel
theorem dX2_lostIn_16 : decode cX2_lostIn 16 = .ok (.aload_n 0, 1) := by decide +kernel
theorem dX2_lostIn_17 : decode cX2_lostIn 17 = .ok (.getfield 46, 3) := by decide +kernel
theorem dX2_lostIn_20 : decode cX2_lostIn 20 = .ok (.iload 5, 2) := by decide +kernel
theorem dX2_lostIn_22 : decode cX2_lostIn 22 = .ok (.sipush 4096, 3) := by decide +kernel
theorem dX2_lostIn_25 : decode cX2_lostIn 25 = .ok (.imul, 1) := by decide +kernel
theorem dX2_lostIn_26 : decode cX2_lostIn 26 = .ok (.iload_n 1, 1) := by decide +kernel
theorem dX2_lostIn_27 : decode cX2_lostIn 27 = .ok (.iadd, 1) := by decide +kernel
theorem dX2_lostIn_28 : decode cX2_lostIn 28 = .ok (.laload, 1) := by decide +kernel
theorem dX2_lostIn_29 : decode cX2_lostIn 29 = .ok (.lstore 6, 2) := by decide +kernel
theorem dX2_lostIn_31 : decode cX2_lostIn 31 = .ok (.lload_n 3, 1) := by decide +kernel
theorem dX2_lostIn_32 : decode cX2_lostIn 32 = .ok (.iload_n 2, 1) := by decide +kernel
theorem dX2_lostIn_33 : decode cX2_lostIn 33 = .ok (.iload 5, 2) := by decide +kernel
theorem dX2_lostIn_35 : decode cX2_lostIn 35 = .ok (.iconst 1, 1) := by decide +kernel
theorem dX2_lostIn_36 : decode cX2_lostIn 36 = .ok (.iadd, 1) := by decide +kernel
theorem dX2_lostIn_37 : decode cX2_lostIn 37 = .ok (.ishr, 1) := by decide +kernel
theorem dX2_lostIn_38 : decode cX2_lostIn 38 = .ok (.iconst 1, 1) := by decide +kernel
theorem dX2_lostIn_39 : decode cX2_lostIn 39 = .ok (.iand, 1) := by decide +kernel
theorem dX2_lostIn_40 : decode cX2_lostIn 40 = .ok (.ifCond .eq 8, 3) := by decide +kernel
theorem dX2_lostIn_43 : decode cX2_lostIn 43 = .ok (.lload 6, 2) := by decide +kernel
theorem dX2_lostIn_45 : decode cX2_lostIn 45 = .ok (.goto 9, 3) := by decide +kernel
theorem dX2_lostIn_48 : decode cX2_lostIn 48 = .ok (.lload 6, 2) := by decide +kernel
theorem dX2_lostIn_50 : decode cX2_lostIn 50 = .ok (.ldc2_w 83, 3) := by decide +kernel
theorem dX2_lostIn_53 : decode cX2_lostIn 53 = .ok (.lxor, 1) := by decide +kernel
theorem dX2_lostIn_54 : decode cX2_lostIn 54 = .ok (.land, 1) := by decide +kernel
theorem dX2_lostIn_55 : decode cX2_lostIn 55 = .ok (.lstore_n 3, 1) := by decide +kernel
theorem dX2_lostIn_56 : decode cX2_lostIn 56 = .ok (.iinc 5 1, 3) := by decide +kernel
theorem dX2_lostIn_59 : decode cX2_lostIn 59 = .ok (.goto (-49), 3) := by decide +kernel
theorem dX2_lostIn_62 : decode cX2_lostIn 62 = .ok (.lload_n 3, 1) := by decide +kernel
theorem dX2_lostIn_63 : decode cX2_lostIn 63 = .ok (.lreturn, 1) := by decide +kernel
def kX2_lostIn_7 (mc ms : Nat) (X : Nat → zV) (Q : zQt) : zT :=
  zc (.int 0) <| zsi 5 <| zj X 10 [0, 1, 2, 3, 5]
def kX2_lostIn_31 (mc ms : Nat) (X : Nat → zV) (Q : zQt) : zT :=
  zll 3 <| zli 2 <| zli 5 <| zc (.int 1) <| zii (fun x y => x + y) <| zii (fun x y => x >>> (y &&& 31)) <| zc (.int 1) <| zii (fun x y => x &&& y) <| zif (fun x => x = 0) (zll 6 <| zc (.long (-1)) <| zjj (fun x y => x ^^^ y) <| zj X 54 [0, 1, 2, 5]) <| zll 6 <| zj X 54 [0, 1, 2, 5]
def aX2_lostIn_0 (mc ms : Nat) (X : Nat → zV) (Q : zQt) : zT :=
  zla 0 <| zgR 2 6 <| zli 1 <| zall <| zslN 3 <| kX2_lostIn_7 mc ms X Q
def aX2_lostIn_10 (mc ms : Nat) (X : Nat → zV) (Q : zQt) : zT :=
  zli 5 <| zc (.int 5) <| zic (fun x y => y ≤ x) (zll 3 <| zrl Q) <| zla 0 <| zgR 2 10 <| zli 5 <| zc (.int 4096) <| zii (fun x y => x * y) <| zli 1 <| zii (fun x y => x + y) <| zall <| zslN 6 <| kX2_lostIn_31 mc ms X Q
def aX2_lostIn_54 (mc ms : Nat) (X : Nat → zV) (Q : zQt) : zT :=
  zjj (fun x y => x &&& y) <| zsl 3 <| zinc 5 1 <| zj X 10 [0, 1, 2, 3, 5]
def lvX2_lostIn : Nat → List Nat := fun L => match L with
  | 0 => [0, 1, 2]
  | 10 => [0, 1, 2, 3, 5]
  | 54 => [0, 1, 2, 5]
  | _ => []
def wX2_lostIn : zSp := fun mc ms av M Q => ((zlay av).length ≤ 8 ∧ zpick (zlay av) [0, 1, 2] = some av) ∧ ∀ X : Nat → zV, zin 8 [0, 1, 2] (aX2_lostIn_0 mc ms X Q) X 0 → zin 8 [0, 1, 2, 3, 5] (aX2_lostIn_10 mc ms X Q) X 10 → zin 8 [0, 1, 2, 5] (aX2_lostIn_54 mc ms X Q) X 54 → X 0 0 0 av [] M
set_option maxRecDepth 100000 in
set_option maxHeartbeats 4000000 in
theorem sX2_lostIn (l : Launch) (G : zG) : zSnd l G yX2_lostIn cX2_lostIn 8 (some .long) 0 0 wX2_lostIn := by
  refine zmk [0, 1, 2] (by decide) (fun mc ms av M Q h => h.1) ?_
  intro p e R s m args below meth c mc ms av M Q hC hRf hRl hr hnm h lv hlv
  obtain ⟨X, hXe⟩ : ∃ X : Nat → zV, X = fun L u v vs st M => ∀ lv, zpick lv (lvX2_lostIn L) = some vs → zAt p l e R s m args below meth c (MQ below (zQ G Q) args s mc ms (zA G)) G 8 L u v lv st M := ⟨_, rfl⟩
  have hJ : ∀ L, zOk p l e R s m args below meth c (MQ below (zQ G Q) args s mc ms (zA G)) G 8 L (zj X L (lvX2_lostIn L)) := fun L => S_jump (fun u v lv vs st M hp hx => by rw [hXe] at hx; exact hx lv hp)
  have hB0 : zin 8 [0, 1, 2] (aX2_lostIn_0 mc ms X Q) X 0 := by
    intro u v vs st M hb
    rw [hXe]
    refine fun lv hp => S_block (L := 0) (live := [0, 1, 2]) ?_ u v lv vs st M hp hb
    unfold aX2_lostIn_0
    refine S_aload_n (pc := 0) hC dX2_lostIn_0 rfl ?_
    refine S_getR (pc := 1) hC cfX2 (by decide) (Or.inr ⟨_, rfl⟩) wd_1080 dX2_lostIn_1 ?_
    refine S_iload_n (pc := 4) hC dX2_lostIn_4 rfl ?_
    refine S_laload (pc := 5) hC dX2_lostIn_5 ?_
    refine S_lstore_n_N (pc := 6) hC dX2_lostIn_6 rfl (by decide) ?_
    unfold kX2_lostIn_7
    refine S_iconst (pc := 7) hC dX2_lostIn_7 (by decide) ?_
    refine S_istore (pc := 8) hC dX2_lostIn_8 (by decide) ?_
    exact hJ 10
  have hB10 : zin 8 [0, 1, 2, 3, 5] (aX2_lostIn_10 mc ms X Q) X 10 := by
    intro u v vs st M hb
    rw [hXe]
    refine fun lv hp => S_block (L := 10) (live := [0, 1, 2, 3, 5]) ?_ u v lv vs st M hp hb
    unfold aX2_lostIn_10
    refine S_iload (pc := 10) hC dX2_lostIn_10 ?_
    refine S_iconst (pc := 12) hC dX2_lostIn_12 (by decide) ?_
    refine S_icmp_ge (pc := 13) (tgt := 62) hC dX2_lostIn_13 (by decide) ?_ ?_
    · refine S_lload_n (pc := 62) hC dX2_lostIn_62 rfl ?_
      exact S_lreturn (pc := 63) hC hr dX2_lostIn_63
    · refine S_aload_n (pc := 16) hC dX2_lostIn_16 rfl ?_
      refine S_getR (pc := 17) hC cfX2 (by decide) (Or.inr ⟨_, rfl⟩) wd_1084 dX2_lostIn_17 ?_
      refine S_iload (pc := 20) hC dX2_lostIn_20 ?_
      refine S_sipush (pc := 22) hC dX2_lostIn_22 (by decide) ?_
      refine S_imul (pc := 25) hC dX2_lostIn_25 ?_
      refine S_iload_n (pc := 26) hC dX2_lostIn_26 rfl ?_
      refine S_iadd (pc := 27) hC dX2_lostIn_27 ?_
      refine S_laload (pc := 28) hC dX2_lostIn_28 ?_
      refine S_lstore_N (pc := 29) hC dX2_lostIn_29 (by decide) ?_
      unfold kX2_lostIn_31
      refine S_lload_n (pc := 31) hC dX2_lostIn_31 rfl ?_
      refine S_iload_n (pc := 32) hC dX2_lostIn_32 rfl ?_
      refine S_iload (pc := 33) hC dX2_lostIn_33 ?_
      refine S_iconst (pc := 35) hC dX2_lostIn_35 (by decide) ?_
      refine S_iadd (pc := 36) hC dX2_lostIn_36 ?_
      refine S_ishr (pc := 37) hC dX2_lostIn_37 ?_
      refine S_iconst (pc := 38) hC dX2_lostIn_38 (by decide) ?_
      refine S_iand (pc := 39) hC dX2_lostIn_39 ?_
      refine S_if_eq (pc := 40) (tgt := 48) hC dX2_lostIn_40 (by decide) ?_ ?_
      · refine S_lload (pc := 48) hC dX2_lostIn_48 ?_
        refine S_ldc2 (pc := 50) hC wd_1125 dX2_lostIn_50 ?_
        refine S_lxor (pc := 53) hC dX2_lostIn_53 ?_
        exact hJ 54
      · refine S_lload (pc := 43) hC dX2_lostIn_43 ?_
        refine S_goto (pc := 45) (tgt := 54) hC dX2_lostIn_45 (by decide) ?_
        exact hJ 54
  have hB54 : zin 8 [0, 1, 2, 5] (aX2_lostIn_54 mc ms X Q) X 54 := by
    intro u v vs st M hb
    rw [hXe]
    refine fun lv hp => S_block (L := 54) (live := [0, 1, 2, 5]) ?_ u v lv vs st M hp hb
    unfold aX2_lostIn_54
    refine S_land (pc := 54) hC dX2_lostIn_54 ?_
    refine S_lstore_n (pc := 55) hC dX2_lostIn_55 rfl (by decide) ?_
    refine S_iinc (pc := 56) hC dX2_lostIn_56 (by decide) (by decide) ?_
    refine S_goto (pc := 59) (tgt := 10) hC dX2_lostIn_59 (by decide) ?_
    exact hJ 10
  have := h.2 X hB0 hB10 hB54
  rw [hXe] at this
  exact this lv hlv
theorem vcX2_lostIn_7 {mc ms : Nat} {X : Nat → zV} {Q : zQt} {M : zM} {g : Nat} {x0 : Nat} {x1 : Int32} {x2 : Int32} {x3 : Int64} (hW : zWd M g) (hx0 : zsh M x0 = some (0, 2)) (h : X 10 0 0 [.ref x0, .int x1, .int x2, .long x3, .int 0] [] M) : kX2_lostIn_7 mc ms X Q 0 0 [some (.ref x0), some (.int x1), some (.int x2), some (.long x3), none, none, none, none] [] M := h
theorem vX2_lostIn_0 {mc ms : Nat} {X : Nat → zV} {Q : zQt} {M : zM} {g : Nat} {x0 : Nat} {x1 : Int32} {x2 : Int32} (hW : zWd M g) (hx0 : zsh M x0 = some (0, 2)) (h : ∃ r1 r1n, ((M : zM).2.2.1 x0 6) = some r1 ∧ zsh M r1 = some (2, r1n) ∧ vp_in x1 r1n ∧ ∀ y6 : Int64, y6 = ((M : zM).2.1 r1 (x1 : Int32).toNatClampNeg) → X 10 0 0 [.ref x0, .int x1, .int x2, .long y6, .int 0] [] M) : aX2_lostIn_0 mc ms X Q 0 0 [some (.ref x0), some (.int x1), some (.int x2), none, none, none, none, none] [] M := (let ⟨r1, r1n, q1, hr1, h1⟩ := h; ⟨hx0, r1, q1, ⟨r1n, hr1, h1.1, (fun y6 e6 => have h6 := h1.2 y6 e6; (vcX2_lostIn_7 hW hx0 h6))⟩⟩)
theorem vcX2_lostIn_31 {mc ms : Nat} {X : Nat → zV} {Q : zQt} {M : zM} {g : Nat} {x0 : Nat} {x1 : Int32} {x2 : Int32} {x3 : Int64} {x5 : Int32} {x6 : Int64} (hW : zWd M g) (hx0 : zsh M x0 = some (0, 2)) (h : (((x2 >>> ((x5 + (1 : Int32)) &&& 31)) &&& (1 : Int32)) = 0 → X 54 0 0 [.ref x0, .int x1, .int x2, .int x5] [.long (x6 ^^^ ((-1) : Int64)), .long x3] M) ∧ (¬ ((x2 >>> ((x5 + (1 : Int32)) &&& 31)) &&& (1 : Int32)) = 0 → X 54 0 0 [.ref x0, .int x1, .int x2, .int x5] [.long x6, .long x3] M)) : kX2_lostIn_31 mc ms X Q 0 0 [some (.ref x0), some (.int x1), some (.int x2), some (.long x3), none, some (.int x5), some (.long x6), none] [] M := ⟨fun c40 => (h.1 c40), fun c40 => (h.2 c40)⟩
theorem vX2_lostIn_10 {mc ms : Nat} {X : Nat → zV} {Q : zQt} {M : zM} {g : Nat} {x0 : Nat} {x1 : Int32} {x2 : Int32} {x3 : Int64} {x5 : Int32} (hW : zWd M g) (hx0 : zsh M x0 = some (0, 2)) (h : ((5 : Int32) ≤ x5 → Q (some (.long x3)) M) ∧ (¬ (5 : Int32) ≤ x5 → ∃ r17 r17n, ((M : zM).2.2.1 x0 10) = some r17 ∧ zsh M r17 = some (2, r17n) ∧ vp_in (((x5 * (4096 : Int32)) + x1)) r17n ∧ ∀ y29 : Int64, y29 = ((M : zM).2.1 r17 (((x5 * (4096 : Int32)) + x1) : Int32).toNatClampNeg) → (((x2 >>> ((x5 + (1 : Int32)) &&& 31)) &&& (1 : Int32)) = 0 → X 54 0 0 [.ref x0, .int x1, .int x2, .int x5] [.long (y29 ^^^ ((-1) : Int64)), .long x3] M) ∧ (¬ ((x2 >>> ((x5 + (1 : Int32)) &&& 31)) &&& (1 : Int32)) = 0 → X 54 0 0 [.ref x0, .int x1, .int x2, .int x5] [.long y29, .long x3] M))) : aX2_lostIn_10 mc ms X Q 0 0 [some (.ref x0), some (.int x1), some (.int x2), some (.long x3), none, some (.int x5), none, none] [] M := ⟨fun c13 => (h.1 c13), fun c13 => (let ⟨r17, r17n, q17, hr17, h17⟩ := (h.2 c13); ⟨hx0, r17, q17, ⟨r17n, hr17, h17.1, (fun y29 e29 => have h29 := h17.2 y29 e29; (vcX2_lostIn_31 hW hx0 h29))⟩⟩)⟩
theorem vX2_lostIn_54 {mc ms : Nat} {X : Nat → zV} {Q : zQt} {M : zM} {g : Nat} {x0 : Nat} {x1 : Int32} {x2 : Int32} {x5 : Int32} {s0 : Int64} {s1 : Int64} (hW : zWd M g) (hx0 : zsh M x0 = some (0, 2)) (h : X 10 0 0 [.ref x0, .int x1, .int x2, .long (s1 &&& s0), .int (x5 + 1)] [] M) : aX2_lostIn_54 mc ms X Q 0 0 [some (.ref x0), some (.int x1), some (.int x2), none, none, some (.int x5), none, none] [.long s0, .long s1] M := h
theorem dX2_gain_0 : decode cX2_gain 0 = .ok (.iload 4, 2) := by decide +kernel
theorem dX2_gain_2 : decode cX2_gain 2 = .ok (.iconst 2, 1) := by decide +kernel
theorem dX2_gain_3 : decode cX2_gain 3 = .ok (.irem, 1) := by decide +kernel
theorem dX2_gain_4 : decode cX2_gain 4 = .ok (.iconst 1, 1) := by decide +kernel
theorem dX2_gain_5 : decode cX2_gain 5 = .ok (.if_icmp .ne 10, 3) := by decide +kernel
theorem dX2_gain_8 : decode cX2_gain 8 = .ok (.aload_n 0, 1) := by decide +kernel
theorem dX2_gain_9 : decode cX2_gain 9 = .ok (.getfield 36, 3) := by decide +kernel
theorem dX2_gain_12 : decode cX2_gain 12 = .ok (.goto 7, 3) := by decide +kernel
theorem dX2_gain_15 : decode cX2_gain 15 = .ok (.aload_n 0, 1) := by decide +kernel
theorem dX2_gain_16 : decode cX2_gain 16 = .ok (.getfield 30, 3) := by decide +kernel
theorem dX2_gain_19 : decode cX2_gain 19 = .ok (.astore 5, 2) := by decide +kernel
theorem dX2_gain_21 : decode cX2_gain 21 = .ok (.iload 4, 2) := by decide +kernel
theorem dX2_gain_23 : decode cX2_gain 23 = .ok (.iconst 2, 1) := by decide +kernel
theorem dX2_gain_24 : decode cX2_gain 24 = .ok (.irem, 1) := by decide +kernel
theorem dX2_gain_25 : decode cX2_gain 25 = .ok (.iconst 1, 1) := by decide +kernel
theorem dX2_gain_26 : decode cX2_gain 26 = .ok (.if_icmp .ne 10, 3) := by decide +kernel
theorem dX2_gain_29 : decode cX2_gain 29 = .ok (.aload_n 0, 1) := by decide +kernel
theorem dX2_gain_30 : decode cX2_gain 30 = .ok (.getfield 39, 3) := by decide +kernel
theorem dX2_gain_33 : decode cX2_gain 33 = .ok (.goto 7, 3) := by decide +kernel
theorem dX2_gain_36 : decode cX2_gain 36 = .ok (.aload_n 0, 1) := by decide +kernel
theorem dX2_gain_37 : decode cX2_gain 37 = .ok (.getfield 33, 3) := by decide +kernel
theorem dX2_gain_40 : decode cX2_gain 40 = .ok (.astore 6, 2) := by decide +kernel
theorem dX2_gain_42 : decode cX2_gain 42 = .ok (.lload_n 2, 1) := by decide +kernel
theorem dX2_gain_43 : decode cX2_gain 43 = .ok (.aload 5, 2) := by decide +kernel
theorem dX2_gain_45 : decode cX2_gain 45 = .ok (.iload_n 1, 1) := by decide +kernel
theorem dX2_gain_46 : decode cX2_gain 46 = .ok (.laload, 1) := by decide +kernel
theorem dX2_gain_47 : decode cX2_gain 47 = .ok (.land, 1) := by decide +kernel
theorem dX2_gain_48 : decode cX2_gain 48 = .ok (.aload 6, 2) := by decide +kernel
theorem dX2_gain_50 : decode cX2_gain 50 = .ok (.iload_n 1, 1) := by decide +kernel
theorem dX2_gain_51 : decode cX2_gain 51 = .ok (.laload, 1) := by decide +kernel
theorem dX2_gain_52 : decode cX2_gain 52 = .ok (.ldc2_w 83, 3) := by decide +kernel
theorem dX2_gain_55 : decode cX2_gain 55 = .ok (.lxor, 1) := by decide +kernel
theorem dX2_gain_56 : decode cX2_gain 56 = .ok (.land, 1) := by decide +kernel
theorem dX2_gain_57 : decode cX2_gain 57 = .ok (.lstore 7, 2) := by decide +kernel
theorem dX2_gain_59 : decode cX2_gain 59 = .ok (.aload 6, 2) := by decide +kernel
theorem dX2_gain_61 : decode cX2_gain 61 = .ok (.iload_n 1, 1) := by decide +kernel
theorem dX2_gain_62 : decode cX2_gain 62 = .ok (.dup2, 1) := by decide +kernel
theorem dX2_gain_63 : decode cX2_gain 63 = .ok (.laload, 1) := by decide +kernel
theorem dX2_gain_64 : decode cX2_gain 64 = .ok (.lload 7, 2) := by decide +kernel
theorem dX2_gain_66 : decode cX2_gain 66 = .ok (.lor, 1) := by decide +kernel
theorem dX2_gain_67 : decode cX2_gain 67 = .ok (.lastore, 1) := by decide +kernel
theorem dX2_gain_68 : decode cX2_gain 68 = .ok (.iconst 0, 1) := by decide +kernel
theorem dX2_gain_69 : decode cX2_gain 69 = .ok (.istore 9, 2) := by decide +kernel
theorem dX2_gain_71 : decode cX2_gain 71 = .ok (.iload 9, 2) := by decide +kernel
theorem dX2_gain_73 : decode cX2_gain 73 = .ok (.iconst 5, 1) := by decide +kernel
theorem dX2_gain_74 : decode cX2_gain 74 = .ok (.if_icmp .ge 53, 3) := by decide +kernel
theorem dX2_gain_77 : decode cX2_gain 77 = .ok (.lload 7, 2) := by decide +kernel
theorem dX2_gain_79 : decode cX2_gain 79 = .ok (.lconst 0, 1) := by decide +kernel
theorem dX2_gain_80 : decode cX2_gain 80 = .ok (.lcmp, 1) := by decide +kernel
theorem dX2_gain_81 : decode cX2_gain 81 = .ok (.ifCond .eq 46, 3) := by decide +kernel
theorem dX2_gain_84 : decode cX2_gain 84 = .ok (.iload 4, 2) := by decide +kernel
theorem dX2_gain_86 : decode cX2_gain 86 = .ok (.iload 9, 2) := by decide +kernel
theorem dX2_gain_88 : decode cX2_gain 88 = .ok (.iconst 1, 1) := by decide +kernel
theorem dX2_gain_89 : decode cX2_gain 89 = .ok (.iadd, 1) := by decide +kernel
theorem dX2_gain_90 : decode cX2_gain 90 = .ok (.ishr, 1) := by decide +kernel
theorem dX2_gain_91 : decode cX2_gain 91 = .ok (.iconst 1, 1) := by decide +kernel
theorem dX2_gain_92 : decode cX2_gain 92 = .ok (.iand, 1) := by decide +kernel
theorem dX2_gain_93 : decode cX2_gain 93 = .ok (.ifCond .eq 28, 3) := by decide +kernel
theorem dX2_gain_96 : decode cX2_gain 96 = .ok (.aload_n 0, 1) := by decide +kernel
theorem dX2_gain_97 : decode cX2_gain 97 = .ok (.getfield 46, 3) := by decide +kernel
theorem dX2_gain_100 : decode cX2_gain 100 = .ok (.iload 4, 2) := by decide +kernel
theorem dX2_gain_102 : decode cX2_gain 102 = .ok (.iconst 2, 1) := by decide +kernel
theorem dX2_gain_103 : decode cX2_gain 103 = .ok (.irem, 1) := by decide +kernel
theorem dX2_gain_104 : decode cX2_gain 104 = .ok (.iconst 5, 1) := by decide +kernel
theorem dX2_gain_105 : decode cX2_gain 105 = .ok (.imul, 1) := by decide +kernel
theorem dX2_gain_106 : decode cX2_gain 106 = .ok (.iload 9, 2) := by decide +kernel
theorem dX2_gain_108 : decode cX2_gain 108 = .ok (.iadd, 1) := by decide +kernel
theorem dX2_gain_109 : decode cX2_gain 109 = .ok (.sipush 4096, 3) := by decide +kernel
theorem dX2_gain_112 : decode cX2_gain 112 = .ok (.imul, 1) := by decide +kernel
theorem dX2_gain_113 : decode cX2_gain 113 = .ok (.iload_n 1, 1) := by decide +kernel
theorem dX2_gain_114 : decode cX2_gain 114 = .ok (.iadd, 1) := by decide +kernel
theorem dX2_gain_115 : decode cX2_gain 115 = .ok (.dup2, 1) := by decide +kernel
theorem dX2_gain_116 : decode cX2_gain 116 = .ok (.laload, 1) := by decide +kernel
theorem dX2_gain_117 : decode cX2_gain 117 = .ok (.lload 7, 2) := by decide +kernel
theorem dX2_gain_119 : decode cX2_gain 119 = .ok (.lor, 1) := by decide +kernel
theorem dX2_gain_120 : decode cX2_gain 120 = .ok (.lastore, 1) := by decide +kernel
theorem dX2_gain_121 : decode cX2_gain 121 = .ok (.iinc 9 1, 3) := by decide +kernel
theorem dX2_gain_124 : decode cX2_gain 124 = .ok (.goto (-53), 3) := by decide +kernel
theorem dX2_gain_127 : decode cX2_gain 127 = .ok (.lload 7, 2) := by decide +kernel
theorem dX2_gain_129 : decode cX2_gain 129 = .ok (.lreturn, 1) := by decide +kernel
def kX2_gain_59 (mc ms : Nat) (X : Nat → zV) (Q : zQt) : zT :=
  zla 6 <| zli 1 <| zdp2 <| zall <| zll 7 <| zjj (fun x y => x ||| y) <| zasl <| zc (.int 0) <| zsi 9 <| zj X 71 [0, 1, 4, 7, 9]
def aX2_gain_0 (mc ms : Nat) (X : Nat → zV) (Q : zQt) : zT :=
  zli 4 <| zc (.int 2) <| zid (fun x y => x - x / y * y) <| zc (.int 1) <| zic (fun x y => x = y) (zla 0 <| zgR 2 7 <| zj X 19 [0, 1, 2, 4]) <| zla 0 <| zgR 2 5 <| zj X 19 [0, 1, 2, 4]
def aX2_gain_19 (mc ms : Nat) (X : Nat → zV) (Q : zQt) : zT :=
  zsa 5 <| zli 4 <| zc (.int 2) <| zid (fun x y => x - x / y * y) <| zc (.int 1) <| zic (fun x y => x = y) (zla 0 <| zgR 2 8 <| zj X 40 [0, 1, 2, 4, 5]) <| zla 0 <| zgR 2 6 <| zj X 40 [0, 1, 2, 4, 5]
def aX2_gain_40 (mc ms : Nat) (X : Nat → zV) (Q : zQt) : zT :=
  zsa 6 <| zll 2 <| zla 5 <| zli 1 <| zall <| zjj (fun x y => x &&& y) <| zla 6 <| zli 1 <| zall <| zc (.long (-1)) <| zjj (fun x y => x ^^^ y) <| zjj (fun x y => x &&& y) <| zslN 7 <| kX2_gain_59 mc ms X Q
def aX2_gain_71 (mc ms : Nat) (X : Nat → zV) (Q : zQt) : zT :=
  zli 9 <| zc (.int 5) <| zic (fun x y => y ≤ x) (zj X 127 [7]) <| zll 7 <| zc (.long 0) <| zlc <| zif (fun x => x = 0) (zj X 127 [7]) <| zli 4 <| zli 9 <| zc (.int 1) <| zii (fun x y => x + y) <| zii (fun x y => x >>> (y &&& 31)) <| zc (.int 1) <| zii (fun x y => x &&& y) <| zif (fun x => x = 0) (zj X 121 [0, 1, 4, 7, 9]) <| zla 0 <| zgR 2 10 <| zli 4 <| zc (.int 2) <| zid (fun x y => x - x / y * y) <| zc (.int 5) <| zii (fun x y => x * y) <| zli 9 <| zii (fun x y => x + y) <| zc (.int 4096) <| zii (fun x y => x * y) <| zli 1 <| zii (fun x y => x + y) <| zdp2 <| zall <| zll 7 <| zjj (fun x y => x ||| y) <| zasl <| zj X 121 [0, 1, 4, 7, 9]
def aX2_gain_121 (mc ms : Nat) (X : Nat → zV) (Q : zQt) : zT :=
  zinc 9 1 <| zj X 71 [0, 1, 4, 7, 9]
def aX2_gain_127 (mc ms : Nat) (X : Nat → zV) (Q : zQt) : zT :=
  zll 7 <| zrl Q
def lvX2_gain : Nat → List Nat := fun L => match L with
  | 0 => [0, 1, 2, 4]
  | 19 => [0, 1, 2, 4]
  | 40 => [0, 1, 2, 4, 5]
  | 71 => [0, 1, 4, 7, 9]
  | 121 => [0, 1, 4, 7, 9]
  | 127 => [7]
  | _ => []
def wX2_gain : zSp := fun mc ms av M Q => ((zlay av).length ≤ 10 ∧ zpick (zlay av) [0, 1, 2, 4] = some av) ∧ ∀ X : Nat → zV, zin 10 [0, 1, 2, 4] (aX2_gain_0 mc ms X Q) X 0 → zin 10 [0, 1, 2, 4] (aX2_gain_19 mc ms X Q) X 19 → zin 10 [0, 1, 2, 4, 5] (aX2_gain_40 mc ms X Q) X 40 → zin 10 [0, 1, 4, 7, 9] (aX2_gain_71 mc ms X Q) X 71 → zin 10 [0, 1, 4, 7, 9] (aX2_gain_121 mc ms X Q) X 121 → zin 10 [7] (aX2_gain_127 mc ms X Q) X 127 → X 0 0 0 av [] M
set_option maxRecDepth 100000 in
set_option maxHeartbeats 4000000 in
theorem sX2_gain (l : Launch) (G : zG) : zSnd l G yX2_gain cX2_gain 10 (some .long) 0 0 wX2_gain := by
  refine zmk [0, 1, 2, 4] (by decide) (fun mc ms av M Q h => h.1) ?_
  intro p e R s m args below meth c mc ms av M Q hC hRf hRl hr hnm h lv hlv
  obtain ⟨X, hXe⟩ : ∃ X : Nat → zV, X = fun L u v vs st M => ∀ lv, zpick lv (lvX2_gain L) = some vs → zAt p l e R s m args below meth c (MQ below (zQ G Q) args s mc ms (zA G)) G 10 L u v lv st M := ⟨_, rfl⟩
  have hJ : ∀ L, zOk p l e R s m args below meth c (MQ below (zQ G Q) args s mc ms (zA G)) G 10 L (zj X L (lvX2_gain L)) := fun L => S_jump (fun u v lv vs st M hp hx => by rw [hXe] at hx; exact hx lv hp)
  have hB0 : zin 10 [0, 1, 2, 4] (aX2_gain_0 mc ms X Q) X 0 := by
    intro u v vs st M hb
    rw [hXe]
    refine fun lv hp => S_block (L := 0) (live := [0, 1, 2, 4]) ?_ u v lv vs st M hp hb
    unfold aX2_gain_0
    refine S_iload (pc := 0) hC dX2_gain_0 ?_
    refine S_iconst (pc := 2) hC dX2_gain_2 (by decide) ?_
    refine S_irem (pc := 3) hC dX2_gain_3 ?_
    refine S_iconst (pc := 4) hC dX2_gain_4 (by decide) ?_
    refine S_icmp_ne (pc := 5) (tgt := 15) hC dX2_gain_5 (by decide) ?_ ?_
    · refine S_aload_n (pc := 15) hC dX2_gain_15 rfl ?_
      refine S_getR (pc := 16) hC cfX2 (by decide) (Or.inr ⟨_, rfl⟩) wd_1079 dX2_gain_16 ?_
      exact hJ 19
    · refine S_aload_n (pc := 8) hC dX2_gain_8 rfl ?_
      refine S_getR (pc := 9) hC cfX2 (by decide) (Or.inr ⟨_, rfl⟩) wd_1081 dX2_gain_9 ?_
      refine S_goto (pc := 12) (tgt := 19) hC dX2_gain_12 (by decide) ?_
      exact hJ 19
  have hB19 : zin 10 [0, 1, 2, 4] (aX2_gain_19 mc ms X Q) X 19 := by
    intro u v vs st M hb
    rw [hXe]
    refine fun lv hp => S_block (L := 19) (live := [0, 1, 2, 4]) ?_ u v lv vs st M hp hb
    unfold aX2_gain_19
    refine S_astore (pc := 19) hC dX2_gain_19 (by decide) ?_
    refine S_iload (pc := 21) hC dX2_gain_21 ?_
    refine S_iconst (pc := 23) hC dX2_gain_23 (by decide) ?_
    refine S_irem (pc := 24) hC dX2_gain_24 ?_
    refine S_iconst (pc := 25) hC dX2_gain_25 (by decide) ?_
    refine S_icmp_ne (pc := 26) (tgt := 36) hC dX2_gain_26 (by decide) ?_ ?_
    · refine S_aload_n (pc := 36) hC dX2_gain_36 rfl ?_
      refine S_getR (pc := 37) hC cfX2 (by decide) (Or.inr ⟨_, rfl⟩) wd_1080 dX2_gain_37 ?_
      exact hJ 40
    · refine S_aload_n (pc := 29) hC dX2_gain_29 rfl ?_
      refine S_getR (pc := 30) hC cfX2 (by decide) (Or.inr ⟨_, rfl⟩) wd_1082 dX2_gain_30 ?_
      refine S_goto (pc := 33) (tgt := 40) hC dX2_gain_33 (by decide) ?_
      exact hJ 40
  have hB40 : zin 10 [0, 1, 2, 4, 5] (aX2_gain_40 mc ms X Q) X 40 := by
    intro u v vs st M hb
    rw [hXe]
    refine fun lv hp => S_block (L := 40) (live := [0, 1, 2, 4, 5]) ?_ u v lv vs st M hp hb
    unfold aX2_gain_40
    refine S_astore (pc := 40) hC dX2_gain_40 (by decide) ?_
    refine S_lload_n (pc := 42) hC dX2_gain_42 rfl ?_
    refine S_aload (pc := 43) hC dX2_gain_43 ?_
    refine S_iload_n (pc := 45) hC dX2_gain_45 rfl ?_
    refine S_laload (pc := 46) hC dX2_gain_46 ?_
    refine S_land (pc := 47) hC dX2_gain_47 ?_
    refine S_aload (pc := 48) hC dX2_gain_48 ?_
    refine S_iload_n (pc := 50) hC dX2_gain_50 rfl ?_
    refine S_laload (pc := 51) hC dX2_gain_51 ?_
    refine S_ldc2 (pc := 52) hC wd_1125 dX2_gain_52 ?_
    refine S_lxor (pc := 55) hC dX2_gain_55 ?_
    refine S_land (pc := 56) hC dX2_gain_56 ?_
    refine S_lstore_N (pc := 57) hC dX2_gain_57 (by decide) ?_
    unfold kX2_gain_59
    refine S_aload (pc := 59) hC dX2_gain_59 ?_
    refine S_iload_n (pc := 61) hC dX2_gain_61 rfl ?_
    refine S_dup2 (pc := 62) hC dX2_gain_62 ?_
    refine S_laload (pc := 63) hC dX2_gain_63 ?_
    refine S_lload (pc := 64) hC dX2_gain_64 ?_
    refine S_lor (pc := 66) hC dX2_gain_66 ?_
    refine S_lastore (pc := 67) hC dX2_gain_67 ?_
    refine S_iconst (pc := 68) hC dX2_gain_68 (by decide) ?_
    refine S_istore (pc := 69) hC dX2_gain_69 (by decide) ?_
    exact hJ 71
  have hB71 : zin 10 [0, 1, 4, 7, 9] (aX2_gain_71 mc ms X Q) X 71 := by
    intro u v vs st M hb
    rw [hXe]
    refine fun lv hp => S_block (L := 71) (live := [0, 1, 4, 7, 9]) ?_ u v lv vs st M hp hb
    unfold aX2_gain_71
    refine S_iload (pc := 71) hC dX2_gain_71 ?_
    refine S_iconst (pc := 73) hC dX2_gain_73 (by decide) ?_
    refine S_icmp_ge (pc := 74) (tgt := 127) hC dX2_gain_74 (by decide) ?_ ?_
    · exact hJ 127
    · refine S_lload (pc := 77) hC dX2_gain_77 ?_
      refine S_lconst (pc := 79) hC dX2_gain_79 (by decide) ?_
      refine S_lcmp (pc := 80) hC dX2_gain_80 ?_
      refine S_if_eq (pc := 81) (tgt := 127) hC dX2_gain_81 (by decide) ?_ ?_
      · exact hJ 127
      · refine S_iload (pc := 84) hC dX2_gain_84 ?_
        refine S_iload (pc := 86) hC dX2_gain_86 ?_
        refine S_iconst (pc := 88) hC dX2_gain_88 (by decide) ?_
        refine S_iadd (pc := 89) hC dX2_gain_89 ?_
        refine S_ishr (pc := 90) hC dX2_gain_90 ?_
        refine S_iconst (pc := 91) hC dX2_gain_91 (by decide) ?_
        refine S_iand (pc := 92) hC dX2_gain_92 ?_
        refine S_if_eq (pc := 93) (tgt := 121) hC dX2_gain_93 (by decide) ?_ ?_
        · exact hJ 121
        · refine S_aload_n (pc := 96) hC dX2_gain_96 rfl ?_
          refine S_getR (pc := 97) hC cfX2 (by decide) (Or.inr ⟨_, rfl⟩) wd_1084 dX2_gain_97 ?_
          refine S_iload (pc := 100) hC dX2_gain_100 ?_
          refine S_iconst (pc := 102) hC dX2_gain_102 (by decide) ?_
          refine S_irem (pc := 103) hC dX2_gain_103 ?_
          refine S_iconst (pc := 104) hC dX2_gain_104 (by decide) ?_
          refine S_imul (pc := 105) hC dX2_gain_105 ?_
          refine S_iload (pc := 106) hC dX2_gain_106 ?_
          refine S_iadd (pc := 108) hC dX2_gain_108 ?_
          refine S_sipush (pc := 109) hC dX2_gain_109 (by decide) ?_
          refine S_imul (pc := 112) hC dX2_gain_112 ?_
          refine S_iload_n (pc := 113) hC dX2_gain_113 rfl ?_
          refine S_iadd (pc := 114) hC dX2_gain_114 ?_
          refine S_dup2 (pc := 115) hC dX2_gain_115 ?_
          refine S_laload (pc := 116) hC dX2_gain_116 ?_
          refine S_lload (pc := 117) hC dX2_gain_117 ?_
          refine S_lor (pc := 119) hC dX2_gain_119 ?_
          refine S_lastore (pc := 120) hC dX2_gain_120 ?_
          exact hJ 121
  have hB121 : zin 10 [0, 1, 4, 7, 9] (aX2_gain_121 mc ms X Q) X 121 := by
    intro u v vs st M hb
    rw [hXe]
    refine fun lv hp => S_block (L := 121) (live := [0, 1, 4, 7, 9]) ?_ u v lv vs st M hp hb
    unfold aX2_gain_121
    refine S_iinc (pc := 121) hC dX2_gain_121 (by decide) (by decide) ?_
    refine S_goto (pc := 124) (tgt := 71) hC dX2_gain_124 (by decide) ?_
    exact hJ 71
  have hB127 : zin 10 [7] (aX2_gain_127 mc ms X Q) X 127 := by
    intro u v vs st M hb
    rw [hXe]
    refine fun lv hp => S_block (L := 127) (live := [7]) ?_ u v lv vs st M hp hb
    unfold aX2_gain_127
    refine S_lload (pc := 127) hC dX2_gain_127 ?_
    exact S_lreturn (pc := 129) hC hr dX2_gain_129
  have := h.2 X hB0 hB19 hB40 hB71 hB121 hB127
  rw [hXe] at this
  exact this lv hlv
theorem vX2_gain_0 {mc ms : Nat} {X : Nat → zV} {Q : zQt} {M : zM} {g : Nat} {x0 : Nat} {x1 : Int32} {x2 : Int64} {x4 : Int32} (hW : zWd M g) (hx0 : zsh M x0 = some (0, 2)) (h : ((x4 - x4 / (2 : Int32) * (2 : Int32)) = (1 : Int32) → ∃ r9 r9n, ((M : zM).2.2.1 x0 7) = some r9 ∧ zsh M r9 = some (2, r9n) ∧ X 19 0 0 [.ref x0, .int x1, .long x2, .int x4] [.ref r9] M) ∧ (¬ (x4 - x4 / (2 : Int32) * (2 : Int32)) = (1 : Int32) → ∃ r16 r16n, ((M : zM).2.2.1 x0 5) = some r16 ∧ zsh M r16 = some (2, r16n) ∧ X 19 0 0 [.ref x0, .int x1, .long x2, .int x4] [.ref r16] M)) : aX2_gain_0 mc ms X Q 0 0 [some (.ref x0), some (.int x1), some (.long x2), none, some (.int x4), none, none, none, none, none] [] M := ⟨by decide, ⟨fun c5 => (let ⟨r9, r9n, q9, hr9, h9⟩ := (h.1 c5); ⟨hx0, r9, q9, h9⟩), fun c5 => (let ⟨r16, r16n, q16, hr16, h16⟩ := (h.2 c5); ⟨hx0, r16, q16, h16⟩)⟩⟩
theorem vX2_gain_19 {mc ms : Nat} {X : Nat → zV} {Q : zQt} {M : zM} {g : Nat} {x0 : Nat} {x1 : Int32} {x2 : Int64} {x4 : Int32} {s0 : Nat} {s0n : Nat} (hW : zWd M g) (hx0 : zsh M x0 = some (0, 2)) (hs0 : zsh M s0 = some (2, s0n)) (h : ((x4 - x4 / (2 : Int32) * (2 : Int32)) = (1 : Int32) → ∃ r30 r30n, ((M : zM).2.2.1 x0 8) = some r30 ∧ zsh M r30 = some (2, r30n) ∧ X 40 0 0 [.ref x0, .int x1, .long x2, .int x4, .ref s0] [.ref r30] M) ∧ (¬ (x4 - x4 / (2 : Int32) * (2 : Int32)) = (1 : Int32) → ∃ r37 r37n, ((M : zM).2.2.1 x0 6) = some r37 ∧ zsh M r37 = some (2, r37n) ∧ X 40 0 0 [.ref x0, .int x1, .long x2, .int x4, .ref s0] [.ref r37] M)) : aX2_gain_19 mc ms X Q 0 0 [some (.ref x0), some (.int x1), some (.long x2), none, some (.int x4), none, none, none, none, none] [.ref s0] M := ⟨by decide, ⟨fun c26 => (let ⟨r30, r30n, q30, hr30, h30⟩ := (h.1 c26); ⟨hx0, r30, q30, h30⟩), fun c26 => (let ⟨r37, r37n, q37, hr37, h37⟩ := (h.2 c26); ⟨hx0, r37, q37, h37⟩)⟩⟩
theorem vcX2_gain_59 {mc ms : Nat} {X : Nat → zV} {Q : zQt} {M : zM} {g : Nat} {x0 : Nat} {x1 : Int32} {x2 : Int64} {x4 : Int32} {x5 : Nat} {x5n : Nat} {x6 : Nat} {x6n : Nat} {x7 : Int64} (hW : zWd M g) (hx0 : zsh M x0 = some (0, 2)) (hx5 : zsh M x5 = some (2, x5n)) (hx6 : zsh M x6 = some (2, x6n)) (h : vp_in x1 x6n ∧ vp_in x1 x6n ∧ ∀ M67 : zM, M67 = (zsJ M x6 (x1 : Int32).toNatClampNeg ((((M : zM).2.1 x6 (x1 : Int32).toNatClampNeg) ||| x7))) → X 71 0 0 [.ref x0, .int x1, .int x4, .long x7, .int 0] [] M67) : kX2_gain_59 mc ms X Q 0 0 [some (.ref x0), some (.int x1), some (.long x2), none, some (.int x4), some (.ref x5), some (.ref x6), some (.long x7), none, none] [] M := ⟨x6n, hx6, h.1, ⟨x6n, hx6, h.2.1, (have h67 := h.2.2 _ rfl; h67)⟩⟩
theorem vX2_gain_40 {mc ms : Nat} {X : Nat → zV} {Q : zQt} {M : zM} {g : Nat} {x0 : Nat} {x1 : Int32} {x2 : Int64} {x4 : Int32} {x5 : Nat} {x5n : Nat} {s0 : Nat} {s0n : Nat} (hW : zWd M g) (hx0 : zsh M x0 = some (0, 2)) (hx5 : zsh M x5 = some (2, x5n)) (hs0 : zsh M s0 = some (2, s0n)) (h : vp_in x1 x5n ∧ vp_in x1 s0n ∧ ∀ y57 : Int64, y57 = ((x2 &&& ((M : zM).2.1 x5 (x1 : Int32).toNatClampNeg)) &&& (((M : zM).2.1 s0 (x1 : Int32).toNatClampNeg) ^^^ ((-1) : Int64))) → vp_in x1 s0n ∧ vp_in x1 s0n ∧ ∀ M67 : zM, M67 = (zsJ M s0 (x1 : Int32).toNatClampNeg ((((M : zM).2.1 s0 (x1 : Int32).toNatClampNeg) ||| y57))) → X 71 0 0 [.ref x0, .int x1, .int x4, .long y57, .int 0] [] M67) : aX2_gain_40 mc ms X Q 0 0 [some (.ref x0), some (.int x1), some (.long x2), none, some (.int x4), some (.ref x5), none, none, none, none] [.ref s0] M := ⟨x5n, hx5, h.1, ⟨s0n, hs0, h.2.1, (fun y57 e57 => have h57 := h.2.2 y57 e57; (vcX2_gain_59 hW hx0 hx5 hs0 h57))⟩⟩
theorem vX2_gain_71 {mc ms : Nat} {X : Nat → zV} {Q : zQt} {M : zM} {g : Nat} {x0 : Nat} {x1 : Int32} {x4 : Int32} {x7 : Int64} {x9 : Int32} (hW : zWd M g) (hx0 : zsh M x0 = some (0, 2)) (h : ((5 : Int32) ≤ x9 → X 127 0 0 [.long x7] [] M) ∧ (¬ (5 : Int32) ≤ x9 → ((lg_cmp x7 ((0 : Int64))) = 0 → X 127 0 0 [.long x7] [] M) ∧ (¬ (lg_cmp x7 ((0 : Int64))) = 0 → (((x4 >>> ((x9 + (1 : Int32)) &&& 31)) &&& (1 : Int32)) = 0 → X 121 0 0 [.ref x0, .int x1, .int x4, .long x7, .int x9] [] M) ∧ (¬ ((x4 >>> ((x9 + (1 : Int32)) &&& 31)) &&& (1 : Int32)) = 0 → ∃ r97 r97n, ((M : zM).2.2.1 x0 10) = some r97 ∧ zsh M r97 = some (2, r97n) ∧ vp_in ((((((x4 - x4 / (2 : Int32) * (2 : Int32)) * (5 : Int32)) + x9) * (4096 : Int32)) + x1)) r97n ∧ vp_in ((((((x4 - x4 / (2 : Int32) * (2 : Int32)) * (5 : Int32)) + x9) * (4096 : Int32)) + x1)) r97n ∧ ∀ M120 : zM, M120 = (zsJ M r97 ((((((x4 - x4 / (2 : Int32) * (2 : Int32)) * (5 : Int32)) + x9) * (4096 : Int32)) + x1) : Int32).toNatClampNeg ((((M : zM).2.1 r97 ((((((x4 - x4 / (2 : Int32) * (2 : Int32)) * (5 : Int32)) + x9) * (4096 : Int32)) + x1) : Int32).toNatClampNeg) ||| x7))) → X 121 0 0 [.ref x0, .int x1, .int x4, .long x7, .int x9] [] M120)))) : aX2_gain_71 mc ms X Q 0 0 [some (.ref x0), some (.int x1), none, none, some (.int x4), none, none, some (.long x7), none, some (.int x9)] [] M := ⟨fun c74 => (h.1 c74), fun c74 => ⟨fun c81 => ((h.2 c74).1 c81), fun c81 => ⟨fun c93 => (((h.2 c74).2 c81).1 c93), fun c93 => (let ⟨r97, r97n, q97, hr97, h97⟩ := (((h.2 c74).2 c81).2 c93); ⟨hx0, r97, q97, ⟨by decide, ⟨r97n, hr97, h97.1, ⟨r97n, hr97, h97.2.1, (have h120 := h97.2.2 _ rfl; h120)⟩⟩⟩⟩)⟩⟩⟩
theorem vX2_gain_121 {mc ms : Nat} {X : Nat → zV} {Q : zQt} {M : zM} {g : Nat} {x0 : Nat} {x1 : Int32} {x4 : Int32} {x7 : Int64} {x9 : Int32} (hW : zWd M g) (hx0 : zsh M x0 = some (0, 2)) (h : X 71 0 0 [.ref x0, .int x1, .int x4, .long x7, .int (x9 + 1)] [] M) : aX2_gain_121 mc ms X Q 0 0 [some (.ref x0), some (.int x1), none, none, some (.int x4), none, none, some (.long x7), none, some (.int x9)] [] M := h
theorem vX2_gain_127 {mc ms : Nat} {X : Nat → zV} {Q : zQt} {M : zM} {g : Nat} {x7 : Int64} (hW : zWd M g)  (h : Q (some (.long x7)) M) : aX2_gain_127 mc ms X Q 0 0 [none, none, none, none, none, none, none, some (.long x7), none, none] [] M := h
theorem dX2_read_0 : decode cX2_read 0 = .ok (.iload_n 3, 1) := by decide +kernel
theorem dX2_read_1 : decode cX2_read 1 = .ok (.ifCond .eq 12, 3) := by decide +kernel
theorem dX2_read_4 : decode cX2_read 4 = .ok (.aload_n 0, 1) := by decide +kernel
theorem dX2_read_5 : decode cX2_read 5 = .ok (.getfield 39, 3) := by decide +kernel
theorem dX2_read_8 : decode cX2_read 8 = .ok (.iload_n 1, 1) := by decide +kernel
theorem dX2_read_9 : decode cX2_read 9 = .ok (.laload, 1) := by decide +kernel
theorem dX2_read_10 : decode cX2_read 10 = .ok (.goto 9, 3) := by decide +kernel
theorem dX2_read_13 : decode cX2_read 13 = .ok (.aload_n 0, 1) := by decide +kernel
theorem dX2_read_14 : decode cX2_read 14 = .ok (.getfield 33, 3) := by decide +kernel
theorem dX2_read_17 : decode cX2_read 17 = .ok (.iload_n 1, 1) := by decide +kernel
theorem dX2_read_18 : decode cX2_read 18 = .ok (.laload, 1) := by decide +kernel
theorem dX2_read_19 : decode cX2_read 19 = .ok (.lstore 4, 2) := by decide +kernel
theorem dX2_read_21 : decode cX2_read 21 = .ok (.lload 4, 2) := by decide +kernel
theorem dX2_read_23 : decode cX2_read 23 = .ok (.iload_n 2, 1) := by decide +kernel
theorem dX2_read_24 : decode cX2_read 24 = .ok (.lushr, 1) := by decide +kernel
theorem dX2_read_25 : decode cX2_read 25 = .ok (.lconst 1, 1) := by decide +kernel
theorem dX2_read_26 : decode cX2_read 26 = .ok (.land, 1) := by decide +kernel
theorem dX2_read_27 : decode cX2_read 27 = .ok (.lconst 0, 1) := by decide +kernel
theorem dX2_read_28 : decode cX2_read 28 = .ok (.lcmp, 1) := by decide +kernel
theorem dX2_read_29 : decode cX2_read 29 = .ok (.ifCond .ne 5, 3) := by decide +kernel
theorem dX2_read_32 : decode cX2_read 32 = .ok (.iconst (-1), 1) := by decide +kernel
theorem dX2_read_33 : decode cX2_read 33 = .ok (.ireturn, 1) := by decide +kernel
theorem dX2_read_34 : decode cX2_read 34 = .ok (.iload_n 3, 1) := by decide +kernel
theorem dX2_read_35 : decode cX2_read 35 = .ok (.ifCond .eq 7, 3) := by decide +kernel
theorem dX2_read_38 : decode cX2_read 38 = .ok (.iconst 1, 1) := by decide +kernel
theorem dX2_read_39 : decode cX2_read 39 = .ok (.goto 4, 3) := by decide +kernel
theorem dX2_read_42 : decode cX2_read 42 = .ok (.iconst 0, 1) := by decide +kernel
theorem dX2_read_43 : decode cX2_read 43 = .ok (.istore 6, 2) := by decide +kernel
theorem dX2_read_45 : decode cX2_read 45 = .ok (.iload 6, 2) := by decide +kernel
theorem dX2_read_47 : decode cX2_read 47 = .ok (.istore 7, 2) := by decide +kernel
theorem dX2_read_49 : decode cX2_read 49 = .ok (.iconst 0, 1) := by decide +kernel
theorem dX2_read_50 : decode cX2_read 50 = .ok (.istore 8, 2) := by decide +kernel
theorem dX2_read_52 : decode cX2_read 52 = .ok (.iload 8, 2) := by decide +kernel
theorem dX2_read_54 : decode cX2_read 54 = .ok (.iconst 5, 1) := by decide +kernel
theorem dX2_read_55 : decode cX2_read 55 = .ok (.if_icmp .ge 46, 3) := by decide +kernel
theorem dX2_read_58 : decode cX2_read 58 = .ok (.aload_n 0, 1) := by decide +kernel
theorem dX2_read_59 : decode cX2_read 59 = .ok (.getfield 46, 3) := by decide +kernel
theorem dX2_read_62 : decode cX2_read 62 = .ok (.iload 6, 2) := by decide +kernel
theorem dX2_read_64 : decode cX2_read 64 = .ok (.iconst 5, 1) := by decide +kernel
theorem dX2_read_65 : decode cX2_read 65 = .ok (.imul, 1) := by decide +kernel
theorem dX2_read_66 : decode cX2_read 66 = .ok (.iload 8, 2) := by decide +kernel
theorem dX2_read_68 : decode cX2_read 68 = .ok (.iadd, 1) := by decide +kernel
theorem dX2_read_69 : decode cX2_read 69 = .ok (.sipush 4096, 3) := by decide +kernel
theorem dX2_read_72 : decode cX2_read 72 = .ok (.imul, 1) := by decide +kernel
theorem dX2_read_73 : decode cX2_read 73 = .ok (.iload_n 1, 1) := by decide +kernel
theorem dX2_read_74 : decode cX2_read 74 = .ok (.iadd, 1) := by decide +kernel
theorem dX2_read_75 : decode cX2_read 75 = .ok (.laload, 1) := by decide +kernel
theorem dX2_read_76 : decode cX2_read 76 = .ok (.lstore 9, 2) := by decide +kernel
theorem dX2_read_78 : decode cX2_read 78 = .ok (.iload 7, 2) := by decide +kernel
theorem dX2_read_80 : decode cX2_read 80 = .ok (.lload 9, 2) := by decide +kernel
theorem dX2_read_82 : decode cX2_read 82 = .ok (.iload_n 2, 1) := by decide +kernel
theorem dX2_read_83 : decode cX2_read 83 = .ok (.lushr, 1) := by decide +kernel
theorem dX2_read_84 : decode cX2_read 84 = .ok (.lconst 1, 1) := by decide +kernel
theorem dX2_read_85 : decode cX2_read 85 = .ok (.land, 1) := by decide +kernel
theorem dX2_read_86 : decode cX2_read 86 = .ok (.l2i, 1) := by decide +kernel
theorem dX2_read_87 : decode cX2_read 87 = .ok (.iload 8, 2) := by decide +kernel
theorem dX2_read_89 : decode cX2_read 89 = .ok (.iconst 1, 1) := by decide +kernel
theorem dX2_read_90 : decode cX2_read 90 = .ok (.iadd, 1) := by decide +kernel
theorem dX2_read_91 : decode cX2_read 91 = .ok (.ishl, 1) := by decide +kernel
theorem dX2_read_92 : decode cX2_read 92 = .ok (.ior, 1) := by decide +kernel
theorem dX2_read_93 : decode cX2_read 93 = .ok (.istore 7, 2) := by decide +kernel
theorem dX2_read_95 : decode cX2_read 95 = .ok (.iinc 8 1, 3) := by decide +kernel
theorem dX2_read_98 : decode cX2_read 98 = .ok (.goto (-46), 3) := by decide +kernel
theorem dX2_read_101 : decode cX2_read 101 = .ok (.iload 7, 2) := by decide +kernel
theorem dX2_read_103 : decode cX2_read 103 = .ok (.ireturn, 1) := by decide +kernel
def kX2_read_95 (mc ms : Nat) (X : Nat → zV) (Q : zQt) : zT :=
  zinc 8 1 <| zj X 52 [0, 1, 2, 6, 7, 8]
def kX2_read_78 (mc ms : Nat) (X : Nat → zV) (Q : zQt) : zT :=
  zli 7 <| zll 9 <| zli 2 <| zji (fun x y => (x.toUInt64 >>> (y.toInt64.toUInt64 &&& Int64.toUInt64 63)).toInt64) <| zc (.long 1) <| zjj (fun x y => x &&& y) <| zl2i <| zli 8 <| zc (.int 1) <| zii (fun x y => x + y) <| zii (fun x y => x <<< (y &&& 31)) <| zii (fun x y => x ||| y) <| zsiN 7 <| kX2_read_95 mc ms X Q
def aX2_read_0 (mc ms : Nat) (X : Nat → zV) (Q : zQt) : zT :=
  zli 3 <| zif (fun x => x = 0) (zla 0 <| zgR 2 6 <| zli 1 <| zall <| zj X 19 [0, 1, 2, 3]) <| zla 0 <| zgR 2 8 <| zli 1 <| zall <| zj X 19 [0, 1, 2, 3]
def aX2_read_19 (mc ms : Nat) (X : Nat → zV) (Q : zQt) : zT :=
  zsl 4 <| zll 4 <| zli 2 <| zji (fun x y => (x.toUInt64 >>> (y.toInt64.toUInt64 &&& Int64.toUInt64 63)).toInt64) <| zc (.long 1) <| zjj (fun x y => x &&& y) <| zc (.long 0) <| zlc <| zif (fun x => x = 0) (zc (.int (-1)) <| zri Q) <| zli 3 <| zif (fun x => x = 0) (zc (.int 0) <| zj X 43 [0, 1, 2]) <| zc (.int 1) <| zj X 43 [0, 1, 2]
def aX2_read_43 (mc ms : Nat) (X : Nat → zV) (Q : zQt) : zT :=
  zsi 6 <| zli 6 <| zsi 7 <| zc (.int 0) <| zsi 8 <| zj X 52 [0, 1, 2, 6, 7, 8]
def aX2_read_52 (mc ms : Nat) (X : Nat → zV) (Q : zQt) : zT :=
  zli 8 <| zc (.int 5) <| zic (fun x y => y ≤ x) (zli 7 <| zri Q) <| zla 0 <| zgR 2 10 <| zli 6 <| zc (.int 5) <| zii (fun x y => x * y) <| zli 8 <| zii (fun x y => x + y) <| zc (.int 4096) <| zii (fun x y => x * y) <| zli 1 <| zii (fun x y => x + y) <| zall <| zslN 9 <| kX2_read_78 mc ms X Q
def lvX2_read : Nat → List Nat := fun L => match L with
  | 0 => [0, 1, 2, 3]
  | 19 => [0, 1, 2, 3]
  | 43 => [0, 1, 2]
  | 52 => [0, 1, 2, 6, 7, 8]
  | _ => []
def wX2_read : zSp := fun mc ms av M Q => ((zlay av).length ≤ 11 ∧ zpick (zlay av) [0, 1, 2, 3] = some av) ∧ ∀ X : Nat → zV, zin 11 [0, 1, 2, 3] (aX2_read_0 mc ms X Q) X 0 → zin 11 [0, 1, 2, 3] (aX2_read_19 mc ms X Q) X 19 → zin 11 [0, 1, 2] (aX2_read_43 mc ms X Q) X 43 → zin 11 [0, 1, 2, 6, 7, 8] (aX2_read_52 mc ms X Q) X 52 → X 0 0 0 av [] M
set_option maxRecDepth 100000 in
set_option maxHeartbeats 4000000 in
theorem sX2_read (l : Launch) (G : zG) : zSnd l G yX2_read cX2_read 11 (some .int) 0 0 wX2_read := by
  refine zmk [0, 1, 2, 3] (by decide) (fun mc ms av M Q h => h.1) ?_
  intro p e R s m args below meth c mc ms av M Q hC hRf hRl hr hnm h lv hlv
  obtain ⟨X, hXe⟩ : ∃ X : Nat → zV, X = fun L u v vs st M => ∀ lv, zpick lv (lvX2_read L) = some vs → zAt p l e R s m args below meth c (MQ below (zQ G Q) args s mc ms (zA G)) G 11 L u v lv st M := ⟨_, rfl⟩
  have hJ : ∀ L, zOk p l e R s m args below meth c (MQ below (zQ G Q) args s mc ms (zA G)) G 11 L (zj X L (lvX2_read L)) := fun L => S_jump (fun u v lv vs st M hp hx => by rw [hXe] at hx; exact hx lv hp)
  have hB0 : zin 11 [0, 1, 2, 3] (aX2_read_0 mc ms X Q) X 0 := by
    intro u v vs st M hb
    rw [hXe]
    refine fun lv hp => S_block (L := 0) (live := [0, 1, 2, 3]) ?_ u v lv vs st M hp hb
    unfold aX2_read_0
    refine S_iload_n (pc := 0) hC dX2_read_0 rfl ?_
    refine S_if_eq (pc := 1) (tgt := 13) hC dX2_read_1 (by decide) ?_ ?_
    · refine S_aload_n (pc := 13) hC dX2_read_13 rfl ?_
      refine S_getR (pc := 14) hC cfX2 (by decide) (Or.inr ⟨_, rfl⟩) wd_1080 dX2_read_14 ?_
      refine S_iload_n (pc := 17) hC dX2_read_17 rfl ?_
      refine S_laload (pc := 18) hC dX2_read_18 ?_
      exact hJ 19
    · refine S_aload_n (pc := 4) hC dX2_read_4 rfl ?_
      refine S_getR (pc := 5) hC cfX2 (by decide) (Or.inr ⟨_, rfl⟩) wd_1082 dX2_read_5 ?_
      refine S_iload_n (pc := 8) hC dX2_read_8 rfl ?_
      refine S_laload (pc := 9) hC dX2_read_9 ?_
      refine S_goto (pc := 10) (tgt := 19) hC dX2_read_10 (by decide) ?_
      exact hJ 19
  have hB19 : zin 11 [0, 1, 2, 3] (aX2_read_19 mc ms X Q) X 19 := by
    intro u v vs st M hb
    rw [hXe]
    refine fun lv hp => S_block (L := 19) (live := [0, 1, 2, 3]) ?_ u v lv vs st M hp hb
    unfold aX2_read_19
    refine S_lstore (pc := 19) hC dX2_read_19 (by decide) ?_
    refine S_lload (pc := 21) hC dX2_read_21 ?_
    refine S_iload_n (pc := 23) hC dX2_read_23 rfl ?_
    refine S_lushr (pc := 24) hC dX2_read_24 ?_
    refine S_lconst (pc := 25) hC dX2_read_25 (by decide) ?_
    refine S_land (pc := 26) hC dX2_read_26 ?_
    refine S_lconst (pc := 27) hC dX2_read_27 (by decide) ?_
    refine S_lcmp (pc := 28) hC dX2_read_28 ?_
    refine S_if_ne (pc := 29) (tgt := 34) hC dX2_read_29 (by decide) ?_ ?_
    · refine S_iload_n (pc := 34) hC dX2_read_34 rfl ?_
      refine S_if_eq (pc := 35) (tgt := 42) hC dX2_read_35 (by decide) ?_ ?_
      · refine S_iconst (pc := 42) hC dX2_read_42 (by decide) ?_
        exact hJ 43
      · refine S_iconst (pc := 38) hC dX2_read_38 (by decide) ?_
        refine S_goto (pc := 39) (tgt := 43) hC dX2_read_39 (by decide) ?_
        exact hJ 43
    · refine S_iconst (pc := 32) hC dX2_read_32 (by decide) ?_
      exact S_ireturn (pc := 33) hC hr dX2_read_33
  have hB43 : zin 11 [0, 1, 2] (aX2_read_43 mc ms X Q) X 43 := by
    intro u v vs st M hb
    rw [hXe]
    refine fun lv hp => S_block (L := 43) (live := [0, 1, 2]) ?_ u v lv vs st M hp hb
    unfold aX2_read_43
    refine S_istore (pc := 43) hC dX2_read_43 (by decide) ?_
    refine S_iload (pc := 45) hC dX2_read_45 ?_
    refine S_istore (pc := 47) hC dX2_read_47 (by decide) ?_
    refine S_iconst (pc := 49) hC dX2_read_49 (by decide) ?_
    refine S_istore (pc := 50) hC dX2_read_50 (by decide) ?_
    exact hJ 52
  have hB52 : zin 11 [0, 1, 2, 6, 7, 8] (aX2_read_52 mc ms X Q) X 52 := by
    intro u v vs st M hb
    rw [hXe]
    refine fun lv hp => S_block (L := 52) (live := [0, 1, 2, 6, 7, 8]) ?_ u v lv vs st M hp hb
    unfold aX2_read_52
    refine S_iload (pc := 52) hC dX2_read_52 ?_
    refine S_iconst (pc := 54) hC dX2_read_54 (by decide) ?_
    refine S_icmp_ge (pc := 55) (tgt := 101) hC dX2_read_55 (by decide) ?_ ?_
    · refine S_iload (pc := 101) hC dX2_read_101 ?_
      exact S_ireturn (pc := 103) hC hr dX2_read_103
    · refine S_aload_n (pc := 58) hC dX2_read_58 rfl ?_
      refine S_getR (pc := 59) hC cfX2 (by decide) (Or.inr ⟨_, rfl⟩) wd_1084 dX2_read_59 ?_
      refine S_iload (pc := 62) hC dX2_read_62 ?_
      refine S_iconst (pc := 64) hC dX2_read_64 (by decide) ?_
      refine S_imul (pc := 65) hC dX2_read_65 ?_
      refine S_iload (pc := 66) hC dX2_read_66 ?_
      refine S_iadd (pc := 68) hC dX2_read_68 ?_
      refine S_sipush (pc := 69) hC dX2_read_69 (by decide) ?_
      refine S_imul (pc := 72) hC dX2_read_72 ?_
      refine S_iload_n (pc := 73) hC dX2_read_73 rfl ?_
      refine S_iadd (pc := 74) hC dX2_read_74 ?_
      refine S_laload (pc := 75) hC dX2_read_75 ?_
      refine S_lstore_N (pc := 76) hC dX2_read_76 (by decide) ?_
      unfold kX2_read_78
      refine S_iload (pc := 78) hC dX2_read_78 ?_
      refine S_lload (pc := 80) hC dX2_read_80 ?_
      refine S_iload_n (pc := 82) hC dX2_read_82 rfl ?_
      refine S_lushr (pc := 83) hC dX2_read_83 ?_
      refine S_lconst (pc := 84) hC dX2_read_84 (by decide) ?_
      refine S_land (pc := 85) hC dX2_read_85 ?_
      refine S_l2i (pc := 86) hC dX2_read_86 ?_
      refine S_iload (pc := 87) hC dX2_read_87 ?_
      refine S_iconst (pc := 89) hC dX2_read_89 (by decide) ?_
      refine S_iadd (pc := 90) hC dX2_read_90 ?_
      refine S_ishl (pc := 91) hC dX2_read_91 ?_
      refine S_ior (pc := 92) hC dX2_read_92 ?_
      refine S_istore_N (pc := 93) hC dX2_read_93 (by decide) ?_
      unfold kX2_read_95
      refine S_iinc (pc := 95) hC dX2_read_95 (by decide) (by decide) ?_
      refine S_goto (pc := 98) (tgt := 52) hC dX2_read_98 (by decide) ?_
      exact hJ 52
  have := h.2 X hB0 hB19 hB43 hB52
  rw [hXe] at this
  exact this lv hlv
theorem vX2_read_0 {mc ms : Nat} {X : Nat → zV} {Q : zQt} {M : zM} {g : Nat} {x0 : Nat} {x1 : Int32} {x2 : Int32} {x3 : Int32} (hW : zWd M g) (hx0 : zsh M x0 = some (0, 2)) (h : (x3 = 0 → ∃ r14 r14n, ((M : zM).2.2.1 x0 6) = some r14 ∧ zsh M r14 = some (2, r14n) ∧ vp_in x1 r14n ∧ X 19 0 0 [.ref x0, .int x1, .int x2, .int x3] [.long ((M : zM).2.1 r14 (x1 : Int32).toNatClampNeg)] M) ∧ (¬ x3 = 0 → ∃ r5 r5n, ((M : zM).2.2.1 x0 8) = some r5 ∧ zsh M r5 = some (2, r5n) ∧ vp_in x1 r5n ∧ X 19 0 0 [.ref x0, .int x1, .int x2, .int x3] [.long ((M : zM).2.1 r5 (x1 : Int32).toNatClampNeg)] M)) : aX2_read_0 mc ms X Q 0 0 [some (.ref x0), some (.int x1), some (.int x2), some (.int x3), none, none, none, none, none, none, none] [] M := ⟨fun c1 => (let ⟨r14, r14n, q14, hr14, h14⟩ := (h.1 c1); ⟨hx0, r14, q14, ⟨r14n, hr14, h14.1, h14.2⟩⟩), fun c1 => (let ⟨r5, r5n, q5, hr5, h5⟩ := (h.2 c1); ⟨hx0, r5, q5, ⟨r5n, hr5, h5.1, h5.2⟩⟩)⟩
theorem vX2_read_19 {mc ms : Nat} {X : Nat → zV} {Q : zQt} {M : zM} {g : Nat} {x0 : Nat} {x1 : Int32} {x2 : Int32} {x3 : Int32} {s0 : Int64} (hW : zWd M g) (hx0 : zsh M x0 = some (0, 2)) (h : ((lg_cmp ((((s0.toUInt64 >>> (x2.toInt64.toUInt64 &&& Int64.toUInt64 63)).toInt64) &&& (1 : Int64))) ((0 : Int64))) = 0 → Q (some (.int ((-1)))) M) ∧ (¬ (lg_cmp ((((s0.toUInt64 >>> (x2.toInt64.toUInt64 &&& Int64.toUInt64 63)).toInt64) &&& (1 : Int64))) ((0 : Int64))) = 0 → (x3 = 0 → X 43 0 0 [.ref x0, .int x1, .int x2] [.int 0] M) ∧ (¬ x3 = 0 → X 43 0 0 [.ref x0, .int x1, .int x2] [.int 1] M))) : aX2_read_19 mc ms X Q 0 0 [some (.ref x0), some (.int x1), some (.int x2), some (.int x3), none, none, none, none, none, none, none] [.long s0] M := ⟨fun c29 => (h.1 c29), fun c29 => ⟨fun c35 => ((h.2 c29).1 c35), fun c35 => ((h.2 c29).2 c35)⟩⟩
theorem vX2_read_43 {mc ms : Nat} {X : Nat → zV} {Q : zQt} {M : zM} {g : Nat} {x0 : Nat} {x1 : Int32} {x2 : Int32} {s0 : Int32} (hW : zWd M g) (hx0 : zsh M x0 = some (0, 2)) (h : X 52 0 0 [.ref x0, .int x1, .int x2, .int s0, .int s0, .int 0] [] M) : aX2_read_43 mc ms X Q 0 0 [some (.ref x0), some (.int x1), some (.int x2), none, none, none, none, none, none, none, none] [.int s0] M := h
theorem vcX2_read_95 {mc ms : Nat} {X : Nat → zV} {Q : zQt} {M : zM} {g : Nat} {x0 : Nat} {x1 : Int32} {x2 : Int32} {x6 : Int32} {x7 : Int32} {x8 : Int32} {x9 : Int64} (hW : zWd M g) (hx0 : zsh M x0 = some (0, 2)) (h : X 52 0 0 [.ref x0, .int x1, .int x2, .int x6, .int x7, .int (x8 + 1)] [] M) : kX2_read_95 mc ms X Q 0 0 [some (.ref x0), some (.int x1), some (.int x2), none, none, none, some (.int x6), some (.int x7), some (.int x8), some (.long x9), none] [] M := h
theorem vcX2_read_78 {mc ms : Nat} {X : Nat → zV} {Q : zQt} {M : zM} {g : Nat} {x0 : Nat} {x1 : Int32} {x2 : Int32} {x6 : Int32} {x7 : Int32} {x8 : Int32} {x9 : Int64} (hW : zWd M g) (hx0 : zsh M x0 = some (0, 2)) (h : ∀ y93 : Int32, y93 = (x7 ||| (((((x9.toUInt64 >>> (x2.toInt64.toUInt64 &&& Int64.toUInt64 63)).toInt64) &&& (1 : Int64)) : Int64).toInt32 <<< ((x8 + (1 : Int32)) &&& 31))) → X 52 0 0 [.ref x0, .int x1, .int x2, .int x6, .int y93, .int (x8 + 1)] [] M) : kX2_read_78 mc ms X Q 0 0 [some (.ref x0), some (.int x1), some (.int x2), none, none, none, some (.int x6), some (.int x7), some (.int x8), some (.long x9), none] [] M := (fun y93 e93 => have h93 := h y93 e93; (vcX2_read_95 hW hx0 h93))
theorem vX2_read_52 {mc ms : Nat} {X : Nat → zV} {Q : zQt} {M : zM} {g : Nat} {x0 : Nat} {x1 : Int32} {x2 : Int32} {x6 : Int32} {x7 : Int32} {x8 : Int32} (hW : zWd M g) (hx0 : zsh M x0 = some (0, 2)) (h : ((5 : Int32) ≤ x8 → Q (some (.int x7)) M) ∧ (¬ (5 : Int32) ≤ x8 → ∃ r59 r59n, ((M : zM).2.2.1 x0 10) = some r59 ∧ zsh M r59 = some (2, r59n) ∧ vp_in (((((x6 * (5 : Int32)) + x8) * (4096 : Int32)) + x1)) r59n ∧ ∀ y76 : Int64, y76 = ((M : zM).2.1 r59 (((((x6 * (5 : Int32)) + x8) * (4096 : Int32)) + x1) : Int32).toNatClampNeg) → ∀ y93 : Int32, y93 = (x7 ||| (((((y76.toUInt64 >>> (x2.toInt64.toUInt64 &&& Int64.toUInt64 63)).toInt64) &&& (1 : Int64)) : Int64).toInt32 <<< ((x8 + (1 : Int32)) &&& 31))) → X 52 0 0 [.ref x0, .int x1, .int x2, .int x6, .int y93, .int (x8 + 1)] [] M)) : aX2_read_52 mc ms X Q 0 0 [some (.ref x0), some (.int x1), some (.int x2), none, none, none, some (.int x6), some (.int x7), some (.int x8), none, none] [] M := ⟨fun c55 => (h.1 c55), fun c55 => (let ⟨r59, r59n, q59, hr59, h59⟩ := (h.2 c55); ⟨hx0, r59, q59, ⟨r59n, hr59, h59.1, (fun y76 e76 => have h76 := h59.2 y76 e76; (vcX2_read_78 hW hx0 h76))⟩⟩)⟩
theorem dX4_passingFile_0 : decode cX4_passingFile 0 = .ok (.aload_n 0, 1) := by decide +kernel
theorem dX4_passingFile_1 : decode cX4_passingFile 1 = .ok (.getfield 14, 3) := by decide +kernel
theorem dX4_passingFile_4 : decode cX4_passingFile 4 = .ok (.getfield 79, 3) := by decide +kernel
theorem dX4_passingFile_7 : decode cX4_passingFile 7 = .ok (.iconst (-1), 1) := by decide +kernel
theorem dX4_passingFile_8 : decode cX4_passingFile 8 = .ok (.if_icmp .ne 5, 3) := by decide +kernel
theorem dX4_passingFile_11 : decode cX4_passingFile 11 = .ok (.iconst (-1), 1) := by decide +kernel
theorem dX4_passingFile_12 : decode cX4_passingFile 12 = .ok (.ireturn, 1) := by decide +kernel
theorem dX4_passingFile_13 : decode cX4_passingFile 13 = .ok (.iconst 0, 1) := by decide +kernel
theorem dX4_passingFile_14 : decode cX4_passingFile 14 = .ok (.istore_n 1, 1) := by decide +kernel
theorem dX4_passingFile_15 : decode cX4_passingFile 15 = .ok (.iload_n 1, 1) := by decide +kernel
theorem dX4_passingFile_16 : decode cX4_passingFile 16 = .ok (.aload_n 0, 1) := by decide +kernel
theorem dX4_passingFile_17 : decode cX4_passingFile 17 = .ok (.getfield 55, 3) := by decide +kernel
theorem dX4_passingFile_20 : decode cX4_passingFile 20 = .ok (.if_icmp .ge 47, 3) := by decide +kernel
theorem dX4_passingFile_23 : decode cX4_passingFile 23 = .ok (.aload_n 0, 1) := by decide +kernel
theorem dX4_passingFile_24 : decode cX4_passingFile 24 = .ok (.getfield 29, 3) := by decide +kernel
theorem dX4_passingFile_27 : decode cX4_passingFile 27 = .ok (.iload_n 1, 1) := by decide +kernel
theorem dX4_passingFile_28 : decode cX4_passingFile 28 = .ok (.iaload, 1) := by decide +kernel
theorem dX4_passingFile_29 : decode cX4_passingFile 29 = .ok (.bipush 6, 2) := by decide +kernel
theorem dX4_passingFile_31 : decode cX4_passingFile 31 = .ok (.ishr, 1) := by decide +kernel
theorem dX4_passingFile_32 : decode cX4_passingFile 32 = .ok (.bipush 63, 2) := by decide +kernel
theorem dX4_passingFile_34 : decode cX4_passingFile 34 = .ok (.iand, 1) := by decide +kernel
theorem dX4_passingFile_35 : decode cX4_passingFile 35 = .ok (.istore_n 2, 1) := by decide +kernel
theorem dX4_passingFile_36 : decode cX4_passingFile 36 = .ok (.aload_n 0, 1) := by decide +kernel
theorem dX4_passingFile_37 : decode cX4_passingFile 37 = .ok (.getfield 14, 3) := by decide +kernel
theorem dX4_passingFile_40 : decode cX4_passingFile 40 = .ok (.aload_n 0, 1) := by decide +kernel
theorem dX4_passingFile_41 : decode cX4_passingFile 41 = .ok (.getfield 29, 3) := by decide +kernel
theorem dX4_passingFile_44 : decode cX4_passingFile 44 = .ok (.iload_n 1, 1) := by decide +kernel
theorem dX4_passingFile_45 : decode cX4_passingFile 45 = .ok (.iaload, 1) := by decide +kernel
theorem dX4_passingFile_46 : decode cX4_passingFile 46 = .ok (.bipush 63, 2) := by decide +kernel
theorem dX4_passingFile_48 : decode cX4_passingFile 48 = .ok (.iand, 1) := by decide +kernel
theorem dX4_passingFile_49 : decode cX4_passingFile 49 = .ok (.iload_n 2, 1) := by decide +kernel
theorem dX4_passingFile_50 : decode cX4_passingFile 50 = .ok (.invokevirtual 82, 3) := by decide +kernel
theorem dX4_passingFile_53 : decode cX4_passingFile 53 = .ok (.ifCond .eq 8, 3) := by decide +kernel
theorem dX4_passingFile_56 : decode cX4_passingFile 56 = .ok (.iload_n 2, 1) := by decide +kernel
theorem dX4_passingFile_57 : decode cX4_passingFile 57 = .ok (.bipush 7, 2) := by decide +kernel
theorem dX4_passingFile_59 : decode cX4_passingFile 59 = .ok (.iand, 1) := by decide +kernel
theorem dX4_passingFile_60 : decode cX4_passingFile 60 = .ok (.ireturn, 1) := by decide +kernel
theorem dX4_passingFile_61 : decode cX4_passingFile 61 = .ok (.iinc 1 1, 3) := by decide +kernel
theorem dX4_passingFile_64 : decode cX4_passingFile 64 = .ok (.goto (-49), 3) := by decide +kernel
theorem dX4_passingFile_67 : decode cX4_passingFile 67 = .ok (.iconst (-1), 1) := by decide +kernel
theorem dX4_passingFile_68 : decode cX4_passingFile 68 = .ok (.ireturn, 1) := by decide +kernel
def kX4_passingFile_53 (mc ms : Nat) (X : Nat → zV) (Q : zQt) : zT :=
  zif (fun x => x = 0) (zinc 1 1 <| zj X 15 [0, 1]) <| zli 2 <| zc (.int 7) <| zii (fun x y => x &&& y) <| zri Q
def kX4_passingFile_36 (mc ms : Nat) (X : Nat → zV) (Q : zQt) : zT :=
  zla 0 <| zgR 4 0 <| zla 0 <| zgR 4 2 <| zli 1 <| zal 1 <| zc (.int 63) <| zii (fun x y => x &&& y) <| zli 2 <| zcv mc ms 0 2 wX0_passes <| kX4_passingFile_53 mc ms X Q
def aX4_passingFile_0 (mc ms : Nat) (X : Nat → zV) (Q : zQt) : zT :=
  zla 0 <| zgR 4 0 <| zgi 0 6 <| zc (.int (-1)) <| zic (fun x y => x = y) (zc (.int (-1)) <| zri Q) <| zc (.int 0) <| zsi 1 <| zj X 15 [0, 1]
def aX4_passingFile_15 (mc ms : Nat) (X : Nat → zV) (Q : zQt) : zT :=
  zli 1 <| zla 0 <| zgi 4 3 <| zic (fun x y => y ≤ x) (zc (.int (-1)) <| zri Q) <| zla 0 <| zgR 4 2 <| zli 1 <| zal 1 <| zc (.int 6) <| zii (fun x y => x >>> (y &&& 31)) <| zc (.int 63) <| zii (fun x y => x &&& y) <| zsiN 2 <| kX4_passingFile_36 mc ms X Q
def lvX4_passingFile : Nat → List Nat := fun L => match L with
  | 0 => [0]
  | 15 => [0, 1]
  | _ => []
def wX4_passingFile : zSp := fun mc ms av M Q => ((zlay av).length ≤ 3 ∧ zpick (zlay av) [0] = some av) ∧ ∀ X : Nat → zV, zin 3 [0] (aX4_passingFile_0 mc ms X Q) X 0 → zin 3 [0, 1] (aX4_passingFile_15 mc ms X Q) X 15 → X 0 0 0 av [] M
set_option maxRecDepth 100000 in
set_option maxHeartbeats 4000000 in
theorem sX4_passingFile (l : Launch) (G : zG) : zSnd l G yX4_passingFile cX4_passingFile 3 (some .int) 1 22 wX4_passingFile := by
  refine zmk [0] (by decide) (fun mc ms av M Q h => h.1) ?_
  intro p e R s m args below meth c mc ms av M Q hC hRf hRl hr hnm h lv hlv
  obtain ⟨X, hXe⟩ : ∃ X : Nat → zV, X = fun L u v vs st M => ∀ lv, zpick lv (lvX4_passingFile L) = some vs → zAt p l e R s m args below meth c (MQ below (zQ G Q) args s mc ms (zA G)) G 3 L u v lv st M := ⟨_, rfl⟩
  have hJ : ∀ L, zOk p l e R s m args below meth c (MQ below (zQ G Q) args s mc ms (zA G)) G 3 L (zj X L (lvX4_passingFile L)) := fun L => S_jump (fun u v lv vs st M hp hx => by rw [hXe] at hx; exact hx lv hp)
  have hB0 : zin 3 [0] (aX4_passingFile_0 mc ms X Q) X 0 := by
    intro u v vs st M hb
    rw [hXe]
    refine fun lv hp => S_block (L := 0) (live := [0]) ?_ u v lv vs st M hp hb
    unfold aX4_passingFile_0
    refine S_aload_n (pc := 0) hC dX4_passingFile_0 rfl ?_
    refine S_getR (pc := 1) hC cfX4 (by decide) (Or.inl ⟨_, rfl⟩) wd_307 dX4_passingFile_1 ?_
    refine S_geti (pc := 4) hC cfX0 (by decide) (Or.inl rfl) wd_247 dX4_passingFile_4 ?_
    refine S_iconst (pc := 7) hC dX4_passingFile_7 (by decide) ?_
    refine S_icmp_ne (pc := 8) (tgt := 13) hC dX4_passingFile_8 (by decide) ?_ ?_
    · refine S_iconst (pc := 13) hC dX4_passingFile_13 (by decide) ?_
      refine S_istore_n (pc := 14) hC dX4_passingFile_14 rfl (by decide) ?_
      exact hJ 15
    · refine S_iconst (pc := 11) hC dX4_passingFile_11 (by decide) ?_
      exact S_ireturn (pc := 12) hC hr dX4_passingFile_12
  have hB15 : zin 3 [0, 1] (aX4_passingFile_15 mc ms X Q) X 15 := by
    intro u v vs st M hb
    rw [hXe]
    refine fun lv hp => S_block (L := 15) (live := [0, 1]) ?_ u v lv vs st M hp hb
    unfold aX4_passingFile_15
    refine S_iload_n (pc := 15) hC dX4_passingFile_15 rfl ?_
    refine S_aload_n (pc := 16) hC dX4_passingFile_16 rfl ?_
    refine S_geti (pc := 17) hC cfX4 (by decide) (Or.inl rfl) wd_321 dX4_passingFile_17 ?_
    refine S_icmp_ge (pc := 20) (tgt := 67) hC dX4_passingFile_20 (by decide) ?_ ?_
    · refine S_iconst (pc := 67) hC dX4_passingFile_67 (by decide) ?_
      exact S_ireturn (pc := 68) hC hr dX4_passingFile_68
    · refine S_aload_n (pc := 23) hC dX4_passingFile_23 rfl ?_
      refine S_getR (pc := 24) hC cfX4 (by decide) (Or.inr ⟨_, rfl⟩) wd_315 dX4_passingFile_24 ?_
      refine S_iload_n (pc := 27) hC dX4_passingFile_27 rfl ?_
      refine S_iaload (pc := 28) hC dX4_passingFile_28 ?_
      refine S_bipush (pc := 29) hC dX4_passingFile_29 (by decide) ?_
      refine S_ishr (pc := 31) hC dX4_passingFile_31 ?_
      refine S_bipush (pc := 32) hC dX4_passingFile_32 (by decide) ?_
      refine S_iand (pc := 34) hC dX4_passingFile_34 ?_
      refine S_istore_n_N (pc := 35) hC dX4_passingFile_35 rfl (by decide) ?_
      unfold kX4_passingFile_36
      refine S_aload_n (pc := 36) hC dX4_passingFile_36 rfl ?_
      refine S_getR (pc := 37) hC cfX4 (by decide) (Or.inl ⟨_, rfl⟩) wd_307 dX4_passingFile_37 ?_
      refine S_aload_n (pc := 40) hC dX4_passingFile_40 rfl ?_
      refine S_getR (pc := 41) hC cfX4 (by decide) (Or.inr ⟨_, rfl⟩) wd_315 dX4_passingFile_41 ?_
      refine S_iload_n (pc := 44) hC dX4_passingFile_44 rfl ?_
      refine S_iaload (pc := 45) hC dX4_passingFile_45 ?_
      refine S_bipush (pc := 46) hC dX4_passingFile_46 (by decide) ?_
      refine S_iand (pc := 48) hC dX4_passingFile_48 ?_
      refine S_iload_n (pc := 49) hC dX4_passingFile_49 rfl ?_
      refine S_callV (pc := 50) hC (sX0_passes l G) rfl wd_837 wd_483 wd_484 wd_10 wd_485 (by decide +kernel) ⟨by rw [hRf]; decide, by rw [hRl]; decide⟩ dX4_passingFile_50 ?_
      unfold kX4_passingFile_53
      refine S_if_eq (pc := 53) (tgt := 61) hC dX4_passingFile_53 (by decide) ?_ ?_
      · refine S_iinc (pc := 61) hC dX4_passingFile_61 (by decide) (by decide) ?_
        refine S_goto (pc := 64) (tgt := 15) hC dX4_passingFile_64 (by decide) ?_
        exact hJ 15
      · refine S_iload_n (pc := 56) hC dX4_passingFile_56 rfl ?_
        refine S_bipush (pc := 57) hC dX4_passingFile_57 (by decide) ?_
        refine S_iand (pc := 59) hC dX4_passingFile_59 ?_
        exact S_ireturn (pc := 60) hC hr dX4_passingFile_60
  have := h.2 X hB0 hB15
  rw [hXe] at this
  exact this lv hlv
theorem vX4_passingFile_0 {mc ms : Nat} {X : Nat → zV} {Q : zQt} {M : zM} {g : Nat}  (hW : zWd M g)  (h : ((M.1 ((g + 1)) 6) = ((-1) : Int32) → Q (some (.int ((-1)))) M) ∧ (¬ (M.1 ((g + 1)) 6) = ((-1) : Int32) → X 15 0 0 [.ref g, .int 0] [] M)) : aX4_passingFile_0 mc ms X Q 0 0 [some (.ref g), none, none] [] M := ⟨(fgs_0 hW), (g + 1), (fgr_0_0 hW), ⟨(fgs_1 hW), ⟨fun c8 => (h.1 c8), fun c8 => (h.2 c8)⟩⟩⟩
theorem vcX4_passingFile_36 {mc ms : Nat} {X : Nat → zV} {Q : zQt} {M : zM} {g : Nat} {x1 : Int32} {x2 : Int32} (hW : zWd M g)  (h : vp_in x1 384 ∧ wX0_passes 0 0 [.ref (g + 1), .int (((M : zM).1 ((g + 7)) (x1 : Int32).toNatClampNeg) &&& (63 : Int32)), .int x2] M (fun r M1 => kX4_passingFile_53 mc ms X Q 0 0 [some (.ref g), some (.int x1), some (.int x2)] (r.toList ++ []) M1)) : kX4_passingFile_36 mc ms X Q 0 0 [some (.ref g), some (.int x1), some (.int x2)] [] M := ⟨(fgs_0 hW), (g + 1), (fgr_0_0 hW), ⟨(fgs_0 hW), (g + 7), (fgr_0_2 hW), ⟨384, (fgs_7 hW), h.1, ⟨Nat.le_of_ble_eq_true rfl, rfl, (fgs_1 hW), 0, 0, Nat.zero_le _, Nat.zero_le _, h.2⟩⟩⟩⟩
theorem vX4_passingFile_15 {mc ms : Nat} {X : Nat → zV} {Q : zQt} {M : zM} {g : Nat} {x1 : Int32} (hW : zWd M g)  (h : ((M.1 g 3) ≤ x1 → Q (some (.int ((-1)))) M) ∧ (¬ (M.1 g 3) ≤ x1 → vp_in x1 384 ∧ ∀ y35 : Int32, y35 = ((((M : zM).1 ((g + 7)) (x1 : Int32).toNatClampNeg) >>> ((6 : Int32) &&& 31)) &&& (63 : Int32)) → vp_in x1 384 ∧ wX0_passes 0 0 [.ref (g + 1), .int (((M : zM).1 ((g + 7)) (x1 : Int32).toNatClampNeg) &&& (63 : Int32)), .int y35] M (fun r M1 => kX4_passingFile_53 mc ms X Q 0 0 [some (.ref g), some (.int x1), some (.int y35)] (r.toList ++ []) M1))) : aX4_passingFile_15 mc ms X Q 0 0 [some (.ref g), some (.int x1), none] [] M := ⟨(fgs_0 hW), ⟨fun c20 => (h.1 c20), fun c20 => ⟨(fgs_0 hW), (g + 7), (fgr_0_2 hW), ⟨384, (fgs_7 hW), (h.2 c20).1, (fun y35 e35 => have h35 := (h.2 c20).2 y35 e35; (vcX4_passingFile_36 hW  h35))⟩⟩⟩⟩
theorem vkX4_passingFile_53 {mc ms : Nat} {X : Nat → zV} {Q : zQt} {M : zM} {g : Nat} {x1 : Int32} {x2 : Int32} {s0 : Int32} (hW : zWd M g)  (h : (s0 = 0 → X 15 0 0 [.ref g, .int (x1 + 1)] [] M) ∧ (¬ s0 = 0 → Q (some (.int ((x2 &&& (7 : Int32))))) M)) : kX4_passingFile_53 mc ms X Q 0 0 [some (.ref g), some (.int x1), some (.int x2)] [.int s0] M := ⟨fun c53 => (h.1 c53), fun c53 => (h.2 c53)⟩
theorem dX4_writeKeys_0 : decode cX4_writeKeys 0 = .ok (.iload_n 1, 1) := by decide +kernel
theorem dX4_writeKeys_1 : decode cX4_writeKeys 1 = .ok (.iconst 5, 1) := by decide +kernel
theorem dX4_writeKeys_2 : decode cX4_writeKeys 2 = .ok (.imul, 1) := by decide +kernel
theorem dX4_writeKeys_3 : decode cX4_writeKeys 3 = .ok (.istore_n 2, 1) := by decide +kernel
theorem dX4_writeKeys_4 : decode cX4_writeKeys 4 = .ok (.iconst 0, 1) := by decide +kernel
theorem dX4_writeKeys_5 : decode cX4_writeKeys 5 = .ok (.istore_n 3, 1) := by decide +kernel
theorem dX4_writeKeys_6 : decode cX4_writeKeys 6 = .ok (.iload_n 3, 1) := by decide +kernel
theorem dX4_writeKeys_7 : decode cX4_writeKeys 7 = .ok (.iconst 4, 1) := by decide +kernel
theorem dX4_writeKeys_8 : decode cX4_writeKeys 8 = .ok (.if_icmp .ge 62, 3) := by decide +kernel
theorem dX4_writeKeys_11 : decode cX4_writeKeys 11 = .ok (.lconst 0, 1) := by decide +kernel
theorem dX4_writeKeys_12 : decode cX4_writeKeys 12 = .ok (.lstore 4, 2) := by decide +kernel
theorem dX4_writeKeys_14 : decode cX4_writeKeys 14 = .ok (.iconst 1, 1) := by decide +kernel
theorem dX4_writeKeys_15 : decode cX4_writeKeys 15 = .ok (.istore 6, 2) := by decide +kernel
theorem dX4_writeKeys_17 : decode cX4_writeKeys 17 = .ok (.iload 6, 2) := by decide +kernel
theorem dX4_writeKeys_19 : decode cX4_writeKeys 19 = .ok (.bipush 12, 2) := by decide +kernel
theorem dX4_writeKeys_21 : decode cX4_writeKeys 21 = .ok (.if_icmp .gt 33, 3) := by decide +kernel
theorem dX4_writeKeys_24 : decode cX4_writeKeys 24 = .ok (.iload 6, 2) := by decide +kernel
theorem dX4_writeKeys_26 : decode cX4_writeKeys 26 = .ok (.iload_n 3, 1) := by decide +kernel
theorem dX4_writeKeys_27 : decode cX4_writeKeys 27 = .ok (.ishr, 1) := by decide +kernel
theorem dX4_writeKeys_28 : decode cX4_writeKeys 28 = .ok (.iconst 1, 1) := by decide +kernel
theorem dX4_writeKeys_29 : decode cX4_writeKeys 29 = .ok (.iand, 1) := by decide +kernel
theorem dX4_writeKeys_30 : decode cX4_writeKeys 30 = .ok (.ifCond .eq 18, 3) := by decide +kernel
theorem dX4_writeKeys_33 : decode cX4_writeKeys 33 = .ok (.lload 4, 2) := by decide +kernel
theorem dX4_writeKeys_35 : decode cX4_writeKeys 35 = .ok (.aload_n 0, 1) := by decide +kernel
theorem dX4_writeKeys_36 : decode cX4_writeKeys 36 = .ok (.getfield 14, 3) := by decide +kernel
theorem dX4_writeKeys_39 : decode cX4_writeKeys 39 = .ok (.getfield 86, 3) := by decide +kernel
theorem dX4_writeKeys_42 : decode cX4_writeKeys 42 = .ok (.iload 6, 2) := by decide +kernel
theorem dX4_writeKeys_44 : decode cX4_writeKeys 44 = .ok (.laload, 1) := by decide +kernel
theorem dX4_writeKeys_45 : decode cX4_writeKeys 45 = .ok (.lor, 1) := by decide +kernel
theorem dX4_writeKeys_46 : decode cX4_writeKeys 46 = .ok (.lstore 4, 2) := by decide +kernel
theorem dX4_writeKeys_48 : decode cX4_writeKeys 48 = .ok (.iinc 6 1, 3) := by decide +kernel
theorem dX4_writeKeys_51 : decode cX4_writeKeys 51 = .ok (.goto (-34), 3) := by decide +kernel
theorem dX4_writeKeys_54 : decode cX4_writeKeys 54 = .ok (.aload_n 0, 1) := by decide +kernel
theorem dX4_writeKeys_55 : decode cX4_writeKeys 55 = .ok (.getfield 36, 3) := by decide +kernel
theorem dX4_writeKeys_58 : decode cX4_writeKeys 58 = .ok (.iload_n 2, 1) := by decide +kernel
theorem dX4_writeKeys_59 : decode cX4_writeKeys 59 = .ok (.iload_n 3, 1) := by decide +kernel
theorem dX4_writeKeys_60 : decode cX4_writeKeys 60 = .ok (.iadd, 1) := by decide +kernel
theorem dX4_writeKeys_61 : decode cX4_writeKeys 61 = .ok (.lload 4, 2) := by decide +kernel
theorem dX4_writeKeys_63 : decode cX4_writeKeys 63 = .ok (.lastore, 1) := by decide +kernel
theorem dX4_writeKeys_64 : decode cX4_writeKeys 64 = .ok (.iinc 3 1, 3) := by decide +kernel
theorem dX4_writeKeys_67 : decode cX4_writeKeys 67 = .ok (.goto (-61), 3) := by decide +kernel
theorem dX4_writeKeys_70 : decode cX4_writeKeys 70 = .ok (.aload_n 0, 1) := by decide +kernel
theorem dX4_writeKeys_71 : decode cX4_writeKeys 71 = .ok (.getfield 36, 3) := by decide +kernel
theorem dX4_writeKeys_74 : decode cX4_writeKeys 74 = .ok (.iload_n 2, 1) := by decide +kernel
theorem dX4_writeKeys_75 : decode cX4_writeKeys 75 = .ok (.iconst 4, 1) := by decide +kernel
theorem dX4_writeKeys_76 : decode cX4_writeKeys 76 = .ok (.iadd, 1) := by decide +kernel
theorem dX4_writeKeys_77 : decode cX4_writeKeys 77 = .ok (.aload_n 0, 1) := by decide +kernel
theorem dX4_writeKeys_78 : decode cX4_writeKeys 78 = .ok (.getfield 14, 3) := by decide +kernel
theorem dX4_writeKeys_81 : decode cX4_writeKeys 81 = .ok (.getfield 89, 3) := by decide +kernel
theorem dX4_writeKeys_84 : decode cX4_writeKeys 84 = .ok (.aload_n 0, 1) := by decide +kernel
theorem dX4_writeKeys_85 : decode cX4_writeKeys 85 = .ok (.getfield 14, 3) := by decide +kernel
theorem dX4_writeKeys_88 : decode cX4_writeKeys 88 = .ok (.getfield 92, 3) := by decide +kernel
theorem dX4_writeKeys_91 : decode cX4_writeKeys 91 = .ok (.iconst 1, 1) := by decide +kernel
theorem dX4_writeKeys_92 : decode cX4_writeKeys 92 = .ok (.ishl, 1) := by decide +kernel
theorem dX4_writeKeys_93 : decode cX4_writeKeys 93 = .ok (.ior, 1) := by decide +kernel
theorem dX4_writeKeys_94 : decode cX4_writeKeys 94 = .ok (.aload_n 0, 1) := by decide +kernel
theorem dX4_writeKeys_95 : decode cX4_writeKeys 95 = .ok (.getfield 33, 3) := by decide +kernel
theorem dX4_writeKeys_98 : decode cX4_writeKeys 98 = .ok (.iload_n 1, 1) := by decide +kernel
theorem dX4_writeKeys_99 : decode cX4_writeKeys 99 = .ok (.bipush 8, 2) := by decide +kernel
theorem dX4_writeKeys_101 : decode cX4_writeKeys 101 = .ok (.imul, 1) := by decide +kernel
theorem dX4_writeKeys_102 : decode cX4_writeKeys 102 = .ok (.bipush 7, 2) := by decide +kernel
theorem dX4_writeKeys_104 : decode cX4_writeKeys 104 = .ok (.iadd, 1) := by decide +kernel
theorem dX4_writeKeys_105 : decode cX4_writeKeys 105 = .ok (.iaload, 1) := by decide +kernel
theorem dX4_writeKeys_106 : decode cX4_writeKeys 106 = .ok (.iconst 1, 1) := by decide +kernel
theorem dX4_writeKeys_107 : decode cX4_writeKeys 107 = .ok (.iadd, 1) := by decide +kernel
theorem dX4_writeKeys_108 : decode cX4_writeKeys 108 = .ok (.iconst 5, 1) := by decide +kernel
theorem dX4_writeKeys_109 : decode cX4_writeKeys 109 = .ok (.ishl, 1) := by decide +kernel
theorem dX4_writeKeys_110 : decode cX4_writeKeys 110 = .ok (.ior, 1) := by decide +kernel
theorem dX4_writeKeys_111 : decode cX4_writeKeys 111 = .ok (.i2l, 1) := by decide +kernel
theorem dX4_writeKeys_112 : decode cX4_writeKeys 112 = .ok (.lastore, 1) := by decide +kernel
theorem dX4_writeKeys_113 : decode cX4_writeKeys 113 = .ok (.return_, 1) := by decide +kernel
def aX4_writeKeys_0 (mc ms : Nat) (X : Nat → zV) (Q : zQt) : zT :=
  zli 1 <| zc (.int 5) <| zii (fun x y => x * y) <| zsi 2 <| zc (.int 0) <| zsi 3 <| zj X 6 [0, 1, 2, 3]
def aX4_writeKeys_6 (mc ms : Nat) (X : Nat → zV) (Q : zQt) : zT :=
  zli 3 <| zc (.int 4) <| zic (fun x y => y ≤ x) (zla 0 <| zgR 4 6 <| zli 2 <| zc (.int 4) <| zii (fun x y => x + y) <| zla 0 <| zgR 4 0 <| zgi 0 4 <| zla 0 <| zgR 4 0 <| zgi 0 5 <| zc (.int 1) <| zii (fun x y => x <<< (y &&& 31)) <| zii (fun x y => x ||| y) <| zla 0 <| zgR 4 5 <| zli 1 <| zc (.int 8) <| zii (fun x y => x * y) <| zc (.int 7) <| zii (fun x y => x + y) <| zal 1 <| zc (.int 1) <| zii (fun x y => x + y) <| zc (.int 5) <| zii (fun x y => x <<< (y &&& 31)) <| zii (fun x y => x ||| y) <| zi2l <| zasl <| zrv Q) <| zc (.long 0) <| zsl 4 <| zc (.int 1) <| zsi 6 <| zj X 17 [0, 1, 2, 3, 4, 6]
def aX4_writeKeys_17 (mc ms : Nat) (X : Nat → zV) (Q : zQt) : zT :=
  zli 6 <| zc (.int 12) <| zic (fun x y => y < x) (zla 0 <| zgR 4 6 <| zli 2 <| zli 3 <| zii (fun x y => x + y) <| zll 4 <| zasl <| zinc 3 1 <| zj X 6 [0, 1, 2, 3]) <| zli 6 <| zli 3 <| zii (fun x y => x >>> (y &&& 31)) <| zc (.int 1) <| zii (fun x y => x &&& y) <| zif (fun x => x = 0) (zj X 48 [0, 1, 2, 3, 4, 6]) <| zll 4 <| zla 0 <| zgR 4 0 <| zgR 0 2 <| zli 6 <| zall <| zjj (fun x y => x ||| y) <| zslN 4 <| zj X 48 [0, 1, 2, 3, 4, 6]
def aX4_writeKeys_48 (mc ms : Nat) (X : Nat → zV) (Q : zQt) : zT :=
  zinc 6 1 <| zj X 17 [0, 1, 2, 3, 4, 6]
def lvX4_writeKeys : Nat → List Nat := fun L => match L with
  | 0 => [0, 1]
  | 6 => [0, 1, 2, 3]
  | 17 => [0, 1, 2, 3, 4, 6]
  | 48 => [0, 1, 2, 3, 4, 6]
  | _ => []
def wX4_writeKeys : zSp := fun mc ms av M Q => ((zlay av).length ≤ 7 ∧ zpick (zlay av) [0, 1] = some av) ∧ ∀ X : Nat → zV, zin 7 [0, 1] (aX4_writeKeys_0 mc ms X Q) X 0 → zin 7 [0, 1, 2, 3] (aX4_writeKeys_6 mc ms X Q) X 6 → zin 7 [0, 1, 2, 3, 4, 6] (aX4_writeKeys_17 mc ms X Q) X 17 → zin 7 [0, 1, 2, 3, 4, 6] (aX4_writeKeys_48 mc ms X Q) X 48 → X 0 0 0 av [] M
set_option maxRecDepth 100000 in
set_option maxHeartbeats 4000000 in
theorem sX4_writeKeys (l : Launch) (G : zG) : zSnd l G yX4_writeKeys cX4_writeKeys 7 none 0 0 wX4_writeKeys := by
  refine zmk [0, 1] (by decide) (fun mc ms av M Q h => h.1) ?_
  intro p e R s m args below meth c mc ms av M Q hC hRf hRl hr hnm h lv hlv
  obtain ⟨X, hXe⟩ : ∃ X : Nat → zV, X = fun L u v vs st M => ∀ lv, zpick lv (lvX4_writeKeys L) = some vs → zAt p l e R s m args below meth c (MQ below (zQ G Q) args s mc ms (zA G)) G 7 L u v lv st M := ⟨_, rfl⟩
  have hJ : ∀ L, zOk p l e R s m args below meth c (MQ below (zQ G Q) args s mc ms (zA G)) G 7 L (zj X L (lvX4_writeKeys L)) := fun L => S_jump (fun u v lv vs st M hp hx => by rw [hXe] at hx; exact hx lv hp)
  have hB0 : zin 7 [0, 1] (aX4_writeKeys_0 mc ms X Q) X 0 := by
    intro u v vs st M hb
    rw [hXe]
    refine fun lv hp => S_block (L := 0) (live := [0, 1]) ?_ u v lv vs st M hp hb
    unfold aX4_writeKeys_0
    refine S_iload_n (pc := 0) hC dX4_writeKeys_0 rfl ?_
    refine S_iconst (pc := 1) hC dX4_writeKeys_1 (by decide) ?_
    refine S_imul (pc := 2) hC dX4_writeKeys_2 ?_
    refine S_istore_n (pc := 3) hC dX4_writeKeys_3 rfl (by decide) ?_
    refine S_iconst (pc := 4) hC dX4_writeKeys_4 (by decide) ?_
    refine S_istore_n (pc := 5) hC dX4_writeKeys_5 rfl (by decide) ?_
    exact hJ 6
  have hB6 : zin 7 [0, 1, 2, 3] (aX4_writeKeys_6 mc ms X Q) X 6 := by
    intro u v vs st M hb
    rw [hXe]
    refine fun lv hp => S_block (L := 6) (live := [0, 1, 2, 3]) ?_ u v lv vs st M hp hb
    unfold aX4_writeKeys_6
    refine S_iload_n (pc := 6) hC dX4_writeKeys_6 rfl ?_
    refine S_iconst (pc := 7) hC dX4_writeKeys_7 (by decide) ?_
    refine S_icmp_ge (pc := 8) (tgt := 70) hC dX4_writeKeys_8 (by decide) ?_ ?_
    · refine S_aload_n (pc := 70) hC dX4_writeKeys_70 rfl ?_
      refine S_getR (pc := 71) hC cfX4 (by decide) (Or.inr ⟨_, rfl⟩) wd_330 dX4_writeKeys_71 ?_
      refine S_iload_n (pc := 74) hC dX4_writeKeys_74 rfl ?_
      refine S_iconst (pc := 75) hC dX4_writeKeys_75 (by decide) ?_
      refine S_iadd (pc := 76) hC dX4_writeKeys_76 ?_
      refine S_aload_n (pc := 77) hC dX4_writeKeys_77 rfl ?_
      refine S_getR (pc := 78) hC cfX4 (by decide) (Or.inl ⟨_, rfl⟩) wd_307 dX4_writeKeys_78 ?_
      refine S_geti (pc := 81) hC cfX0 (by decide) (Or.inl rfl) wd_233 dX4_writeKeys_81 ?_
      refine S_aload_n (pc := 84) hC dX4_writeKeys_84 rfl ?_
      refine S_getR (pc := 85) hC cfX4 (by decide) (Or.inl ⟨_, rfl⟩) wd_307 dX4_writeKeys_85 ?_
      refine S_geti (pc := 88) hC cfX0 (by decide) (Or.inl rfl) wd_240 dX4_writeKeys_88 ?_
      refine S_iconst (pc := 91) hC dX4_writeKeys_91 (by decide) ?_
      refine S_ishl (pc := 92) hC dX4_writeKeys_92 ?_
      refine S_ior (pc := 93) hC dX4_writeKeys_93 ?_
      refine S_aload_n (pc := 94) hC dX4_writeKeys_94 rfl ?_
      refine S_getR (pc := 95) hC cfX4 (by decide) (Or.inr ⟨_, rfl⟩) wd_328 dX4_writeKeys_95 ?_
      refine S_iload_n (pc := 98) hC dX4_writeKeys_98 rfl ?_
      refine S_bipush (pc := 99) hC dX4_writeKeys_99 (by decide) ?_
      refine S_imul (pc := 101) hC dX4_writeKeys_101 ?_
      refine S_bipush (pc := 102) hC dX4_writeKeys_102 (by decide) ?_
      refine S_iadd (pc := 104) hC dX4_writeKeys_104 ?_
      refine S_iaload (pc := 105) hC dX4_writeKeys_105 ?_
      refine S_iconst (pc := 106) hC dX4_writeKeys_106 (by decide) ?_
      refine S_iadd (pc := 107) hC dX4_writeKeys_107 ?_
      refine S_iconst (pc := 108) hC dX4_writeKeys_108 (by decide) ?_
      refine S_ishl (pc := 109) hC dX4_writeKeys_109 ?_
      refine S_ior (pc := 110) hC dX4_writeKeys_110 ?_
      refine S_i2l (pc := 111) hC dX4_writeKeys_111 ?_
      refine S_lastore (pc := 112) hC dX4_writeKeys_112 ?_
      exact S_vreturn (pc := 113) hC hr dX4_writeKeys_113
    · refine S_lconst (pc := 11) hC dX4_writeKeys_11 (by decide) ?_
      refine S_lstore (pc := 12) hC dX4_writeKeys_12 (by decide) ?_
      refine S_iconst (pc := 14) hC dX4_writeKeys_14 (by decide) ?_
      refine S_istore (pc := 15) hC dX4_writeKeys_15 (by decide) ?_
      exact hJ 17
  have hB17 : zin 7 [0, 1, 2, 3, 4, 6] (aX4_writeKeys_17 mc ms X Q) X 17 := by
    intro u v vs st M hb
    rw [hXe]
    refine fun lv hp => S_block (L := 17) (live := [0, 1, 2, 3, 4, 6]) ?_ u v lv vs st M hp hb
    unfold aX4_writeKeys_17
    refine S_iload (pc := 17) hC dX4_writeKeys_17 ?_
    refine S_bipush (pc := 19) hC dX4_writeKeys_19 (by decide) ?_
    refine S_icmp_gt (pc := 21) (tgt := 54) hC dX4_writeKeys_21 (by decide) ?_ ?_
    · refine S_aload_n (pc := 54) hC dX4_writeKeys_54 rfl ?_
      refine S_getR (pc := 55) hC cfX4 (by decide) (Or.inr ⟨_, rfl⟩) wd_330 dX4_writeKeys_55 ?_
      refine S_iload_n (pc := 58) hC dX4_writeKeys_58 rfl ?_
      refine S_iload_n (pc := 59) hC dX4_writeKeys_59 rfl ?_
      refine S_iadd (pc := 60) hC dX4_writeKeys_60 ?_
      refine S_lload (pc := 61) hC dX4_writeKeys_61 ?_
      refine S_lastore (pc := 63) hC dX4_writeKeys_63 ?_
      refine S_iinc (pc := 64) hC dX4_writeKeys_64 (by decide) (by decide) ?_
      refine S_goto (pc := 67) (tgt := 6) hC dX4_writeKeys_67 (by decide) ?_
      exact hJ 6
    · refine S_iload (pc := 24) hC dX4_writeKeys_24 ?_
      refine S_iload_n (pc := 26) hC dX4_writeKeys_26 rfl ?_
      refine S_ishr (pc := 27) hC dX4_writeKeys_27 ?_
      refine S_iconst (pc := 28) hC dX4_writeKeys_28 (by decide) ?_
      refine S_iand (pc := 29) hC dX4_writeKeys_29 ?_
      refine S_if_eq (pc := 30) (tgt := 48) hC dX4_writeKeys_30 (by decide) ?_ ?_
      · exact hJ 48
      · refine S_lload (pc := 33) hC dX4_writeKeys_33 ?_
        refine S_aload_n (pc := 35) hC dX4_writeKeys_35 rfl ?_
        refine S_getR (pc := 36) hC cfX4 (by decide) (Or.inl ⟨_, rfl⟩) wd_307 dX4_writeKeys_36 ?_
        refine S_getR (pc := 39) hC cfX0 (by decide) (Or.inr ⟨_, rfl⟩) wd_223 dX4_writeKeys_39 ?_
        refine S_iload (pc := 42) hC dX4_writeKeys_42 ?_
        refine S_laload (pc := 44) hC dX4_writeKeys_44 ?_
        refine S_lor (pc := 45) hC dX4_writeKeys_45 ?_
        refine S_lstore_N (pc := 46) hC dX4_writeKeys_46 (by decide) ?_
        exact hJ 48
  have hB48 : zin 7 [0, 1, 2, 3, 4, 6] (aX4_writeKeys_48 mc ms X Q) X 48 := by
    intro u v vs st M hb
    rw [hXe]
    refine fun lv hp => S_block (L := 48) (live := [0, 1, 2, 3, 4, 6]) ?_ u v lv vs st M hp hb
    unfold aX4_writeKeys_48
    refine S_iinc (pc := 48) hC dX4_writeKeys_48 (by decide) (by decide) ?_
    refine S_goto (pc := 51) (tgt := 17) hC dX4_writeKeys_51 (by decide) ?_
    exact hJ 17
  have := h.2 X hB0 hB6 hB17 hB48
  rw [hXe] at this
  exact this lv hlv
theorem vX4_writeKeys_0 {mc ms : Nat} {X : Nat → zV} {Q : zQt} {M : zM} {g : Nat} {x1 : Int32} (hW : zWd M g)  (h : X 6 0 0 [.ref g, .int x1, .int (x1 * (5 : Int32)), .int 0] [] M) : aX4_writeKeys_0 mc ms X Q 0 0 [some (.ref g), some (.int x1), none, none, none, none, none] [] M := h
theorem vX4_writeKeys_6 {mc ms : Nat} {X : Nat → zV} {Q : zQt} {M : zM} {g : Nat} {x1 : Int32} {x2 : Int32} {x3 : Int32} (hW : zWd M g)  (h : ((4 : Int32) ≤ x3 → vp_in (((x1 * (8 : Int32)) + (7 : Int32))) 4808 ∧ vp_in ((x2 + (4 : Int32))) 3005 ∧ ∀ M112 : zM, M112 = (zsJ M ((g + 9)) ((x2 + (4 : Int32)) : Int32).toNatClampNeg (((((M.1 ((g + 1)) 4) ||| ((M.1 ((g + 1)) 5) <<< ((1 : Int32) &&& 31))) ||| ((((M : zM).1 ((g + 8)) (((x1 * (8 : Int32)) + (7 : Int32)) : Int32).toNatClampNeg) + (1 : Int32)) <<< ((5 : Int32) &&& 31))) : Int32).toInt64)) → Q none M112) ∧ (¬ (4 : Int32) ≤ x3 → X 17 0 0 [.ref g, .int x1, .int x2, .int x3, .long 0, .int 1] [] M)) : aX4_writeKeys_6 mc ms X Q 0 0 [some (.ref g), some (.int x1), some (.int x2), some (.int x3), none, none, none] [] M := ⟨fun c8 => ⟨(fgs_0 hW), (g + 9), (fgr_0_6 hW), ⟨(fgs_0 hW), (g + 1), (fgr_0_0 hW), ⟨(fgs_1 hW), ⟨(fgs_0 hW), (g + 1), (fgr_0_0 hW), ⟨(fgs_1 hW), ⟨(fgs_0 hW), (g + 8), (fgr_0_5 hW), ⟨4808, (fgs_8 hW), (h.1 c8).1, ⟨3005, (fgs_9 hW), (h.1 c8).2.1, (have h112 := (h.1 c8).2.2 _ rfl; h112)⟩⟩⟩⟩⟩⟩⟩⟩, fun c8 => (h.2 c8)⟩
theorem vX4_writeKeys_17 {mc ms : Nat} {X : Nat → zV} {Q : zQt} {M : zM} {g : Nat} {x1 : Int32} {x2 : Int32} {x3 : Int32} {x4 : Int64} {x6 : Int32} (hW : zWd M g)  (h : ((12 : Int32) < x6 → vp_in ((x2 + x3)) 3005 ∧ ∀ M63 : zM, M63 = (zsJ M ((g + 9)) ((x2 + x3) : Int32).toNatClampNeg x4) → X 6 0 0 [.ref g, .int x1, .int x2, .int (x3 + 1)] [] M63) ∧ (¬ (12 : Int32) < x6 → (((x6 >>> (x3 &&& 31)) &&& (1 : Int32)) = 0 → X 48 0 0 [.ref g, .int x1, .int x2, .int x3, .long x4, .int x6] [] M) ∧ (¬ ((x6 >>> (x3 &&& 31)) &&& (1 : Int32)) = 0 → vp_in x6 13 ∧ ∀ y46 : Int64, y46 = (x4 ||| ((M : zM).2.1 ((g + 3)) (x6 : Int32).toNatClampNeg)) → X 48 0 0 [.ref g, .int x1, .int x2, .int x3, .long y46, .int x6] [] M))) : aX4_writeKeys_17 mc ms X Q 0 0 [some (.ref g), some (.int x1), some (.int x2), some (.int x3), some (.long x4), none, some (.int x6)] [] M := ⟨fun c21 => ⟨(fgs_0 hW), (g + 9), (fgr_0_6 hW), ⟨3005, (fgs_9 hW), (h.1 c21).1, (have h63 := (h.1 c21).2 _ rfl; h63)⟩⟩, fun c21 => ⟨fun c30 => ((h.2 c21).1 c30), fun c30 => ⟨(fgs_0 hW), (g + 1), (fgr_0_0 hW), ⟨(fgs_1 hW), (g + 3), (fgr_1_2 hW), ⟨13, (fgs_3 hW), ((h.2 c21).2 c30).1, (fun y46 e46 => have h46 := ((h.2 c21).2 c30).2 y46 e46; h46)⟩⟩⟩⟩⟩
theorem vX4_writeKeys_48 {mc ms : Nat} {X : Nat → zV} {Q : zQt} {M : zM} {g : Nat} {x1 : Int32} {x2 : Int32} {x3 : Int32} {x4 : Int64} {x6 : Int32} (hW : zWd M g)  (h : X 17 0 0 [.ref g, .int x1, .int x2, .int x3, .long x4, .int (x6 + 1)] [] M) : aX4_writeKeys_48 mc ms X Q 0 0 [some (.ref g), some (.int x1), some (.int x2), some (.int x3), some (.long x4), none, some (.int x6)] [] M := h
theorem dX4_isSame_0 : decode cX4_isSame 0 = .ok (.iconst 0, 1) := by decide +kernel
theorem dX4_isSame_1 : decode cX4_isSame 1 = .ok (.istore_n 3, 1) := by decide +kernel
theorem dX4_isSame_2 : decode cX4_isSame 2 = .ok (.iload_n 3, 1) := by decide +kernel
theorem dX4_isSame_3 : decode cX4_isSame 3 = .ok (.iconst 5, 1) := by decide +kernel
theorem dX4_isSame_4 : decode cX4_isSame 4 = .ok (.if_icmp .ge 31, 3) := by decide +kernel
theorem dX4_isSame_7 : decode cX4_isSame 7 = .ok (.aload_n 0, 1) := by decide +kernel
theorem dX4_isSame_8 : decode cX4_isSame 8 = .ok (.getfield 36, 3) := by decide +kernel
theorem dX4_isSame_11 : decode cX4_isSame 11 = .ok (.iload_n 1, 1) := by decide +kernel
theorem dX4_isSame_12 : decode cX4_isSame 12 = .ok (.iload_n 3, 1) := by decide +kernel
theorem dX4_isSame_13 : decode cX4_isSame 13 = .ok (.iadd, 1) := by decide +kernel
theorem dX4_isSame_14 : decode cX4_isSame 14 = .ok (.laload, 1) := by decide +kernel
theorem dX4_isSame_15 : decode cX4_isSame 15 = .ok (.aload_n 0, 1) := by decide +kernel
theorem dX4_isSame_16 : decode cX4_isSame 16 = .ok (.getfield 36, 3) := by decide +kernel
theorem dX4_isSame_19 : decode cX4_isSame 19 = .ok (.iload_n 2, 1) := by decide +kernel
theorem dX4_isSame_20 : decode cX4_isSame 20 = .ok (.iload_n 3, 1) := by decide +kernel
theorem dX4_isSame_21 : decode cX4_isSame 21 = .ok (.iadd, 1) := by decide +kernel
theorem dX4_isSame_22 : decode cX4_isSame 22 = .ok (.laload, 1) := by decide +kernel
theorem dX4_isSame_23 : decode cX4_isSame 23 = .ok (.lcmp, 1) := by decide +kernel
theorem dX4_isSame_24 : decode cX4_isSame 24 = .ok (.ifCond .eq 5, 3) := by decide +kernel
theorem dX4_isSame_27 : decode cX4_isSame 27 = .ok (.iconst 0, 1) := by decide +kernel
theorem dX4_isSame_28 : decode cX4_isSame 28 = .ok (.ireturn, 1) := by decide +kernel
theorem dX4_isSame_29 : decode cX4_isSame 29 = .ok (.iinc 3 1, 3) := by decide +kernel
theorem dX4_isSame_32 : decode cX4_isSame 32 = .ok (.goto (-30), 3) := by decide +kernel
theorem dX4_isSame_35 : decode cX4_isSame 35 = .ok (.iconst 1, 1) := by decide +kernel
theorem dX4_isSame_36 : decode cX4_isSame 36 = .ok (.ireturn, 1) := by decide +kernel
def aX4_isSame_0 (mc ms : Nat) (X : Nat → zV) (Q : zQt) : zT :=
  zc (.int 0) <| zsi 3 <| zj X 2 [0, 1, 2, 3]
def aX4_isSame_2 (mc ms : Nat) (X : Nat → zV) (Q : zQt) : zT :=
  zli 3 <| zc (.int 5) <| zic (fun x y => y ≤ x) (zc (.int 1) <| zrz .boolean Q) <| zla 0 <| zgR 4 6 <| zli 1 <| zli 3 <| zii (fun x y => x + y) <| zall <| zla 0 <| zgR 4 6 <| zli 2 <| zli 3 <| zii (fun x y => x + y) <| zall <| zlc <| zif (fun x => x = 0) (zinc 3 1 <| zj X 2 [0, 1, 2, 3]) <| zc (.int 0) <| zrz .boolean Q
def lvX4_isSame : Nat → List Nat := fun L => match L with
  | 0 => [0, 1, 2]
  | 2 => [0, 1, 2, 3]
  | _ => []
def wX4_isSame : zSp := fun mc ms av M Q => ((zlay av).length ≤ 4 ∧ zpick (zlay av) [0, 1, 2] = some av) ∧ ∀ X : Nat → zV, zin 4 [0, 1, 2] (aX4_isSame_0 mc ms X Q) X 0 → zin 4 [0, 1, 2, 3] (aX4_isSame_2 mc ms X Q) X 2 → X 0 0 0 av [] M
set_option maxRecDepth 100000 in
set_option maxHeartbeats 4000000 in
theorem sX4_isSame (l : Launch) (G : zG) : zSnd l G yX4_isSame cX4_isSame 4 (some .boolean) 0 0 wX4_isSame := by
  refine zmk [0, 1, 2] (by decide) (fun mc ms av M Q h => h.1) ?_
  intro p e R s m args below meth c mc ms av M Q hC hRf hRl hr hnm h lv hlv
  obtain ⟨X, hXe⟩ : ∃ X : Nat → zV, X = fun L u v vs st M => ∀ lv, zpick lv (lvX4_isSame L) = some vs → zAt p l e R s m args below meth c (MQ below (zQ G Q) args s mc ms (zA G)) G 4 L u v lv st M := ⟨_, rfl⟩
  have hJ : ∀ L, zOk p l e R s m args below meth c (MQ below (zQ G Q) args s mc ms (zA G)) G 4 L (zj X L (lvX4_isSame L)) := fun L => S_jump (fun u v lv vs st M hp hx => by rw [hXe] at hx; exact hx lv hp)
  have hB0 : zin 4 [0, 1, 2] (aX4_isSame_0 mc ms X Q) X 0 := by
    intro u v vs st M hb
    rw [hXe]
    refine fun lv hp => S_block (L := 0) (live := [0, 1, 2]) ?_ u v lv vs st M hp hb
    unfold aX4_isSame_0
    refine S_iconst (pc := 0) hC dX4_isSame_0 (by decide) ?_
    refine S_istore_n (pc := 1) hC dX4_isSame_1 rfl (by decide) ?_
    exact hJ 2
  have hB2 : zin 4 [0, 1, 2, 3] (aX4_isSame_2 mc ms X Q) X 2 := by
    intro u v vs st M hb
    rw [hXe]
    refine fun lv hp => S_block (L := 2) (live := [0, 1, 2, 3]) ?_ u v lv vs st M hp hb
    unfold aX4_isSame_2
    refine S_iload_n (pc := 2) hC dX4_isSame_2 rfl ?_
    refine S_iconst (pc := 3) hC dX4_isSame_3 (by decide) ?_
    refine S_icmp_ge (pc := 4) (tgt := 35) hC dX4_isSame_4 (by decide) ?_ ?_
    · refine S_iconst (pc := 35) hC dX4_isSame_35 (by decide) ?_
      exact S_zreturn (pc := 36) hC hr dX4_isSame_36
    · refine S_aload_n (pc := 7) hC dX4_isSame_7 rfl ?_
      refine S_getR (pc := 8) hC cfX4 (by decide) (Or.inr ⟨_, rfl⟩) wd_330 dX4_isSame_8 ?_
      refine S_iload_n (pc := 11) hC dX4_isSame_11 rfl ?_
      refine S_iload_n (pc := 12) hC dX4_isSame_12 rfl ?_
      refine S_iadd (pc := 13) hC dX4_isSame_13 ?_
      refine S_laload (pc := 14) hC dX4_isSame_14 ?_
      refine S_aload_n (pc := 15) hC dX4_isSame_15 rfl ?_
      refine S_getR (pc := 16) hC cfX4 (by decide) (Or.inr ⟨_, rfl⟩) wd_330 dX4_isSame_16 ?_
      refine S_iload_n (pc := 19) hC dX4_isSame_19 rfl ?_
      refine S_iload_n (pc := 20) hC dX4_isSame_20 rfl ?_
      refine S_iadd (pc := 21) hC dX4_isSame_21 ?_
      refine S_laload (pc := 22) hC dX4_isSame_22 ?_
      refine S_lcmp (pc := 23) hC dX4_isSame_23 ?_
      refine S_if_eq (pc := 24) (tgt := 29) hC dX4_isSame_24 (by decide) ?_ ?_
      · refine S_iinc (pc := 29) hC dX4_isSame_29 (by decide) (by decide) ?_
        refine S_goto (pc := 32) (tgt := 2) hC dX4_isSame_32 (by decide) ?_
        exact hJ 2
      · refine S_iconst (pc := 27) hC dX4_isSame_27 (by decide) ?_
        exact S_zreturn (pc := 28) hC hr dX4_isSame_28
  have := h.2 X hB0 hB2
  rw [hXe] at this
  exact this lv hlv
theorem vX4_isSame_0 {mc ms : Nat} {X : Nat → zV} {Q : zQt} {M : zM} {g : Nat} {x1 : Int32} {x2 : Int32} (hW : zWd M g)  (h : X 2 0 0 [.ref g, .int x1, .int x2, .int 0] [] M) : aX4_isSame_0 mc ms X Q 0 0 [some (.ref g), some (.int x1), some (.int x2), none] [] M := h
theorem vX4_isSame_2 {mc ms : Nat} {X : Nat → zV} {Q : zQt} {M : zM} {g : Nat} {x1 : Int32} {x2 : Int32} {x3 : Int32} (hW : zWd M g)  (h : ((5 : Int32) ≤ x3 → Q (some (.int 1)) M) ∧ (¬ (5 : Int32) ≤ x3 → vp_in ((x1 + x3)) 3005 ∧ vp_in ((x2 + x3)) 3005 ∧ ((lg_cmp (((M : zM).2.1 ((g + 9)) ((x1 + x3) : Int32).toNatClampNeg)) (((M : zM).2.1 ((g + 9)) ((x2 + x3) : Int32).toNatClampNeg))) = 0 → X 2 0 0 [.ref g, .int x1, .int x2, .int (x3 + 1)] [] M) ∧ (¬ (lg_cmp (((M : zM).2.1 ((g + 9)) ((x1 + x3) : Int32).toNatClampNeg)) (((M : zM).2.1 ((g + 9)) ((x2 + x3) : Int32).toNatClampNeg))) = 0 → Q (some (.int 0)) M))) : aX4_isSame_2 mc ms X Q 0 0 [some (.ref g), some (.int x1), some (.int x2), some (.int x3)] [] M := ⟨fun c4 => ⟨rfl, (h.1 c4)⟩, fun c4 => ⟨(fgs_0 hW), (g + 9), (fgr_0_6 hW), ⟨3005, (fgs_9 hW), (h.2 c4).1, ⟨(fgs_0 hW), (g + 9), (fgr_0_6 hW), ⟨3005, (fgs_9 hW), (h.2 c4).2.1, ⟨fun c24 => ((h.2 c4).2.2.1 c24), fun c24 => ⟨rfl, ((h.2 c4).2.2.2 c24)⟩⟩⟩⟩⟩⟩⟩
theorem dX4_isDead_0 : decode cX4_isDead 0 = .ok (.aload_n 0, 1) := by decide +kernel
theorem dX4_isDead_1 : decode cX4_isDead 1 = .ok (.getfield 14, 3) := by decide +kernel
theorem dX4_isDead_4 : decode cX4_isDead 4 = .ok (.invokevirtual 107, 3) := by decide +kernel
theorem dX4_isDead_7 : decode cX4_isDead 7 = .ok (.istore_n 1, 1) := by decide +kernel
theorem dX4_isDead_8 : decode cX4_isDead 8 = .ok (.iload_n 1, 1) := by decide +kernel
theorem dX4_isDead_9 : decode cX4_isDead 9 = .ok (.iconst 4, 1) := by decide +kernel
theorem dX4_isDead_10 : decode cX4_isDead 10 = .ok (.if_icmp .le 5, 3) := by decide +kernel
theorem dX4_isDead_13 : decode cX4_isDead 13 = .ok (.iconst 0, 1) := by decide +kernel
theorem dX4_isDead_14 : decode cX4_isDead 14 = .ok (.ireturn, 1) := by decide +kernel
theorem dX4_isDead_15 : decode cX4_isDead 15 = .ok (.aload_n 0, 1) := by decide +kernel
theorem dX4_isDead_16 : decode cX4_isDead 16 = .ok (.getfield 14, 3) := by decide +kernel
theorem dX4_isDead_19 : decode cX4_isDead 19 = .ok (.getfield 86, 3) := by decide +kernel
theorem dX4_isDead_22 : decode cX4_isDead 22 = .ok (.iconst 3, 1) := by decide +kernel
theorem dX4_isDead_23 : decode cX4_isDead 23 = .ok (.laload, 1) := by decide +kernel
theorem dX4_isDead_24 : decode cX4_isDead 24 = .ok (.lstore_n 2, 1) := by decide +kernel
theorem dX4_isDead_25 : decode cX4_isDead 25 = .ok (.aload_n 0, 1) := by decide +kernel
theorem dX4_isDead_26 : decode cX4_isDead 26 = .ok (.getfield 14, 3) := by decide +kernel
theorem dX4_isDead_29 : decode cX4_isDead 29 = .ok (.getfield 86, 3) := by decide +kernel
theorem dX4_isDead_32 : decode cX4_isDead 32 = .ok (.bipush 9, 2) := by decide +kernel
theorem dX4_isDead_34 : decode cX4_isDead 34 = .ok (.laload, 1) := by decide +kernel
theorem dX4_isDead_35 : decode cX4_isDead 35 = .ok (.lstore 4, 2) := by decide +kernel
theorem dX4_isDead_37 : decode cX4_isDead 37 = .ok (.iload_n 1, 1) := by decide +kernel
theorem dX4_isDead_38 : decode cX4_isDead 38 = .ok (.iconst 4, 1) := by decide +kernel
theorem dX4_isDead_39 : decode cX4_isDead 39 = .ok (.if_icmp .ne 72, 3) := by decide +kernel
theorem dX4_isDead_42 : decode cX4_isDead 42 = .ok (.lload_n 2, 1) := by decide +kernel
theorem dX4_isDead_43 : decode cX4_isDead 43 = .ok (.lconst 0, 1) := by decide +kernel
theorem dX4_isDead_44 : decode cX4_isDead 44 = .ok (.lcmp, 1) := by decide +kernel
theorem dX4_isDead_45 : decode cX4_isDead 45 = .ok (.ifCond .eq 14, 3) := by decide +kernel
theorem dX4_isDead_48 : decode cX4_isDead 48 = .ok (.lload 4, 2) := by decide +kernel
theorem dX4_isDead_50 : decode cX4_isDead 50 = .ok (.lconst 0, 1) := by decide +kernel
theorem dX4_isDead_51 : decode cX4_isDead 51 = .ok (.lcmp, 1) := by decide +kernel
theorem dX4_isDead_52 : decode cX4_isDead 52 = .ok (.ifCond .eq 7, 3) := by decide +kernel
theorem dX4_isDead_55 : decode cX4_isDead 55 = .ok (.iconst 1, 1) := by decide +kernel
theorem dX4_isDead_56 : decode cX4_isDead 56 = .ok (.goto 4, 3) := by decide +kernel
theorem dX4_isDead_59 : decode cX4_isDead 59 = .ok (.iconst 0, 1) := by decide +kernel
theorem dX4_isDead_60 : decode cX4_isDead 60 = .ok (.istore 6, 2) := by decide +kernel
theorem dX4_isDead_62 : decode cX4_isDead 62 = .ok (.lload_n 2, 1) := by decide +kernel
theorem dX4_isDead_63 : decode cX4_isDead 63 = .ok (.lload 4, 2) := by decide +kernel
theorem dX4_isDead_65 : decode cX4_isDead 65 = .ok (.lor, 1) := by decide +kernel
theorem dX4_isDead_66 : decode cX4_isDead 66 = .ok (.ldc2_w 110, 3) := by decide +kernel
theorem dX4_isDead_69 : decode cX4_isDead 69 = .ok (.land, 1) := by decide +kernel
theorem dX4_isDead_70 : decode cX4_isDead 70 = .ok (.lstore 7, 2) := by decide +kernel
theorem dX4_isDead_72 : decode cX4_isDead 72 = .ok (.iload 6, 2) := by decide +kernel
theorem dX4_isDead_74 : decode cX4_isDead 74 = .ok (.ifCond .eq 35, 3) := by decide +kernel
theorem dX4_isDead_77 : decode cX4_isDead 77 = .ok (.lload_n 2, 1) := by decide +kernel
theorem dX4_isDead_78 : decode cX4_isDead 78 = .ok (.lload 4, 2) := by decide +kernel
theorem dX4_isDead_80 : decode cX4_isDead 80 = .ok (.lor, 1) := by decide +kernel
theorem dX4_isDead_81 : decode cX4_isDead 81 = .ok (.invokestatic 112, 3) := by decide +kernel
theorem dX4_isDead_84 : decode cX4_isDead 84 = .ok (.iconst 2, 1) := by decide +kernel
theorem dX4_isDead_85 : decode cX4_isDead 85 = .ok (.if_icmp .ne 24, 3) := by decide +kernel
theorem dX4_isDead_88 : decode cX4_isDead 88 = .ok (.lload 7, 2) := by decide +kernel
theorem dX4_isDead_90 : decode cX4_isDead 90 = .ok (.lconst 0, 1) := by decide +kernel
theorem dX4_isDead_91 : decode cX4_isDead 91 = .ok (.lcmp, 1) := by decide +kernel
theorem dX4_isDead_92 : decode cX4_isDead 92 = .ok (.ifCond .eq 13, 3) := by decide +kernel
theorem dX4_isDead_95 : decode cX4_isDead 95 = .ok (.lload 7, 2) := by decide +kernel
theorem dX4_isDead_97 : decode cX4_isDead 97 = .ok (.lload_n 2, 1) := by decide +kernel
theorem dX4_isDead_98 : decode cX4_isDead 98 = .ok (.lload 4, 2) := by decide +kernel
theorem dX4_isDead_100 : decode cX4_isDead 100 = .ok (.lor, 1) := by decide +kernel
theorem dX4_isDead_101 : decode cX4_isDead 101 = .ok (.lcmp, 1) := by decide +kernel
theorem dX4_isDead_102 : decode cX4_isDead 102 = .ok (.ifCond .ne 7, 3) := by decide +kernel
theorem dX4_isDead_105 : decode cX4_isDead 105 = .ok (.iconst 1, 1) := by decide +kernel
theorem dX4_isDead_106 : decode cX4_isDead 106 = .ok (.goto 4, 3) := by decide +kernel
theorem dX4_isDead_109 : decode cX4_isDead 109 = .ok (.iconst 0, 1) := by decide +kernel
theorem dX4_isDead_110 : decode cX4_isDead 110 = .ok (.ireturn, 1) := by decide +kernel
theorem dX4_isDead_111 : decode cX4_isDead 111 = .ok (.iload_n 1, 1) := by decide +kernel
theorem dX4_isDead_112 : decode cX4_isDead 112 = .ok (.iconst 2, 1) := by decide +kernel
theorem dX4_isDead_113 : decode cX4_isDead 113 = .ok (.if_icmp .eq 33, 3) := by decide +kernel
theorem dX4_isDead_116 : decode cX4_isDead 116 = .ok (.lload_n 2, 1) := by decide +kernel
theorem dX4_isDead_117 : decode cX4_isDead 117 = .ok (.lload 4, 2) := by decide +kernel
theorem dX4_isDead_119 : decode cX4_isDead 119 = .ok (.lor, 1) := by decide +kernel
theorem dX4_isDead_120 : decode cX4_isDead 120 = .ok (.aload_n 0, 1) := by decide +kernel
theorem dX4_isDead_121 : decode cX4_isDead 121 = .ok (.getfield 14, 3) := by decide +kernel
theorem dX4_isDead_124 : decode cX4_isDead 124 = .ok (.getfield 86, 3) := by decide +kernel
theorem dX4_isDead_127 : decode cX4_isDead 127 = .ok (.iconst 2, 1) := by decide +kernel
theorem dX4_isDead_128 : decode cX4_isDead 128 = .ok (.laload, 1) := by decide +kernel
theorem dX4_isDead_129 : decode cX4_isDead 129 = .ok (.lor, 1) := by decide +kernel
theorem dX4_isDead_130 : decode cX4_isDead 130 = .ok (.aload_n 0, 1) := by decide +kernel
theorem dX4_isDead_131 : decode cX4_isDead 131 = .ok (.getfield 14, 3) := by decide +kernel
theorem dX4_isDead_134 : decode cX4_isDead 134 = .ok (.getfield 86, 3) := by decide +kernel
theorem dX4_isDead_137 : decode cX4_isDead 137 = .ok (.bipush 8, 2) := by decide +kernel
theorem dX4_isDead_139 : decode cX4_isDead 139 = .ok (.laload, 1) := by decide +kernel
theorem dX4_isDead_140 : decode cX4_isDead 140 = .ok (.lor, 1) := by decide +kernel
theorem dX4_isDead_141 : decode cX4_isDead 141 = .ok (.lconst 0, 1) := by decide +kernel
theorem dX4_isDead_142 : decode cX4_isDead 142 = .ok (.lcmp, 1) := by decide +kernel
theorem dX4_isDead_143 : decode cX4_isDead 143 = .ok (.ifCond .eq 7, 3) := by decide +kernel
theorem dX4_isDead_146 : decode cX4_isDead 146 = .ok (.iconst 1, 1) := by decide +kernel
theorem dX4_isDead_147 : decode cX4_isDead 147 = .ok (.goto 4, 3) := by decide +kernel
theorem dX4_isDead_150 : decode cX4_isDead 150 = .ok (.iconst 0, 1) := by decide +kernel
theorem dX4_isDead_151 : decode cX4_isDead 151 = .ok (.ireturn, 1) := by decide +kernel
def kX4_isDead_37 (mc ms : Nat) (X : Nat → zV) (Q : zQt) : zT :=
  zli 1 <| zc (.int 4) <| zic (fun x y => x = y) (zll 2 <| zc (.long 0) <| zlc <| zif (fun x => x = 0) (zj X 59 [2, 4]) <| zll 4 <| zc (.long 0) <| zlc <| zif (fun x => x = 0) (zj X 59 [2, 4]) <| zc (.int 1) <| zj X 60 [2, 4]) <| zli 1 <| zc (.int 2) <| zic (fun x y => x = y) (zj X 146 []) <| zll 2 <| zll 4 <| zjj (fun x y => x ||| y) <| zla 0 <| zgR 4 0 <| zgR 0 2 <| zc (.int 2) <| zall <| zjj (fun x y => x ||| y) <| zla 0 <| zgR 4 0 <| zgR 0 2 <| zc (.int 8) <| zall <| zjj (fun x y => x ||| y) <| zc (.long 0) <| zlc <| zif (fun x => x = 0) (zc (.int 0) <| zj X 151 []) <| zj X 146 []
def kX4_isDead_25 (mc ms : Nat) (X : Nat → zV) (Q : zQt) : zT :=
  zla 0 <| zgR 4 0 <| zgR 0 2 <| zc (.int 9) <| zall <| zslN 4 <| kX4_isDead_37 mc ms X Q
def kX4_isDead_7 (mc ms : Nat) (X : Nat → zV) (Q : zQt) : zT :=
  zsi 1 <| zli 1 <| zc (.int 4) <| zic (fun x y => x ≤ y) (zla 0 <| zgR 4 0 <| zgR 0 2 <| zc (.int 3) <| zall <| zslN 2 <| kX4_isDead_25 mc ms X Q) <| zc (.int 0) <| zrz .boolean Q
def kX4_isDead_84 (mc ms : Nat) (X : Nat → zV) (Q : zQt) : zT :=
  zc (.int 2) <| zic (fun x y => x = y) (zll 7 <| zc (.long 0) <| zlc <| zif (fun x => x = 0) (zj X 105 []) <| zll 7 <| zll 2 <| zll 4 <| zjj (fun x y => x ||| y) <| zlc <| zif (fun x => x = 0) (zj X 105 []) <| zj X 109 []) <| zj X 109 []
def kX4_isDead_72 (mc ms : Nat) (X : Nat → zV) (Q : zQt) : zT :=
  zli 6 <| zif (fun x => x = 0) (zj X 109 []) <| zll 2 <| zll 4 <| zjj (fun x y => x ||| y) <| zcs mc ms 1 wJ13_bitCount_95d88 <| kX4_isDead_84 mc ms X Q
def aX4_isDead_0 (mc ms : Nat) (X : Nat → zV) (Q : zQt) : zT :=
  zla 0 <| zgR 4 0 <| zcv mc ms 0 0 wX0_manyMen <| kX4_isDead_7 mc ms X Q
def aX4_isDead_59 (mc ms : Nat) (X : Nat → zV) (Q : zQt) : zT :=
  zc (.int 0) <| zj X 60 [2, 4]
def aX4_isDead_60 (mc ms : Nat) (X : Nat → zV) (Q : zQt) : zT :=
  zsi 6 <| zll 2 <| zll 4 <| zjj (fun x y => x ||| y) <| zc (.long (-6172840429334713771)) <| zjj (fun x y => x &&& y) <| zslN 7 <| kX4_isDead_72 mc ms X Q
def aX4_isDead_105 (mc ms : Nat) (X : Nat → zV) (Q : zQt) : zT :=
  zc (.int 1) <| zj X 110 []
def aX4_isDead_109 (mc ms : Nat) (X : Nat → zV) (Q : zQt) : zT :=
  zc (.int 0) <| zj X 110 []
def aX4_isDead_110 (mc ms : Nat) (X : Nat → zV) (Q : zQt) : zT :=
  zrz .boolean Q
def aX4_isDead_146 (mc ms : Nat) (X : Nat → zV) (Q : zQt) : zT :=
  zc (.int 1) <| zj X 151 []
def aX4_isDead_151 (mc ms : Nat) (X : Nat → zV) (Q : zQt) : zT :=
  zrz .boolean Q
def lvX4_isDead : Nat → List Nat := fun L => match L with
  | 0 => [0]
  | 59 => [2, 4]
  | 60 => [2, 4]
  | 105 => []
  | 109 => []
  | 110 => []
  | 146 => []
  | 151 => []
  | _ => []
def wX4_isDead : zSp := fun mc ms av M Q => ((zlay av).length ≤ 9 ∧ zpick (zlay av) [0] = some av) ∧ ∀ X : Nat → zV, zin 9 [0] (aX4_isDead_0 mc ms X Q) X 0 → zin 9 [2, 4] (aX4_isDead_59 mc ms X Q) X 59 → zin 9 [2, 4] (aX4_isDead_60 mc ms X Q) X 60 → zin 9 [] (aX4_isDead_105 mc ms X Q) X 105 → zin 9 [] (aX4_isDead_109 mc ms X Q) X 109 → zin 9 [] (aX4_isDead_110 mc ms X Q) X 110 → zin 9 [] (aX4_isDead_146 mc ms X Q) X 146 → zin 9 [] (aX4_isDead_151 mc ms X Q) X 151 → X 0 0 0 av [] M
set_option maxRecDepth 100000 in
set_option maxHeartbeats 4000000 in
theorem sX4_isDead (l : Launch) (G : zG) : zSnd l G yX4_isDead cX4_isDead 9 (some .boolean) 2 41 wX4_isDead := by
  refine zmk [0] (by decide) (fun mc ms av M Q h => h.1) ?_
  intro p e R s m args below meth c mc ms av M Q hC hRf hRl hr hnm h lv hlv
  obtain ⟨X, hXe⟩ : ∃ X : Nat → zV, X = fun L u v vs st M => ∀ lv, zpick lv (lvX4_isDead L) = some vs → zAt p l e R s m args below meth c (MQ below (zQ G Q) args s mc ms (zA G)) G 9 L u v lv st M := ⟨_, rfl⟩
  have hJ : ∀ L, zOk p l e R s m args below meth c (MQ below (zQ G Q) args s mc ms (zA G)) G 9 L (zj X L (lvX4_isDead L)) := fun L => S_jump (fun u v lv vs st M hp hx => by rw [hXe] at hx; exact hx lv hp)
  have hB0 : zin 9 [0] (aX4_isDead_0 mc ms X Q) X 0 := by
    intro u v vs st M hb
    rw [hXe]
    refine fun lv hp => S_block (L := 0) (live := [0]) ?_ u v lv vs st M hp hb
    unfold aX4_isDead_0
    refine S_aload_n (pc := 0) hC dX4_isDead_0 rfl ?_
    refine S_getR (pc := 1) hC cfX4 (by decide) (Or.inl ⟨_, rfl⟩) wd_307 dX4_isDead_1 ?_
    refine S_callV (pc := 4) hC (sX0_manyMen l G) rfl wd_858 wd_571 wd_572 wd_10 wd_573 (by decide +kernel) ⟨by rw [hRf]; decide, by rw [hRl]; decide⟩ dX4_isDead_4 ?_
    unfold kX4_isDead_7
    refine S_istore_n (pc := 7) hC dX4_isDead_7 rfl (by decide) ?_
    refine S_iload_n (pc := 8) hC dX4_isDead_8 rfl ?_
    refine S_iconst (pc := 9) hC dX4_isDead_9 (by decide) ?_
    refine S_icmp_le (pc := 10) (tgt := 15) hC dX4_isDead_10 (by decide) ?_ ?_
    · refine S_aload_n (pc := 15) hC dX4_isDead_15 rfl ?_
      refine S_getR (pc := 16) hC cfX4 (by decide) (Or.inl ⟨_, rfl⟩) wd_307 dX4_isDead_16 ?_
      refine S_getR (pc := 19) hC cfX0 (by decide) (Or.inr ⟨_, rfl⟩) wd_223 dX4_isDead_19 ?_
      refine S_iconst (pc := 22) hC dX4_isDead_22 (by decide) ?_
      refine S_laload (pc := 23) hC dX4_isDead_23 ?_
      refine S_lstore_n_N (pc := 24) hC dX4_isDead_24 rfl (by decide) ?_
      unfold kX4_isDead_25
      refine S_aload_n (pc := 25) hC dX4_isDead_25 rfl ?_
      refine S_getR (pc := 26) hC cfX4 (by decide) (Or.inl ⟨_, rfl⟩) wd_307 dX4_isDead_26 ?_
      refine S_getR (pc := 29) hC cfX0 (by decide) (Or.inr ⟨_, rfl⟩) wd_223 dX4_isDead_29 ?_
      refine S_bipush (pc := 32) hC dX4_isDead_32 (by decide) ?_
      refine S_laload (pc := 34) hC dX4_isDead_34 ?_
      refine S_lstore_N (pc := 35) hC dX4_isDead_35 (by decide) ?_
      unfold kX4_isDead_37
      refine S_iload_n (pc := 37) hC dX4_isDead_37 rfl ?_
      refine S_iconst (pc := 38) hC dX4_isDead_38 (by decide) ?_
      refine S_icmp_ne (pc := 39) (tgt := 111) hC dX4_isDead_39 (by decide) ?_ ?_
      · refine S_iload_n (pc := 111) hC dX4_isDead_111 rfl ?_
        refine S_iconst (pc := 112) hC dX4_isDead_112 (by decide) ?_
        refine S_icmp_eq (pc := 113) (tgt := 146) hC dX4_isDead_113 (by decide) ?_ ?_
        · exact hJ 146
        · refine S_lload_n (pc := 116) hC dX4_isDead_116 rfl ?_
          refine S_lload (pc := 117) hC dX4_isDead_117 ?_
          refine S_lor (pc := 119) hC dX4_isDead_119 ?_
          refine S_aload_n (pc := 120) hC dX4_isDead_120 rfl ?_
          refine S_getR (pc := 121) hC cfX4 (by decide) (Or.inl ⟨_, rfl⟩) wd_307 dX4_isDead_121 ?_
          refine S_getR (pc := 124) hC cfX0 (by decide) (Or.inr ⟨_, rfl⟩) wd_223 dX4_isDead_124 ?_
          refine S_iconst (pc := 127) hC dX4_isDead_127 (by decide) ?_
          refine S_laload (pc := 128) hC dX4_isDead_128 ?_
          refine S_lor (pc := 129) hC dX4_isDead_129 ?_
          refine S_aload_n (pc := 130) hC dX4_isDead_130 rfl ?_
          refine S_getR (pc := 131) hC cfX4 (by decide) (Or.inl ⟨_, rfl⟩) wd_307 dX4_isDead_131 ?_
          refine S_getR (pc := 134) hC cfX0 (by decide) (Or.inr ⟨_, rfl⟩) wd_223 dX4_isDead_134 ?_
          refine S_bipush (pc := 137) hC dX4_isDead_137 (by decide) ?_
          refine S_laload (pc := 139) hC dX4_isDead_139 ?_
          refine S_lor (pc := 140) hC dX4_isDead_140 ?_
          refine S_lconst (pc := 141) hC dX4_isDead_141 (by decide) ?_
          refine S_lcmp (pc := 142) hC dX4_isDead_142 ?_
          refine S_if_eq (pc := 143) (tgt := 150) hC dX4_isDead_143 (by decide) ?_ ?_
          · refine S_iconst (pc := 150) hC dX4_isDead_150 (by decide) ?_
            exact hJ 151
          · exact hJ 146
      · refine S_lload_n (pc := 42) hC dX4_isDead_42 rfl ?_
        refine S_lconst (pc := 43) hC dX4_isDead_43 (by decide) ?_
        refine S_lcmp (pc := 44) hC dX4_isDead_44 ?_
        refine S_if_eq (pc := 45) (tgt := 59) hC dX4_isDead_45 (by decide) ?_ ?_
        · exact hJ 59
        · refine S_lload (pc := 48) hC dX4_isDead_48 ?_
          refine S_lconst (pc := 50) hC dX4_isDead_50 (by decide) ?_
          refine S_lcmp (pc := 51) hC dX4_isDead_51 ?_
          refine S_if_eq (pc := 52) (tgt := 59) hC dX4_isDead_52 (by decide) ?_ ?_
          · exact hJ 59
          · refine S_iconst (pc := 55) hC dX4_isDead_55 (by decide) ?_
            refine S_goto (pc := 56) (tgt := 60) hC dX4_isDead_56 (by decide) ?_
            exact hJ 60
    · refine S_iconst (pc := 13) hC dX4_isDead_13 (by decide) ?_
      exact S_zreturn (pc := 14) hC hr dX4_isDead_14
  have hB59 : zin 9 [2, 4] (aX4_isDead_59 mc ms X Q) X 59 := by
    intro u v vs st M hb
    rw [hXe]
    refine fun lv hp => S_block (L := 59) (live := [2, 4]) ?_ u v lv vs st M hp hb
    unfold aX4_isDead_59
    refine S_iconst (pc := 59) hC dX4_isDead_59 (by decide) ?_
    exact hJ 60
  have hB60 : zin 9 [2, 4] (aX4_isDead_60 mc ms X Q) X 60 := by
    intro u v vs st M hb
    rw [hXe]
    refine fun lv hp => S_block (L := 60) (live := [2, 4]) ?_ u v lv vs st M hp hb
    unfold aX4_isDead_60
    refine S_istore (pc := 60) hC dX4_isDead_60 (by decide) ?_
    refine S_lload_n (pc := 62) hC dX4_isDead_62 rfl ?_
    refine S_lload (pc := 63) hC dX4_isDead_63 ?_
    refine S_lor (pc := 65) hC dX4_isDead_65 ?_
    refine S_ldc2 (pc := 66) hC wd_859 dX4_isDead_66 ?_
    refine S_land (pc := 69) hC dX4_isDead_69 ?_
    refine S_lstore_N (pc := 70) hC dX4_isDead_70 (by decide) ?_
    unfold kX4_isDead_72
    refine S_iload (pc := 72) hC dX4_isDead_72 ?_
    refine S_if_eq (pc := 74) (tgt := 109) hC dX4_isDead_74 (by decide) ?_ ?_
    · exact hJ 109
    · refine S_lload_n (pc := 77) hC dX4_isDead_77 rfl ?_
      refine S_lload (pc := 78) hC dX4_isDead_78 ?_
      refine S_lor (pc := 80) hC dX4_isDead_80 ?_
      refine S_callS (pc := 81) hC (sJ13_bitCount_95d88 l G) wd_860 wd_438 wd_25 wd_439 (by decide +kernel) ⟨by rw [hRf]; decide, by rw [hRl]; decide⟩ dX4_isDead_81 ?_
      unfold kX4_isDead_84
      refine S_iconst (pc := 84) hC dX4_isDead_84 (by decide) ?_
      refine S_icmp_ne (pc := 85) (tgt := 109) hC dX4_isDead_85 (by decide) ?_ ?_
      · exact hJ 109
      · refine S_lload (pc := 88) hC dX4_isDead_88 ?_
        refine S_lconst (pc := 90) hC dX4_isDead_90 (by decide) ?_
        refine S_lcmp (pc := 91) hC dX4_isDead_91 ?_
        refine S_if_eq (pc := 92) (tgt := 105) hC dX4_isDead_92 (by decide) ?_ ?_
        · exact hJ 105
        · refine S_lload (pc := 95) hC dX4_isDead_95 ?_
          refine S_lload_n (pc := 97) hC dX4_isDead_97 rfl ?_
          refine S_lload (pc := 98) hC dX4_isDead_98 ?_
          refine S_lor (pc := 100) hC dX4_isDead_100 ?_
          refine S_lcmp (pc := 101) hC dX4_isDead_101 ?_
          refine S_if_ne (pc := 102) (tgt := 109) hC dX4_isDead_102 (by decide) ?_ ?_
          · exact hJ 109
          · exact hJ 105
  have hB105 : zin 9 [] (aX4_isDead_105 mc ms X Q) X 105 := by
    intro u v vs st M hb
    rw [hXe]
    refine fun lv hp => S_block (L := 105) (live := []) ?_ u v lv vs st M hp hb
    unfold aX4_isDead_105
    refine S_iconst (pc := 105) hC dX4_isDead_105 (by decide) ?_
    refine S_goto (pc := 106) (tgt := 110) hC dX4_isDead_106 (by decide) ?_
    exact hJ 110
  have hB109 : zin 9 [] (aX4_isDead_109 mc ms X Q) X 109 := by
    intro u v vs st M hb
    rw [hXe]
    refine fun lv hp => S_block (L := 109) (live := []) ?_ u v lv vs st M hp hb
    unfold aX4_isDead_109
    refine S_iconst (pc := 109) hC dX4_isDead_109 (by decide) ?_
    exact hJ 110
  have hB110 : zin 9 [] (aX4_isDead_110 mc ms X Q) X 110 := by
    intro u v vs st M hb
    rw [hXe]
    refine fun lv hp => S_block (L := 110) (live := []) ?_ u v lv vs st M hp hb
    unfold aX4_isDead_110
    exact S_zreturn (pc := 110) hC hr dX4_isDead_110
  have hB146 : zin 9 [] (aX4_isDead_146 mc ms X Q) X 146 := by
    intro u v vs st M hb
    rw [hXe]
    refine fun lv hp => S_block (L := 146) (live := []) ?_ u v lv vs st M hp hb
    unfold aX4_isDead_146
    refine S_iconst (pc := 146) hC dX4_isDead_146 (by decide) ?_
    refine S_goto (pc := 147) (tgt := 151) hC dX4_isDead_147 (by decide) ?_
    exact hJ 151
  have hB151 : zin 9 [] (aX4_isDead_151 mc ms X Q) X 151 := by
    intro u v vs st M hb
    rw [hXe]
    refine fun lv hp => S_block (L := 151) (live := []) ?_ u v lv vs st M hp hb
    unfold aX4_isDead_151
    exact S_zreturn (pc := 151) hC hr dX4_isDead_151
  have := h.2 X hB0 hB59 hB60 hB105 hB109 hB110 hB146 hB151
  rw [hXe] at this
  exact this lv hlv
theorem vX4_isDead_0 {mc ms : Nat} {X : Nat → zV} {Q : zQt} {M : zM} {g : Nat}  (hW : zWd M g)  (h : wX0_manyMen 0 0 [.ref (g + 1)] M (fun r M1 => kX4_isDead_7 mc ms X Q 0 0 [some (.ref g), none, none, none, none, none, none, none, none] (r.toList ++ []) M1)) : aX4_isDead_0 mc ms X Q 0 0 [some (.ref g), none, none, none, none, none, none, none, none] [] M := ⟨(fgs_0 hW), (g + 1), (fgr_0_0 hW), ⟨Nat.le_of_ble_eq_true rfl, rfl, (fgs_1 hW), 0, 0, Nat.zero_le _, Nat.zero_le _, h⟩⟩
theorem vX4_isDead_59 {mc ms : Nat} {X : Nat → zV} {Q : zQt} {M : zM} {g : Nat} {x2 : Int64} {x4 : Int64} (hW : zWd M g)  (h : X 60 0 0 [.long x2, .long x4] [.int 0] M) : aX4_isDead_59 mc ms X Q 0 0 [none, none, some (.long x2), none, some (.long x4), none, none, none, none] [] M := h
theorem vcX4_isDead_72 {mc ms : Nat} {X : Nat → zV} {Q : zQt} {M : zM} {g : Nat} {x2 : Int64} {x4 : Int64} {x6 : Int32} {x7 : Int64} (hW : zWd M g)  (h : (x6 = 0 → X 109 0 0 [] [] M) ∧ (¬ x6 = 0 → wJ13_bitCount_95d88 0 0 [.long (x2 ||| x4)] M (fun r M1 => kX4_isDead_84 mc ms X Q 0 0 [none, none, some (.long x2), none, some (.long x4), none, some (.int x6), some (.long x7), none] (r.toList ++ []) M1))) : kX4_isDead_72 mc ms X Q 0 0 [none, none, some (.long x2), none, some (.long x4), none, some (.int x6), some (.long x7), none] [] M := ⟨fun c74 => (h.1 c74), fun c74 => ⟨Nat.le_of_ble_eq_true rfl, rfl, 0, 0, Nat.zero_le _, Nat.zero_le _, (h.2 c74)⟩⟩
theorem vX4_isDead_60 {mc ms : Nat} {X : Nat → zV} {Q : zQt} {M : zM} {g : Nat} {x2 : Int64} {x4 : Int64} {s0 : Int32} (hW : zWd M g)  (h : ∀ y70 : Int64, y70 = ((x2 ||| x4) &&& ((-6172840429334713771) : Int64)) → (s0 = 0 → X 109 0 0 [] [] M) ∧ (¬ s0 = 0 → wJ13_bitCount_95d88 0 0 [.long (x2 ||| x4)] M (fun r M1 => kX4_isDead_84 mc ms X Q 0 0 [none, none, some (.long x2), none, some (.long x4), none, some (.int s0), some (.long y70), none] (r.toList ++ []) M1))) : aX4_isDead_60 mc ms X Q 0 0 [none, none, some (.long x2), none, some (.long x4), none, none, none, none] [.int s0] M := (fun y70 e70 => have h70 := h y70 e70; (vcX4_isDead_72 hW  h70))
theorem vX4_isDead_105 {mc ms : Nat} {X : Nat → zV} {Q : zQt} {M : zM} {g : Nat}  (hW : zWd M g)  (h : X 110 0 0 [] [.int 1] M) : aX4_isDead_105 mc ms X Q 0 0 [none, none, none, none, none, none, none, none, none] [] M := h
theorem vX4_isDead_109 {mc ms : Nat} {X : Nat → zV} {Q : zQt} {M : zM} {g : Nat}  (hW : zWd M g)  (h : X 110 0 0 [] [.int 0] M) : aX4_isDead_109 mc ms X Q 0 0 [none, none, none, none, none, none, none, none, none] [] M := h
theorem vX4_isDead_110 {mc ms : Nat} {X : Nat → zV} {Q : zQt} {M : zM} {g : Nat} {s0 : Int32} (hW : zWd M g)  (h : narrow .boolean (.int s0) = .int s0 ∧ Q (some (.int s0)) M) : aX4_isDead_110 mc ms X Q 0 0 [none, none, none, none, none, none, none, none, none] [.int s0] M := h
theorem vX4_isDead_146 {mc ms : Nat} {X : Nat → zV} {Q : zQt} {M : zM} {g : Nat}  (hW : zWd M g)  (h : X 151 0 0 [] [.int 1] M) : aX4_isDead_146 mc ms X Q 0 0 [none, none, none, none, none, none, none, none, none] [] M := h
theorem vX4_isDead_151 {mc ms : Nat} {X : Nat → zV} {Q : zQt} {M : zM} {g : Nat} {s0 : Int32} (hW : zWd M g)  (h : narrow .boolean (.int s0) = .int s0 ∧ Q (some (.int s0)) M) : aX4_isDead_151 mc ms X Q 0 0 [none, none, none, none, none, none, none, none, none] [.int s0] M := h
theorem vcX4_isDead_37 {mc ms : Nat} {X : Nat → zV} {Q : zQt} {M : zM} {g : Nat} {x1 : Int32} {x2 : Int64} {x4 : Int64} (hW : zWd M g)  (h : (x1 = (4 : Int32) → ((lg_cmp x2 ((0 : Int64))) = 0 → X 59 0 0 [.long x2, .long x4] [] M) ∧ (¬ (lg_cmp x2 ((0 : Int64))) = 0 → ((lg_cmp x4 ((0 : Int64))) = 0 → X 59 0 0 [.long x2, .long x4] [] M) ∧ (¬ (lg_cmp x4 ((0 : Int64))) = 0 → X 60 0 0 [.long x2, .long x4] [.int 1] M))) ∧ (¬ x1 = (4 : Int32) → (x1 = (2 : Int32) → X 146 0 0 [] [] M) ∧ (¬ x1 = (2 : Int32) → ((lg_cmp ((((x2 ||| x4) ||| ((M : zM).2.1 ((g + 3)) (2 : Int32).toNatClampNeg)) ||| ((M : zM).2.1 ((g + 3)) (8 : Int32).toNatClampNeg))) ((0 : Int64))) = 0 → X 151 0 0 [] [.int 0] M) ∧ (¬ (lg_cmp ((((x2 ||| x4) ||| ((M : zM).2.1 ((g + 3)) (2 : Int32).toNatClampNeg)) ||| ((M : zM).2.1 ((g + 3)) (8 : Int32).toNatClampNeg))) ((0 : Int64))) = 0 → X 146 0 0 [] [] M)))) : kX4_isDead_37 mc ms X Q 0 0 [some (.ref g), some (.int x1), some (.long x2), none, some (.long x4), none, none, none, none] [] M := ⟨fun c39 => ⟨fun c45 => ((h.1 c39).1 c45), fun c45 => ⟨fun c52 => (((h.1 c39).2 c45).1 c52), fun c52 => (((h.1 c39).2 c45).2 c52)⟩⟩, fun c39 => ⟨fun c113 => ((h.2 c39).1 c113), fun c113 => ⟨(fgs_0 hW), (g + 1), (fgr_0_0 hW), ⟨(fgs_1 hW), (g + 3), (fgr_1_2 hW), ⟨13, (fgs_3 hW), by unfold vp_in; decide, ⟨(fgs_0 hW), (g + 1), (fgr_0_0 hW), ⟨(fgs_1 hW), (g + 3), (fgr_1_2 hW), ⟨13, (fgs_3 hW), by unfold vp_in; decide, ⟨fun c143 => (((h.2 c39).2 c113).1 c143), fun c143 => (((h.2 c39).2 c113).2 c143)⟩⟩⟩⟩⟩⟩⟩⟩⟩
theorem vcX4_isDead_25 {mc ms : Nat} {X : Nat → zV} {Q : zQt} {M : zM} {g : Nat} {x1 : Int32} {x2 : Int64} (hW : zWd M g)  (h : ∀ y35 : Int64, y35 = ((M : zM).2.1 ((g + 3)) (9 : Int32).toNatClampNeg) → (x1 = (4 : Int32) → ((lg_cmp x2 ((0 : Int64))) = 0 → X 59 0 0 [.long x2, .long y35] [] M) ∧ (¬ (lg_cmp x2 ((0 : Int64))) = 0 → ((lg_cmp y35 ((0 : Int64))) = 0 → X 59 0 0 [.long x2, .long y35] [] M) ∧ (¬ (lg_cmp y35 ((0 : Int64))) = 0 → X 60 0 0 [.long x2, .long y35] [.int 1] M))) ∧ (¬ x1 = (4 : Int32) → (x1 = (2 : Int32) → X 146 0 0 [] [] M) ∧ (¬ x1 = (2 : Int32) → ((lg_cmp ((((x2 ||| y35) ||| ((M : zM).2.1 ((g + 3)) (2 : Int32).toNatClampNeg)) ||| ((M : zM).2.1 ((g + 3)) (8 : Int32).toNatClampNeg))) ((0 : Int64))) = 0 → X 151 0 0 [] [.int 0] M) ∧ (¬ (lg_cmp ((((x2 ||| y35) ||| ((M : zM).2.1 ((g + 3)) (2 : Int32).toNatClampNeg)) ||| ((M : zM).2.1 ((g + 3)) (8 : Int32).toNatClampNeg))) ((0 : Int64))) = 0 → X 146 0 0 [] [] M)))) : kX4_isDead_25 mc ms X Q 0 0 [some (.ref g), some (.int x1), some (.long x2), none, none, none, none, none, none] [] M := ⟨(fgs_0 hW), (g + 1), (fgr_0_0 hW), ⟨(fgs_1 hW), (g + 3), (fgr_1_2 hW), ⟨13, (fgs_3 hW), by unfold vp_in; decide, (fun y35 e35 => have h35 := h y35 e35; (vcX4_isDead_37 hW  h35))⟩⟩⟩
theorem vkX4_isDead_7 {mc ms : Nat} {X : Nat → zV} {Q : zQt} {M : zM} {g : Nat} {s0 : Int32} (hW : zWd M g)  (h : (s0 ≤ (4 : Int32) → ∀ y24 : Int64, y24 = ((M : zM).2.1 ((g + 3)) (3 : Int32).toNatClampNeg) → ∀ y35 : Int64, y35 = ((M : zM).2.1 ((g + 3)) (9 : Int32).toNatClampNeg) → (s0 = (4 : Int32) → ((lg_cmp y24 ((0 : Int64))) = 0 → X 59 0 0 [.long y24, .long y35] [] M) ∧ (¬ (lg_cmp y24 ((0 : Int64))) = 0 → ((lg_cmp y35 ((0 : Int64))) = 0 → X 59 0 0 [.long y24, .long y35] [] M) ∧ (¬ (lg_cmp y35 ((0 : Int64))) = 0 → X 60 0 0 [.long y24, .long y35] [.int 1] M))) ∧ (¬ s0 = (4 : Int32) → (s0 = (2 : Int32) → X 146 0 0 [] [] M) ∧ (¬ s0 = (2 : Int32) → ((lg_cmp ((((y24 ||| y35) ||| ((M : zM).2.1 ((g + 3)) (2 : Int32).toNatClampNeg)) ||| ((M : zM).2.1 ((g + 3)) (8 : Int32).toNatClampNeg))) ((0 : Int64))) = 0 → X 151 0 0 [] [.int 0] M) ∧ (¬ (lg_cmp ((((y24 ||| y35) ||| ((M : zM).2.1 ((g + 3)) (2 : Int32).toNatClampNeg)) ||| ((M : zM).2.1 ((g + 3)) (8 : Int32).toNatClampNeg))) ((0 : Int64))) = 0 → X 146 0 0 [] [] M)))) ∧ (¬ s0 ≤ (4 : Int32) → Q (some (.int 0)) M)) : kX4_isDead_7 mc ms X Q 0 0 [some (.ref g), none, none, none, none, none, none, none, none] [.int s0] M := ⟨fun c10 => ⟨(fgs_0 hW), (g + 1), (fgr_0_0 hW), ⟨(fgs_1 hW), (g + 3), (fgr_1_2 hW), ⟨13, (fgs_3 hW), by unfold vp_in; decide, (fun y24 e24 => have h24 := (h.1 c10) y24 e24; (vcX4_isDead_25 hW  h24))⟩⟩⟩, fun c10 => ⟨rfl, (h.2 c10)⟩⟩
theorem vkX4_isDead_84 {mc ms : Nat} {X : Nat → zV} {Q : zQt} {M : zM} {g : Nat} {x2 : Int64} {x4 : Int64} {x6 : Int32} {x7 : Int64} {s0 : Int32} (hW : zWd M g)  (h : (s0 = (2 : Int32) → ((lg_cmp x7 ((0 : Int64))) = 0 → X 105 0 0 [] [] M) ∧ (¬ (lg_cmp x7 ((0 : Int64))) = 0 → ((lg_cmp x7 ((x2 ||| x4))) = 0 → X 105 0 0 [] [] M) ∧ (¬ (lg_cmp x7 ((x2 ||| x4))) = 0 → X 109 0 0 [] [] M))) ∧ (¬ s0 = (2 : Int32) → X 109 0 0 [] [] M)) : kX4_isDead_84 mc ms X Q 0 0 [none, none, some (.long x2), none, some (.long x4), none, some (.int x6), some (.long x7), none] [.int s0] M := ⟨fun c85 => ⟨fun c92 => ((h.1 c85).1 c92), fun c92 => ⟨fun c102 => (((h.1 c85).2 c92).1 c102), fun c102 => (((h.1 c85).2 c92).2 c102)⟩⟩, fun c85 => (h.2 c85)⟩
theorem dX4_verdict_0 : decode cX4_verdict 0 = .ok (.aload_n 0, 1) := by decide +kernel
theorem dX4_verdict_1 : decode cX4_verdict 1 = .ok (.getfield 33, 3) := by decide +kernel
theorem dX4_verdict_4 : decode cX4_verdict 4 = .ok (.aload_n 0, 1) := by decide +kernel
theorem dX4_verdict_5 : decode cX4_verdict 5 = .ok (.getfield 40, 3) := by decide +kernel
theorem dX4_verdict_8 : decode cX4_verdict 8 = .ok (.iconst 1, 1) := by decide +kernel
theorem dX4_verdict_9 : decode cX4_verdict 9 = .ok (.isub, 1) := by decide +kernel
theorem dX4_verdict_10 : decode cX4_verdict 10 = .ok (.bipush 8, 2) := by decide +kernel
theorem dX4_verdict_12 : decode cX4_verdict 12 = .ok (.imul, 1) := by decide +kernel
theorem dX4_verdict_13 : decode cX4_verdict 13 = .ok (.iconst 2, 1) := by decide +kernel
theorem dX4_verdict_14 : decode cX4_verdict 14 = .ok (.iadd, 1) := by decide +kernel
theorem dX4_verdict_15 : decode cX4_verdict 15 = .ok (.iaload, 1) := by decide +kernel
theorem dX4_verdict_16 : decode cX4_verdict 16 = .ok (.ireturn, 1) := by decide +kernel
def aX4_verdict_0 (mc ms : Nat) (X : Nat → zV) (Q : zQt) : zT :=
  zla 0 <| zgR 4 5 <| zla 0 <| zgi 4 4 <| zc (.int 1) <| zii (fun x y => x - y) <| zc (.int 8) <| zii (fun x y => x * y) <| zc (.int 2) <| zii (fun x y => x + y) <| zal 1 <| zri Q
def lvX4_verdict : Nat → List Nat := fun L => match L with
  | 0 => [0]
  | _ => []
def wX4_verdict : zSp := fun mc ms av M Q => ((zlay av).length ≤ 1 ∧ zpick (zlay av) [0] = some av) ∧ ∀ X : Nat → zV, zin 1 [0] (aX4_verdict_0 mc ms X Q) X 0 → X 0 0 0 av [] M
set_option maxRecDepth 100000 in
set_option maxHeartbeats 4000000 in
theorem sX4_verdict (l : Launch) (G : zG) : zSnd l G yX4_verdict cX4_verdict 1 (some .int) 0 0 wX4_verdict := by
  refine zmk [0] (by decide) (fun mc ms av M Q h => h.1) ?_
  intro p e R s m args below meth c mc ms av M Q hC hRf hRl hr hnm h lv hlv
  obtain ⟨X, hXe⟩ : ∃ X : Nat → zV, X = fun L u v vs st M => ∀ lv, zpick lv (lvX4_verdict L) = some vs → zAt p l e R s m args below meth c (MQ below (zQ G Q) args s mc ms (zA G)) G 1 L u v lv st M := ⟨_, rfl⟩
  have hJ : ∀ L, zOk p l e R s m args below meth c (MQ below (zQ G Q) args s mc ms (zA G)) G 1 L (zj X L (lvX4_verdict L)) := fun L => S_jump (fun u v lv vs st M hp hx => by rw [hXe] at hx; exact hx lv hp)
  have hB0 : zin 1 [0] (aX4_verdict_0 mc ms X Q) X 0 := by
    intro u v vs st M hb
    rw [hXe]
    refine fun lv hp => S_block (L := 0) (live := [0]) ?_ u v lv vs st M hp hb
    unfold aX4_verdict_0
    refine S_aload_n (pc := 0) hC dX4_verdict_0 rfl ?_
    refine S_getR (pc := 1) hC cfX4 (by decide) (Or.inr ⟨_, rfl⟩) wd_328 dX4_verdict_1 ?_
    refine S_aload_n (pc := 4) hC dX4_verdict_4 rfl ?_
    refine S_geti (pc := 5) hC cfX4 (by decide) (Or.inl rfl) wd_326 dX4_verdict_5 ?_
    refine S_iconst (pc := 8) hC dX4_verdict_8 (by decide) ?_
    refine S_isub (pc := 9) hC dX4_verdict_9 ?_
    refine S_bipush (pc := 10) hC dX4_verdict_10 (by decide) ?_
    refine S_imul (pc := 12) hC dX4_verdict_12 ?_
    refine S_iconst (pc := 13) hC dX4_verdict_13 (by decide) ?_
    refine S_iadd (pc := 14) hC dX4_verdict_14 ?_
    refine S_iaload (pc := 15) hC dX4_verdict_15 ?_
    exact S_ireturn (pc := 16) hC hr dX4_verdict_16
  have := h.2 X hB0
  rw [hXe] at this
  exact this lv hlv
theorem vX4_verdict_0 {mc ms : Nat} {X : Nat → zV} {Q : zQt} {M : zM} {g : Nat}  (hW : zWd M g)  (h : vp_in (((((M.1 g 4) - (1 : Int32)) * (8 : Int32)) + (2 : Int32))) 4808 ∧ Q (some (.int (((M : zM).1 ((g + 8)) (((((M.1 g 4) - (1 : Int32)) * (8 : Int32)) + (2 : Int32)) : Int32).toNatClampNeg)))) M) : aX4_verdict_0 mc ms X Q 0 0 [some (.ref g)] [] M := ⟨(fgs_0 hW), (g + 8), (fgr_0_5 hW), ⟨(fgs_0 hW), ⟨4808, (fgs_8 hW), h.1, h.2⟩⟩⟩
theorem dX4_isOver_0 : decode cX4_isOver 0 = .ok (.aload_n 0, 1) := by decide +kernel
theorem dX4_isOver_1 : decode cX4_isOver 1 = .ok (.invokevirtual 118, 3) := by decide +kernel
theorem dX4_isOver_4 : decode cX4_isOver 4 = .ok (.istore_n 1, 1) := by decide +kernel
theorem dX4_isOver_5 : decode cX4_isOver 5 = .ok (.iload_n 1, 1) := by decide +kernel
theorem dX4_isOver_6 : decode cX4_isOver 6 = .ok (.iconst 1, 1) := by decide +kernel
theorem dX4_isOver_7 : decode cX4_isOver 7 = .ok (.if_icmp .lt 12, 3) := by decide +kernel
theorem dX4_isOver_10 : decode cX4_isOver 10 = .ok (.iload_n 1, 1) := by decide +kernel
theorem dX4_isOver_11 : decode cX4_isOver 11 = .ok (.iconst 5, 1) := by decide +kernel
theorem dX4_isOver_12 : decode cX4_isOver 12 = .ok (.if_icmp .gt 7, 3) := by decide +kernel
theorem dX4_isOver_15 : decode cX4_isOver 15 = .ok (.iconst 1, 1) := by decide +kernel
theorem dX4_isOver_16 : decode cX4_isOver 16 = .ok (.goto 4, 3) := by decide +kernel
theorem dX4_isOver_19 : decode cX4_isOver 19 = .ok (.iconst 0, 1) := by decide +kernel
theorem dX4_isOver_20 : decode cX4_isOver 20 = .ok (.ireturn, 1) := by decide +kernel
def kX4_isOver_4 (mc ms : Nat) (X : Nat → zV) (Q : zQt) : zT :=
  zsi 1 <| zli 1 <| zc (.int 1) <| zic (fun x y => x < y) (zj X 19 []) <| zli 1 <| zc (.int 5) <| zic (fun x y => y < x) (zj X 19 []) <| zc (.int 1) <| zj X 20 []
def aX4_isOver_0 (mc ms : Nat) (X : Nat → zV) (Q : zQt) : zT :=
  zla 0 <| zcv mc ms 4 0 wX4_verdict <| kX4_isOver_4 mc ms X Q
def aX4_isOver_19 (mc ms : Nat) (X : Nat → zV) (Q : zQt) : zT :=
  zc (.int 0) <| zj X 20 []
def aX4_isOver_20 (mc ms : Nat) (X : Nat → zV) (Q : zQt) : zT :=
  zrz .boolean Q
def lvX4_isOver : Nat → List Nat := fun L => match L with
  | 0 => [0]
  | 19 => []
  | 20 => []
  | _ => []
def wX4_isOver : zSp := fun mc ms av M Q => ((zlay av).length ≤ 2 ∧ zpick (zlay av) [0] = some av) ∧ ∀ X : Nat → zV, zin 2 [0] (aX4_isOver_0 mc ms X Q) X 0 → zin 2 [] (aX4_isOver_19 mc ms X Q) X 19 → zin 2 [] (aX4_isOver_20 mc ms X Q) X 20 → X 0 0 0 av [] M
set_option maxRecDepth 100000 in
set_option maxHeartbeats 4000000 in
theorem sX4_isOver (l : Launch) (G : zG) : zSnd l G yX4_isOver cX4_isOver 2 (some .boolean) 1 20 wX4_isOver := by
  refine zmk [0] (by decide) (fun mc ms av M Q h => h.1) ?_
  intro p e R s m args below meth c mc ms av M Q hC hRf hRl hr hnm h lv hlv
  obtain ⟨X, hXe⟩ : ∃ X : Nat → zV, X = fun L u v vs st M => ∀ lv, zpick lv (lvX4_isOver L) = some vs → zAt p l e R s m args below meth c (MQ below (zQ G Q) args s mc ms (zA G)) G 2 L u v lv st M := ⟨_, rfl⟩
  have hJ : ∀ L, zOk p l e R s m args below meth c (MQ below (zQ G Q) args s mc ms (zA G)) G 2 L (zj X L (lvX4_isOver L)) := fun L => S_jump (fun u v lv vs st M hp hx => by rw [hXe] at hx; exact hx lv hp)
  have hB0 : zin 2 [0] (aX4_isOver_0 mc ms X Q) X 0 := by
    intro u v vs st M hb
    rw [hXe]
    refine fun lv hp => S_block (L := 0) (live := [0]) ?_ u v lv vs st M hp hb
    unfold aX4_isOver_0
    refine S_aload_n (pc := 0) hC dX4_isOver_0 rfl ?_
    refine S_callV (pc := 1) hC (sX4_verdict l G) rfl wd_869 wd_590 wd_591 wd_9 wd_592 (by decide +kernel) ⟨by rw [hRf]; decide, by rw [hRl]; decide⟩ dX4_isOver_1 ?_
    unfold kX4_isOver_4
    refine S_istore_n (pc := 4) hC dX4_isOver_4 rfl (by decide) ?_
    refine S_iload_n (pc := 5) hC dX4_isOver_5 rfl ?_
    refine S_iconst (pc := 6) hC dX4_isOver_6 (by decide) ?_
    refine S_icmp_lt (pc := 7) (tgt := 19) hC dX4_isOver_7 (by decide) ?_ ?_
    · exact hJ 19
    · refine S_iload_n (pc := 10) hC dX4_isOver_10 rfl ?_
      refine S_iconst (pc := 11) hC dX4_isOver_11 (by decide) ?_
      refine S_icmp_gt (pc := 12) (tgt := 19) hC dX4_isOver_12 (by decide) ?_ ?_
      · exact hJ 19
      · refine S_iconst (pc := 15) hC dX4_isOver_15 (by decide) ?_
        refine S_goto (pc := 16) (tgt := 20) hC dX4_isOver_16 (by decide) ?_
        exact hJ 20
  have hB19 : zin 2 [] (aX4_isOver_19 mc ms X Q) X 19 := by
    intro u v vs st M hb
    rw [hXe]
    refine fun lv hp => S_block (L := 19) (live := []) ?_ u v lv vs st M hp hb
    unfold aX4_isOver_19
    refine S_iconst (pc := 19) hC dX4_isOver_19 (by decide) ?_
    exact hJ 20
  have hB20 : zin 2 [] (aX4_isOver_20 mc ms X Q) X 20 := by
    intro u v vs st M hb
    rw [hXe]
    refine fun lv hp => S_block (L := 20) (live := []) ?_ u v lv vs st M hp hb
    unfold aX4_isOver_20
    exact S_zreturn (pc := 20) hC hr dX4_isOver_20
  have := h.2 X hB0 hB19 hB20
  rw [hXe] at this
  exact this lv hlv
theorem vX4_isOver_0 {mc ms : Nat} {X : Nat → zV} {Q : zQt} {M : zM} {g : Nat}  (hW : zWd M g)  (h : wX4_verdict 0 0 [.ref g] M (fun r M1 => kX4_isOver_4 mc ms X Q 0 0 [some (.ref g), none] (r.toList ++ []) M1)) : aX4_isOver_0 mc ms X Q 0 0 [some (.ref g), none] [] M := ⟨Nat.le_of_ble_eq_true rfl, rfl, (fgs_0 hW), 0, 0, Nat.zero_le _, Nat.zero_le _, h⟩
theorem vX4_isOver_19 {mc ms : Nat} {X : Nat → zV} {Q : zQt} {M : zM} {g : Nat}  (hW : zWd M g)  (h : X 20 0 0 [] [.int 0] M) : aX4_isOver_19 mc ms X Q 0 0 [none, none] [] M := h
theorem vX4_isOver_20 {mc ms : Nat} {X : Nat → zV} {Q : zQt} {M : zM} {g : Nat} {s0 : Int32} (hW : zWd M g)  (h : narrow .boolean (.int s0) = .int s0 ∧ Q (some (.int s0)) M) : aX4_isOver_20 mc ms X Q 0 0 [none, none] [.int s0] M := h
theorem vkX4_isOver_4 {mc ms : Nat} {X : Nat → zV} {Q : zQt} {M : zM} {g : Nat} {s0 : Int32} (hW : zWd M g)  (h : (s0 < (1 : Int32) → X 19 0 0 [] [] M) ∧ (¬ s0 < (1 : Int32) → ((5 : Int32) < s0 → X 19 0 0 [] [] M) ∧ (¬ (5 : Int32) < s0 → X 20 0 0 [] [.int 1] M))) : kX4_isOver_4 mc ms X Q 0 0 [some (.ref g), none] [.int s0] M := ⟨fun c7 => (h.1 c7), fun c7 => ⟨fun c12 => ((h.2 c7).1 c12), fun c12 => ((h.2 c7).2 c12)⟩⟩
theorem dX4_isFull_0 : decode cX4_isFull 0 = .ok (.aload_n 0, 1) := by decide +kernel
theorem dX4_isFull_1 : decode cX4_isFull 1 = .ok (.getfield 40, 3) := by decide +kernel
theorem dX4_isFull_4 : decode cX4_isFull 4 = .ok (.sipush 600, 3) := by decide +kernel
theorem dX4_isFull_7 : decode cX4_isFull 7 = .ok (.if_icmp .le 7, 3) := by decide +kernel
theorem dX4_isFull_10 : decode cX4_isFull 10 = .ok (.iconst 1, 1) := by decide +kernel
theorem dX4_isFull_11 : decode cX4_isFull 11 = .ok (.goto 4, 3) := by decide +kernel
theorem dX4_isFull_14 : decode cX4_isFull 14 = .ok (.iconst 0, 1) := by decide +kernel
theorem dX4_isFull_15 : decode cX4_isFull 15 = .ok (.ireturn, 1) := by decide +kernel
def aX4_isFull_0 (mc ms : Nat) (X : Nat → zV) (Q : zQt) : zT :=
  zla 0 <| zgi 4 4 <| zc (.int 600) <| zic (fun x y => x ≤ y) (zc (.int 0) <| zj X 15 []) <| zc (.int 1) <| zj X 15 []
def aX4_isFull_15 (mc ms : Nat) (X : Nat → zV) (Q : zQt) : zT :=
  zrz .boolean Q
def lvX4_isFull : Nat → List Nat := fun L => match L with
  | 0 => [0]
  | 15 => []
  | _ => []
def wX4_isFull : zSp := fun mc ms av M Q => ((zlay av).length ≤ 1 ∧ zpick (zlay av) [0] = some av) ∧ ∀ X : Nat → zV, zin 1 [0] (aX4_isFull_0 mc ms X Q) X 0 → zin 1 [] (aX4_isFull_15 mc ms X Q) X 15 → X 0 0 0 av [] M
set_option maxRecDepth 100000 in
set_option maxHeartbeats 4000000 in
theorem sX4_isFull (l : Launch) (G : zG) : zSnd l G yX4_isFull cX4_isFull 1 (some .boolean) 0 0 wX4_isFull := by
  refine zmk [0] (by decide) (fun mc ms av M Q h => h.1) ?_
  intro p e R s m args below meth c mc ms av M Q hC hRf hRl hr hnm h lv hlv
  obtain ⟨X, hXe⟩ : ∃ X : Nat → zV, X = fun L u v vs st M => ∀ lv, zpick lv (lvX4_isFull L) = some vs → zAt p l e R s m args below meth c (MQ below (zQ G Q) args s mc ms (zA G)) G 1 L u v lv st M := ⟨_, rfl⟩
  have hJ : ∀ L, zOk p l e R s m args below meth c (MQ below (zQ G Q) args s mc ms (zA G)) G 1 L (zj X L (lvX4_isFull L)) := fun L => S_jump (fun u v lv vs st M hp hx => by rw [hXe] at hx; exact hx lv hp)
  have hB0 : zin 1 [0] (aX4_isFull_0 mc ms X Q) X 0 := by
    intro u v vs st M hb
    rw [hXe]
    refine fun lv hp => S_block (L := 0) (live := [0]) ?_ u v lv vs st M hp hb
    unfold aX4_isFull_0
    refine S_aload_n (pc := 0) hC dX4_isFull_0 rfl ?_
    refine S_geti (pc := 1) hC cfX4 (by decide) (Or.inl rfl) wd_326 dX4_isFull_1 ?_
    refine S_sipush (pc := 4) hC dX4_isFull_4 (by decide) ?_
    refine S_icmp_le (pc := 7) (tgt := 14) hC dX4_isFull_7 (by decide) ?_ ?_
    · refine S_iconst (pc := 14) hC dX4_isFull_14 (by decide) ?_
      exact hJ 15
    · refine S_iconst (pc := 10) hC dX4_isFull_10 (by decide) ?_
      refine S_goto (pc := 11) (tgt := 15) hC dX4_isFull_11 (by decide) ?_
      exact hJ 15
  have hB15 : zin 1 [] (aX4_isFull_15 mc ms X Q) X 15 := by
    intro u v vs st M hb
    rw [hXe]
    refine fun lv hp => S_block (L := 15) (live := []) ?_ u v lv vs st M hp hb
    unfold aX4_isFull_15
    exact S_zreturn (pc := 15) hC hr dX4_isFull_15
  have := h.2 X hB0 hB15
  rw [hXe] at this
  exact this lv hlv
theorem vX4_isFull_0 {mc ms : Nat} {X : Nat → zV} {Q : zQt} {M : zM} {g : Nat}  (hW : zWd M g)  (h : ((M.1 g 4) ≤ (600 : Int32) → X 15 0 0 [] [.int 0] M) ∧ (¬ (M.1 g 4) ≤ (600 : Int32) → X 15 0 0 [] [.int 1] M)) : aX4_isFull_0 mc ms X Q 0 0 [some (.ref g)] [] M := ⟨(fgs_0 hW), ⟨fun c7 => (h.1 c7), fun c7 => (h.2 c7)⟩⟩
theorem vX4_isFull_15 {mc ms : Nat} {X : Nat → zV} {Q : zQt} {M : zM} {g : Nat} {s0 : Int32} (hW : zWd M g)  (h : narrow .boolean (.int s0) = .int s0 ∧ Q (some (.int s0)) M) : aX4_isFull_15 mc ms X Q 0 0 [none] [.int s0] M := h
theorem dX4_different_0 : decode cX4_different 0 = .ok (.iconst 0, 1) := by decide +kernel
theorem dX4_different_1 : decode cX4_different 1 = .ok (.istore_n 1, 1) := by decide +kernel
theorem dX4_different_2 : decode cX4_different 2 = .ok (.iconst 0, 1) := by decide +kernel
theorem dX4_different_3 : decode cX4_different 3 = .ok (.istore_n 2, 1) := by decide +kernel
theorem dX4_different_4 : decode cX4_different 4 = .ok (.iload_n 2, 1) := by decide +kernel
theorem dX4_different_5 : decode cX4_different 5 = .ok (.aload_n 0, 1) := by decide +kernel
theorem dX4_different_6 : decode cX4_different 6 = .ok (.getfield 40, 3) := by decide +kernel
theorem dX4_different_9 : decode cX4_different 9 = .ok (.if_icmp .ge 27, 3) := by decide +kernel
theorem dX4_different_12 : decode cX4_different 12 = .ok (.aload_n 0, 1) := by decide +kernel
theorem dX4_different_13 : decode cX4_different 13 = .ok (.getfield 33, 3) := by decide +kernel
theorem dX4_different_16 : decode cX4_different 16 = .ok (.iload_n 2, 1) := by decide +kernel
theorem dX4_different_17 : decode cX4_different 17 = .ok (.bipush 8, 2) := by decide +kernel
theorem dX4_different_19 : decode cX4_different 19 = .ok (.imul, 1) := by decide +kernel
theorem dX4_different_20 : decode cX4_different 20 = .ok (.iconst 0, 1) := by decide +kernel
theorem dX4_different_21 : decode cX4_different 21 = .ok (.iadd, 1) := by decide +kernel
theorem dX4_different_22 : decode cX4_different 22 = .ok (.iaload, 1) := by decide +kernel
theorem dX4_different_23 : decode cX4_different 23 = .ok (.iconst 1, 1) := by decide +kernel
theorem dX4_different_24 : decode cX4_different 24 = .ok (.if_icmp .ne 6, 3) := by decide +kernel
theorem dX4_different_27 : decode cX4_different 27 = .ok (.iinc 1 1, 3) := by decide +kernel
theorem dX4_different_30 : decode cX4_different 30 = .ok (.iinc 2 1, 3) := by decide +kernel
theorem dX4_different_33 : decode cX4_different 33 = .ok (.goto (-29), 3) := by decide +kernel
theorem dX4_different_36 : decode cX4_different 36 = .ok (.iload_n 1, 1) := by decide +kernel
theorem dX4_different_37 : decode cX4_different 37 = .ok (.ireturn, 1) := by decide +kernel
def aX4_different_0 (mc ms : Nat) (X : Nat → zV) (Q : zQt) : zT :=
  zc (.int 0) <| zsi 1 <| zc (.int 0) <| zsi 2 <| zj X 4 [0, 1, 2]
def aX4_different_4 (mc ms : Nat) (X : Nat → zV) (Q : zQt) : zT :=
  zli 2 <| zla 0 <| zgi 4 4 <| zic (fun x y => y ≤ x) (zli 1 <| zri Q) <| zla 0 <| zgR 4 5 <| zli 2 <| zc (.int 8) <| zii (fun x y => x * y) <| zc (.int 0) <| zii (fun x y => x + y) <| zal 1 <| zc (.int 1) <| zic (fun x y => x = y) (zinc 1 1 <| zj X 30 [0, 1, 2]) <| zj X 30 [0, 1, 2]
def aX4_different_30 (mc ms : Nat) (X : Nat → zV) (Q : zQt) : zT :=
  zinc 2 1 <| zj X 4 [0, 1, 2]
def lvX4_different : Nat → List Nat := fun L => match L with
  | 0 => [0]
  | 4 => [0, 1, 2]
  | 30 => [0, 1, 2]
  | _ => []
def wX4_different : zSp := fun mc ms av M Q => ((zlay av).length ≤ 3 ∧ zpick (zlay av) [0] = some av) ∧ ∀ X : Nat → zV, zin 3 [0] (aX4_different_0 mc ms X Q) X 0 → zin 3 [0, 1, 2] (aX4_different_4 mc ms X Q) X 4 → zin 3 [0, 1, 2] (aX4_different_30 mc ms X Q) X 30 → X 0 0 0 av [] M
set_option maxRecDepth 100000 in
set_option maxHeartbeats 4000000 in
theorem sX4_different (l : Launch) (G : zG) : zSnd l G yX4_different cX4_different 3 (some .int) 0 0 wX4_different := by
  refine zmk [0] (by decide) (fun mc ms av M Q h => h.1) ?_
  intro p e R s m args below meth c mc ms av M Q hC hRf hRl hr hnm h lv hlv
  obtain ⟨X, hXe⟩ : ∃ X : Nat → zV, X = fun L u v vs st M => ∀ lv, zpick lv (lvX4_different L) = some vs → zAt p l e R s m args below meth c (MQ below (zQ G Q) args s mc ms (zA G)) G 3 L u v lv st M := ⟨_, rfl⟩
  have hJ : ∀ L, zOk p l e R s m args below meth c (MQ below (zQ G Q) args s mc ms (zA G)) G 3 L (zj X L (lvX4_different L)) := fun L => S_jump (fun u v lv vs st M hp hx => by rw [hXe] at hx; exact hx lv hp)
  have hB0 : zin 3 [0] (aX4_different_0 mc ms X Q) X 0 := by
    intro u v vs st M hb
    rw [hXe]
    refine fun lv hp => S_block (L := 0) (live := [0]) ?_ u v lv vs st M hp hb
    unfold aX4_different_0
    refine S_iconst (pc := 0) hC dX4_different_0 (by decide) ?_
    refine S_istore_n (pc := 1) hC dX4_different_1 rfl (by decide) ?_
    refine S_iconst (pc := 2) hC dX4_different_2 (by decide) ?_
    refine S_istore_n (pc := 3) hC dX4_different_3 rfl (by decide) ?_
    exact hJ 4
  have hB4 : zin 3 [0, 1, 2] (aX4_different_4 mc ms X Q) X 4 := by
    intro u v vs st M hb
    rw [hXe]
    refine fun lv hp => S_block (L := 4) (live := [0, 1, 2]) ?_ u v lv vs st M hp hb
    unfold aX4_different_4
    refine S_iload_n (pc := 4) hC dX4_different_4 rfl ?_
    refine S_aload_n (pc := 5) hC dX4_different_5 rfl ?_
    refine S_geti (pc := 6) hC cfX4 (by decide) (Or.inl rfl) wd_326 dX4_different_6 ?_
    refine S_icmp_ge (pc := 9) (tgt := 36) hC dX4_different_9 (by decide) ?_ ?_
    · refine S_iload_n (pc := 36) hC dX4_different_36 rfl ?_
      exact S_ireturn (pc := 37) hC hr dX4_different_37
    · refine S_aload_n (pc := 12) hC dX4_different_12 rfl ?_
      refine S_getR (pc := 13) hC cfX4 (by decide) (Or.inr ⟨_, rfl⟩) wd_328 dX4_different_13 ?_
      refine S_iload_n (pc := 16) hC dX4_different_16 rfl ?_
      refine S_bipush (pc := 17) hC dX4_different_17 (by decide) ?_
      refine S_imul (pc := 19) hC dX4_different_19 ?_
      refine S_iconst (pc := 20) hC dX4_different_20 (by decide) ?_
      refine S_iadd (pc := 21) hC dX4_different_21 ?_
      refine S_iaload (pc := 22) hC dX4_different_22 ?_
      refine S_iconst (pc := 23) hC dX4_different_23 (by decide) ?_
      refine S_icmp_ne (pc := 24) (tgt := 30) hC dX4_different_24 (by decide) ?_ ?_
      · exact hJ 30
      · refine S_iinc (pc := 27) hC dX4_different_27 (by decide) (by decide) ?_
        exact hJ 30
  have hB30 : zin 3 [0, 1, 2] (aX4_different_30 mc ms X Q) X 30 := by
    intro u v vs st M hb
    rw [hXe]
    refine fun lv hp => S_block (L := 30) (live := [0, 1, 2]) ?_ u v lv vs st M hp hb
    unfold aX4_different_30
    refine S_iinc (pc := 30) hC dX4_different_30 (by decide) (by decide) ?_
    refine S_goto (pc := 33) (tgt := 4) hC dX4_different_33 (by decide) ?_
    exact hJ 4
  have := h.2 X hB0 hB4 hB30
  rw [hXe] at this
  exact this lv hlv
theorem vX4_different_0 {mc ms : Nat} {X : Nat → zV} {Q : zQt} {M : zM} {g : Nat}  (hW : zWd M g)  (h : X 4 0 0 [.ref g, .int 0, .int 0] [] M) : aX4_different_0 mc ms X Q 0 0 [some (.ref g), none, none] [] M := h
theorem vX4_different_4 {mc ms : Nat} {X : Nat → zV} {Q : zQt} {M : zM} {g : Nat} {x1 : Int32} {x2 : Int32} (hW : zWd M g)  (h : ((M.1 g 4) ≤ x2 → Q (some (.int x1)) M) ∧ (¬ (M.1 g 4) ≤ x2 → vp_in (((x2 * (8 : Int32)) + (0 : Int32))) 4808 ∧ (((M : zM).1 ((g + 8)) (((x2 * (8 : Int32)) + (0 : Int32)) : Int32).toNatClampNeg) = (1 : Int32) → X 30 0 0 [.ref g, .int (x1 + 1), .int x2] [] M) ∧ (¬ ((M : zM).1 ((g + 8)) (((x2 * (8 : Int32)) + (0 : Int32)) : Int32).toNatClampNeg) = (1 : Int32) → X 30 0 0 [.ref g, .int x1, .int x2] [] M))) : aX4_different_4 mc ms X Q 0 0 [some (.ref g), some (.int x1), some (.int x2)] [] M := ⟨(fgs_0 hW), ⟨fun c9 => (h.1 c9), fun c9 => ⟨(fgs_0 hW), (g + 8), (fgr_0_5 hW), ⟨4808, (fgs_8 hW), (h.2 c9).1, ⟨fun c24 => ((h.2 c9).2.1 c24), fun c24 => ((h.2 c9).2.2 c24)⟩⟩⟩⟩⟩
theorem vX4_different_30 {mc ms : Nat} {X : Nat → zV} {Q : zQt} {M : zM} {g : Nat} {x1 : Int32} {x2 : Int32} (hW : zWd M g)  (h : X 4 0 0 [.ref g, .int x1, .int (x2 + 1)] [] M) : aX4_different_30 mc ms X Q 0 0 [some (.ref g), some (.int x1), some (.int x2)] [] M := h
theorem dX4_greatestCount_0 : decode cX4_greatestCount 0 = .ok (.iconst 0, 1) := by decide +kernel
theorem dX4_greatestCount_1 : decode cX4_greatestCount 1 = .ok (.istore_n 1, 1) := by decide +kernel
theorem dX4_greatestCount_2 : decode cX4_greatestCount 2 = .ok (.iconst 0, 1) := by decide +kernel
theorem dX4_greatestCount_3 : decode cX4_greatestCount 3 = .ok (.istore_n 2, 1) := by decide +kernel
theorem dX4_greatestCount_4 : decode cX4_greatestCount 4 = .ok (.iload_n 2, 1) := by decide +kernel
theorem dX4_greatestCount_5 : decode cX4_greatestCount 5 = .ok (.aload_n 0, 1) := by decide +kernel
theorem dX4_greatestCount_6 : decode cX4_greatestCount 6 = .ok (.getfield 40, 3) := by decide +kernel
theorem dX4_greatestCount_9 : decode cX4_greatestCount 9 = .ok (.if_icmp .ge 25, 3) := by decide +kernel
theorem dX4_greatestCount_12 : decode cX4_greatestCount 12 = .ok (.iload_n 1, 1) := by decide +kernel
theorem dX4_greatestCount_13 : decode cX4_greatestCount 13 = .ok (.aload_n 0, 1) := by decide +kernel
theorem dX4_greatestCount_14 : decode cX4_greatestCount 14 = .ok (.getfield 33, 3) := by decide +kernel
theorem dX4_greatestCount_17 : decode cX4_greatestCount 17 = .ok (.iload_n 2, 1) := by decide +kernel
theorem dX4_greatestCount_18 : decode cX4_greatestCount 18 = .ok (.bipush 8, 2) := by decide +kernel
theorem dX4_greatestCount_20 : decode cX4_greatestCount 20 = .ok (.imul, 1) := by decide +kernel
theorem dX4_greatestCount_21 : decode cX4_greatestCount 21 = .ok (.iconst 0, 1) := by decide +kernel
theorem dX4_greatestCount_22 : decode cX4_greatestCount 22 = .ok (.iadd, 1) := by decide +kernel
theorem dX4_greatestCount_23 : decode cX4_greatestCount 23 = .ok (.iaload, 1) := by decide +kernel
theorem dX4_greatestCount_24 : decode cX4_greatestCount 24 = .ok (.invokestatic 95, 3) := by decide +kernel
theorem dX4_greatestCount_27 : decode cX4_greatestCount 27 = .ok (.istore_n 1, 1) := by decide +kernel
theorem dX4_greatestCount_28 : decode cX4_greatestCount 28 = .ok (.iinc 2 1, 3) := by decide +kernel
theorem dX4_greatestCount_31 : decode cX4_greatestCount 31 = .ok (.goto (-27), 3) := by decide +kernel
theorem dX4_greatestCount_34 : decode cX4_greatestCount 34 = .ok (.iload_n 1, 1) := by decide +kernel
theorem dX4_greatestCount_35 : decode cX4_greatestCount 35 = .ok (.ireturn, 1) := by decide +kernel
def kX4_greatestCount_28 (mc ms : Nat) (X : Nat → zV) (Q : zQt) : zT :=
  zinc 2 1 <| zj X 4 [0, 1, 2]
def aX4_greatestCount_0 (mc ms : Nat) (X : Nat → zV) (Q : zQt) : zT :=
  zc (.int 0) <| zsi 1 <| zc (.int 0) <| zsi 2 <| zj X 4 [0, 1, 2]
def aX4_greatestCount_4 (mc ms : Nat) (X : Nat → zV) (Q : zQt) : zT :=
  zli 2 <| zla 0 <| zgi 4 4 <| zic (fun x y => y ≤ x) (zli 1 <| zri Q) <| zli 1 <| zla 0 <| zgR 4 5 <| zli 2 <| zc (.int 8) <| zii (fun x y => x * y) <| zc (.int 0) <| zii (fun x y => x + y) <| zal 1 <| zmx <| zsiN 1 <| kX4_greatestCount_28 mc ms X Q
def lvX4_greatestCount : Nat → List Nat := fun L => match L with
  | 0 => [0]
  | 4 => [0, 1, 2]
  | _ => []
def wX4_greatestCount : zSp := fun mc ms av M Q => ((zlay av).length ≤ 3 ∧ zpick (zlay av) [0] = some av) ∧ ∀ X : Nat → zV, zin 3 [0] (aX4_greatestCount_0 mc ms X Q) X 0 → zin 3 [0, 1, 2] (aX4_greatestCount_4 mc ms X Q) X 4 → X 0 0 0 av [] M
set_option maxRecDepth 100000 in
set_option maxHeartbeats 4000000 in
theorem sX4_greatestCount (l : Launch) (G : zG) : zSnd l G yX4_greatestCount cX4_greatestCount 3 (some .int) 1 21 wX4_greatestCount := by
  refine zmk [0] (by decide) (fun mc ms av M Q h => h.1) ?_
  intro p e R s m args below meth c mc ms av M Q hC hRf hRl hr hnm h lv hlv
  obtain ⟨X, hXe⟩ : ∃ X : Nat → zV, X = fun L u v vs st M => ∀ lv, zpick lv (lvX4_greatestCount L) = some vs → zAt p l e R s m args below meth c (MQ below (zQ G Q) args s mc ms (zA G)) G 3 L u v lv st M := ⟨_, rfl⟩
  have hJ : ∀ L, zOk p l e R s m args below meth c (MQ below (zQ G Q) args s mc ms (zA G)) G 3 L (zj X L (lvX4_greatestCount L)) := fun L => S_jump (fun u v lv vs st M hp hx => by rw [hXe] at hx; exact hx lv hp)
  have hB0 : zin 3 [0] (aX4_greatestCount_0 mc ms X Q) X 0 := by
    intro u v vs st M hb
    rw [hXe]
    refine fun lv hp => S_block (L := 0) (live := [0]) ?_ u v lv vs st M hp hb
    unfold aX4_greatestCount_0
    refine S_iconst (pc := 0) hC dX4_greatestCount_0 (by decide) ?_
    refine S_istore_n (pc := 1) hC dX4_greatestCount_1 rfl (by decide) ?_
    refine S_iconst (pc := 2) hC dX4_greatestCount_2 (by decide) ?_
    refine S_istore_n (pc := 3) hC dX4_greatestCount_3 rfl (by decide) ?_
    exact hJ 4
  have hB4 : zin 3 [0, 1, 2] (aX4_greatestCount_4 mc ms X Q) X 4 := by
    intro u v vs st M hb
    rw [hXe]
    refine fun lv hp => S_block (L := 4) (live := [0, 1, 2]) ?_ u v lv vs st M hp hb
    unfold aX4_greatestCount_4
    refine S_iload_n (pc := 4) hC dX4_greatestCount_4 rfl ?_
    refine S_aload_n (pc := 5) hC dX4_greatestCount_5 rfl ?_
    refine S_geti (pc := 6) hC cfX4 (by decide) (Or.inl rfl) wd_326 dX4_greatestCount_6 ?_
    refine S_icmp_ge (pc := 9) (tgt := 34) hC dX4_greatestCount_9 (by decide) ?_ ?_
    · refine S_iload_n (pc := 34) hC dX4_greatestCount_34 rfl ?_
      exact S_ireturn (pc := 35) hC hr dX4_greatestCount_35
    · refine S_iload_n (pc := 12) hC dX4_greatestCount_12 rfl ?_
      refine S_aload_n (pc := 13) hC dX4_greatestCount_13 rfl ?_
      refine S_getR (pc := 14) hC cfX4 (by decide) (Or.inr ⟨_, rfl⟩) wd_328 dX4_greatestCount_14 ?_
      refine S_iload_n (pc := 17) hC dX4_greatestCount_17 rfl ?_
      refine S_bipush (pc := 18) hC dX4_greatestCount_18 (by decide) ?_
      refine S_imul (pc := 20) hC dX4_greatestCount_20 ?_
      refine S_iconst (pc := 21) hC dX4_greatestCount_21 (by decide) ?_
      refine S_iadd (pc := 22) hC dX4_greatestCount_22 ?_
      refine S_iaload (pc := 23) hC dX4_greatestCount_23 ?_
      refine S_max (pc := 24) hC wd_582 wd_583 wd_21 wd_584 (by rw [hRf]; decide) (by rw [hRl]; decide) dX4_greatestCount_24 ?_
      refine S_istore_n_N (pc := 27) hC dX4_greatestCount_27 rfl (by decide) ?_
      unfold kX4_greatestCount_28
      refine S_iinc (pc := 28) hC dX4_greatestCount_28 (by decide) (by decide) ?_
      refine S_goto (pc := 31) (tgt := 4) hC dX4_greatestCount_31 (by decide) ?_
      exact hJ 4
  have := h.2 X hB0 hB4
  rw [hXe] at this
  exact this lv hlv
theorem vX4_greatestCount_0 {mc ms : Nat} {X : Nat → zV} {Q : zQt} {M : zM} {g : Nat}  (hW : zWd M g)  (h : X 4 0 0 [.ref g, .int 0, .int 0] [] M) : aX4_greatestCount_0 mc ms X Q 0 0 [some (.ref g), none, none] [] M := h
theorem vcX4_greatestCount_28 {mc ms : Nat} {X : Nat → zV} {Q : zQt} {M : zM} {g : Nat} {x1 : Int32} {x2 : Int32} (hW : zWd M g)  (h : X 4 0 0 [.ref g, .int x1, .int (x2 + 1)] [] M) : kX4_greatestCount_28 mc ms X Q 0 0 [some (.ref g), some (.int x1), some (.int x2)] [] M := h
theorem vX4_greatestCount_4 {mc ms : Nat} {X : Nat → zV} {Q : zQt} {M : zM} {g : Nat} {x1 : Int32} {x2 : Int32} (hW : zWd M g)  (h : ((M.1 g 4) ≤ x2 → Q (some (.int x1)) M) ∧ (¬ (M.1 g 4) ≤ x2 → vp_in (((x2 * (8 : Int32)) + (0 : Int32))) 4808 ∧ ∀ y27 : Int32, y27 = (if x1 < ((M : zM).1 ((g + 8)) (((x2 * (8 : Int32)) + (0 : Int32)) : Int32).toNatClampNeg) then ((M : zM).1 ((g + 8)) (((x2 * (8 : Int32)) + (0 : Int32)) : Int32).toNatClampNeg) else x1) → X 4 0 0 [.ref g, .int y27, .int (x2 + 1)] [] M)) : aX4_greatestCount_4 mc ms X Q 0 0 [some (.ref g), some (.int x1), some (.int x2)] [] M := ⟨(fgs_0 hW), ⟨fun c9 => (h.1 c9), fun c9 => ⟨(fgs_0 hW), (g + 8), (fgr_0_5 hW), ⟨4808, (fgs_8 hW), (h.2 c9).1, ⟨Nat.le_of_ble_eq_true rfl, (fun y27 e27 => have h27 := (h.2 c9).2 y27 e27; (vcX4_greatestCount_28 hW  h27))⟩⟩⟩⟩⟩
theorem dX5_init_0 : decode cX5_init 0 = .ok (.aload_n 0, 1) := by decide +kernel
theorem dX5_init_1 : decode cX5_init 1 = .ok (.invokespecial 3, 3) := by decide +kernel
theorem dX5_init_4 : decode cX5_init 4 = .ok (.aload_n 0, 1) := by decide +kernel
theorem dX5_init_5 : decode cX5_init 5 = .ok (.aload_n 1, 1) := by decide +kernel
theorem dX5_init_6 : decode cX5_init 6 = .ok (.putfield 9, 3) := by decide +kernel
theorem dX5_init_9 : decode cX5_init 9 = .ok (.aload_n 0, 1) := by decide +kernel
theorem dX5_init_10 : decode cX5_init 10 = .ok (.aload_n 2, 1) := by decide +kernel
theorem dX5_init_11 : decode cX5_init 11 = .ok (.putfield 15, 3) := by decide +kernel
theorem dX5_init_14 : decode cX5_init 14 = .ok (.return_, 1) := by decide +kernel
def aX5_init_0 (mc ms : Nat) (X : Nat → zV) (Q : zQt) : zT :=
  zla 0 <| zoi <| zla 0 <| zla 1 <| zpr 5 0 <| zla 0 <| zla 2 <| zpr 5 1 <| zrv Q
def lvX5_init : Nat → List Nat := fun L => match L with
  | 0 => [0, 1, 2]
  | _ => []
def wX5_init : zSp := fun mc ms av M Q => ((zlay av).length ≤ 3 ∧ zpick (zlay av) [0, 1, 2] = some av) ∧ ∀ X : Nat → zV, zin 3 [0, 1, 2] (aX5_init_0 mc ms X Q) X 0 → X 0 0 0 av [] M
set_option maxRecDepth 100000 in
set_option maxHeartbeats 4000000 in
theorem sX5_init (l : Launch) (G : zG) : zSnd l G yX5_init cX5_init 3 none 1 20 wX5_init := by
  refine zmk [0, 1, 2] (by decide) (fun mc ms av M Q h => h.1) ?_
  intro p e R s m args below meth c mc ms av M Q hC hRf hRl hr hnm h lv hlv
  obtain ⟨X, hXe⟩ : ∃ X : Nat → zV, X = fun L u v vs st M => ∀ lv, zpick lv (lvX5_init L) = some vs → zAt p l e R s m args below meth c (MQ below (zQ G Q) args s mc ms (zA G)) G 3 L u v lv st M := ⟨_, rfl⟩
  have hJ : ∀ L, zOk p l e R s m args below meth c (MQ below (zQ G Q) args s mc ms (zA G)) G 3 L (zj X L (lvX5_init L)) := fun L => S_jump (fun u v lv vs st M hp hx => by rw [hXe] at hx; exact hx lv hp)
  have hB0 : zin 3 [0, 1, 2] (aX5_init_0 mc ms X Q) X 0 := by
    intro u v vs st M hb
    rw [hXe]
    refine fun lv hp => S_block (L := 0) (live := [0, 1, 2]) ?_ u v lv vs st M hp hb
    unfold aX5_init_0
    refine S_aload_n (pc := 0) hC dX5_init_0 rfl ?_
    refine S_objInit (pc := 1) hC wd_293 wd_35 wd_36 (by rw [hRf]; decide) (by rw [hRl]; decide) dX5_init_1 ?_
    refine S_aload_n (pc := 4) hC dX5_init_4 rfl ?_
    refine S_aload_n (pc := 5) hC dX5_init_5 rfl ?_
    refine S_putr (pc := 6) hC cfX5 (by decide) (Or.inl ⟨_, rfl⟩) (Or.inr ⟨rfl, hnm, rfl⟩) wd_294 dX5_init_6 ?_
    refine S_aload_n (pc := 9) hC dX5_init_9 rfl ?_
    refine S_aload_n (pc := 10) hC dX5_init_10 rfl ?_
    refine S_putr (pc := 11) hC cfX5 (by decide) (Or.inl ⟨_, rfl⟩) (Or.inr ⟨rfl, hnm, rfl⟩) wd_295 dX5_init_11 ?_
    exact S_vreturn (pc := 14) hC hr dX5_init_14
  have := h.2 X hB0
  rw [hXe] at this
  exact this lv hlv
theorem dX5_passedSquare_0 : decode cX5_passedSquare 0 = .ok (.aload_n 0, 1) := by decide +kernel
theorem dX5_passedSquare_1 : decode cX5_passedSquare 1 = .ok (.getfield 9, 3) := by decide +kernel
theorem dX5_passedSquare_4 : decode cX5_passedSquare 4 = .ok (.getfield 85, 3) := by decide +kernel
theorem dX5_passedSquare_7 : decode cX5_passedSquare 7 = .ok (.iconst (-1), 1) := by decide +kernel
theorem dX5_passedSquare_8 : decode cX5_passedSquare 8 = .ok (.if_icmp .ne 5, 3) := by decide +kernel
theorem dX5_passedSquare_11 : decode cX5_passedSquare 11 = .ok (.lconst 0, 1) := by decide +kernel
theorem dX5_passedSquare_12 : decode cX5_passedSquare 12 = .ok (.lreturn, 1) := by decide +kernel
theorem dX5_passedSquare_13 : decode cX5_passedSquare 13 = .ok (.aload_n 0, 1) := by decide +kernel
theorem dX5_passedSquare_14 : decode cX5_passedSquare 14 = .ok (.getfield 9, 3) := by decide +kernel
theorem dX5_passedSquare_17 : decode cX5_passedSquare 17 = .ok (.getfield 28, 3) := by decide +kernel
theorem dX5_passedSquare_20 : decode cX5_passedSquare 20 = .ok (.ifCond .ne 8, 3) := by decide +kernel
theorem dX5_passedSquare_23 : decode cX5_passedSquare 23 = .ok (.bipush 40, 2) := by decide +kernel
theorem dX5_passedSquare_25 : decode cX5_passedSquare 25 = .ok (.goto 5, 3) := by decide +kernel
theorem dX5_passedSquare_28 : decode cX5_passedSquare 28 = .ok (.bipush 16, 2) := by decide +kernel
theorem dX5_passedSquare_30 : decode cX5_passedSquare 30 = .ok (.aload_n 0, 1) := by decide +kernel
theorem dX5_passedSquare_31 : decode cX5_passedSquare 31 = .ok (.getfield 9, 3) := by decide +kernel
theorem dX5_passedSquare_34 : decode cX5_passedSquare 34 = .ok (.getfield 85, 3) := by decide +kernel
theorem dX5_passedSquare_37 : decode cX5_passedSquare 37 = .ok (.iadd, 1) := by decide +kernel
theorem dX5_passedSquare_38 : decode cX5_passedSquare 38 = .ok (.istore_n 1, 1) := by decide +kernel
theorem dX5_passedSquare_39 : decode cX5_passedSquare 39 = .ok (.aload_n 0, 1) := by decide +kernel
theorem dX5_passedSquare_40 : decode cX5_passedSquare 40 = .ok (.getfield 9, 3) := by decide +kernel
theorem dX5_passedSquare_43 : decode cX5_passedSquare 43 = .ok (.getfield 45, 3) := by decide +kernel
theorem dX5_passedSquare_46 : decode cX5_passedSquare 46 = .ok (.iload_n 1, 1) := by decide +kernel
theorem dX5_passedSquare_47 : decode cX5_passedSquare 47 = .ok (.iaload, 1) := by decide +kernel
theorem dX5_passedSquare_48 : decode cX5_passedSquare 48 = .ok (.ifCond .ne 36, 3) := by decide +kernel
theorem dX5_passedSquare_51 : decode cX5_passedSquare 51 = .ok (.aload_n 0, 1) := by decide +kernel
theorem dX5_passedSquare_52 : decode cX5_passedSquare 52 = .ok (.getfield 9, 3) := by decide +kernel
theorem dX5_passedSquare_55 : decode cX5_passedSquare 55 = .ok (.getfield 45, 3) := by decide +kernel
theorem dX5_passedSquare_58 : decode cX5_passedSquare 58 = .ok (.iload_n 1, 1) := by decide +kernel
theorem dX5_passedSquare_59 : decode cX5_passedSquare 59 = .ok (.bipush 8, 2) := by decide +kernel
theorem dX5_passedSquare_61 : decode cX5_passedSquare 61 = .ok (.ixor, 1) := by decide +kernel
theorem dX5_passedSquare_62 : decode cX5_passedSquare 62 = .ok (.iaload, 1) := by decide +kernel
theorem dX5_passedSquare_63 : decode cX5_passedSquare 63 = .ok (.iconst 1, 1) := by decide +kernel
theorem dX5_passedSquare_64 : decode cX5_passedSquare 64 = .ok (.bipush 6, 2) := by decide +kernel
theorem dX5_passedSquare_66 : decode cX5_passedSquare 66 = .ok (.iconst 1, 1) := by decide +kernel
theorem dX5_passedSquare_67 : decode cX5_passedSquare 67 = .ok (.aload_n 0, 1) := by decide +kernel
theorem dX5_passedSquare_68 : decode cX5_passedSquare 68 = .ok (.getfield 9, 3) := by decide +kernel
theorem dX5_passedSquare_71 : decode cX5_passedSquare 71 = .ok (.getfield 28, 3) := by decide +kernel
theorem dX5_passedSquare_74 : decode cX5_passedSquare 74 = .ok (.isub, 1) := by decide +kernel
theorem dX5_passedSquare_75 : decode cX5_passedSquare 75 = .ok (.imul, 1) := by decide +kernel
theorem dX5_passedSquare_76 : decode cX5_passedSquare 76 = .ok (.iadd, 1) := by decide +kernel
theorem dX5_passedSquare_77 : decode cX5_passedSquare 77 = .ok (.if_icmp .ne 7, 3) := by decide +kernel
theorem dX5_passedSquare_80 : decode cX5_passedSquare 80 = .ok (.iconst 1, 1) := by decide +kernel
theorem dX5_passedSquare_81 : decode cX5_passedSquare 81 = .ok (.goto 4, 3) := by decide +kernel
theorem dX5_passedSquare_84 : decode cX5_passedSquare 84 = .ok (.iconst 0, 1) := by decide +kernel
theorem dX5_passedSquare_85 : decode cX5_passedSquare 85 = .ok (.istore_n 2, 1) := by decide +kernel
theorem dX5_passedSquare_86 : decode cX5_passedSquare 86 = .ok (.iload_n 2, 1) := by decide +kernel
theorem dX5_passedSquare_87 : decode cX5_passedSquare 87 = .ok (.ifCond .eq 9, 3) := by decide +kernel
theorem dX5_passedSquare_90 : decode cX5_passedSquare 90 = .ok (.lconst 1, 1) := by decide +kernel
theorem dX5_passedSquare_91 : decode cX5_passedSquare 91 = .ok (.iload_n 1, 1) := by decide +kernel
theorem dX5_passedSquare_92 : decode cX5_passedSquare 92 = .ok (.lshl, 1) := by decide +kernel
theorem dX5_passedSquare_93 : decode cX5_passedSquare 93 = .ok (.goto 4, 3) := by decide +kernel
theorem dX5_passedSquare_96 : decode cX5_passedSquare 96 = .ok (.lconst 0, 1) := by decide +kernel
theorem dX5_passedSquare_97 : decode cX5_passedSquare 97 = .ok (.lreturn, 1) := by decide +kernel
def aX5_passedSquare_0 (mc ms : Nat) (X : Nat → zV) (Q : zQt) : zT :=
  zla 0 <| zgR 5 0 <| zgi 0 6 <| zc (.int (-1)) <| zic (fun x y => x = y) (zc (.long 0) <| zrl Q) <| zla 0 <| zgR 5 0 <| zgi 0 4 <| zif (fun x => x = 0) (zc (.int 40) <| zj X 30 [0]) <| zc (.int 16) <| zj X 30 [0]
def aX5_passedSquare_30 (mc ms : Nat) (X : Nat → zV) (Q : zQt) : zT :=
  zla 0 <| zgR 5 0 <| zgi 0 6 <| zii (fun x y => x + y) <| zsi 1 <| zla 0 <| zgR 5 0 <| zgR 0 1 <| zli 1 <| zal 1 <| zif (fun x => x = 0) (zla 0 <| zgR 5 0 <| zgR 0 1 <| zli 1 <| zc (.int 8) <| zii (fun x y => x ^^^ y) <| zal 1 <| zc (.int 1) <| zc (.int 6) <| zc (.int 1) <| zla 0 <| zgR 5 0 <| zgi 0 4 <| zii (fun x y => x - y) <| zii (fun x y => x * y) <| zii (fun x y => x + y) <| zic (fun x y => x = y) (zc (.int 1) <| zj X 85 [1]) <| zj X 84 [1]) <| zj X 84 [1]
def aX5_passedSquare_84 (mc ms : Nat) (X : Nat → zV) (Q : zQt) : zT :=
  zc (.int 0) <| zj X 85 [1]
def aX5_passedSquare_85 (mc ms : Nat) (X : Nat → zV) (Q : zQt) : zT :=
  zsi 2 <| zli 2 <| zif (fun x => x = 0) (zc (.long 0) <| zj X 97 []) <| zc (.long 1) <| zli 1 <| zji (fun x y => x <<< (y.toInt64 &&& 63)) <| zj X 97 []
def aX5_passedSquare_97 (mc ms : Nat) (X : Nat → zV) (Q : zQt) : zT :=
  zrl Q
def lvX5_passedSquare : Nat → List Nat := fun L => match L with
  | 0 => [0]
  | 30 => [0]
  | 84 => [1]
  | 85 => [1]
  | 97 => []
  | _ => []
def wX5_passedSquare : zSp := fun mc ms av M Q => ((zlay av).length ≤ 3 ∧ zpick (zlay av) [0] = some av) ∧ ∀ X : Nat → zV, zin 3 [0] (aX5_passedSquare_0 mc ms X Q) X 0 → zin 3 [0] (aX5_passedSquare_30 mc ms X Q) X 30 → zin 3 [1] (aX5_passedSquare_84 mc ms X Q) X 84 → zin 3 [1] (aX5_passedSquare_85 mc ms X Q) X 85 → zin 3 [] (aX5_passedSquare_97 mc ms X Q) X 97 → X 0 0 0 av [] M
set_option maxRecDepth 100000 in
set_option maxHeartbeats 4000000 in
theorem sX5_passedSquare (l : Launch) (G : zG) : zSnd l G yX5_passedSquare cX5_passedSquare 3 (some .long) 0 0 wX5_passedSquare := by
  refine zmk [0] (by decide) (fun mc ms av M Q h => h.1) ?_
  intro p e R s m args below meth c mc ms av M Q hC hRf hRl hr hnm h lv hlv
  obtain ⟨X, hXe⟩ : ∃ X : Nat → zV, X = fun L u v vs st M => ∀ lv, zpick lv (lvX5_passedSquare L) = some vs → zAt p l e R s m args below meth c (MQ below (zQ G Q) args s mc ms (zA G)) G 3 L u v lv st M := ⟨_, rfl⟩
  have hJ : ∀ L, zOk p l e R s m args below meth c (MQ below (zQ G Q) args s mc ms (zA G)) G 3 L (zj X L (lvX5_passedSquare L)) := fun L => S_jump (fun u v lv vs st M hp hx => by rw [hXe] at hx; exact hx lv hp)
  have hB0 : zin 3 [0] (aX5_passedSquare_0 mc ms X Q) X 0 := by
    intro u v vs st M hb
    rw [hXe]
    refine fun lv hp => S_block (L := 0) (live := [0]) ?_ u v lv vs st M hp hb
    unfold aX5_passedSquare_0
    refine S_aload_n (pc := 0) hC dX5_passedSquare_0 rfl ?_
    refine S_getR (pc := 1) hC cfX5 (by decide) (Or.inl ⟨_, rfl⟩) wd_294 dX5_passedSquare_1 ?_
    refine S_geti (pc := 4) hC cfX0 (by decide) (Or.inl rfl) wd_245 dX5_passedSquare_4 ?_
    refine S_iconst (pc := 7) hC dX5_passedSquare_7 (by decide) ?_
    refine S_icmp_ne (pc := 8) (tgt := 13) hC dX5_passedSquare_8 (by decide) ?_ ?_
    · refine S_aload_n (pc := 13) hC dX5_passedSquare_13 rfl ?_
      refine S_getR (pc := 14) hC cfX5 (by decide) (Or.inl ⟨_, rfl⟩) wd_294 dX5_passedSquare_14 ?_
      refine S_geti (pc := 17) hC cfX0 (by decide) (Or.inl rfl) wd_228 dX5_passedSquare_17 ?_
      refine S_if_ne (pc := 20) (tgt := 28) hC dX5_passedSquare_20 (by decide) ?_ ?_
      · refine S_bipush (pc := 28) hC dX5_passedSquare_28 (by decide) ?_
        exact hJ 30
      · refine S_bipush (pc := 23) hC dX5_passedSquare_23 (by decide) ?_
        refine S_goto (pc := 25) (tgt := 30) hC dX5_passedSquare_25 (by decide) ?_
        exact hJ 30
    · refine S_lconst (pc := 11) hC dX5_passedSquare_11 (by decide) ?_
      exact S_lreturn (pc := 12) hC hr dX5_passedSquare_12
  have hB30 : zin 3 [0] (aX5_passedSquare_30 mc ms X Q) X 30 := by
    intro u v vs st M hb
    rw [hXe]
    refine fun lv hp => S_block (L := 30) (live := [0]) ?_ u v lv vs st M hp hb
    unfold aX5_passedSquare_30
    refine S_aload_n (pc := 30) hC dX5_passedSquare_30 rfl ?_
    refine S_getR (pc := 31) hC cfX5 (by decide) (Or.inl ⟨_, rfl⟩) wd_294 dX5_passedSquare_31 ?_
    refine S_geti (pc := 34) hC cfX0 (by decide) (Or.inl rfl) wd_245 dX5_passedSquare_34 ?_
    refine S_iadd (pc := 37) hC dX5_passedSquare_37 ?_
    refine S_istore_n (pc := 38) hC dX5_passedSquare_38 rfl (by decide) ?_
    refine S_aload_n (pc := 39) hC dX5_passedSquare_39 rfl ?_
    refine S_getR (pc := 40) hC cfX5 (by decide) (Or.inl ⟨_, rfl⟩) wd_294 dX5_passedSquare_40 ?_
    refine S_getR (pc := 43) hC cfX0 (by decide) (Or.inr ⟨_, rfl⟩) wd_215 dX5_passedSquare_43 ?_
    refine S_iload_n (pc := 46) hC dX5_passedSquare_46 rfl ?_
    refine S_iaload (pc := 47) hC dX5_passedSquare_47 ?_
    refine S_if_ne (pc := 48) (tgt := 84) hC dX5_passedSquare_48 (by decide) ?_ ?_
    · exact hJ 84
    · refine S_aload_n (pc := 51) hC dX5_passedSquare_51 rfl ?_
      refine S_getR (pc := 52) hC cfX5 (by decide) (Or.inl ⟨_, rfl⟩) wd_294 dX5_passedSquare_52 ?_
      refine S_getR (pc := 55) hC cfX0 (by decide) (Or.inr ⟨_, rfl⟩) wd_215 dX5_passedSquare_55 ?_
      refine S_iload_n (pc := 58) hC dX5_passedSquare_58 rfl ?_
      refine S_bipush (pc := 59) hC dX5_passedSquare_59 (by decide) ?_
      refine S_ixor (pc := 61) hC dX5_passedSquare_61 ?_
      refine S_iaload (pc := 62) hC dX5_passedSquare_62 ?_
      refine S_iconst (pc := 63) hC dX5_passedSquare_63 (by decide) ?_
      refine S_bipush (pc := 64) hC dX5_passedSquare_64 (by decide) ?_
      refine S_iconst (pc := 66) hC dX5_passedSquare_66 (by decide) ?_
      refine S_aload_n (pc := 67) hC dX5_passedSquare_67 rfl ?_
      refine S_getR (pc := 68) hC cfX5 (by decide) (Or.inl ⟨_, rfl⟩) wd_294 dX5_passedSquare_68 ?_
      refine S_geti (pc := 71) hC cfX0 (by decide) (Or.inl rfl) wd_228 dX5_passedSquare_71 ?_
      refine S_isub (pc := 74) hC dX5_passedSquare_74 ?_
      refine S_imul (pc := 75) hC dX5_passedSquare_75 ?_
      refine S_iadd (pc := 76) hC dX5_passedSquare_76 ?_
      refine S_icmp_ne (pc := 77) (tgt := 84) hC dX5_passedSquare_77 (by decide) ?_ ?_
      · exact hJ 84
      · refine S_iconst (pc := 80) hC dX5_passedSquare_80 (by decide) ?_
        refine S_goto (pc := 81) (tgt := 85) hC dX5_passedSquare_81 (by decide) ?_
        exact hJ 85
  have hB84 : zin 3 [1] (aX5_passedSquare_84 mc ms X Q) X 84 := by
    intro u v vs st M hb
    rw [hXe]
    refine fun lv hp => S_block (L := 84) (live := [1]) ?_ u v lv vs st M hp hb
    unfold aX5_passedSquare_84
    refine S_iconst (pc := 84) hC dX5_passedSquare_84 (by decide) ?_
    exact hJ 85
  have hB85 : zin 3 [1] (aX5_passedSquare_85 mc ms X Q) X 85 := by
    intro u v vs st M hb
    rw [hXe]
    refine fun lv hp => S_block (L := 85) (live := [1]) ?_ u v lv vs st M hp hb
    unfold aX5_passedSquare_85
    refine S_istore_n (pc := 85) hC dX5_passedSquare_85 rfl (by decide) ?_
    refine S_iload_n (pc := 86) hC dX5_passedSquare_86 rfl ?_
    refine S_if_eq (pc := 87) (tgt := 96) hC dX5_passedSquare_87 (by decide) ?_ ?_
    · refine S_lconst (pc := 96) hC dX5_passedSquare_96 (by decide) ?_
      exact hJ 97
    · refine S_lconst (pc := 90) hC dX5_passedSquare_90 (by decide) ?_
      refine S_iload_n (pc := 91) hC dX5_passedSquare_91 rfl ?_
      refine S_lshl (pc := 92) hC dX5_passedSquare_92 ?_
      refine S_goto (pc := 93) (tgt := 97) hC dX5_passedSquare_93 (by decide) ?_
      exact hJ 97
  have hB97 : zin 3 [] (aX5_passedSquare_97 mc ms X Q) X 97 := by
    intro u v vs st M hb
    rw [hXe]
    refine fun lv hp => S_block (L := 97) (live := []) ?_ u v lv vs st M hp hb
    unfold aX5_passedSquare_97
    exact S_lreturn (pc := 97) hC hr dX5_passedSquare_97
  have := h.2 X hB0 hB30 hB84 hB85 hB97
  rw [hXe] at this
  exact this lv hlv
theorem vX5_passedSquare_0 {mc ms : Nat} {X : Nat → zV} {Q : zQt} {M : zM} {g : Nat}  (hW : zWd M g)  (h : ((M.1 ((g + 1)) 6) = ((-1) : Int32) → Q (some (.long 0)) M) ∧ (¬ (M.1 ((g + 1)) 6) = ((-1) : Int32) → ((M.1 ((g + 1)) 4) = 0 → X 30 0 0 [.ref (g + 6)] [.int 40] M) ∧ (¬ (M.1 ((g + 1)) 4) = 0 → X 30 0 0 [.ref (g + 6)] [.int 16] M))) : aX5_passedSquare_0 mc ms X Q 0 0 [some (.ref (g + 6)), none, none] [] M := ⟨(fgs_6 hW), (g + 1), (fgr_6_0 hW), ⟨(fgs_1 hW), ⟨fun c8 => (h.1 c8), fun c8 => ⟨(fgs_6 hW), (g + 1), (fgr_6_0 hW), ⟨(fgs_1 hW), ⟨fun c20 => ((h.2 c8).1 c20), fun c20 => ((h.2 c8).2 c20)⟩⟩⟩⟩⟩⟩
theorem vX5_passedSquare_30 {mc ms : Nat} {X : Nat → zV} {Q : zQt} {M : zM} {g : Nat} {s0 : Int32} (hW : zWd M g)  (h : vp_in ((s0 + (M.1 ((g + 1)) 6))) 64 ∧ (((M : zM).1 ((g + 2)) ((s0 + (M.1 ((g + 1)) 6)) : Int32).toNatClampNeg) = 0 → vp_in (((s0 + (M.1 ((g + 1)) 6)) ^^^ (8 : Int32))) 64 ∧ (((M : zM).1 ((g + 2)) (((s0 + (M.1 ((g + 1)) 6)) ^^^ (8 : Int32)) : Int32).toNatClampNeg) = ((1 : Int32) + ((6 : Int32) * ((1 : Int32) - (M.1 ((g + 1)) 4)))) → X 85 0 0 [.int (s0 + (M.1 ((g + 1)) 6))] [.int 1] M) ∧ (¬ ((M : zM).1 ((g + 2)) (((s0 + (M.1 ((g + 1)) 6)) ^^^ (8 : Int32)) : Int32).toNatClampNeg) = ((1 : Int32) + ((6 : Int32) * ((1 : Int32) - (M.1 ((g + 1)) 4)))) → X 84 0 0 [.int (s0 + (M.1 ((g + 1)) 6))] [] M)) ∧ (¬ ((M : zM).1 ((g + 2)) ((s0 + (M.1 ((g + 1)) 6)) : Int32).toNatClampNeg) = 0 → X 84 0 0 [.int (s0 + (M.1 ((g + 1)) 6))] [] M)) : aX5_passedSquare_30 mc ms X Q 0 0 [some (.ref (g + 6)), none, none] [.int s0] M := ⟨(fgs_6 hW), (g + 1), (fgr_6_0 hW), ⟨(fgs_1 hW), ⟨(fgs_6 hW), (g + 1), (fgr_6_0 hW), ⟨(fgs_1 hW), (g + 2), (fgr_1_1 hW), ⟨64, (fgs_2 hW), h.1, ⟨fun c48 => ⟨(fgs_6 hW), (g + 1), (fgr_6_0 hW), ⟨(fgs_1 hW), (g + 2), (fgr_1_1 hW), ⟨64, (fgs_2 hW), (h.2.1 c48).1, ⟨(fgs_6 hW), (g + 1), (fgr_6_0 hW), ⟨(fgs_1 hW), ⟨fun c77 => ((h.2.1 c48).2.1 c77), fun c77 => ((h.2.1 c48).2.2 c77)⟩⟩⟩⟩⟩⟩, fun c48 => (h.2.2 c48)⟩⟩⟩⟩⟩⟩
theorem vX5_passedSquare_84 {mc ms : Nat} {X : Nat → zV} {Q : zQt} {M : zM} {g : Nat} {x1 : Int32} (hW : zWd M g)  (h : X 85 0 0 [.int x1] [.int 0] M) : aX5_passedSquare_84 mc ms X Q 0 0 [none, some (.int x1), none] [] M := h
theorem vX5_passedSquare_85 {mc ms : Nat} {X : Nat → zV} {Q : zQt} {M : zM} {g : Nat} {x1 : Int32} {s0 : Int32} (hW : zWd M g)  (h : (s0 = 0 → X 97 0 0 [] [.long 0] M) ∧ (¬ s0 = 0 → X 97 0 0 [] [.long ((1 : Int64) <<< (x1.toInt64 &&& 63))] M)) : aX5_passedSquare_85 mc ms X Q 0 0 [none, some (.int x1), none] [.int s0] M := ⟨fun c87 => (h.1 c87), fun c87 => (h.2 c87)⟩
theorem vX5_passedSquare_97 {mc ms : Nat} {X : Nat → zV} {Q : zQt} {M : zM} {g : Nat} {s0 : Int64} (hW : zWd M g)  (h : Q (some (.long s0)) M) : aX5_passedSquare_97 mc ms X Q 0 0 [none, none, none] [.long s0] M := h
theorem dX6_sign_0 : decode cX6_sign 0 = .ok (.aload_n 0, 1) := by decide +kernel
theorem dX6_sign_1 : decode cX6_sign 1 = .ok (.getfield 26, 3) := by decide +kernel
theorem dX6_sign_4 : decode cX6_sign 4 = .ok (.aload_n 0, 1) := by decide +kernel
theorem dX6_sign_5 : decode cX6_sign 5 = .ok (.getfield 30, 3) := by decide +kernel
theorem dX6_sign_8 : decode cX6_sign 8 = .ok (.if_icmp .ge 15, 3) := by decide +kernel
theorem dX6_sign_11 : decode cX6_sign 11 = .ok (.aload_n 0, 1) := by decide +kernel
theorem dX6_sign_12 : decode cX6_sign 12 = .ok (.getfield 9, 3) := by decide +kernel
theorem dX6_sign_15 : decode cX6_sign 15 = .ok (.aload_n 0, 1) := by decide +kernel
theorem dX6_sign_16 : decode cX6_sign 16 = .ok (.getfield 26, 3) := by decide +kernel
theorem dX6_sign_19 : decode cX6_sign 19 = .ok (.caload, 1) := by decide +kernel
theorem dX6_sign_20 : decode cX6_sign 20 = .ok (.goto 4, 3) := by decide +kernel
theorem dX6_sign_23 : decode cX6_sign 23 = .ok (.iconst 0, 1) := by decide +kernel
theorem dX6_sign_24 : decode cX6_sign 24 = .ok (.ireturn, 1) := by decide +kernel
def aX6_sign_0 (mc ms : Nat) (X : Nat → zV) (Q : zQt) : zT :=
  zla 0 <| zgi 6 3 <| zla 0 <| zgi 6 4 <| zic (fun x y => y ≤ x) (zc (.int 0) <| zj X 24 []) <| zla 0 <| zgR 6 0 <| zla 0 <| zgi 6 3 <| zal 4 <| zj X 24 []
def aX6_sign_24 (mc ms : Nat) (X : Nat → zV) (Q : zQt) : zT :=
  zrz .char Q
def lvX6_sign : Nat → List Nat := fun L => match L with
  | 0 => [0]
  | 24 => []
  | _ => []
def wX6_sign : zSp := fun mc ms av M Q => ((zlay av).length ≤ 1 ∧ zpick (zlay av) [0] = some av) ∧ ∀ X : Nat → zV, zin 1 [0] (aX6_sign_0 mc ms X Q) X 0 → zin 1 [] (aX6_sign_24 mc ms X Q) X 24 → X 0 0 0 av [] M
set_option maxRecDepth 100000 in
set_option maxHeartbeats 4000000 in
theorem sX6_sign (l : Launch) (G : zG) : zSnd l G yX6_sign cX6_sign 1 (some .char) 0 0 wX6_sign := by
  refine zmk [0] (by decide) (fun mc ms av M Q h => h.1) ?_
  intro p e R s m args below meth c mc ms av M Q hC hRf hRl hr hnm h lv hlv
  obtain ⟨X, hXe⟩ : ∃ X : Nat → zV, X = fun L u v vs st M => ∀ lv, zpick lv (lvX6_sign L) = some vs → zAt p l e R s m args below meth c (MQ below (zQ G Q) args s mc ms (zA G)) G 1 L u v lv st M := ⟨_, rfl⟩
  have hJ : ∀ L, zOk p l e R s m args below meth c (MQ below (zQ G Q) args s mc ms (zA G)) G 1 L (zj X L (lvX6_sign L)) := fun L => S_jump (fun u v lv vs st M hp hx => by rw [hXe] at hx; exact hx lv hp)
  have hB0 : zin 1 [0] (aX6_sign_0 mc ms X Q) X 0 := by
    intro u v vs st M hb
    rw [hXe]
    refine fun lv hp => S_block (L := 0) (live := [0]) ?_ u v lv vs st M hp hb
    unfold aX6_sign_0
    refine S_aload_n (pc := 0) hC dX6_sign_0 rfl ?_
    refine S_geti (pc := 1) hC cfX6 (by decide) (Or.inl rfl) wd_141 dX6_sign_1 ?_
    refine S_aload_n (pc := 4) hC dX6_sign_4 rfl ?_
    refine S_geti (pc := 5) hC cfX6 (by decide) (Or.inl rfl) wd_142 dX6_sign_5 ?_
    refine S_icmp_ge (pc := 8) (tgt := 23) hC dX6_sign_8 (by decide) ?_ ?_
    · refine S_iconst (pc := 23) hC dX6_sign_23 (by decide) ?_
      exact hJ 24
    · refine S_aload_n (pc := 11) hC dX6_sign_11 rfl ?_
      refine S_getR (pc := 12) hC cfX6 (by decide) (Or.inr ⟨_, rfl⟩) wd_138 dX6_sign_12 ?_
      refine S_aload_n (pc := 15) hC dX6_sign_15 rfl ?_
      refine S_geti (pc := 16) hC cfX6 (by decide) (Or.inl rfl) wd_141 dX6_sign_16 ?_
      refine S_caload (pc := 19) hC dX6_sign_19 ?_
      refine S_goto (pc := 20) (tgt := 24) hC dX6_sign_20 (by decide) ?_
      exact hJ 24
  have hB24 : zin 1 [] (aX6_sign_24 mc ms X Q) X 24 := by
    intro u v vs st M hb
    rw [hXe]
    refine fun lv hp => S_block (L := 24) (live := []) ?_ u v lv vs st M hp hb
    unfold aX6_sign_24
    exact S_zreturn (pc := 24) hC hr dX6_sign_24
  have := h.2 X hB0 hB24
  rw [hXe] at this
  exact this lv hlv
theorem vX6_sign_0 {mc ms : Nat} {X : Nat → zV} {Q : zQt} {M : zM} {g : Nat}  (hW : zWd M g)  (h : ((M.1 27 4) ≤ (M.1 27 3) → X 24 0 0 [] [.int 0] M) ∧ (¬ (M.1 27 4) ≤ (M.1 27 3) → vp_in ((M.1 27 3)) 8180 ∧ X 24 0 0 [] [.int ((M : zM).1 24 ((M.1 27 3) : Int32).toNatClampNeg)] M)) : aX6_sign_0 mc ms X Q 0 0 [some (.ref 27)] [] M := ⟨(fxs_27 hW.1), ⟨(fxs_27 hW.1), ⟨fun c8 => (h.1 c8), fun c8 => ⟨(fxs_27 hW.1), 24, (fxr_27_0 hW.1), ⟨(fxs_27 hW.1), ⟨8180, (fxs_24 hW.1), (h.2 c8).1, (h.2 c8).2⟩⟩⟩⟩⟩⟩
theorem vX6_sign_24 {mc ms : Nat} {X : Nat → zV} {Q : zQt} {M : zM} {g : Nat} {s0 : Int32} (hW : zWd M g)  (h : narrow .char (.int s0) = .int s0 ∧ Q (some (.int s0)) M) : aX6_sign_24 mc ms X Q 0 0 [none] [.int s0] M := h
theorem dX6_skipBlank_0 : decode cX6_skipBlank 0 = .ok (.aload_n 0, 1) := by decide +kernel
theorem dX6_skipBlank_1 : decode cX6_skipBlank 1 = .ok (.invokevirtual 69, 3) := by decide +kernel
theorem dX6_skipBlank_4 : decode cX6_skipBlank 4 = .ok (.bipush 32, 2) := by decide +kernel
theorem dX6_skipBlank_6 : decode cX6_skipBlank 6 = .ok (.if_icmp .eq 5, 3) := by decide +kernel
theorem dX6_skipBlank_9 : decode cX6_skipBlank 9 = .ok (.iconst 0, 1) := by decide +kernel
theorem dX6_skipBlank_10 : decode cX6_skipBlank 10 = .ok (.ireturn, 1) := by decide +kernel
theorem dX6_skipBlank_11 : decode cX6_skipBlank 11 = .ok (.aload_n 0, 1) := by decide +kernel
theorem dX6_skipBlank_12 : decode cX6_skipBlank 12 = .ok (.dup, 1) := by decide +kernel
theorem dX6_skipBlank_13 : decode cX6_skipBlank 13 = .ok (.getfield 26, 3) := by decide +kernel
theorem dX6_skipBlank_16 : decode cX6_skipBlank 16 = .ok (.iconst 1, 1) := by decide +kernel
theorem dX6_skipBlank_17 : decode cX6_skipBlank 17 = .ok (.iadd, 1) := by decide +kernel
theorem dX6_skipBlank_18 : decode cX6_skipBlank 18 = .ok (.putfield 26, 3) := by decide +kernel
theorem dX6_skipBlank_21 : decode cX6_skipBlank 21 = .ok (.iconst 1, 1) := by decide +kernel
theorem dX6_skipBlank_22 : decode cX6_skipBlank 22 = .ok (.ireturn, 1) := by decide +kernel
def kX6_skipBlank_4 (mc ms : Nat) (X : Nat → zV) (Q : zQt) : zT :=
  zc (.int 32) <| zic (fun x y => x = y) (zla 0 <| zdup <| zgi 6 3 <| zc (.int 1) <| zii (fun x y => x + y) <| zpi 6 3 <| zc (.int 1) <| zrz .boolean Q) <| zc (.int 0) <| zrz .boolean Q
def aX6_skipBlank_0 (mc ms : Nat) (X : Nat → zV) (Q : zQt) : zT :=
  zla 0 <| zcv mc ms 6 0 wX6_sign <| kX6_skipBlank_4 mc ms X Q
def lvX6_skipBlank : Nat → List Nat := fun L => match L with
  | 0 => [0]
  | _ => []
def wX6_skipBlank : zSp := fun mc ms av M Q => ((zlay av).length ≤ 1 ∧ zpick (zlay av) [0] = some av) ∧ ∀ X : Nat → zV, zin 1 [0] (aX6_skipBlank_0 mc ms X Q) X 0 → X 0 0 0 av [] M
set_option maxRecDepth 100000 in
set_option maxHeartbeats 4000000 in
theorem sX6_skipBlank (l : Launch) (G : zG) : zSnd l G yX6_skipBlank cX6_skipBlank 1 (some .boolean) 1 20 wX6_skipBlank := by
  refine zmk [0] (by decide) (fun mc ms av M Q h => h.1) ?_
  intro p e R s m args below meth c mc ms av M Q hC hRf hRl hr hnm h lv hlv
  obtain ⟨X, hXe⟩ : ∃ X : Nat → zV, X = fun L u v vs st M => ∀ lv, zpick lv (lvX6_skipBlank L) = some vs → zAt p l e R s m args below meth c (MQ below (zQ G Q) args s mc ms (zA G)) G 1 L u v lv st M := ⟨_, rfl⟩
  have hJ : ∀ L, zOk p l e R s m args below meth c (MQ below (zQ G Q) args s mc ms (zA G)) G 1 L (zj X L (lvX6_skipBlank L)) := fun L => S_jump (fun u v lv vs st M hp hx => by rw [hXe] at hx; exact hx lv hp)
  have hB0 : zin 1 [0] (aX6_skipBlank_0 mc ms X Q) X 0 := by
    intro u v vs st M hb
    rw [hXe]
    refine fun lv hp => S_block (L := 0) (live := [0]) ?_ u v lv vs st M hp hb
    unfold aX6_skipBlank_0
    refine S_aload_n (pc := 0) hC dX6_skipBlank_0 rfl ?_
    refine S_callV (pc := 1) hC (sX6_sign l G) rfl wd_689 wd_691 ws_16 wd_4 wd_692 (by decide +kernel) ⟨by rw [hRf]; decide, by rw [hRl]; decide⟩ dX6_skipBlank_1 ?_
    unfold kX6_skipBlank_4
    refine S_bipush (pc := 4) hC dX6_skipBlank_4 (by decide) ?_
    refine S_icmp_eq (pc := 6) (tgt := 11) hC dX6_skipBlank_6 (by decide) ?_ ?_
    · refine S_aload_n (pc := 11) hC dX6_skipBlank_11 rfl ?_
      refine S_dup (pc := 12) hC dX6_skipBlank_12 ?_
      refine S_geti (pc := 13) hC cfX6 (by decide) (Or.inl rfl) wd_141 dX6_skipBlank_13 ?_
      refine S_iconst (pc := 16) hC dX6_skipBlank_16 (by decide) ?_
      refine S_iadd (pc := 17) hC dX6_skipBlank_17 ?_
      refine S_puti (pc := 18) hC cfX6 (by decide) rfl (Or.inl rfl) wd_141 dX6_skipBlank_18 ?_
      refine S_iconst (pc := 21) hC dX6_skipBlank_21 (by decide) ?_
      exact S_zreturn (pc := 22) hC hr dX6_skipBlank_22
    · refine S_iconst (pc := 9) hC dX6_skipBlank_9 (by decide) ?_
      exact S_zreturn (pc := 10) hC hr dX6_skipBlank_10
  have := h.2 X hB0
  rw [hXe] at this
  exact this lv hlv
theorem vX6_skipBlank_0 {mc ms : Nat} {X : Nat → zV} {Q : zQt} {M : zM} {g : Nat}  (hW : zWd M g)  (h : wX6_sign 0 0 [.ref 27] M (fun r M1 => kX6_skipBlank_4 mc ms X Q 0 0 [some (.ref 27)] (r.toList ++ []) M1)) : aX6_skipBlank_0 mc ms X Q 0 0 [some (.ref 27)] [] M := ⟨Nat.le_of_ble_eq_true rfl, rfl, (fxs_27 hW.1), 0, 0, Nat.zero_le _, Nat.zero_le _, h⟩
theorem vkX6_skipBlank_4 {mc ms : Nat} {X : Nat → zV} {Q : zQt} {M : zM} {g : Nat} {s0 : Int32} (hW : zWd M g)  (h : (s0 = (32 : Int32) → ∀ M18 : zM, M18 = (zsI M 27 3 (((M.1 27 3) + (1 : Int32)))) → Q (some (.int 1)) M18) ∧ (¬ s0 = (32 : Int32) → Q (some (.int 0)) M)) : kX6_skipBlank_4 mc ms X Q 0 0 [some (.ref 27)] [.int s0] M := ⟨fun c6 => ⟨(fxs_27 hW.1), ⟨(fxs_27 hW.1), (have h18 := (h.1 c6) _ rfl; ⟨rfl, h18⟩)⟩⟩, fun c6 => ⟨rfl, (h.2 c6)⟩⟩
theorem dX6_readSide_0 : decode cX6_readSide 0 = .ok (.aload_n 0, 1) := by decide +kernel
theorem dX6_readSide_1 : decode cX6_readSide 1 = .ok (.invokevirtual 69, 3) := by decide +kernel
theorem dX6_readSide_4 : decode cX6_readSide 4 = .ok (.istore_n 2, 1) := by decide +kernel
theorem dX6_readSide_5 : decode cX6_readSide 5 = .ok (.aload_n 1, 1) := by decide +kernel
theorem dX6_readSide_6 : decode cX6_readSide 6 = .ok (.iload_n 2, 1) := by decide +kernel
theorem dX6_readSide_7 : decode cX6_readSide 7 = .ok (.bipush 98, 2) := by decide +kernel
theorem dX6_readSide_9 : decode cX6_readSide 9 = .ok (.if_icmp .ne 7, 3) := by decide +kernel
theorem dX6_readSide_12 : decode cX6_readSide 12 = .ok (.iconst 1, 1) := by decide +kernel
theorem dX6_readSide_13 : decode cX6_readSide 13 = .ok (.goto 4, 3) := by decide +kernel
theorem dX6_readSide_16 : decode cX6_readSide 16 = .ok (.iconst 0, 1) := by decide +kernel
theorem dX6_readSide_17 : decode cX6_readSide 17 = .ok (.putfield 88, 3) := by decide +kernel
theorem dX6_readSide_20 : decode cX6_readSide 20 = .ok (.aload_n 0, 1) := by decide +kernel
theorem dX6_readSide_21 : decode cX6_readSide 21 = .ok (.dup, 1) := by decide +kernel
theorem dX6_readSide_22 : decode cX6_readSide 22 = .ok (.getfield 26, 3) := by decide +kernel
theorem dX6_readSide_25 : decode cX6_readSide 25 = .ok (.iconst 1, 1) := by decide +kernel
theorem dX6_readSide_26 : decode cX6_readSide 26 = .ok (.iadd, 1) := by decide +kernel
theorem dX6_readSide_27 : decode cX6_readSide 27 = .ok (.putfield 26, 3) := by decide +kernel
theorem dX6_readSide_30 : decode cX6_readSide 30 = .ok (.iload_n 2, 1) := by decide +kernel
theorem dX6_readSide_31 : decode cX6_readSide 31 = .ok (.bipush 119, 2) := by decide +kernel
theorem dX6_readSide_33 : decode cX6_readSide 33 = .ok (.if_icmp .eq 9, 3) := by decide +kernel
theorem dX6_readSide_36 : decode cX6_readSide 36 = .ok (.iload_n 2, 1) := by decide +kernel
theorem dX6_readSide_37 : decode cX6_readSide 37 = .ok (.bipush 98, 2) := by decide +kernel
theorem dX6_readSide_39 : decode cX6_readSide 39 = .ok (.if_icmp .ne 7, 3) := by decide +kernel
theorem dX6_readSide_42 : decode cX6_readSide 42 = .ok (.iconst 1, 1) := by decide +kernel
theorem dX6_readSide_43 : decode cX6_readSide 43 = .ok (.goto 4, 3) := by decide +kernel
theorem dX6_readSide_46 : decode cX6_readSide 46 = .ok (.iconst 0, 1) := by decide +kernel
theorem dX6_readSide_47 : decode cX6_readSide 47 = .ok (.ireturn, 1) := by decide +kernel
def kX6_readSide_4 (mc ms : Nat) (X : Nat → zV) (Q : zQt) : zT :=
  zsi 2 <| zla 1 <| zli 2 <| zc (.int 98) <| zic (fun x y => x = y) (zc (.int 1) <| zj X 17 [0, 2]) <| zc (.int 0) <| zj X 17 [0, 2]
def aX6_readSide_0 (mc ms : Nat) (X : Nat → zV) (Q : zQt) : zT :=
  zla 0 <| zcv mc ms 6 0 wX6_sign <| kX6_readSide_4 mc ms X Q
def aX6_readSide_17 (mc ms : Nat) (X : Nat → zV) (Q : zQt) : zT :=
  zpi 0 4 <| zla 0 <| zdup <| zgi 6 3 <| zc (.int 1) <| zii (fun x y => x + y) <| zpi 6 3 <| zli 2 <| zc (.int 119) <| zic (fun x y => x = y) (zj X 42 []) <| zli 2 <| zc (.int 98) <| zic (fun x y => x = y) (zj X 42 []) <| zc (.int 0) <| zj X 47 []
def aX6_readSide_42 (mc ms : Nat) (X : Nat → zV) (Q : zQt) : zT :=
  zc (.int 1) <| zj X 47 []
def aX6_readSide_47 (mc ms : Nat) (X : Nat → zV) (Q : zQt) : zT :=
  zrz .boolean Q
def lvX6_readSide : Nat → List Nat := fun L => match L with
  | 0 => [0, 1]
  | 17 => [0, 2]
  | 42 => []
  | 47 => []
  | _ => []
def wX6_readSide : zSp := fun mc ms av M Q => ((zlay av).length ≤ 3 ∧ zpick (zlay av) [0, 1] = some av) ∧ ∀ X : Nat → zV, zin 3 [0, 1] (aX6_readSide_0 mc ms X Q) X 0 → zin 3 [0, 2] (aX6_readSide_17 mc ms X Q) X 17 → zin 3 [] (aX6_readSide_42 mc ms X Q) X 42 → zin 3 [] (aX6_readSide_47 mc ms X Q) X 47 → X 0 0 0 av [] M
set_option maxRecDepth 100000 in
set_option maxHeartbeats 4000000 in
theorem sX6_readSide (l : Launch) (G : zG) : zSnd l G yX6_readSide cX6_readSide 3 (some .boolean) 1 20 wX6_readSide := by
  refine zmk [0, 1] (by decide) (fun mc ms av M Q h => h.1) ?_
  intro p e R s m args below meth c mc ms av M Q hC hRf hRl hr hnm h lv hlv
  obtain ⟨X, hXe⟩ : ∃ X : Nat → zV, X = fun L u v vs st M => ∀ lv, zpick lv (lvX6_readSide L) = some vs → zAt p l e R s m args below meth c (MQ below (zQ G Q) args s mc ms (zA G)) G 3 L u v lv st M := ⟨_, rfl⟩
  have hJ : ∀ L, zOk p l e R s m args below meth c (MQ below (zQ G Q) args s mc ms (zA G)) G 3 L (zj X L (lvX6_readSide L)) := fun L => S_jump (fun u v lv vs st M hp hx => by rw [hXe] at hx; exact hx lv hp)
  have hB0 : zin 3 [0, 1] (aX6_readSide_0 mc ms X Q) X 0 := by
    intro u v vs st M hb
    rw [hXe]
    refine fun lv hp => S_block (L := 0) (live := [0, 1]) ?_ u v lv vs st M hp hb
    unfold aX6_readSide_0
    refine S_aload_n (pc := 0) hC dX6_readSide_0 rfl ?_
    refine S_callV (pc := 1) hC (sX6_sign l G) rfl wd_689 wd_691 ws_16 wd_4 wd_692 (by decide +kernel) ⟨by rw [hRf]; decide, by rw [hRl]; decide⟩ dX6_readSide_1 ?_
    unfold kX6_readSide_4
    refine S_istore_n (pc := 4) hC dX6_readSide_4 rfl (by decide) ?_
    refine S_aload_n (pc := 5) hC dX6_readSide_5 rfl ?_
    refine S_iload_n (pc := 6) hC dX6_readSide_6 rfl ?_
    refine S_bipush (pc := 7) hC dX6_readSide_7 (by decide) ?_
    refine S_icmp_ne (pc := 9) (tgt := 16) hC dX6_readSide_9 (by decide) ?_ ?_
    · refine S_iconst (pc := 16) hC dX6_readSide_16 (by decide) ?_
      exact hJ 17
    · refine S_iconst (pc := 12) hC dX6_readSide_12 (by decide) ?_
      refine S_goto (pc := 13) (tgt := 17) hC dX6_readSide_13 (by decide) ?_
      exact hJ 17
  have hB17 : zin 3 [0, 2] (aX6_readSide_17 mc ms X Q) X 17 := by
    intro u v vs st M hb
    rw [hXe]
    refine fun lv hp => S_block (L := 17) (live := [0, 2]) ?_ u v lv vs st M hp hb
    unfold aX6_readSide_17
    refine S_puti (pc := 17) hC cfX0 (by decide) rfl (Or.inl rfl) wd_235 dX6_readSide_17 ?_
    refine S_aload_n (pc := 20) hC dX6_readSide_20 rfl ?_
    refine S_dup (pc := 21) hC dX6_readSide_21 ?_
    refine S_geti (pc := 22) hC cfX6 (by decide) (Or.inl rfl) wd_141 dX6_readSide_22 ?_
    refine S_iconst (pc := 25) hC dX6_readSide_25 (by decide) ?_
    refine S_iadd (pc := 26) hC dX6_readSide_26 ?_
    refine S_puti (pc := 27) hC cfX6 (by decide) rfl (Or.inl rfl) wd_141 dX6_readSide_27 ?_
    refine S_iload_n (pc := 30) hC dX6_readSide_30 rfl ?_
    refine S_bipush (pc := 31) hC dX6_readSide_31 (by decide) ?_
    refine S_icmp_eq (pc := 33) (tgt := 42) hC dX6_readSide_33 (by decide) ?_ ?_
    · exact hJ 42
    · refine S_iload_n (pc := 36) hC dX6_readSide_36 rfl ?_
      refine S_bipush (pc := 37) hC dX6_readSide_37 (by decide) ?_
      refine S_icmp_ne (pc := 39) (tgt := 46) hC dX6_readSide_39 (by decide) ?_ ?_
      · refine S_iconst (pc := 46) hC dX6_readSide_46 (by decide) ?_
        exact hJ 47
      · exact hJ 42
  have hB42 : zin 3 [] (aX6_readSide_42 mc ms X Q) X 42 := by
    intro u v vs st M hb
    rw [hXe]
    refine fun lv hp => S_block (L := 42) (live := []) ?_ u v lv vs st M hp hb
    unfold aX6_readSide_42
    refine S_iconst (pc := 42) hC dX6_readSide_42 (by decide) ?_
    refine S_goto (pc := 43) (tgt := 47) hC dX6_readSide_43 (by decide) ?_
    exact hJ 47
  have hB47 : zin 3 [] (aX6_readSide_47 mc ms X Q) X 47 := by
    intro u v vs st M hb
    rw [hXe]
    refine fun lv hp => S_block (L := 47) (live := []) ?_ u v lv vs st M hp hb
    unfold aX6_readSide_47
    exact S_zreturn (pc := 47) hC hr dX6_readSide_47
  have := h.2 X hB0 hB17 hB42 hB47
  rw [hXe] at this
  exact this lv hlv
theorem vX6_readSide_0 {mc ms : Nat} {X : Nat → zV} {Q : zQt} {M : zM} {g : Nat}  (hW : zWd M g)  (h : wX6_sign 0 0 [.ref 27] M (fun r M1 => kX6_readSide_4 mc ms X Q 0 0 [some (.ref 27), some (.ref (g + 1)), none] (r.toList ++ []) M1)) : aX6_readSide_0 mc ms X Q 0 0 [some (.ref 27), some (.ref (g + 1)), none] [] M := ⟨Nat.le_of_ble_eq_true rfl, rfl, (fxs_27 hW.1), 0, 0, Nat.zero_le _, Nat.zero_le _, h⟩
theorem vX6_readSide_17 {mc ms : Nat} {X : Nat → zV} {Q : zQt} {M : zM} {g : Nat} {x2 : Int32} {s0 : Int32} (hW : zWd M g)  (h : ∀ M17 : zM, M17 = (zsI M ((g + 1)) 4 s0) → ∀ M27 : zM, M27 = (zsI M17 27 3 (((M17.1 27 3) + (1 : Int32)))) → (x2 = (119 : Int32) → X 42 0 0 [] [] M27) ∧ (¬ x2 = (119 : Int32) → (x2 = (98 : Int32) → X 42 0 0 [] [] M27) ∧ (¬ x2 = (98 : Int32) → X 47 0 0 [] [.int 0] M27))) : aX6_readSide_17 mc ms X Q 0 0 [some (.ref 27), none, some (.int x2)] [.int s0, .ref (g + 1)] M := ⟨(fgs_1 hW), (have h17 := h _ rfl; ⟨(fxs_27 hW.1), ⟨(fxs_27 hW.1), (have h27 := h17 _ rfl; ⟨fun c33 => (h27.1 c33), fun c33 => ⟨fun c39 => ((h27.2 c33).1 c39), fun c39 => ((h27.2 c33).2 c39)⟩⟩)⟩⟩)⟩
theorem vX6_readSide_42 {mc ms : Nat} {X : Nat → zV} {Q : zQt} {M : zM} {g : Nat}  (hW : zWd M g)  (h : X 47 0 0 [] [.int 1] M) : aX6_readSide_42 mc ms X Q 0 0 [none, none, none] [] M := h
theorem vX6_readSide_47 {mc ms : Nat} {X : Nat → zV} {Q : zQt} {M : zM} {g : Nat} {s0 : Int32} (hW : zWd M g)  (h : narrow .boolean (.int s0) = .int s0 ∧ Q (some (.int s0)) M) : aX6_readSide_47 mc ms X Q 0 0 [none, none, none] [.int s0] M := h
theorem vkX6_readSide_4 {mc ms : Nat} {X : Nat → zV} {Q : zQt} {M : zM} {g : Nat} {s0 : Int32} (hW : zWd M g)  (h : (s0 = (98 : Int32) → X 17 0 0 [.ref 27, .int s0] [.int 1, .ref (g + 1)] M) ∧ (¬ s0 = (98 : Int32) → X 17 0 0 [.ref 27, .int s0] [.int 0, .ref (g + 1)] M)) : kX6_readSide_4 mc ms X Q 0 0 [some (.ref 27), some (.ref (g + 1)), none] [.int s0] M := ⟨fun c9 => (h.1 c9), fun c9 => (h.2 c9)⟩
theorem dX6_readPassant_0 : decode cX6_readPassant 0 = .ok (.aload_n 0, 1) := by decide +kernel
theorem dX6_readPassant_1 : decode cX6_readPassant 1 = .ok (.invokevirtual 69, 3) := by decide +kernel
theorem dX6_readPassant_4 : decode cX6_readPassant 4 = .ok (.istore_n 2, 1) := by decide +kernel
theorem dX6_readPassant_5 : decode cX6_readPassant 5 = .ok (.aload_n 0, 1) := by decide +kernel
theorem dX6_readPassant_6 : decode cX6_readPassant 6 = .ok (.dup, 1) := by decide +kernel
theorem dX6_readPassant_7 : decode cX6_readPassant 7 = .ok (.getfield 26, 3) := by decide +kernel
theorem dX6_readPassant_10 : decode cX6_readPassant 10 = .ok (.iconst 1, 1) := by decide +kernel
theorem dX6_readPassant_11 : decode cX6_readPassant 11 = .ok (.iadd, 1) := by decide +kernel
theorem dX6_readPassant_12 : decode cX6_readPassant 12 = .ok (.putfield 26, 3) := by decide +kernel
theorem dX6_readPassant_15 : decode cX6_readPassant 15 = .ok (.iload_n 2, 1) := by decide +kernel
theorem dX6_readPassant_16 : decode cX6_readPassant 16 = .ok (.bipush 45, 2) := by decide +kernel
theorem dX6_readPassant_18 : decode cX6_readPassant 18 = .ok (.if_icmp .ne 5, 3) := by decide +kernel
theorem dX6_readPassant_21 : decode cX6_readPassant 21 = .ok (.iconst 1, 1) := by decide +kernel
theorem dX6_readPassant_22 : decode cX6_readPassant 22 = .ok (.ireturn, 1) := by decide +kernel
theorem dX6_readPassant_23 : decode cX6_readPassant 23 = .ok (.iload_n 2, 1) := by decide +kernel
theorem dX6_readPassant_24 : decode cX6_readPassant 24 = .ok (.bipush 97, 2) := by decide +kernel
theorem dX6_readPassant_26 : decode cX6_readPassant 26 = .ok (.if_icmp .lt 30, 3) := by decide +kernel
theorem dX6_readPassant_29 : decode cX6_readPassant 29 = .ok (.iload_n 2, 1) := by decide +kernel
theorem dX6_readPassant_30 : decode cX6_readPassant 30 = .ok (.bipush 104, 2) := by decide +kernel
theorem dX6_readPassant_32 : decode cX6_readPassant 32 = .ok (.if_icmp .gt 24, 3) := by decide +kernel
theorem dX6_readPassant_35 : decode cX6_readPassant 35 = .ok (.aload_n 0, 1) := by decide +kernel
theorem dX6_readPassant_36 : decode cX6_readPassant 36 = .ok (.invokevirtual 69, 3) := by decide +kernel
theorem dX6_readPassant_39 : decode cX6_readPassant 39 = .ok (.aload_n 1, 1) := by decide +kernel
theorem dX6_readPassant_40 : decode cX6_readPassant 40 = .ok (.getfield 88, 3) := by decide +kernel
theorem dX6_readPassant_43 : decode cX6_readPassant 43 = .ok (.ifCond .ne 8, 3) := by decide +kernel
theorem dX6_readPassant_46 : decode cX6_readPassant 46 = .ok (.bipush 54, 2) := by decide +kernel
theorem dX6_readPassant_48 : decode cX6_readPassant 48 = .ok (.goto 5, 3) := by decide +kernel
theorem dX6_readPassant_51 : decode cX6_readPassant 51 = .ok (.bipush 51, 2) := by decide +kernel
theorem dX6_readPassant_53 : decode cX6_readPassant 53 = .ok (.if_icmp .eq 5, 3) := by decide +kernel
theorem dX6_readPassant_56 : decode cX6_readPassant 56 = .ok (.iconst 0, 1) := by decide +kernel
theorem dX6_readPassant_57 : decode cX6_readPassant 57 = .ok (.ireturn, 1) := by decide +kernel
theorem dX6_readPassant_58 : decode cX6_readPassant 58 = .ok (.aload_n 0, 1) := by decide +kernel
theorem dX6_readPassant_59 : decode cX6_readPassant 59 = .ok (.dup, 1) := by decide +kernel
theorem dX6_readPassant_60 : decode cX6_readPassant 60 = .ok (.getfield 26, 3) := by decide +kernel
theorem dX6_readPassant_63 : decode cX6_readPassant 63 = .ok (.iconst 1, 1) := by decide +kernel
theorem dX6_readPassant_64 : decode cX6_readPassant 64 = .ok (.iadd, 1) := by decide +kernel
theorem dX6_readPassant_65 : decode cX6_readPassant 65 = .ok (.putfield 26, 3) := by decide +kernel
theorem dX6_readPassant_68 : decode cX6_readPassant 68 = .ok (.aload_n 1, 1) := by decide +kernel
theorem dX6_readPassant_69 : decode cX6_readPassant 69 = .ok (.iload_n 2, 1) := by decide +kernel
theorem dX6_readPassant_70 : decode cX6_readPassant 70 = .ok (.bipush 97, 2) := by decide +kernel
theorem dX6_readPassant_72 : decode cX6_readPassant 72 = .ok (.isub, 1) := by decide +kernel
theorem dX6_readPassant_73 : decode cX6_readPassant 73 = .ok (.putfield 100, 3) := by decide +kernel
theorem dX6_readPassant_76 : decode cX6_readPassant 76 = .ok (.iconst 1, 1) := by decide +kernel
theorem dX6_readPassant_77 : decode cX6_readPassant 77 = .ok (.ireturn, 1) := by decide +kernel
def kX6_readPassant_39 (mc ms : Nat) (X : Nat → zV) (Q : zQt) : zT :=
  zla 1 <| zgi 0 4 <| zif (fun x => x = 0) (zc (.int 54) <| zj X 53 [0, 1, 2]) <| zc (.int 51) <| zj X 53 [0, 1, 2]
def kX6_readPassant_4 (mc ms : Nat) (X : Nat → zV) (Q : zQt) : zT :=
  zsi 2 <| zla 0 <| zdup <| zgi 6 3 <| zc (.int 1) <| zii (fun x y => x + y) <| zpi 6 3 <| zli 2 <| zc (.int 45) <| zic (fun x y => x = y) (zc (.int 1) <| zrz .boolean Q) <| zli 2 <| zc (.int 97) <| zic (fun x y => x < y) (zj X 56 []) <| zli 2 <| zc (.int 104) <| zic (fun x y => y < x) (zj X 56 []) <| zla 0 <| zcv mc ms 6 0 wX6_sign <| kX6_readPassant_39 mc ms X Q
def aX6_readPassant_0 (mc ms : Nat) (X : Nat → zV) (Q : zQt) : zT :=
  zla 0 <| zcv mc ms 6 0 wX6_sign <| kX6_readPassant_4 mc ms X Q
def aX6_readPassant_53 (mc ms : Nat) (X : Nat → zV) (Q : zQt) : zT :=
  zic (fun x y => x = y) (zla 0 <| zdup <| zgi 6 3 <| zc (.int 1) <| zii (fun x y => x + y) <| zpi 6 3 <| zla 1 <| zli 2 <| zc (.int 97) <| zii (fun x y => x - y) <| zpi 0 6 <| zc (.int 1) <| zrz .boolean Q) <| zj X 56 []
def aX6_readPassant_56 (mc ms : Nat) (X : Nat → zV) (Q : zQt) : zT :=
  zc (.int 0) <| zrz .boolean Q
def lvX6_readPassant : Nat → List Nat := fun L => match L with
  | 0 => [0, 1]
  | 53 => [0, 1, 2]
  | 56 => []
  | _ => []
def wX6_readPassant : zSp := fun mc ms av M Q => ((zlay av).length ≤ 3 ∧ zpick (zlay av) [0, 1] = some av) ∧ ∀ X : Nat → zV, zin 3 [0, 1] (aX6_readPassant_0 mc ms X Q) X 0 → zin 3 [0, 1, 2] (aX6_readPassant_53 mc ms X Q) X 53 → zin 3 [] (aX6_readPassant_56 mc ms X Q) X 56 → X 0 0 0 av [] M
set_option maxRecDepth 100000 in
set_option maxHeartbeats 4000000 in
theorem sX6_readPassant (l : Launch) (G : zG) : zSnd l G yX6_readPassant cX6_readPassant 3 (some .boolean) 1 20 wX6_readPassant := by
  refine zmk [0, 1] (by decide) (fun mc ms av M Q h => h.1) ?_
  intro p e R s m args below meth c mc ms av M Q hC hRf hRl hr hnm h lv hlv
  obtain ⟨X, hXe⟩ : ∃ X : Nat → zV, X = fun L u v vs st M => ∀ lv, zpick lv (lvX6_readPassant L) = some vs → zAt p l e R s m args below meth c (MQ below (zQ G Q) args s mc ms (zA G)) G 3 L u v lv st M := ⟨_, rfl⟩
  have hJ : ∀ L, zOk p l e R s m args below meth c (MQ below (zQ G Q) args s mc ms (zA G)) G 3 L (zj X L (lvX6_readPassant L)) := fun L => S_jump (fun u v lv vs st M hp hx => by rw [hXe] at hx; exact hx lv hp)
  have hB0 : zin 3 [0, 1] (aX6_readPassant_0 mc ms X Q) X 0 := by
    intro u v vs st M hb
    rw [hXe]
    refine fun lv hp => S_block (L := 0) (live := [0, 1]) ?_ u v lv vs st M hp hb
    unfold aX6_readPassant_0
    refine S_aload_n (pc := 0) hC dX6_readPassant_0 rfl ?_
    refine S_callV (pc := 1) hC (sX6_sign l G) rfl wd_689 wd_691 ws_16 wd_4 wd_692 (by decide +kernel) ⟨by rw [hRf]; decide, by rw [hRl]; decide⟩ dX6_readPassant_1 ?_
    unfold kX6_readPassant_4
    refine S_istore_n (pc := 4) hC dX6_readPassant_4 rfl (by decide) ?_
    refine S_aload_n (pc := 5) hC dX6_readPassant_5 rfl ?_
    refine S_dup (pc := 6) hC dX6_readPassant_6 ?_
    refine S_geti (pc := 7) hC cfX6 (by decide) (Or.inl rfl) wd_141 dX6_readPassant_7 ?_
    refine S_iconst (pc := 10) hC dX6_readPassant_10 (by decide) ?_
    refine S_iadd (pc := 11) hC dX6_readPassant_11 ?_
    refine S_puti (pc := 12) hC cfX6 (by decide) rfl (Or.inl rfl) wd_141 dX6_readPassant_12 ?_
    refine S_iload_n (pc := 15) hC dX6_readPassant_15 rfl ?_
    refine S_bipush (pc := 16) hC dX6_readPassant_16 (by decide) ?_
    refine S_icmp_ne (pc := 18) (tgt := 23) hC dX6_readPassant_18 (by decide) ?_ ?_
    · refine S_iload_n (pc := 23) hC dX6_readPassant_23 rfl ?_
      refine S_bipush (pc := 24) hC dX6_readPassant_24 (by decide) ?_
      refine S_icmp_lt (pc := 26) (tgt := 56) hC dX6_readPassant_26 (by decide) ?_ ?_
      · exact hJ 56
      · refine S_iload_n (pc := 29) hC dX6_readPassant_29 rfl ?_
        refine S_bipush (pc := 30) hC dX6_readPassant_30 (by decide) ?_
        refine S_icmp_gt (pc := 32) (tgt := 56) hC dX6_readPassant_32 (by decide) ?_ ?_
        · exact hJ 56
        · refine S_aload_n (pc := 35) hC dX6_readPassant_35 rfl ?_
          refine S_callV (pc := 36) hC (sX6_sign l G) rfl wd_689 wd_691 ws_16 wd_4 wd_692 (by decide +kernel) ⟨by rw [hRf]; decide, by rw [hRl]; decide⟩ dX6_readPassant_36 ?_
          unfold kX6_readPassant_39
          refine S_aload_n (pc := 39) hC dX6_readPassant_39 rfl ?_
          refine S_geti (pc := 40) hC cfX0 (by decide) (Or.inl rfl) wd_235 dX6_readPassant_40 ?_
          refine S_if_ne (pc := 43) (tgt := 51) hC dX6_readPassant_43 (by decide) ?_ ?_
          · refine S_bipush (pc := 51) hC dX6_readPassant_51 (by decide) ?_
            exact hJ 53
          · refine S_bipush (pc := 46) hC dX6_readPassant_46 (by decide) ?_
            refine S_goto (pc := 48) (tgt := 53) hC dX6_readPassant_48 (by decide) ?_
            exact hJ 53
    · refine S_iconst (pc := 21) hC dX6_readPassant_21 (by decide) ?_
      exact S_zreturn (pc := 22) hC hr dX6_readPassant_22
  have hB53 : zin 3 [0, 1, 2] (aX6_readPassant_53 mc ms X Q) X 53 := by
    intro u v vs st M hb
    rw [hXe]
    refine fun lv hp => S_block (L := 53) (live := [0, 1, 2]) ?_ u v lv vs st M hp hb
    unfold aX6_readPassant_53
    refine S_icmp_eq (pc := 53) (tgt := 58) hC dX6_readPassant_53 (by decide) ?_ ?_
    · refine S_aload_n (pc := 58) hC dX6_readPassant_58 rfl ?_
      refine S_dup (pc := 59) hC dX6_readPassant_59 ?_
      refine S_geti (pc := 60) hC cfX6 (by decide) (Or.inl rfl) wd_141 dX6_readPassant_60 ?_
      refine S_iconst (pc := 63) hC dX6_readPassant_63 (by decide) ?_
      refine S_iadd (pc := 64) hC dX6_readPassant_64 ?_
      refine S_puti (pc := 65) hC cfX6 (by decide) rfl (Or.inl rfl) wd_141 dX6_readPassant_65 ?_
      refine S_aload_n (pc := 68) hC dX6_readPassant_68 rfl ?_
      refine S_iload_n (pc := 69) hC dX6_readPassant_69 rfl ?_
      refine S_bipush (pc := 70) hC dX6_readPassant_70 (by decide) ?_
      refine S_isub (pc := 72) hC dX6_readPassant_72 ?_
      refine S_puti (pc := 73) hC cfX0 (by decide) rfl (Or.inl rfl) wd_248 dX6_readPassant_73 ?_
      refine S_iconst (pc := 76) hC dX6_readPassant_76 (by decide) ?_
      exact S_zreturn (pc := 77) hC hr dX6_readPassant_77
    · exact hJ 56
  have hB56 : zin 3 [] (aX6_readPassant_56 mc ms X Q) X 56 := by
    intro u v vs st M hb
    rw [hXe]
    refine fun lv hp => S_block (L := 56) (live := []) ?_ u v lv vs st M hp hb
    unfold aX6_readPassant_56
    refine S_iconst (pc := 56) hC dX6_readPassant_56 (by decide) ?_
    exact S_zreturn (pc := 57) hC hr dX6_readPassant_57
  have := h.2 X hB0 hB53 hB56
  rw [hXe] at this
  exact this lv hlv
theorem vX6_readPassant_0 {mc ms : Nat} {X : Nat → zV} {Q : zQt} {M : zM} {g : Nat}  (hW : zWd M g)  (h : wX6_sign 0 0 [.ref 27] M (fun r M1 => kX6_readPassant_4 mc ms X Q 0 0 [some (.ref 27), some (.ref (g + 1)), none] (r.toList ++ []) M1)) : aX6_readPassant_0 mc ms X Q 0 0 [some (.ref 27), some (.ref (g + 1)), none] [] M := ⟨Nat.le_of_ble_eq_true rfl, rfl, (fxs_27 hW.1), 0, 0, Nat.zero_le _, Nat.zero_le _, h⟩
theorem vX6_readPassant_53 {mc ms : Nat} {X : Nat → zV} {Q : zQt} {M : zM} {g : Nat} {x2 : Int32} {s0 : Int32} {s1 : Int32} (hW : zWd M g)  (h : (s1 = s0 → ∀ M65 : zM, M65 = (zsI M 27 3 (((M.1 27 3) + (1 : Int32)))) → ∀ M73 : zM, M73 = (zsI M65 ((g + 1)) 6 ((x2 - (97 : Int32)))) → Q (some (.int 1)) M73) ∧ (¬ s1 = s0 → X 56 0 0 [] [] M)) : aX6_readPassant_53 mc ms X Q 0 0 [some (.ref 27), some (.ref (g + 1)), some (.int x2)] [.int s0, .int s1] M := ⟨fun c53 => ⟨(fxs_27 hW.1), ⟨(fxs_27 hW.1), (have h65 := (h.1 c53) _ rfl; ⟨(fgs_1 hW), (have h73 := h65 _ rfl; ⟨rfl, h73⟩)⟩)⟩⟩, fun c53 => (h.2 c53)⟩
theorem vX6_readPassant_56 {mc ms : Nat} {X : Nat → zV} {Q : zQt} {M : zM} {g : Nat}  (hW : zWd M g)  (h : Q (some (.int 0)) M) : aX6_readPassant_56 mc ms X Q 0 0 [none, none, none] [] M := ⟨rfl, h⟩
theorem vkX6_readPassant_4 {mc ms : Nat} {X : Nat → zV} {Q : zQt} {M : zM} {g : Nat} {s0 : Int32} (hW : zWd M g)  (h : ∀ M12 : zM, M12 = (zsI M 27 3 (((M.1 27 3) + (1 : Int32)))) → (s0 = (45 : Int32) → Q (some (.int 1)) M12) ∧ (¬ s0 = (45 : Int32) → (s0 < (97 : Int32) → X 56 0 0 [] [] M12) ∧ (¬ s0 < (97 : Int32) → ((104 : Int32) < s0 → X 56 0 0 [] [] M12) ∧ (¬ (104 : Int32) < s0 → wX6_sign 0 0 [.ref 27] M12 (fun r M1 => kX6_readPassant_39 mc ms X Q 0 0 [some (.ref 27), some (.ref (g + 1)), some (.int s0)] (r.toList ++ []) M1))))) : kX6_readPassant_4 mc ms X Q 0 0 [some (.ref 27), some (.ref (g + 1)), none] [.int s0] M := ⟨(fxs_27 hW.1), ⟨(fxs_27 hW.1), (have h12 := h _ rfl; ⟨fun c18 => ⟨rfl, (h12.1 c18)⟩, fun c18 => ⟨fun c26 => ((h12.2 c18).1 c26), fun c26 => ⟨fun c32 => (((h12.2 c18).2 c26).1 c32), fun c32 => ⟨Nat.le_of_ble_eq_true rfl, rfl, (fxs_27 hW.1), 0, 0, Nat.zero_le _, Nat.zero_le _, (((h12.2 c18).2 c26).2 c32)⟩⟩⟩⟩)⟩⟩
theorem vkX6_readPassant_39 {mc ms : Nat} {X : Nat → zV} {Q : zQt} {M : zM} {g : Nat} {x2 : Int32} {s0 : Int32} (hW : zWd M g)  (h : ((M.1 ((g + 1)) 4) = 0 → X 53 0 0 [.ref 27, .ref (g + 1), .int x2] [.int 54, .int s0] M) ∧ (¬ (M.1 ((g + 1)) 4) = 0 → X 53 0 0 [.ref 27, .ref (g + 1), .int x2] [.int 51, .int s0] M)) : kX6_readPassant_39 mc ms X Q 0 0 [some (.ref 27), some (.ref (g + 1)), some (.int x2)] [.int s0] M := ⟨(fgs_1 hW), ⟨fun c43 => (h.1 c43), fun c43 => (h.2 c43)⟩⟩
