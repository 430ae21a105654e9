theorem dJ13_bitCount_95d88_0 : decode cJ13_bitCount_95d88 0 = .ok (.lload_n 0, 1) := by decide +kernel
theorem dJ13_bitCount_95d88_1 : decode cJ13_bitCount_95d88 1 = .ok (.lload_n 0, 1) := by decide +kernel
theorem dJ13_bitCount_95d88_2 : decode cJ13_bitCount_95d88 2 = .ok (.iconst 1, 1) := by decide +kernel
theorem dJ13_bitCount_95d88_3 : decode cJ13_bitCount_95d88 3 = .ok (.lushr, 1) := by decide +kernel
theorem dJ13_bitCount_95d88_4 : decode cJ13_bitCount_95d88 4 = .ok (.ldc2_w 314, 3) := by decide +kernel
theorem dJ13_bitCount_95d88_7 : decode cJ13_bitCount_95d88 7 = .ok (.land, 1) := by decide +kernel
theorem dJ13_bitCount_95d88_8 : decode cJ13_bitCount_95d88 8 = .ok (.lsub, 1) := by decide +kernel
theorem dJ13_bitCount_95d88_9 : decode cJ13_bitCount_95d88 9 = .ok (.lstore_n 0, 1) := by decide +kernel
theorem dJ13_bitCount_95d88_10 : decode cJ13_bitCount_95d88 10 = .ok (.lload_n 0, 1) := by decide +kernel
theorem dJ13_bitCount_95d88_11 : decode cJ13_bitCount_95d88 11 = .ok (.ldc2_w 316, 3) := by decide +kernel
theorem dJ13_bitCount_95d88_14 : decode cJ13_bitCount_95d88 14 = .ok (.land, 1) := by decide +kernel
theorem dJ13_bitCount_95d88_15 : decode cJ13_bitCount_95d88 15 = .ok (.lload_n 0, 1) := by decide +kernel
theorem dJ13_bitCount_95d88_16 : decode cJ13_bitCount_95d88 16 = .ok (.iconst 2, 1) := by decide +kernel
theorem dJ13_bitCount_95d88_17 : decode cJ13_bitCount_95d88 17 = .ok (.lushr, 1) := by decide +kernel
theorem dJ13_bitCount_95d88_18 : decode cJ13_bitCount_95d88 18 = .ok (.ldc2_w 316, 3) := by decide +kernel
theorem dJ13_bitCount_95d88_21 : decode cJ13_bitCount_95d88 21 = .ok (.land, 1) := by decide +kernel
theorem dJ13_bitCount_95d88_22 : decode cJ13_bitCount_95d88 22 = .ok (.ladd, 1) := by decide +kernel
theorem dJ13_bitCount_95d88_23 : decode cJ13_bitCount_95d88 23 = .ok (.lstore_n 0, 1) := by decide +kernel
theorem dJ13_bitCount_95d88_24 : decode cJ13_bitCount_95d88 24 = .ok (.lload_n 0, 1) := by decide +kernel
theorem dJ13_bitCount_95d88_25 : decode cJ13_bitCount_95d88 25 = .ok (.lload_n 0, 1) := by decide +kernel
theorem dJ13_bitCount_95d88_26 : decode cJ13_bitCount_95d88 26 = .ok (.iconst 4, 1) := by decide +kernel
theorem dJ13_bitCount_95d88_27 : decode cJ13_bitCount_95d88 27 = .ok (.lushr, 1) := by decide +kernel
theorem dJ13_bitCount_95d88_28 : decode cJ13_bitCount_95d88 28 = .ok (.ladd, 1) := by decide +kernel
theorem dJ13_bitCount_95d88_29 : decode cJ13_bitCount_95d88 29 = .ok (.ldc2_w 318, 3) := by decide +kernel
theorem dJ13_bitCount_95d88_32 : decode cJ13_bitCount_95d88 32 = .ok (.land, 1) := by decide +kernel
theorem dJ13_bitCount_95d88_33 : decode cJ13_bitCount_95d88 33 = .ok (.lstore_n 0, 1) := by decide +kernel
theorem dJ13_bitCount_95d88_34 : decode cJ13_bitCount_95d88 34 = .ok (.lload_n 0, 1) := by decide +kernel
theorem dJ13_bitCount_95d88_35 : decode cJ13_bitCount_95d88 35 = .ok (.lload_n 0, 1) := by decide +kernel
theorem dJ13_bitCount_95d88_36 : decode cJ13_bitCount_95d88 36 = .ok (.bipush 8, 2) := by decide +kernel
theorem dJ13_bitCount_95d88_38 : decode cJ13_bitCount_95d88 38 = .ok (.lushr, 1) := by decide +kernel
theorem dJ13_bitCount_95d88_39 : decode cJ13_bitCount_95d88 39 = .ok (.ladd, 1) := by decide +kernel
theorem dJ13_bitCount_95d88_40 : decode cJ13_bitCount_95d88 40 = .ok (.lstore_n 0, 1) := by decide +kernel
theorem dJ13_bitCount_95d88_41 : decode cJ13_bitCount_95d88 41 = .ok (.lload_n 0, 1) := by decide +kernel
theorem dJ13_bitCount_95d88_42 : decode cJ13_bitCount_95d88 42 = .ok (.lload_n 0, 1) := by decide +kernel
theorem dJ13_bitCount_95d88_43 : decode cJ13_bitCount_95d88 43 = .ok (.bipush 16, 2) := by decide +kernel
theorem dJ13_bitCount_95d88_45 : decode cJ13_bitCount_95d88 45 = .ok (.lushr, 1) := by decide +kernel
theorem dJ13_bitCount_95d88_46 : decode cJ13_bitCount_95d88 46 = .ok (.ladd, 1) := by decide +kernel
theorem dJ13_bitCount_95d88_47 : decode cJ13_bitCount_95d88 47 = .ok (.lstore_n 0, 1) := by decide +kernel
theorem dJ13_bitCount_95d88_48 : decode cJ13_bitCount_95d88 48 = .ok (.lload_n 0, 1) := by decide +kernel
theorem dJ13_bitCount_95d88_49 : decode cJ13_bitCount_95d88 49 = .ok (.lload_n 0, 1) := by decide +kernel
theorem dJ13_bitCount_95d88_50 : decode cJ13_bitCount_95d88 50 = .ok (.bipush 32, 2) := by decide +kernel
theorem dJ13_bitCount_95d88_52 : decode cJ13_bitCount_95d88 52 = .ok (.lushr, 1) := by decide +kernel
theorem dJ13_bitCount_95d88_53 : decode cJ13_bitCount_95d88 53 = .ok (.ladd, 1) := by decide +kernel
theorem dJ13_bitCount_95d88_54 : decode cJ13_bitCount_95d88 54 = .ok (.lstore_n 0, 1) := by decide +kernel
theorem dJ13_bitCount_95d88_55 : decode cJ13_bitCount_95d88 55 = .ok (.lload_n 0, 1) := by decide +kernel
theorem dJ13_bitCount_95d88_56 : decode cJ13_bitCount_95d88 56 = .ok (.l2i, 1) := by decide +kernel
theorem dJ13_bitCount_95d88_57 : decode cJ13_bitCount_95d88 57 = .ok (.bipush 127, 2) := by decide +kernel
theorem dJ13_bitCount_95d88_59 : decode cJ13_bitCount_95d88 59 = .ok (.iand, 1) := by decide +kernel
theorem dJ13_bitCount_95d88_60 : decode cJ13_bitCount_95d88 60 = .ok (.ireturn, 1) := by decide +kernel
def kJ13_bitCount_95d88_55 (mc ms : Nat) (X : Nat → zV) (Q : zQt) : zT :=
  zll 0 <| zl2i <| zc (.int 127) <| zii (fun x y => x &&& y) <| zri Q
def kJ13_bitCount_95d88_48 (mc ms : Nat) (X : Nat → zV) (Q : zQt) : zT :=
  zll 0 <| zll 0 <| zc (.int 32) <| zji (fun x y => (x.toUInt64 >>> (y.toInt64.toUInt64 &&& Int64.toUInt64 63)).toInt64) <| zjj (fun x y => x + y) <| zslN 0 <| kJ13_bitCount_95d88_55 mc ms X Q
def kJ13_bitCount_95d88_41 (mc ms : Nat) (X : Nat → zV) (Q : zQt) : zT :=
  zll 0 <| zll 0 <| zc (.int 16) <| zji (fun x y => (x.toUInt64 >>> (y.toInt64.toUInt64 &&& Int64.toUInt64 63)).toInt64) <| zjj (fun x y => x + y) <| zslN 0 <| kJ13_bitCount_95d88_48 mc ms X Q
def kJ13_bitCount_95d88_34 (mc ms : Nat) (X : Nat → zV) (Q : zQt) : zT :=
  zll 0 <| zll 0 <| zc (.int 8) <| zji (fun x y => (x.toUInt64 >>> (y.toInt64.toUInt64 &&& Int64.toUInt64 63)).toInt64) <| zjj (fun x y => x + y) <| zslN 0 <| kJ13_bitCount_95d88_41 mc ms X Q
def kJ13_bitCount_95d88_24 (mc ms : Nat) (X : Nat → zV) (Q : zQt) : zT :=
  zll 0 <| zll 0 <| zc (.int 4) <| zji (fun x y => (x.toUInt64 >>> (y.toInt64.toUInt64 &&& Int64.toUInt64 63)).toInt64) <| zjj (fun x y => x + y) <| zc (.long 1085102592571150095) <| zjj (fun x y => x &&& y) <| zslN 0 <| kJ13_bitCount_95d88_34 mc ms X Q
def kJ13_bitCount_95d88_10 (mc ms : Nat) (X : Nat → zV) (Q : zQt) : zT :=
  zll 0 <| zc (.long 3689348814741910323) <| zjj (fun x y => x &&& y) <| zll 0 <| zc (.int 2) <| zji (fun x y => (x.toUInt64 >>> (y.toInt64.toUInt64 &&& Int64.toUInt64 63)).toInt64) <| zc (.long 3689348814741910323) <| zjj (fun x y => x &&& y) <| zjj (fun x y => x + y) <| zslN 0 <| kJ13_bitCount_95d88_24 mc ms X Q
def aJ13_bitCount_95d88_0 (mc ms : Nat) (X : Nat → zV) (Q : zQt) : zT :=
  zll 0 <| zll 0 <| zc (.int 1) <| zji (fun x y => (x.toUInt64 >>> (y.toInt64.toUInt64 &&& Int64.toUInt64 63)).toInt64) <| zc (.long 6148914691236517205) <| zjj (fun x y => x &&& y) <| zjj (fun x y => x - y) <| zslN 0 <| kJ13_bitCount_95d88_10 mc ms X Q
def lvJ13_bitCount_95d88 : Nat → List Nat := fun L => match L with
  | 0 => [0]
  | _ => []
def wJ13_bitCount_95d88 : zSp := fun mc ms av M Q => ((zlay av).length ≤ 2 ∧ zpick (zlay av) [0] = some av) ∧ ∀ X : Nat → zV, zin 2 [0] (aJ13_bitCount_95d88_0 mc ms X Q) X 0 → X 0 0 0 av [] M
set_option maxRecDepth 100000 in
set_option maxHeartbeats 4000000 in
theorem sJ13_bitCount_95d88 (l : Launch) (G : zG) : zSnd l G yJ13_bitCount_95d88 cJ13_bitCount_95d88 2 (some .int) 0 0 wJ13_bitCount_95d88 := by
  refine zmk [0] (by decide) (fun mc ms av M Q h => h.1) ?_
  intro p e R s m args below meth c mc ms av M Q hC hRf hRl hr hnm h lv hlv
  obtain ⟨X, hXe⟩ : ∃ X : Nat → zV, X = fun L u v vs st M => ∀ lv, zpick lv (lvJ13_bitCount_95d88 L) = some vs → zAt p l e R s m args below meth c (MQ below (zQ G Q) args s mc ms (zA G)) G 2 L u v lv st M := ⟨_, rfl⟩
  have hJ : ∀ L, zOk p l e R s m args below meth c (MQ below (zQ G Q) args s mc ms (zA G)) G 2 L (zj X L (lvJ13_bitCount_95d88 L)) := fun L => S_jump (fun u v lv vs st M hp hx => by rw [hXe] at hx; exact hx lv hp)
  have hB0 : zin 2 [0] (aJ13_bitCount_95d88_0 mc ms X Q) X 0 := by
    intro u v vs st M hb
    rw [hXe]
    refine fun lv hp => S_block (L := 0) (live := [0]) ?_ u v lv vs st M hp hb
    unfold aJ13_bitCount_95d88_0
    refine S_lload_n (pc := 0) hC dJ13_bitCount_95d88_0 rfl ?_
    refine S_lload_n (pc := 1) hC dJ13_bitCount_95d88_1 rfl ?_
    refine S_iconst (pc := 2) hC dJ13_bitCount_95d88_2 (by decide) ?_
    refine S_lushr (pc := 3) hC dJ13_bitCount_95d88_3 ?_
    refine S_ldc2 (pc := 4) hC wd_440 dJ13_bitCount_95d88_4 ?_
    refine S_land (pc := 7) hC dJ13_bitCount_95d88_7 ?_
    refine S_lsub (pc := 8) hC dJ13_bitCount_95d88_8 ?_
    refine S_lstore_n_N (pc := 9) hC dJ13_bitCount_95d88_9 rfl (by decide) ?_
    unfold kJ13_bitCount_95d88_10
    refine S_lload_n (pc := 10) hC dJ13_bitCount_95d88_10 rfl ?_
    refine S_ldc2 (pc := 11) hC wd_441 dJ13_bitCount_95d88_11 ?_
    refine S_land (pc := 14) hC dJ13_bitCount_95d88_14 ?_
    refine S_lload_n (pc := 15) hC dJ13_bitCount_95d88_15 rfl ?_
    refine S_iconst (pc := 16) hC dJ13_bitCount_95d88_16 (by decide) ?_
    refine S_lushr (pc := 17) hC dJ13_bitCount_95d88_17 ?_
    refine S_ldc2 (pc := 18) hC wd_441 dJ13_bitCount_95d88_18 ?_
    refine S_land (pc := 21) hC dJ13_bitCount_95d88_21 ?_
    refine S_ladd (pc := 22) hC dJ13_bitCount_95d88_22 ?_
    refine S_lstore_n_N (pc := 23) hC dJ13_bitCount_95d88_23 rfl (by decide) ?_
    unfold kJ13_bitCount_95d88_24
    refine S_lload_n (pc := 24) hC dJ13_bitCount_95d88_24 rfl ?_
    refine S_lload_n (pc := 25) hC dJ13_bitCount_95d88_25 rfl ?_
    refine S_iconst (pc := 26) hC dJ13_bitCount_95d88_26 (by decide) ?_
    refine S_lushr (pc := 27) hC dJ13_bitCount_95d88_27 ?_
    refine S_ladd (pc := 28) hC dJ13_bitCount_95d88_28 ?_
    refine S_ldc2 (pc := 29) hC wd_442 dJ13_bitCount_95d88_29 ?_
    refine S_land (pc := 32) hC dJ13_bitCount_95d88_32 ?_
    refine S_lstore_n_N (pc := 33) hC dJ13_bitCount_95d88_33 rfl (by decide) ?_
    unfold kJ13_bitCount_95d88_34
    refine S_lload_n (pc := 34) hC dJ13_bitCount_95d88_34 rfl ?_
    refine S_lload_n (pc := 35) hC dJ13_bitCount_95d88_35 rfl ?_
    refine S_bipush (pc := 36) hC dJ13_bitCount_95d88_36 (by decide) ?_
    refine S_lushr (pc := 38) hC dJ13_bitCount_95d88_38 ?_
    refine S_ladd (pc := 39) hC dJ13_bitCount_95d88_39 ?_
    refine S_lstore_n_N (pc := 40) hC dJ13_bitCount_95d88_40 rfl (by decide) ?_
    unfold kJ13_bitCount_95d88_41
    refine S_lload_n (pc := 41) hC dJ13_bitCount_95d88_41 rfl ?_
    refine S_lload_n (pc := 42) hC dJ13_bitCount_95d88_42 rfl ?_
    refine S_bipush (pc := 43) hC dJ13_bitCount_95d88_43 (by decide) ?_
    refine S_lushr (pc := 45) hC dJ13_bitCount_95d88_45 ?_
    refine S_ladd (pc := 46) hC dJ13_bitCount_95d88_46 ?_
    refine S_lstore_n_N (pc := 47) hC dJ13_bitCount_95d88_47 rfl (by decide) ?_
    unfold kJ13_bitCount_95d88_48
    refine S_lload_n (pc := 48) hC dJ13_bitCount_95d88_48 rfl ?_
    refine S_lload_n (pc := 49) hC dJ13_bitCount_95d88_49 rfl ?_
    refine S_bipush (pc := 50) hC dJ13_bitCount_95d88_50 (by decide) ?_
    refine S_lushr (pc := 52) hC dJ13_bitCount_95d88_52 ?_
    refine S_ladd (pc := 53) hC dJ13_bitCount_95d88_53 ?_
    refine S_lstore_n_N (pc := 54) hC dJ13_bitCount_95d88_54 rfl (by decide) ?_
    unfold kJ13_bitCount_95d88_55
    refine S_lload_n (pc := 55) hC dJ13_bitCount_95d88_55 rfl ?_
    refine S_l2i (pc := 56) hC dJ13_bitCount_95d88_56 ?_
    refine S_bipush (pc := 57) hC dJ13_bitCount_95d88_57 (by decide) ?_
    refine S_iand (pc := 59) hC dJ13_bitCount_95d88_59 ?_
    exact S_ireturn (pc := 60) hC hr dJ13_bitCount_95d88_60
  have := h.2 X hB0
  rw [hXe] at this
  exact this lv hlv
theorem vcJ13_bitCount_95d88_55 {mc ms : Nat} {X : Nat → zV} {Q : zQt} {M : zM} {x0 : Int64}   (h : Q (some (.int (((x0 : Int64).toInt32 &&& (127 : Int32))))) M) : kJ13_bitCount_95d88_55 mc ms X Q 0 0 [some (.long x0), none] [] M := h
theorem vcJ13_bitCount_95d88_48 {mc ms : Nat} {X : Nat → zV} {Q : zQt} {M : zM} {x0 : Int64}   (h : ∀ y54 : Int64, y54 = (x0 + ((x0.toUInt64 >>> ((32 : Int32).toInt64.toUInt64 &&& Int64.toUInt64 63)).toInt64)) → Q (some (.int (((y54 : Int64).toInt32 &&& (127 : Int32))))) M) : kJ13_bitCount_95d88_48 mc ms X Q 0 0 [some (.long x0), none] [] M := (fun y54 e54 => have h54 := h y54 e54; (vcJ13_bitCount_95d88_55  h54))
theorem vcJ13_bitCount_95d88_41 {mc ms : Nat} {X : Nat → zV} {Q : zQt} {M : zM} {x0 : Int64}   (h : ∀ y47 : Int64, y47 = (x0 + ((x0.toUInt64 >>> ((16 : Int32).toInt64.toUInt64 &&& Int64.toUInt64 63)).toInt64)) → ∀ y54 : Int64, y54 = (y47 + ((y47.toUInt64 >>> ((32 : Int32).toInt64.toUInt64 &&& Int64.toUInt64 63)).toInt64)) → Q (some (.int (((y54 : Int64).toInt32 &&& (127 : Int32))))) M) : kJ13_bitCount_95d88_41 mc ms X Q 0 0 [some (.long x0), none] [] M := (fun y47 e47 => have h47 := h y47 e47; (vcJ13_bitCount_95d88_48  h47))
theorem vcJ13_bitCount_95d88_34 {mc ms : Nat} {X : Nat → zV} {Q : zQt} {M : zM} {x0 : Int64}   (h : ∀ y40 : Int64, y40 = (x0 + ((x0.toUInt64 >>> ((8 : Int32).toInt64.toUInt64 &&& Int64.toUInt64 63)).toInt64)) → ∀ y47 : Int64, y47 = (y40 + ((y40.toUInt64 >>> ((16 : Int32).toInt64.toUInt64 &&& Int64.toUInt64 63)).toInt64)) → ∀ y54 : Int64, y54 = (y47 + ((y47.toUInt64 >>> ((32 : Int32).toInt64.toUInt64 &&& Int64.toUInt64 63)).toInt64)) → Q (some (.int (((y54 : Int64).toInt32 &&& (127 : Int32))))) M) : kJ13_bitCount_95d88_34 mc ms X Q 0 0 [some (.long x0), none] [] M := (fun y40 e40 => have h40 := h y40 e40; (vcJ13_bitCount_95d88_41  h40))
theorem vcJ13_bitCount_95d88_24 {mc ms : Nat} {X : Nat → zV} {Q : zQt} {M : zM} {x0 : Int64}   (h : ∀ y33 : Int64, y33 = ((x0 + ((x0.toUInt64 >>> ((4 : Int32).toInt64.toUInt64 &&& Int64.toUInt64 63)).toInt64)) &&& (1085102592571150095 : Int64)) → ∀ y40 : Int64, y40 = (y33 + ((y33.toUInt64 >>> ((8 : Int32).toInt64.toUInt64 &&& Int64.toUInt64 63)).toInt64)) → ∀ y47 : Int64, y47 = (y40 + ((y40.toUInt64 >>> ((16 : Int32).toInt64.toUInt64 &&& Int64.toUInt64 63)).toInt64)) → ∀ y54 : Int64, y54 = (y47 + ((y47.toUInt64 >>> ((32 : Int32).toInt64.toUInt64 &&& Int64.toUInt64 63)).toInt64)) → Q (some (.int (((y54 : Int64).toInt32 &&& (127 : Int32))))) M) : kJ13_bitCount_95d88_24 mc ms X Q 0 0 [some (.long x0), none] [] M := (fun y33 e33 => have h33 := h y33 e33; (vcJ13_bitCount_95d88_34  h33))
theorem vcJ13_bitCount_95d88_10 {mc ms : Nat} {X : Nat → zV} {Q : zQt} {M : zM} {x0 : Int64}   (h : ∀ y23 : Int64, y23 = ((x0 &&& (3689348814741910323 : Int64)) + (((x0.toUInt64 >>> ((2 : Int32).toInt64.toUInt64 &&& Int64.toUInt64 63)).toInt64) &&& (3689348814741910323 : Int64))) → ∀ y33 : Int64, y33 = ((y23 + ((y23.toUInt64 >>> ((4 : Int32).toInt64.toUInt64 &&& Int64.toUInt64 63)).toInt64)) &&& (1085102592571150095 : Int64)) → ∀ y40 : Int64, y40 = (y33 + ((y33.toUInt64 >>> ((8 : Int32).toInt64.toUInt64 &&& Int64.toUInt64 63)).toInt64)) → ∀ y47 : Int64, y47 = (y40 + ((y40.toUInt64 >>> ((16 : Int32).toInt64.toUInt64 &&& Int64.toUInt64 63)).toInt64)) → ∀ y54 : Int64, y54 = (y47 + ((y47.toUInt64 >>> ((32 : Int32).toInt64.toUInt64 &&& Int64.toUInt64 63)).toInt64)) → Q (some (.int (((y54 : Int64).toInt32 &&& (127 : Int32))))) M) : kJ13_bitCount_95d88_10 mc ms X Q 0 0 [some (.long x0), none] [] M := (fun y23 e23 => have h23 := h y23 e23; (vcJ13_bitCount_95d88_24  h23))
theorem vJ13_bitCount_95d88_0 {mc ms : Nat} {X : Nat → zV} {Q : zQt} {M : zM} {x0 : Int64}   (h : ∀ y9 : Int64, y9 = (x0 - (((x0.toUInt64 >>> ((1 : Int32).toInt64.toUInt64 &&& Int64.toUInt64 63)).toInt64) &&& (6148914691236517205 : Int64))) → ∀ y23 : Int64, y23 = ((y9 &&& (3689348814741910323 : Int64)) + (((y9.toUInt64 >>> ((2 : Int32).toInt64.toUInt64 &&& Int64.toUInt64 63)).toInt64) &&& (3689348814741910323 : Int64))) → ∀ y33 : Int64, y33 = ((y23 + ((y23.toUInt64 >>> ((4 : Int32).toInt64.toUInt64 &&& Int64.toUInt64 63)).toInt64)) &&& (1085102592571150095 : Int64)) → ∀ y40 : Int64, y40 = (y33 + ((y33.toUInt64 >>> ((8 : Int32).toInt64.toUInt64 &&& Int64.toUInt64 63)).toInt64)) → ∀ y47 : Int64, y47 = (y40 + ((y40.toUInt64 >>> ((16 : Int32).toInt64.toUInt64 &&& Int64.toUInt64 63)).toInt64)) → ∀ y54 : Int64, y54 = (y47 + ((y47.toUInt64 >>> ((32 : Int32).toInt64.toUInt64 &&& Int64.toUInt64 63)).toInt64)) → Q (some (.int (((y54 : Int64).toInt32 &&& (127 : Int32))))) M) : aJ13_bitCount_95d88_0 mc ms X Q 0 0 [some (.long x0), none] [] M := (fun y9 e9 => have h9 := h y9 e9; (vcJ13_bitCount_95d88_10  h9))
theorem dJ7_fill_53178_0 : decode cJ7_fill_53178 0 = .ok (.iconst 0, 1) := by decide +kernel
theorem dJ7_fill_53178_1 : decode cJ7_fill_53178 1 = .ok (.istore_n 2, 1) := by decide +kernel
theorem dJ7_fill_53178_2 : decode cJ7_fill_53178 2 = .ok (.aload_n 0, 1) := by decide +kernel
theorem dJ7_fill_53178_3 : decode cJ7_fill_53178 3 = .ok (.arraylength, 1) := by decide +kernel
theorem dJ7_fill_53178_4 : decode cJ7_fill_53178 4 = .ok (.istore_n 3, 1) := by decide +kernel
theorem dJ7_fill_53178_5 : decode cJ7_fill_53178 5 = .ok (.iload_n 2, 1) := by decide +kernel
theorem dJ7_fill_53178_6 : decode cJ7_fill_53178 6 = .ok (.iload_n 3, 1) := by decide +kernel
theorem dJ7_fill_53178_7 : decode cJ7_fill_53178 7 = .ok (.if_icmp .ge 13, 3) := by decide +kernel
theorem dJ7_fill_53178_10 : decode cJ7_fill_53178 10 = .ok (.aload_n 0, 1) := by decide +kernel
theorem dJ7_fill_53178_11 : decode cJ7_fill_53178 11 = .ok (.iload_n 2, 1) := by decide +kernel
theorem dJ7_fill_53178_12 : decode cJ7_fill_53178 12 = .ok (.iload_n 1, 1) := by decide +kernel
theorem dJ7_fill_53178_13 : decode cJ7_fill_53178 13 = .ok (.iastore, 1) := by decide +kernel
theorem dJ7_fill_53178_14 : decode cJ7_fill_53178 14 = .ok (.iinc 2 1, 3) := by decide +kernel
theorem dJ7_fill_53178_17 : decode cJ7_fill_53178 17 = .ok (.goto (-12), 3) := by decide +kernel
theorem dJ7_fill_53178_20 : decode cJ7_fill_53178 20 = .ok (.return_, 1) := by decide +kernel
def aJ7_fill_53178_0 (mc ms : Nat) (X : Nat → zV) (Q : zQt) : zT :=
  zc (.int 0) <| zsi 2 <| zla 0 <| zlen <| zsi 3 <| zj X 5 [0, 1, 2, 3]
def aJ7_fill_53178_5 (mc ms : Nat) (X : Nat → zV) (Q : zQt) : zT :=
  zli 2 <| zli 3 <| zic (fun x y => y ≤ x) (zrv Q) <| zla 0 <| zli 2 <| zli 1 <| zas 1 (fun x => x) <| zinc 2 1 <| zj X 5 [0, 1, 2, 3]
def lvJ7_fill_53178 : Nat → List Nat := fun L => match L with
  | 0 => [0, 1]
  | 5 => [0, 1, 2, 3]
  | _ => []
def wJ7_fill_53178 : zSp := fun mc ms av M Q => ((zlay av).length ≤ 4 ∧ zpick (zlay av) [0, 1] = some av) ∧ ∀ X : Nat → zV, zin 4 [0, 1] (aJ7_fill_53178_0 mc ms X Q) X 0 → zin 4 [0, 1, 2, 3] (aJ7_fill_53178_5 mc ms X Q) X 5 → X 0 0 0 av [] M
set_option maxRecDepth 100000 in
set_option maxHeartbeats 4000000 in
theorem sJ7_fill_53178 (l : Launch) (G : zG) : zSnd l G yJ7_fill_53178 cJ7_fill_53178 4 none 0 0 wJ7_fill_53178 := by
  refine zmk [0, 1] (by decide) (fun mc ms av M Q h => h.1) ?_
  intro p e R s m args below meth c mc ms av M Q hC hRf hRl hr hnm h lv hlv
  obtain ⟨X, hXe⟩ : ∃ X : Nat → zV, X = fun L u v vs st M => ∀ lv, zpick lv (lvJ7_fill_53178 L) = some vs → zAt p l e R s m args below meth c (MQ below (zQ G Q) args s mc ms (zA G)) G 4 L u v lv st M := ⟨_, rfl⟩
  have hJ : ∀ L, zOk p l e R s m args below meth c (MQ below (zQ G Q) args s mc ms (zA G)) G 4 L (zj X L (lvJ7_fill_53178 L)) := fun L => S_jump (fun u v lv vs st M hp hx => by rw [hXe] at hx; exact hx lv hp)
  have hB0 : zin 4 [0, 1] (aJ7_fill_53178_0 mc ms X Q) X 0 := by
    intro u v vs st M hb
    rw [hXe]
    refine fun lv hp => S_block (L := 0) (live := [0, 1]) ?_ u v lv vs st M hp hb
    unfold aJ7_fill_53178_0
    refine S_iconst (pc := 0) hC dJ7_fill_53178_0 (by decide) ?_
    refine S_istore_n (pc := 1) hC dJ7_fill_53178_1 rfl (by decide) ?_
    refine S_aload_n (pc := 2) hC dJ7_fill_53178_2 rfl ?_
    refine S_alen (pc := 3) hC dJ7_fill_53178_3 ?_
    refine S_istore_n (pc := 4) hC dJ7_fill_53178_4 rfl (by decide) ?_
    exact hJ 5
  have hB5 : zin 4 [0, 1, 2, 3] (aJ7_fill_53178_5 mc ms X Q) X 5 := by
    intro u v vs st M hb
    rw [hXe]
    refine fun lv hp => S_block (L := 5) (live := [0, 1, 2, 3]) ?_ u v lv vs st M hp hb
    unfold aJ7_fill_53178_5
    refine S_iload_n (pc := 5) hC dJ7_fill_53178_5 rfl ?_
    refine S_iload_n (pc := 6) hC dJ7_fill_53178_6 rfl ?_
    refine S_icmp_ge (pc := 7) (tgt := 20) hC dJ7_fill_53178_7 (by decide) ?_ ?_
    · exact S_vreturn (pc := 20) hC hr dJ7_fill_53178_20
    · refine S_aload_n (pc := 10) hC dJ7_fill_53178_10 rfl ?_
      refine S_iload_n (pc := 11) hC dJ7_fill_53178_11 rfl ?_
      refine S_iload_n (pc := 12) hC dJ7_fill_53178_12 rfl ?_
      refine S_iastore (pc := 13) hC dJ7_fill_53178_13 ?_
      refine S_iinc (pc := 14) hC dJ7_fill_53178_14 (by decide) (by decide) ?_
      refine S_goto (pc := 17) (tgt := 5) hC dJ7_fill_53178_17 (by decide) ?_
      exact hJ 5
  have := h.2 X hB0 hB5
  rw [hXe] at this
  exact this lv hlv
theorem vJ7_fill_53178_0 {mc ms : Nat} {X : Nat → zV} {Q : zQt} {M : zM} {x0 : Nat} {x0n : Nat} {x1 : Int32}  (hx0 : zsh M x0 = some (1, x0n)) (h : X 5 0 0 [.ref x0, .int x1, .int 0, .int (Int32.ofNat x0n)] [] M) : aJ7_fill_53178_0 mc ms X Q 0 0 [some (.ref x0), some (.int x1), none, none] [] M := ⟨1, x0n, hx0, by decide, by decide, h⟩
theorem vJ7_fill_53178_5 {mc ms : Nat} {X : Nat → zV} {Q : zQt} {M : zM} {x0 : Nat} {x0n : Nat} {x1 : Int32} {x2 : Int32} {x3 : Int32}  (hx0 : zsh M x0 = some (1, x0n)) (h : (x3 ≤ x2 → Q none M) ∧ (¬ x3 ≤ x2 → vp_in x2 x0n ∧ ∀ M13 : zM, M13 = (zsI M x0 (x2 : Int32).toNatClampNeg x1) → X 5 0 0 [.ref x0, .int x1, .int (x2 + 1), .int x3] [] M13)) : aJ7_fill_53178_5 mc ms X Q 0 0 [some (.ref x0), some (.int x1), some (.int x2), some (.int x3)] [] M := ⟨fun c7 => (h.1 c7), fun c7 => ⟨x0n, hx0, (h.2 c7).1, (have h13 := (h.2 c7).2 _ rfl; h13)⟩⟩
theorem dJ7_fill_d0a16_0 : decode cJ7_fill_d0a16 0 = .ok (.iconst 0, 1) := by decide +kernel
theorem dJ7_fill_d0a16_1 : decode cJ7_fill_d0a16 1 = .ok (.istore_n 3, 1) := by decide +kernel
theorem dJ7_fill_d0a16_2 : decode cJ7_fill_d0a16 2 = .ok (.aload_n 0, 1) := by decide +kernel
theorem dJ7_fill_d0a16_3 : decode cJ7_fill_d0a16 3 = .ok (.arraylength, 1) := by decide +kernel
theorem dJ7_fill_d0a16_4 : decode cJ7_fill_d0a16 4 = .ok (.istore 4, 2) := by decide +kernel
theorem dJ7_fill_d0a16_6 : decode cJ7_fill_d0a16 6 = .ok (.iload_n 3, 1) := by decide +kernel
theorem dJ7_fill_d0a16_7 : decode cJ7_fill_d0a16 7 = .ok (.iload 4, 2) := by decide +kernel
theorem dJ7_fill_d0a16_9 : decode cJ7_fill_d0a16 9 = .ok (.if_icmp .ge 13, 3) := by decide +kernel
theorem dJ7_fill_d0a16_12 : decode cJ7_fill_d0a16 12 = .ok (.aload_n 0, 1) := by decide +kernel
theorem dJ7_fill_d0a16_13 : decode cJ7_fill_d0a16 13 = .ok (.iload_n 3, 1) := by decide +kernel
theorem dJ7_fill_d0a16_14 : decode cJ7_fill_d0a16 14 = .ok (.lload_n 1, 1) := by decide +kernel
theorem dJ7_fill_d0a16_15 : decode cJ7_fill_d0a16 15 = .ok (.lastore, 1) := by decide +kernel
theorem dJ7_fill_d0a16_16 : decode cJ7_fill_d0a16 16 = .ok (.iinc 3 1, 3) := by decide +kernel
theorem dJ7_fill_d0a16_19 : decode cJ7_fill_d0a16 19 = .ok (.goto (-13), 3) := by decide +kernel
theorem dJ7_fill_d0a16_22 : decode cJ7_fill_d0a16 22 = .ok (.return_, 1) := by decide +kernel
def aJ7_fill_d0a16_0 (mc ms : Nat) (X : Nat → zV) (Q : zQt) : zT :=
  zc (.int 0) <| zsi 3 <| zla 0 <| zlen <| zsi 4 <| zj X 6 [0, 1, 3, 4]
def aJ7_fill_d0a16_6 (mc ms : Nat) (X : Nat → zV) (Q : zQt) : zT :=
  zli 3 <| zli 4 <| zic (fun x y => y ≤ x) (zrv Q) <| zla 0 <| zli 3 <| zll 1 <| zasl <| zinc 3 1 <| zj X 6 [0, 1, 3, 4]
def lvJ7_fill_d0a16 : Nat → List Nat := fun L => match L with
  | 0 => [0, 1]
  | 6 => [0, 1, 3, 4]
  | _ => []
def wJ7_fill_d0a16 : zSp := fun mc ms av M Q => ((zlay av).length ≤ 5 ∧ zpick (zlay av) [0, 1] = some av) ∧ ∀ X : Nat → zV, zin 5 [0, 1] (aJ7_fill_d0a16_0 mc ms X Q) X 0 → zin 5 [0, 1, 3, 4] (aJ7_fill_d0a16_6 mc ms X Q) X 6 → X 0 0 0 av [] M
set_option maxRecDepth 100000 in
set_option maxHeartbeats 4000000 in
theorem sJ7_fill_d0a16 (l : Launch) (G : zG) : zSnd l G yJ7_fill_d0a16 cJ7_fill_d0a16 5 none 0 0 wJ7_fill_d0a16 := by
  refine zmk [0, 1] (by decide) (fun mc ms av M Q h => h.1) ?_
  intro p e R s m args below meth c mc ms av M Q hC hRf hRl hr hnm h lv hlv
  obtain ⟨X, hXe⟩ : ∃ X : Nat → zV, X = fun L u v vs st M => ∀ lv, zpick lv (lvJ7_fill_d0a16 L) = some vs → zAt p l e R s m args below meth c (MQ below (zQ G Q) args s mc ms (zA G)) G 5 L u v lv st M := ⟨_, rfl⟩
  have hJ : ∀ L, zOk p l e R s m args below meth c (MQ below (zQ G Q) args s mc ms (zA G)) G 5 L (zj X L (lvJ7_fill_d0a16 L)) := fun L => S_jump (fun u v lv vs st M hp hx => by rw [hXe] at hx; exact hx lv hp)
  have hB0 : zin 5 [0, 1] (aJ7_fill_d0a16_0 mc ms X Q) X 0 := by
    intro u v vs st M hb
    rw [hXe]
    refine fun lv hp => S_block (L := 0) (live := [0, 1]) ?_ u v lv vs st M hp hb
    unfold aJ7_fill_d0a16_0
    refine S_iconst (pc := 0) hC dJ7_fill_d0a16_0 (by decide) ?_
    refine S_istore_n (pc := 1) hC dJ7_fill_d0a16_1 rfl (by decide) ?_
    refine S_aload_n (pc := 2) hC dJ7_fill_d0a16_2 rfl ?_
    refine S_alen (pc := 3) hC dJ7_fill_d0a16_3 ?_
    refine S_istore (pc := 4) hC dJ7_fill_d0a16_4 (by decide) ?_
    exact hJ 6
  have hB6 : zin 5 [0, 1, 3, 4] (aJ7_fill_d0a16_6 mc ms X Q) X 6 := by
    intro u v vs st M hb
    rw [hXe]
    refine fun lv hp => S_block (L := 6) (live := [0, 1, 3, 4]) ?_ u v lv vs st M hp hb
    unfold aJ7_fill_d0a16_6
    refine S_iload_n (pc := 6) hC dJ7_fill_d0a16_6 rfl ?_
    refine S_iload (pc := 7) hC dJ7_fill_d0a16_7 ?_
    refine S_icmp_ge (pc := 9) (tgt := 22) hC dJ7_fill_d0a16_9 (by decide) ?_ ?_
    · exact S_vreturn (pc := 22) hC hr dJ7_fill_d0a16_22
    · refine S_aload_n (pc := 12) hC dJ7_fill_d0a16_12 rfl ?_
      refine S_iload_n (pc := 13) hC dJ7_fill_d0a16_13 rfl ?_
      refine S_lload_n (pc := 14) hC dJ7_fill_d0a16_14 rfl ?_
      refine S_lastore (pc := 15) hC dJ7_fill_d0a16_15 ?_
      refine S_iinc (pc := 16) hC dJ7_fill_d0a16_16 (by decide) (by decide) ?_
      refine S_goto (pc := 19) (tgt := 6) hC dJ7_fill_d0a16_19 (by decide) ?_
      exact hJ 6
  have := h.2 X hB0 hB6
  rw [hXe] at this
  exact this lv hlv
theorem vJ7_fill_d0a16_0 {mc ms : Nat} {X : Nat → zV} {Q : zQt} {M : zM} {x0 : Nat} {x0n : Nat} {x1 : Int64}  (hx0 : zsh M x0 = some (2, x0n)) (h : X 6 0 0 [.ref x0, .long x1, .int 0, .int (Int32.ofNat x0n)] [] M) : aJ7_fill_d0a16_0 mc ms X Q 0 0 [some (.ref x0), some (.long x1), none, none, none] [] M := ⟨2, x0n, hx0, by decide, by decide, h⟩
theorem vJ7_fill_d0a16_6 {mc ms : Nat} {X : Nat → zV} {Q : zQt} {M : zM} {x0 : Nat} {x0n : Nat} {x1 : Int64} {x3 : Int32} {x4 : Int32}  (hx0 : zsh M x0 = some (2, x0n)) (h : (x4 ≤ x3 → Q none M) ∧ (¬ x4 ≤ x3 → vp_in x3 x0n ∧ ∀ M15 : zM, M15 = (zsJ M x0 (x3 : Int32).toNatClampNeg x1) → X 6 0 0 [.ref x0, .long x1, .int (x3 + 1), .int x4] [] M15)) : aJ7_fill_d0a16_6 mc ms X Q 0 0 [some (.ref x0), some (.long x1), none, some (.int x3), some (.int x4)] [] M := ⟨fun c9 => (h.1 c9), fun c9 => ⟨x0n, hx0, (h.2 c9).1, (have h15 := (h.2 c9).2 _ rfl; h15)⟩⟩
