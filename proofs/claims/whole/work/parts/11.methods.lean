theorem dJ13_bitCount_95d88_0 : decode cJ13_bitCount_95d88 0 = .ok (.lload_n 0, 1) := by decide +kernel
theorem dJ13_bitCount_95d88_1 : decode cJ13_bitCount_95d88 1 = .ok (.lload_n 0, 1) := by decide +kernel
theorem dJ13_bitCount_95d88_2 : decode cJ13_bitCount_95d88 2 = .ok (.iconst 1, 1) := by decide +kernel
theorem dJ13_bitCount_95d88_3 : decode cJ13_bitCount_95d88 3 = .ok (.lushr, 1) := by decide +kernel
theorem dJ13_bitCount_95d88_4 : decode cJ13_bitCount_95d88 4 = .ok (.ldc2_w 314, 3) := by decide +kernel
theorem dJ13_bitCount_95d88_7 : decode cJ13_bitCount_95d88 7 = .ok (.land, 1) := by decide +kernel
theorem dJ13_bitCount_95d88_8 : decode cJ13_bitCount_95d88 8 = .ok (.lsub, 1) := by decide +kernel
theorem dJ13_bitCount_95d88_9 : decode cJ13_bitCount_95d88 9 = .ok (.lstore_n 0, 1) := by decide +kernel
theorem dJ13_bitCount_95d88_10 : decode cJ13_bitCount_95d88 10 = .ok (.lload_n 0, 1) := by decide +kernel
theorem dJ13_bitCount_95d88_11 : decode cJ13_bitCount_95d88 11 = .ok (.ldc2_w 316, 3) := by decide +kernel
theorem dJ13_bitCount_95d88_14 : decode cJ13_bitCount_95d88 14 = .ok (.land, 1) := by decide +kernel
theorem dJ13_bitCount_95d88_15 : decode cJ13_bitCount_95d88 15 = .ok (.lload_n 0, 1) := by decide +kernel
theorem dJ13_bitCount_95d88_16 : decode cJ13_bitCount_95d88 16 = .ok (.iconst 2, 1) := by decide +kernel
theorem dJ13_bitCount_95d88_17 : decode cJ13_bitCount_95d88 17 = .ok (.lushr, 1) := by decide +kernel
theorem dJ13_bitCount_95d88_18 : decode cJ13_bitCount_95d88 18 = .ok (.ldc2_w 316, 3) := by decide +kernel
theorem dJ13_bitCount_95d88_21 : decode cJ13_bitCount_95d88 21 = .ok (.land, 1) := by decide +kernel
theorem dJ13_bitCount_95d88_22 : decode cJ13_bitCount_95d88 22 = .ok (.ladd, 1) := by decide +kernel
theorem dJ13_bitCount_95d88_23 : decode cJ13_bitCount_95d88 23 = .ok (.lstore_n 0, 1) := by decide +kernel
theorem dJ13_bitCount_95d88_24 : decode cJ13_bitCount_95d88 24 = .ok (.lload_n 0, 1) := by decide +kernel
theorem dJ13_bitCount_95d88_25 : decode cJ13_bitCount_95d88 25 = .ok (.lload_n 0, 1) := by decide +kernel
theorem dJ13_bitCount_95d88_26 : decode cJ13_bitCount_95d88 26 = .ok (.iconst 4, 1) := by decide +kernel
theorem dJ13_bitCount_95d88_27 : decode cJ13_bitCount_95d88 27 = .ok (.lushr, 1) := by decide +kernel
theorem dJ13_bitCount_95d88_28 : decode cJ13_bitCount_95d88 28 = .ok (.ladd, 1) := by decide +kernel
theorem dJ13_bitCount_95d88_29 : decode cJ13_bitCount_95d88 29 = .ok (.ldc2_w 318, 3) := by decide +kernel
theorem dJ13_bitCount_95d88_32 : decode cJ13_bitCount_95d88 32 = .ok (.land, 1) := by decide +kernel
theorem dJ13_bitCount_95d88_33 : decode cJ13_bitCount_95d88 33 = .ok (.lstore_n 0, 1) := by decide +kernel
theorem dJ13_bitCount_95d88_34 : decode cJ13_bitCount_95d88 34 = .ok (.lload_n 0, 1) := by decide +kernel
theorem dJ13_bitCount_95d88_35 : decode cJ13_bitCount_95d88 35 = .ok (.lload_n 0, 1) := by decide +kernel
theorem dJ13_bitCount_95d88_36 : decode cJ13_bitCount_95d88 36 = .ok (.bipush 8, 2) := by decide +kernel
theorem dJ13_bitCount_95d88_38 : decode cJ13_bitCount_95d88 38 = .ok (.lushr, 1) := by decide +kernel
theorem dJ13_bitCount_95d88_39 : decode cJ13_bitCount_95d88 39 = .ok (.ladd, 1) := by decide +kernel
theorem dJ13_bitCount_95d88_40 : decode cJ13_bitCount_95d88 40 = .ok (.lstore_n 0, 1) := by decide +kernel
theorem dJ13_bitCount_95d88_41 : decode cJ13_bitCount_95d88 41 = .ok (.lload_n 0, 1) := by decide +kernel
theorem dJ13_bitCount_95d88_42 : decode cJ13_bitCount_95d88 42 = .ok (.lload_n 0, 1) := by decide +kernel
theorem dJ13_bitCount_95d88_43 : decode cJ13_bitCount_95d88 43 = .ok (.bipush 16, 2) := by decide +kernel
theorem dJ13_bitCount_95d88_45 : decode cJ13_bitCount_95d88 45 = .ok (.lushr, 1) := by decide +kernel
theorem dJ13_bitCount_95d88_46 : decode cJ13_bitCount_95d88 46 = .ok (.ladd, 1) := by decide +kernel
theorem dJ13_bitCount_95d88_47 : decode cJ13_bitCount_95d88 47 = .ok (.lstore_n 0, 1) := by decide +kernel
theorem dJ13_bitCount_95d88_48 : decode cJ13_bitCount_95d88 48 = .ok (.lload_n 0, 1) := by decide +kernel
theorem dJ13_bitCount_95d88_49 : decode cJ13_bitCount_95d88 49 = .ok (.lload_n 0, 1) := by decide +kernel
theorem dJ13_bitCount_95d88_50 : decode cJ13_bitCount_95d88 50 = .ok (.bipush 32, 2) := by decide +kernel
theorem dJ13_bitCount_95d88_52 : decode cJ13_bitCount_95d88 52 = .ok (.lushr, 1) := by decide +kernel
theorem dJ13_bitCount_95d88_53 : decode cJ13_bitCount_95d88 53 = .ok (.ladd, 1) := by decide +kernel
theorem dJ13_bitCount_95d88_54 : decode cJ13_bitCount_95d88 54 = .ok (.lstore_n 0, 1) := by decide +kernel
theorem dJ13_bitCount_95d88_55 : decode cJ13_bitCount_95d88 55 = .ok (.lload_n 0, 1) := by decide +kernel
theorem dJ13_bitCount_95d88_56 : decode cJ13_bitCount_95d88 56 = .ok (.l2i, 1) := by decide +kernel
theorem dJ13_bitCount_95d88_57 : decode cJ13_bitCount_95d88 57 = .ok (.bipush 127, 2) := by decide +kernel
theorem dJ13_bitCount_95d88_59 : decode cJ13_bitCount_95d88 59 = .ok (.iand, 1) := by decide +kernel
theorem dJ13_bitCount_95d88_60 : decode cJ13_bitCount_95d88 60 = .ok (.ireturn, 1) := by decide +kernel
def kJ13_bitCount_95d88_55 (mc ms : Nat) (X : Nat → zV) (Q : zQt) : zT :=
  zll 0 <| zl2i <| zc (.int 127) <| zii (fun x y => x &&& y) <| zri Q
def kJ13_bitCount_95d88_48 (mc ms : Nat) (X : Nat → zV) (Q : zQt) : zT :=
  zll 0 <| zll 0 <| zc (.int 32) <| zji (fun x y => (x.toUInt64 >>> (y.toInt64.toUInt64 &&& Int64.toUInt64 63)).toInt64) <| zjj (fun x y => x + y) <| zslN 0 <| kJ13_bitCount_95d88_55 mc ms X Q
def kJ13_bitCount_95d88_41 (mc ms : Nat) (X : Nat → zV) (Q : zQt) : zT :=
  zll 0 <| zll 0 <| zc (.int 16) <| zji (fun x y => (x.toUInt64 >>> (y.toInt64.toUInt64 &&& Int64.toUInt64 63)).toInt64) <| zjj (fun x y => x + y) <| zslN 0 <| kJ13_bitCount_95d88_48 mc ms X Q
def kJ13_bitCount_95d88_34 (mc ms : Nat) (X : Nat → zV) (Q : zQt) : zT :=
  zll 0 <| zll 0 <| zc (.int 8) <| zji (fun x y => (x.toUInt64 >>> (y.toInt64.toUInt64 &&& Int64.toUInt64 63)).toInt64) <| zjj (fun x y => x + y) <| zslN 0 <| kJ13_bitCount_95d88_41 mc ms X Q
def kJ13_bitCount_95d88_24 (mc ms : Nat) (X : Nat → zV) (Q : zQt) : zT :=
  zll 0 <| zll 0 <| zc (.int 4) <| zji (fun x y => (x.toUInt64 >>> (y.toInt64.toUInt64 &&& Int64.toUInt64 63)).toInt64) <| zjj (fun x y => x + y) <| zc (.long 1085102592571150095) <| zjj (fun x y => x &&& y) <| zslN 0 <| kJ13_bitCount_95d88_34 mc ms X Q
def kJ13_bitCount_95d88_10 (mc ms : Nat) (X : Nat → zV) (Q : zQt) : zT :=
  zll 0 <| zc (.long 3689348814741910323) <| zjj (fun x y => x &&& y) <| zll 0 <| zc (.int 2) <| zji (fun x y => (x.toUInt64 >>> (y.toInt64.toUInt64 &&& Int64.toUInt64 63)).toInt64) <| zc (.long 3689348814741910323) <| zjj (fun x y => x &&& y) <| zjj (fun x y => x + y) <| zslN 0 <| kJ13_bitCount_95d88_24 mc ms X Q
def aJ13_bitCount_95d88_0 (mc ms : Nat) (X : Nat → zV) (Q : zQt) : zT :=
  zll 0 <| zll 0 <| zc (.int 1) <| zji (fun x y => (x.toUInt64 >>> (y.toInt64.toUInt64 &&& Int64.toUInt64 63)).toInt64) <| zc (.long 6148914691236517205) <| zjj (fun x y => x &&& y) <| zjj (fun x y => x - y) <| zslN 0 <| kJ13_bitCount_95d88_10 mc ms X Q
def lvJ13_bitCount_95d88 : Nat → List Nat := fun L => match L with
  | 0 => [0]
  | _ => []
def wJ13_bitCount_95d88 : zSp := fun mc ms av M Q => ((zlay av).length ≤ 2 ∧ zpick (zlay av) [0] = some av) ∧ ∀ X : Nat → zV, zin 2 [0] (aJ13_bitCount_95d88_0 mc ms X Q) X 0 → X 0 0 0 av [] M
set_option maxRecDepth 100000 in
set_option maxHeartbeats 4000000 in
theorem sJ13_bitCount_95d88 (l : Launch) (G : zG) : zSnd l G yJ13_bitCount_95d88 cJ13_bitCount_95d88 2 (some .int) 0 0 wJ13_bitCount_95d88 := by
  refine zmk [0] (by decide) (fun mc ms av M Q h => h.1) ?_
  intro p e R s m args below meth c mc ms av M Q hC hRf hRl hr hnm h lv hlv
  obtain ⟨X, hXe⟩ : ∃ X : Nat → zV, X = fun L u v vs st M => ∀ lv, zpick lv (lvJ13_bitCount_95d88 L) = some vs → zAt p l e R s m args below meth c (MQ below (zQ G Q) args s mc ms (zA G)) G 2 L u v lv st M := ⟨_, rfl⟩
  have hJ : ∀ L, zOk p l e R s m args below meth c (MQ below (zQ G Q) args s mc ms (zA G)) G 2 L (zj X L (lvJ13_bitCount_95d88 L)) := fun L => S_jump (fun u v lv vs st M hp hx => by rw [hXe] at hx; exact hx lv hp)
  have hB0 : zin 2 [0] (aJ13_bitCount_95d88_0 mc ms X Q) X 0 := by
    intro u v vs st M hb
    rw [hXe]
    refine fun lv hp => S_block (L := 0) (live := [0]) ?_ u v lv vs st M hp hb
    unfold aJ13_bitCount_95d88_0
    refine S_lload_n (pc := 0) hC dJ13_bitCount_95d88_0 rfl ?_
    refine S_lload_n (pc := 1) hC dJ13_bitCount_95d88_1 rfl ?_
    refine S_iconst (pc := 2) hC dJ13_bitCount_95d88_2 (by decide) ?_
    refine S_lushr (pc := 3) hC dJ13_bitCount_95d88_3 ?_
    refine S_ldc2 (pc := 4) hC wd_440 dJ13_bitCount_95d88_4 ?_
    refine S_land (pc := 7) hC dJ13_bitCount_95d88_7 ?_
    refine S_lsub (pc := 8) hC dJ13_bitCount_95d88_8 ?_
    refine S_lstore_n_N (pc := 9) hC dJ13_bitCount_95d88_9 rfl (by decide) ?_
    unfold kJ13_bitCount_95d88_10
    refine S_lload_n (pc := 10) hC dJ13_bitCount_95d88_10 rfl ?_
    refine S_ldc2 (pc := 11) hC wd_441 dJ13_bitCount_95d88_11 ?_
    refine S_land (pc := 14) hC dJ13_bitCount_95d88_14 ?_
    refine S_lload_n (pc := 15) hC dJ13_bitCount_95d88_15 rfl ?_
    refine S_iconst (pc := 16) hC dJ13_bitCount_95d88_16 (by decide) ?_
    refine S_lushr (pc := 17) hC dJ13_bitCount_95d88_17 ?_
    refine S_ldc2 (pc := 18) hC wd_441 dJ13_bitCount_95d88_18 ?_
    refine S_land (pc := 21) hC dJ13_bitCount_95d88_21 ?_
    refine S_ladd (pc := 22) hC dJ13_bitCount_95d88_22 ?_
    refine S_lstore_n_N (pc := 23) hC dJ13_bitCount_95d88_23 rfl (by decide) ?_
    unfold kJ13_bitCount_95d88_24
    refine S_lload_n (pc := 24) hC dJ13_bitCount_95d88_24 rfl ?_
    refine S_lload_n (pc := 25) hC dJ13_bitCount_95d88_25 rfl ?_
    refine S_iconst (pc := 26) hC dJ13_bitCount_95d88_26 (by decide) ?_
    refine S_lushr (pc := 27) hC dJ13_bitCount_95d88_27 ?_
    refine S_ladd (pc := 28) hC dJ13_bitCount_95d88_28 ?_
    refine S_ldc2 (pc := 29) hC wd_442 dJ13_bitCount_95d88_29 ?_
    refine S_land (pc := 32) hC dJ13_bitCount_95d88_32 ?_
    refine S_lstore_n_N (pc := 33) hC dJ13_bitCount_95d88_33 rfl (by decide) ?_
    unfold kJ13_bitCount_95d88_34
    refine S_lload_n (pc := 34) hC dJ13_bitCount_95d88_34 rfl ?_
    refine S_lload_n (pc := 35) hC dJ13_bitCount_95d88_35 rfl ?_
    refine S_bipush (pc := 36) hC dJ13_bitCount_95d88_36 (by decide) ?_
    refine S_lushr (pc := 38) hC dJ13_bitCount_95d88_38 ?_
    refine S_ladd (pc := 39) hC dJ13_bitCount_95d88_39 ?_
    refine S_lstore_n_N (pc := 40) hC dJ13_bitCount_95d88_40 rfl (by decide) ?_
    unfold kJ13_bitCount_95d88_41
    refine S_lload_n (pc := 41) hC dJ13_bitCount_95d88_41 rfl ?_
    refine S_lload_n (pc := 42) hC dJ13_bitCount_95d88_42 rfl ?_
    refine S_bipush (pc := 43) hC dJ13_bitCount_95d88_43 (by decide) ?_
    refine S_lushr (pc := 45) hC dJ13_bitCount_95d88_45 ?_
    refine S_ladd (pc := 46) hC dJ13_bitCount_95d88_46 ?_
    refine S_lstore_n_N (pc := 47) hC dJ13_bitCount_95d88_47 rfl (by decide) ?_
    unfold kJ13_bitCount_95d88_48
    refine S_lload_n (pc := 48) hC dJ13_bitCount_95d88_48 rfl ?_
    refine S_lload_n (pc := 49) hC dJ13_bitCount_95d88_49 rfl ?_
    refine S_bipush (pc := 50) hC dJ13_bitCount_95d88_50 (by decide) ?_
    refine S_lushr (pc := 52) hC dJ13_bitCount_95d88_52 ?_
    refine S_ladd (pc := 53) hC dJ13_bitCount_95d88_53 ?_
    refine S_lstore_n_N (pc := 54) hC dJ13_bitCount_95d88_54 rfl (by decide) ?_
    unfold kJ13_bitCount_95d88_55
    refine S_lload_n (pc := 55) hC dJ13_bitCount_95d88_55 rfl ?_
    refine S_l2i (pc := 56) hC dJ13_bitCount_95d88_56 ?_
    refine S_bipush (pc := 57) hC dJ13_bitCount_95d88_57 (by decide) ?_
    refine S_iand (pc := 59) hC dJ13_bitCount_95d88_59 ?_
    exact S_ireturn (pc := 60) hC hr dJ13_bitCount_95d88_60
  have := h.2 X hB0
  rw [hXe] at this
  exact this lv hlv
theorem vcJ13_bitCount_95d88_55 {mc ms : Nat} {X : Nat → zV} {Q : zQt} {M : zM} {x0 : Int64}   (h : Q (some (.int (((x0 : Int64).toInt32 &&& (127 : Int32))))) M) : kJ13_bitCount_95d88_55 mc ms X Q 0 0 [some (.long x0), none] [] M := h
theorem vcJ13_bitCount_95d88_48 {mc ms : Nat} {X : Nat → zV} {Q : zQt} {M : zM} {x0 : Int64}   (h : ∀ y54 : Int64, y54 = (x0 + ((x0.toUInt64 >>> ((32 : Int32).toInt64.toUInt64 &&& Int64.toUInt64 63)).toInt64)) → Q (some (.int (((y54 : Int64).toInt32 &&& (127 : Int32))))) M) : kJ13_bitCount_95d88_48 mc ms X Q 0 0 [some (.long x0), none] [] M := (fun y54 e54 => have h54 := h y54 e54; (vcJ13_bitCount_95d88_55  h54))
theorem vcJ13_bitCount_95d88_41 {mc ms : Nat} {X : Nat → zV} {Q : zQt} {M : zM} {x0 : Int64}   (h : ∀ y47 : Int64, y47 = (x0 + ((x0.toUInt64 >>> ((16 : Int32).toInt64.toUInt64 &&& Int64.toUInt64 63)).toInt64)) → ∀ y54 : Int64, y54 = (y47 + ((y47.toUInt64 >>> ((32 : Int32).toInt64.toUInt64 &&& Int64.toUInt64 63)).toInt64)) → Q (some (.int (((y54 : Int64).toInt32 &&& (127 : Int32))))) M) : kJ13_bitCount_95d88_41 mc ms X Q 0 0 [some (.long x0), none] [] M := (fun y47 e47 => have h47 := h y47 e47; (vcJ13_bitCount_95d88_48  h47))
theorem vcJ13_bitCount_95d88_34 {mc ms : Nat} {X : Nat → zV} {Q : zQt} {M : zM} {x0 : Int64}   (h : ∀ y40 : Int64, y40 = (x0 + ((x0.toUInt64 >>> ((8 : Int32).toInt64.toUInt64 &&& Int64.toUInt64 63)).toInt64)) → ∀ y47 : Int64, y47 = (y40 + ((y40.toUInt64 >>> ((16 : Int32).toInt64.toUInt64 &&& Int64.toUInt64 63)).toInt64)) → ∀ y54 : Int64, y54 = (y47 + ((y47.toUInt64 >>> ((32 : Int32).toInt64.toUInt64 &&& Int64.toUInt64 63)).toInt64)) → Q (some (.int (((y54 : Int64).toInt32 &&& (127 : Int32))))) M) : kJ13_bitCount_95d88_34 mc ms X Q 0 0 [some (.long x0), none] [] M := (fun y40 e40 => have h40 := h y40 e40; (vcJ13_bitCount_95d88_41  h40))
theorem vcJ13_bitCount_95d88_24 {mc ms : Nat} {X : Nat → zV} {Q : zQt} {M : zM} {x0 : Int64}   (h : ∀ y33 : Int64, y33 = ((x0 + ((x0.toUInt64 >>> ((4 : Int32).toInt64.toUInt64 &&& Int64.toUInt64 63)).toInt64)) &&& (1085102592571150095 : Int64)) → ∀ y40 : Int64, y40 = (y33 + ((y33.toUInt64 >>> ((8 : Int32).toInt64.toUInt64 &&& Int64.toUInt64 63)).toInt64)) → ∀ y47 : Int64, y47 = (y40 + ((y40.toUInt64 >>> ((16 : Int32).toInt64.toUInt64 &&& Int64.toUInt64 63)).toInt64)) → ∀ y54 : Int64, y54 = (y47 + ((y47.toUInt64 >>> ((32 : Int32).toInt64.toUInt64 &&& Int64.toUInt64 63)).toInt64)) → Q (some (.int (((y54 : Int64).toInt32 &&& (127 : Int32))))) M) : kJ13_bitCount_95d88_24 mc ms X Q 0 0 [some (.long x0), none] [] M := (fun y33 e33 => have h33 := h y33 e33; (vcJ13_bitCount_95d88_34  h33))
theorem vcJ13_bitCount_95d88_10 {mc ms : Nat} {X : Nat → zV} {Q : zQt} {M : zM} {x0 : Int64}   (h : ∀ y23 : Int64, y23 = ((x0 &&& (3689348814741910323 : Int64)) + (((x0.toUInt64 >>> ((2 : Int32).toInt64.toUInt64 &&& Int64.toUInt64 63)).toInt64) &&& (3689348814741910323 : Int64))) → ∀ y33 : Int64, y33 = ((y23 + ((y23.toUInt64 >>> ((4 : Int32).toInt64.toUInt64 &&& Int64.toUInt64 63)).toInt64)) &&& (1085102592571150095 : Int64)) → ∀ y40 : Int64, y40 = (y33 + ((y33.toUInt64 >>> ((8 : Int32).toInt64.toUInt64 &&& Int64.toUInt64 63)).toInt64)) → ∀ y47 : Int64, y47 = (y40 + ((y40.toUInt64 >>> ((16 : Int32).toInt64.toUInt64 &&& Int64.toUInt64 63)).toInt64)) → ∀ y54 : Int64, y54 = (y47 + ((y47.toUInt64 >>> ((32 : Int32).toInt64.toUInt64 &&& Int64.toUInt64 63)).toInt64)) → Q (some (.int (((y54 : Int64).toInt32 &&& (127 : Int32))))) M) : kJ13_bitCount_95d88_10 mc ms X Q 0 0 [some (.long x0), none] [] M := (fun y23 e23 => have h23 := h y23 e23; (vcJ13_bitCount_95d88_24  h23))
theorem vJ13_bitCount_95d88_0 {mc ms : Nat} {X : Nat → zV} {Q : zQt} {M : zM} {x0 : Int64}   (h : ∀ y9 : Int64, y9 = (x0 - (((x0.toUInt64 >>> ((1 : Int32).toInt64.toUInt64 &&& Int64.toUInt64 63)).toInt64) &&& (6148914691236517205 : Int64))) → ∀ y23 : Int64, y23 = ((y9 &&& (3689348814741910323 : Int64)) + (((y9.toUInt64 >>> ((2 : Int32).toInt64.toUInt64 &&& Int64.toUInt64 63)).toInt64) &&& (3689348814741910323 : Int64))) → ∀ y33 : Int64, y33 = ((y23 + ((y23.toUInt64 >>> ((4 : Int32).toInt64.toUInt64 &&& Int64.toUInt64 63)).toInt64)) &&& (1085102592571150095 : Int64)) → ∀ y40 : Int64, y40 = (y33 + ((y33.toUInt64 >>> ((8 : Int32).toInt64.toUInt64 &&& Int64.toUInt64 63)).toInt64)) → ∀ y47 : Int64, y47 = (y40 + ((y40.toUInt64 >>> ((16 : Int32).toInt64.toUInt64 &&& Int64.toUInt64 63)).toInt64)) → ∀ y54 : Int64, y54 = (y47 + ((y47.toUInt64 >>> ((32 : Int32).toInt64.toUInt64 &&& Int64.toUInt64 63)).toInt64)) → Q (some (.int (((y54 : Int64).toInt32 &&& (127 : Int32))))) M) : aJ13_bitCount_95d88_0 mc ms X Q 0 0 [some (.long x0), none] [] M := (fun y9 e9 => have h9 := h y9 e9; (vcJ13_bitCount_95d88_10  h9))
theorem dJ7_fill_53178_0 : decode cJ7_fill_53178 0 = .ok (.iconst 0, 1) := by decide +kernel
theorem dJ7_fill_53178_1 : decode cJ7_fill_53178 1 = .ok (.istore_n 2, 1) := by decide +kernel
theorem dJ7_fill_53178_2 : decode cJ7_fill_53178 2 = .ok (.aload_n 0, 1) := by decide +kernel
theorem dJ7_fill_53178_3 : decode cJ7_fill_53178 3 = .ok (.arraylength, 1) := by decide +kernel
theorem dJ7_fill_53178_4 : decode cJ7_fill_53178 4 = .ok (.istore_n 3, 1) := by decide +kernel
theorem dJ7_fill_53178_5 : decode cJ7_fill_53178 5 = .ok (.iload_n 2, 1) := by decide +kernel
theorem dJ7_fill_53178_6 : decode cJ7_fill_53178 6 = .ok (.iload_n 3, 1) := by decide +kernel
theorem dJ7_fill_53178_7 : decode cJ7_fill_53178 7 = .ok (.if_icmp .ge 13, 3) := by decide +kernel
theorem dJ7_fill_53178_10 : decode cJ7_fill_53178 10 = .ok (.aload_n 0, 1) := by decide +kernel
theorem dJ7_fill_53178_11 : decode cJ7_fill_53178 11 = .ok (.iload_n 2, 1) := by decide +kernel
theorem dJ7_fill_53178_12 : decode cJ7_fill_53178 12 = .ok (.iload_n 1, 1) := by decide +kernel
theorem dJ7_fill_53178_13 : decode cJ7_fill_53178 13 = .ok (.iastore, 1) := by decide +kernel
theorem dJ7_fill_53178_14 : decode cJ7_fill_53178 14 = .ok (.iinc 2 1, 3) := by decide +kernel
theorem dJ7_fill_53178_17 : decode cJ7_fill_53178 17 = .ok (.goto (-12), 3) := by decide +kernel
theorem dJ7_fill_53178_20 : decode cJ7_fill_53178 20 = .ok (.return_, 1) := by decide +kernel
def aJ7_fill_53178_0 (mc ms : Nat) (X : Nat → zV) (Q : zQt) : zT :=
  zc (.int 0) <| zsi 2 <| zla 0 <| zlen <| zsi 3 <| zj X 5 [0, 1, 2, 3]
def aJ7_fill_53178_5 (mc ms : Nat) (X : Nat → zV) (Q : zQt) : zT :=
  zli 2 <| zli 3 <| zic (fun x y => y ≤ x) (zrv Q) <| zla 0 <| zli 2 <| zli 1 <| zas 1 (fun x => x) <| zinc 2 1 <| zj X 5 [0, 1, 2, 3]
def lvJ7_fill_53178 : Nat → List Nat := fun L => match L with
  | 0 => [0, 1]
  | 5 => [0, 1, 2, 3]
  | _ => []
def wJ7_fill_53178 : zSp := fun mc ms av M Q => ((zlay av).length ≤ 4 ∧ zpick (zlay av) [0, 1] = some av) ∧ ∀ X : Nat → zV, zin 4 [0, 1] (aJ7_fill_53178_0 mc ms X Q) X 0 → zin 4 [0, 1, 2, 3] (aJ7_fill_53178_5 mc ms X Q) X 5 → X 0 0 0 av [] M
set_option maxRecDepth 100000 in
set_option maxHeartbeats 4000000 in
theorem sJ7_fill_53178 (l : Launch) (G : zG) : zSnd l G yJ7_fill_53178 cJ7_fill_53178 4 none 0 0 wJ7_fill_53178 := by
  refine zmk [0, 1] (by decide) (fun mc ms av M Q h => h.1) ?_
  intro p e R s m args below meth c mc ms av M Q hC hRf hRl hr hnm h lv hlv
  obtain ⟨X, hXe⟩ : ∃ X : Nat → zV, X = fun L u v vs st M => ∀ lv, zpick lv (lvJ7_fill_53178 L) = some vs → zAt p l e R s m args below meth c (MQ below (zQ G Q) args s mc ms (zA G)) G 4 L u v lv st M := ⟨_, rfl⟩
  have hJ : ∀ L, zOk p l e R s m args below meth c (MQ below (zQ G Q) args s mc ms (zA G)) G 4 L (zj X L (lvJ7_fill_53178 L)) := fun L => S_jump (fun u v lv vs st M hp hx => by rw [hXe] at hx; exact hx lv hp)
  have hB0 : zin 4 [0, 1] (aJ7_fill_53178_0 mc ms X Q) X 0 := by
    intro u v vs st M hb
    rw [hXe]
    refine fun lv hp => S_block (L := 0) (live := [0, 1]) ?_ u v lv vs st M hp hb
    unfold aJ7_fill_53178_0
    refine S_iconst (pc := 0) hC dJ7_fill_53178_0 (by decide) ?_
    refine S_istore_n (pc := 1) hC dJ7_fill_53178_1 rfl (by decide) ?_
    refine S_aload_n (pc := 2) hC dJ7_fill_53178_2 rfl ?_
    refine S_alen (pc := 3) hC dJ7_fill_53178_3 ?_
    refine S_istore_n (pc := 4) hC dJ7_fill_53178_4 rfl (by decide) ?_
    exact hJ 5
  have hB5 : zin 4 [0, 1, 2, 3] (aJ7_fill_53178_5 mc ms X Q) X 5 := by
    intro u v vs st M hb
    rw [hXe]
    refine fun lv hp => S_block (L := 5) (live := [0, 1, 2, 3]) ?_ u v lv vs st M hp hb
    unfold aJ7_fill_53178_5
    refine S_iload_n (pc := 5) hC dJ7_fill_53178_5 rfl ?_
    refine S_iload_n (pc := 6) hC dJ7_fill_53178_6 rfl ?_
    refine S_icmp_ge (pc := 7) (tgt := 20) hC dJ7_fill_53178_7 (by decide) ?_ ?_
    · exact S_vreturn (pc := 20) hC hr dJ7_fill_53178_20
    · refine S_aload_n (pc := 10) hC dJ7_fill_53178_10 rfl ?_
      refine S_iload_n (pc := 11) hC dJ7_fill_53178_11 rfl ?_
      refine S_iload_n (pc := 12) hC dJ7_fill_53178_12 rfl ?_
      refine S_iastore (pc := 13) hC dJ7_fill_53178_13 ?_
      refine S_iinc (pc := 14) hC dJ7_fill_53178_14 (by decide) (by decide) ?_
      refine S_goto (pc := 17) (tgt := 5) hC dJ7_fill_53178_17 (by decide) ?_
      exact hJ 5
  have := h.2 X hB0 hB5
  rw [hXe] at this
  exact this lv hlv
theorem vJ7_fill_53178_0 {mc ms : Nat} {X : Nat → zV} {Q : zQt} {M : zM} {x0 : Nat} {x0n : Nat} {x1 : Int32}  (hx0 : zsh M x0 = some (1, x0n)) (h : X 5 0 0 [.ref x0, .int x1, .int 0, .int (Int32.ofNat x0n)] [] M) : aJ7_fill_53178_0 mc ms X Q 0 0 [some (.ref x0), some (.int x1), none, none] [] M := ⟨1, x0n, hx0, by decide, by decide, h⟩
theorem vJ7_fill_53178_5 {mc ms : Nat} {X : Nat → zV} {Q : zQt} {M : zM} {x0 : Nat} {x0n : Nat} {x1 : Int32} {x2 : Int32} {x3 : Int32}  (hx0 : zsh M x0 = some (1, x0n)) (h : (x3 ≤ x2 → Q none M) ∧ (¬ x3 ≤ x2 → vp_in x2 x0n ∧ ∀ M13 : zM, M13 = (zsI M x0 (x2 : Int32).toNatClampNeg x1) → X 5 0 0 [.ref x0, .int x1, .int (x2 + 1), .int x3] [] M13)) : aJ7_fill_53178_5 mc ms X Q 0 0 [some (.ref x0), some (.int x1), some (.int x2), some (.int x3)] [] M := ⟨fun c7 => (h.1 c7), fun c7 => ⟨x0n, hx0, (h.2 c7).1, (have h13 := (h.2 c7).2 _ rfl; h13)⟩⟩
theorem dJ7_fill_d0a16_0 : decode cJ7_fill_d0a16 0 = .ok (.iconst 0, 1) := by decide +kernel
theorem dJ7_fill_d0a16_1 : decode cJ7_fill_d0a16 1 = .ok (.istore_n 3, 1) := by decide +kernel
theorem dJ7_fill_d0a16_2 : decode cJ7_fill_d0a16 2 = .ok (.aload_n 0, 1) := by decide +kernel
theorem dJ7_fill_d0a16_3 : decode cJ7_fill_d0a16 3 = .ok (.arraylength, 1) := by decide +kernel
theorem dJ7_fill_d0a16_4 : decode cJ7_fill_d0a16 4 = .ok (.istore 4, 2) := by decide +kernel
theorem dJ7_fill_d0a16_6 : decode cJ7_fill_d0a16 6 = .ok (.iload_n 3, 1) := by decide +kernel
theorem dJ7_fill_d0a16_7 : decode cJ7_fill_d0a16 7 = .ok (.iload 4, 2) := by decide +kernel
theorem dJ7_fill_d0a16_9 : decode cJ7_fill_d0a16 9 = .ok (.if_icmp .ge 13, 3) := by decide +kernel
theorem dJ7_fill_d0a16_12 : decode cJ7_fill_d0a16 12 = .ok (.aload_n 0, 1) := by decide +kernel
theorem dJ7_fill_d0a16_13 : decode cJ7_fill_d0a16 13 = .ok (.iload_n 3, 1) := by decide +kernel
theorem dJ7_fill_d0a16_14 : decode cJ7_fill_d0a16 14 = .ok (.lload_n 1, 1) := by decide +kernel
theorem dJ7_fill_d0a16_15 : decode cJ7_fill_d0a16 15 = .ok (.lastore, 1) := by decide +kernel
theorem dJ7_fill_d0a16_16 : decode cJ7_fill_d0a16 16 = .ok (.iinc 3 1, 3) := by decide +kernel
theorem dJ7_fill_d0a16_19 : decode cJ7_fill_d0a16 19 = .ok (.goto (-13), 3) := by decide +kernel
theorem dJ7_fill_d0a16_22 : decode cJ7_fill_d0a16 22 = .ok (.return_, 1) := by decide +kernel
def aJ7_fill_d0a16_0 (mc ms : Nat) (X : Nat → zV) (Q : zQt) : zT :=
  zc (.int 0) <| zsi 3 <| zla 0 <| zlen <| zsi 4 <| zj X 6 [0, 1, 3, 4]
def aJ7_fill_d0a16_6 (mc ms : Nat) (X : Nat → zV) (Q : zQt) : zT :=
  zli 3 <| zli 4 <| zic (fun x y => y ≤ x) (zrv Q) <| zla 0 <| zli 3 <| zll 1 <| zasl <| zinc 3 1 <| zj X 6 [0, 1, 3, 4]
def lvJ7_fill_d0a16 : Nat → List Nat := fun L => match L with
  | 0 => [0, 1]
  | 6 => [0, 1, 3, 4]
  | _ => []
def wJ7_fill_d0a16 : zSp := fun mc ms av M Q => ((zlay av).length ≤ 5 ∧ zpick (zlay av) [0, 1] = some av) ∧ ∀ X : Nat → zV, zin 5 [0, 1] (aJ7_fill_d0a16_0 mc ms X Q) X 0 → zin 5 [0, 1, 3, 4] (aJ7_fill_d0a16_6 mc ms X Q) X 6 → X 0 0 0 av [] M
set_option maxRecDepth 100000 in
set_option maxHeartbeats 4000000 in
theorem sJ7_fill_d0a16 (l : Launch) (G : zG) : zSnd l G yJ7_fill_d0a16 cJ7_fill_d0a16 5 none 0 0 wJ7_fill_d0a16 := by
  refine zmk [0, 1] (by decide) (fun mc ms av M Q h => h.1) ?_
  intro p e R s m args below meth c mc ms av M Q hC hRf hRl hr hnm h lv hlv
  obtain ⟨X, hXe⟩ : ∃ X : Nat → zV, X = fun L u v vs st M => ∀ lv, zpick lv (lvJ7_fill_d0a16 L) = some vs → zAt p l e R s m args below meth c (MQ below (zQ G Q) args s mc ms (zA G)) G 5 L u v lv st M := ⟨_, rfl⟩
  have hJ : ∀ L, zOk p l e R s m args below meth c (MQ below (zQ G Q) args s mc ms (zA G)) G 5 L (zj X L (lvJ7_fill_d0a16 L)) := fun L => S_jump (fun u v lv vs st M hp hx => by rw [hXe] at hx; exact hx lv hp)
  have hB0 : zin 5 [0, 1] (aJ7_fill_d0a16_0 mc ms X Q) X 0 := by
    intro u v vs st M hb
    rw [hXe]
    refine fun lv hp => S_block (L := 0) (live := [0, 1]) ?_ u v lv vs st M hp hb
    unfold aJ7_fill_d0a16_0
    refine S_iconst (pc := 0) hC dJ7_fill_d0a16_0 (by decide) ?_
    refine S_istore_n (pc := 1) hC dJ7_fill_d0a16_1 rfl (by decide) ?_
    refine S_aload_n (pc := 2) hC dJ7_fill_d0a16_2 rfl ?_
    refine S_alen (pc := 3) hC dJ7_fill_d0a16_3 ?_
    refine S_istore (pc := 4) hC dJ7_fill_d0a16_4 (by decide) ?_
    exact hJ 6
  have hB6 : zin 5 [0, 1, 3, 4] (aJ7_fill_d0a16_6 mc ms X Q) X 6 := by
    intro u v vs st M hb
    rw [hXe]
    refine fun lv hp => S_block (L := 6) (live := [0, 1, 3, 4]) ?_ u v lv vs st M hp hb
    unfold aJ7_fill_d0a16_6
    refine S_iload_n (pc := 6) hC dJ7_fill_d0a16_6 rfl ?_
    refine S_iload (pc := 7) hC dJ7_fill_d0a16_7 ?_
    refine S_icmp_ge (pc := 9) (tgt := 22) hC dJ7_fill_d0a16_9 (by decide) ?_ ?_
    · exact S_vreturn (pc := 22) hC hr dJ7_fill_d0a16_22
    · refine S_aload_n (pc := 12) hC dJ7_fill_d0a16_12 rfl ?_
      refine S_iload_n (pc := 13) hC dJ7_fill_d0a16_13 rfl ?_
      refine S_lload_n (pc := 14) hC dJ7_fill_d0a16_14 rfl ?_
      refine S_lastore (pc := 15) hC dJ7_fill_d0a16_15 ?_
      refine S_iinc (pc := 16) hC dJ7_fill_d0a16_16 (by decide) (by decide) ?_
      refine S_goto (pc := 19) (tgt := 6) hC dJ7_fill_d0a16_19 (by decide) ?_
      exact hJ 6
  have := h.2 X hB0 hB6
  rw [hXe] at this
  exact this lv hlv
theorem vJ7_fill_d0a16_0 {mc ms : Nat} {X : Nat → zV} {Q : zQt} {M : zM} {x0 : Nat} {x0n : Nat} {x1 : Int64}  (hx0 : zsh M x0 = some (2, x0n)) (h : X 6 0 0 [.ref x0, .long x1, .int 0, .int (Int32.ofNat x0n)] [] M) : aJ7_fill_d0a16_0 mc ms X Q 0 0 [some (.ref x0), some (.long x1), none, none, none] [] M := ⟨2, x0n, hx0, by decide, by decide, h⟩
theorem vJ7_fill_d0a16_6 {mc ms : Nat} {X : Nat → zV} {Q : zQt} {M : zM} {x0 : Nat} {x0n : Nat} {x1 : Int64} {x3 : Int32} {x4 : Int32}  (hx0 : zsh M x0 = some (2, x0n)) (h : (x4 ≤ x3 → Q none M) ∧ (¬ x4 ≤ x3 → vp_in x3 x0n ∧ ∀ M15 : zM, M15 = (zsJ M x0 (x3 : Int32).toNatClampNeg x1) → X 6 0 0 [.ref x0, .long x1, .int (x3 + 1), .int x4] [] M15)) : aJ7_fill_d0a16_6 mc ms X Q 0 0 [some (.ref x0), some (.long x1), none, some (.int x3), some (.int x4)] [] M := ⟨fun c9 => (h.1 c9), fun c9 => ⟨x0n, hx0, (h.2 c9).1, (have h15 := (h.2 c9).2 _ rfl; h15)⟩⟩
theorem dX0_init_0 : decode cX0_init 0 = .ok (.aload_n 0, 1) := by decide +kernel
theorem dX0_init_1 : decode cX0_init 1 = .ok (.invokespecial 3, 3) := by decide +kernel
theorem dX0_init_4 : decode cX0_init 4 = .ok (.aload_n 0, 1) := by decide +kernel
theorem dX0_init_5 : decode cX0_init 5 = .ok (.aload_n 1, 1) := by decide +kernel
theorem dX0_init_6 : decode cX0_init 6 = .ok (.putfield 9, 3) := by decide +kernel
theorem dX0_init_9 : decode cX0_init 9 = .ok (.aload_n 0, 1) := by decide +kernel
theorem dX0_init_10 : decode cX0_init 10 = .ok (.bipush 64, 2) := by decide +kernel
theorem dX0_init_12 : decode cX0_init 12 = .ok (.newarray .int, 2) := by decide +kernel
theorem dX0_init_14 : decode cX0_init 14 = .ok (.putfield 15, 3) := by decide +kernel
theorem dX0_init_17 : decode cX0_init 17 = .ok (.aload_n 0, 1) := by decide +kernel
theorem dX0_init_18 : decode cX0_init 18 = .ok (.bipush 13, 2) := by decide +kernel
theorem dX0_init_20 : decode cX0_init 20 = .ok (.newarray .long, 2) := by decide +kernel
theorem dX0_init_22 : decode cX0_init 22 = .ok (.putfield 19, 3) := by decide +kernel
theorem dX0_init_25 : decode cX0_init 25 = .ok (.aload_n 0, 1) := by decide +kernel
theorem dX0_init_26 : decode cX0_init 26 = .ok (.iconst 2, 1) := by decide +kernel
theorem dX0_init_27 : decode cX0_init 27 = .ok (.newarray .long, 2) := by decide +kernel
theorem dX0_init_29 : decode cX0_init 29 = .ok (.putfield 23, 3) := by decide +kernel
theorem dX0_init_32 : decode cX0_init 32 = .ok (.aload_n 0, 1) := by decide +kernel
theorem dX0_init_33 : decode cX0_init 33 = .ok (.sipush 608, 3) := by decide +kernel
theorem dX0_init_36 : decode cX0_init 36 = .ok (.newarray .int, 2) := by decide +kernel
theorem dX0_init_38 : decode cX0_init 38 = .ok (.putfield 26, 3) := by decide +kernel
theorem dX0_init_41 : decode cX0_init 41 = .ok (.return_, 1) := by decide +kernel
def aX0_init_0 (mc ms : Nat) (X : Nat → zV) (Q : zQt) : zT :=
  zla 0 <| zoi <| zla 0 <| zla 1 <| zpr 0 0 <| zla 0 <| zc (.int 64) <| zna mc ms 1 <| zpr 0 1 <| zla 0 <| zc (.int 13) <| zna mc ms 2 <| zpr 0 2 <| zla 0 <| zc (.int 2) <| zna mc ms 2 <| zpr 0 3 <| zla 0 <| zc (.int 608) <| zna mc ms 1 <| zpr 0 10 <| zrv Q
def lvX0_init : Nat → List Nat := fun L => match L with
  | 0 => [0, 1]
  | _ => []
def wX0_init : zSp := fun mc ms av M Q => ((zlay av).length ≤ 2 ∧ zpick (zlay av) [0, 1] = some av) ∧ ∀ X : Nat → zV, zin 2 [0, 1] (aX0_init_0 mc ms X Q) X 0 → X 0 0 0 av [] M
set_option maxRecDepth 100000 in
set_option maxHeartbeats 4000000 in
theorem sX0_init (l : Launch) (G : zG) : zSnd l G yX0_init cX0_init 2 none 1 20 wX0_init := by
  refine zmk [0, 1] (by decide) (fun mc ms av M Q h => h.1) ?_
  intro p e R s m args below meth c mc ms av M Q hC hRf hRl hr hnm h lv hlv
  obtain ⟨X, hXe⟩ : ∃ X : Nat → zV, X = fun L u v vs st M => ∀ lv, zpick lv (lvX0_init L) = some vs → zAt p l e R s m args below meth c (MQ below (zQ G Q) args s mc ms (zA G)) G 2 L u v lv st M := ⟨_, rfl⟩
  have hJ : ∀ L, zOk p l e R s m args below meth c (MQ below (zQ G Q) args s mc ms (zA G)) G 2 L (zj X L (lvX0_init L)) := fun L => S_jump (fun u v lv vs st M hp hx => by rw [hXe] at hx; exact hx lv hp)
  have hB0 : zin 2 [0, 1] (aX0_init_0 mc ms X Q) X 0 := by
    intro u v vs st M hb
    rw [hXe]
    refine fun lv hp => S_block (L := 0) (live := [0, 1]) ?_ u v lv vs st M hp hb
    unfold aX0_init_0
    refine S_aload_n (pc := 0) hC dX0_init_0 rfl ?_
    refine S_objInit (pc := 1) hC wd_211 wd_35 wd_36 (by rw [hRf]; decide) (by rw [hRl]; decide) dX0_init_1 ?_
    refine S_aload_n (pc := 4) hC dX0_init_4 rfl ?_
    refine S_aload_n (pc := 5) hC dX0_init_5 rfl ?_
    refine S_putr (pc := 6) hC cfX0 (by decide) (Or.inl ⟨_, rfl⟩) (Or.inr ⟨rfl, hnm, rfl⟩) wd_212 dX0_init_6 ?_
    refine S_aload_n (pc := 9) hC dX0_init_9 rfl ?_
    refine S_bipush (pc := 10) hC dX0_init_10 (by decide) ?_
    refine S_newa_int (pc := 12) hC wd_100 dX0_init_12 ?_
    refine S_putr (pc := 14) hC cfX0 (by decide) (Or.inr ⟨_, rfl⟩) (Or.inr ⟨rfl, hnm, rfl⟩) wd_213 dX0_init_14 ?_
    refine S_aload_n (pc := 17) hC dX0_init_17 rfl ?_
    refine S_bipush (pc := 18) hC dX0_init_18 (by decide) ?_
    refine S_newa_long (pc := 20) hC wd_88 dX0_init_20 ?_
    refine S_putr (pc := 22) hC cfX0 (by decide) (Or.inr ⟨_, rfl⟩) (Or.inr ⟨rfl, hnm, rfl⟩) wd_220 dX0_init_22 ?_
    refine S_aload_n (pc := 25) hC dX0_init_25 rfl ?_
    refine S_iconst (pc := 26) hC dX0_init_26 (by decide) ?_
    refine S_newa_long (pc := 27) hC wd_88 dX0_init_27 ?_
    refine S_putr (pc := 29) hC cfX0 (by decide) (Or.inr ⟨_, rfl⟩) (Or.inr ⟨rfl, hnm, rfl⟩) wd_225 dX0_init_29 ?_
    refine S_aload_n (pc := 32) hC dX0_init_32 rfl ?_
    refine S_sipush (pc := 33) hC dX0_init_33 (by decide) ?_
    refine S_newa_int (pc := 36) hC wd_100 dX0_init_36 ?_
    refine S_putr (pc := 38) hC cfX0 (by decide) (Or.inr ⟨_, rfl⟩) (Or.inr ⟨rfl, hnm, rfl⟩) wd_261 dX0_init_38 ?_
    exact S_vreturn (pc := 41) hC hr dX0_init_41
  have := h.2 X hB0
  rw [hXe] at this
  exact this lv hlv
theorem dX0_clear_0 : decode cX0_clear 0 = .ok (.aload_n 0, 1) := by decide +kernel
theorem dX0_clear_1 : decode cX0_clear 1 = .ok (.getfield 15, 3) := by decide +kernel
theorem dX0_clear_4 : decode cX0_clear 4 = .ok (.iconst 0, 1) := by decide +kernel
theorem dX0_clear_5 : decode cX0_clear 5 = .ok (.invokestatic 29, 3) := by decide +kernel
theorem dX0_clear_8 : decode cX0_clear 8 = .ok (.aload_n 0, 1) := by decide +kernel
theorem dX0_clear_9 : decode cX0_clear 9 = .ok (.getfield 19, 3) := by decide +kernel
theorem dX0_clear_12 : decode cX0_clear 12 = .ok (.lconst 0, 1) := by decide +kernel
theorem dX0_clear_13 : decode cX0_clear 13 = .ok (.invokestatic 35, 3) := by decide +kernel
theorem dX0_clear_16 : decode cX0_clear 16 = .ok (.aload_n 0, 1) := by decide +kernel
theorem dX0_clear_17 : decode cX0_clear 17 = .ok (.getfield 23, 3) := by decide +kernel
theorem dX0_clear_20 : decode cX0_clear 20 = .ok (.lconst 0, 1) := by decide +kernel
theorem dX0_clear_21 : decode cX0_clear 21 = .ok (.invokestatic 35, 3) := by decide +kernel
theorem dX0_clear_24 : decode cX0_clear 24 = .ok (.aload_n 0, 1) := by decide +kernel
theorem dX0_clear_25 : decode cX0_clear 25 = .ok (.iconst 0, 1) := by decide +kernel
theorem dX0_clear_26 : decode cX0_clear 26 = .ok (.putfield 38, 3) := by decide +kernel
theorem dX0_clear_29 : decode cX0_clear 29 = .ok (.aload_n 0, 1) := by decide +kernel
theorem dX0_clear_30 : decode cX0_clear 30 = .ok (.iconst 0, 1) := by decide +kernel
theorem dX0_clear_31 : decode cX0_clear 31 = .ok (.putfield 42, 3) := by decide +kernel
theorem dX0_clear_34 : decode cX0_clear 34 = .ok (.aload_n 0, 1) := by decide +kernel
theorem dX0_clear_35 : decode cX0_clear 35 = .ok (.iconst (-1), 1) := by decide +kernel
theorem dX0_clear_36 : decode cX0_clear 36 = .ok (.putfield 45, 3) := by decide +kernel
theorem dX0_clear_39 : decode cX0_clear 39 = .ok (.aload_n 0, 1) := by decide +kernel
theorem dX0_clear_40 : decode cX0_clear 40 = .ok (.iconst 0, 1) := by decide +kernel
theorem dX0_clear_41 : decode cX0_clear 41 = .ok (.putfield 48, 3) := by decide +kernel
theorem dX0_clear_44 : decode cX0_clear 44 = .ok (.aload_n 0, 1) := by decide +kernel
theorem dX0_clear_45 : decode cX0_clear 45 = .ok (.iconst 1, 1) := by decide +kernel
theorem dX0_clear_46 : decode cX0_clear 46 = .ok (.putfield 51, 3) := by decide +kernel
theorem dX0_clear_49 : decode cX0_clear 49 = .ok (.aload_n 0, 1) := by decide +kernel
theorem dX0_clear_50 : decode cX0_clear 50 = .ok (.iconst 0, 1) := by decide +kernel
theorem dX0_clear_51 : decode cX0_clear 51 = .ok (.putfield 54, 3) := by decide +kernel
theorem dX0_clear_54 : decode cX0_clear 54 = .ok (.aload_n 0, 1) := by decide +kernel
theorem dX0_clear_55 : decode cX0_clear 55 = .ok (.iconst 0, 1) := by decide +kernel
theorem dX0_clear_56 : decode cX0_clear 56 = .ok (.putfield 57, 3) := by decide +kernel
theorem dX0_clear_59 : decode cX0_clear 59 = .ok (.return_, 1) := by decide +kernel
def kX0_clear_24 (mc ms : Nat) (X : Nat → zV) (Q : zQt) : zT :=
  zla 0 <| zc (.int 0) <| zpi 0 4 <| zla 0 <| zc (.int 0) <| zpi 0 5 <| zla 0 <| zc (.int (-1)) <| zpi 0 6 <| zla 0 <| zc (.int 0) <| zpi 0 7 <| zla 0 <| zc (.int 1) <| zpi 0 8 <| zla 0 <| zc (.int 0) <| zpi 0 9 <| zla 0 <| zc (.int 0) <| zpi 0 11 <| zrv Q
def kX0_clear_16 (mc ms : Nat) (X : Nat → zV) (Q : zQt) : zT :=
  zla 0 <| zgR 0 3 <| zc (.long 0) <| zcs mc ms 2 wJ7_fill_d0a16 <| kX0_clear_24 mc ms X Q
def kX0_clear_8 (mc ms : Nat) (X : Nat → zV) (Q : zQt) : zT :=
  zla 0 <| zgR 0 2 <| zc (.long 0) <| zcs mc ms 2 wJ7_fill_d0a16 <| kX0_clear_16 mc ms X Q
def aX0_clear_0 (mc ms : Nat) (X : Nat → zV) (Q : zQt) : zT :=
  zla 0 <| zgR 0 1 <| zc (.int 0) <| zcs mc ms 2 wJ7_fill_53178 <| kX0_clear_8 mc ms X Q
def lvX0_clear : Nat → List Nat := fun L => match L with
  | 0 => [0]
  | _ => []
def wX0_clear : zSp := fun mc ms av M Q => ((zlay av).length ≤ 1 ∧ zpick (zlay av) [0] = some av) ∧ ∀ X : Nat → zV, zin 1 [0] (aX0_clear_0 mc ms X Q) X 0 → X 0 0 0 av [] M
set_option maxRecDepth 100000 in
set_option maxHeartbeats 4000000 in
theorem sX0_clear (l : Launch) (G : zG) : zSnd l G yX0_clear cX0_clear 1 none 1 24 wX0_clear := by
  refine zmk [0] (by decide) (fun mc ms av M Q h => h.1) ?_
  intro p e R s m args below meth c mc ms av M Q hC hRf hRl hr hnm h lv hlv
  obtain ⟨X, hXe⟩ : ∃ X : Nat → zV, X = fun L u v vs st M => ∀ lv, zpick lv (lvX0_clear L) = some vs → zAt p l e R s m args below meth c (MQ below (zQ G Q) args s mc ms (zA G)) G 1 L u v lv st M := ⟨_, rfl⟩
  have hJ : ∀ L, zOk p l e R s m args below meth c (MQ below (zQ G Q) args s mc ms (zA G)) G 1 L (zj X L (lvX0_clear L)) := fun L => S_jump (fun u v lv vs st M hp hx => by rw [hXe] at hx; exact hx lv hp)
  have hB0 : zin 1 [0] (aX0_clear_0 mc ms X Q) X 0 := by
    intro u v vs st M hb
    rw [hXe]
    refine fun lv hp => S_block (L := 0) (live := [0]) ?_ u v lv vs st M hp hb
    unfold aX0_clear_0
    refine S_aload_n (pc := 0) hC dX0_clear_0 rfl ?_
    refine S_getR (pc := 1) hC cfX0 (by decide) (Or.inr ⟨_, rfl⟩) wd_213 dX0_clear_1 ?_
    refine S_iconst (pc := 4) hC dX0_clear_4 (by decide) ?_
    refine S_callS (pc := 5) hC (sJ7_fill_53178 l G) wd_675 wd_676 wd_18 wd_677 (by decide +kernel) ⟨by rw [hRf]; decide, by rw [hRl]; decide⟩ dX0_clear_5 ?_
    unfold kX0_clear_8
    refine S_aload_n (pc := 8) hC dX0_clear_8 rfl ?_
    refine S_getR (pc := 9) hC cfX0 (by decide) (Or.inr ⟨_, rfl⟩) wd_220 dX0_clear_9 ?_
    refine S_lconst (pc := 12) hC dX0_clear_12 (by decide) ?_
    refine S_callS (pc := 13) hC (sJ7_fill_d0a16 l G) wd_678 wd_679 wd_18 wd_680 (by decide +kernel) ⟨by rw [hRf]; decide, by rw [hRl]; decide⟩ dX0_clear_13 ?_
    unfold kX0_clear_16
    refine S_aload_n (pc := 16) hC dX0_clear_16 rfl ?_
    refine S_getR (pc := 17) hC cfX0 (by decide) (Or.inr ⟨_, rfl⟩) wd_225 dX0_clear_17 ?_
    refine S_lconst (pc := 20) hC dX0_clear_20 (by decide) ?_
    refine S_callS (pc := 21) hC (sJ7_fill_d0a16 l G) wd_678 wd_679 wd_18 wd_680 (by decide +kernel) ⟨by rw [hRf]; decide, by rw [hRl]; decide⟩ dX0_clear_21 ?_
    unfold kX0_clear_24
    refine S_aload_n (pc := 24) hC dX0_clear_24 rfl ?_
    refine S_iconst (pc := 25) hC dX0_clear_25 (by decide) ?_
    refine S_puti (pc := 26) hC cfX0 (by decide) rfl (Or.inl rfl) wd_229 dX0_clear_26 ?_
    refine S_aload_n (pc := 29) hC dX0_clear_29 rfl ?_
    refine S_iconst (pc := 30) hC dX0_clear_30 (by decide) ?_
    refine S_puti (pc := 31) hC cfX0 (by decide) rfl (Or.inl rfl) wd_238 dX0_clear_31 ?_
    refine S_aload_n (pc := 34) hC dX0_clear_34 rfl ?_
    refine S_iconst (pc := 35) hC dX0_clear_35 (by decide) ?_
    refine S_puti (pc := 36) hC cfX0 (by decide) rfl (Or.inl rfl) wd_244 dX0_clear_36 ?_
    refine S_aload_n (pc := 39) hC dX0_clear_39 rfl ?_
    refine S_iconst (pc := 40) hC dX0_clear_40 (by decide) ?_
    refine S_puti (pc := 41) hC cfX0 (by decide) rfl (Or.inl rfl) wd_250 dX0_clear_41 ?_
    refine S_aload_n (pc := 44) hC dX0_clear_44 rfl ?_
    refine S_iconst (pc := 45) hC dX0_clear_45 (by decide) ?_
    refine S_puti (pc := 46) hC cfX0 (by decide) rfl (Or.inl rfl) wd_255 dX0_clear_46 ?_
    refine S_aload_n (pc := 49) hC dX0_clear_49 rfl ?_
    refine S_iconst (pc := 50) hC dX0_clear_50 (by decide) ?_
    refine S_puti (pc := 51) hC cfX0 (by decide) rfl (Or.inl rfl) wd_259 dX0_clear_51 ?_
    refine S_aload_n (pc := 54) hC dX0_clear_54 rfl ?_
    refine S_iconst (pc := 55) hC dX0_clear_55 (by decide) ?_
    refine S_puti (pc := 56) hC cfX0 (by decide) rfl (Or.inl rfl) wd_262 dX0_clear_56 ?_
    exact S_vreturn (pc := 59) hC hr dX0_clear_59
  have := h.2 X hB0
  rw [hXe] at this
  exact this lv hlv
theorem vX0_clear_0 {mc ms : Nat} {X : Nat → zV} {Q : zQt} {M : zM} {g : Nat}  (hW : zWd M g)  (h : wJ7_fill_53178 0 0 [.ref (g + 2), .int 0] M (fun r M1 => kX0_clear_8 mc ms X Q 0 0 [some (.ref (g + 1))] (r.toList ++ []) M1)) : aX0_clear_0 mc ms X Q 0 0 [some (.ref (g + 1))] [] M := ⟨(fgs_1 hW), (g + 2), (fgr_1_1 hW), ⟨Nat.le_of_ble_eq_true rfl, rfl, 0, 0, Nat.zero_le _, Nat.zero_le _, h⟩⟩
theorem vkX0_clear_8 {mc ms : Nat} {X : Nat → zV} {Q : zQt} {M : zM} {g : Nat}  (hW : zWd M g)  (h : wJ7_fill_d0a16 0 0 [.ref (g + 3), .long 0] M (fun r M1 => kX0_clear_16 mc ms X Q 0 0 [some (.ref (g + 1))] (r.toList ++ []) M1)) : kX0_clear_8 mc ms X Q 0 0 [some (.ref (g + 1))] [] M := ⟨(fgs_1 hW), (g + 3), (fgr_1_2 hW), ⟨Nat.le_of_ble_eq_true rfl, rfl, 0, 0, Nat.zero_le _, Nat.zero_le _, h⟩⟩
theorem vkX0_clear_16 {mc ms : Nat} {X : Nat → zV} {Q : zQt} {M : zM} {g : Nat}  (hW : zWd M g)  (h : wJ7_fill_d0a16 0 0 [.ref (g + 4), .long 0] M (fun r M1 => kX0_clear_24 mc ms X Q 0 0 [some (.ref (g + 1))] (r.toList ++ []) M1)) : kX0_clear_16 mc ms X Q 0 0 [some (.ref (g + 1))] [] M := ⟨(fgs_1 hW), (g + 4), (fgr_1_3 hW), ⟨Nat.le_of_ble_eq_true rfl, rfl, 0, 0, Nat.zero_le _, Nat.zero_le _, h⟩⟩
theorem vkX0_clear_24 {mc ms : Nat} {X : Nat → zV} {Q : zQt} {M : zM} {g : Nat}  (hW : zWd M g)  (h : ∀ M26 : zM, M26 = (zsI M ((g + 1)) 4 0) → ∀ M31 : zM, M31 = (zsI M26 ((g + 1)) 5 0) → ∀ M36 : zM, M36 = (zsI M31 ((g + 1)) 6 ((-1))) → ∀ M41 : zM, M41 = (zsI M36 ((g + 1)) 7 0) → ∀ M46 : zM, M46 = (zsI M41 ((g + 1)) 8 1) → ∀ M51 : zM, M51 = (zsI M46 ((g + 1)) 9 0) → ∀ M56 : zM, M56 = (zsI M51 ((g + 1)) 11 0) → Q none M56) : kX0_clear_24 mc ms X Q 0 0 [some (.ref (g + 1))] [] M := ⟨(fgs_1 hW), (have h26 := h _ rfl; ⟨(fgs_1 hW), (have h31 := h26 _ rfl; ⟨(fgs_1 hW), (have h36 := h31 _ rfl; ⟨(fgs_1 hW), (have h41 := h36 _ rfl; ⟨(fgs_1 hW), (have h46 := h41 _ rfl; ⟨(fgs_1 hW), (have h51 := h46 _ rfl; ⟨(fgs_1 hW), (have h56 := h51 _ rfl; h56)⟩)⟩)⟩)⟩)⟩)⟩)⟩
theorem dX0_lowest_0 : decode cX0_lowest 0 = .ok (.lload_n 0, 1) := by decide +kernel
theorem dX0_lowest_1 : decode cX0_lowest 1 = .ok (.lload_n 0, 1) := by decide +kernel
theorem dX0_lowest_2 : decode cX0_lowest 2 = .ok (.lneg, 1) := by decide +kernel
theorem dX0_lowest_3 : decode cX0_lowest 3 = .ok (.land, 1) := by decide +kernel
theorem dX0_lowest_4 : decode cX0_lowest 4 = .ok (.lconst 1, 1) := by decide +kernel
theorem dX0_lowest_5 : decode cX0_lowest 5 = .ok (.lsub, 1) := by decide +kernel
theorem dX0_lowest_6 : decode cX0_lowest 6 = .ok (.invokestatic 60, 3) := by decide +kernel
theorem dX0_lowest_9 : decode cX0_lowest 9 = .ok (.ireturn, 1) := by decide +kernel
def kX0_lowest_9 (mc ms : Nat) (X : Nat → zV) (Q : zQt) : zT :=
  zri Q
def aX0_lowest_0 (mc ms : Nat) (X : Nat → zV) (Q : zQt) : zT :=
  zll 0 <| zll 0 <| zj1 (fun x => -x) <| zjj (fun x y => x &&& y) <| zc (.long 1) <| zjj (fun x y => x - y) <| zcs mc ms 1 wJ13_bitCount_95d88 <| kX0_lowest_9 mc ms X Q
def lvX0_lowest : Nat → List Nat := fun L => match L with
  | 0 => [0]
  | _ => []
def wX0_lowest : zSp := fun mc ms av M Q => ((zlay av).length ≤ 2 ∧ zpick (zlay av) [0] = some av) ∧ ∀ X : Nat → zV, zin 2 [0] (aX0_lowest_0 mc ms X Q) X 0 → X 0 0 0 av [] M
set_option maxRecDepth 100000 in
set_option maxHeartbeats 4000000 in
theorem sX0_lowest (l : Launch) (G : zG) : zSnd l G yX0_lowest cX0_lowest 2 (some .int) 1 21 wX0_lowest := by
  refine zmk [0] (by decide) (fun mc ms av M Q h => h.1) ?_
  intro p e R s m args below meth c mc ms av M Q hC hRf hRl hr hnm h lv hlv
  obtain ⟨X, hXe⟩ : ∃ X : Nat → zV, X = fun L u v vs st M => ∀ lv, zpick lv (lvX0_lowest L) = some vs → zAt p l e R s m args below meth c (MQ below (zQ G Q) args s mc ms (zA G)) G 2 L u v lv st M := ⟨_, rfl⟩
  have hJ : ∀ L, zOk p l e R s m args below meth c (MQ below (zQ G Q) args s mc ms (zA G)) G 2 L (zj X L (lvX0_lowest L)) := fun L => S_jump (fun u v lv vs st M hp hx => by rw [hXe] at hx; exact hx lv hp)
  have hB0 : zin 2 [0] (aX0_lowest_0 mc ms X Q) X 0 := by
    intro u v vs st M hb
    rw [hXe]
    refine fun lv hp => S_block (L := 0) (live := [0]) ?_ u v lv vs st M hp hb
    unfold aX0_lowest_0
    refine S_lload_n (pc := 0) hC dX0_lowest_0 rfl ?_
    refine S_lload_n (pc := 1) hC dX0_lowest_1 rfl ?_
    refine S_lneg (pc := 2) hC dX0_lowest_2 ?_
    refine S_land (pc := 3) hC dX0_lowest_3 ?_
    refine S_lconst (pc := 4) hC dX0_lowest_4 (by decide) ?_
    refine S_lsub (pc := 5) hC dX0_lowest_5 ?_
    refine S_callS (pc := 6) hC (sJ13_bitCount_95d88 l G) wd_437 wd_438 wd_25 wd_439 (by decide +kernel) ⟨by rw [hRf]; decide, by rw [hRl]; decide⟩ dX0_lowest_6 ?_
    unfold kX0_lowest_9
    exact S_ireturn (pc := 9) hC hr dX0_lowest_9
  have := h.2 X hB0
  rw [hXe] at this
  exact this lv hlv
theorem vX0_lowest_0 {mc ms : Nat} {X : Nat → zV} {Q : zQt} {M : zM} {g : Nat} {x0 : Int64} (hW : zWd M g)  (h : wJ13_bitCount_95d88 0 0 [.long ((x0 &&& (-x0)) - (1 : Int64))] M (fun r M1 => kX0_lowest_9 mc ms X Q 0 0 [some (.long x0), none] (r.toList ++ []) M1)) : aX0_lowest_0 mc ms X Q 0 0 [some (.long x0), none] [] M := ⟨Nat.le_of_ble_eq_true rfl, rfl, 0, 0, Nat.zero_le _, Nat.zero_le _, h⟩
theorem vkX0_lowest_9 {mc ms : Nat} {X : Nat → zV} {Q : zQt} {M : zM} {g : Nat} {x0 : Int64} {s0 : Int32} (hW : zWd M g)  (h : Q (some (.int s0)) M) : kX0_lowest_9 mc ms X Q 0 0 [some (.long x0), none] [.int s0] M := h
theorem dX0_occupied_0 : decode cX0_occupied 0 = .ok (.aload_n 0, 1) := by decide +kernel
theorem dX0_occupied_1 : decode cX0_occupied 1 = .ok (.getfield 23, 3) := by decide +kernel
theorem dX0_occupied_4 : decode cX0_occupied 4 = .ok (.iconst 0, 1) := by decide +kernel
theorem dX0_occupied_5 : decode cX0_occupied 5 = .ok (.laload, 1) := by decide +kernel
theorem dX0_occupied_6 : decode cX0_occupied 6 = .ok (.aload_n 0, 1) := by decide +kernel
theorem dX0_occupied_7 : decode cX0_occupied 7 = .ok (.getfield 23, 3) := by decide +kernel
theorem dX0_occupied_10 : decode cX0_occupied 10 = .ok (.iconst 1, 1) := by decide +kernel
theorem dX0_occupied_11 : decode cX0_occupied 11 = .ok (.laload, 1) := by decide +kernel
theorem dX0_occupied_12 : decode cX0_occupied 12 = .ok (.lor, 1) := by decide +kernel
theorem dX0_occupied_13 : decode cX0_occupied 13 = .ok (.lreturn, 1) := by decide +kernel
def aX0_occupied_0 (mc ms : Nat) (X : Nat → zV) (Q : zQt) : zT :=
  zla 0 <| zgR 0 3 <| zc (.int 0) <| zall <| zla 0 <| zgR 0 3 <| zc (.int 1) <| zall <| zjj (fun x y => x ||| y) <| zrl Q
def lvX0_occupied : Nat → List Nat := fun L => match L with
  | 0 => [0]
  | _ => []
def wX0_occupied : zSp := fun mc ms av M Q => ((zlay av).length ≤ 1 ∧ zpick (zlay av) [0] = some av) ∧ ∀ X : Nat → zV, zin 1 [0] (aX0_occupied_0 mc ms X Q) X 0 → X 0 0 0 av [] M
set_option maxRecDepth 100000 in
set_option maxHeartbeats 4000000 in
theorem sX0_occupied (l : Launch) (G : zG) : zSnd l G yX0_occupied cX0_occupied 1 (some .long) 0 0 wX0_occupied := by
  refine zmk [0] (by decide) (fun mc ms av M Q h => h.1) ?_
  intro p e R s m args below meth c mc ms av M Q hC hRf hRl hr hnm h lv hlv
  obtain ⟨X, hXe⟩ : ∃ X : Nat → zV, X = fun L u v vs st M => ∀ lv, zpick lv (lvX0_occupied L) = some vs → zAt p l e R s m args below meth c (MQ below (zQ G Q) args s mc ms (zA G)) G 1 L u v lv st M := ⟨_, rfl⟩
  have hJ : ∀ L, zOk p l e R s m args below meth c (MQ below (zQ G Q) args s mc ms (zA G)) G 1 L (zj X L (lvX0_occupied L)) := fun L => S_jump (fun u v lv vs st M hp hx => by rw [hXe] at hx; exact hx lv hp)
  have hB0 : zin 1 [0] (aX0_occupied_0 mc ms X Q) X 0 := by
    intro u v vs st M hb
    rw [hXe]
    refine fun lv hp => S_block (L := 0) (live := [0]) ?_ u v lv vs st M hp hb
    unfold aX0_occupied_0
    refine S_aload_n (pc := 0) hC dX0_occupied_0 rfl ?_
    refine S_getR (pc := 1) hC cfX0 (by decide) (Or.inr ⟨_, rfl⟩) wd_225 dX0_occupied_1 ?_
    refine S_iconst (pc := 4) hC dX0_occupied_4 (by decide) ?_
    refine S_laload (pc := 5) hC dX0_occupied_5 ?_
    refine S_aload_n (pc := 6) hC dX0_occupied_6 rfl ?_
    refine S_getR (pc := 7) hC cfX0 (by decide) (Or.inr ⟨_, rfl⟩) wd_225 dX0_occupied_7 ?_
    refine S_iconst (pc := 10) hC dX0_occupied_10 (by decide) ?_
    refine S_laload (pc := 11) hC dX0_occupied_11 ?_
    refine S_lor (pc := 12) hC dX0_occupied_12 ?_
    exact S_lreturn (pc := 13) hC hr dX0_occupied_13
  have := h.2 X hB0
  rw [hXe] at this
  exact this lv hlv
theorem vX0_occupied_0 {mc ms : Nat} {X : Nat → zV} {Q : zQt} {M : zM} {g : Nat}  (hW : zWd M g)  (h : Q (some (.long ((((M : zM).2.1 ((g + 4)) (0 : Int32).toNatClampNeg) ||| ((M : zM).2.1 ((g + 4)) (1 : Int32).toNatClampNeg))))) M) : aX0_occupied_0 mc ms X Q 0 0 [some (.ref (g + 1))] [] M := ⟨(fgs_1 hW), (g + 4), (fgr_1_3 hW), ⟨2, (fgs_4 hW), by unfold vp_in; decide, ⟨(fgs_1 hW), (g + 4), (fgr_1_3 hW), ⟨2, (fgs_4 hW), by unfold vp_in; decide, h⟩⟩⟩⟩
theorem dX0_manyMen_0 : decode cX0_manyMen 0 = .ok (.aload_n 0, 1) := by decide +kernel
theorem dX0_manyMen_1 : decode cX0_manyMen 1 = .ok (.getfield 23, 3) := by decide +kernel
theorem dX0_manyMen_4 : decode cX0_manyMen 4 = .ok (.iconst 0, 1) := by decide +kernel
theorem dX0_manyMen_5 : decode cX0_manyMen 5 = .ok (.laload, 1) := by decide +kernel
theorem dX0_manyMen_6 : decode cX0_manyMen 6 = .ok (.aload_n 0, 1) := by decide +kernel
theorem dX0_manyMen_7 : decode cX0_manyMen 7 = .ok (.getfield 23, 3) := by decide +kernel
theorem dX0_manyMen_10 : decode cX0_manyMen 10 = .ok (.iconst 1, 1) := by decide +kernel
theorem dX0_manyMen_11 : decode cX0_manyMen 11 = .ok (.laload, 1) := by decide +kernel
theorem dX0_manyMen_12 : decode cX0_manyMen 12 = .ok (.lor, 1) := by decide +kernel
theorem dX0_manyMen_13 : decode cX0_manyMen 13 = .ok (.invokestatic 60, 3) := by decide +kernel
theorem dX0_manyMen_16 : decode cX0_manyMen 16 = .ok (.ireturn, 1) := by decide +kernel
def kX0_manyMen_16 (mc ms : Nat) (X : Nat → zV) (Q : zQt) : zT :=
  zri Q
def aX0_manyMen_0 (mc ms : Nat) (X : Nat → zV) (Q : zQt) : zT :=
  zla 0 <| zgR 0 3 <| zc (.int 0) <| zall <| zla 0 <| zgR 0 3 <| zc (.int 1) <| zall <| zjj (fun x y => x ||| y) <| zcs mc ms 1 wJ13_bitCount_95d88 <| kX0_manyMen_16 mc ms X Q
def lvX0_manyMen : Nat → List Nat := fun L => match L with
  | 0 => [0]
  | _ => []
def wX0_manyMen : zSp := fun mc ms av M Q => ((zlay av).length ≤ 1 ∧ zpick (zlay av) [0] = some av) ∧ ∀ X : Nat → zV, zin 1 [0] (aX0_manyMen_0 mc ms X Q) X 0 → X 0 0 0 av [] M
set_option maxRecDepth 100000 in
set_option maxHeartbeats 4000000 in
theorem sX0_manyMen (l : Launch) (G : zG) : zSnd l G yX0_manyMen cX0_manyMen 1 (some .int) 1 21 wX0_manyMen := by
  refine zmk [0] (by decide) (fun mc ms av M Q h => h.1) ?_
  intro p e R s m args below meth c mc ms av M Q hC hRf hRl hr hnm h lv hlv
  obtain ⟨X, hXe⟩ : ∃ X : Nat → zV, X = fun L u v vs st M => ∀ lv, zpick lv (lvX0_manyMen L) = some vs → zAt p l e R s m args below meth c (MQ below (zQ G Q) args s mc ms (zA G)) G 1 L u v lv st M := ⟨_, rfl⟩
  have hJ : ∀ L, zOk p l e R s m args below meth c (MQ below (zQ G Q) args s mc ms (zA G)) G 1 L (zj X L (lvX0_manyMen L)) := fun L => S_jump (fun u v lv vs st M hp hx => by rw [hXe] at hx; exact hx lv hp)
  have hB0 : zin 1 [0] (aX0_manyMen_0 mc ms X Q) X 0 := by
    intro u v vs st M hb
    rw [hXe]
    refine fun lv hp => S_block (L := 0) (live := [0]) ?_ u v lv vs st M hp hb
    unfold aX0_manyMen_0
    refine S_aload_n (pc := 0) hC dX0_manyMen_0 rfl ?_
    refine S_getR (pc := 1) hC cfX0 (by decide) (Or.inr ⟨_, rfl⟩) wd_225 dX0_manyMen_1 ?_
    refine S_iconst (pc := 4) hC dX0_manyMen_4 (by decide) ?_
    refine S_laload (pc := 5) hC dX0_manyMen_5 ?_
    refine S_aload_n (pc := 6) hC dX0_manyMen_6 rfl ?_
    refine S_getR (pc := 7) hC cfX0 (by decide) (Or.inr ⟨_, rfl⟩) wd_225 dX0_manyMen_7 ?_
    refine S_iconst (pc := 10) hC dX0_manyMen_10 (by decide) ?_
    refine S_laload (pc := 11) hC dX0_manyMen_11 ?_
    refine S_lor (pc := 12) hC dX0_manyMen_12 ?_
    refine S_callS (pc := 13) hC (sJ13_bitCount_95d88 l G) wd_437 wd_438 wd_25 wd_439 (by decide +kernel) ⟨by rw [hRf]; decide, by rw [hRl]; decide⟩ dX0_manyMen_13 ?_
    unfold kX0_manyMen_16
    exact S_ireturn (pc := 16) hC hr dX0_manyMen_16
  have := h.2 X hB0
  rw [hXe] at this
  exact this lv hlv
theorem vX0_manyMen_0 {mc ms : Nat} {X : Nat → zV} {Q : zQt} {M : zM} {g : Nat}  (hW : zWd M g)  (h : wJ13_bitCount_95d88 0 0 [.long (((M : zM).2.1 ((g + 4)) (0 : Int32).toNatClampNeg) ||| ((M : zM).2.1 ((g + 4)) (1 : Int32).toNatClampNeg))] M (fun r M1 => kX0_manyMen_16 mc ms X Q 0 0 [some (.ref (g + 1))] (r.toList ++ []) M1)) : aX0_manyMen_0 mc ms X Q 0 0 [some (.ref (g + 1))] [] M := ⟨(fgs_1 hW), (g + 4), (fgr_1_3 hW), ⟨2, (fgs_4 hW), by unfold vp_in; decide, ⟨(fgs_1 hW), (g + 4), (fgr_1_3 hW), ⟨2, (fgs_4 hW), by unfold vp_in; decide, ⟨Nat.le_of_ble_eq_true rfl, rfl, 0, 0, Nat.zero_le _, Nat.zero_le _, h⟩⟩⟩⟩⟩
theorem vkX0_manyMen_16 {mc ms : Nat} {X : Nat → zV} {Q : zQt} {M : zM} {g : Nat} {s0 : Int32} (hW : zWd M g)  (h : Q (some (.int s0)) M) : kX0_manyMen_16 mc ms X Q 0 0 [some (.ref (g + 1))] [.int s0] M := h
theorem dX0_put_0 : decode cX0_put 0 = .ok (.lconst 1, 1) := by decide +kernel
theorem dX0_put_1 : decode cX0_put 1 = .ok (.iload_n 1, 1) := by decide +kernel
theorem dX0_put_2 : decode cX0_put 2 = .ok (.lshl, 1) := by decide +kernel
theorem dX0_put_3 : decode cX0_put 3 = .ok (.lstore_n 3, 1) := by decide +kernel
theorem dX0_put_4 : decode cX0_put 4 = .ok (.aload_n 0, 1) := by decide +kernel
theorem dX0_put_5 : decode cX0_put 5 = .ok (.getfield 15, 3) := by decide +kernel
theorem dX0_put_8 : decode cX0_put 8 = .ok (.iload_n 1, 1) := by decide +kernel
theorem dX0_put_9 : decode cX0_put 9 = .ok (.iload_n 2, 1) := by decide +kernel
theorem dX0_put_10 : decode cX0_put 10 = .ok (.iastore, 1) := by decide +kernel
theorem dX0_put_11 : decode cX0_put 11 = .ok (.aload_n 0, 1) := by decide +kernel
theorem dX0_put_12 : decode cX0_put 12 = .ok (.getfield 19, 3) := by decide +kernel
theorem dX0_put_15 : decode cX0_put 15 = .ok (.iload_n 2, 1) := by decide +kernel
theorem dX0_put_16 : decode cX0_put 16 = .ok (.dup2, 1) := by decide +kernel
theorem dX0_put_17 : decode cX0_put 17 = .ok (.laload, 1) := by decide +kernel
theorem dX0_put_18 : decode cX0_put 18 = .ok (.lload_n 3, 1) := by decide +kernel
theorem dX0_put_19 : decode cX0_put 19 = .ok (.lor, 1) := by decide +kernel
theorem dX0_put_20 : decode cX0_put 20 = .ok (.lastore, 1) := by decide +kernel
theorem dX0_put_21 : decode cX0_put 21 = .ok (.aload_n 0, 1) := by decide +kernel
theorem dX0_put_22 : decode cX0_put 22 = .ok (.getfield 23, 3) := by decide +kernel
theorem dX0_put_25 : decode cX0_put 25 = .ok (.iload_n 2, 1) := by decide +kernel
theorem dX0_put_26 : decode cX0_put 26 = .ok (.bipush 6, 2) := by decide +kernel
theorem dX0_put_28 : decode cX0_put 28 = .ok (.if_icmp .le 7, 3) := by decide +kernel
theorem dX0_put_31 : decode cX0_put 31 = .ok (.iconst 1, 1) := by decide +kernel
theorem dX0_put_32 : decode cX0_put 32 = .ok (.goto 4, 3) := by decide +kernel
theorem dX0_put_35 : decode cX0_put 35 = .ok (.iconst 0, 1) := by decide +kernel
theorem dX0_put_36 : decode cX0_put 36 = .ok (.dup2, 1) := by decide +kernel
theorem dX0_put_37 : decode cX0_put 37 = .ok (.laload, 1) := by decide +kernel
theorem dX0_put_38 : decode cX0_put 38 = .ok (.lload_n 3, 1) := by decide +kernel
theorem dX0_put_39 : decode cX0_put 39 = .ok (.lor, 1) := by decide +kernel
theorem dX0_put_40 : decode cX0_put 40 = .ok (.lastore, 1) := by decide +kernel
theorem dX0_put_41 : decode cX0_put 41 = .ok (.aload_n 0, 1) := by decide +kernel
theorem dX0_put_42 : decode cX0_put 42 = .ok (.dup, 1) := by decide +kernel
theorem dX0_put_43 : decode cX0_put 43 = .ok (.getfield 54, 3) := by decide +kernel
theorem dX0_put_46 : decode cX0_put 46 = .ok (.getstatic 66, 3) := by decide +kernel
theorem dX0_put_49 : decode cX0_put 49 = .ok (.iload_n 2, 1) := by decide +kernel
theorem dX0_put_50 : decode cX0_put 50 = .ok (.iaload, 1) := by decide +kernel
theorem dX0_put_51 : decode cX0_put 51 = .ok (.iadd, 1) := by decide +kernel
theorem dX0_put_52 : decode cX0_put 52 = .ok (.putfield 54, 3) := by decide +kernel
theorem dX0_put_55 : decode cX0_put 55 = .ok (.return_, 1) := by decide +kernel
def kX0_put_4 (mc ms : Nat) (X : Nat → zV) (Q : zQt) : zT :=
  zla 0 <| zgR 0 1 <| zli 1 <| zli 2 <| zas 1 (fun x => x) <| zla 0 <| zgR 0 2 <| zli 2 <| zdp2 <| zall <| zll 3 <| zjj (fun x y => x ||| y) <| zasl <| zla 0 <| zgR 0 3 <| zli 2 <| zc (.int 6) <| zic (fun x y => x ≤ y) (zc (.int 0) <| zj X 36 [0, 2, 3]) <| zc (.int 1) <| zj X 36 [0, 2, 3]
def aX0_put_0 (mc ms : Nat) (X : Nat → zV) (Q : zQt) : zT :=
  zc (.long 1) <| zli 1 <| zji (fun x y => x <<< (y.toInt64 &&& 63)) <| zslN 3 <| kX0_put_4 mc ms X Q
def aX0_put_36 (mc ms : Nat) (X : Nat → zV) (Q : zQt) : zT :=
  zdp2 <| zall <| zll 3 <| zjj (fun x y => x ||| y) <| zasl <| zla 0 <| zdup <| zgi 0 9 <| zgs 4 <| zli 2 <| zxl 4 <| zii (fun x y => x + y) <| zpi 0 9 <| zrv Q
def lvX0_put : Nat → List Nat := fun L => match L with
  | 0 => [0, 1, 2]
  | 36 => [0, 2, 3]
  | _ => []
def wX0_put : zSp := fun mc ms av M Q => ((zlay av).length ≤ 5 ∧ zpick (zlay av) [0, 1, 2] = some av) ∧ ∀ X : Nat → zV, zin 5 [0, 1, 2] (aX0_put_0 mc ms X Q) X 0 → zin 5 [0, 2, 3] (aX0_put_36 mc ms X Q) X 36 → X 0 0 0 av [] M
set_option maxRecDepth 100000 in
set_option maxHeartbeats 4000000 in
theorem sX0_put (l : Launch) (G : zG) (hG : zStat G) : zSnd l G yX0_put cX0_put 5 none 0 0 wX0_put := by
  refine zmk [0, 1, 2] (by decide) (fun mc ms av M Q h => h.1) ?_
  intro p e R s m args below meth c mc ms av M Q hC hRf hRl hr hnm h lv hlv
  obtain ⟨X, hXe⟩ : ∃ X : Nat → zV, X = fun L u v vs st M => ∀ lv, zpick lv (lvX0_put L) = some vs → zAt p l e R s m args below meth c (MQ below (zQ G Q) args s mc ms (zA G)) G 5 L u v lv st M := ⟨_, rfl⟩
  have hJ : ∀ L, zOk p l e R s m args below meth c (MQ below (zQ G Q) args s mc ms (zA G)) G 5 L (zj X L (lvX0_put L)) := fun L => S_jump (fun u v lv vs st M hp hx => by rw [hXe] at hx; exact hx lv hp)
  have hB0 : zin 5 [0, 1, 2] (aX0_put_0 mc ms X Q) X 0 := by
    intro u v vs st M hb
    rw [hXe]
    refine fun lv hp => S_block (L := 0) (live := [0, 1, 2]) ?_ u v lv vs st M hp hb
    unfold aX0_put_0
    refine S_lconst (pc := 0) hC dX0_put_0 (by decide) ?_
    refine S_iload_n (pc := 1) hC dX0_put_1 rfl ?_
    refine S_lshl (pc := 2) hC dX0_put_2 ?_
    refine S_lstore_n_N (pc := 3) hC dX0_put_3 rfl (by decide) ?_
    unfold kX0_put_4
    refine S_aload_n (pc := 4) hC dX0_put_4 rfl ?_
    refine S_getR (pc := 5) hC cfX0 (by decide) (Or.inr ⟨_, rfl⟩) wd_213 dX0_put_5 ?_
    refine S_iload_n (pc := 8) hC dX0_put_8 rfl ?_
    refine S_iload_n (pc := 9) hC dX0_put_9 rfl ?_
    refine S_iastore (pc := 10) hC dX0_put_10 ?_
    refine S_aload_n (pc := 11) hC dX0_put_11 rfl ?_
    refine S_getR (pc := 12) hC cfX0 (by decide) (Or.inr ⟨_, rfl⟩) wd_220 dX0_put_12 ?_
    refine S_iload_n (pc := 15) hC dX0_put_15 rfl ?_
    refine S_dup2 (pc := 16) hC dX0_put_16 ?_
    refine S_laload (pc := 17) hC dX0_put_17 ?_
    refine S_lload_n (pc := 18) hC dX0_put_18 rfl ?_
    refine S_lor (pc := 19) hC dX0_put_19 ?_
    refine S_lastore (pc := 20) hC dX0_put_20 ?_
    refine S_aload_n (pc := 21) hC dX0_put_21 rfl ?_
    refine S_getR (pc := 22) hC cfX0 (by decide) (Or.inr ⟨_, rfl⟩) wd_225 dX0_put_22 ?_
    refine S_iload_n (pc := 25) hC dX0_put_25 rfl ?_
    refine S_bipush (pc := 26) hC dX0_put_26 (by decide) ?_
    refine S_icmp_le (pc := 28) (tgt := 35) hC dX0_put_28 (by decide) ?_ ?_
    · refine S_iconst (pc := 35) hC dX0_put_35 (by decide) ?_
      exact hJ 36
    · refine S_iconst (pc := 31) hC dX0_put_31 (by decide) ?_
      refine S_goto (pc := 32) (tgt := 36) hC dX0_put_32 (by decide) ?_
      exact hJ 36
  have hB36 : zin 5 [0, 2, 3] (aX0_put_36 mc ms X Q) X 36 := by
    intro u v vs st M hb
    rw [hXe]
    refine fun lv hp => S_block (L := 36) (live := [0, 2, 3]) ?_ u v lv vs st M hp hb
    unfold aX0_put_36
    refine S_dup2 (pc := 36) hC dX0_put_36 ?_
    refine S_laload (pc := 37) hC dX0_put_37 ?_
    refine S_lload_n (pc := 38) hC dX0_put_38 rfl ?_
    refine S_lor (pc := 39) hC dX0_put_39 ?_
    refine S_lastore (pc := 40) hC dX0_put_40 ?_
    refine S_aload_n (pc := 41) hC dX0_put_41 rfl ?_
    refine S_dup (pc := 42) hC dX0_put_42 ?_
    refine S_geti (pc := 43) hC cfX0 (by decide) (Or.inl rfl) wd_259 dX0_put_43 ?_
    refine S_gets (pc := 46) hC hG (e0 := 4) (by decide) wd_411 dX0_put_46 ?_
    refine S_iload_n (pc := 49) hC dX0_put_49 rfl ?_
    refine S_xload (pc := 50) hC hG (by decide) dX0_put_50 ?_
    refine S_iadd (pc := 51) hC dX0_put_51 ?_
    refine S_puti (pc := 52) hC cfX0 (by decide) rfl (Or.inl rfl) wd_259 dX0_put_52 ?_
    exact S_vreturn (pc := 55) hC hr dX0_put_55
  have := h.2 X hB0 hB36
  rw [hXe] at this
  exact this lv hlv
theorem vcX0_put_4 {mc ms : Nat} {X : Nat → zV} {Q : zQt} {M : zM} {g : Nat} {x1 : Int32} {x2 : Int32} {x3 : Int64} (hW : zWd M g)  (h : vp_in x1 64 ∧ ∀ M10 : zM, M10 = (zsI M ((g + 2)) (x1 : Int32).toNatClampNeg x2) → vp_in x2 13 ∧ vp_in x2 13 ∧ ∀ M20 : zM, M20 = (zsJ M10 ((g + 3)) (x2 : Int32).toNatClampNeg ((((M10 : zM).2.1 ((g + 3)) (x2 : Int32).toNatClampNeg) ||| x3))) → (x2 ≤ (6 : Int32) → X 36 0 0 [.ref (g + 1), .int x2, .long x3] [.int 0, .ref (g + 4)] M20) ∧ (¬ x2 ≤ (6 : Int32) → X 36 0 0 [.ref (g + 1), .int x2, .long x3] [.int 1, .ref (g + 4)] M20)) : kX0_put_4 mc ms X Q 0 0 [some (.ref (g + 1)), some (.int x1), some (.int x2), some (.long x3), none] [] M := ⟨(fgs_1 hW), (g + 2), (fgr_1_1 hW), ⟨64, (fgs_2 hW), h.1, (have h10 := h.2 _ rfl; ⟨(fgs_1 hW), (g + 3), (fgr_1_2 hW), ⟨13, (fgs_3 hW), h10.1, ⟨13, (fgs_3 hW), h10.2.1, (have h20 := h10.2.2 _ rfl; ⟨(fgs_1 hW), (g + 4), (fgr_1_3 hW), ⟨fun c28 => (h20.1 c28), fun c28 => (h20.2 c28)⟩⟩)⟩⟩⟩)⟩⟩
theorem vX0_put_0 {mc ms : Nat} {X : Nat → zV} {Q : zQt} {M : zM} {g : Nat} {x1 : Int32} {x2 : Int32} (hW : zWd M g)  (h : ∀ y3 : Int64, y3 = ((1 : Int64) <<< (x1.toInt64 &&& 63)) → vp_in x1 64 ∧ ∀ M10 : zM, M10 = (zsI M ((g + 2)) (x1 : Int32).toNatClampNeg x2) → vp_in x2 13 ∧ vp_in x2 13 ∧ ∀ M20 : zM, M20 = (zsJ M10 ((g + 3)) (x2 : Int32).toNatClampNeg ((((M10 : zM).2.1 ((g + 3)) (x2 : Int32).toNatClampNeg) ||| y3))) → (x2 ≤ (6 : Int32) → X 36 0 0 [.ref (g + 1), .int x2, .long y3] [.int 0, .ref (g + 4)] M20) ∧ (¬ x2 ≤ (6 : Int32) → X 36 0 0 [.ref (g + 1), .int x2, .long y3] [.int 1, .ref (g + 4)] M20)) : aX0_put_0 mc ms X Q 0 0 [some (.ref (g + 1)), some (.int x1), some (.int x2), none, none] [] M := (fun y3 e3 => have h3 := h y3 e3; (vcX0_put_4 hW  h3))
theorem vX0_put_36 {mc ms : Nat} {X : Nat → zV} {Q : zQt} {M : zM} {g : Nat} {x2 : Int32} {x3 : Int64} {s0 : Int32} (hW : zWd M g)  (h : vp_in s0 2 ∧ vp_in s0 2 ∧ ∀ M40 : zM, M40 = (zsJ M ((g + 4)) (s0 : Int32).toNatClampNeg ((((M : zM).2.1 ((g + 4)) (s0 : Int32).toNatClampNeg) ||| x3))) → vp_in x2 13 ∧ ∀ M52 : zM, M52 = (zsI M40 ((g + 1)) 9 (((M40.1 ((g + 1)) 9) + ((zstn 4).2.2.getD (x2 : Int32).toNatClampNeg 0)))) → Q none M52) : aX0_put_36 mc ms X Q 0 0 [some (.ref (g + 1)), none, some (.int x2), some (.long x3), none] [.int s0, .ref (g + 4)] M := ⟨2, (fgs_4 hW), h.1, ⟨2, (fgs_4 hW), h.2.1, (have h40 := h.2.2 _ rfl; ⟨(fgs_1 hW), ⟨rfl, h40.1, ⟨(fgs_1 hW), (have h52 := h40.2 _ rfl; h52)⟩⟩⟩)⟩⟩
theorem dX0_lift_0 : decode cX0_lift 0 = .ok (.aload_n 0, 1) := by decide +kernel
theorem dX0_lift_1 : decode cX0_lift 1 = .ok (.getfield 15, 3) := by decide +kernel
theorem dX0_lift_4 : decode cX0_lift 4 = .ok (.iload_n 1, 1) := by decide +kernel
theorem dX0_lift_5 : decode cX0_lift 5 = .ok (.iaload, 1) := by decide +kernel
theorem dX0_lift_6 : decode cX0_lift 6 = .ok (.istore_n 2, 1) := by decide +kernel
theorem dX0_lift_7 : decode cX0_lift 7 = .ok (.lconst 1, 1) := by decide +kernel
theorem dX0_lift_8 : decode cX0_lift 8 = .ok (.iload_n 1, 1) := by decide +kernel
theorem dX0_lift_9 : decode cX0_lift 9 = .ok (.lshl, 1) := by decide +kernel
theorem dX0_lift_10 : decode cX0_lift 10 = .ok (.lstore_n 3, 1) := by decide +kernel
theorem dX0_lift_11 : decode cX0_lift 11 = .ok (.aload_n 0, 1) := by decide +kernel
theorem dX0_lift_12 : decode cX0_lift 12 = .ok (.getfield 15, 3) := by decide +kernel
theorem dX0_lift_15 : decode cX0_lift 15 = .ok (.iload_n 1, 1) := by decide +kernel
theorem dX0_lift_16 : decode cX0_lift 16 = .ok (.iconst 0, 1) := by decide +kernel
theorem dX0_lift_17 : decode cX0_lift 17 = .ok (.iastore, 1) := by decide +kernel
theorem dX0_lift_18 : decode cX0_lift 18 = .ok (.aload_n 0, 1) := by decide +kernel
theorem dX0_lift_19 : decode cX0_lift 19 = .ok (.getfield 19, 3) := by decide +kernel
theorem dX0_lift_22 : decode cX0_lift 22 = .ok (.iload_n 2, 1) := by decide +kernel
theorem dX0_lift_23 : decode cX0_lift 23 = .ok (.dup2, 1) := by decide +kernel
theorem dX0_lift_24 : decode cX0_lift 24 = .ok (.laload, 1) := by decide +kernel
theorem dX0_lift_25 : decode cX0_lift 25 = .ok (.lload_n 3, 1) := by decide +kernel
theorem dX0_lift_26 : decode cX0_lift 26 = .ok (.ldc2_w 69, 3) := by decide +kernel
theorem dX0_lift_29 : decode cX0_lift 29 = .ok (.lxor, 1) := by decide +kernel
theorem dX0_lift_30 : decode cX0_lift 30 = .ok (.land, 1) := by decide +kernel
theorem dX0_lift_31 : decode cX0_lift 31 = .ok (.lastore, 1) := by decide +kernel
theorem dX0_lift_32 : decode cX0_lift 32 = .ok (.aload_n 0, 1) := by decide +kernel
theorem dX0_lift_33 : decode cX0_lift 33 = .ok (.getfield 23, 3) := by decide +kernel
theorem dX0_lift_36 : decode cX0_lift 36 = .ok (.iload_n 2, 1) := by decide +kernel
theorem dX0_lift_37 : decode cX0_lift 37 = .ok (.bipush 6, 2) := by decide +kernel
theorem dX0_lift_39 : decode cX0_lift 39 = .ok (.if_icmp .le 7, 3) := by decide +kernel
theorem dX0_lift_42 : decode cX0_lift 42 = .ok (.iconst 1, 1) := by decide +kernel
theorem dX0_lift_43 : decode cX0_lift 43 = .ok (.goto 4, 3) := by decide +kernel
theorem dX0_lift_46 : decode cX0_lift 46 = .ok (.iconst 0, 1) := by decide +kernel
theorem dX0_lift_47 : decode cX0_lift 47 = .ok (.dup2, 1) := by decide +kernel
theorem dX0_lift_48 : decode cX0_lift 48 = .ok (.laload, 1) := by decide +kernel
theorem dX0_lift_49 : decode cX0_lift 49 = .ok (.lload_n 3, 1) := by decide +kernel
theorem dX0_lift_50 : decode cX0_lift 50 = .ok (.ldc2_w 69, 3) := by decide +kernel
theorem dX0_lift_53 : decode cX0_lift 53 = .ok (.lxor, 1) := by decide +kernel
theorem dX0_lift_54 : decode cX0_lift 54 = .ok (.land, 1) := by decide +kernel
theorem dX0_lift_55 : decode cX0_lift 55 = .ok (.lastore, 1) := by decide +kernel
theorem dX0_lift_56 : decode cX0_lift 56 = .ok (.aload_n 0, 1) := by decide +kernel
theorem dX0_lift_57 : decode cX0_lift 57 = .ok (.dup, 1) := by decide +kernel
theorem dX0_lift_58 : decode cX0_lift 58 = .ok (.getfield 54, 3) := by decide +kernel
theorem dX0_lift_61 : decode cX0_lift 61 = .ok (.getstatic 66, 3) := by decide +kernel
theorem dX0_lift_64 : decode cX0_lift 64 = .ok (.iload_n 2, 1) := by decide +kernel
theorem dX0_lift_65 : decode cX0_lift 65 = .ok (.iaload, 1) := by decide +kernel
theorem dX0_lift_66 : decode cX0_lift 66 = .ok (.isub, 1) := by decide +kernel
theorem dX0_lift_67 : decode cX0_lift 67 = .ok (.putfield 54, 3) := by decide +kernel
theorem dX0_lift_70 : decode cX0_lift 70 = .ok (.return_, 1) := by decide +kernel
def kX0_lift_11 (mc ms : Nat) (X : Nat → zV) (Q : zQt) : zT :=
  zla 0 <| zgR 0 1 <| zli 1 <| zc (.int 0) <| zas 1 (fun x => x) <| zla 0 <| zgR 0 2 <| zli 2 <| zdp2 <| zall <| zll 3 <| zc (.long (-1)) <| zjj (fun x y => x ^^^ y) <| zjj (fun x y => x &&& y) <| zasl <| zla 0 <| zgR 0 3 <| zli 2 <| zc (.int 6) <| zic (fun x y => x ≤ y) (zc (.int 0) <| zj X 47 [0, 2, 3]) <| zc (.int 1) <| zj X 47 [0, 2, 3]
def kX0_lift_7 (mc ms : Nat) (X : Nat → zV) (Q : zQt) : zT :=
  zc (.long 1) <| zli 1 <| zji (fun x y => x <<< (y.toInt64 &&& 63)) <| zslN 3 <| kX0_lift_11 mc ms X Q
def aX0_lift_0 (mc ms : Nat) (X : Nat → zV) (Q : zQt) : zT :=
  zla 0 <| zgR 0 1 <| zli 1 <| zal 1 <| zsiN 2 <| kX0_lift_7 mc ms X Q
def aX0_lift_47 (mc ms : Nat) (X : Nat → zV) (Q : zQt) : zT :=
  zdp2 <| zall <| zll 3 <| zc (.long (-1)) <| zjj (fun x y => x ^^^ y) <| zjj (fun x y => x &&& y) <| zasl <| zla 0 <| zdup <| zgi 0 9 <| zgs 4 <| zli 2 <| zxl 4 <| zii (fun x y => x - y) <| zpi 0 9 <| zrv Q
def lvX0_lift : Nat → List Nat := fun L => match L with
  | 0 => [0, 1]
  | 47 => [0, 2, 3]
  | _ => []
def wX0_lift : zSp := fun mc ms av M Q => ((zlay av).length ≤ 5 ∧ zpick (zlay av) [0, 1] = some av) ∧ ∀ X : Nat → zV, zin 5 [0, 1] (aX0_lift_0 mc ms X Q) X 0 → zin 5 [0, 2, 3] (aX0_lift_47 mc ms X Q) X 47 → X 0 0 0 av [] M
set_option maxRecDepth 100000 in
set_option maxHeartbeats 4000000 in
theorem sX0_lift (l : Launch) (G : zG) (hG : zStat G) : zSnd l G yX0_lift cX0_lift 5 none 0 0 wX0_lift := by
  refine zmk [0, 1] (by decide) (fun mc ms av M Q h => h.1) ?_
  intro p e R s m args below meth c mc ms av M Q hC hRf hRl hr hnm h lv hlv
  obtain ⟨X, hXe⟩ : ∃ X : Nat → zV, X = fun L u v vs st M => ∀ lv, zpick lv (lvX0_lift L) = some vs → zAt p l e R s m args below meth c (MQ below (zQ G Q) args s mc ms (zA G)) G 5 L u v lv st M := ⟨_, rfl⟩
  have hJ : ∀ L, zOk p l e R s m args below meth c (MQ below (zQ G Q) args s mc ms (zA G)) G 5 L (zj X L (lvX0_lift L)) := fun L => S_jump (fun u v lv vs st M hp hx => by rw [hXe] at hx; exact hx lv hp)
  have hB0 : zin 5 [0, 1] (aX0_lift_0 mc ms X Q) X 0 := by
    intro u v vs st M hb
    rw [hXe]
    refine fun lv hp => S_block (L := 0) (live := [0, 1]) ?_ u v lv vs st M hp hb
    unfold aX0_lift_0
    refine S_aload_n (pc := 0) hC dX0_lift_0 rfl ?_
    refine S_getR (pc := 1) hC cfX0 (by decide) (Or.inr ⟨_, rfl⟩) wd_213 dX0_lift_1 ?_
    refine S_iload_n (pc := 4) hC dX0_lift_4 rfl ?_
    refine S_iaload (pc := 5) hC dX0_lift_5 ?_
    refine S_istore_n_N (pc := 6) hC dX0_lift_6 rfl (by decide) ?_
    unfold kX0_lift_7
    refine S_lconst (pc := 7) hC dX0_lift_7 (by decide) ?_
    refine S_iload_n (pc := 8) hC dX0_lift_8 rfl ?_
    refine S_lshl (pc := 9) hC dX0_lift_9 ?_
    refine S_lstore_n_N (pc := 10) hC dX0_lift_10 rfl (by decide) ?_
    unfold kX0_lift_11
    refine S_aload_n (pc := 11) hC dX0_lift_11 rfl ?_
    refine S_getR (pc := 12) hC cfX0 (by decide) (Or.inr ⟨_, rfl⟩) wd_213 dX0_lift_12 ?_
    refine S_iload_n (pc := 15) hC dX0_lift_15 rfl ?_
    refine S_iconst (pc := 16) hC dX0_lift_16 (by decide) ?_
    refine S_iastore (pc := 17) hC dX0_lift_17 ?_
    refine S_aload_n (pc := 18) hC dX0_lift_18 rfl ?_
    refine S_getR (pc := 19) hC cfX0 (by decide) (Or.inr ⟨_, rfl⟩) wd_220 dX0_lift_19 ?_
    refine S_iload_n (pc := 22) hC dX0_lift_22 rfl ?_
    refine S_dup2 (pc := 23) hC dX0_lift_23 ?_
    refine S_laload (pc := 24) hC dX0_lift_24 ?_
    refine S_lload_n (pc := 25) hC dX0_lift_25 rfl ?_
    refine S_ldc2 (pc := 26) hC wd_410 dX0_lift_26 ?_
    refine S_lxor (pc := 29) hC dX0_lift_29 ?_
    refine S_land (pc := 30) hC dX0_lift_30 ?_
    refine S_lastore (pc := 31) hC dX0_lift_31 ?_
    refine S_aload_n (pc := 32) hC dX0_lift_32 rfl ?_
    refine S_getR (pc := 33) hC cfX0 (by decide) (Or.inr ⟨_, rfl⟩) wd_225 dX0_lift_33 ?_
    refine S_iload_n (pc := 36) hC dX0_lift_36 rfl ?_
    refine S_bipush (pc := 37) hC dX0_lift_37 (by decide) ?_
    refine S_icmp_le (pc := 39) (tgt := 46) hC dX0_lift_39 (by decide) ?_ ?_
    · refine S_iconst (pc := 46) hC dX0_lift_46 (by decide) ?_
      exact hJ 47
    · refine S_iconst (pc := 42) hC dX0_lift_42 (by decide) ?_
      refine S_goto (pc := 43) (tgt := 47) hC dX0_lift_43 (by decide) ?_
      exact hJ 47
  have hB47 : zin 5 [0, 2, 3] (aX0_lift_47 mc ms X Q) X 47 := by
    intro u v vs st M hb
    rw [hXe]
    refine fun lv hp => S_block (L := 47) (live := [0, 2, 3]) ?_ u v lv vs st M hp hb
    unfold aX0_lift_47
    refine S_dup2 (pc := 47) hC dX0_lift_47 ?_
    refine S_laload (pc := 48) hC dX0_lift_48 ?_
    refine S_lload_n (pc := 49) hC dX0_lift_49 rfl ?_
    refine S_ldc2 (pc := 50) hC wd_410 dX0_lift_50 ?_
    refine S_lxor (pc := 53) hC dX0_lift_53 ?_
    refine S_land (pc := 54) hC dX0_lift_54 ?_
    refine S_lastore (pc := 55) hC dX0_lift_55 ?_
    refine S_aload_n (pc := 56) hC dX0_lift_56 rfl ?_
    refine S_dup (pc := 57) hC dX0_lift_57 ?_
    refine S_geti (pc := 58) hC cfX0 (by decide) (Or.inl rfl) wd_259 dX0_lift_58 ?_
    refine S_gets (pc := 61) hC hG (e0 := 4) (by decide) wd_411 dX0_lift_61 ?_
    refine S_iload_n (pc := 64) hC dX0_lift_64 rfl ?_
    refine S_xload (pc := 65) hC hG (by decide) dX0_lift_65 ?_
    refine S_isub (pc := 66) hC dX0_lift_66 ?_
    refine S_puti (pc := 67) hC cfX0 (by decide) rfl (Or.inl rfl) wd_259 dX0_lift_67 ?_
    exact S_vreturn (pc := 70) hC hr dX0_lift_70
  have := h.2 X hB0 hB47
  rw [hXe] at this
  exact this lv hlv
theorem vcX0_lift_11 {mc ms : Nat} {X : Nat → zV} {Q : zQt} {M : zM} {g : Nat} {x1 : Int32} {x2 : Int32} {x3 : Int64} (hW : zWd M g)  (h : vp_in x1 64 ∧ ∀ M17 : zM, M17 = (zsI M ((g + 2)) (x1 : Int32).toNatClampNeg 0) → vp_in x2 13 ∧ vp_in x2 13 ∧ ∀ M31 : zM, M31 = (zsJ M17 ((g + 3)) (x2 : Int32).toNatClampNeg ((((M17 : zM).2.1 ((g + 3)) (x2 : Int32).toNatClampNeg) &&& (x3 ^^^ ((-1) : Int64))))) → (x2 ≤ (6 : Int32) → X 47 0 0 [.ref (g + 1), .int x2, .long x3] [.int 0, .ref (g + 4)] M31) ∧ (¬ x2 ≤ (6 : Int32) → X 47 0 0 [.ref (g + 1), .int x2, .long x3] [.int 1, .ref (g + 4)] M31)) : kX0_lift_11 mc ms X Q 0 0 [some (.ref (g + 1)), some (.int x1), some (.int x2), some (.long x3), none] [] M := ⟨(fgs_1 hW), (g + 2), (fgr_1_1 hW), ⟨64, (fgs_2 hW), h.1, (have h17 := h.2 _ rfl; ⟨(fgs_1 hW), (g + 3), (fgr_1_2 hW), ⟨13, (fgs_3 hW), h17.1, ⟨13, (fgs_3 hW), h17.2.1, (have h31 := h17.2.2 _ rfl; ⟨(fgs_1 hW), (g + 4), (fgr_1_3 hW), ⟨fun c39 => (h31.1 c39), fun c39 => (h31.2 c39)⟩⟩)⟩⟩⟩)⟩⟩
theorem vcX0_lift_7 {mc ms : Nat} {X : Nat → zV} {Q : zQt} {M : zM} {g : Nat} {x1 : Int32} {x2 : Int32} (hW : zWd M g)  (h : ∀ y10 : Int64, y10 = ((1 : Int64) <<< (x1.toInt64 &&& 63)) → vp_in x1 64 ∧ ∀ M17 : zM, M17 = (zsI M ((g + 2)) (x1 : Int32).toNatClampNeg 0) → vp_in x2 13 ∧ vp_in x2 13 ∧ ∀ M31 : zM, M31 = (zsJ M17 ((g + 3)) (x2 : Int32).toNatClampNeg ((((M17 : zM).2.1 ((g + 3)) (x2 : Int32).toNatClampNeg) &&& (y10 ^^^ ((-1) : Int64))))) → (x2 ≤ (6 : Int32) → X 47 0 0 [.ref (g + 1), .int x2, .long y10] [.int 0, .ref (g + 4)] M31) ∧ (¬ x2 ≤ (6 : Int32) → X 47 0 0 [.ref (g + 1), .int x2, .long y10] [.int 1, .ref (g + 4)] M31)) : kX0_lift_7 mc ms X Q 0 0 [some (.ref (g + 1)), some (.int x1), some (.int x2), none, none] [] M := (fun y10 e10 => have h10 := h y10 e10; (vcX0_lift_11 hW  h10))
theorem vX0_lift_0 {mc ms : Nat} {X : Nat → zV} {Q : zQt} {M : zM} {g : Nat} {x1 : Int32} (hW : zWd M g)  (h : vp_in x1 64 ∧ ∀ y6 : Int32, y6 = ((M : zM).1 ((g + 2)) (x1 : Int32).toNatClampNeg) → ∀ y10 : Int64, y10 = ((1 : Int64) <<< (x1.toInt64 &&& 63)) → vp_in x1 64 ∧ ∀ M17 : zM, M17 = (zsI M ((g + 2)) (x1 : Int32).toNatClampNeg 0) → vp_in y6 13 ∧ vp_in y6 13 ∧ ∀ M31 : zM, M31 = (zsJ M17 ((g + 3)) (y6 : Int32).toNatClampNeg ((((M17 : zM).2.1 ((g + 3)) (y6 : Int32).toNatClampNeg) &&& (y10 ^^^ ((-1) : Int64))))) → (y6 ≤ (6 : Int32) → X 47 0 0 [.ref (g + 1), .int y6, .long y10] [.int 0, .ref (g + 4)] M31) ∧ (¬ y6 ≤ (6 : Int32) → X 47 0 0 [.ref (g + 1), .int y6, .long y10] [.int 1, .ref (g + 4)] M31)) : aX0_lift_0 mc ms X Q 0 0 [some (.ref (g + 1)), some (.int x1), none, none, none] [] M := ⟨(fgs_1 hW), (g + 2), (fgr_1_1 hW), ⟨64, (fgs_2 hW), h.1, (fun y6 e6 => have h6 := h.2 y6 e6; (vcX0_lift_7 hW  h6))⟩⟩
theorem vX0_lift_47 {mc ms : Nat} {X : Nat → zV} {Q : zQt} {M : zM} {g : Nat} {x2 : Int32} {x3 : Int64} {s0 : Int32} (hW : zWd M g)  (h : vp_in s0 2 ∧ vp_in s0 2 ∧ ∀ M55 : zM, M55 = (zsJ M ((g + 4)) (s0 : Int32).toNatClampNeg ((((M : zM).2.1 ((g + 4)) (s0 : Int32).toNatClampNeg) &&& (x3 ^^^ ((-1) : Int64))))) → vp_in x2 13 ∧ ∀ M67 : zM, M67 = (zsI M55 ((g + 1)) 9 (((M55.1 ((g + 1)) 9) - ((zstn 4).2.2.getD (x2 : Int32).toNatClampNeg 0)))) → Q none M67) : aX0_lift_47 mc ms X Q 0 0 [some (.ref (g + 1)), none, some (.int x2), some (.long x3), none] [.int s0, .ref (g + 4)] M := ⟨2, (fgs_4 hW), h.1, ⟨2, (fgs_4 hW), h.2.1, (have h55 := h.2.2 _ rfl; ⟨(fgs_1 hW), ⟨rfl, h55.1, ⟨(fgs_1 hW), (have h67 := h55.2 _ rfl; h67)⟩⟩⟩)⟩⟩
theorem dX0_kingOf_0 : decode cX0_kingOf 0 = .ok (.aload_n 0, 1) := by decide +kernel
theorem dX0_kingOf_1 : decode cX0_kingOf 1 = .ok (.getfield 19, 3) := by decide +kernel
theorem dX0_kingOf_4 : decode cX0_kingOf 4 = .ok (.bipush 6, 2) := by decide +kernel
theorem dX0_kingOf_6 : decode cX0_kingOf 6 = .ok (.bipush 6, 2) := by decide +kernel
theorem dX0_kingOf_8 : decode cX0_kingOf 8 = .ok (.iload_n 1, 1) := by decide +kernel
theorem dX0_kingOf_9 : decode cX0_kingOf 9 = .ok (.imul, 1) := by decide +kernel
theorem dX0_kingOf_10 : decode cX0_kingOf 10 = .ok (.iadd, 1) := by decide +kernel
theorem dX0_kingOf_11 : decode cX0_kingOf 11 = .ok (.laload, 1) := by decide +kernel
theorem dX0_kingOf_12 : decode cX0_kingOf 12 = .ok (.invokestatic 71, 3) := by decide +kernel
theorem dX0_kingOf_15 : decode cX0_kingOf 15 = .ok (.ireturn, 1) := by decide +kernel
def kX0_kingOf_15 (mc ms : Nat) (X : Nat → zV) (Q : zQt) : zT :=
  zri Q
def aX0_kingOf_0 (mc ms : Nat) (X : Nat → zV) (Q : zQt) : zT :=
  zla 0 <| zgR 0 2 <| zc (.int 6) <| zc (.int 6) <| zli 1 <| zii (fun x y => x * y) <| zii (fun x y => x + y) <| zall <| zcs mc ms 1 wX0_lowest <| kX0_kingOf_15 mc ms X Q
def lvX0_kingOf : Nat → List Nat := fun L => match L with
  | 0 => [0, 1]
  | _ => []
def wX0_kingOf : zSp := fun mc ms av M Q => ((zlay av).length ≤ 2 ∧ zpick (zlay av) [0, 1] = some av) ∧ ∀ X : Nat → zV, zin 2 [0, 1] (aX0_kingOf_0 mc ms X Q) X 0 → X 0 0 0 av [] M
set_option maxRecDepth 100000 in
set_option maxHeartbeats 4000000 in
theorem sX0_kingOf (l : Launch) (G : zG) : zSnd l G yX0_kingOf cX0_kingOf 2 (some .int) 2 42 wX0_kingOf := by
  refine zmk [0, 1] (by decide) (fun mc ms av M Q h => h.1) ?_
  intro p e R s m args below meth c mc ms av M Q hC hRf hRl hr hnm h lv hlv
  obtain ⟨X, hXe⟩ : ∃ X : Nat → zV, X = fun L u v vs st M => ∀ lv, zpick lv (lvX0_kingOf L) = some vs → zAt p l e R s m args below meth c (MQ below (zQ G Q) args s mc ms (zA G)) G 2 L u v lv st M := ⟨_, rfl⟩
  have hJ : ∀ L, zOk p l e R s m args below meth c (MQ below (zQ G Q) args s mc ms (zA G)) G 2 L (zj X L (lvX0_kingOf L)) := fun L => S_jump (fun u v lv vs st M hp hx => by rw [hXe] at hx; exact hx lv hp)
  have hB0 : zin 2 [0, 1] (aX0_kingOf_0 mc ms X Q) X 0 := by
    intro u v vs st M hb
    rw [hXe]
    refine fun lv hp => S_block (L := 0) (live := [0, 1]) ?_ u v lv vs st M hp hb
    unfold aX0_kingOf_0
    refine S_aload_n (pc := 0) hC dX0_kingOf_0 rfl ?_
    refine S_getR (pc := 1) hC cfX0 (by decide) (Or.inr ⟨_, rfl⟩) wd_220 dX0_kingOf_1 ?_
    refine S_bipush (pc := 4) hC dX0_kingOf_4 (by decide) ?_
    refine S_bipush (pc := 6) hC dX0_kingOf_6 (by decide) ?_
    refine S_iload_n (pc := 8) hC dX0_kingOf_8 rfl ?_
    refine S_imul (pc := 9) hC dX0_kingOf_9 ?_
    refine S_iadd (pc := 10) hC dX0_kingOf_10 ?_
    refine S_laload (pc := 11) hC dX0_kingOf_11 ?_
    refine S_callS (pc := 12) hC (sX0_lowest l G) wd_434 wd_435 wd_10 wd_436 (by decide +kernel) ⟨by rw [hRf]; decide, by rw [hRl]; decide⟩ dX0_kingOf_12 ?_
    unfold kX0_kingOf_15
    exact S_ireturn (pc := 15) hC hr dX0_kingOf_15
  have := h.2 X hB0
  rw [hXe] at this
  exact this lv hlv
theorem vX0_kingOf_0 {mc ms : Nat} {X : Nat → zV} {Q : zQt} {M : zM} {g : Nat} {x1 : Int32} (hW : zWd M g)  (h : vp_in (((6 : Int32) + ((6 : Int32) * x1))) 13 ∧ wX0_lowest 0 0 [.long ((M : zM).2.1 ((g + 3)) (((6 : Int32) + ((6 : Int32) * x1)) : Int32).toNatClampNeg)] M (fun r M1 => kX0_kingOf_15 mc ms X Q 0 0 [some (.ref (g + 1)), some (.int x1)] (r.toList ++ []) M1)) : aX0_kingOf_0 mc ms X Q 0 0 [some (.ref (g + 1)), some (.int x1)] [] M := ⟨(fgs_1 hW), (g + 3), (fgr_1_2 hW), ⟨13, (fgs_3 hW), h.1, ⟨Nat.le_of_ble_eq_true rfl, rfl, 0, 0, Nat.zero_le _, Nat.zero_le _, h.2⟩⟩⟩
theorem vkX0_kingOf_15 {mc ms : Nat} {X : Nat → zV} {Q : zQt} {M : zM} {g : Nat} {x1 : Int32} {s0 : Int32} (hW : zWd M g)  (h : Q (some (.int s0)) M) : kX0_kingOf_15 mc ms X Q 0 0 [some (.ref (g + 1)), some (.int x1)] [.int s0] M := h
theorem dX0_passes_0 : decode cX0_passes 0 = .ok (.aload_n 0, 1) := by decide +kernel
theorem dX0_passes_1 : decode cX0_passes 1 = .ok (.getfield 15, 3) := by decide +kernel
theorem dX0_passes_4 : decode cX0_passes 4 = .ok (.iload_n 1, 1) := by decide +kernel
theorem dX0_passes_5 : decode cX0_passes 5 = .ok (.iaload, 1) := by decide +kernel
theorem dX0_passes_6 : decode cX0_passes 6 = .ok (.iconst 1, 1) := by decide +kernel
theorem dX0_passes_7 : decode cX0_passes 7 = .ok (.bipush 6, 2) := by decide +kernel
theorem dX0_passes_9 : decode cX0_passes 9 = .ok (.aload_n 0, 1) := by decide +kernel
theorem dX0_passes_10 : decode cX0_passes 10 = .ok (.getfield 38, 3) := by decide +kernel
theorem dX0_passes_13 : decode cX0_passes 13 = .ok (.imul, 1) := by decide +kernel
theorem dX0_passes_14 : decode cX0_passes 14 = .ok (.iadd, 1) := by decide +kernel
theorem dX0_passes_15 : decode cX0_passes 15 = .ok (.if_icmp .ne 27, 3) := by decide +kernel
theorem dX0_passes_18 : decode cX0_passes 18 = .ok (.iload_n 1, 1) := by decide +kernel
theorem dX0_passes_19 : decode cX0_passes 19 = .ok (.bipush 7, 2) := by decide +kernel
theorem dX0_passes_21 : decode cX0_passes 21 = .ok (.iand, 1) := by decide +kernel
theorem dX0_passes_22 : decode cX0_passes 22 = .ok (.iload_n 2, 1) := by decide +kernel
theorem dX0_passes_23 : decode cX0_passes 23 = .ok (.bipush 7, 2) := by decide +kernel
theorem dX0_passes_25 : decode cX0_passes 25 = .ok (.iand, 1) := by decide +kernel
theorem dX0_passes_26 : decode cX0_passes 26 = .ok (.if_icmp .eq 16, 3) := by decide +kernel
theorem dX0_passes_29 : decode cX0_passes 29 = .ok (.aload_n 0, 1) := by decide +kernel
theorem dX0_passes_30 : decode cX0_passes 30 = .ok (.getfield 15, 3) := by decide +kernel
theorem dX0_passes_33 : decode cX0_passes 33 = .ok (.iload_n 2, 1) := by decide +kernel
theorem dX0_passes_34 : decode cX0_passes 34 = .ok (.iaload, 1) := by decide +kernel
theorem dX0_passes_35 : decode cX0_passes 35 = .ok (.ifCond .ne 7, 3) := by decide +kernel
theorem dX0_passes_38 : decode cX0_passes 38 = .ok (.iconst 1, 1) := by decide +kernel
theorem dX0_passes_39 : decode cX0_passes 39 = .ok (.goto 4, 3) := by decide +kernel
theorem dX0_passes_42 : decode cX0_passes 42 = .ok (.iconst 0, 1) := by decide +kernel
theorem dX0_passes_43 : decode cX0_passes 43 = .ok (.ireturn, 1) := by decide +kernel
def aX0_passes_0 (mc ms : Nat) (X : Nat → zV) (Q : zQt) : zT :=
  zla 0 <| zgR 0 1 <| zli 1 <| zal 1 <| zc (.int 1) <| zc (.int 6) <| zla 0 <| zgi 0 4 <| zii (fun x y => x * y) <| zii (fun x y => x + y) <| zic (fun x y => x = y) (zli 1 <| zc (.int 7) <| zii (fun x y => x &&& y) <| zli 2 <| zc (.int 7) <| zii (fun x y => x &&& y) <| zic (fun x y => x = y) (zj X 42 []) <| zla 0 <| zgR 0 1 <| zli 2 <| zal 1 <| zif (fun x => x = 0) (zc (.int 1) <| zj X 43 []) <| zj X 42 []) <| zj X 42 []
def aX0_passes_42 (mc ms : Nat) (X : Nat → zV) (Q : zQt) : zT :=
  zc (.int 0) <| zj X 43 []
def aX0_passes_43 (mc ms : Nat) (X : Nat → zV) (Q : zQt) : zT :=
  zrz .boolean Q
def lvX0_passes : Nat → List Nat := fun L => match L with
  | 0 => [0, 1, 2]
  | 42 => []
  | 43 => []
  | _ => []
def wX0_passes : zSp := fun mc ms av M Q => ((zlay av).length ≤ 3 ∧ zpick (zlay av) [0, 1, 2] = some av) ∧ ∀ X : Nat → zV, zin 3 [0, 1, 2] (aX0_passes_0 mc ms X Q) X 0 → zin 3 [] (aX0_passes_42 mc ms X Q) X 42 → zin 3 [] (aX0_passes_43 mc ms X Q) X 43 → X 0 0 0 av [] M
set_option maxRecDepth 100000 in
set_option maxHeartbeats 4000000 in
theorem sX0_passes (l : Launch) (G : zG) : zSnd l G yX0_passes cX0_passes 3 (some .boolean) 0 0 wX0_passes := by
  refine zmk [0, 1, 2] (by decide) (fun mc ms av M Q h => h.1) ?_
  intro p e R s m args below meth c mc ms av M Q hC hRf hRl hr hnm h lv hlv
  obtain ⟨X, hXe⟩ : ∃ X : Nat → zV, X = fun L u v vs st M => ∀ lv, zpick lv (lvX0_passes L) = some vs → zAt p l e R s m args below meth c (MQ below (zQ G Q) args s mc ms (zA G)) G 3 L u v lv st M := ⟨_, rfl⟩
  have hJ : ∀ L, zOk p l e R s m args below meth c (MQ below (zQ G Q) args s mc ms (zA G)) G 3 L (zj X L (lvX0_passes L)) := fun L => S_jump (fun u v lv vs st M hp hx => by rw [hXe] at hx; exact hx lv hp)
  have hB0 : zin 3 [0, 1, 2] (aX0_passes_0 mc ms X Q) X 0 := by
    intro u v vs st M hb
    rw [hXe]
    refine fun lv hp => S_block (L := 0) (live := [0, 1, 2]) ?_ u v lv vs st M hp hb
    unfold aX0_passes_0
    refine S_aload_n (pc := 0) hC dX0_passes_0 rfl ?_
    refine S_getR (pc := 1) hC cfX0 (by decide) (Or.inr ⟨_, rfl⟩) wd_213 dX0_passes_1 ?_
    refine S_iload_n (pc := 4) hC dX0_passes_4 rfl ?_
    refine S_iaload (pc := 5) hC dX0_passes_5 ?_
    refine S_iconst (pc := 6) hC dX0_passes_6 (by decide) ?_
    refine S_bipush (pc := 7) hC dX0_passes_7 (by decide) ?_
    refine S_aload_n (pc := 9) hC dX0_passes_9 rfl ?_
    refine S_geti (pc := 10) hC cfX0 (by decide) (Or.inl rfl) wd_229 dX0_passes_10 ?_
    refine S_imul (pc := 13) hC dX0_passes_13 ?_
    refine S_iadd (pc := 14) hC dX0_passes_14 ?_
    refine S_icmp_ne (pc := 15) (tgt := 42) hC dX0_passes_15 (by decide) ?_ ?_
    · exact hJ 42
    · refine S_iload_n (pc := 18) hC dX0_passes_18 rfl ?_
      refine S_bipush (pc := 19) hC dX0_passes_19 (by decide) ?_
      refine S_iand (pc := 21) hC dX0_passes_21 ?_
      refine S_iload_n (pc := 22) hC dX0_passes_22 rfl ?_
      refine S_bipush (pc := 23) hC dX0_passes_23 (by decide) ?_
      refine S_iand (pc := 25) hC dX0_passes_25 ?_
      refine S_icmp_eq (pc := 26) (tgt := 42) hC dX0_passes_26 (by decide) ?_ ?_
      · exact hJ 42
      · refine S_aload_n (pc := 29) hC dX0_passes_29 rfl ?_
        refine S_getR (pc := 30) hC cfX0 (by decide) (Or.inr ⟨_, rfl⟩) wd_213 dX0_passes_30 ?_
        refine S_iload_n (pc := 33) hC dX0_passes_33 rfl ?_
        refine S_iaload (pc := 34) hC dX0_passes_34 ?_
        refine S_if_ne (pc := 35) (tgt := 42) hC dX0_passes_35 (by decide) ?_ ?_
        · exact hJ 42
        · refine S_iconst (pc := 38) hC dX0_passes_38 (by decide) ?_
          refine S_goto (pc := 39) (tgt := 43) hC dX0_passes_39 (by decide) ?_
          exact hJ 43
  have hB42 : zin 3 [] (aX0_passes_42 mc ms X Q) X 42 := by
    intro u v vs st M hb
    rw [hXe]
    refine fun lv hp => S_block (L := 42) (live := []) ?_ u v lv vs st M hp hb
    unfold aX0_passes_42
    refine S_iconst (pc := 42) hC dX0_passes_42 (by decide) ?_
    exact hJ 43
  have hB43 : zin 3 [] (aX0_passes_43 mc ms X Q) X 43 := by
    intro u v vs st M hb
    rw [hXe]
    refine fun lv hp => S_block (L := 43) (live := []) ?_ u v lv vs st M hp hb
    unfold aX0_passes_43
    exact S_zreturn (pc := 43) hC hr dX0_passes_43
  have := h.2 X hB0 hB42 hB43
  rw [hXe] at this
  exact this lv hlv
theorem vX0_passes_0 {mc ms : Nat} {X : Nat → zV} {Q : zQt} {M : zM} {g : Nat} {x1 : Int32} {x2 : Int32} (hW : zWd M g)  (h : vp_in x1 64 ∧ (((M : zM).1 ((g + 2)) (x1 : Int32).toNatClampNeg) = ((1 : Int32) + ((6 : Int32) * (M.1 ((g + 1)) 4))) → ((x1 &&& (7 : Int32)) = (x2 &&& (7 : Int32)) → X 42 0 0 [] [] M) ∧ (¬ (x1 &&& (7 : Int32)) = (x2 &&& (7 : Int32)) → vp_in x2 64 ∧ (((M : zM).1 ((g + 2)) (x2 : Int32).toNatClampNeg) = 0 → X 43 0 0 [] [.int 1] M) ∧ (¬ ((M : zM).1 ((g + 2)) (x2 : Int32).toNatClampNeg) = 0 → X 42 0 0 [] [] M))) ∧ (¬ ((M : zM).1 ((g + 2)) (x1 : Int32).toNatClampNeg) = ((1 : Int32) + ((6 : Int32) * (M.1 ((g + 1)) 4))) → X 42 0 0 [] [] M)) : aX0_passes_0 mc ms X Q 0 0 [some (.ref (g + 1)), some (.int x1), some (.int x2)] [] M := ⟨(fgs_1 hW), (g + 2), (fgr_1_1 hW), ⟨64, (fgs_2 hW), h.1, ⟨(fgs_1 hW), ⟨fun c15 => ⟨fun c26 => ((h.2.1 c15).1 c26), fun c26 => ⟨(fgs_1 hW), (g + 2), (fgr_1_1 hW), ⟨64, (fgs_2 hW), ((h.2.1 c15).2 c26).1, ⟨fun c35 => (((h.2.1 c15).2 c26).2.1 c35), fun c35 => (((h.2.1 c15).2 c26).2.2 c35)⟩⟩⟩⟩, fun c15 => (h.2.2 c15)⟩⟩⟩⟩
theorem vX0_passes_42 {mc ms : Nat} {X : Nat → zV} {Q : zQt} {M : zM} {g : Nat}  (hW : zWd M g)  (h : X 43 0 0 [] [.int 0] M) : aX0_passes_42 mc ms X Q 0 0 [none, none, none] [] M := h
theorem vX0_passes_43 {mc ms : Nat} {X : Nat → zV} {Q : zQt} {M : zM} {g : Nat} {s0 : Int32} (hW : zWd M g)  (h : narrow .boolean (.int s0) = .int s0 ∧ Q (some (.int s0)) M) : aX0_passes_43 mc ms X Q 0 0 [none, none, none] [.int s0] M := h
theorem dX0_castleStep_0 : decode cX0_castleStep 0 = .ok (.iload_n 2, 1) := by decide +kernel
theorem dX0_castleStep_1 : decode cX0_castleStep 1 = .ok (.iload_n 1, 1) := by decide +kernel
theorem dX0_castleStep_2 : decode cX0_castleStep 2 = .ok (.isub, 1) := by decide +kernel
theorem dX0_castleStep_3 : decode cX0_castleStep 3 = .ok (.istore_n 3, 1) := by decide +kernel
theorem dX0_castleStep_4 : decode cX0_castleStep 4 = .ok (.aload_n 0, 1) := by decide +kernel
theorem dX0_castleStep_5 : decode cX0_castleStep 5 = .ok (.getfield 15, 3) := by decide +kernel
theorem dX0_castleStep_8 : decode cX0_castleStep 8 = .ok (.iload_n 1, 1) := by decide +kernel
theorem dX0_castleStep_9 : decode cX0_castleStep 9 = .ok (.iaload, 1) := by decide +kernel
theorem dX0_castleStep_10 : decode cX0_castleStep 10 = .ok (.bipush 6, 2) := by decide +kernel
theorem dX0_castleStep_12 : decode cX0_castleStep 12 = .ok (.bipush 6, 2) := by decide +kernel
theorem dX0_castleStep_14 : decode cX0_castleStep 14 = .ok (.aload_n 0, 1) := by decide +kernel
theorem dX0_castleStep_15 : decode cX0_castleStep 15 = .ok (.getfield 38, 3) := by decide +kernel
theorem dX0_castleStep_18 : decode cX0_castleStep 18 = .ok (.imul, 1) := by decide +kernel
theorem dX0_castleStep_19 : decode cX0_castleStep 19 = .ok (.iadd, 1) := by decide +kernel
theorem dX0_castleStep_20 : decode cX0_castleStep 20 = .ok (.if_icmp .ne 18, 3) := by decide +kernel
theorem dX0_castleStep_23 : decode cX0_castleStep 23 = .ok (.iload_n 3, 1) := by decide +kernel
theorem dX0_castleStep_24 : decode cX0_castleStep 24 = .ok (.iconst 2, 1) := by decide +kernel
theorem dX0_castleStep_25 : decode cX0_castleStep 25 = .ok (.if_icmp .eq 9, 3) := by decide +kernel
theorem dX0_castleStep_28 : decode cX0_castleStep 28 = .ok (.iload_n 3, 1) := by decide +kernel
theorem dX0_castleStep_29 : decode cX0_castleStep 29 = .ok (.bipush (-2), 2) := by decide +kernel
theorem dX0_castleStep_31 : decode cX0_castleStep 31 = .ok (.if_icmp .ne 7, 3) := by decide +kernel
theorem dX0_castleStep_34 : decode cX0_castleStep 34 = .ok (.iload_n 3, 1) := by decide +kernel
theorem dX0_castleStep_35 : decode cX0_castleStep 35 = .ok (.goto 4, 3) := by decide +kernel
theorem dX0_castleStep_38 : decode cX0_castleStep 38 = .ok (.iconst 0, 1) := by decide +kernel
theorem dX0_castleStep_39 : decode cX0_castleStep 39 = .ok (.ireturn, 1) := by decide +kernel
def aX0_castleStep_0 (mc ms : Nat) (X : Nat → zV) (Q : zQt) : zT :=
  zli 2 <| zli 1 <| zii (fun x y => x - y) <| zsi 3 <| zla 0 <| zgR 0 1 <| zli 1 <| zal 1 <| zc (.int 6) <| zc (.int 6) <| zla 0 <| zgi 0 4 <| zii (fun x y => x * y) <| zii (fun x y => x + y) <| zic (fun x y => x = y) (zli 3 <| zc (.int 2) <| zic (fun x y => x = y) (zj X 34 [3]) <| zli 3 <| zc (.int (-2)) <| zic (fun x y => x = y) (zj X 34 [3]) <| zj X 38 []) <| zj X 38 []
def aX0_castleStep_34 (mc ms : Nat) (X : Nat → zV) (Q : zQt) : zT :=
  zli 3 <| zj X 39 []
def aX0_castleStep_38 (mc ms : Nat) (X : Nat → zV) (Q : zQt) : zT :=
  zc (.int 0) <| zj X 39 []
def aX0_castleStep_39 (mc ms : Nat) (X : Nat → zV) (Q : zQt) : zT :=
  zri Q
def lvX0_castleStep : Nat → List Nat := fun L => match L with
  | 0 => [0, 1, 2]
  | 34 => [3]
  | 38 => []
  | 39 => []
  | _ => []
def wX0_castleStep : zSp := fun mc ms av M Q => ((zlay av).length ≤ 4 ∧ zpick (zlay av) [0, 1, 2] = some av) ∧ ∀ X : Nat → zV, zin 4 [0, 1, 2] (aX0_castleStep_0 mc ms X Q) X 0 → zin 4 [3] (aX0_castleStep_34 mc ms X Q) X 34 → zin 4 [] (aX0_castleStep_38 mc ms X Q) X 38 → zin 4 [] (aX0_castleStep_39 mc ms X Q) X 39 → X 0 0 0 av [] M
set_option maxRecDepth 100000 in
set_option maxHeartbeats 4000000 in
theorem sX0_castleStep (l : Launch) (G : zG) : zSnd l G yX0_castleStep cX0_castleStep 4 (some .int) 0 0 wX0_castleStep := by
  refine zmk [0, 1, 2] (by decide) (fun mc ms av M Q h => h.1) ?_
  intro p e R s m args below meth c mc ms av M Q hC hRf hRl hr hnm h lv hlv
  obtain ⟨X, hXe⟩ : ∃ X : Nat → zV, X = fun L u v vs st M => ∀ lv, zpick lv (lvX0_castleStep L) = some vs → zAt p l e R s m args below meth c (MQ below (zQ G Q) args s mc ms (zA G)) G 4 L u v lv st M := ⟨_, rfl⟩
  have hJ : ∀ L, zOk p l e R s m args below meth c (MQ below (zQ G Q) args s mc ms (zA G)) G 4 L (zj X L (lvX0_castleStep L)) := fun L => S_jump (fun u v lv vs st M hp hx => by rw [hXe] at hx; exact hx lv hp)
  have hB0 : zin 4 [0, 1, 2] (aX0_castleStep_0 mc ms X Q) X 0 := by
    intro u v vs st M hb
    rw [hXe]
    refine fun lv hp => S_block (L := 0) (live := [0, 1, 2]) ?_ u v lv vs st M hp hb
    unfold aX0_castleStep_0
    refine S_iload_n (pc := 0) hC dX0_castleStep_0 rfl ?_
    refine S_iload_n (pc := 1) hC dX0_castleStep_1 rfl ?_
    refine S_isub (pc := 2) hC dX0_castleStep_2 ?_
    refine S_istore_n (pc := 3) hC dX0_castleStep_3 rfl (by decide) ?_
    refine S_aload_n (pc := 4) hC dX0_castleStep_4 rfl ?_
    refine S_getR (pc := 5) hC cfX0 (by decide) (Or.inr ⟨_, rfl⟩) wd_213 dX0_castleStep_5 ?_
    refine S_iload_n (pc := 8) hC dX0_castleStep_8 rfl ?_
    refine S_iaload (pc := 9) hC dX0_castleStep_9 ?_
    refine S_bipush (pc := 10) hC dX0_castleStep_10 (by decide) ?_
    refine S_bipush (pc := 12) hC dX0_castleStep_12 (by decide) ?_
    refine S_aload_n (pc := 14) hC dX0_castleStep_14 rfl ?_
    refine S_geti (pc := 15) hC cfX0 (by decide) (Or.inl rfl) wd_229 dX0_castleStep_15 ?_
    refine S_imul (pc := 18) hC dX0_castleStep_18 ?_
    refine S_iadd (pc := 19) hC dX0_castleStep_19 ?_
    refine S_icmp_ne (pc := 20) (tgt := 38) hC dX0_castleStep_20 (by decide) ?_ ?_
    · exact hJ 38
    · refine S_iload_n (pc := 23) hC dX0_castleStep_23 rfl ?_
      refine S_iconst (pc := 24) hC dX0_castleStep_24 (by decide) ?_
      refine S_icmp_eq (pc := 25) (tgt := 34) hC dX0_castleStep_25 (by decide) ?_ ?_
      · exact hJ 34
      · refine S_iload_n (pc := 28) hC dX0_castleStep_28 rfl ?_
        refine S_bipush (pc := 29) hC dX0_castleStep_29 (by decide) ?_
        refine S_icmp_ne (pc := 31) (tgt := 38) hC dX0_castleStep_31 (by decide) ?_ ?_
        · exact hJ 38
        · exact hJ 34
  have hB34 : zin 4 [3] (aX0_castleStep_34 mc ms X Q) X 34 := by
    intro u v vs st M hb
    rw [hXe]
    refine fun lv hp => S_block (L := 34) (live := [3]) ?_ u v lv vs st M hp hb
    unfold aX0_castleStep_34
    refine S_iload_n (pc := 34) hC dX0_castleStep_34 rfl ?_
    refine S_goto (pc := 35) (tgt := 39) hC dX0_castleStep_35 (by decide) ?_
    exact hJ 39
  have hB38 : zin 4 [] (aX0_castleStep_38 mc ms X Q) X 38 := by
    intro u v vs st M hb
    rw [hXe]
    refine fun lv hp => S_block (L := 38) (live := []) ?_ u v lv vs st M hp hb
    unfold aX0_castleStep_38
    refine S_iconst (pc := 38) hC dX0_castleStep_38 (by decide) ?_
    exact hJ 39
  have hB39 : zin 4 [] (aX0_castleStep_39 mc ms X Q) X 39 := by
    intro u v vs st M hb
    rw [hXe]
    refine fun lv hp => S_block (L := 39) (live := []) ?_ u v lv vs st M hp hb
    unfold aX0_castleStep_39
    exact S_ireturn (pc := 39) hC hr dX0_castleStep_39
  have := h.2 X hB0 hB34 hB38 hB39
  rw [hXe] at this
  exact this lv hlv
theorem vX0_castleStep_0 {mc ms : Nat} {X : Nat → zV} {Q : zQt} {M : zM} {g : Nat} {x1 : Int32} {x2 : Int32} (hW : zWd M g)  (h : vp_in x1 64 ∧ (((M : zM).1 ((g + 2)) (x1 : Int32).toNatClampNeg) = ((6 : Int32) + ((6 : Int32) * (M.1 ((g + 1)) 4))) → ((x2 - x1) = (2 : Int32) → X 34 0 0 [.int (x2 - x1)] [] M) ∧ (¬ (x2 - x1) = (2 : Int32) → ((x2 - x1) = ((-2) : Int32) → X 34 0 0 [.int (x2 - x1)] [] M) ∧ (¬ (x2 - x1) = ((-2) : Int32) → X 38 0 0 [] [] M))) ∧ (¬ ((M : zM).1 ((g + 2)) (x1 : Int32).toNatClampNeg) = ((6 : Int32) + ((6 : Int32) * (M.1 ((g + 1)) 4))) → X 38 0 0 [] [] M)) : aX0_castleStep_0 mc ms X Q 0 0 [some (.ref (g + 1)), some (.int x1), some (.int x2), none] [] M := ⟨(fgs_1 hW), (g + 2), (fgr_1_1 hW), ⟨64, (fgs_2 hW), h.1, ⟨(fgs_1 hW), ⟨fun c20 => ⟨fun c25 => ((h.2.1 c20).1 c25), fun c25 => ⟨fun c31 => (((h.2.1 c20).2 c25).1 c31), fun c31 => (((h.2.1 c20).2 c25).2 c31)⟩⟩, fun c20 => (h.2.2 c20)⟩⟩⟩⟩
theorem vX0_castleStep_34 {mc ms : Nat} {X : Nat → zV} {Q : zQt} {M : zM} {g : Nat} {x3 : Int32} (hW : zWd M g)  (h : X 39 0 0 [] [.int x3] M) : aX0_castleStep_34 mc ms X Q 0 0 [none, none, none, some (.int x3)] [] M := h
theorem vX0_castleStep_38 {mc ms : Nat} {X : Nat → zV} {Q : zQt} {M : zM} {g : Nat}  (hW : zWd M g)  (h : X 39 0 0 [] [.int 0] M) : aX0_castleStep_38 mc ms X Q 0 0 [none, none, none, none] [] M := h
theorem vX0_castleStep_39 {mc ms : Nat} {X : Nat → zV} {Q : zQt} {M : zM} {g : Nat} {s0 : Int32} (hW : zWd M g)  (h : Q (some (.int s0)) M) : aX0_castleStep_39 mc ms X Q 0 0 [none, none, none, none] [.int s0] M := h
theorem dX0_rightsAt_0 : decode cX0_rightsAt 0 = .ok (.iload_n 0, 1) := by decide +kernel
theorem dX0_rightsAt_1 : decode cX0_rightsAt 1 = .ok (.lookupswitch 73 #[(0, 59), (4, 61), (7, 63), (56, 65), (60, 68), (63, 71)], 59) := by decide +kernel
theorem dX0_rightsAt_60 : decode cX0_rightsAt 60 = .ok (.iconst 2, 1) := by decide +kernel
theorem dX0_rightsAt_61 : decode cX0_rightsAt 61 = .ok (.ireturn, 1) := by decide +kernel
theorem dX0_rightsAt_62 : decode cX0_rightsAt 62 = .ok (.iconst 3, 1) := by decide +kernel
theorem dX0_rightsAt_63 : decode cX0_rightsAt 63 = .ok (.ireturn, 1) := by decide +kernel
theorem dX0_rightsAt_64 : decode cX0_rightsAt 64 = .ok (.iconst 1, 1) := by decide +kernel
theorem dX0_rightsAt_65 : decode cX0_rightsAt 65 = .ok (.ireturn, 1) := by decide +kernel
theorem dX0_rightsAt_66 : decode cX0_rightsAt 66 = .ok (.bipush 8, 2) := by decide +kernel
theorem dX0_rightsAt_68 : decode cX0_rightsAt 68 = .ok (.ireturn, 1) := by decide +kernel
theorem dX0_rightsAt_69 : decode cX0_rightsAt 69 = .ok (.bipush 12, 2) := by decide +kernel
theorem dX0_rightsAt_71 : decode cX0_rightsAt 71 = .ok (.ireturn, 1) := by decide +kernel
theorem dX0_rightsAt_72 : decode cX0_rightsAt 72 = .ok (.iconst 4, 1) := by decide +kernel
theorem dX0_rightsAt_73 : decode cX0_rightsAt 73 = .ok (.ireturn, 1) := by decide +kernel
theorem dX0_rightsAt_74 : decode cX0_rightsAt 74 = .ok (.iconst 0, 1) := by decide +kernel
theorem dX0_rightsAt_75 : decode cX0_rightsAt 75 = .ok (.ireturn, 1) := by decide +kernel
def aX0_rightsAt_0 (mc ms : Nat) (X : Nat → zV) (Q : zQt) : zT :=
  zli 0 <| zlk [(0, zc (.int 2) <| zri Q), (4, zc (.int 3) <| zri Q), (7, zc (.int 1) <| zri Q), (56, zc (.int 8) <| zri Q), (60, zc (.int 12) <| zri Q), (63, zc (.int 4) <| zri Q)] <| zc (.int 0) <| zri Q
def lvX0_rightsAt : Nat → List Nat := fun L => match L with
  | 0 => [0]
  | _ => []
def wX0_rightsAt : zSp := fun mc ms av M Q => ((zlay av).length ≤ 1 ∧ zpick (zlay av) [0] = some av) ∧ ∀ X : Nat → zV, zin 1 [0] (aX0_rightsAt_0 mc ms X Q) X 0 → X 0 0 0 av [] M
set_option maxRecDepth 100000 in
set_option maxHeartbeats 4000000 in
theorem sX0_rightsAt (l : Launch) (G : zG) : zSnd l G yX0_rightsAt cX0_rightsAt 1 (some .int) 0 0 wX0_rightsAt := by
  refine zmk [0] (by decide) (fun mc ms av M Q h => h.1) ?_
  intro p e R s m args below meth c mc ms av M Q hC hRf hRl hr hnm h lv hlv
  obtain ⟨X, hXe⟩ : ∃ X : Nat → zV, X = fun L u v vs st M => ∀ lv, zpick lv (lvX0_rightsAt L) = some vs → zAt p l e R s m args below meth c (MQ below (zQ G Q) args s mc ms (zA G)) G 1 L u v lv st M := ⟨_, rfl⟩
  have hJ : ∀ L, zOk p l e R s m args below meth c (MQ below (zQ G Q) args s mc ms (zA G)) G 1 L (zj X L (lvX0_rightsAt L)) := fun L => S_jump (fun u v lv vs st M hp hx => by rw [hXe] at hx; exact hx lv hp)
  have hB0 : zin 1 [0] (aX0_rightsAt_0 mc ms X Q) X 0 := by
    intro u v vs st M hb
    rw [hXe]
    refine fun lv hp => S_block (L := 0) (live := [0]) ?_ u v lv vs st M hp hb
    unfold aX0_rightsAt_0
    refine S_iload_n (pc := 0) hC dX0_rightsAt_0 rfl ?_
    refine S_lookup (pc := 1) (tgd := 74) hC dX0_rightsAt_1 (by decide) (by decide) ?_ ?_
    · refine S_iconst (pc := 74) hC dX0_rightsAt_74 (by decide) ?_
      exact S_ireturn (pc := 75) hC hr dX0_rightsAt_75
    · refine ⟨rfl, 60, by decide, ?_, ⟨rfl, 62, by decide, ?_, ⟨rfl, 64, by decide, ?_, ⟨rfl, 66, by decide, ?_, ⟨rfl, 69, by decide, ?_, ⟨rfl, 72, by decide, ?_, trivial⟩⟩⟩⟩⟩⟩
      · show zOk p l e R s m args below meth c _ G 1 60 (zc (.int 2) <| zri Q)
        refine S_iconst (pc := 60) hC dX0_rightsAt_60 (by decide) ?_
        exact S_ireturn (pc := 61) hC hr dX0_rightsAt_61
      · show zOk p l e R s m args below meth c _ G 1 62 (zc (.int 3) <| zri Q)
        refine S_iconst (pc := 62) hC dX0_rightsAt_62 (by decide) ?_
        exact S_ireturn (pc := 63) hC hr dX0_rightsAt_63
      · show zOk p l e R s m args below meth c _ G 1 64 (zc (.int 1) <| zri Q)
        refine S_iconst (pc := 64) hC dX0_rightsAt_64 (by decide) ?_
        exact S_ireturn (pc := 65) hC hr dX0_rightsAt_65
      · show zOk p l e R s m args below meth c _ G 1 66 (zc (.int 8) <| zri Q)
        refine S_bipush (pc := 66) hC dX0_rightsAt_66 (by decide) ?_
        exact S_ireturn (pc := 68) hC hr dX0_rightsAt_68
      · show zOk p l e R s m args below meth c _ G 1 69 (zc (.int 12) <| zri Q)
        refine S_bipush (pc := 69) hC dX0_rightsAt_69 (by decide) ?_
        exact S_ireturn (pc := 71) hC hr dX0_rightsAt_71
      · show zOk p l e R s m args below meth c _ G 1 72 (zc (.int 4) <| zri Q)
        refine S_iconst (pc := 72) hC dX0_rightsAt_72 (by decide) ?_
        exact S_ireturn (pc := 73) hC hr dX0_rightsAt_73
  have := h.2 X hB0
  rw [hXe] at this
  exact this lv hlv
theorem vX0_rightsAt_0 {mc ms : Nat} {X : Nat → zV} {Q : zQt} {M : zM} {g : Nat} {x0 : Int32} (hW : zWd M g)  (h : ((x0 : Int32).toInt = 0 → Q (some (.int 2)) M) ∧ (¬ (x0 : Int32).toInt = 0 → ((x0 : Int32).toInt = 4 → Q (some (.int 3)) M) ∧ (¬ (x0 : Int32).toInt = 4 → ((x0 : Int32).toInt = 7 → Q (some (.int 1)) M) ∧ (¬ (x0 : Int32).toInt = 7 → ((x0 : Int32).toInt = 56 → Q (some (.int 8)) M) ∧ (¬ (x0 : Int32).toInt = 56 → ((x0 : Int32).toInt = 60 → Q (some (.int 12)) M) ∧ (¬ (x0 : Int32).toInt = 60 → ((x0 : Int32).toInt = 63 → Q (some (.int 4)) M) ∧ (¬ (x0 : Int32).toInt = 63 → Q (some (.int 0)) M))))))) : aX0_rightsAt_0 mc ms X Q 0 0 [some (.int x0)] [] M := ⟨fun c1 => (h.1 c1), fun n1_0 => ⟨fun c1 => ((h.2 n1_0).1 c1), fun n1_1 => ⟨fun c1 => (((h.2 n1_0).2 n1_1).1 c1), fun n1_2 => ⟨fun c1 => ((((h.2 n1_0).2 n1_1).2 n1_2).1 c1), fun n1_3 => ⟨fun c1 => (((((h.2 n1_0).2 n1_1).2 n1_2).2 n1_3).1 c1), fun n1_4 => ⟨fun c1 => ((((((h.2 n1_0).2 n1_1).2 n1_2).2 n1_3).2 n1_4).1 c1), fun n1_5 => ((((((h.2 n1_0).2 n1_1).2 n1_2).2 n1_3).2 n1_4).2 n1_5)⟩⟩⟩⟩⟩⟩
theorem dX0_isBesidePawn_0 : decode cX0_isBesidePawn 0 = .ok (.iconst 1, 1) := by decide +kernel
theorem dX0_isBesidePawn_1 : decode cX0_isBesidePawn 1 = .ok (.bipush 6, 2) := by decide +kernel
theorem dX0_isBesidePawn_3 : decode cX0_isBesidePawn 3 = .ok (.iconst 1, 1) := by decide +kernel
theorem dX0_isBesidePawn_4 : decode cX0_isBesidePawn 4 = .ok (.aload_n 0, 1) := by decide +kernel
theorem dX0_isBesidePawn_5 : decode cX0_isBesidePawn 5 = .ok (.getfield 38, 3) := by decide +kernel
theorem dX0_isBesidePawn_8 : decode cX0_isBesidePawn 8 = .ok (.isub, 1) := by decide +kernel
theorem dX0_isBesidePawn_9 : decode cX0_isBesidePawn 9 = .ok (.imul, 1) := by decide +kernel
theorem dX0_isBesidePawn_10 : decode cX0_isBesidePawn 10 = .ok (.iadd, 1) := by decide +kernel
theorem dX0_isBesidePawn_11 : decode cX0_isBesidePawn 11 = .ok (.istore_n 2, 1) := by decide +kernel
theorem dX0_isBesidePawn_12 : decode cX0_isBesidePawn 12 = .ok (.iload_n 1, 1) := by decide +kernel
theorem dX0_isBesidePawn_13 : decode cX0_isBesidePawn 13 = .ok (.bipush 7, 2) := by decide +kernel
theorem dX0_isBesidePawn_15 : decode cX0_isBesidePawn 15 = .ok (.iand, 1) := by decide +kernel
theorem dX0_isBesidePawn_16 : decode cX0_isBesidePawn 16 = .ok (.istore_n 3, 1) := by decide +kernel
theorem dX0_isBesidePawn_17 : decode cX0_isBesidePawn 17 = .ok (.iload_n 3, 1) := by decide +kernel
theorem dX0_isBesidePawn_18 : decode cX0_isBesidePawn 18 = .ok (.ifCond .le 15, 3) := by decide +kernel
theorem dX0_isBesidePawn_21 : decode cX0_isBesidePawn 21 = .ok (.aload_n 0, 1) := by decide +kernel
theorem dX0_isBesidePawn_22 : decode cX0_isBesidePawn 22 = .ok (.getfield 15, 3) := by decide +kernel
theorem dX0_isBesidePawn_25 : decode cX0_isBesidePawn 25 = .ok (.iload_n 1, 1) := by decide +kernel
theorem dX0_isBesidePawn_26 : decode cX0_isBesidePawn 26 = .ok (.iconst 1, 1) := by decide +kernel
theorem dX0_isBesidePawn_27 : decode cX0_isBesidePawn 27 = .ok (.isub, 1) := by decide +kernel
theorem dX0_isBesidePawn_28 : decode cX0_isBesidePawn 28 = .ok (.iaload, 1) := by decide +kernel
theorem dX0_isBesidePawn_29 : decode cX0_isBesidePawn 29 = .ok (.iload_n 2, 1) := by decide +kernel
theorem dX0_isBesidePawn_30 : decode cX0_isBesidePawn 30 = .ok (.if_icmp .eq 21, 3) := by decide +kernel
theorem dX0_isBesidePawn_33 : decode cX0_isBesidePawn 33 = .ok (.iload_n 3, 1) := by decide +kernel
theorem dX0_isBesidePawn_34 : decode cX0_isBesidePawn 34 = .ok (.bipush 7, 2) := by decide +kernel
theorem dX0_isBesidePawn_36 : decode cX0_isBesidePawn 36 = .ok (.if_icmp .ge 19, 3) := by decide +kernel
theorem dX0_isBesidePawn_39 : decode cX0_isBesidePawn 39 = .ok (.aload_n 0, 1) := by decide +kernel
theorem dX0_isBesidePawn_40 : decode cX0_isBesidePawn 40 = .ok (.getfield 15, 3) := by decide +kernel
theorem dX0_isBesidePawn_43 : decode cX0_isBesidePawn 43 = .ok (.iload_n 1, 1) := by decide +kernel
theorem dX0_isBesidePawn_44 : decode cX0_isBesidePawn 44 = .ok (.iconst 1, 1) := by decide +kernel
theorem dX0_isBesidePawn_45 : decode cX0_isBesidePawn 45 = .ok (.iadd, 1) := by decide +kernel
theorem dX0_isBesidePawn_46 : decode cX0_isBesidePawn 46 = .ok (.iaload, 1) := by decide +kernel
theorem dX0_isBesidePawn_47 : decode cX0_isBesidePawn 47 = .ok (.iload_n 2, 1) := by decide +kernel
theorem dX0_isBesidePawn_48 : decode cX0_isBesidePawn 48 = .ok (.if_icmp .ne 7, 3) := by decide +kernel
theorem dX0_isBesidePawn_51 : decode cX0_isBesidePawn 51 = .ok (.iconst 1, 1) := by decide +kernel
theorem dX0_isBesidePawn_52 : decode cX0_isBesidePawn 52 = .ok (.goto 4, 3) := by decide +kernel
theorem dX0_isBesidePawn_55 : decode cX0_isBesidePawn 55 = .ok (.iconst 0, 1) := by decide +kernel
theorem dX0_isBesidePawn_56 : decode cX0_isBesidePawn 56 = .ok (.ireturn, 1) := by decide +kernel
def kX0_isBesidePawn_12 (mc ms : Nat) (X : Nat → zV) (Q : zQt) : zT :=
  zli 1 <| zc (.int 7) <| zii (fun x y => x &&& y) <| zsi 3 <| zli 3 <| zif (fun x => x ≤ 0) (zj X 33 [0, 1, 2, 3]) <| zla 0 <| zgR 0 1 <| zli 1 <| zc (.int 1) <| zii (fun x y => x - y) <| zal 1 <| zli 2 <| zic (fun x y => x = y) (zj X 51 []) <| zj X 33 [0, 1, 2, 3]
def aX0_isBesidePawn_0 (mc ms : Nat) (X : Nat → zV) (Q : zQt) : zT :=
  zc (.int 1) <| zc (.int 6) <| zc (.int 1) <| zla 0 <| zgi 0 4 <| zii (fun x y => x - y) <| zii (fun x y => x * y) <| zii (fun x y => x + y) <| zsiN 2 <| kX0_isBesidePawn_12 mc ms X Q
def aX0_isBesidePawn_33 (mc ms : Nat) (X : Nat → zV) (Q : zQt) : zT :=
  zli 3 <| zc (.int 7) <| zic (fun x y => y ≤ x) (zj X 55 []) <| zla 0 <| zgR 0 1 <| zli 1 <| zc (.int 1) <| zii (fun x y => x + y) <| zal 1 <| zli 2 <| zic (fun x y => x = y) (zj X 51 []) <| zj X 55 []
def aX0_isBesidePawn_51 (mc ms : Nat) (X : Nat → zV) (Q : zQt) : zT :=
  zc (.int 1) <| zj X 56 []
def aX0_isBesidePawn_55 (mc ms : Nat) (X : Nat → zV) (Q : zQt) : zT :=
  zc (.int 0) <| zj X 56 []
def aX0_isBesidePawn_56 (mc ms : Nat) (X : Nat → zV) (Q : zQt) : zT :=
  zrz .boolean Q
def lvX0_isBesidePawn : Nat → List Nat := fun L => match L with
  | 0 => [0, 1]
  | 33 => [0, 1, 2, 3]
  | 51 => []
  | 55 => []
  | 56 => []
  | _ => []
def wX0_isBesidePawn : zSp := fun mc ms av M Q => ((zlay av).length ≤ 4 ∧ zpick (zlay av) [0, 1] = some av) ∧ ∀ X : Nat → zV, zin 4 [0, 1] (aX0_isBesidePawn_0 mc ms X Q) X 0 → zin 4 [0, 1, 2, 3] (aX0_isBesidePawn_33 mc ms X Q) X 33 → zin 4 [] (aX0_isBesidePawn_51 mc ms X Q) X 51 → zin 4 [] (aX0_isBesidePawn_55 mc ms X Q) X 55 → zin 4 [] (aX0_isBesidePawn_56 mc ms X Q) X 56 → X 0 0 0 av [] M
set_option maxRecDepth 100000 in
set_option maxHeartbeats 4000000 in
theorem sX0_isBesidePawn (l : Launch) (G : zG) : zSnd l G yX0_isBesidePawn cX0_isBesidePawn 4 (some .boolean) 0 0 wX0_isBesidePawn := by
  refine zmk [0, 1] (by decide) (fun mc ms av M Q h => h.1) ?_
  intro p e R s m args below meth c mc ms av M Q hC hRf hRl hr hnm h lv hlv
  obtain ⟨X, hXe⟩ : ∃ X : Nat → zV, X = fun L u v vs st M => ∀ lv, zpick lv (lvX0_isBesidePawn L) = some vs → zAt p l e R s m args below meth c (MQ below (zQ G Q) args s mc ms (zA G)) G 4 L u v lv st M := ⟨_, rfl⟩
  have hJ : ∀ L, zOk p l e R s m args below meth c (MQ below (zQ G Q) args s mc ms (zA G)) G 4 L (zj X L (lvX0_isBesidePawn L)) := fun L => S_jump (fun u v lv vs st M hp hx => by rw [hXe] at hx; exact hx lv hp)
  have hB0 : zin 4 [0, 1] (aX0_isBesidePawn_0 mc ms X Q) X 0 := by
    intro u v vs st M hb
    rw [hXe]
    refine fun lv hp => S_block (L := 0) (live := [0, 1]) ?_ u v lv vs st M hp hb
    unfold aX0_isBesidePawn_0
    refine S_iconst (pc := 0) hC dX0_isBesidePawn_0 (by decide) ?_
    refine S_bipush (pc := 1) hC dX0_isBesidePawn_1 (by decide) ?_
    refine S_iconst (pc := 3) hC dX0_isBesidePawn_3 (by decide) ?_
    refine S_aload_n (pc := 4) hC dX0_isBesidePawn_4 rfl ?_
    refine S_geti (pc := 5) hC cfX0 (by decide) (Or.inl rfl) wd_229 dX0_isBesidePawn_5 ?_
    refine S_isub (pc := 8) hC dX0_isBesidePawn_8 ?_
    refine S_imul (pc := 9) hC dX0_isBesidePawn_9 ?_
    refine S_iadd (pc := 10) hC dX0_isBesidePawn_10 ?_
    refine S_istore_n_N (pc := 11) hC dX0_isBesidePawn_11 rfl (by decide) ?_
    unfold kX0_isBesidePawn_12
    refine S_iload_n (pc := 12) hC dX0_isBesidePawn_12 rfl ?_
    refine S_bipush (pc := 13) hC dX0_isBesidePawn_13 (by decide) ?_
    refine S_iand (pc := 15) hC dX0_isBesidePawn_15 ?_
    refine S_istore_n (pc := 16) hC dX0_isBesidePawn_16 rfl (by decide) ?_
    refine S_iload_n (pc := 17) hC dX0_isBesidePawn_17 rfl ?_
    refine S_if_le (pc := 18) (tgt := 33) hC dX0_isBesidePawn_18 (by decide) ?_ ?_
    · exact hJ 33
    · refine S_aload_n (pc := 21) hC dX0_isBesidePawn_21 rfl ?_
      refine S_getR (pc := 22) hC cfX0 (by decide) (Or.inr ⟨_, rfl⟩) wd_213 dX0_isBesidePawn_22 ?_
      refine S_iload_n (pc := 25) hC dX0_isBesidePawn_25 rfl ?_
      refine S_iconst (pc := 26) hC dX0_isBesidePawn_26 (by decide) ?_
      refine S_isub (pc := 27) hC dX0_isBesidePawn_27 ?_
      refine S_iaload (pc := 28) hC dX0_isBesidePawn_28 ?_
      refine S_iload_n (pc := 29) hC dX0_isBesidePawn_29 rfl ?_
      refine S_icmp_eq (pc := 30) (tgt := 51) hC dX0_isBesidePawn_30 (by decide) ?_ ?_
      · exact hJ 51
      · exact hJ 33
  have hB33 : zin 4 [0, 1, 2, 3] (aX0_isBesidePawn_33 mc ms X Q) X 33 := by
    intro u v vs st M hb
    rw [hXe]
    refine fun lv hp => S_block (L := 33) (live := [0, 1, 2, 3]) ?_ u v lv vs st M hp hb
    unfold aX0_isBesidePawn_33
    refine S_iload_n (pc := 33) hC dX0_isBesidePawn_33 rfl ?_
    refine S_bipush (pc := 34) hC dX0_isBesidePawn_34 (by decide) ?_
    refine S_icmp_ge (pc := 36) (tgt := 55) hC dX0_isBesidePawn_36 (by decide) ?_ ?_
    · exact hJ 55
    · refine S_aload_n (pc := 39) hC dX0_isBesidePawn_39 rfl ?_
      refine S_getR (pc := 40) hC cfX0 (by decide) (Or.inr ⟨_, rfl⟩) wd_213 dX0_isBesidePawn_40 ?_
      refine S_iload_n (pc := 43) hC dX0_isBesidePawn_43 rfl ?_
      refine S_iconst (pc := 44) hC dX0_isBesidePawn_44 (by decide) ?_
      refine S_iadd (pc := 45) hC dX0_isBesidePawn_45 ?_
      refine S_iaload (pc := 46) hC dX0_isBesidePawn_46 ?_
      refine S_iload_n (pc := 47) hC dX0_isBesidePawn_47 rfl ?_
      refine S_icmp_ne (pc := 48) (tgt := 55) hC dX0_isBesidePawn_48 (by decide) ?_ ?_
      · exact hJ 55
      · exact hJ 51
  have hB51 : zin 4 [] (aX0_isBesidePawn_51 mc ms X Q) X 51 := by
    intro u v vs st M hb
    rw [hXe]
    refine fun lv hp => S_block (L := 51) (live := []) ?_ u v lv vs st M hp hb
    unfold aX0_isBesidePawn_51
    refine S_iconst (pc := 51) hC dX0_isBesidePawn_51 (by decide) ?_
    refine S_goto (pc := 52) (tgt := 56) hC dX0_isBesidePawn_52 (by decide) ?_
    exact hJ 56
  have hB55 : zin 4 [] (aX0_isBesidePawn_55 mc ms X Q) X 55 := by
    intro u v vs st M hb
    rw [hXe]
    refine fun lv hp => S_block (L := 55) (live := []) ?_ u v lv vs st M hp hb
    unfold aX0_isBesidePawn_55
    refine S_iconst (pc := 55) hC dX0_isBesidePawn_55 (by decide) ?_
    exact hJ 56
  have hB56 : zin 4 [] (aX0_isBesidePawn_56 mc ms X Q) X 56 := by
    intro u v vs st M hb
    rw [hXe]
    refine fun lv hp => S_block (L := 56) (live := []) ?_ u v lv vs st M hp hb
    unfold aX0_isBesidePawn_56
    exact S_zreturn (pc := 56) hC hr dX0_isBesidePawn_56
  have := h.2 X hB0 hB33 hB51 hB55 hB56
  rw [hXe] at this
  exact this lv hlv
theorem vcX0_isBesidePawn_12 {mc ms : Nat} {X : Nat → zV} {Q : zQt} {M : zM} {g : Nat} {x1 : Int32} {x2 : Int32} (hW : zWd M g)  (h : ((x1 &&& (7 : Int32)) ≤ 0 → X 33 0 0 [.ref (g + 1), .int x1, .int x2, .int (x1 &&& (7 : Int32))] [] M) ∧ (¬ (x1 &&& (7 : Int32)) ≤ 0 → vp_in ((x1 - (1 : Int32))) 64 ∧ (((M : zM).1 ((g + 2)) ((x1 - (1 : Int32)) : Int32).toNatClampNeg) = x2 → X 51 0 0 [] [] M) ∧ (¬ ((M : zM).1 ((g + 2)) ((x1 - (1 : Int32)) : Int32).toNatClampNeg) = x2 → X 33 0 0 [.ref (g + 1), .int x1, .int x2, .int (x1 &&& (7 : Int32))] [] M))) : kX0_isBesidePawn_12 mc ms X Q 0 0 [some (.ref (g + 1)), some (.int x1), some (.int x2), none] [] M := ⟨fun c18 => (h.1 c18), fun c18 => ⟨(fgs_1 hW), (g + 2), (fgr_1_1 hW), ⟨64, (fgs_2 hW), (h.2 c18).1, ⟨fun c30 => ((h.2 c18).2.1 c30), fun c30 => ((h.2 c18).2.2 c30)⟩⟩⟩⟩
theorem vX0_isBesidePawn_0 {mc ms : Nat} {X : Nat → zV} {Q : zQt} {M : zM} {g : Nat} {x1 : Int32} (hW : zWd M g)  (h : ∀ y11 : Int32, y11 = ((1 : Int32) + ((6 : Int32) * ((1 : Int32) - (M.1 ((g + 1)) 4)))) → ((x1 &&& (7 : Int32)) ≤ 0 → X 33 0 0 [.ref (g + 1), .int x1, .int y11, .int (x1 &&& (7 : Int32))] [] M) ∧ (¬ (x1 &&& (7 : Int32)) ≤ 0 → vp_in ((x1 - (1 : Int32))) 64 ∧ (((M : zM).1 ((g + 2)) ((x1 - (1 : Int32)) : Int32).toNatClampNeg) = y11 → X 51 0 0 [] [] M) ∧ (¬ ((M : zM).1 ((g + 2)) ((x1 - (1 : Int32)) : Int32).toNatClampNeg) = y11 → X 33 0 0 [.ref (g + 1), .int x1, .int y11, .int (x1 &&& (7 : Int32))] [] M))) : aX0_isBesidePawn_0 mc ms X Q 0 0 [some (.ref (g + 1)), some (.int x1), none, none] [] M := ⟨(fgs_1 hW), (fun y11 e11 => have h11 := h y11 e11; (vcX0_isBesidePawn_12 hW  h11))⟩
theorem vX0_isBesidePawn_33 {mc ms : Nat} {X : Nat → zV} {Q : zQt} {M : zM} {g : Nat} {x1 : Int32} {x2 : Int32} {x3 : Int32} (hW : zWd M g)  (h : ((7 : Int32) ≤ x3 → X 55 0 0 [] [] M) ∧ (¬ (7 : Int32) ≤ x3 → vp_in ((x1 + (1 : Int32))) 64 ∧ (((M : zM).1 ((g + 2)) ((x1 + (1 : Int32)) : Int32).toNatClampNeg) = x2 → X 51 0 0 [] [] M) ∧ (¬ ((M : zM).1 ((g + 2)) ((x1 + (1 : Int32)) : Int32).toNatClampNeg) = x2 → X 55 0 0 [] [] M))) : aX0_isBesidePawn_33 mc ms X Q 0 0 [some (.ref (g + 1)), some (.int x1), some (.int x2), some (.int x3)] [] M := ⟨fun c36 => (h.1 c36), fun c36 => ⟨(fgs_1 hW), (g + 2), (fgr_1_1 hW), ⟨64, (fgs_2 hW), (h.2 c36).1, ⟨fun c48 => ((h.2 c36).2.1 c48), fun c48 => ((h.2 c36).2.2 c48)⟩⟩⟩⟩
theorem vX0_isBesidePawn_51 {mc ms : Nat} {X : Nat → zV} {Q : zQt} {M : zM} {g : Nat}  (hW : zWd M g)  (h : X 56 0 0 [] [.int 1] M) : aX0_isBesidePawn_51 mc ms X Q 0 0 [none, none, none, none] [] M := h
theorem vX0_isBesidePawn_55 {mc ms : Nat} {X : Nat → zV} {Q : zQt} {M : zM} {g : Nat}  (hW : zWd M g)  (h : X 56 0 0 [] [.int 0] M) : aX0_isBesidePawn_55 mc ms X Q 0 0 [none, none, none, none] [] M := h
theorem vX0_isBesidePawn_56 {mc ms : Nat} {X : Nat → zV} {Q : zQt} {M : zM} {g : Nat} {s0 : Int32} (hW : zWd M g)  (h : narrow .boolean (.int s0) = .int s0 ∧ Q (some (.int s0)) M) : aX0_isBesidePawn_56 mc ms X Q 0 0 [none, none, none, none] [.int s0] M := h
theorem dX0_unmake_0 : decode cX0_unmake 0 = .ok (.iload_n 1, 1) := by decide +kernel
theorem dX0_unmake_1 : decode cX0_unmake 1 = .ok (.bipush 63, 2) := by decide +kernel
theorem dX0_unmake_3 : decode cX0_unmake 3 = .ok (.iand, 1) := by decide +kernel
theorem dX0_unmake_4 : decode cX0_unmake 4 = .ok (.istore_n 2, 1) := by decide +kernel
theorem dX0_unmake_5 : decode cX0_unmake 5 = .ok (.iload_n 1, 1) := by decide +kernel
theorem dX0_unmake_6 : decode cX0_unmake 6 = .ok (.bipush 6, 2) := by decide +kernel
theorem dX0_unmake_8 : decode cX0_unmake 8 = .ok (.ishr, 1) := by decide +kernel
theorem dX0_unmake_9 : decode cX0_unmake 9 = .ok (.bipush 63, 2) := by decide +kernel
theorem dX0_unmake_11 : decode cX0_unmake 11 = .ok (.iand, 1) := by decide +kernel
theorem dX0_unmake_12 : decode cX0_unmake 12 = .ok (.istore_n 3, 1) := by decide +kernel
theorem dX0_unmake_13 : decode cX0_unmake 13 = .ok (.iload_n 1, 1) := by decide +kernel
theorem dX0_unmake_14 : decode cX0_unmake 14 = .ok (.bipush 12, 2) := by decide +kernel
theorem dX0_unmake_16 : decode cX0_unmake 16 = .ok (.ishr, 1) := by decide +kernel
theorem dX0_unmake_17 : decode cX0_unmake 17 = .ok (.istore 4, 2) := by decide +kernel
theorem dX0_unmake_19 : decode cX0_unmake 19 = .ok (.aload_n 0, 1) := by decide +kernel
theorem dX0_unmake_20 : decode cX0_unmake 20 = .ok (.dup, 1) := by decide +kernel
theorem dX0_unmake_21 : decode cX0_unmake 21 = .ok (.getfield 57, 3) := by decide +kernel
theorem dX0_unmake_24 : decode cX0_unmake 24 = .ok (.iconst 1, 1) := by decide +kernel
theorem dX0_unmake_25 : decode cX0_unmake 25 = .ok (.isub, 1) := by decide +kernel
theorem dX0_unmake_26 : decode cX0_unmake 26 = .ok (.putfield 57, 3) := by decide +kernel
theorem dX0_unmake_29 : decode cX0_unmake 29 = .ok (.aload_n 0, 1) := by decide +kernel
theorem dX0_unmake_30 : decode cX0_unmake 30 = .ok (.getfield 26, 3) := by decide +kernel
theorem dX0_unmake_33 : decode cX0_unmake 33 = .ok (.aload_n 0, 1) := by decide +kernel
theorem dX0_unmake_34 : decode cX0_unmake 34 = .ok (.getfield 57, 3) := by decide +kernel
theorem dX0_unmake_37 : decode cX0_unmake 37 = .ok (.iaload, 1) := by decide +kernel
theorem dX0_unmake_38 : decode cX0_unmake 38 = .ok (.istore 5, 2) := by decide +kernel
theorem dX0_unmake_40 : decode cX0_unmake 40 = .ok (.iload 5, 2) := by decide +kernel
theorem dX0_unmake_42 : decode cX0_unmake 42 = .ok (.bipush 15, 2) := by decide +kernel
theorem dX0_unmake_44 : decode cX0_unmake 44 = .ok (.iand, 1) := by decide +kernel
theorem dX0_unmake_45 : decode cX0_unmake 45 = .ok (.istore 6, 2) := by decide +kernel
theorem dX0_unmake_47 : decode cX0_unmake 47 = .ok (.aload_n 0, 1) := by decide +kernel
theorem dX0_unmake_48 : decode cX0_unmake 48 = .ok (.iconst 1, 1) := by decide +kernel
theorem dX0_unmake_49 : decode cX0_unmake 49 = .ok (.aload_n 0, 1) := by decide +kernel
theorem dX0_unmake_50 : decode cX0_unmake 50 = .ok (.getfield 38, 3) := by decide +kernel
theorem dX0_unmake_53 : decode cX0_unmake 53 = .ok (.isub, 1) := by decide +kernel
theorem dX0_unmake_54 : decode cX0_unmake 54 = .ok (.putfield 38, 3) := by decide +kernel
theorem dX0_unmake_57 : decode cX0_unmake 57 = .ok (.aload_n 0, 1) := by decide +kernel
theorem dX0_unmake_58 : decode cX0_unmake 58 = .ok (.dup, 1) := by decide +kernel
theorem dX0_unmake_59 : decode cX0_unmake 59 = .ok (.getfield 51, 3) := by decide +kernel
theorem dX0_unmake_62 : decode cX0_unmake 62 = .ok (.aload_n 0, 1) := by decide +kernel
theorem dX0_unmake_63 : decode cX0_unmake 63 = .ok (.getfield 38, 3) := by decide +kernel
theorem dX0_unmake_66 : decode cX0_unmake 66 = .ok (.isub, 1) := by decide +kernel
theorem dX0_unmake_67 : decode cX0_unmake 67 = .ok (.putfield 51, 3) := by decide +kernel
theorem dX0_unmake_70 : decode cX0_unmake 70 = .ok (.aload_n 0, 1) := by decide +kernel
theorem dX0_unmake_71 : decode cX0_unmake 71 = .ok (.iload 5, 2) := by decide +kernel
theorem dX0_unmake_73 : decode cX0_unmake 73 = .ok (.iconst 4, 1) := by decide +kernel
theorem dX0_unmake_74 : decode cX0_unmake 74 = .ok (.ishr, 1) := by decide +kernel
theorem dX0_unmake_75 : decode cX0_unmake 75 = .ok (.bipush 15, 2) := by decide +kernel
theorem dX0_unmake_77 : decode cX0_unmake 77 = .ok (.iand, 1) := by decide +kernel
theorem dX0_unmake_78 : decode cX0_unmake 78 = .ok (.putfield 42, 3) := by decide +kernel
theorem dX0_unmake_81 : decode cX0_unmake 81 = .ok (.aload_n 0, 1) := by decide +kernel
theorem dX0_unmake_82 : decode cX0_unmake 82 = .ok (.iload 5, 2) := by decide +kernel
theorem dX0_unmake_84 : decode cX0_unmake 84 = .ok (.bipush 8, 2) := by decide +kernel
theorem dX0_unmake_86 : decode cX0_unmake 86 = .ok (.ishr, 1) := by decide +kernel
theorem dX0_unmake_87 : decode cX0_unmake 87 = .ok (.bipush 15, 2) := by decide +kernel
theorem dX0_unmake_89 : decode cX0_unmake 89 = .ok (.iand, 1) := by decide +kernel
theorem dX0_unmake_90 : decode cX0_unmake 90 = .ok (.iconst 1, 1) := by decide +kernel
theorem dX0_unmake_91 : decode cX0_unmake 91 = .ok (.isub, 1) := by decide +kernel
theorem dX0_unmake_92 : decode cX0_unmake 92 = .ok (.putfield 45, 3) := by decide +kernel
theorem dX0_unmake_95 : decode cX0_unmake 95 = .ok (.aload_n 0, 1) := by decide +kernel
theorem dX0_unmake_96 : decode cX0_unmake 96 = .ok (.iload 5, 2) := by decide +kernel
theorem dX0_unmake_98 : decode cX0_unmake 98 = .ok (.bipush 12, 2) := by decide +kernel
theorem dX0_unmake_100 : decode cX0_unmake 100 = .ok (.ishr, 1) := by decide +kernel
theorem dX0_unmake_101 : decode cX0_unmake 101 = .ok (.sipush 4095, 3) := by decide +kernel
theorem dX0_unmake_104 : decode cX0_unmake 104 = .ok (.iand, 1) := by decide +kernel
theorem dX0_unmake_105 : decode cX0_unmake 105 = .ok (.putfield 48, 3) := by decide +kernel
theorem dX0_unmake_108 : decode cX0_unmake 108 = .ok (.iload 4, 2) := by decide +kernel
theorem dX0_unmake_110 : decode cX0_unmake 110 = .ok (.ifCond .ne 12, 3) := by decide +kernel
theorem dX0_unmake_113 : decode cX0_unmake 113 = .ok (.aload_n 0, 1) := by decide +kernel
theorem dX0_unmake_114 : decode cX0_unmake 114 = .ok (.getfield 15, 3) := by decide +kernel
theorem dX0_unmake_117 : decode cX0_unmake 117 = .ok (.iload_n 3, 1) := by decide +kernel
theorem dX0_unmake_118 : decode cX0_unmake 118 = .ok (.iaload, 1) := by decide +kernel
theorem dX0_unmake_119 : decode cX0_unmake 119 = .ok (.goto 12, 3) := by decide +kernel
theorem dX0_unmake_122 : decode cX0_unmake 122 = .ok (.iconst 1, 1) := by decide +kernel
theorem dX0_unmake_123 : decode cX0_unmake 123 = .ok (.bipush 6, 2) := by decide +kernel
theorem dX0_unmake_125 : decode cX0_unmake 125 = .ok (.aload_n 0, 1) := by decide +kernel
theorem dX0_unmake_126 : decode cX0_unmake 126 = .ok (.getfield 38, 3) := by decide +kernel
theorem dX0_unmake_129 : decode cX0_unmake 129 = .ok (.imul, 1) := by decide +kernel
theorem dX0_unmake_130 : decode cX0_unmake 130 = .ok (.iadd, 1) := by decide +kernel
theorem dX0_unmake_131 : decode cX0_unmake 131 = .ok (.istore 7, 2) := by decide +kernel
theorem dX0_unmake_133 : decode cX0_unmake 133 = .ok (.aload_n 0, 1) := by decide +kernel
theorem dX0_unmake_134 : decode cX0_unmake 134 = .ok (.iload_n 3, 1) := by decide +kernel
theorem dX0_unmake_135 : decode cX0_unmake 135 = .ok (.invokevirtual 116, 3) := by decide +kernel
theorem dX0_unmake_138 : decode cX0_unmake 138 = .ok (.aload_n 0, 1) := by decide +kernel
theorem dX0_unmake_139 : decode cX0_unmake 139 = .ok (.iload_n 2, 1) := by decide +kernel
theorem dX0_unmake_140 : decode cX0_unmake 140 = .ok (.iload 7, 2) := by decide +kernel
theorem dX0_unmake_142 : decode cX0_unmake 142 = .ok (.invokevirtual 120, 3) := by decide +kernel
theorem dX0_unmake_145 : decode cX0_unmake 145 = .ok (.aload_n 0, 1) := by decide +kernel
theorem dX0_unmake_146 : decode cX0_unmake 146 = .ok (.iload_n 2, 1) := by decide +kernel
theorem dX0_unmake_147 : decode cX0_unmake 147 = .ok (.iload_n 3, 1) := by decide +kernel
theorem dX0_unmake_148 : decode cX0_unmake 148 = .ok (.invokevirtual 111, 3) := by decide +kernel
theorem dX0_unmake_151 : decode cX0_unmake 151 = .ok (.istore 8, 2) := by decide +kernel
theorem dX0_unmake_153 : decode cX0_unmake 153 = .ok (.iload 8, 2) := by decide +kernel
theorem dX0_unmake_155 : decode cX0_unmake 155 = .ok (.ifCond .eq 40, 3) := by decide +kernel
theorem dX0_unmake_158 : decode cX0_unmake 158 = .ok (.aload_n 0, 1) := by decide +kernel
theorem dX0_unmake_159 : decode cX0_unmake 159 = .ok (.iload_n 3, 1) := by decide +kernel
theorem dX0_unmake_160 : decode cX0_unmake 160 = .ok (.iload 8, 2) := by decide +kernel
theorem dX0_unmake_162 : decode cX0_unmake 162 = .ok (.iconst 2, 1) := by decide +kernel
theorem dX0_unmake_163 : decode cX0_unmake 163 = .ok (.idiv, 1) := by decide +kernel
theorem dX0_unmake_164 : decode cX0_unmake 164 = .ok (.isub, 1) := by decide +kernel
theorem dX0_unmake_165 : decode cX0_unmake 165 = .ok (.invokevirtual 116, 3) := by decide +kernel
theorem dX0_unmake_168 : decode cX0_unmake 168 = .ok (.aload_n 0, 1) := by decide +kernel
theorem dX0_unmake_169 : decode cX0_unmake 169 = .ok (.iload 8, 2) := by decide +kernel
theorem dX0_unmake_171 : decode cX0_unmake 171 = .ok (.ifCond .le 9, 3) := by decide +kernel
theorem dX0_unmake_174 : decode cX0_unmake 174 = .ok (.iload_n 3, 1) := by decide +kernel
theorem dX0_unmake_175 : decode cX0_unmake 175 = .ok (.iconst 1, 1) := by decide +kernel
theorem dX0_unmake_176 : decode cX0_unmake 176 = .ok (.iadd, 1) := by decide +kernel
theorem dX0_unmake_177 : decode cX0_unmake 177 = .ok (.goto 6, 3) := by decide +kernel
theorem dX0_unmake_180 : decode cX0_unmake 180 = .ok (.iload_n 3, 1) := by decide +kernel
theorem dX0_unmake_181 : decode cX0_unmake 181 = .ok (.iconst 2, 1) := by decide +kernel
theorem dX0_unmake_182 : decode cX0_unmake 182 = .ok (.isub, 1) := by decide +kernel
theorem dX0_unmake_183 : decode cX0_unmake 183 = .ok (.iconst 4, 1) := by decide +kernel
theorem dX0_unmake_184 : decode cX0_unmake 184 = .ok (.bipush 6, 2) := by decide +kernel
theorem dX0_unmake_186 : decode cX0_unmake 186 = .ok (.aload_n 0, 1) := by decide +kernel
theorem dX0_unmake_187 : decode cX0_unmake 187 = .ok (.getfield 38, 3) := by decide +kernel
theorem dX0_unmake_190 : decode cX0_unmake 190 = .ok (.imul, 1) := by decide +kernel
theorem dX0_unmake_191 : decode cX0_unmake 191 = .ok (.iadd, 1) := by decide +kernel
theorem dX0_unmake_192 : decode cX0_unmake 192 = .ok (.invokevirtual 120, 3) := by decide +kernel
theorem dX0_unmake_195 : decode cX0_unmake 195 = .ok (.iload 6, 2) := by decide +kernel
theorem dX0_unmake_197 : decode cX0_unmake 197 = .ok (.ifCond .eq 25, 3) := by decide +kernel
theorem dX0_unmake_200 : decode cX0_unmake 200 = .ok (.aload_n 0, 1) := by decide +kernel
theorem dX0_unmake_201 : decode cX0_unmake 201 = .ok (.iload 5, 2) := by decide +kernel
theorem dX0_unmake_203 : decode cX0_unmake 203 = .ok (.ldc 115, 2) := by decide +kernel
theorem dX0_unmake_205 : decode cX0_unmake 205 = .ok (.iand, 1) := by decide +kernel
theorem dX0_unmake_206 : decode cX0_unmake 206 = .ok (.ifCond .ne 7, 3) := by decide +kernel
theorem dX0_unmake_209 : decode cX0_unmake 209 = .ok (.iload_n 3, 1) := by decide +kernel
theorem dX0_unmake_210 : decode cX0_unmake 210 = .ok (.goto 7, 3) := by decide +kernel
theorem dX0_unmake_213 : decode cX0_unmake 213 = .ok (.iload_n 3, 1) := by decide +kernel
theorem dX0_unmake_214 : decode cX0_unmake 214 = .ok (.bipush 8, 2) := by decide +kernel
theorem dX0_unmake_216 : decode cX0_unmake 216 = .ok (.ixor, 1) := by decide +kernel
theorem dX0_unmake_217 : decode cX0_unmake 217 = .ok (.iload 6, 2) := by decide +kernel
theorem dX0_unmake_219 : decode cX0_unmake 219 = .ok (.invokevirtual 120, 3) := by decide +kernel
theorem dX0_unmake_222 : decode cX0_unmake 222 = .ok (.return_, 1) := by decide +kernel
def kX0_unmake_40 (mc ms : Nat) (X : Nat → zV) (Q : zQt) : zT :=
  zli 5 <| zc (.int 15) <| zii (fun x y => x &&& y) <| zsi 6 <| zla 0 <| zc (.int 1) <| zla 0 <| zgi 0 4 <| zii (fun x y => x - y) <| zpi 0 4 <| zla 0 <| zdup <| zgi 0 8 <| zla 0 <| zgi 0 4 <| zii (fun x y => x - y) <| zpi 0 8 <| zla 0 <| zli 5 <| zc (.int 4) <| zii (fun x y => x >>> (y &&& 31)) <| zc (.int 15) <| zii (fun x y => x &&& y) <| zpi 0 5 <| zla 0 <| zli 5 <| zc (.int 8) <| zii (fun x y => x >>> (y &&& 31)) <| zc (.int 15) <| zii (fun x y => x &&& y) <| zc (.int 1) <| zii (fun x y => x - y) <| zpi 0 6 <| zla 0 <| zli 5 <| zc (.int 12) <| zii (fun x y => x >>> (y &&& 31)) <| zc (.int 4095) <| zii (fun x y => x &&& y) <| zpi 0 7 <| zli 4 <| zif (fun x => x = 0) (zla 0 <| zgR 0 1 <| zli 3 <| zal 1 <| zj X 131 [0, 2, 3, 5, 6]) <| zc (.int 1) <| zc (.int 6) <| zla 0 <| zgi 0 4 <| zii (fun x y => x * y) <| zii (fun x y => x + y) <| zj X 131 [0, 2, 3, 5, 6]
def kX0_unmake_13 (mc ms : Nat) (X : Nat → zV) (Q : zQt) : zT :=
  zli 1 <| zc (.int 12) <| zii (fun x y => x >>> (y &&& 31)) <| zsi 4 <| zla 0 <| zdup <| zgi 0 11 <| zc (.int 1) <| zii (fun x y => x - y) <| zpi 0 11 <| zla 0 <| zgR 0 10 <| zla 0 <| zgi 0 11 <| zal 1 <| zsiN 5 <| kX0_unmake_40 mc ms X Q
def kX0_unmake_168 (mc ms : Nat) (X : Nat → zV) (Q : zQt) : zT :=
  zla 0 <| zli 8 <| zif (fun x => x ≤ 0) (zli 3 <| zc (.int 2) <| zii (fun x y => x - y) <| zj X 183 [0, 3, 5, 6]) <| zli 3 <| zc (.int 1) <| zii (fun x y => x + y) <| zj X 183 [0, 3, 5, 6]
def kX0_unmake_151 (mc ms : Nat) (X : Nat → zV) (Q : zQt) : zT :=
  zsi 8 <| zli 8 <| zif (fun x => x = 0) (zj X 195 [0, 3, 5, 6]) <| zla 0 <| zli 3 <| zli 8 <| zc (.int 2) <| zid (fun x y => x / y) <| zii (fun x y => x - y) <| zcv mc ms 0 1 wX0_lift <| kX0_unmake_168 mc ms X Q
def kX0_unmake_145 (mc ms : Nat) (X : Nat → zV) (Q : zQt) : zT :=
  zla 0 <| zli 2 <| zli 3 <| zcv mc ms 0 2 wX0_castleStep <| kX0_unmake_151 mc ms X Q
def kX0_unmake_138 (mc ms : Nat) (X : Nat → zV) (Q : zQt) : zT :=
  zla 0 <| zli 2 <| zli 7 <| zcv mc ms 0 2 wX0_put <| kX0_unmake_145 mc ms X Q
def kX0_unmake_195 (mc ms : Nat) (X : Nat → zV) (Q : zQt) : zT :=
  zj X 195 [0, 3, 5, 6]
def kX0_unmake_222 (mc ms : Nat) (X : Nat → zV) (Q : zQt) : zT :=
  zj X 222 []
def aX0_unmake_0 (mc ms : Nat) (X : Nat → zV) (Q : zQt) : zT :=
  zli 1 <| zc (.int 63) <| zii (fun x y => x &&& y) <| zsi 2 <| zli 1 <| zc (.int 6) <| zii (fun x y => x >>> (y &&& 31)) <| zc (.int 63) <| zii (fun x y => x &&& y) <| zsiN 3 <| kX0_unmake_13 mc ms X Q
def aX0_unmake_131 (mc ms : Nat) (X : Nat → zV) (Q : zQt) : zT :=
  zsi 7 <| zla 0 <| zli 3 <| zcv mc ms 0 1 wX0_lift <| kX0_unmake_138 mc ms X Q
def aX0_unmake_183 (mc ms : Nat) (X : Nat → zV) (Q : zQt) : zT :=
  zc (.int 4) <| zc (.int 6) <| zla 0 <| zgi 0 4 <| zii (fun x y => x * y) <| zii (fun x y => x + y) <| zcv mc ms 0 2 wX0_put <| kX0_unmake_195 mc ms X Q
def aX0_unmake_195 (mc ms : Nat) (X : Nat → zV) (Q : zQt) : zT :=
  zli 6 <| zif (fun x => x = 0) (zj X 222 []) <| zla 0 <| zli 5 <| zc (.int 16777216) <| zii (fun x y => x &&& y) <| zif (fun x => x = 0) (zli 3 <| zj X 217 [6]) <| zli 3 <| zc (.int 8) <| zii (fun x y => x ^^^ y) <| zj X 217 [6]
def aX0_unmake_217 (mc ms : Nat) (X : Nat → zV) (Q : zQt) : zT :=
  zli 6 <| zcv mc ms 0 2 wX0_put <| kX0_unmake_222 mc ms X Q
def aX0_unmake_222 (mc ms : Nat) (X : Nat → zV) (Q : zQt) : zT :=
  zrv Q
def lvX0_unmake : Nat → List Nat := fun L => match L with
  | 0 => [0, 1]
  | 131 => [0, 2, 3, 5, 6]
  | 183 => [0, 3, 5, 6]
  | 195 => [0, 3, 5, 6]
  | 217 => [6]
  | 222 => []
  | _ => []
def wX0_unmake : zSp := fun mc ms av M Q => ((zlay av).length ≤ 9 ∧ zpick (zlay av) [0, 1] = some av) ∧ ∀ X : Nat → zV, zin 9 [0, 1] (aX0_unmake_0 mc ms X Q) X 0 → zin 9 [0, 2, 3, 5, 6] (aX0_unmake_131 mc ms X Q) X 131 → zin 9 [0, 3, 5, 6] (aX0_unmake_183 mc ms X Q) X 183 → zin 9 [0, 3, 5, 6] (aX0_unmake_195 mc ms X Q) X 195 → zin 9 [6] (aX0_unmake_217 mc ms X Q) X 217 → zin 9 [] (aX0_unmake_222 mc ms X Q) X 222 → X 0 0 0 av [] M
set_option maxRecDepth 100000 in
set_option maxHeartbeats 4000000 in
theorem sX0_unmake (l : Launch) (G : zG) (hG : zStat G) : zSnd l G yX0_unmake cX0_unmake 9 none 1 24 wX0_unmake := by
  refine zmk [0, 1] (by decide) (fun mc ms av M Q h => h.1) ?_
  intro p e R s m args below meth c mc ms av M Q hC hRf hRl hr hnm h lv hlv
  obtain ⟨X, hXe⟩ : ∃ X : Nat → zV, X = fun L u v vs st M => ∀ lv, zpick lv (lvX0_unmake L) = some vs → zAt p l e R s m args below meth c (MQ below (zQ G Q) args s mc ms (zA G)) G 9 L u v lv st M := ⟨_, rfl⟩
  have hJ : ∀ L, zOk p l e R s m args below meth c (MQ below (zQ G Q) args s mc ms (zA G)) G 9 L (zj X L (lvX0_unmake L)) := fun L => S_jump (fun u v lv vs st M hp hx => by rw [hXe] at hx; exact hx lv hp)
  have hB0 : zin 9 [0, 1] (aX0_unmake_0 mc ms X Q) X 0 := by
    intro u v vs st M hb
    rw [hXe]
    refine fun lv hp => S_block (L := 0) (live := [0, 1]) ?_ u v lv vs st M hp hb
    unfold aX0_unmake_0
    refine S_iload_n (pc := 0) hC dX0_unmake_0 rfl ?_
    refine S_bipush (pc := 1) hC dX0_unmake_1 (by decide) ?_
    refine S_iand (pc := 3) hC dX0_unmake_3 ?_
    refine S_istore_n (pc := 4) hC dX0_unmake_4 rfl (by decide) ?_
    refine S_iload_n (pc := 5) hC dX0_unmake_5 rfl ?_
    refine S_bipush (pc := 6) hC dX0_unmake_6 (by decide) ?_
    refine S_ishr (pc := 8) hC dX0_unmake_8 ?_
    refine S_bipush (pc := 9) hC dX0_unmake_9 (by decide) ?_
    refine S_iand (pc := 11) hC dX0_unmake_11 ?_
    refine S_istore_n_N (pc := 12) hC dX0_unmake_12 rfl (by decide) ?_
    unfold kX0_unmake_13
    refine S_iload_n (pc := 13) hC dX0_unmake_13 rfl ?_
    refine S_bipush (pc := 14) hC dX0_unmake_14 (by decide) ?_
    refine S_ishr (pc := 16) hC dX0_unmake_16 ?_
    refine S_istore (pc := 17) hC dX0_unmake_17 (by decide) ?_
    refine S_aload_n (pc := 19) hC dX0_unmake_19 rfl ?_
    refine S_dup (pc := 20) hC dX0_unmake_20 ?_
    refine S_geti (pc := 21) hC cfX0 (by decide) (Or.inl rfl) wd_262 dX0_unmake_21 ?_
    refine S_iconst (pc := 24) hC dX0_unmake_24 (by decide) ?_
    refine S_isub (pc := 25) hC dX0_unmake_25 ?_
    refine S_puti (pc := 26) hC cfX0 (by decide) rfl (Or.inl rfl) wd_262 dX0_unmake_26 ?_
    refine S_aload_n (pc := 29) hC dX0_unmake_29 rfl ?_
    refine S_getR (pc := 30) hC cfX0 (by decide) (Or.inr ⟨_, rfl⟩) wd_261 dX0_unmake_30 ?_
    refine S_aload_n (pc := 33) hC dX0_unmake_33 rfl ?_
    refine S_geti (pc := 34) hC cfX0 (by decide) (Or.inl rfl) wd_262 dX0_unmake_34 ?_
    refine S_iaload (pc := 37) hC dX0_unmake_37 ?_
    refine S_istore_N (pc := 38) hC dX0_unmake_38 (by decide) ?_
    unfold kX0_unmake_40
    refine S_iload (pc := 40) hC dX0_unmake_40 ?_
    refine S_bipush (pc := 42) hC dX0_unmake_42 (by decide) ?_
    refine S_iand (pc := 44) hC dX0_unmake_44 ?_
    refine S_istore (pc := 45) hC dX0_unmake_45 (by decide) ?_
    refine S_aload_n (pc := 47) hC dX0_unmake_47 rfl ?_
    refine S_iconst (pc := 48) hC dX0_unmake_48 (by decide) ?_
    refine S_aload_n (pc := 49) hC dX0_unmake_49 rfl ?_
    refine S_geti (pc := 50) hC cfX0 (by decide) (Or.inl rfl) wd_229 dX0_unmake_50 ?_
    refine S_isub (pc := 53) hC dX0_unmake_53 ?_
    refine S_puti (pc := 54) hC cfX0 (by decide) rfl (Or.inl rfl) wd_229 dX0_unmake_54 ?_
    refine S_aload_n (pc := 57) hC dX0_unmake_57 rfl ?_
    refine S_dup (pc := 58) hC dX0_unmake_58 ?_
    refine S_geti (pc := 59) hC cfX0 (by decide) (Or.inl rfl) wd_255 dX0_unmake_59 ?_
    refine S_aload_n (pc := 62) hC dX0_unmake_62 rfl ?_
    refine S_geti (pc := 63) hC cfX0 (by decide) (Or.inl rfl) wd_229 dX0_unmake_63 ?_
    refine S_isub (pc := 66) hC dX0_unmake_66 ?_
    refine S_puti (pc := 67) hC cfX0 (by decide) rfl (Or.inl rfl) wd_255 dX0_unmake_67 ?_
    refine S_aload_n (pc := 70) hC dX0_unmake_70 rfl ?_
    refine S_iload (pc := 71) hC dX0_unmake_71 ?_
    refine S_iconst (pc := 73) hC dX0_unmake_73 (by decide) ?_
    refine S_ishr (pc := 74) hC dX0_unmake_74 ?_
    refine S_bipush (pc := 75) hC dX0_unmake_75 (by decide) ?_
    refine S_iand (pc := 77) hC dX0_unmake_77 ?_
    refine S_puti (pc := 78) hC cfX0 (by decide) rfl (Or.inl rfl) wd_238 dX0_unmake_78 ?_
    refine S_aload_n (pc := 81) hC dX0_unmake_81 rfl ?_
    refine S_iload (pc := 82) hC dX0_unmake_82 ?_
    refine S_bipush (pc := 84) hC dX0_unmake_84 (by decide) ?_
    refine S_ishr (pc := 86) hC dX0_unmake_86 ?_
    refine S_bipush (pc := 87) hC dX0_unmake_87 (by decide) ?_
    refine S_iand (pc := 89) hC dX0_unmake_89 ?_
    refine S_iconst (pc := 90) hC dX0_unmake_90 (by decide) ?_
    refine S_isub (pc := 91) hC dX0_unmake_91 ?_
    refine S_puti (pc := 92) hC cfX0 (by decide) rfl (Or.inl rfl) wd_244 dX0_unmake_92 ?_
    refine S_aload_n (pc := 95) hC dX0_unmake_95 rfl ?_
    refine S_iload (pc := 96) hC dX0_unmake_96 ?_
    refine S_bipush (pc := 98) hC dX0_unmake_98 (by decide) ?_
    refine S_ishr (pc := 100) hC dX0_unmake_100 ?_
    refine S_sipush (pc := 101) hC dX0_unmake_101 (by decide) ?_
    refine S_iand (pc := 104) hC dX0_unmake_104 ?_
    refine S_puti (pc := 105) hC cfX0 (by decide) rfl (Or.inl rfl) wd_250 dX0_unmake_105 ?_
    refine S_iload (pc := 108) hC dX0_unmake_108 ?_
    refine S_if_ne (pc := 110) (tgt := 122) hC dX0_unmake_110 (by decide) ?_ ?_
    · refine S_iconst (pc := 122) hC dX0_unmake_122 (by decide) ?_
      refine S_bipush (pc := 123) hC dX0_unmake_123 (by decide) ?_
      refine S_aload_n (pc := 125) hC dX0_unmake_125 rfl ?_
      refine S_geti (pc := 126) hC cfX0 (by decide) (Or.inl rfl) wd_229 dX0_unmake_126 ?_
      refine S_imul (pc := 129) hC dX0_unmake_129 ?_
      refine S_iadd (pc := 130) hC dX0_unmake_130 ?_
      exact hJ 131
    · refine S_aload_n (pc := 113) hC dX0_unmake_113 rfl ?_
      refine S_getR (pc := 114) hC cfX0 (by decide) (Or.inr ⟨_, rfl⟩) wd_213 dX0_unmake_114 ?_
      refine S_iload_n (pc := 117) hC dX0_unmake_117 rfl ?_
      refine S_iaload (pc := 118) hC dX0_unmake_118 ?_
      refine S_goto (pc := 119) (tgt := 131) hC dX0_unmake_119 (by decide) ?_
      exact hJ 131
  have hB131 : zin 9 [0, 2, 3, 5, 6] (aX0_unmake_131 mc ms X Q) X 131 := by
    intro u v vs st M hb
    rw [hXe]
    refine fun lv hp => S_block (L := 131) (live := [0, 2, 3, 5, 6]) ?_ u v lv vs st M hp hb
    unfold aX0_unmake_131
    refine S_istore (pc := 131) hC dX0_unmake_131 (by decide) ?_
    refine S_aload_n (pc := 133) hC dX0_unmake_133 rfl ?_
    refine S_iload_n (pc := 134) hC dX0_unmake_134 rfl ?_
    refine S_callV (pc := 135) hC (sX0_lift l G hG) rfl wd_406 wd_407 wd_408 wd_10 wd_409 (by decide +kernel) ⟨by rw [hRf]; decide, by rw [hRl]; decide⟩ dX0_unmake_135 ?_
    unfold kX0_unmake_138
    refine S_aload_n (pc := 138) hC dX0_unmake_138 rfl ?_
    refine S_iload_n (pc := 139) hC dX0_unmake_139 rfl ?_
    refine S_iload (pc := 140) hC dX0_unmake_140 ?_
    refine S_callV (pc := 142) hC (sX0_put l G hG) rfl wd_413 wd_414 wd_415 wd_10 wd_416 (by decide +kernel) ⟨by rw [hRf]; decide, by rw [hRl]; decide⟩ dX0_unmake_142 ?_
    unfold kX0_unmake_145
    refine S_aload_n (pc := 145) hC dX0_unmake_145 rfl ?_
    refine S_iload_n (pc := 146) hC dX0_unmake_146 rfl ?_
    refine S_iload_n (pc := 147) hC dX0_unmake_147 rfl ?_
    refine S_callV (pc := 148) hC (sX0_castleStep l G) rfl wd_417 wd_418 wd_419 wd_10 wd_420 (by decide +kernel) ⟨by rw [hRf]; decide, by rw [hRl]; decide⟩ dX0_unmake_148 ?_
    unfold kX0_unmake_151
    refine S_istore (pc := 151) hC dX0_unmake_151 (by decide) ?_
    refine S_iload (pc := 153) hC dX0_unmake_153 ?_
    refine S_if_eq (pc := 155) (tgt := 195) hC dX0_unmake_155 (by decide) ?_ ?_
    · exact hJ 195
    · refine S_aload_n (pc := 158) hC dX0_unmake_158 rfl ?_
      refine S_iload_n (pc := 159) hC dX0_unmake_159 rfl ?_
      refine S_iload (pc := 160) hC dX0_unmake_160 ?_
      refine S_iconst (pc := 162) hC dX0_unmake_162 (by decide) ?_
      refine S_idiv (pc := 163) hC dX0_unmake_163 ?_
      refine S_isub (pc := 164) hC dX0_unmake_164 ?_
      refine S_callV (pc := 165) hC (sX0_lift l G hG) rfl wd_406 wd_407 wd_408 wd_10 wd_409 (by decide +kernel) ⟨by rw [hRf]; decide, by rw [hRl]; decide⟩ dX0_unmake_165 ?_
      unfold kX0_unmake_168
      refine S_aload_n (pc := 168) hC dX0_unmake_168 rfl ?_
      refine S_iload (pc := 169) hC dX0_unmake_169 ?_
      refine S_if_le (pc := 171) (tgt := 180) hC dX0_unmake_171 (by decide) ?_ ?_
      · refine S_iload_n (pc := 180) hC dX0_unmake_180 rfl ?_
        refine S_iconst (pc := 181) hC dX0_unmake_181 (by decide) ?_
        refine S_isub (pc := 182) hC dX0_unmake_182 ?_
        exact hJ 183
      · refine S_iload_n (pc := 174) hC dX0_unmake_174 rfl ?_
        refine S_iconst (pc := 175) hC dX0_unmake_175 (by decide) ?_
        refine S_iadd (pc := 176) hC dX0_unmake_176 ?_
        refine S_goto (pc := 177) (tgt := 183) hC dX0_unmake_177 (by decide) ?_
        exact hJ 183
  have hB183 : zin 9 [0, 3, 5, 6] (aX0_unmake_183 mc ms X Q) X 183 := by
    intro u v vs st M hb
    rw [hXe]
    refine fun lv hp => S_block (L := 183) (live := [0, 3, 5, 6]) ?_ u v lv vs st M hp hb
    unfold aX0_unmake_183
    refine S_iconst (pc := 183) hC dX0_unmake_183 (by decide) ?_
    refine S_bipush (pc := 184) hC dX0_unmake_184 (by decide) ?_
    refine S_aload_n (pc := 186) hC dX0_unmake_186 rfl ?_
    refine S_geti (pc := 187) hC cfX0 (by decide) (Or.inl rfl) wd_229 dX0_unmake_187 ?_
    refine S_imul (pc := 190) hC dX0_unmake_190 ?_
    refine S_iadd (pc := 191) hC dX0_unmake_191 ?_
    refine S_callV (pc := 192) hC (sX0_put l G hG) rfl wd_413 wd_414 wd_415 wd_10 wd_416 (by decide +kernel) ⟨by rw [hRf]; decide, by rw [hRl]; decide⟩ dX0_unmake_192 ?_
    unfold kX0_unmake_195
    exact hJ 195
  have hB195 : zin 9 [0, 3, 5, 6] (aX0_unmake_195 mc ms X Q) X 195 := by
    intro u v vs st M hb
    rw [hXe]
    refine fun lv hp => S_block (L := 195) (live := [0, 3, 5, 6]) ?_ u v lv vs st M hp hb
    unfold aX0_unmake_195
    refine S_iload (pc := 195) hC dX0_unmake_195 ?_
    refine S_if_eq (pc := 197) (tgt := 222) hC dX0_unmake_197 (by decide) ?_ ?_
    · exact hJ 222
    · refine S_aload_n (pc := 200) hC dX0_unmake_200 rfl ?_
      refine S_iload (pc := 201) hC dX0_unmake_201 ?_
      refine S_ldc (pc := 203) hC wd_421 dX0_unmake_203 ?_
      refine S_iand (pc := 205) hC dX0_unmake_205 ?_
      refine S_if_ne (pc := 206) (tgt := 213) hC dX0_unmake_206 (by decide) ?_ ?_
      · refine S_iload_n (pc := 213) hC dX0_unmake_213 rfl ?_
        refine S_bipush (pc := 214) hC dX0_unmake_214 (by decide) ?_
        refine S_ixor (pc := 216) hC dX0_unmake_216 ?_
        exact hJ 217
      · refine S_iload_n (pc := 209) hC dX0_unmake_209 rfl ?_
        refine S_goto (pc := 210) (tgt := 217) hC dX0_unmake_210 (by decide) ?_
        exact hJ 217
  have hB217 : zin 9 [6] (aX0_unmake_217 mc ms X Q) X 217 := by
    intro u v vs st M hb
    rw [hXe]
    refine fun lv hp => S_block (L := 217) (live := [6]) ?_ u v lv vs st M hp hb
    unfold aX0_unmake_217
    refine S_iload (pc := 217) hC dX0_unmake_217 ?_
    refine S_callV (pc := 219) hC (sX0_put l G hG) rfl wd_413 wd_414 wd_415 wd_10 wd_416 (by decide +kernel) ⟨by rw [hRf]; decide, by rw [hRl]; decide⟩ dX0_unmake_219 ?_
    unfold kX0_unmake_222
    exact hJ 222
  have hB222 : zin 9 [] (aX0_unmake_222 mc ms X Q) X 222 := by
    intro u v vs st M hb
    rw [hXe]
    refine fun lv hp => S_block (L := 222) (live := []) ?_ u v lv vs st M hp hb
    unfold aX0_unmake_222
    exact S_vreturn (pc := 222) hC hr dX0_unmake_222
  have := h.2 X hB0 hB131 hB183 hB195 hB217 hB222
  rw [hXe] at this
  exact this lv hlv
theorem vcX0_unmake_40 {mc ms : Nat} {X : Nat → zV} {Q : zQt} {M : zM} {g : Nat} {x1 : Int32} {x2 : Int32} {x3 : Int32} {x4 : Int32} {x5 : Int32} (hW : zWd M g)  (h : ∀ M54 : zM, M54 = (zsI M ((g + 1)) 4 (((1 : Int32) - (M.1 ((g + 1)) 4)))) → ∀ M67 : zM, M67 = (zsI M54 ((g + 1)) 8 (((M54.1 ((g + 1)) 8) - (M54.1 ((g + 1)) 4)))) → ∀ M78 : zM, M78 = (zsI M67 ((g + 1)) 5 (((x5 >>> ((4 : Int32) &&& 31)) &&& (15 : Int32)))) → ∀ M92 : zM, M92 = (zsI M78 ((g + 1)) 6 ((((x5 >>> ((8 : Int32) &&& 31)) &&& (15 : Int32)) - (1 : Int32)))) → ∀ M105 : zM, M105 = (zsI M92 ((g + 1)) 7 (((x5 >>> ((12 : Int32) &&& 31)) &&& (4095 : Int32)))) → (x4 = 0 → vp_in x3 64 ∧ X 131 0 0 [.ref (g + 1), .int x2, .int x3, .int x5, .int (x5 &&& (15 : Int32))] [.int ((M105 : zM).1 ((g + 2)) (x3 : Int32).toNatClampNeg)] M105) ∧ (¬ x4 = 0 → X 131 0 0 [.ref (g + 1), .int x2, .int x3, .int x5, .int (x5 &&& (15 : Int32))] [.int ((1 : Int32) + ((6 : Int32) * (M105.1 ((g + 1)) 4)))] M105)) : kX0_unmake_40 mc ms X Q 0 0 [some (.ref (g + 1)), some (.int x1), some (.int x2), some (.int x3), some (.int x4), some (.int x5), none, none, none] [] M := ⟨(fgs_1 hW), ⟨(fgs_1 hW), (have h54 := h _ rfl; ⟨(fgs_1 hW), ⟨(fgs_1 hW), ⟨(fgs_1 hW), (have h67 := h54 _ rfl; ⟨(fgs_1 hW), (have h78 := h67 _ rfl; ⟨(fgs_1 hW), (have h92 := h78 _ rfl; ⟨(fgs_1 hW), (have h105 := h92 _ rfl; ⟨fun c110 => ⟨(fgs_1 hW), (g + 2), (fgr_1_1 hW), ⟨64, (fgs_2 hW), (h105.1 c110).1, (h105.1 c110).2⟩⟩, fun c110 => ⟨(fgs_1 hW), (h105.2 c110)⟩⟩)⟩)⟩)⟩)⟩⟩⟩)⟩⟩
theorem vcX0_unmake_13 {mc ms : Nat} {X : Nat → zV} {Q : zQt} {M : zM} {g : Nat} {x1 : Int32} {x2 : Int32} {x3 : Int32} (hW : zWd M g)  (h : ∀ M26 : zM, M26 = (zsI M ((g + 1)) 11 (((M.1 ((g + 1)) 11) - (1 : Int32)))) → vp_in ((M26.1 ((g + 1)) 11)) 608 ∧ ∀ y38 : Int32, y38 = ((M26 : zM).1 ((g + 5)) ((M26.1 ((g + 1)) 11) : Int32).toNatClampNeg) → ∀ M54 : zM, M54 = (zsI M26 ((g + 1)) 4 (((1 : Int32) - (M26.1 ((g + 1)) 4)))) → ∀ M67 : zM, M67 = (zsI M54 ((g + 1)) 8 (((M54.1 ((g + 1)) 8) - (M54.1 ((g + 1)) 4)))) → ∀ M78 : zM, M78 = (zsI M67 ((g + 1)) 5 (((y38 >>> ((4 : Int32) &&& 31)) &&& (15 : Int32)))) → ∀ M92 : zM, M92 = (zsI M78 ((g + 1)) 6 ((((y38 >>> ((8 : Int32) &&& 31)) &&& (15 : Int32)) - (1 : Int32)))) → ∀ M105 : zM, M105 = (zsI M92 ((g + 1)) 7 (((y38 >>> ((12 : Int32) &&& 31)) &&& (4095 : Int32)))) → ((x1 >>> ((12 : Int32) &&& 31)) = 0 → vp_in x3 64 ∧ X 131 0 0 [.ref (g + 1), .int x2, .int x3, .int y38, .int (y38 &&& (15 : Int32))] [.int ((M105 : zM).1 ((g + 2)) (x3 : Int32).toNatClampNeg)] M105) ∧ (¬ (x1 >>> ((12 : Int32) &&& 31)) = 0 → X 131 0 0 [.ref (g + 1), .int x2, .int x3, .int y38, .int (y38 &&& (15 : Int32))] [.int ((1 : Int32) + ((6 : Int32) * (M105.1 ((g + 1)) 4)))] M105)) : kX0_unmake_13 mc ms X Q 0 0 [some (.ref (g + 1)), some (.int x1), some (.int x2), some (.int x3), none, none, none, none, none] [] M := ⟨(fgs_1 hW), ⟨(fgs_1 hW), (have h26 := h _ rfl; ⟨(fgs_1 hW), (g + 5), (fgr_1_10 hW), ⟨(fgs_1 hW), ⟨608, (fgs_5 hW), h26.1, (fun y38 e38 => have h38 := h26.2 y38 e38; (vcX0_unmake_40 hW  h38))⟩⟩⟩)⟩⟩
theorem vX0_unmake_0 {mc ms : Nat} {X : Nat → zV} {Q : zQt} {M : zM} {g : Nat} {x1 : Int32} (hW : zWd M g)  (h : ∀ y12 : Int32, y12 = ((x1 >>> ((6 : Int32) &&& 31)) &&& (63 : Int32)) → ∀ M26 : zM, M26 = (zsI M ((g + 1)) 11 (((M.1 ((g + 1)) 11) - (1 : Int32)))) → vp_in ((M26.1 ((g + 1)) 11)) 608 ∧ ∀ y38 : Int32, y38 = ((M26 : zM).1 ((g + 5)) ((M26.1 ((g + 1)) 11) : Int32).toNatClampNeg) → ∀ M54 : zM, M54 = (zsI M26 ((g + 1)) 4 (((1 : Int32) - (M26.1 ((g + 1)) 4)))) → ∀ M67 : zM, M67 = (zsI M54 ((g + 1)) 8 (((M54.1 ((g + 1)) 8) - (M54.1 ((g + 1)) 4)))) → ∀ M78 : zM, M78 = (zsI M67 ((g + 1)) 5 (((y38 >>> ((4 : Int32) &&& 31)) &&& (15 : Int32)))) → ∀ M92 : zM, M92 = (zsI M78 ((g + 1)) 6 ((((y38 >>> ((8 : Int32) &&& 31)) &&& (15 : Int32)) - (1 : Int32)))) → ∀ M105 : zM, M105 = (zsI M92 ((g + 1)) 7 (((y38 >>> ((12 : Int32) &&& 31)) &&& (4095 : Int32)))) → ((x1 >>> ((12 : Int32) &&& 31)) = 0 → vp_in y12 64 ∧ X 131 0 0 [.ref (g + 1), .int (x1 &&& (63 : Int32)), .int y12, .int y38, .int (y38 &&& (15 : Int32))] [.int ((M105 : zM).1 ((g + 2)) (y12 : Int32).toNatClampNeg)] M105) ∧ (¬ (x1 >>> ((12 : Int32) &&& 31)) = 0 → X 131 0 0 [.ref (g + 1), .int (x1 &&& (63 : Int32)), .int y12, .int y38, .int (y38 &&& (15 : Int32))] [.int ((1 : Int32) + ((6 : Int32) * (M105.1 ((g + 1)) 4)))] M105)) : aX0_unmake_0 mc ms X Q 0 0 [some (.ref (g + 1)), some (.int x1), none, none, none, none, none, none, none] [] M := (fun y12 e12 => have h12 := h y12 e12; (vcX0_unmake_13 hW  h12))
theorem vX0_unmake_131 {mc ms : Nat} {X : Nat → zV} {Q : zQt} {M : zM} {g : Nat} {x2 : Int32} {x3 : Int32} {x5 : Int32} {x6 : Int32} {s0 : Int32} (hW : zWd M g)  (h : wX0_lift 0 0 [.ref (g + 1), .int x3] M (fun r M1 => kX0_unmake_138 mc ms X Q 0 0 [some (.ref (g + 1)), none, some (.int x2), some (.int x3), none, some (.int x5), some (.int x6), some (.int s0), none] (r.toList ++ []) M1)) : aX0_unmake_131 mc ms X Q 0 0 [some (.ref (g + 1)), none, some (.int x2), some (.int x3), none, some (.int x5), some (.int x6), none, none] [.int s0] M := ⟨Nat.le_of_ble_eq_true rfl, rfl, (fgs_1 hW), 0, 0, Nat.zero_le _, Nat.zero_le _, h⟩
theorem vX0_unmake_183 {mc ms : Nat} {X : Nat → zV} {Q : zQt} {M : zM} {g : Nat} {x3 : Int32} {x5 : Int32} {x6 : Int32} {s0 : Int32} (hW : zWd M g)  (h : wX0_put 0 0 [.ref (g + 1), .int s0, .int ((4 : Int32) + ((6 : Int32) * (M.1 ((g + 1)) 4)))] M (fun r M1 => kX0_unmake_195 mc ms X Q 0 0 [some (.ref (g + 1)), none, none, some (.int x3), none, some (.int x5), some (.int x6), none, none] (r.toList ++ []) M1)) : aX0_unmake_183 mc ms X Q 0 0 [some (.ref (g + 1)), none, none, some (.int x3), none, some (.int x5), some (.int x6), none, none] [.int s0, .ref (g + 1)] M := ⟨(fgs_1 hW), ⟨Nat.le_of_ble_eq_true rfl, rfl, (fgs_1 hW), 0, 0, Nat.zero_le _, Nat.zero_le _, h⟩⟩
theorem vX0_unmake_195 {mc ms : Nat} {X : Nat → zV} {Q : zQt} {M : zM} {g : Nat} {x3 : Int32} {x5 : Int32} {x6 : Int32} (hW : zWd M g)  (h : (x6 = 0 → X 222 0 0 [] [] M) ∧ (¬ x6 = 0 → ((x5 &&& (16777216 : Int32)) = 0 → X 217 0 0 [.int x6] [.int x3, .ref (g + 1)] M) ∧ (¬ (x5 &&& (16777216 : Int32)) = 0 → X 217 0 0 [.int x6] [.int (x3 ^^^ (8 : Int32)), .ref (g + 1)] M))) : aX0_unmake_195 mc ms X Q 0 0 [some (.ref (g + 1)), none, none, some (.int x3), none, some (.int x5), some (.int x6), none, none] [] M := ⟨fun c197 => (h.1 c197), fun c197 => ⟨fun c206 => ((h.2 c197).1 c206), fun c206 => ((h.2 c197).2 c206)⟩⟩
theorem vX0_unmake_217 {mc ms : Nat} {X : Nat → zV} {Q : zQt} {M : zM} {g : Nat} {x6 : Int32} {s0 : Int32} (hW : zWd M g)  (h : wX0_put 0 0 [.ref (g + 1), .int s0, .int x6] M (fun r M1 => kX0_unmake_222 mc ms X Q 0 0 [none, none, none, none, none, none, some (.int x6), none, none] (r.toList ++ []) M1)) : aX0_unmake_217 mc ms X Q 0 0 [none, none, none, none, none, none, some (.int x6), none, none] [.int s0, .ref (g + 1)] M := ⟨Nat.le_of_ble_eq_true rfl, rfl, (fgs_1 hW), 0, 0, Nat.zero_le _, Nat.zero_le _, h⟩
theorem vX0_unmake_222 {mc ms : Nat} {X : Nat → zV} {Q : zQt} {M : zM} {g : Nat}  (hW : zWd M g)  (h : Q none M) : aX0_unmake_222 mc ms X Q 0 0 [none, none, none, none, none, none, none, none, none] [] M := h
theorem vkX0_unmake_138 {mc ms : Nat} {X : Nat → zV} {Q : zQt} {M : zM} {g : Nat} {x2 : Int32} {x3 : Int32} {x5 : Int32} {x6 : Int32} {x7 : Int32} (hW : zWd M g)  (h : wX0_put 0 0 [.ref (g + 1), .int x2, .int x7] M (fun r M1 => kX0_unmake_145 mc ms X Q 0 0 [some (.ref (g + 1)), none, some (.int x2), some (.int x3), none, some (.int x5), some (.int x6), some (.int x7), none] (r.toList ++ []) M1)) : kX0_unmake_138 mc ms X Q 0 0 [some (.ref (g + 1)), none, some (.int x2), some (.int x3), none, some (.int x5), some (.int x6), some (.int x7), none] [] M := ⟨Nat.le_of_ble_eq_true rfl, rfl, (fgs_1 hW), 0, 0, Nat.zero_le _, Nat.zero_le _, h⟩
theorem vkX0_unmake_145 {mc ms : Nat} {X : Nat → zV} {Q : zQt} {M : zM} {g : Nat} {x2 : Int32} {x3 : Int32} {x5 : Int32} {x6 : Int32} {x7 : Int32} (hW : zWd M g)  (h : wX0_castleStep 0 0 [.ref (g + 1), .int x2, .int x3] M (fun r M1 => kX0_unmake_151 mc ms X Q 0 0 [some (.ref (g + 1)), none, some (.int x2), some (.int x3), none, some (.int x5), some (.int x6), some (.int x7), none] (r.toList ++ []) M1)) : kX0_unmake_145 mc ms X Q 0 0 [some (.ref (g + 1)), none, some (.int x2), some (.int x3), none, some (.int x5), some (.int x6), some (.int x7), none] [] M := ⟨Nat.le_of_ble_eq_true rfl, rfl, (fgs_1 hW), 0, 0, Nat.zero_le _, Nat.zero_le _, h⟩
theorem vkX0_unmake_151 {mc ms : Nat} {X : Nat → zV} {Q : zQt} {M : zM} {g : Nat} {x2 : Int32} {x3 : Int32} {x5 : Int32} {x6 : Int32} {x7 : Int32} {s0 : Int32} (hW : zWd M g)  (h : (s0 = 0 → X 195 0 0 [.ref (g + 1), .int x3, .int x5, .int x6] [] M) ∧ (¬ s0 = 0 → wX0_lift 0 0 [.ref (g + 1), .int (x3 - (s0 / (2 : Int32)))] M (fun r M1 => kX0_unmake_168 mc ms X Q 0 0 [some (.ref (g + 1)), none, some (.int x2), some (.int x3), none, some (.int x5), some (.int x6), some (.int x7), some (.int s0)] (r.toList ++ []) M1))) : kX0_unmake_151 mc ms X Q 0 0 [some (.ref (g + 1)), none, some (.int x2), some (.int x3), none, some (.int x5), some (.int x6), some (.int x7), none] [.int s0] M := ⟨fun c155 => (h.1 c155), fun c155 => ⟨by decide, ⟨Nat.le_of_ble_eq_true rfl, rfl, (fgs_1 hW), 0, 0, Nat.zero_le _, Nat.zero_le _, (h.2 c155)⟩⟩⟩
theorem vkX0_unmake_168 {mc ms : Nat} {X : Nat → zV} {Q : zQt} {M : zM} {g : Nat} {x2 : Int32} {x3 : Int32} {x5 : Int32} {x6 : Int32} {x7 : Int32} {x8 : Int32} (hW : zWd M g)  (h : (x8 ≤ 0 → X 183 0 0 [.ref (g + 1), .int x3, .int x5, .int x6] [.int (x3 - (2 : Int32)), .ref (g + 1)] M) ∧ (¬ x8 ≤ 0 → X 183 0 0 [.ref (g + 1), .int x3, .int x5, .int x6] [.int (x3 + (1 : Int32)), .ref (g + 1)] M)) : kX0_unmake_168 mc ms X Q 0 0 [some (.ref (g + 1)), none, some (.int x2), some (.int x3), none, some (.int x5), some (.int x6), some (.int x7), some (.int x8)] [] M := ⟨fun c171 => (h.1 c171), fun c171 => (h.2 c171)⟩
theorem vkX0_unmake_195 {mc ms : Nat} {X : Nat → zV} {Q : zQt} {M : zM} {g : Nat} {x3 : Int32} {x5 : Int32} {x6 : Int32} (hW : zWd M g)  (h : X 195 0 0 [.ref (g + 1), .int x3, .int x5, .int x6] [] M) : kX0_unmake_195 mc ms X Q 0 0 [some (.ref (g + 1)), none, none, some (.int x3), none, some (.int x5), some (.int x6), none, none] [] M := h
theorem vkX0_unmake_222 {mc ms : Nat} {X : Nat → zV} {Q : zQt} {M : zM} {g : Nat} {x6 : Int32} (hW : zWd M g)  (h : X 222 0 0 [] [] M) : kX0_unmake_222 mc ms X Q 0 0 [none, none, none, none, none, none, some (.int x6), none, none] [] M := h
theorem dX1_beside_0 : decode cX1_beside 0 = .ok (.iload_n 0, 1) := by decide +kernel
theorem dX1_beside_1 : decode cX1_beside 1 = .ok (.bipush 8, 2) := by decide +kernel
theorem dX1_beside_3 : decode cX1_beside 3 = .ok (.irem, 1) := by decide +kernel
theorem dX1_beside_4 : decode cX1_beside 4 = .ok (.iload_n 1, 1) := by decide +kernel
theorem dX1_beside_5 : decode cX1_beside 5 = .ok (.iadd, 1) := by decide +kernel
theorem dX1_beside_6 : decode cX1_beside 6 = .ok (.istore_n 3, 1) := by decide +kernel
theorem dX1_beside_7 : decode cX1_beside 7 = .ok (.iload_n 0, 1) := by decide +kernel
theorem dX1_beside_8 : decode cX1_beside 8 = .ok (.bipush 8, 2) := by decide +kernel
theorem dX1_beside_10 : decode cX1_beside 10 = .ok (.idiv, 1) := by decide +kernel
theorem dX1_beside_11 : decode cX1_beside 11 = .ok (.iload_n 2, 1) := by decide +kernel
theorem dX1_beside_12 : decode cX1_beside 12 = .ok (.iadd, 1) := by decide +kernel
theorem dX1_beside_13 : decode cX1_beside 13 = .ok (.istore 4, 2) := by decide +kernel
theorem dX1_beside_15 : decode cX1_beside 15 = .ok (.iload_n 3, 1) := by decide +kernel
theorem dX1_beside_16 : decode cX1_beside 16 = .ok (.ifCond .lt 21, 3) := by decide +kernel
theorem dX1_beside_19 : decode cX1_beside 19 = .ok (.iload_n 3, 1) := by decide +kernel
theorem dX1_beside_20 : decode cX1_beside 20 = .ok (.bipush 7, 2) := by decide +kernel
theorem dX1_beside_22 : decode cX1_beside 22 = .ok (.if_icmp .gt 15, 3) := by decide +kernel
theorem dX1_beside_25 : decode cX1_beside 25 = .ok (.iload 4, 2) := by decide +kernel
theorem dX1_beside_27 : decode cX1_beside 27 = .ok (.ifCond .lt 10, 3) := by decide +kernel
theorem dX1_beside_30 : decode cX1_beside 30 = .ok (.iload 4, 2) := by decide +kernel
theorem dX1_beside_32 : decode cX1_beside 32 = .ok (.bipush 7, 2) := by decide +kernel
theorem dX1_beside_34 : decode cX1_beside 34 = .ok (.if_icmp .le 7, 3) := by decide +kernel
theorem dX1_beside_37 : decode cX1_beside 37 = .ok (.lconst 0, 1) := by decide +kernel
theorem dX1_beside_38 : decode cX1_beside 38 = .ok (.goto 12, 3) := by decide +kernel
theorem dX1_beside_41 : decode cX1_beside 41 = .ok (.lconst 1, 1) := by decide +kernel
theorem dX1_beside_42 : decode cX1_beside 42 = .ok (.iload 4, 2) := by decide +kernel
theorem dX1_beside_44 : decode cX1_beside 44 = .ok (.bipush 8, 2) := by decide +kernel
theorem dX1_beside_46 : decode cX1_beside 46 = .ok (.imul, 1) := by decide +kernel
theorem dX1_beside_47 : decode cX1_beside 47 = .ok (.iload_n 3, 1) := by decide +kernel
theorem dX1_beside_48 : decode cX1_beside 48 = .ok (.iadd, 1) := by decide +kernel
theorem dX1_beside_49 : decode cX1_beside 49 = .ok (.lshl, 1) := by decide +kernel
theorem dX1_beside_50 : decode cX1_beside 50 = .ok (.lreturn, 1) := by decide +kernel
def kX1_beside_7 (mc ms : Nat) (X : Nat → zV) (Q : zQt) : zT :=
  zli 0 <| zc (.int 8) <| zid (fun x y => x / y) <| zli 2 <| zii (fun x y => x + y) <| zsi 4 <| zli 3 <| zif (fun x => x < 0) (zj X 37 []) <| zli 3 <| zc (.int 7) <| zic (fun x y => y < x) (zj X 37 []) <| zli 4 <| zif (fun x => x < 0) (zj X 37 []) <| zli 4 <| zc (.int 7) <| zic (fun x y => x ≤ y) (zc (.long 1) <| zli 4 <| zc (.int 8) <| zii (fun x y => x * y) <| zli 3 <| zii (fun x y => x + y) <| zji (fun x y => x <<< (y.toInt64 &&& 63)) <| zj X 50 []) <| zj X 37 []
def aX1_beside_0 (mc ms : Nat) (X : Nat → zV) (Q : zQt) : zT :=
  zli 0 <| zc (.int 8) <| zid (fun x y => x - x / y * y) <| zli 1 <| zii (fun x y => x + y) <| zsiN 3 <| kX1_beside_7 mc ms X Q
def aX1_beside_37 (mc ms : Nat) (X : Nat → zV) (Q : zQt) : zT :=
  zc (.long 0) <| zj X 50 []
def aX1_beside_50 (mc ms : Nat) (X : Nat → zV) (Q : zQt) : zT :=
  zrl Q
def lvX1_beside : Nat → List Nat := fun L => match L with
  | 0 => [0, 1, 2]
  | 37 => []
  | 50 => []
  | _ => []
def wX1_beside : zSp := fun mc ms av M Q => ((zlay av).length ≤ 5 ∧ zpick (zlay av) [0, 1, 2] = some av) ∧ ∀ X : Nat → zV, zin 5 [0, 1, 2] (aX1_beside_0 mc ms X Q) X 0 → zin 5 [] (aX1_beside_37 mc ms X Q) X 37 → zin 5 [] (aX1_beside_50 mc ms X Q) X 50 → X 0 0 0 av [] M
set_option maxRecDepth 100000 in
set_option maxHeartbeats 4000000 in
theorem sX1_beside (l : Launch) (G : zG) : zSnd l G yX1_beside cX1_beside 5 (some .long) 0 0 wX1_beside := by
  refine zmk [0, 1, 2] (by decide) (fun mc ms av M Q h => h.1) ?_
  intro p e R s m args below meth c mc ms av M Q hC hRf hRl hr hnm h lv hlv
  obtain ⟨X, hXe⟩ : ∃ X : Nat → zV, X = fun L u v vs st M => ∀ lv, zpick lv (lvX1_beside L) = some vs → zAt p l e R s m args below meth c (MQ below (zQ G Q) args s mc ms (zA G)) G 5 L u v lv st M := ⟨_, rfl⟩
  have hJ : ∀ L, zOk p l e R s m args below meth c (MQ below (zQ G Q) args s mc ms (zA G)) G 5 L (zj X L (lvX1_beside L)) := fun L => S_jump (fun u v lv vs st M hp hx => by rw [hXe] at hx; exact hx lv hp)
  have hB0 : zin 5 [0, 1, 2] (aX1_beside_0 mc ms X Q) X 0 := by
    intro u v vs st M hb
    rw [hXe]
    refine fun lv hp => S_block (L := 0) (live := [0, 1, 2]) ?_ u v lv vs st M hp hb
    unfold aX1_beside_0
    refine S_iload_n (pc := 0) hC dX1_beside_0 rfl ?_
    refine S_bipush (pc := 1) hC dX1_beside_1 (by decide) ?_
    refine S_irem (pc := 3) hC dX1_beside_3 ?_
    refine S_iload_n (pc := 4) hC dX1_beside_4 rfl ?_
    refine S_iadd (pc := 5) hC dX1_beside_5 ?_
    refine S_istore_n_N (pc := 6) hC dX1_beside_6 rfl (by decide) ?_
    unfold kX1_beside_7
    refine S_iload_n (pc := 7) hC dX1_beside_7 rfl ?_
    refine S_bipush (pc := 8) hC dX1_beside_8 (by decide) ?_
    refine S_idiv (pc := 10) hC dX1_beside_10 ?_
    refine S_iload_n (pc := 11) hC dX1_beside_11 rfl ?_
    refine S_iadd (pc := 12) hC dX1_beside_12 ?_
    refine S_istore (pc := 13) hC dX1_beside_13 (by decide) ?_
    refine S_iload_n (pc := 15) hC dX1_beside_15 rfl ?_
    refine S_if_lt (pc := 16) (tgt := 37) hC dX1_beside_16 (by decide) ?_ ?_
    · exact hJ 37
    · refine S_iload_n (pc := 19) hC dX1_beside_19 rfl ?_
      refine S_bipush (pc := 20) hC dX1_beside_20 (by decide) ?_
      refine S_icmp_gt (pc := 22) (tgt := 37) hC dX1_beside_22 (by decide) ?_ ?_
      · exact hJ 37
      · refine S_iload (pc := 25) hC dX1_beside_25 ?_
        refine S_if_lt (pc := 27) (tgt := 37) hC dX1_beside_27 (by decide) ?_ ?_
        · exact hJ 37
        · refine S_iload (pc := 30) hC dX1_beside_30 ?_
          refine S_bipush (pc := 32) hC dX1_beside_32 (by decide) ?_
          refine S_icmp_le (pc := 34) (tgt := 41) hC dX1_beside_34 (by decide) ?_ ?_
          · refine S_lconst (pc := 41) hC dX1_beside_41 (by decide) ?_
            refine S_iload (pc := 42) hC dX1_beside_42 ?_
            refine S_bipush (pc := 44) hC dX1_beside_44 (by decide) ?_
            refine S_imul (pc := 46) hC dX1_beside_46 ?_
            refine S_iload_n (pc := 47) hC dX1_beside_47 rfl ?_
            refine S_iadd (pc := 48) hC dX1_beside_48 ?_
            refine S_lshl (pc := 49) hC dX1_beside_49 ?_
            exact hJ 50
          · exact hJ 37
  have hB37 : zin 5 [] (aX1_beside_37 mc ms X Q) X 37 := by
    intro u v vs st M hb
    rw [hXe]
    refine fun lv hp => S_block (L := 37) (live := []) ?_ u v lv vs st M hp hb
    unfold aX1_beside_37
    refine S_lconst (pc := 37) hC dX1_beside_37 (by decide) ?_
    refine S_goto (pc := 38) (tgt := 50) hC dX1_beside_38 (by decide) ?_
    exact hJ 50
  have hB50 : zin 5 [] (aX1_beside_50 mc ms X Q) X 50 := by
    intro u v vs st M hb
    rw [hXe]
    refine fun lv hp => S_block (L := 50) (live := []) ?_ u v lv vs st M hp hb
    unfold aX1_beside_50
    exact S_lreturn (pc := 50) hC hr dX1_beside_50
  have := h.2 X hB0 hB37 hB50
  rw [hXe] at this
  exact this lv hlv
theorem vcX1_beside_7 {mc ms : Nat} {X : Nat → zV} {Q : zQt} {M : zM} {g : Nat} {x0 : Int32} {x1 : Int32} {x2 : Int32} {x3 : Int32} (hW : zWd M g)  (h : (x3 < 0 → X 37 0 0 [] [] M) ∧ (¬ x3 < 0 → ((7 : Int32) < x3 → X 37 0 0 [] [] M) ∧ (¬ (7 : Int32) < x3 → (((x0 / (8 : Int32)) + x2) < 0 → X 37 0 0 [] [] M) ∧ (¬ ((x0 / (8 : Int32)) + x2) < 0 → (((x0 / (8 : Int32)) + x2) ≤ (7 : Int32) → X 50 0 0 [] [.long ((1 : Int64) <<< (((((x0 / (8 : Int32)) + x2) * (8 : Int32)) + x3).toInt64 &&& 63))] M) ∧ (¬ ((x0 / (8 : Int32)) + x2) ≤ (7 : Int32) → X 37 0 0 [] [] M))))) : kX1_beside_7 mc ms X Q 0 0 [some (.int x0), some (.int x1), some (.int x2), some (.int x3), none] [] M := ⟨by decide, ⟨fun c16 => (h.1 c16), fun c16 => ⟨fun c22 => ((h.2 c16).1 c22), fun c22 => ⟨fun c27 => (((h.2 c16).2 c22).1 c27), fun c27 => ⟨fun c34 => ((((h.2 c16).2 c22).2 c27).1 c34), fun c34 => ((((h.2 c16).2 c22).2 c27).2 c34)⟩⟩⟩⟩⟩
theorem vX1_beside_0 {mc ms : Nat} {X : Nat → zV} {Q : zQt} {M : zM} {g : Nat} {x0 : Int32} {x1 : Int32} {x2 : Int32} (hW : zWd M g)  (h : ∀ y6 : Int32, y6 = ((x0 - x0 / (8 : Int32) * (8 : Int32)) + x1) → (y6 < 0 → X 37 0 0 [] [] M) ∧ (¬ y6 < 0 → ((7 : Int32) < y6 → X 37 0 0 [] [] M) ∧ (¬ (7 : Int32) < y6 → (((x0 / (8 : Int32)) + x2) < 0 → X 37 0 0 [] [] M) ∧ (¬ ((x0 / (8 : Int32)) + x2) < 0 → (((x0 / (8 : Int32)) + x2) ≤ (7 : Int32) → X 50 0 0 [] [.long ((1 : Int64) <<< (((((x0 / (8 : Int32)) + x2) * (8 : Int32)) + y6).toInt64 &&& 63))] M) ∧ (¬ ((x0 / (8 : Int32)) + x2) ≤ (7 : Int32) → X 37 0 0 [] [] M))))) : aX1_beside_0 mc ms X Q 0 0 [some (.int x0), some (.int x1), some (.int x2), none, none] [] M := ⟨by decide, (fun y6 e6 => have h6 := h y6 e6; (vcX1_beside_7 hW  h6))⟩
theorem vX1_beside_37 {mc ms : Nat} {X : Nat → zV} {Q : zQt} {M : zM} {g : Nat}  (hW : zWd M g)  (h : X 50 0 0 [] [.long 0] M) : aX1_beside_37 mc ms X Q 0 0 [none, none, none, none, none] [] M := h
theorem vX1_beside_50 {mc ms : Nat} {X : Nat → zV} {Q : zQt} {M : zM} {g : Nat} {s0 : Int64} (hW : zWd M g)  (h : Q (some (.long s0)) M) : aX1_beside_50 mc ms X Q 0 0 [none, none, none, none, none] [.long s0] M := h
theorem dX1_wholeRay_0 : decode cX1_wholeRay 0 = .ok (.lconst 0, 1) := by decide +kernel
theorem dX1_wholeRay_1 : decode cX1_wholeRay 1 = .ok (.lstore_n 2, 1) := by decide +kernel
theorem dX1_wholeRay_2 : decode cX1_wholeRay 2 = .ok (.iconst 1, 1) := by decide +kernel
theorem dX1_wholeRay_3 : decode cX1_wholeRay 3 = .ok (.istore 4, 2) := by decide +kernel
theorem dX1_wholeRay_5 : decode cX1_wholeRay 5 = .ok (.iload 4, 2) := by decide +kernel
theorem dX1_wholeRay_7 : decode cX1_wholeRay 7 = .ok (.bipush 8, 2) := by decide +kernel
theorem dX1_wholeRay_9 : decode cX1_wholeRay 9 = .ok (.if_icmp .ge 32, 3) := by decide +kernel
theorem dX1_wholeRay_12 : decode cX1_wholeRay 12 = .ok (.lload_n 2, 1) := by decide +kernel
theorem dX1_wholeRay_13 : decode cX1_wholeRay 13 = .ok (.iload_n 0, 1) := by decide +kernel
theorem dX1_wholeRay_14 : decode cX1_wholeRay 14 = .ok (.getstatic 39, 3) := by decide +kernel
theorem dX1_wholeRay_17 : decode cX1_wholeRay 17 = .ok (.iload_n 1, 1) := by decide +kernel
theorem dX1_wholeRay_18 : decode cX1_wholeRay 18 = .ok (.iaload, 1) := by decide +kernel
theorem dX1_wholeRay_19 : decode cX1_wholeRay 19 = .ok (.iload 4, 2) := by decide +kernel
theorem dX1_wholeRay_21 : decode cX1_wholeRay 21 = .ok (.imul, 1) := by decide +kernel
theorem dX1_wholeRay_22 : decode cX1_wholeRay 22 = .ok (.getstatic 42, 3) := by decide +kernel
theorem dX1_wholeRay_25 : decode cX1_wholeRay 25 = .ok (.iload_n 1, 1) := by decide +kernel
theorem dX1_wholeRay_26 : decode cX1_wholeRay 26 = .ok (.iaload, 1) := by decide +kernel
theorem dX1_wholeRay_27 : decode cX1_wholeRay 27 = .ok (.iload 4, 2) := by decide +kernel
theorem dX1_wholeRay_29 : decode cX1_wholeRay 29 = .ok (.imul, 1) := by decide +kernel
theorem dX1_wholeRay_30 : decode cX1_wholeRay 30 = .ok (.invokestatic 35, 3) := by decide +kernel
theorem dX1_wholeRay_33 : decode cX1_wholeRay 33 = .ok (.lor, 1) := by decide +kernel
theorem dX1_wholeRay_34 : decode cX1_wholeRay 34 = .ok (.lstore_n 2, 1) := by decide +kernel
theorem dX1_wholeRay_35 : decode cX1_wholeRay 35 = .ok (.iinc 4 1, 3) := by decide +kernel
theorem dX1_wholeRay_38 : decode cX1_wholeRay 38 = .ok (.goto (-33), 3) := by decide +kernel
theorem dX1_wholeRay_41 : decode cX1_wholeRay 41 = .ok (.lload_n 2, 1) := by decide +kernel
theorem dX1_wholeRay_42 : decode cX1_wholeRay 42 = .ok (.lreturn, 1) := by decide +kernel
def kX1_wholeRay_33 (mc ms : Nat) (X : Nat → zV) (Q : zQt) : zT :=
  zjj (fun x y => x ||| y) <| zsl 2 <| zinc 4 1 <| zj X 5 [0, 1, 2, 4]
def aX1_wholeRay_0 (mc ms : Nat) (X : Nat → zV) (Q : zQt) : zT :=
  zc (.long 0) <| zsl 2 <| zc (.int 1) <| zsi 4 <| zj X 5 [0, 1, 2, 4]
def aX1_wholeRay_5 (mc ms : Nat) (X : Nat → zV) (Q : zQt) : zT :=
  zli 4 <| zc (.int 8) <| zic (fun x y => y ≤ x) (zll 2 <| zrl Q) <| zll 2 <| zli 0 <| zgs 0 <| zli 1 <| zxl 0 <| zli 4 <| zii (fun x y => x * y) <| zgs 1 <| zli 1 <| zxl 1 <| zli 4 <| zii (fun x y => x * y) <| zcs mc ms 3 wX1_beside <| kX1_wholeRay_33 mc ms X Q
def lvX1_wholeRay : Nat → List Nat := fun L => match L with
  | 0 => [0, 1]
  | 5 => [0, 1, 2, 4]
  | _ => []
def wX1_wholeRay : zSp := fun mc ms av M Q => ((zlay av).length ≤ 5 ∧ zpick (zlay av) [0, 1] = some av) ∧ ∀ X : Nat → zV, zin 5 [0, 1] (aX1_wholeRay_0 mc ms X Q) X 0 → zin 5 [0, 1, 2, 4] (aX1_wholeRay_5 mc ms X Q) X 5 → X 0 0 0 av [] M
set_option maxRecDepth 100000 in
set_option maxHeartbeats 4000000 in
theorem sX1_wholeRay (l : Launch) (G : zG) (hG : zStat G) : zSnd l G yX1_wholeRay cX1_wholeRay 5 (some .long) 1 24 wX1_wholeRay := by
  refine zmk [0, 1] (by decide) (fun mc ms av M Q h => h.1) ?_
  intro p e R s m args below meth c mc ms av M Q hC hRf hRl hr hnm h lv hlv
  obtain ⟨X, hXe⟩ : ∃ X : Nat → zV, X = fun L u v vs st M => ∀ lv, zpick lv (lvX1_wholeRay L) = some vs → zAt p l e R s m args below meth c (MQ below (zQ G Q) args s mc ms (zA G)) G 5 L u v lv st M := ⟨_, rfl⟩
  have hJ : ∀ L, zOk p l e R s m args below meth c (MQ below (zQ G Q) args s mc ms (zA G)) G 5 L (zj X L (lvX1_wholeRay L)) := fun L => S_jump (fun u v lv vs st M hp hx => by rw [hXe] at hx; exact hx lv hp)
  have hB0 : zin 5 [0, 1] (aX1_wholeRay_0 mc ms X Q) X 0 := by
    intro u v vs st M hb
    rw [hXe]
    refine fun lv hp => S_block (L := 0) (live := [0, 1]) ?_ u v lv vs st M hp hb
    unfold aX1_wholeRay_0
    refine S_lconst (pc := 0) hC dX1_wholeRay_0 (by decide) ?_
    refine S_lstore_n (pc := 1) hC dX1_wholeRay_1 rfl (by decide) ?_
    refine S_iconst (pc := 2) hC dX1_wholeRay_2 (by decide) ?_
    refine S_istore (pc := 3) hC dX1_wholeRay_3 (by decide) ?_
    exact hJ 5
  have hB5 : zin 5 [0, 1, 2, 4] (aX1_wholeRay_5 mc ms X Q) X 5 := by
    intro u v vs st M hb
    rw [hXe]
    refine fun lv hp => S_block (L := 5) (live := [0, 1, 2, 4]) ?_ u v lv vs st M hp hb
    unfold aX1_wholeRay_5
    refine S_iload (pc := 5) hC dX1_wholeRay_5 ?_
    refine S_bipush (pc := 7) hC dX1_wholeRay_7 (by decide) ?_
    refine S_icmp_ge (pc := 9) (tgt := 41) hC dX1_wholeRay_9 (by decide) ?_ ?_
    · refine S_lload_n (pc := 41) hC dX1_wholeRay_41 rfl ?_
      exact S_lreturn (pc := 42) hC hr dX1_wholeRay_42
    · refine S_lload_n (pc := 12) hC dX1_wholeRay_12 rfl ?_
      refine S_iload_n (pc := 13) hC dX1_wholeRay_13 rfl ?_
      refine S_gets (pc := 14) hC hG (e0 := 0) (by decide) wd_50 dX1_wholeRay_14 ?_
      refine S_iload_n (pc := 17) hC dX1_wholeRay_17 rfl ?_
      refine S_xload (pc := 18) hC hG (by decide) dX1_wholeRay_18 ?_
      refine S_iload (pc := 19) hC dX1_wholeRay_19 ?_
      refine S_imul (pc := 21) hC dX1_wholeRay_21 ?_
      refine S_gets (pc := 22) hC hG (e0 := 1) (by decide) wd_52 dX1_wholeRay_22 ?_
      refine S_iload_n (pc := 25) hC dX1_wholeRay_25 rfl ?_
      refine S_xload (pc := 26) hC hG (by decide) dX1_wholeRay_26 ?_
      refine S_iload (pc := 27) hC dX1_wholeRay_27 ?_
      refine S_imul (pc := 29) hC dX1_wholeRay_29 ?_
      refine S_callS (pc := 30) hC (sX1_beside l G) wd_47 wd_48 wd_2 wd_49 (by decide +kernel) ⟨by rw [hRf]; decide, by rw [hRl]; decide⟩ dX1_wholeRay_30 ?_
      unfold kX1_wholeRay_33
      refine S_lor (pc := 33) hC dX1_wholeRay_33 ?_
      refine S_lstore_n (pc := 34) hC dX1_wholeRay_34 rfl (by decide) ?_
      refine S_iinc (pc := 35) hC dX1_wholeRay_35 (by decide) (by decide) ?_
      refine S_goto (pc := 38) (tgt := 5) hC dX1_wholeRay_38 (by decide) ?_
      exact hJ 5
  have := h.2 X hB0 hB5
  rw [hXe] at this
  exact this lv hlv
theorem vX1_wholeRay_0 {mc ms : Nat} {X : Nat → zV} {Q : zQt} {M : zM} {g : Nat} {x0 : Int32} {x1 : Int32} (hW : zWd M g)  (h : X 5 0 0 [.int x0, .int x1, .long 0, .int 1] [] M) : aX1_wholeRay_0 mc ms X Q 0 0 [some (.int x0), some (.int x1), none, none, none] [] M := h
theorem vX1_wholeRay_5 {mc ms : Nat} {X : Nat → zV} {Q : zQt} {M : zM} {g : Nat} {x0 : Int32} {x1 : Int32} {x2 : Int64} {x4 : Int32} (hW : zWd M g)  (h : ((8 : Int32) ≤ x4 → Q (some (.long x2)) M) ∧ (¬ (8 : Int32) ≤ x4 → vp_in x1 8 ∧ vp_in x1 8 ∧ wX1_beside 0 0 [.int x0, .int (((zstn 0).2.2.getD (x1 : Int32).toNatClampNeg 0) * x4), .int (((zstn 1).2.2.getD (x1 : Int32).toNatClampNeg 0) * x4)] M (fun r M1 => kX1_wholeRay_33 mc ms X Q 0 0 [some (.int x0), some (.int x1), some (.long x2), none, some (.int x4)] (r.toList ++ [.long x2]) M1))) : aX1_wholeRay_5 mc ms X Q 0 0 [some (.int x0), some (.int x1), some (.long x2), none, some (.int x4)] [] M := ⟨fun c9 => (h.1 c9), fun c9 => ⟨rfl, (h.2 c9).1, ⟨rfl, (h.2 c9).2.1, ⟨Nat.le_of_ble_eq_true rfl, rfl, 0, 0, Nat.zero_le _, Nat.zero_le _, (h.2 c9).2.2⟩⟩⟩⟩
theorem vkX1_wholeRay_33 {mc ms : Nat} {X : Nat → zV} {Q : zQt} {M : zM} {g : Nat} {x0 : Int32} {x1 : Int32} {x2 : Int64} {x4 : Int32} {s0 : Int64} {s1 : Int64} (hW : zWd M g)  (h : X 5 0 0 [.int x0, .int x1, .long (s1 ||| s0), .int (x4 + 1)] [] M) : kX1_wholeRay_33 mc ms X Q 0 0 [some (.int x0), some (.int x1), some (.long x2), none, some (.int x4)] [.long s0, .long s1] M := h
theorem dX1_lines_0 : decode cX1_lines 0 = .ok (.lconst 0, 1) := by decide +kernel
theorem dX1_lines_1 : decode cX1_lines 1 = .ok (.lstore 5, 2) := by decide +kernel
theorem dX1_lines_3 : decode cX1_lines 3 = .ok (.iload 4, 2) := by decide +kernel
theorem dX1_lines_5 : decode cX1_lines 5 = .ok (.istore 7, 2) := by decide +kernel
theorem dX1_lines_7 : decode cX1_lines 7 = .ok (.iload 7, 2) := by decide +kernel
theorem dX1_lines_9 : decode cX1_lines 9 = .ok (.iload 4, 2) := by decide +kernel
theorem dX1_lines_11 : decode cX1_lines 11 = .ok (.iconst 2, 1) := by decide +kernel
theorem dX1_lines_12 : decode cX1_lines 12 = .ok (.iadd, 1) := by decide +kernel
theorem dX1_lines_13 : decode cX1_lines 13 = .ok (.if_icmp .ge 139, 3) := by decide +kernel
theorem dX1_lines_16 : decode cX1_lines 16 = .ok (.aload_n 0, 1) := by decide +kernel
theorem dX1_lines_17 : decode cX1_lines 17 = .ok (.getfield 19, 3) := by decide +kernel
theorem dX1_lines_20 : decode cX1_lines 20 = .ok (.iload 7, 2) := by decide +kernel
theorem dX1_lines_22 : decode cX1_lines 22 = .ok (.bipush 64, 2) := by decide +kernel
theorem dX1_lines_24 : decode cX1_lines 24 = .ok (.imul, 1) := by decide +kernel
theorem dX1_lines_25 : decode cX1_lines 25 = .ok (.iload_n 1, 1) := by decide +kernel
theorem dX1_lines_26 : decode cX1_lines 26 = .ok (.iadd, 1) := by decide +kernel
theorem dX1_lines_27 : decode cX1_lines 27 = .ok (.laload, 1) := by decide +kernel
theorem dX1_lines_28 : decode cX1_lines 28 = .ok (.lstore 8, 2) := by decide +kernel
theorem dX1_lines_30 : decode cX1_lines 30 = .ok (.lload 8, 2) := by decide +kernel
theorem dX1_lines_32 : decode cX1_lines 32 = .ok (.lload_n 2, 1) := by decide +kernel
theorem dX1_lines_33 : decode cX1_lines 33 = .ok (.land, 1) := by decide +kernel
theorem dX1_lines_34 : decode cX1_lines 34 = .ok (.lstore 10, 2) := by decide +kernel
theorem dX1_lines_36 : decode cX1_lines 36 = .ok (.lload 5, 2) := by decide +kernel
theorem dX1_lines_38 : decode cX1_lines 38 = .ok (.lload 8, 2) := by decide +kernel
theorem dX1_lines_40 : decode cX1_lines 40 = .ok (.lload 10, 2) := by decide +kernel
theorem dX1_lines_42 : decode cX1_lines 42 = .ok (.lload 10, 2) := by decide +kernel
theorem dX1_lines_44 : decode cX1_lines 44 = .ok (.lconst 1, 1) := by decide +kernel
theorem dX1_lines_45 : decode cX1_lines 45 = .ok (.lsub, 1) := by decide +kernel
theorem dX1_lines_46 : decode cX1_lines 46 = .ok (.lxor, 1) := by decide +kernel
theorem dX1_lines_47 : decode cX1_lines 47 = .ok (.land, 1) := by decide +kernel
theorem dX1_lines_48 : decode cX1_lines 48 = .ok (.lor, 1) := by decide +kernel
theorem dX1_lines_49 : decode cX1_lines 49 = .ok (.lstore 5, 2) := by decide +kernel
theorem dX1_lines_51 : decode cX1_lines 51 = .ok (.aload_n 0, 1) := by decide +kernel
theorem dX1_lines_52 : decode cX1_lines 52 = .ok (.getfield 19, 3) := by decide +kernel
theorem dX1_lines_55 : decode cX1_lines 55 = .ok (.iload 7, 2) := by decide +kernel
theorem dX1_lines_57 : decode cX1_lines 57 = .ok (.iconst 4, 1) := by decide +kernel
theorem dX1_lines_58 : decode cX1_lines 58 = .ok (.iadd, 1) := by decide +kernel
theorem dX1_lines_59 : decode cX1_lines 59 = .ok (.bipush 64, 2) := by decide +kernel
theorem dX1_lines_61 : decode cX1_lines 61 = .ok (.imul, 1) := by decide +kernel
theorem dX1_lines_62 : decode cX1_lines 62 = .ok (.iload_n 1, 1) := by decide +kernel
theorem dX1_lines_63 : decode cX1_lines 63 = .ok (.iadd, 1) := by decide +kernel
theorem dX1_lines_64 : decode cX1_lines 64 = .ok (.laload, 1) := by decide +kernel
theorem dX1_lines_65 : decode cX1_lines 65 = .ok (.lstore 12, 2) := by decide +kernel
theorem dX1_lines_67 : decode cX1_lines 67 = .ok (.lload 12, 2) := by decide +kernel
theorem dX1_lines_69 : decode cX1_lines 69 = .ok (.lload_n 2, 1) := by decide +kernel
theorem dX1_lines_70 : decode cX1_lines 70 = .ok (.land, 1) := by decide +kernel
theorem dX1_lines_71 : decode cX1_lines 71 = .ok (.lstore 10, 2) := by decide +kernel
theorem dX1_lines_73 : decode cX1_lines 73 = .ok (.lload 10, 2) := by decide +kernel
theorem dX1_lines_75 : decode cX1_lines 75 = .ok (.lload 10, 2) := by decide +kernel
theorem dX1_lines_77 : decode cX1_lines 77 = .ok (.iconst 1, 1) := by decide +kernel
theorem dX1_lines_78 : decode cX1_lines 78 = .ok (.lushr, 1) := by decide +kernel
theorem dX1_lines_79 : decode cX1_lines 79 = .ok (.lor, 1) := by decide +kernel
theorem dX1_lines_80 : decode cX1_lines 80 = .ok (.lstore 10, 2) := by decide +kernel
theorem dX1_lines_82 : decode cX1_lines 82 = .ok (.lload 10, 2) := by decide +kernel
theorem dX1_lines_84 : decode cX1_lines 84 = .ok (.lload 10, 2) := by decide +kernel
theorem dX1_lines_86 : decode cX1_lines 86 = .ok (.iconst 2, 1) := by decide +kernel
theorem dX1_lines_87 : decode cX1_lines 87 = .ok (.lushr, 1) := by decide +kernel
theorem dX1_lines_88 : decode cX1_lines 88 = .ok (.lor, 1) := by decide +kernel
theorem dX1_lines_89 : decode cX1_lines 89 = .ok (.lstore 10, 2) := by decide +kernel
theorem dX1_lines_91 : decode cX1_lines 91 = .ok (.lload 10, 2) := by decide +kernel
theorem dX1_lines_93 : decode cX1_lines 93 = .ok (.lload 10, 2) := by decide +kernel
theorem dX1_lines_95 : decode cX1_lines 95 = .ok (.iconst 4, 1) := by decide +kernel
theorem dX1_lines_96 : decode cX1_lines 96 = .ok (.lushr, 1) := by decide +kernel
theorem dX1_lines_97 : decode cX1_lines 97 = .ok (.lor, 1) := by decide +kernel
theorem dX1_lines_98 : decode cX1_lines 98 = .ok (.lstore 10, 2) := by decide +kernel
theorem dX1_lines_100 : decode cX1_lines 100 = .ok (.lload 10, 2) := by decide +kernel
theorem dX1_lines_102 : decode cX1_lines 102 = .ok (.lload 10, 2) := by decide +kernel
theorem dX1_lines_104 : decode cX1_lines 104 = .ok (.bipush 8, 2) := by decide +kernel
theorem dX1_lines_106 : decode cX1_lines 106 = .ok (.lushr, 1) := by decide +kernel
theorem dX1_lines_107 : decode cX1_lines 107 = .ok (.lor, 1) := by decide +kernel
theorem dX1_lines_108 : decode cX1_lines 108 = .ok (.lstore 10, 2) := by decide +kernel
theorem dX1_lines_110 : decode cX1_lines 110 = .ok (.lload 10, 2) := by decide +kernel
theorem dX1_lines_112 : decode cX1_lines 112 = .ok (.lload 10, 2) := by decide +kernel
theorem dX1_lines_114 : decode cX1_lines 114 = .ok (.bipush 16, 2) := by decide +kernel
theorem dX1_lines_116 : decode cX1_lines 116 = .ok (.lushr, 1) := by decide +kernel
theorem dX1_lines_117 : decode cX1_lines 117 = .ok (.lor, 1) := by decide +kernel
theorem dX1_lines_118 : decode cX1_lines 118 = .ok (.lstore 10, 2) := by decide +kernel
theorem dX1_lines_120 : decode cX1_lines 120 = .ok (.lload 10, 2) := by decide +kernel
theorem dX1_lines_122 : decode cX1_lines 122 = .ok (.lload 10, 2) := by decide +kernel
theorem dX1_lines_124 : decode cX1_lines 124 = .ok (.bipush 32, 2) := by decide +kernel
theorem dX1_lines_126 : decode cX1_lines 126 = .ok (.lushr, 1) := by decide +kernel
theorem dX1_lines_127 : decode cX1_lines 127 = .ok (.lor, 1) := by decide +kernel
theorem dX1_lines_128 : decode cX1_lines 128 = .ok (.lstore 10, 2) := by decide +kernel
theorem dX1_lines_130 : decode cX1_lines 130 = .ok (.lload 5, 2) := by decide +kernel
theorem dX1_lines_132 : decode cX1_lines 132 = .ok (.lload 12, 2) := by decide +kernel
theorem dX1_lines_134 : decode cX1_lines 134 = .ok (.lload 10, 2) := by decide +kernel
theorem dX1_lines_136 : decode cX1_lines 136 = .ok (.iconst 1, 1) := by decide +kernel
theorem dX1_lines_137 : decode cX1_lines 137 = .ok (.lushr, 1) := by decide +kernel
theorem dX1_lines_138 : decode cX1_lines 138 = .ok (.ldc2_w 49, 3) := by decide +kernel
theorem dX1_lines_141 : decode cX1_lines 141 = .ok (.lxor, 1) := by decide +kernel
theorem dX1_lines_142 : decode cX1_lines 142 = .ok (.land, 1) := by decide +kernel
theorem dX1_lines_143 : decode cX1_lines 143 = .ok (.lor, 1) := by decide +kernel
theorem dX1_lines_144 : decode cX1_lines 144 = .ok (.lstore 5, 2) := by decide +kernel
theorem dX1_lines_146 : decode cX1_lines 146 = .ok (.iinc 7 1, 3) := by decide +kernel
theorem dX1_lines_149 : decode cX1_lines 149 = .ok (.goto (-142), 3) := by decide +kernel
theorem dX1_lines_152 : decode cX1_lines 152 = .ok (.lload 5, 2) := by decide +kernel
theorem dX1_lines_154 : decode cX1_lines 154 = .ok (.lreturn, 1) := by decide +kernel
def kX1_lines_146 (mc ms : Nat) (X : Nat → zV) (Q : zQt) : zT :=
  zinc 7 1 <| zj X 7 [0, 1, 2, 4, 5, 7]
def kX1_lines_130 (mc ms : Nat) (X : Nat → zV) (Q : zQt) : zT :=
  zll 5 <| zll 12 <| zll 10 <| zc (.int 1) <| zji (fun x y => (x.toUInt64 >>> (y.toInt64.toUInt64 &&& Int64.toUInt64 63)).toInt64) <| zc (.long (-1)) <| zjj (fun x y => x ^^^ y) <| zjj (fun x y => x &&& y) <| zjj (fun x y => x ||| y) <| zslN 5 <| kX1_lines_146 mc ms X Q
def kX1_lines_120 (mc ms : Nat) (X : Nat → zV) (Q : zQt) : zT :=
  zll 10 <| zll 10 <| zc (.int 32) <| zji (fun x y => (x.toUInt64 >>> (y.toInt64.toUInt64 &&& Int64.toUInt64 63)).toInt64) <| zjj (fun x y => x ||| y) <| zslN 10 <| kX1_lines_130 mc ms X Q
def kX1_lines_110 (mc ms : Nat) (X : Nat → zV) (Q : zQt) : zT :=
  zll 10 <| zll 10 <| zc (.int 16) <| zji (fun x y => (x.toUInt64 >>> (y.toInt64.toUInt64 &&& Int64.toUInt64 63)).toInt64) <| zjj (fun x y => x ||| y) <| zslN 10 <| kX1_lines_120 mc ms X Q
def kX1_lines_100 (mc ms : Nat) (X : Nat → zV) (Q : zQt) : zT :=
  zll 10 <| zll 10 <| zc (.int 8) <| zji (fun x y => (x.toUInt64 >>> (y.toInt64.toUInt64 &&& Int64.toUInt64 63)).toInt64) <| zjj (fun x y => x ||| y) <| zslN 10 <| kX1_lines_110 mc ms X Q
def kX1_lines_91 (mc ms : Nat) (X : Nat → zV) (Q : zQt) : zT :=
  zll 10 <| zll 10 <| zc (.int 4) <| zji (fun x y => (x.toUInt64 >>> (y.toInt64.toUInt64 &&& Int64.toUInt64 63)).toInt64) <| zjj (fun x y => x ||| y) <| zslN 10 <| kX1_lines_100 mc ms X Q
def kX1_lines_82 (mc ms : Nat) (X : Nat → zV) (Q : zQt) : zT :=
  zll 10 <| zll 10 <| zc (.int 2) <| zji (fun x y => (x.toUInt64 >>> (y.toInt64.toUInt64 &&& Int64.toUInt64 63)).toInt64) <| zjj (fun x y => x ||| y) <| zslN 10 <| kX1_lines_91 mc ms X Q
def kX1_lines_67 (mc ms : Nat) (X : Nat → zV) (Q : zQt) : zT :=
  zll 12 <| zll 2 <| zjj (fun x y => x &&& y) <| zsl 10 <| zll 10 <| zll 10 <| zc (.int 1) <| zji (fun x y => (x.toUInt64 >>> (y.toInt64.toUInt64 &&& Int64.toUInt64 63)).toInt64) <| zjj (fun x y => x ||| y) <| zslN 10 <| kX1_lines_82 mc ms X Q
def kX1_lines_51 (mc ms : Nat) (X : Nat → zV) (Q : zQt) : zT :=
  zla 0 <| zgR 1 3 <| zli 7 <| zc (.int 4) <| zii (fun x y => x + y) <| zc (.int 64) <| zii (fun x y => x * y) <| zli 1 <| zii (fun x y => x + y) <| zall <| zslN 12 <| kX1_lines_67 mc ms X Q
def kX1_lines_30 (mc ms : Nat) (X : Nat → zV) (Q : zQt) : zT :=
  zll 8 <| zll 2 <| zjj (fun x y => x &&& y) <| zsl 10 <| zll 5 <| zll 8 <| zll 10 <| zll 10 <| zc (.long 1) <| zjj (fun x y => x - y) <| zjj (fun x y => x ^^^ y) <| zjj (fun x y => x &&& y) <| zjj (fun x y => x ||| y) <| zslN 5 <| kX1_lines_51 mc ms X Q
def aX1_lines_0 (mc ms : Nat) (X : Nat → zV) (Q : zQt) : zT :=
  zc (.long 0) <| zsl 5 <| zli 4 <| zsi 7 <| zj X 7 [0, 1, 2, 4, 5, 7]
def aX1_lines_7 (mc ms : Nat) (X : Nat → zV) (Q : zQt) : zT :=
  zli 7 <| zli 4 <| zc (.int 2) <| zii (fun x y => x + y) <| zic (fun x y => y ≤ x) (zll 5 <| zrl Q) <| zla 0 <| zgR 1 3 <| zli 7 <| zc (.int 64) <| zii (fun x y => x * y) <| zli 1 <| zii (fun x y => x + y) <| zall <| zslN 8 <| kX1_lines_30 mc ms X Q
def lvX1_lines : Nat → List Nat := fun L => match L with
  | 0 => [0, 1, 2, 4]
  | 7 => [0, 1, 2, 4, 5, 7]
  | _ => []
def wX1_lines : zSp := fun mc ms av M Q => ((zlay av).length ≤ 14 ∧ zpick (zlay av) [0, 1, 2, 4] = some av) ∧ ∀ X : Nat → zV, zin 14 [0, 1, 2, 4] (aX1_lines_0 mc ms X Q) X 0 → zin 14 [0, 1, 2, 4, 5, 7] (aX1_lines_7 mc ms X Q) X 7 → X 0 0 0 av [] M
set_option maxRecDepth 100000 in
set_option maxHeartbeats 4000000 in
theorem sX1_lines (l : Launch) (G : zG) : zSnd l G yX1_lines cX1_lines 14 (some .long) 0 0 wX1_lines := by
  refine zmk [0, 1, 2, 4] (by decide) (fun mc ms av M Q h => h.1) ?_
  intro p e R s m args below meth c mc ms av M Q hC hRf hRl hr hnm h lv hlv
  obtain ⟨X, hXe⟩ : ∃ X : Nat → zV, X = fun L u v vs st M => ∀ lv, zpick lv (lvX1_lines L) = some vs → zAt p l e R s m args below meth c (MQ below (zQ G Q) args s mc ms (zA G)) G 14 L u v lv st M := ⟨_, rfl⟩
  have hJ : ∀ L, zOk p l e R s m args below meth c (MQ below (zQ G Q) args s mc ms (zA G)) G 14 L (zj X L (lvX1_lines L)) := fun L => S_jump (fun u v lv vs st M hp hx => by rw [hXe] at hx; exact hx lv hp)
  have hB0 : zin 14 [0, 1, 2, 4] (aX1_lines_0 mc ms X Q) X 0 := by
    intro u v vs st M hb
    rw [hXe]
    refine fun lv hp => S_block (L := 0) (live := [0, 1, 2, 4]) ?_ u v lv vs st M hp hb
    unfold aX1_lines_0
    refine S_lconst (pc := 0) hC dX1_lines_0 (by decide) ?_
    refine S_lstore (pc := 1) hC dX1_lines_1 (by decide) ?_
    refine S_iload (pc := 3) hC dX1_lines_3 ?_
    refine S_istore (pc := 5) hC dX1_lines_5 (by decide) ?_
    exact hJ 7
  have hB7 : zin 14 [0, 1, 2, 4, 5, 7] (aX1_lines_7 mc ms X Q) X 7 := by
    intro u v vs st M hb
    rw [hXe]
    refine fun lv hp => S_block (L := 7) (live := [0, 1, 2, 4, 5, 7]) ?_ u v lv vs st M hp hb
    unfold aX1_lines_7
    refine S_iload (pc := 7) hC dX1_lines_7 ?_
    refine S_iload (pc := 9) hC dX1_lines_9 ?_
    refine S_iconst (pc := 11) hC dX1_lines_11 (by decide) ?_
    refine S_iadd (pc := 12) hC dX1_lines_12 ?_
    refine S_icmp_ge (pc := 13) (tgt := 152) hC dX1_lines_13 (by decide) ?_ ?_
    · refine S_lload (pc := 152) hC dX1_lines_152 ?_
      exact S_lreturn (pc := 154) hC hr dX1_lines_154
    · refine S_aload_n (pc := 16) hC dX1_lines_16 rfl ?_
      refine S_getR (pc := 17) hC cfX1 (by decide) (Or.inr ⟨_, rfl⟩) wd_68 dX1_lines_17 ?_
      refine S_iload (pc := 20) hC dX1_lines_20 ?_
      refine S_bipush (pc := 22) hC dX1_lines_22 (by decide) ?_
      refine S_imul (pc := 24) hC dX1_lines_24 ?_
      refine S_iload_n (pc := 25) hC dX1_lines_25 rfl ?_
      refine S_iadd (pc := 26) hC dX1_lines_26 ?_
      refine S_laload (pc := 27) hC dX1_lines_27 ?_
      refine S_lstore_N (pc := 28) hC dX1_lines_28 (by decide) ?_
      unfold kX1_lines_30
      refine S_lload (pc := 30) hC dX1_lines_30 ?_
      refine S_lload_n (pc := 32) hC dX1_lines_32 rfl ?_
      refine S_land (pc := 33) hC dX1_lines_33 ?_
      refine S_lstore (pc := 34) hC dX1_lines_34 (by decide) ?_
      refine S_lload (pc := 36) hC dX1_lines_36 ?_
      refine S_lload (pc := 38) hC dX1_lines_38 ?_
      refine S_lload (pc := 40) hC dX1_lines_40 ?_
      refine S_lload (pc := 42) hC dX1_lines_42 ?_
      refine S_lconst (pc := 44) hC dX1_lines_44 (by decide) ?_
      refine S_lsub (pc := 45) hC dX1_lines_45 ?_
      refine S_lxor (pc := 46) hC dX1_lines_46 ?_
      refine S_land (pc := 47) hC dX1_lines_47 ?_
      refine S_lor (pc := 48) hC dX1_lines_48 ?_
      refine S_lstore_N (pc := 49) hC dX1_lines_49 (by decide) ?_
      unfold kX1_lines_51
      refine S_aload_n (pc := 51) hC dX1_lines_51 rfl ?_
      refine S_getR (pc := 52) hC cfX1 (by decide) (Or.inr ⟨_, rfl⟩) wd_68 dX1_lines_52 ?_
      refine S_iload (pc := 55) hC dX1_lines_55 ?_
      refine S_iconst (pc := 57) hC dX1_lines_57 (by decide) ?_
      refine S_iadd (pc := 58) hC dX1_lines_58 ?_
      refine S_bipush (pc := 59) hC dX1_lines_59 (by decide) ?_
      refine S_imul (pc := 61) hC dX1_lines_61 ?_
      refine S_iload_n (pc := 62) hC dX1_lines_62 rfl ?_
      refine S_iadd (pc := 63) hC dX1_lines_63 ?_
      refine S_laload (pc := 64) hC dX1_lines_64 ?_
      refine S_lstore_N (pc := 65) hC dX1_lines_65 (by decide) ?_
      unfold kX1_lines_67
      refine S_lload (pc := 67) hC dX1_lines_67 ?_
      refine S_lload_n (pc := 69) hC dX1_lines_69 rfl ?_
      refine S_land (pc := 70) hC dX1_lines_70 ?_
      refine S_lstore (pc := 71) hC dX1_lines_71 (by decide) ?_
      refine S_lload (pc := 73) hC dX1_lines_73 ?_
      refine S_lload (pc := 75) hC dX1_lines_75 ?_
      refine S_iconst (pc := 77) hC dX1_lines_77 (by decide) ?_
      refine S_lushr (pc := 78) hC dX1_lines_78 ?_
      refine S_lor (pc := 79) hC dX1_lines_79 ?_
      refine S_lstore_N (pc := 80) hC dX1_lines_80 (by decide) ?_
      unfold kX1_lines_82
      refine S_lload (pc := 82) hC dX1_lines_82 ?_
      refine S_lload (pc := 84) hC dX1_lines_84 ?_
      refine S_iconst (pc := 86) hC dX1_lines_86 (by decide) ?_
      refine S_lushr (pc := 87) hC dX1_lines_87 ?_
      refine S_lor (pc := 88) hC dX1_lines_88 ?_
      refine S_lstore_N (pc := 89) hC dX1_lines_89 (by decide) ?_
      unfold kX1_lines_91
      refine S_lload (pc := 91) hC dX1_lines_91 ?_
      refine S_lload (pc := 93) hC dX1_lines_93 ?_
      refine S_iconst (pc := 95) hC dX1_lines_95 (by decide) ?_
      refine S_lushr (pc := 96) hC dX1_lines_96 ?_
      refine S_lor (pc := 97) hC dX1_lines_97 ?_
      refine S_lstore_N (pc := 98) hC dX1_lines_98 (by decide) ?_
      unfold kX1_lines_100
      refine S_lload (pc := 100) hC dX1_lines_100 ?_
      refine S_lload (pc := 102) hC dX1_lines_102 ?_
      refine S_bipush (pc := 104) hC dX1_lines_104 (by decide) ?_
      refine S_lushr (pc := 106) hC dX1_lines_106 ?_
      refine S_lor (pc := 107) hC dX1_lines_107 ?_
      refine S_lstore_N (pc := 108) hC dX1_lines_108 (by decide) ?_
      unfold kX1_lines_110
      refine S_lload (pc := 110) hC dX1_lines_110 ?_
      refine S_lload (pc := 112) hC dX1_lines_112 ?_
      refine S_bipush (pc := 114) hC dX1_lines_114 (by decide) ?_
      refine S_lushr (pc := 116) hC dX1_lines_116 ?_
      refine S_lor (pc := 117) hC dX1_lines_117 ?_
      refine S_lstore_N (pc := 118) hC dX1_lines_118 (by decide) ?_
      unfold kX1_lines_120
      refine S_lload (pc := 120) hC dX1_lines_120 ?_
      refine S_lload (pc := 122) hC dX1_lines_122 ?_
      refine S_bipush (pc := 124) hC dX1_lines_124 (by decide) ?_
      refine S_lushr (pc := 126) hC dX1_lines_126 ?_
      refine S_lor (pc := 127) hC dX1_lines_127 ?_
      refine S_lstore_N (pc := 128) hC dX1_lines_128 (by decide) ?_
      unfold kX1_lines_130
      refine S_lload (pc := 130) hC dX1_lines_130 ?_
      refine S_lload (pc := 132) hC dX1_lines_132 ?_
      refine S_lload (pc := 134) hC dX1_lines_134 ?_
      refine S_iconst (pc := 136) hC dX1_lines_136 (by decide) ?_
      refine S_lushr (pc := 137) hC dX1_lines_137 ?_
      refine S_ldc2 (pc := 138) hC wd_455 dX1_lines_138 ?_
      refine S_lxor (pc := 141) hC dX1_lines_141 ?_
      refine S_land (pc := 142) hC dX1_lines_142 ?_
      refine S_lor (pc := 143) hC dX1_lines_143 ?_
      refine S_lstore_N (pc := 144) hC dX1_lines_144 (by decide) ?_
      unfold kX1_lines_146
      refine S_iinc (pc := 146) hC dX1_lines_146 (by decide) (by decide) ?_
      refine S_goto (pc := 149) (tgt := 7) hC dX1_lines_149 (by decide) ?_
      exact hJ 7
  have := h.2 X hB0 hB7
  rw [hXe] at this
  exact this lv hlv
theorem vX1_lines_0 {mc ms : Nat} {X : Nat → zV} {Q : zQt} {M : zM} {g : Nat} {x1 : Int32} {x2 : Int64} {x4 : Int32} (hW : zWd M g)  (h : X 7 0 0 [.ref 17, .int x1, .long x2, .int x4, .long 0, .int x4] [] M) : aX1_lines_0 mc ms X Q 0 0 [some (.ref 17), some (.int x1), some (.long x2), none, some (.int x4), none, none, none, none, none, none, none, none, none] [] M := h
theorem vcX1_lines_146 {mc ms : Nat} {X : Nat → zV} {Q : zQt} {M : zM} {g : Nat} {x1 : Int32} {x2 : Int64} {x4 : Int32} {x5 : Int64} {x7 : Int32} {x8 : Int64} {x10 : Int64} {x12 : Int64} (hW : zWd M g)  (h : X 7 0 0 [.ref 17, .int x1, .long x2, .int x4, .long x5, .int (x7 + 1)] [] M) : kX1_lines_146 mc ms X Q 0 0 [some (.ref 17), some (.int x1), some (.long x2), none, some (.int x4), some (.long x5), none, some (.int x7), some (.long x8), none, some (.long x10), none, some (.long x12), none] [] M := h
theorem vcX1_lines_130 {mc ms : Nat} {X : Nat → zV} {Q : zQt} {M : zM} {g : Nat} {x1 : Int32} {x2 : Int64} {x4 : Int32} {x5 : Int64} {x7 : Int32} {x8 : Int64} {x10 : Int64} {x12 : Int64} (hW : zWd M g)  (h : ∀ y144 : Int64, y144 = (x5 ||| (x12 &&& (((x10.toUInt64 >>> ((1 : Int32).toInt64.toUInt64 &&& Int64.toUInt64 63)).toInt64) ^^^ ((-1) : Int64)))) → X 7 0 0 [.ref 17, .int x1, .long x2, .int x4, .long y144, .int (x7 + 1)] [] M) : kX1_lines_130 mc ms X Q 0 0 [some (.ref 17), some (.int x1), some (.long x2), none, some (.int x4), some (.long x5), none, some (.int x7), some (.long x8), none, some (.long x10), none, some (.long x12), none] [] M := (fun y144 e144 => have h144 := h y144 e144; (vcX1_lines_146 hW  h144))
theorem vcX1_lines_120 {mc ms : Nat} {X : Nat → zV} {Q : zQt} {M : zM} {g : Nat} {x1 : Int32} {x2 : Int64} {x4 : Int32} {x5 : Int64} {x7 : Int32} {x8 : Int64} {x10 : Int64} {x12 : Int64} (hW : zWd M g)  (h : ∀ y128 : Int64, y128 = (x10 ||| ((x10.toUInt64 >>> ((32 : Int32).toInt64.toUInt64 &&& Int64.toUInt64 63)).toInt64)) → ∀ y144 : Int64, y144 = (x5 ||| (x12 &&& (((y128.toUInt64 >>> ((1 : Int32).toInt64.toUInt64 &&& Int64.toUInt64 63)).toInt64) ^^^ ((-1) : Int64)))) → X 7 0 0 [.ref 17, .int x1, .long x2, .int x4, .long y144, .int (x7 + 1)] [] M) : kX1_lines_120 mc ms X Q 0 0 [some (.ref 17), some (.int x1), some (.long x2), none, some (.int x4), some (.long x5), none, some (.int x7), some (.long x8), none, some (.long x10), none, some (.long x12), none] [] M := (fun y128 e128 => have h128 := h y128 e128; (vcX1_lines_130 hW  h128))
theorem vcX1_lines_110 {mc ms : Nat} {X : Nat → zV} {Q : zQt} {M : zM} {g : Nat} {x1 : Int32} {x2 : Int64} {x4 : Int32} {x5 : Int64} {x7 : Int32} {x8 : Int64} {x10 : Int64} {x12 : Int64} (hW : zWd M g)  (h : ∀ y118 : Int64, y118 = (x10 ||| ((x10.toUInt64 >>> ((16 : Int32).toInt64.toUInt64 &&& Int64.toUInt64 63)).toInt64)) → ∀ y128 : Int64, y128 = (y118 ||| ((y118.toUInt64 >>> ((32 : Int32).toInt64.toUInt64 &&& Int64.toUInt64 63)).toInt64)) → ∀ y144 : Int64, y144 = (x5 ||| (x12 &&& (((y128.toUInt64 >>> ((1 : Int32).toInt64.toUInt64 &&& Int64.toUInt64 63)).toInt64) ^^^ ((-1) : Int64)))) → X 7 0 0 [.ref 17, .int x1, .long x2, .int x4, .long y144, .int (x7 + 1)] [] M) : kX1_lines_110 mc ms X Q 0 0 [some (.ref 17), some (.int x1), some (.long x2), none, some (.int x4), some (.long x5), none, some (.int x7), some (.long x8), none, some (.long x10), none, some (.long x12), none] [] M := (fun y118 e118 => have h118 := h y118 e118; (vcX1_lines_120 hW  h118))
theorem vcX1_lines_100 {mc ms : Nat} {X : Nat → zV} {Q : zQt} {M : zM} {g : Nat} {x1 : Int32} {x2 : Int64} {x4 : Int32} {x5 : Int64} {x7 : Int32} {x8 : Int64} {x10 : Int64} {x12 : Int64} (hW : zWd M g)  (h : ∀ y108 : Int64, y108 = (x10 ||| ((x10.toUInt64 >>> ((8 : Int32).toInt64.toUInt64 &&& Int64.toUInt64 63)).toInt64)) → ∀ y118 : Int64, y118 = (y108 ||| ((y108.toUInt64 >>> ((16 : Int32).toInt64.toUInt64 &&& Int64.toUInt64 63)).toInt64)) → ∀ y128 : Int64, y128 = (y118 ||| ((y118.toUInt64 >>> ((32 : Int32).toInt64.toUInt64 &&& Int64.toUInt64 63)).toInt64)) → ∀ y144 : Int64, y144 = (x5 ||| (x12 &&& (((y128.toUInt64 >>> ((1 : Int32).toInt64.toUInt64 &&& Int64.toUInt64 63)).toInt64) ^^^ ((-1) : Int64)))) → X 7 0 0 [.ref 17, .int x1, .long x2, .int x4, .long y144, .int (x7 + 1)] [] M) : kX1_lines_100 mc ms X Q 0 0 [some (.ref 17), some (.int x1), some (.long x2), none, some (.int x4), some (.long x5), none, some (.int x7), some (.long x8), none, some (.long x10), none, some (.long x12), none] [] M := (fun y108 e108 => have h108 := h y108 e108; (vcX1_lines_110 hW  h108))
theorem vcX1_lines_91 {mc ms : Nat} {X : Nat → zV} {Q : zQt} {M : zM} {g : Nat} {x1 : Int32} {x2 : Int64} {x4 : Int32} {x5 : Int64} {x7 : Int32} {x8 : Int64} {x10 : Int64} {x12 : Int64} (hW : zWd M g)  (h : ∀ y98 : Int64, y98 = (x10 ||| ((x10.toUInt64 >>> ((4 : Int32).toInt64.toUInt64 &&& Int64.toUInt64 63)).toInt64)) → ∀ y108 : Int64, y108 = (y98 ||| ((y98.toUInt64 >>> ((8 : Int32).toInt64.toUInt64 &&& Int64.toUInt64 63)).toInt64)) → ∀ y118 : Int64, y118 = (y108 ||| ((y108.toUInt64 >>> ((16 : Int32).toInt64.toUInt64 &&& Int64.toUInt64 63)).toInt64)) → ∀ y128 : Int64, y128 = (y118 ||| ((y118.toUInt64 >>> ((32 : Int32).toInt64.toUInt64 &&& Int64.toUInt64 63)).toInt64)) → ∀ y144 : Int64, y144 = (x5 ||| (x12 &&& (((y128.toUInt64 >>> ((1 : Int32).toInt64.toUInt64 &&& Int64.toUInt64 63)).toInt64) ^^^ ((-1) : Int64)))) → X 7 0 0 [.ref 17, .int x1, .long x2, .int x4, .long y144, .int (x7 + 1)] [] M) : kX1_lines_91 mc ms X Q 0 0 [some (.ref 17), some (.int x1), some (.long x2), none, some (.int x4), some (.long x5), none, some (.int x7), some (.long x8), none, some (.long x10), none, some (.long x12), none] [] M := (fun y98 e98 => have h98 := h y98 e98; (vcX1_lines_100 hW  h98))
theorem vcX1_lines_82 {mc ms : Nat} {X : Nat → zV} {Q : zQt} {M : zM} {g : Nat} {x1 : Int32} {x2 : Int64} {x4 : Int32} {x5 : Int64} {x7 : Int32} {x8 : Int64} {x10 : Int64} {x12 : Int64} (hW : zWd M g)  (h : ∀ y89 : Int64, y89 = (x10 ||| ((x10.toUInt64 >>> ((2 : Int32).toInt64.toUInt64 &&& Int64.toUInt64 63)).toInt64)) → ∀ y98 : Int64, y98 = (y89 ||| ((y89.toUInt64 >>> ((4 : Int32).toInt64.toUInt64 &&& Int64.toUInt64 63)).toInt64)) → ∀ y108 : Int64, y108 = (y98 ||| ((y98.toUInt64 >>> ((8 : Int32).toInt64.toUInt64 &&& Int64.toUInt64 63)).toInt64)) → ∀ y118 : Int64, y118 = (y108 ||| ((y108.toUInt64 >>> ((16 : Int32).toInt64.toUInt64 &&& Int64.toUInt64 63)).toInt64)) → ∀ y128 : Int64, y128 = (y118 ||| ((y118.toUInt64 >>> ((32 : Int32).toInt64.toUInt64 &&& Int64.toUInt64 63)).toInt64)) → ∀ y144 : Int64, y144 = (x5 ||| (x12 &&& (((y128.toUInt64 >>> ((1 : Int32).toInt64.toUInt64 &&& Int64.toUInt64 63)).toInt64) ^^^ ((-1) : Int64)))) → X 7 0 0 [.ref 17, .int x1, .long x2, .int x4, .long y144, .int (x7 + 1)] [] M) : kX1_lines_82 mc ms X Q 0 0 [some (.ref 17), some (.int x1), some (.long x2), none, some (.int x4), some (.long x5), none, some (.int x7), some (.long x8), none, some (.long x10), none, some (.long x12), none] [] M := (fun y89 e89 => have h89 := h y89 e89; (vcX1_lines_91 hW  h89))
theorem vcX1_lines_67 {mc ms : Nat} {X : Nat → zV} {Q : zQt} {M : zM} {g : Nat} {x1 : Int32} {x2 : Int64} {x4 : Int32} {x5 : Int64} {x7 : Int32} {x8 : Int64} {x10 : Int64} {x12 : Int64} (hW : zWd M g)  (h : ∀ y80 : Int64, y80 = ((x12 &&& x2) ||| (((x12 &&& x2).toUInt64 >>> ((1 : Int32).toInt64.toUInt64 &&& Int64.toUInt64 63)).toInt64)) → ∀ y89 : Int64, y89 = (y80 ||| ((y80.toUInt64 >>> ((2 : Int32).toInt64.toUInt64 &&& Int64.toUInt64 63)).toInt64)) → ∀ y98 : Int64, y98 = (y89 ||| ((y89.toUInt64 >>> ((4 : Int32).toInt64.toUInt64 &&& Int64.toUInt64 63)).toInt64)) → ∀ y108 : Int64, y108 = (y98 ||| ((y98.toUInt64 >>> ((8 : Int32).toInt64.toUInt64 &&& Int64.toUInt64 63)).toInt64)) → ∀ y118 : Int64, y118 = (y108 ||| ((y108.toUInt64 >>> ((16 : Int32).toInt64.toUInt64 &&& Int64.toUInt64 63)).toInt64)) → ∀ y128 : Int64, y128 = (y118 ||| ((y118.toUInt64 >>> ((32 : Int32).toInt64.toUInt64 &&& Int64.toUInt64 63)).toInt64)) → ∀ y144 : Int64, y144 = (x5 ||| (x12 &&& (((y128.toUInt64 >>> ((1 : Int32).toInt64.toUInt64 &&& Int64.toUInt64 63)).toInt64) ^^^ ((-1) : Int64)))) → X 7 0 0 [.ref 17, .int x1, .long x2, .int x4, .long y144, .int (x7 + 1)] [] M) : kX1_lines_67 mc ms X Q 0 0 [some (.ref 17), some (.int x1), some (.long x2), none, some (.int x4), some (.long x5), none, some (.int x7), some (.long x8), none, some (.long x10), none, some (.long x12), none] [] M := (fun y80 e80 => have h80 := h y80 e80; (vcX1_lines_82 hW  h80))
theorem vcX1_lines_51 {mc ms : Nat} {X : Nat → zV} {Q : zQt} {M : zM} {g : Nat} {x1 : Int32} {x2 : Int64} {x4 : Int32} {x5 : Int64} {x7 : Int32} {x8 : Int64} {x10 : Int64} (hW : zWd M g)  (h : vp_in ((((x7 + (4 : Int32)) * (64 : Int32)) + x1)) 512 ∧ ∀ y65 : Int64, y65 = ((M : zM).2.1 21 ((((x7 + (4 : Int32)) * (64 : Int32)) + x1) : Int32).toNatClampNeg) → ∀ y80 : Int64, y80 = ((y65 &&& x2) ||| (((y65 &&& x2).toUInt64 >>> ((1 : Int32).toInt64.toUInt64 &&& Int64.toUInt64 63)).toInt64)) → ∀ y89 : Int64, y89 = (y80 ||| ((y80.toUInt64 >>> ((2 : Int32).toInt64.toUInt64 &&& Int64.toUInt64 63)).toInt64)) → ∀ y98 : Int64, y98 = (y89 ||| ((y89.toUInt64 >>> ((4 : Int32).toInt64.toUInt64 &&& Int64.toUInt64 63)).toInt64)) → ∀ y108 : Int64, y108 = (y98 ||| ((y98.toUInt64 >>> ((8 : Int32).toInt64.toUInt64 &&& Int64.toUInt64 63)).toInt64)) → ∀ y118 : Int64, y118 = (y108 ||| ((y108.toUInt64 >>> ((16 : Int32).toInt64.toUInt64 &&& Int64.toUInt64 63)).toInt64)) → ∀ y128 : Int64, y128 = (y118 ||| ((y118.toUInt64 >>> ((32 : Int32).toInt64.toUInt64 &&& Int64.toUInt64 63)).toInt64)) → ∀ y144 : Int64, y144 = (x5 ||| (y65 &&& (((y128.toUInt64 >>> ((1 : Int32).toInt64.toUInt64 &&& Int64.toUInt64 63)).toInt64) ^^^ ((-1) : Int64)))) → X 7 0 0 [.ref 17, .int x1, .long x2, .int x4, .long y144, .int (x7 + 1)] [] M) : kX1_lines_51 mc ms X Q 0 0 [some (.ref 17), some (.int x1), some (.long x2), none, some (.int x4), some (.long x5), none, some (.int x7), some (.long x8), none, some (.long x10), none, none, none] [] M := ⟨(fxs_17 hW.1), 21, (fxr_17_3 hW.1), ⟨512, (fxs_21 hW.1), h.1, (fun y65 e65 => have h65 := h.2 y65 e65; (vcX1_lines_67 hW  h65))⟩⟩
theorem vcX1_lines_30 {mc ms : Nat} {X : Nat → zV} {Q : zQt} {M : zM} {g : Nat} {x1 : Int32} {x2 : Int64} {x4 : Int32} {x5 : Int64} {x7 : Int32} {x8 : Int64} (hW : zWd M g)  (h : ∀ y49 : Int64, y49 = (x5 ||| (x8 &&& ((x8 &&& x2) ^^^ ((x8 &&& x2) - (1 : Int64))))) → vp_in ((((x7 + (4 : Int32)) * (64 : Int32)) + x1)) 512 ∧ ∀ y65 : Int64, y65 = ((M : zM).2.1 21 ((((x7 + (4 : Int32)) * (64 : Int32)) + x1) : Int32).toNatClampNeg) → ∀ y80 : Int64, y80 = ((y65 &&& x2) ||| (((y65 &&& x2).toUInt64 >>> ((1 : Int32).toInt64.toUInt64 &&& Int64.toUInt64 63)).toInt64)) → ∀ y89 : Int64, y89 = (y80 ||| ((y80.toUInt64 >>> ((2 : Int32).toInt64.toUInt64 &&& Int64.toUInt64 63)).toInt64)) → ∀ y98 : Int64, y98 = (y89 ||| ((y89.toUInt64 >>> ((4 : Int32).toInt64.toUInt64 &&& Int64.toUInt64 63)).toInt64)) → ∀ y108 : Int64, y108 = (y98 ||| ((y98.toUInt64 >>> ((8 : Int32).toInt64.toUInt64 &&& Int64.toUInt64 63)).toInt64)) → ∀ y118 : Int64, y118 = (y108 ||| ((y108.toUInt64 >>> ((16 : Int32).toInt64.toUInt64 &&& Int64.toUInt64 63)).toInt64)) → ∀ y128 : Int64, y128 = (y118 ||| ((y118.toUInt64 >>> ((32 : Int32).toInt64.toUInt64 &&& Int64.toUInt64 63)).toInt64)) → ∀ y144 : Int64, y144 = (y49 ||| (y65 &&& (((y128.toUInt64 >>> ((1 : Int32).toInt64.toUInt64 &&& Int64.toUInt64 63)).toInt64) ^^^ ((-1) : Int64)))) → X 7 0 0 [.ref 17, .int x1, .long x2, .int x4, .long y144, .int (x7 + 1)] [] M) : kX1_lines_30 mc ms X Q 0 0 [some (.ref 17), some (.int x1), some (.long x2), none, some (.int x4), some (.long x5), none, some (.int x7), some (.long x8), none, none, none, none, none] [] M := (fun y49 e49 => have h49 := h y49 e49; (vcX1_lines_51 hW  h49))
theorem vX1_lines_7 {mc ms : Nat} {X : Nat → zV} {Q : zQt} {M : zM} {g : Nat} {x1 : Int32} {x2 : Int64} {x4 : Int32} {x5 : Int64} {x7 : Int32} (hW : zWd M g)  (h : ((x4 + (2 : Int32)) ≤ x7 → Q (some (.long x5)) M) ∧ (¬ (x4 + (2 : Int32)) ≤ x7 → vp_in (((x7 * (64 : Int32)) + x1)) 512 ∧ ∀ y28 : Int64, y28 = ((M : zM).2.1 21 (((x7 * (64 : Int32)) + x1) : Int32).toNatClampNeg) → ∀ y49 : Int64, y49 = (x5 ||| (y28 &&& ((y28 &&& x2) ^^^ ((y28 &&& x2) - (1 : Int64))))) → vp_in ((((x7 + (4 : Int32)) * (64 : Int32)) + x1)) 512 ∧ ∀ y65 : Int64, y65 = ((M : zM).2.1 21 ((((x7 + (4 : Int32)) * (64 : Int32)) + x1) : Int32).toNatClampNeg) → ∀ y80 : Int64, y80 = ((y65 &&& x2) ||| (((y65 &&& x2).toUInt64 >>> ((1 : Int32).toInt64.toUInt64 &&& Int64.toUInt64 63)).toInt64)) → ∀ y89 : Int64, y89 = (y80 ||| ((y80.toUInt64 >>> ((2 : Int32).toInt64.toUInt64 &&& Int64.toUInt64 63)).toInt64)) → ∀ y98 : Int64, y98 = (y89 ||| ((y89.toUInt64 >>> ((4 : Int32).toInt64.toUInt64 &&& Int64.toUInt64 63)).toInt64)) → ∀ y108 : Int64, y108 = (y98 ||| ((y98.toUInt64 >>> ((8 : Int32).toInt64.toUInt64 &&& Int64.toUInt64 63)).toInt64)) → ∀ y118 : Int64, y118 = (y108 ||| ((y108.toUInt64 >>> ((16 : Int32).toInt64.toUInt64 &&& Int64.toUInt64 63)).toInt64)) → ∀ y128 : Int64, y128 = (y118 ||| ((y118.toUInt64 >>> ((32 : Int32).toInt64.toUInt64 &&& Int64.toUInt64 63)).toInt64)) → ∀ y144 : Int64, y144 = (y49 ||| (y65 &&& (((y128.toUInt64 >>> ((1 : Int32).toInt64.toUInt64 &&& Int64.toUInt64 63)).toInt64) ^^^ ((-1) : Int64)))) → X 7 0 0 [.ref 17, .int x1, .long x2, .int x4, .long y144, .int (x7 + 1)] [] M)) : aX1_lines_7 mc ms X Q 0 0 [some (.ref 17), some (.int x1), some (.long x2), none, some (.int x4), some (.long x5), none, some (.int x7), none, none, none, none, none, none] [] M := ⟨fun c13 => (h.1 c13), fun c13 => ⟨(fxs_17 hW.1), 21, (fxr_17_3 hW.1), ⟨512, (fxs_21 hW.1), (h.2 c13).1, (fun y28 e28 => have h28 := (h.2 c13).2 y28 e28; (vcX1_lines_30 hW  h28))⟩⟩⟩
theorem dX2_init_0 : decode cX2_init 0 = .ok (.aload_n 0, 1) := by decide +kernel
theorem dX2_init_1 : decode cX2_init 1 = .ok (.invokespecial 5, 3) := by decide +kernel
theorem dX2_init_4 : decode cX2_init 4 = .ok (.aload_n 0, 1) := by decide +kernel
theorem dX2_init_5 : decode cX2_init 5 = .ok (.aload_n 1, 1) := by decide +kernel
theorem dX2_init_6 : decode cX2_init 6 = .ok (.putfield 11, 3) := by decide +kernel
theorem dX2_init_9 : decode cX2_init 9 = .ok (.aload_n 0, 1) := by decide +kernel
theorem dX2_init_10 : decode cX2_init 10 = .ok (.iload_n 2, 1) := by decide +kernel
theorem dX2_init_11 : decode cX2_init 11 = .ok (.putfield 15, 3) := by decide +kernel
theorem dX2_init_14 : decode cX2_init 14 = .ok (.aload_n 0, 1) := by decide +kernel
theorem dX2_init_15 : decode cX2_init 15 = .ok (.aload_n 3, 1) := by decide +kernel
theorem dX2_init_16 : decode cX2_init 16 = .ok (.putfield 19, 3) := by decide +kernel
theorem dX2_init_19 : decode cX2_init 19 = .ok (.aload_n 0, 1) := by decide +kernel
theorem dX2_init_20 : decode cX2_init 20 = .ok (.aload 4, 2) := by decide +kernel
theorem dX2_init_22 : decode cX2_init 22 = .ok (.putfield 23, 3) := by decide +kernel
theorem dX2_init_25 : decode cX2_init 25 = .ok (.aload_n 0, 1) := by decide +kernel
theorem dX2_init_26 : decode cX2_init 26 = .ok (.sipush 4096, 3) := by decide +kernel
theorem dX2_init_29 : decode cX2_init 29 = .ok (.newarray .long, 2) := by decide +kernel
theorem dX2_init_31 : decode cX2_init 31 = .ok (.putfield 26, 3) := by decide +kernel
theorem dX2_init_34 : decode cX2_init 34 = .ok (.aload_n 0, 1) := by decide +kernel
theorem dX2_init_35 : decode cX2_init 35 = .ok (.sipush 4096, 3) := by decide +kernel
theorem dX2_init_38 : decode cX2_init 38 = .ok (.newarray .long, 2) := by decide +kernel
theorem dX2_init_40 : decode cX2_init 40 = .ok (.putfield 30, 3) := by decide +kernel
theorem dX2_init_43 : decode cX2_init 43 = .ok (.aload_n 0, 1) := by decide +kernel
theorem dX2_init_44 : decode cX2_init 44 = .ok (.sipush 4096, 3) := by decide +kernel
theorem dX2_init_47 : decode cX2_init 47 = .ok (.newarray .long, 2) := by decide +kernel
theorem dX2_init_49 : decode cX2_init 49 = .ok (.putfield 33, 3) := by decide +kernel
theorem dX2_init_52 : decode cX2_init 52 = .ok (.aload_n 0, 1) := by decide +kernel
theorem dX2_init_53 : decode cX2_init 53 = .ok (.sipush 4096, 3) := by decide +kernel
theorem dX2_init_56 : decode cX2_init 56 = .ok (.newarray .long, 2) := by decide +kernel
theorem dX2_init_58 : decode cX2_init 58 = .ok (.putfield 36, 3) := by decide +kernel
theorem dX2_init_61 : decode cX2_init 61 = .ok (.aload_n 0, 1) := by decide +kernel
theorem dX2_init_62 : decode cX2_init 62 = .ok (.sipush 4096, 3) := by decide +kernel
theorem dX2_init_65 : decode cX2_init 65 = .ok (.newarray .long, 2) := by decide +kernel
theorem dX2_init_67 : decode cX2_init 67 = .ok (.putfield 39, 3) := by decide +kernel
theorem dX2_init_70 : decode cX2_init 70 = .ok (.aload_n 0, 1) := by decide +kernel
theorem dX2_init_71 : decode cX2_init 71 = .ok (.sipush 4096, 3) := by decide +kernel
theorem dX2_init_74 : decode cX2_init 74 = .ok (.newarray .long, 2) := by decide +kernel
theorem dX2_init_76 : decode cX2_init 76 = .ok (.putfield 42, 3) := by decide +kernel
theorem dX2_init_79 : decode cX2_init 79 = .ok (.aload_n 0, 1) := by decide +kernel
theorem dX2_init_80 : decode cX2_init 80 = .ok (.ldc 45, 2) := by decide +kernel
theorem dX2_init_82 : decode cX2_init 82 = .ok (.newarray .long, 2) := by decide +kernel
theorem dX2_init_84 : decode cX2_init 84 = .ok (.putfield 46, 3) := by decide +kernel
theorem dX2_init_87 : decode cX2_init 87 = .ok (.return_, 1) := by decide +kernel
def aX2_init_0 (mc ms : Nat) (X : Nat → zV) (Q : zQt) : zT :=
  zla 0 <| zoi <| zla 0 <| zla 1 <| zpr 2 0 <| zla 0 <| zli 2 <| zpi 2 1 <| zla 0 <| zla 3 <| zpr 2 2 <| zla 0 <| zla 4 <| zpr 2 3 <| zla 0 <| zc (.int 4096) <| zna mc ms 2 <| zpr 2 4 <| zla 0 <| zc (.int 4096) <| zna mc ms 2 <| zpr 2 5 <| zla 0 <| zc (.int 4096) <| zna mc ms 2 <| zpr 2 6 <| zla 0 <| zc (.int 4096) <| zna mc ms 2 <| zpr 2 7 <| zla 0 <| zc (.int 4096) <| zna mc ms 2 <| zpr 2 8 <| zla 0 <| zc (.int 4096) <| zna mc ms 2 <| zpr 2 9 <| zla 0 <| zc (.int 40960) <| zna mc ms 2 <| zpr 2 10 <| zrv Q
def lvX2_init : Nat → List Nat := fun L => match L with
  | 0 => [0, 1, 2, 3, 4]
  | _ => []
def wX2_init : zSp := fun mc ms av M Q => ((zlay av).length ≤ 5 ∧ zpick (zlay av) [0, 1, 2, 3, 4] = some av) ∧ ∀ X : Nat → zV, zin 5 [0, 1, 2, 3, 4] (aX2_init_0 mc ms X Q) X 0 → X 0 0 0 av [] M
set_option maxRecDepth 100000 in
set_option maxHeartbeats 4000000 in
theorem sX2_init (l : Launch) (G : zG) : zSnd l G yX2_init cX2_init 5 none 1 20 wX2_init := by
  refine zmk [0, 1, 2, 3, 4] (by decide) (fun mc ms av M Q h => h.1) ?_
  intro p e R s m args below meth c mc ms av M Q hC hRf hRl hr hnm h lv hlv
  obtain ⟨X, hXe⟩ : ∃ X : Nat → zV, X = fun L u v vs st M => ∀ lv, zpick lv (lvX2_init L) = some vs → zAt p l e R s m args below meth c (MQ below (zQ G Q) args s mc ms (zA G)) G 5 L u v lv st M := ⟨_, rfl⟩
  have hJ : ∀ L, zOk p l e R s m args below meth c (MQ below (zQ G Q) args s mc ms (zA G)) G 5 L (zj X L (lvX2_init L)) := fun L => S_jump (fun u v lv vs st M hp hx => by rw [hXe] at hx; exact hx lv hp)
  have hB0 : zin 5 [0, 1, 2, 3, 4] (aX2_init_0 mc ms X Q) X 0 := by
    intro u v vs st M hb
    rw [hXe]
    refine fun lv hp => S_block (L := 0) (live := [0, 1, 2, 3, 4]) ?_ u v lv vs st M hp hb
    unfold aX2_init_0
    refine S_aload_n (pc := 0) hC dX2_init_0 rfl ?_
    refine S_objInit (pc := 1) hC wd_1072 wd_35 wd_36 (by rw [hRf]; decide) (by rw [hRl]; decide) dX2_init_1 ?_
    refine S_aload_n (pc := 4) hC dX2_init_4 rfl ?_
    refine S_aload_n (pc := 5) hC dX2_init_5 rfl ?_
    refine S_putr (pc := 6) hC cfX2 (by decide) (Or.inl ⟨_, rfl⟩) (Or.inr ⟨rfl, hnm, rfl⟩) wd_1074 dX2_init_6 ?_
    refine S_aload_n (pc := 9) hC dX2_init_9 rfl ?_
    refine S_iload_n (pc := 10) hC dX2_init_10 rfl ?_
    refine S_puti (pc := 11) hC cfX2 (by decide) rfl (Or.inr ⟨rfl, hnm, rfl⟩) wd_1075 dX2_init_11 ?_
    refine S_aload_n (pc := 14) hC dX2_init_14 rfl ?_
    refine S_aload_n (pc := 15) hC dX2_init_15 rfl ?_
    refine S_putr (pc := 16) hC cfX2 (by decide) (Or.inl ⟨_, rfl⟩) (Or.inr ⟨rfl, hnm, rfl⟩) wd_1076 dX2_init_16 ?_
    refine S_aload_n (pc := 19) hC dX2_init_19 rfl ?_
    refine S_aload (pc := 20) hC dX2_init_20 ?_
    refine S_putr (pc := 22) hC cfX2 (by decide) (Or.inl ⟨_, rfl⟩) (Or.inr ⟨rfl, hnm, rfl⟩) wd_1077 dX2_init_22 ?_
    refine S_aload_n (pc := 25) hC dX2_init_25 rfl ?_
    refine S_sipush (pc := 26) hC dX2_init_26 (by decide) ?_
    refine S_newa_long (pc := 29) hC wd_88 dX2_init_29 ?_
    refine S_putr (pc := 31) hC cfX2 (by decide) (Or.inr ⟨_, rfl⟩) (Or.inr ⟨rfl, hnm, rfl⟩) wd_1078 dX2_init_31 ?_
    refine S_aload_n (pc := 34) hC dX2_init_34 rfl ?_
    refine S_sipush (pc := 35) hC dX2_init_35 (by decide) ?_
    refine S_newa_long (pc := 38) hC wd_88 dX2_init_38 ?_
    refine S_putr (pc := 40) hC cfX2 (by decide) (Or.inr ⟨_, rfl⟩) (Or.inr ⟨rfl, hnm, rfl⟩) wd_1079 dX2_init_40 ?_
    refine S_aload_n (pc := 43) hC dX2_init_43 rfl ?_
    refine S_sipush (pc := 44) hC dX2_init_44 (by decide) ?_
    refine S_newa_long (pc := 47) hC wd_88 dX2_init_47 ?_
    refine S_putr (pc := 49) hC cfX2 (by decide) (Or.inr ⟨_, rfl⟩) (Or.inr ⟨rfl, hnm, rfl⟩) wd_1080 dX2_init_49 ?_
    refine S_aload_n (pc := 52) hC dX2_init_52 rfl ?_
    refine S_sipush (pc := 53) hC dX2_init_53 (by decide) ?_
    refine S_newa_long (pc := 56) hC wd_88 dX2_init_56 ?_
    refine S_putr (pc := 58) hC cfX2 (by decide) (Or.inr ⟨_, rfl⟩) (Or.inr ⟨rfl, hnm, rfl⟩) wd_1081 dX2_init_58 ?_
    refine S_aload_n (pc := 61) hC dX2_init_61 rfl ?_
    refine S_sipush (pc := 62) hC dX2_init_62 (by decide) ?_
    refine S_newa_long (pc := 65) hC wd_88 dX2_init_65 ?_
    refine S_putr (pc := 67) hC cfX2 (by decide) (Or.inr ⟨_, rfl⟩) (Or.inr ⟨rfl, hnm, rfl⟩) wd_1082 dX2_init_67 ?_
    refine S_aload_n (pc := 70) hC dX2_init_70 rfl ?_
    refine S_sipush (pc := 71) hC dX2_init_71 (by decide) ?_
    refine S_newa_long (pc := 74) hC wd_88 dX2_init_74 ?_
    refine S_putr (pc := 76) hC cfX2 (by decide) (Or.inr ⟨_, rfl⟩) (Or.inr ⟨rfl, hnm, rfl⟩) wd_1083 dX2_init_76 ?_
    refine S_aload_n (pc := 79) hC dX2_init_79 rfl ?_
    refine S_ldc (pc := 80) hC wd_1073 dX2_init_80 ?_
    refine S_newa_long (pc := 82) hC wd_88 dX2_init_82 ?_
    refine S_putr (pc := 84) hC cfX2 (by decide) (Or.inr ⟨_, rfl⟩) (Or.inr ⟨rfl, hnm, rfl⟩) wd_1084 dX2_init_84 ?_
    exact S_vreturn (pc := 87) hC hr dX2_init_87
  have := h.2 X hB0
  rw [hXe] at this
  exact this lv hlv
theorem dX2_hitsOf_0 : decode cX2_hitsOf 0 = .ok (.aload_n 0, 1) := by decide +kernel
theorem dX2_hitsOf_1 : decode cX2_hitsOf 1 = .ok (.getfield 15, 3) := by decide +kernel
theorem dX2_hitsOf_4 : decode cX2_hitsOf 4 = .ok (.iconst 1, 1) := by decide +kernel
theorem dX2_hitsOf_5 : decode cX2_hitsOf 5 = .ok (.if_icmp .ne 13, 3) := by decide +kernel
theorem dX2_hitsOf_8 : decode cX2_hitsOf 8 = .ok (.aload_n 0, 1) := by decide +kernel
theorem dX2_hitsOf_9 : decode cX2_hitsOf 9 = .ok (.getfield 11, 3) := by decide +kernel
theorem dX2_hitsOf_12 : decode cX2_hitsOf 12 = .ok (.getfield 89, 3) := by decide +kernel
theorem dX2_hitsOf_15 : decode cX2_hitsOf 15 = .ok (.iload_n 1, 1) := by decide +kernel
theorem dX2_hitsOf_16 : decode cX2_hitsOf 16 = .ok (.laload, 1) := by decide +kernel
theorem dX2_hitsOf_17 : decode cX2_hitsOf 17 = .ok (.lreturn, 1) := by decide +kernel
theorem dX2_hitsOf_18 : decode cX2_hitsOf 18 = .ok (.aload_n 0, 1) := by decide +kernel
theorem dX2_hitsOf_19 : decode cX2_hitsOf 19 = .ok (.getfield 11, 3) := by decide +kernel
theorem dX2_hitsOf_22 : decode cX2_hitsOf 22 = .ok (.iload_n 1, 1) := by decide +kernel
theorem dX2_hitsOf_23 : decode cX2_hitsOf 23 = .ok (.lload_n 2, 1) := by decide +kernel
theorem dX2_hitsOf_24 : decode cX2_hitsOf 24 = .ok (.iconst 0, 1) := by decide +kernel
theorem dX2_hitsOf_25 : decode cX2_hitsOf 25 = .ok (.invokevirtual 92, 3) := by decide +kernel
theorem dX2_hitsOf_28 : decode cX2_hitsOf 28 = .ok (.lstore 4, 2) := by decide +kernel
theorem dX2_hitsOf_30 : decode cX2_hitsOf 30 = .ok (.aload_n 0, 1) := by decide +kernel
theorem dX2_hitsOf_31 : decode cX2_hitsOf 31 = .ok (.getfield 15, 3) := by decide +kernel
theorem dX2_hitsOf_34 : decode cX2_hitsOf 34 = .ok (.iconst 4, 1) := by decide +kernel
theorem dX2_hitsOf_35 : decode cX2_hitsOf 35 = .ok (.if_icmp .ne 8, 3) := by decide +kernel
theorem dX2_hitsOf_38 : decode cX2_hitsOf 38 = .ok (.lload 4, 2) := by decide +kernel
theorem dX2_hitsOf_40 : decode cX2_hitsOf 40 = .ok (.goto 16, 3) := by decide +kernel
theorem dX2_hitsOf_43 : decode cX2_hitsOf 43 = .ok (.lload 4, 2) := by decide +kernel
theorem dX2_hitsOf_45 : decode cX2_hitsOf 45 = .ok (.aload_n 0, 1) := by decide +kernel
theorem dX2_hitsOf_46 : decode cX2_hitsOf 46 = .ok (.getfield 11, 3) := by decide +kernel
theorem dX2_hitsOf_49 : decode cX2_hitsOf 49 = .ok (.iload_n 1, 1) := by decide +kernel
theorem dX2_hitsOf_50 : decode cX2_hitsOf 50 = .ok (.lload_n 2, 1) := by decide +kernel
theorem dX2_hitsOf_51 : decode cX2_hitsOf 51 = .ok (.iconst 2, 1) := by decide +kernel
theorem dX2_hitsOf_52 : decode cX2_hitsOf 52 = .ok (.invokevirtual 92, 3) := by decide +kernel
theorem dX2_hitsOf_55 : decode cX2_hitsOf 55 = .ok (.lor, 1) := by decide +kernel
theorem dX2_hitsOf_56 : decode cX2_hitsOf 56 = .ok (.lreturn, 1) := by decide +kernel
def kX2_hitsOf_55 (mc ms : Nat) (X : Nat → zV) (Q : zQt) : zT :=
  zjj (fun x y => x ||| y) <| zj X 56 []
def kX2_hitsOf_28 (mc ms : Nat) (X : Nat → zV) (Q : zQt) : zT :=
  zsl 4 <| zla 0 <| zgi 2 1 <| zc (.int 4) <| zic (fun x y => x = y) (zll 4 <| zj X 56 []) <| zll 4 <| zla 0 <| zgR 2 0 <| zli 1 <| zll 2 <| zc (.int 2) <| zcv mc ms 1 3 wX1_lines <| kX2_hitsOf_55 mc ms X Q
def aX2_hitsOf_0 (mc ms : Nat) (X : Nat → zV) (Q : zQt) : zT :=
  zla 0 <| zgi 2 1 <| zc (.int 1) <| zic (fun x y => x = y) (zla 0 <| zgR 2 0 <| zgR 1 2 <| zli 1 <| zall <| zrl Q) <| zla 0 <| zgR 2 0 <| zli 1 <| zll 2 <| zc (.int 0) <| zcv mc ms 1 3 wX1_lines <| kX2_hitsOf_28 mc ms X Q
def aX2_hitsOf_56 (mc ms : Nat) (X : Nat → zV) (Q : zQt) : zT :=
  zrl Q
def lvX2_hitsOf : Nat → List Nat := fun L => match L with
  | 0 => [0, 1, 2]
  | 56 => []
  | _ => []
def wX2_hitsOf : zSp := fun mc ms av M Q => ((zlay av).length ≤ 6 ∧ zpick (zlay av) [0, 1, 2] = some av) ∧ ∀ X : Nat → zV, zin 6 [0, 1, 2] (aX2_hitsOf_0 mc ms X Q) X 0 → zin 6 [] (aX2_hitsOf_56 mc ms X Q) X 56 → X 0 0 0 av [] M
set_option maxRecDepth 100000 in
set_option maxHeartbeats 4000000 in
theorem sX2_hitsOf (l : Launch) (G : zG) : zSnd l G yX2_hitsOf cX2_hitsOf 6 (some .long) 1 33 wX2_hitsOf := by
  refine zmk [0, 1, 2] (by decide) (fun mc ms av M Q h => h.1) ?_
  intro p e R s m args below meth c mc ms av M Q hC hRf hRl hr hnm h lv hlv
  obtain ⟨X, hXe⟩ : ∃ X : Nat → zV, X = fun L u v vs st M => ∀ lv, zpick lv (lvX2_hitsOf L) = some vs → zAt p l e R s m args below meth c (MQ below (zQ G Q) args s mc ms (zA G)) G 6 L u v lv st M := ⟨_, rfl⟩
  have hJ : ∀ L, zOk p l e R s m args below meth c (MQ below (zQ G Q) args s mc ms (zA G)) G 6 L (zj X L (lvX2_hitsOf L)) := fun L => S_jump (fun u v lv vs st M hp hx => by rw [hXe] at hx; exact hx lv hp)
  have hB0 : zin 6 [0, 1, 2] (aX2_hitsOf_0 mc ms X Q) X 0 := by
    intro u v vs st M hb
    rw [hXe]
    refine fun lv hp => S_block (L := 0) (live := [0, 1, 2]) ?_ u v lv vs st M hp hb
    unfold aX2_hitsOf_0
    refine S_aload_n (pc := 0) hC dX2_hitsOf_0 rfl ?_
    refine S_geti (pc := 1) hC cfX2 (by decide) (Or.inl rfl) wd_1075 dX2_hitsOf_1 ?_
    refine S_iconst (pc := 4) hC dX2_hitsOf_4 (by decide) ?_
    refine S_icmp_ne (pc := 5) (tgt := 18) hC dX2_hitsOf_5 (by decide) ?_ ?_
    · refine S_aload_n (pc := 18) hC dX2_hitsOf_18 rfl ?_
      refine S_getR (pc := 19) hC cfX2 (by decide) (Or.inl ⟨_, rfl⟩) wd_1074 dX2_hitsOf_19 ?_
      refine S_iload_n (pc := 22) hC dX2_hitsOf_22 rfl ?_
      refine S_lload_n (pc := 23) hC dX2_hitsOf_23 rfl ?_
      refine S_iconst (pc := 24) hC dX2_hitsOf_24 (by decide) ?_
      refine S_callV (pc := 25) hC (sX1_lines l G) rfl wd_1124 wd_452 wd_453 wd_2 wd_454 (by decide +kernel) ⟨by rw [hRf]; decide, by rw [hRl]; decide⟩ dX2_hitsOf_25 ?_
      unfold kX2_hitsOf_28
      refine S_lstore (pc := 28) hC dX2_hitsOf_28 (by decide) ?_
      refine S_aload_n (pc := 30) hC dX2_hitsOf_30 rfl ?_
      refine S_geti (pc := 31) hC cfX2 (by decide) (Or.inl rfl) wd_1075 dX2_hitsOf_31 ?_
      refine S_iconst (pc := 34) hC dX2_hitsOf_34 (by decide) ?_
      refine S_icmp_ne (pc := 35) (tgt := 43) hC dX2_hitsOf_35 (by decide) ?_ ?_
      · refine S_lload (pc := 43) hC dX2_hitsOf_43 ?_
        refine S_aload_n (pc := 45) hC dX2_hitsOf_45 rfl ?_
        refine S_getR (pc := 46) hC cfX2 (by decide) (Or.inl ⟨_, rfl⟩) wd_1074 dX2_hitsOf_46 ?_
        refine S_iload_n (pc := 49) hC dX2_hitsOf_49 rfl ?_
        refine S_lload_n (pc := 50) hC dX2_hitsOf_50 rfl ?_
        refine S_iconst (pc := 51) hC dX2_hitsOf_51 (by decide) ?_
        refine S_callV (pc := 52) hC (sX1_lines l G) rfl wd_1124 wd_452 wd_453 wd_2 wd_454 (by decide +kernel) ⟨by rw [hRf]; decide, by rw [hRl]; decide⟩ dX2_hitsOf_52 ?_
        unfold kX2_hitsOf_55
        refine S_lor (pc := 55) hC dX2_hitsOf_55 ?_
        exact hJ 56
      · refine S_lload (pc := 38) hC dX2_hitsOf_38 ?_
        refine S_goto (pc := 40) (tgt := 56) hC dX2_hitsOf_40 (by decide) ?_
        exact hJ 56
    · refine S_aload_n (pc := 8) hC dX2_hitsOf_8 rfl ?_
      refine S_getR (pc := 9) hC cfX2 (by decide) (Or.inl ⟨_, rfl⟩) wd_1074 dX2_hitsOf_9 ?_
      refine S_getR (pc := 12) hC cfX1 (by decide) (Or.inr ⟨_, rfl⟩) wd_65 dX2_hitsOf_12 ?_
      refine S_iload_n (pc := 15) hC dX2_hitsOf_15 rfl ?_
      refine S_laload (pc := 16) hC dX2_hitsOf_16 ?_
      exact S_lreturn (pc := 17) hC hr dX2_hitsOf_17
  have hB56 : zin 6 [] (aX2_hitsOf_56 mc ms X Q) X 56 := by
    intro u v vs st M hb
    rw [hXe]
    refine fun lv hp => S_block (L := 56) (live := []) ?_ u v lv vs st M hp hb
    unfold aX2_hitsOf_56
    exact S_lreturn (pc := 56) hC hr dX2_hitsOf_56
  have := h.2 X hB0 hB56
  rw [hXe] at this
  exact this lv hlv
theorem vX2_hitsOf_0 {mc ms : Nat} {X : Nat → zV} {Q : zQt} {M : zM} {g : Nat} {x0 : Nat} {x1 : Int32} {x2 : Int64} (hW : zWd M g) (hx0 : zsh M x0 = some (0, 2)) (h : ((M.1 x0 1) = (1 : Int32) → ∃ r9, ((M : zM).2.2.1 x0 0) = some r9 ∧ zsh M r9 = some (0, 1) ∧ ∃ r12 r12n, ((M : zM).2.2.1 r9 2) = some r12 ∧ zsh M r12 = some (2, r12n) ∧ vp_in x1 r12n ∧ Q (some (.long (((M : zM).2.1 r12 (x1 : Int32).toNatClampNeg)))) M) ∧ (¬ (M.1 x0 1) = (1 : Int32) → ∃ r19, ((M : zM).2.2.1 x0 0) = some r19 ∧ zsh M r19 = some (0, 1) ∧ wX1_lines 0 0 [.ref r19, .int x1, .long x2, .int 0] M (fun r M1 => kX2_hitsOf_28 mc ms X Q 0 0 [some (.ref x0), some (.int x1), some (.long x2), none, none, none] (r.toList ++ []) M1))) : aX2_hitsOf_0 mc ms X Q 0 0 [some (.ref x0), some (.int x1), some (.long x2), none, none, none] [] M := ⟨hx0, ⟨fun c5 => (let ⟨r9, q9, hr9, h9⟩ := (h.1 c5); ⟨hx0, r9, q9, (let ⟨r12, r12n, q12, hr12, h12⟩ := h9; ⟨hr9, r12, q12, ⟨r12n, hr12, h12.1, h12.2⟩⟩)⟩), fun c5 => (let ⟨r19, q19, hr19, h19⟩ := (h.2 c5); ⟨hx0, r19, q19, ⟨Nat.le_of_ble_eq_true rfl, rfl, hr19, 0, 0, Nat.zero_le _, Nat.zero_le _, h19⟩⟩)⟩⟩
theorem vX2_hitsOf_56 {mc ms : Nat} {X : Nat → zV} {Q : zQt} {M : zM} {g : Nat} {s0 : Int64} (hW : zWd M g)  (h : Q (some (.long s0)) M) : aX2_hitsOf_56 mc ms X Q 0 0 [none, none, none, none, none, none] [.long s0] M := h
theorem vkX2_hitsOf_28 {mc ms : Nat} {X : Nat → zV} {Q : zQt} {M : zM} {g : Nat} {x0 : Nat} {x1 : Int32} {x2 : Int64} {s0 : Int64} (hW : zWd M g) (hx0 : zsh M x0 = some (0, 2)) (h : ((M.1 x0 1) = (4 : Int32) → X 56 0 0 [] [.long s0] M) ∧ (¬ (M.1 x0 1) = (4 : Int32) → ∃ r46, ((M : zM).2.2.1 x0 0) = some r46 ∧ zsh M r46 = some (0, 1) ∧ wX1_lines 0 0 [.ref r46, .int x1, .long x2, .int 2] M (fun r M1 => kX2_hitsOf_55 mc ms X Q 0 0 [some (.ref x0), some (.int x1), some (.long x2), none, some (.long s0), none] (r.toList ++ [.long s0]) M1))) : kX2_hitsOf_28 mc ms X Q 0 0 [some (.ref x0), some (.int x1), some (.long x2), none, none, none] [.long s0] M := ⟨hx0, ⟨fun c35 => (h.1 c35), fun c35 => (let ⟨r46, q46, hr46, h46⟩ := (h.2 c35); ⟨hx0, r46, q46, ⟨Nat.le_of_ble_eq_true rfl, rfl, hr46, 0, 0, Nat.zero_le _, Nat.zero_le _, h46⟩⟩)⟩⟩
theorem vkX2_hitsOf_55 {mc ms : Nat} {X : Nat → zV} {Q : zQt} {M : zM} {g : Nat} {x0 : Nat} {x1 : Int32} {x2 : Int64} {x4 : Int64} {s0 : Int64} {s1 : Int64} (hW : zWd M g) (hx0 : zsh M x0 = some (0, 2)) (h : X 56 0 0 [] [.long (s1 ||| s0)] M) : kX2_hitsOf_55 mc ms X Q 0 0 [some (.ref x0), some (.int x1), some (.long x2), none, some (.long x4), none] [.long s0, .long s1] M := h
