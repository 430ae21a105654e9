theorem dX1_beside_0 : decode cX1_beside 0 = .ok (.iload_n 0, 1) := by decide +kernel
theorem dX1_beside_1 : decode cX1_beside 1 = .ok (.bipush 8, 2) := by decide +kernel
theorem dX1_beside_3 : decode cX1_beside 3 = .ok (.irem, 1) := by decide +kernel
theorem dX1_beside_4 : decode cX1_beside 4 = .ok (.iload_n 1, 1) := by decide +kernel
theorem dX1_beside_5 : decode cX1_beside 5 = .ok (.iadd, 1) := by decide +kernel
theorem dX1_beside_6 : decode cX1_beside 6 = .ok (.istore_n 3, 1) := by decide +kernel
theorem dX1_beside_7 : decode cX1_beside 7 = .ok (.iload_n 0, 1) := by decide +kernel
theorem dX1_beside_8 : decode cX1_beside 8 = .ok (.bipush 8, 2) := by decide +kernel
theorem dX1_beside_10 : decode cX1_beside 10 = .ok (.idiv, 1) := by decide +kernel
theorem dX1_beside_11 : decode cX1_beside 11 = .ok (.iload_n 2, 1) := by decide +kernel
theorem dX1_beside_12 : decode cX1_beside 12 = .ok (.iadd, 1) := by decide +kernel
theorem dX1_beside_13 : decode cX1_beside 13 = .ok (.istore 4, 2) := by decide +kernel
theorem dX1_beside_15 : decode cX1_beside 15 = .ok (.iload_n 3, 1) := by decide +kernel
theorem dX1_beside_16 : decode cX1_beside 16 = .ok (.ifCond .lt 21, 3) := by decide +kernel
theorem dX1_beside_19 : decode cX1_beside 19 = .ok (.iload_n 3, 1) := by decide +kernel
theorem dX1_beside_20 : decode cX1_beside 20 = .ok (.bipush 7, 2) := by decide +kernel
theorem dX1_beside_22 : decode cX1_beside 22 = .ok (.if_icmp .gt 15, 3) := by decide +kernel
theorem dX1_beside_25 : decode cX1_beside 25 = .ok (.iload 4, 2) := by decide +kernel
theorem dX1_beside_27 : decode cX1_beside 27 = .ok (.ifCond .lt 10, 3) := by decide +kernel
theorem dX1_beside_30 : decode cX1_beside 30 = .ok (.iload 4, 2) := by decide +kernel
theorem dX1_beside_32 : decode cX1_beside 32 = .ok (.bipush 7, 2) := by decide +kernel
theorem dX1_beside_34 : decode cX1_beside 34 = .ok (.if_icmp .le 7, 3) := by decide +kernel
theorem dX1_beside_37 : decode cX1_beside 37 = .ok (.lconst 0, 1) := by decide +kernel
theorem dX1_beside_38 : decode cX1_beside 38 = .ok (.goto 12, 3) := by decide +kernel
theorem dX1_beside_41 : decode cX1_beside 41 = .ok (.lconst 1, 1) := by decide +kernel
theorem dX1_beside_42 : decode cX1_beside 42 = .ok (.iload 4, 2) := by decide +kernel
theorem dX1_beside_44 : decode cX1_beside 44 = .ok (.bipush 8, 2) := by decide +kernel
theorem dX1_beside_46 : decode cX1_beside 46 = .ok (.imul, 1) := by decide +kernel
theorem dX1_beside_47 : decode cX1_beside 47 = .ok (.iload_n 3, 1) := by decide +kernel
theorem dX1_beside_48 : decode cX1_beside 48 = .ok (.iadd, 1) := by decide +kernel
theorem dX1_beside_49 : decode cX1_beside 49 = .ok (.lshl, 1) := by decide +kernel
theorem dX1_beside_50 : decode cX1_beside 50 = .ok (.lreturn, 1) := by decide +kernel
def kX1_beside_7 (mc ms : Nat) (X : Nat → zV) (Q : zQt) : zT :=
  zli 0 <| zc (.int 8) <| zid (fun x y => x / y) <| zli 2 <| zii (fun x y => x + y) <| zsi 4 <| zli 3 <| zif (fun x => x < 0) (zj X 37 []) <| zli 3 <| zc (.int 7) <| zic (fun x y => y < x) (zj X 37 []) <| zli 4 <| zif (fun x => x < 0) (zj X 37 []) <| zli 4 <| zc (.int 7) <| zic (fun x y => x ≤ y) (zc (.long 1) <| zli 4 <| zc (.int 8) <| zii (fun x y => x * y) <| zli 3 <| zii (fun x y => x + y) <| zji (fun x y => x <<< (y.toInt64 &&& 63)) <| zj X 50 []) <| zj X 37 []
def aX1_beside_0 (mc ms : Nat) (X : Nat → zV) (Q : zQt) : zT :=
  zli 0 <| zc (.int 8) <| zid (fun x y => x - x / y * y) <| zli 1 <| zii (fun x y => x + y) <| zsiN 3 <| kX1_beside_7 mc ms X Q
def aX1_beside_37 (mc ms : Nat) (X : Nat → zV) (Q : zQt) : zT :=
  zc (.long 0) <| zj X 50 []
def aX1_beside_50 (mc ms : Nat) (X : Nat → zV) (Q : zQt) : zT :=
  zrl Q
def lvX1_beside : Nat → List Nat := fun L => match L with
  | 0 => [0, 1, 2]
  | 37 => []
  | 50 => []
  | _ => []
def wX1_beside : zSp := fun mc ms av M Q => ((zlay av).length ≤ 5 ∧ zpick (zlay av) [0, 1, 2] = some av) ∧ ∀ X : Nat → zV, zin 5 [0, 1, 2] (aX1_beside_0 mc ms X Q) X 0 → zin 5 [] (aX1_beside_37 mc ms X Q) X 37 → zin 5 [] (aX1_beside_50 mc ms X Q) X 50 → X 0 0 0 av [] M
set_option maxRecDepth 100000 in
set_option maxHeartbeats 4000000 in
theorem sX1_beside (l : Launch) (G : zG) : zSnd l G yX1_beside cX1_beside 5 (some .long) 0 0 wX1_beside := by
  refine zmk [0, 1, 2] (by decide) (fun mc ms av M Q h => h.1) ?_
  intro p e R s m args below meth c mc ms av M Q hC hRf hRl hr hnm h lv hlv
  obtain ⟨X, hXe⟩ : ∃ X : Nat → zV, X = fun L u v vs st M => ∀ lv, zpick lv (lvX1_beside L) = some vs → zAt p l e R s m args below meth c (MQ below (zQ G Q) args s mc ms (zA G)) G 5 L u v lv st M := ⟨_, rfl⟩
  have hJ : ∀ L, zOk p l e R s m args below meth c (MQ below (zQ G Q) args s mc ms (zA G)) G 5 L (zj X L (lvX1_beside L)) := fun L => S_jump (fun u v lv vs st M hp hx => by rw [hXe] at hx; exact hx lv hp)
  have hB0 : zin 5 [0, 1, 2] (aX1_beside_0 mc ms X Q) X 0 := by
    intro u v vs st M hb
    rw [hXe]
    refine fun lv hp => S_block (L := 0) (live := [0, 1, 2]) ?_ u v lv vs st M hp hb
    unfold aX1_beside_0
    refine S_iload_n (pc := 0) hC dX1_beside_0 rfl ?_
    refine S_bipush (pc := 1) hC dX1_beside_1 (by decide) ?_
    refine S_irem (pc := 3) hC dX1_beside_3 ?_
    refine S_iload_n (pc := 4) hC dX1_beside_4 rfl ?_
    refine S_iadd (pc := 5) hC dX1_beside_5 ?_
    refine S_istore_n_N (pc := 6) hC dX1_beside_6 rfl (by decide) ?_
    unfold kX1_beside_7
    refine S_iload_n (pc := 7) hC dX1_beside_7 rfl ?_
    refine S_bipush (pc := 8) hC dX1_beside_8 (by decide) ?_
    refine S_idiv (pc := 10) hC dX1_beside_10 ?_
    refine S_iload_n (pc := 11) hC dX1_beside_11 rfl ?_
    refine S_iadd (pc := 12) hC dX1_beside_12 ?_
    refine S_istore (pc := 13) hC dX1_beside_13 (by decide) ?_
    refine S_iload_n (pc := 15) hC dX1_beside_15 rfl ?_
    refine S_if_lt (pc := 16) (tgt := 37) hC dX1_beside_16 (by decide) ?_ ?_
    · exact hJ 37
    · refine S_iload_n (pc := 19) hC dX1_beside_19 rfl ?_
      refine S_bipush (pc := 20) hC dX1_beside_20 (by decide) ?_
      refine S_icmp_gt (pc := 22) (tgt := 37) hC dX1_beside_22 (by decide) ?_ ?_
      · exact hJ 37
      · refine S_iload (pc := 25) hC dX1_beside_25 ?_
        refine S_if_lt (pc := 27) (tgt := 37) hC dX1_beside_27 (by decide) ?_ ?_
        · exact hJ 37
        · refine S_iload (pc := 30) hC dX1_beside_30 ?_
          refine S_bipush (pc := 32) hC dX1_beside_32 (by decide) ?_
          refine S_icmp_le (pc := 34) (tgt := 41) hC dX1_beside_34 (by decide) ?_ ?_
          · refine S_lconst (pc := 41) hC dX1_beside_41 (by decide) ?_
            refine S_iload (pc := 42) hC dX1_beside_42 ?_
            refine S_bipush (pc := 44) hC dX1_beside_44 (by decide) ?_
            refine S_imul (pc := 46) hC dX1_beside_46 ?_
            refine S_iload_n (pc := 47) hC dX1_beside_47 rfl ?_
            refine S_iadd (pc := 48) hC dX1_beside_48 ?_
            refine S_lshl (pc := 49) hC dX1_beside_49 ?_
            exact hJ 50
          · exact hJ 37
  have hB37 : zin 5 [] (aX1_beside_37 mc ms X Q) X 37 := by
    intro u v vs st M hb
    rw [hXe]
    refine fun lv hp => S_block (L := 37) (live := []) ?_ u v lv vs st M hp hb
    unfold aX1_beside_37
    refine S_lconst (pc := 37) hC dX1_beside_37 (by decide) ?_
    refine S_goto (pc := 38) (tgt := 50) hC dX1_beside_38 (by decide) ?_
    exact hJ 50
  have hB50 : zin 5 [] (aX1_beside_50 mc ms X Q) X 50 := by
    intro u v vs st M hb
    rw [hXe]
    refine fun lv hp => S_block (L := 50) (live := []) ?_ u v lv vs st M hp hb
    unfold aX1_beside_50
    exact S_lreturn (pc := 50) hC hr dX1_beside_50
  have := h.2 X hB0 hB37 hB50
  rw [hXe] at this
  exact this lv hlv
theorem vcX1_beside_7 {mc ms : Nat} {X : Nat → zV} {Q : zQt} {M : zM} {g : Nat} {x0 : Int32} {x1 : Int32} {x2 : Int32} {x3 : Int32} (hW : zWd M g)  (h : (x3 < 0 → X 37 0 0 [] [] M) ∧ (¬ x3 < 0 → ((7 : Int32) < x3 → X 37 0 0 [] [] M) ∧ (¬ (7 : Int32) < x3 → (((x0 / (8 : Int32)) + x2) < 0 → X 37 0 0 [] [] M) ∧ (¬ ((x0 / (8 : Int32)) + x2) < 0 → (((x0 / (8 : Int32)) + x2) ≤ (7 : Int32) → X 50 0 0 [] [.long ((1 : Int64) <<< (((((x0 / (8 : Int32)) + x2) * (8 : Int32)) + x3).toInt64 &&& 63))] M) ∧ (¬ ((x0 / (8 : Int32)) + x2) ≤ (7 : Int32) → X 37 0 0 [] [] M))))) : kX1_beside_7 mc ms X Q 0 0 [some (.int x0), some (.int x1), some (.int x2), some (.int x3), none] [] M := ⟨by decide, ⟨fun c16 => (h.1 c16), fun c16 => ⟨fun c22 => ((h.2 c16).1 c22), fun c22 => ⟨fun c27 => (((h.2 c16).2 c22).1 c27), fun c27 => ⟨fun c34 => ((((h.2 c16).2 c22).2 c27).1 c34), fun c34 => ((((h.2 c16).2 c22).2 c27).2 c34)⟩⟩⟩⟩⟩
theorem vX1_beside_0 {mc ms : Nat} {X : Nat → zV} {Q : zQt} {M : zM} {g : Nat} {x0 : Int32} {x1 : Int32} {x2 : Int32} (hW : zWd M g)  (h : ∀ y6 : Int32, y6 = ((x0 - x0 / (8 : Int32) * (8 : Int32)) + x1) → (y6 < 0 → X 37 0 0 [] [] M) ∧ (¬ y6 < 0 → ((7 : Int32) < y6 → X 37 0 0 [] [] M) ∧ (¬ (7 : Int32) < y6 → (((x0 / (8 : Int32)) + x2) < 0 → X 37 0 0 [] [] M) ∧ (¬ ((x0 / (8 : Int32)) + x2) < 0 → (((x0 / (8 : Int32)) + x2) ≤ (7 : Int32) → X 50 0 0 [] [.long ((1 : Int64) <<< (((((x0 / (8 : Int32)) + x2) * (8 : Int32)) + y6).toInt64 &&& 63))] M) ∧ (¬ ((x0 / (8 : Int32)) + x2) ≤ (7 : Int32) → X 37 0 0 [] [] M))))) : aX1_beside_0 mc ms X Q 0 0 [some (.int x0), some (.int x1), some (.int x2), none, none] [] M := ⟨by decide, (fun y6 e6 => have h6 := h y6 e6; (vcX1_beside_7 hW  h6))⟩
theorem vX1_beside_37 {mc ms : Nat} {X : Nat → zV} {Q : zQt} {M : zM} {g : Nat}  (hW : zWd M g)  (h : X 50 0 0 [] [.long 0] M) : aX1_beside_37 mc ms X Q 0 0 [none, none, none, none, none] [] M := h
theorem vX1_beside_50 {mc ms : Nat} {X : Nat → zV} {Q : zQt} {M : zM} {g : Nat} {s0 : Int64} (hW : zWd M g)  (h : Q (some (.long s0)) M) : aX1_beside_50 mc ms X Q 0 0 [none, none, none, none, none] [.long s0] M := h
theorem dX1_wholeRay_0 : decode cX1_wholeRay 0 = .ok (.lconst 0, 1) := by decide +kernel
theorem dX1_wholeRay_1 : decode cX1_wholeRay 1 = .ok (.lstore_n 2, 1) := by decide +kernel
theorem dX1_wholeRay_2 : decode cX1_wholeRay 2 = .ok (.iconst 1, 1) := by decide +kernel
theorem dX1_wholeRay_3 : decode cX1_wholeRay 3 = .ok (.istore 4, 2) := by decide +kernel
theorem dX1_wholeRay_5 : decode cX1_wholeRay 5 = .ok (.iload 4, 2) := by decide +kernel
theorem dX1_wholeRay_7 : decode cX1_wholeRay 7 = .ok (.bipush 8, 2) := by decide +kernel
theorem dX1_wholeRay_9 : decode cX1_wholeRay 9 = .ok (.if_icmp .ge 32, 3) := by decide +kernel
theorem dX1_wholeRay_12 : decode cX1_wholeRay 12 = .ok (.lload_n 2, 1) := by decide +kernel
theorem dX1_wholeRay_13 : decode cX1_wholeRay 13 = .ok (.iload_n 0, 1) := by decide +kernel
theorem dX1_wholeRay_14 : decode cX1_wholeRay 14 = .ok (.getstatic 39, 3) := by decide +kernel
theorem dX1_wholeRay_17 : decode cX1_wholeRay 17 = .ok (.iload_n 1, 1) := by decide +kernel
theorem dX1_wholeRay_18 : decode cX1_wholeRay 18 = .ok (.iaload, 1) := by decide +kernel
theorem dX1_wholeRay_19 : decode cX1_wholeRay 19 = .ok (.iload 4, 2) := by decide +kernel
theorem dX1_wholeRay_21 : decode cX1_wholeRay 21 = .ok (.imul, 1) := by decide +kernel
theorem dX1_wholeRay_22 : decode cX1_wholeRay 22 = .ok (.getstatic 42, 3) := by decide +kernel
theorem dX1_wholeRay_25 : decode cX1_wholeRay 25 = .ok (.iload_n 1, 1) := by decide +kernel
theorem dX1_wholeRay_26 : decode cX1_wholeRay 26 = .ok (.iaload, 1) := by decide +kernel
theorem dX1_wholeRay_27 : decode cX1_wholeRay 27 = .ok (.iload 4, 2) := by decide +kernel
theorem dX1_wholeRay_29 : decode cX1_wholeRay 29 = .ok (.imul, 1) := by decide +kernel
theorem dX1_wholeRay_30 : decode cX1_wholeRay 30 = .ok (.invokestatic 35, 3) := by decide +kernel
theorem dX1_wholeRay_33 : decode cX1_wholeRay 33 = .ok (.lor, 1) := by decide +kernel
theorem dX1_wholeRay_34 : decode cX1_wholeRay 34 = .ok (.lstore_n 2, 1) := by decide +kernel
theorem dX1_wholeRay_35 : decode cX1_wholeRay 35 = .ok (.iinc 4 1, 3) := by decide +kernel
theorem dX1_wholeRay_38 : decode cX1_wholeRay 38 = .ok (.goto (-33), 3) := by decide +kernel
theorem dX1_wholeRay_41 : decode cX1_wholeRay 41 = .ok (.lload_n 2, 1) := by decide +kernel
theorem dX1_wholeRay_42 : decode cX1_wholeRay 42 = .ok (.lreturn, 1) := by decide +kernel
def kX1_wholeRay_33 (mc ms : Nat) (X : Nat → zV) (Q : zQt) : zT :=
  zjj (fun x y => x ||| y) <| zsl 2 <| zinc 4 1 <| zj X 5 [0, 1, 2, 4]
def aX1_wholeRay_0 (mc ms : Nat) (X : Nat → zV) (Q : zQt) : zT :=
  zc (.long 0) <| zsl 2 <| zc (.int 1) <| zsi 4 <| zj X 5 [0, 1, 2, 4]
def aX1_wholeRay_5 (mc ms : Nat) (X : Nat → zV) (Q : zQt) : zT :=
  zli 4 <| zc (.int 8) <| zic (fun x y => y ≤ x) (zll 2 <| zrl Q) <| zll 2 <| zli 0 <| zgs 0 <| zli 1 <| zxl 0 <| zli 4 <| zii (fun x y => x * y) <| zgs 1 <| zli 1 <| zxl 1 <| zli 4 <| zii (fun x y => x * y) <| zcs mc ms 3 wX1_beside <| kX1_wholeRay_33 mc ms X Q
def lvX1_wholeRay : Nat → List Nat := fun L => match L with
  | 0 => [0, 1]
  | 5 => [0, 1, 2, 4]
  | _ => []
def wX1_wholeRay : zSp := fun mc ms av M Q => ((zlay av).length ≤ 5 ∧ zpick (zlay av) [0, 1] = some av) ∧ ∀ X : Nat → zV, zin 5 [0, 1] (aX1_wholeRay_0 mc ms X Q) X 0 → zin 5 [0, 1, 2, 4] (aX1_wholeRay_5 mc ms X Q) X 5 → X 0 0 0 av [] M
set_option maxRecDepth 100000 in
set_option maxHeartbeats 4000000 in
theorem sX1_wholeRay (l : Launch) (G : zG) (hG : zStat G) : zSnd l G yX1_wholeRay cX1_wholeRay 5 (some .long) 1 24 wX1_wholeRay := by
  refine zmk [0, 1] (by decide) (fun mc ms av M Q h => h.1) ?_
  intro p e R s m args below meth c mc ms av M Q hC hRf hRl hr hnm h lv hlv
  obtain ⟨X, hXe⟩ : ∃ X : Nat → zV, X = fun L u v vs st M => ∀ lv, zpick lv (lvX1_wholeRay L) = some vs → zAt p l e R s m args below meth c (MQ below (zQ G Q) args s mc ms (zA G)) G 5 L u v lv st M := ⟨_, rfl⟩
  have hJ : ∀ L, zOk p l e R s m args below meth c (MQ below (zQ G Q) args s mc ms (zA G)) G 5 L (zj X L (lvX1_wholeRay L)) := fun L => S_jump (fun u v lv vs st M hp hx => by rw [hXe] at hx; exact hx lv hp)
  have hB0 : zin 5 [0, 1] (aX1_wholeRay_0 mc ms X Q) X 0 := by
    intro u v vs st M hb
    rw [hXe]
    refine fun lv hp => S_block (L := 0) (live := [0, 1]) ?_ u v lv vs st M hp hb
    unfold aX1_wholeRay_0
    refine S_lconst (pc := 0) hC dX1_wholeRay_0 (by decide) ?_
    refine S_lstore_n (pc := 1) hC dX1_wholeRay_1 rfl (by decide) ?_
    refine S_iconst (pc := 2) hC dX1_wholeRay_2 (by decide) ?_
    refine S_istore (pc := 3) hC dX1_wholeRay_3 (by decide) ?_
    exact hJ 5
  have hB5 : zin 5 [0, 1, 2, 4] (aX1_wholeRay_5 mc ms X Q) X 5 := by
    intro u v vs st M hb
    rw [hXe]
    refine fun lv hp => S_block (L := 5) (live := [0, 1, 2, 4]) ?_ u v lv vs st M hp hb
    unfold aX1_wholeRay_5
    refine S_iload (pc := 5) hC dX1_wholeRay_5 ?_
    refine S_bipush (pc := 7) hC dX1_wholeRay_7 (by decide) ?_
    refine S_icmp_ge (pc := 9) (tgt := 41) hC dX1_wholeRay_9 (by decide) ?_ ?_
    · refine S_lload_n (pc := 41) hC dX1_wholeRay_41 rfl ?_
      exact S_lreturn (pc := 42) hC hr dX1_wholeRay_42
    · refine S_lload_n (pc := 12) hC dX1_wholeRay_12 rfl ?_
      refine S_iload_n (pc := 13) hC dX1_wholeRay_13 rfl ?_
      refine S_gets (pc := 14) hC hG (e0 := 0) (by decide) wd_50 dX1_wholeRay_14 ?_
      refine S_iload_n (pc := 17) hC dX1_wholeRay_17 rfl ?_
      refine S_xload (pc := 18) hC hG (by decide) dX1_wholeRay_18 ?_
      refine S_iload (pc := 19) hC dX1_wholeRay_19 ?_
      refine S_imul (pc := 21) hC dX1_wholeRay_21 ?_
      refine S_gets (pc := 22) hC hG (e0 := 1) (by decide) wd_52 dX1_wholeRay_22 ?_
      refine S_iload_n (pc := 25) hC dX1_wholeRay_25 rfl ?_
      refine S_xload (pc := 26) hC hG (by decide) dX1_wholeRay_26 ?_
      refine S_iload (pc := 27) hC dX1_wholeRay_27 ?_
      refine S_imul (pc := 29) hC dX1_wholeRay_29 ?_
      refine S_callS (pc := 30) hC (sX1_beside l G) wd_47 wd_48 wd_2 wd_49 (by decide +kernel) ⟨by rw [hRf]; decide, by rw [hRl]; decide⟩ dX1_wholeRay_30 ?_
      unfold kX1_wholeRay_33
      refine S_lor (pc := 33) hC dX1_wholeRay_33 ?_
      refine S_lstore_n (pc := 34) hC dX1_wholeRay_34 rfl (by decide) ?_
      refine S_iinc (pc := 35) hC dX1_wholeRay_35 (by decide) (by decide) ?_
      refine S_goto (pc := 38) (tgt := 5) hC dX1_wholeRay_38 (by decide) ?_
      exact hJ 5
  have := h.2 X hB0 hB5
  rw [hXe] at this
  exact this lv hlv
theorem vX1_wholeRay_0 {mc ms : Nat} {X : Nat → zV} {Q : zQt} {M : zM} {g : Nat} {x0 : Int32} {x1 : Int32} (hW : zWd M g)  (h : X 5 0 0 [.int x0, .int x1, .long 0, .int 1] [] M) : aX1_wholeRay_0 mc ms X Q 0 0 [some (.int x0), some (.int x1), none, none, none] [] M := h
theorem vX1_wholeRay_5 {mc ms : Nat} {X : Nat → zV} {Q : zQt} {M : zM} {g : Nat} {x0 : Int32} {x1 : Int32} {x2 : Int64} {x4 : Int32} (hW : zWd M g)  (h : ((8 : Int32) ≤ x4 → Q (some (.long x2)) M) ∧ (¬ (8 : Int32) ≤ x4 → vp_in x1 8 ∧ vp_in x1 8 ∧ wX1_beside 0 0 [.int x0, .int (((zstn 0).2.2.getD (x1 : Int32).toNatClampNeg 0) * x4), .int (((zstn 1).2.2.getD (x1 : Int32).toNatClampNeg 0) * x4)] M (fun r M1 => kX1_wholeRay_33 mc ms X Q 0 0 [some (.int x0), some (.int x1), some (.long x2), none, some (.int x4)] (r.toList ++ [.long x2]) M1))) : aX1_wholeRay_5 mc ms X Q 0 0 [some (.int x0), some (.int x1), some (.long x2), none, some (.int x4)] [] M := ⟨fun c9 => (h.1 c9), fun c9 => ⟨rfl, (h.2 c9).1, ⟨rfl, (h.2 c9).2.1, ⟨Nat.le_of_ble_eq_true rfl, rfl, 0, 0, Nat.zero_le _, Nat.zero_le _, (h.2 c9).2.2⟩⟩⟩⟩
theorem vkX1_wholeRay_33 {mc ms : Nat} {X : Nat → zV} {Q : zQt} {M : zM} {g : Nat} {x0 : Int32} {x1 : Int32} {x2 : Int64} {x4 : Int32} {s0 : Int64} {s1 : Int64} (hW : zWd M g)  (h : X 5 0 0 [.int x0, .int x1, .long (s1 ||| s0), .int (x4 + 1)] [] M) : kX1_wholeRay_33 mc ms X Q 0 0 [some (.int x0), some (.int x1), some (.long x2), none, some (.int x4)] [.long s0, .long s1] M := h
theorem dX1_lines_0 : decode cX1_lines 0 = .ok (.lconst 0, 1) := by decide +kernel
theorem dX1_lines_1 : decode cX1_lines 1 = .ok (.lstore 5, 2) := by decide +kernel
theorem dX1_lines_3 : decode cX1_lines 3 = .ok (.iload 4, 2) := by decide +kernel
theorem dX1_lines_5 : decode cX1_lines 5 = .ok (.istore 7, 2) := by decide +kernel
theorem dX1_lines_7 : decode cX1_lines 7 = .ok (.iload 7, 2) := by decide +kernel
theorem dX1_lines_9 : decode cX1_lines 9 = .ok (.iload 4, 2) := by decide +kernel
theorem dX1_lines_11 : decode cX1_lines 11 = .ok (.iconst 2, 1) := by decide +kernel
theorem dX1_lines_12 : decode cX1_lines 12 = .ok (.iadd, 1) := by decide +kernel
theorem dX1_lines_13 : decode cX1_lines 13 = .ok (.if_icmp .ge 139, 3) := by decide +kernel
theorem dX1_lines_16 : decode cX1_lines 16 = .ok (.aload_n 0, 1) := by decide +kernel
theorem dX1_lines_17 : decode cX1_lines 17 = .ok (.getfield 19, 3) := by decide +kernel
theorem dX1_lines_20 : decode cX1_lines 20 = .ok (.iload 7, 2) := by decide +kernel
theorem dX1_lines_22 : decode cX1_lines 22 = .ok (.bipush 64, 2) := by decide +kernel
theorem dX1_lines_24 : decode cX1_lines 24 = .ok (.imul, 1) := by decide +kernel
theorem dX1_lines_25 : decode cX1_lines 25 = .ok (.iload_n 1, 1) := by decide +kernel
theorem dX1_lines_26 : decode cX1_lines 26 = .ok (.iadd, 1) := by decide +kernel
theorem dX1_lines_27 : decode cX1_lines 27 = .ok (.laload, 1) := by decide +kernel
theorem dX1_lines_28 : decode cX1_lines 28 = .ok (.lstore 8, 2) := by decide +kernel
theorem dX1_lines_30 : decode cX1_lines 30 = .ok (.lload 8, 2) := by decide +kernel
theorem dX1_lines_32 : decode cX1_lines 32 = .ok (.lload_n 2, 1) := by decide +kernel
theorem dX1_lines_33 : decode cX1_lines 33 = .ok (.land, 1) := by decide +kernel
theorem dX1_lines_34 : decode cX1_lines 34 = .ok (.lstore 10, 2) := by decide +kernel
theorem dX1_lines_36 : decode cX1_lines 36 = .ok (.lload 5, 2) := by decide +kernel
theorem dX1_lines_38 : decode cX1_lines 38 = .ok (.lload 8, 2) := by decide +kernel
theorem dX1_lines_40 : decode cX1_lines 40 = .ok (.lload 10, 2) := by decide +kernel
theorem dX1_lines_42 : decode cX1_lines 42 = .ok (.lload 10, 2) := by decide +kernel
theorem dX1_lines_44 : decode cX1_lines 44 = .ok (.lconst 1, 1) := by decide +kernel
theorem dX1_lines_45 : decode cX1_lines 45 = .ok (.lsub, 1) := by decide +kernel
theorem dX1_lines_46 : decode cX1_lines 46 = .ok (.lxor, 1) := by decide +kernel
theorem dX1_lines_47 : decode cX1_lines 47 = .ok (.land, 1) := by decide +kernel
theorem dX1_lines_48 : decode cX1_lines 48 = .ok (.lor, 1) := by decide +kernel
theorem dX1_lines_49 : decode cX1_lines 49 = .ok (.lstore 5, 2) := by decide +kernel
theorem dX1_lines_51 : decode cX1_lines 51 = .ok (.aload_n 0, 1) := by decide +kernel
theorem dX1_lines_52 : decode cX1_lines 52 = .ok (.getfield 19, 3) := by decide +kernel
theorem dX1_lines_55 : decode cX1_lines 55 = .ok (.iload 7, 2) := by decide +kernel
theorem dX1_lines_57 : decode cX1_lines 57 = .ok (.iconst 4, 1) := by decide +kernel
theorem dX1_lines_58 : decode cX1_lines 58 = .ok (.iadd, 1) := by decide +kernel
theorem dX1_lines_59 : decode cX1_lines 59 = .ok (.bipush 64, 2) := by decide +kernel
theorem dX1_lines_61 : decode cX1_lines 61 = .ok (.imul, 1) := by decide +kernel
theorem dX1_lines_62 : decode cX1_lines 62 = .ok (.iload_n 1, 1) := by decide +kernel
theorem dX1_lines_63 : decode cX1_lines 63 = .ok (.iadd, 1) := by decide +kernel
theorem dX1_lines_64 : decode cX1_lines 64 = .ok (.laload, 1) := by decide +kernel
theorem dX1_lines_65 : decode cX1_lines 65 = .ok (.lstore 12, 2) := by decide +kernel
theorem dX1_lines_67 : decode cX1_lines 67 = .ok (.lload 12, 2) := by decide +kernel
theorem dX1_lines_69 : decode cX1_lines 69 = .ok (.lload_n 2, 1) := by decide +kernel
theorem dX1_lines_70 : decode cX1_lines 70 = .ok (.land, 1) := by decide +kernel
theorem dX1_lines_71 : decode cX1_lines 71 = .ok (.lstore 10, 2) := by decide +kernel
theorem dX1_lines_73 : decode cX1_lines 73 = .ok (.lload 10, 2) := by decide +kernel
theorem dX1_lines_75 : decode cX1_lines 75 = .ok (.lload 10, 2) := by decide +kernel
theorem dX1_lines_77 : decode cX1_lines 77 = .ok (.iconst 1, 1) := by decide +kernel
theorem dX1_lines_78 : decode cX1_lines 78 = .ok (.lushr, 1) := by decide +kernel
theorem dX1_lines_79 : decode cX1_lines 79 = .ok (.lor, 1) := by decide +kernel
theorem dX1_lines_80 : decode cX1_lines 80 = .ok (.lstore 10, 2) := by decide +kernel
theorem dX1_lines_82 : decode cX1_lines 82 = .ok (.lload 10, 2) := by decide +kernel
theorem dX1_lines_84 : decode cX1_lines 84 = .ok (.lload 10, 2) := by decide +kernel
theorem dX1_lines_86 : decode cX1_lines 86 = .ok (.iconst 2, 1) := by decide +kernel
theorem dX1_lines_87 : decode cX1_lines 87 = .ok (.lushr, 1) := by decide +kernel
theorem dX1_lines_88 : decode cX1_lines 88 = .ok (.lor, 1) := by decide +kernel
theorem dX1_lines_89 : decode cX1_lines 89 = .ok (.lstore 10, 2) := by decide +kernel
theorem dX1_lines_91 : decode cX1_lines 91 = .ok (.lload 10, 2) := by decide +kernel
theorem dX1_lines_93 : decode cX1_lines 93 = .ok (.lload 10, 2) := by decide +kernel
theorem dX1_lines_95 : decode cX1_lines 95 = .ok (.iconst 4, 1) := by decide +kernel
theorem dX1_lines_96 : decode cX1_lines 96 = .ok (.lushr, 1) := by decide +kernel
theorem dX1_lines_97 : decode cX1_lines 97 = .ok (.lor, 1) := by decide +kernel
theorem dX1_lines_98 : decode cX1_lines 98 = .ok (.lstore 10, 2) := by decide +kernel
theorem dX1_lines_100 : decode cX1_lines 100 = .ok (.lload 10, 2) := by decide +kernel
theorem dX1_lines_102 : decode cX1_lines 102 = .ok (.lload 10, 2) := by decide +kernel
theorem dX1_lines_104 : decode cX1_lines 104 = .ok (.bipush 8, 2) := by decide +kernel
theorem dX1_lines_106 : decode cX1_lines 106 = .ok (.lushr, 1) := by decide +kernel
theorem dX1_lines_107 : decode cX1_lines 107 = .ok (.lor, 1) := by decide +kernel
theorem dX1_lines_108 : decode cX1_lines 108 = .ok (.lstore 10, 2) := by decide +kernel
theorem dX1_lines_110 : decode cX1_lines 110 = .ok (.lload 10, 2) := by decide +kernel
theorem dX1_lines_112 : decode cX1_lines 112 = .ok (.lload 10, 2) := by decide +kernel
theorem dX1_lines_114 : decode cX1_lines 114 = .ok (.bipush 16, 2) := by decide +kernel
theorem dX1_lines_116 : decode cX1_lines 116 = .ok (.lushr, 1) := by decide +kernel
theorem dX1_lines_117 : decode cX1_lines 117 = .ok (.lor, 1) := by decide +kernel
theorem dX1_lines_118 : decode cX1_lines 118 = .ok (.lstore 10, 2) := by decide +kernel
theorem dX1_lines_120 : decode cX1_lines 120 = .ok (.lload 10, 2) := by decide +kernel
theorem dX1_lines_122 : decode cX1_lines 122 = .ok (.lload 10, 2) := by decide +kernel
theorem dX1_lines_124 : decode cX1_lines 124 = .ok (.bipush 32, 2) := by decide +kernel
theorem dX1_lines_126 : decode cX1_lines 126 = .ok (.lushr, 1) := by decide +kernel
theorem dX1_lines_127 : decode cX1_lines 127 = .ok (.lor, 1) := by decide +kernel
theorem dX1_lines_128 : decode cX1_lines 128 = .ok (.lstore 10, 2) := by decide +kernel
theorem dX1_lines_130 : decode cX1_lines 130 = .ok (.lload 5, 2) := by decide +kernel
theorem dX1_lines_132 : decode cX1_lines 132 = .ok (.lload 12, 2) := by decide +kernel
theorem dX1_lines_134 : decode cX1_lines 134 = .ok (.lload 10, 2) := by decide +kernel
theorem dX1_lines_136 : decode cX1_lines 136 = .ok (.iconst 1, 1) := by decide +kernel
theorem dX1_lines_137 : decode cX1_lines 137 = .ok (.lushr, 1) := by decide +kernel
theorem dX1_lines_138 : decode cX1_lines 138 = .ok (.ldc2_w 49, 3) := by decide +kernel
theorem dX1_lines_141 : decode cX1_lines 141 = .ok (.lxor, 1) := by decide +kernel
theorem dX1_lines_142 : decode cX1_lines 142 = .ok (.land, 1) := by decide +kernel
theorem dX1_lines_143 : decode cX1_lines 143 = .ok (.lor, 1) := by decide +kernel
theorem dX1_lines_144 : decode cX1_lines 144 = .ok (.lstore 5, 2) := by decide +kernel
theorem dX1_lines_146 : decode cX1_lines 146 = .ok (.iinc 7 1, 3) := by decide +kernel
theorem dX1_lines_149 : decode cX1_lines 149 = .ok (.goto (-142), 3) := by decide +kernel
theorem dX1_lines_152 : decode cX1_lines 152 = .ok (.lload 5, 2) := by decide +kernel
theorem dX1_lines_154 : decode cX1_lines 154 = .ok (.lreturn, 1) := by decide +kernel
def kX1_lines_146 (mc ms : Nat) (X : Nat → zV) (Q : zQt) : zT :=
  zinc 7 1 <| zj X 7 [0, 1, 2, 4, 5, 7]
def kX1_lines_130 (mc ms : Nat) (X : Nat → zV) (Q : zQt) : zT :=
  zll 5 <| zll 12 <| zll 10 <| zc (.int 1) <| zji (fun x y => (x.toUInt64 >>> (y.toInt64.toUInt64 &&& Int64.toUInt64 63)).toInt64) <| zc (.long (-1)) <| zjj (fun x y => x ^^^ y) <| zjj (fun x y => x &&& y) <| zjj (fun x y => x ||| y) <| zslN 5 <| kX1_lines_146 mc ms X Q
def kX1_lines_120 (mc ms : Nat) (X : Nat → zV) (Q : zQt) : zT :=
  zll 10 <| zll 10 <| zc (.int 32) <| zji (fun x y => (x.toUInt64 >>> (y.toInt64.toUInt64 &&& Int64.toUInt64 63)).toInt64) <| zjj (fun x y => x ||| y) <| zslN 10 <| kX1_lines_130 mc ms X Q
def kX1_lines_110 (mc ms : Nat) (X : Nat → zV) (Q : zQt) : zT :=
  zll 10 <| zll 10 <| zc (.int 16) <| zji (fun x y => (x.toUInt64 >>> (y.toInt64.toUInt64 &&& Int64.toUInt64 63)).toInt64) <| zjj (fun x y => x ||| y) <| zslN 10 <| kX1_lines_120 mc ms X Q
def kX1_lines_100 (mc ms : Nat) (X : Nat → zV) (Q : zQt) : zT :=
  zll 10 <| zll 10 <| zc (.int 8) <| zji (fun x y => (x.toUInt64 >>> (y.toInt64.toUInt64 &&& Int64.toUInt64 63)).toInt64) <| zjj (fun x y => x ||| y) <| zslN 10 <| kX1_lines_110 mc ms X Q
def kX1_lines_91 (mc ms : Nat) (X : Nat → zV) (Q : zQt) : zT :=
  zll 10 <| zll 10 <| zc (.int 4) <| zji (fun x y => (x.toUInt64 >>> (y.toInt64.toUInt64 &&& Int64.toUInt64 63)).toInt64) <| zjj (fun x y => x ||| y) <| zslN 10 <| kX1_lines_100 mc ms X Q
def kX1_lines_82 (mc ms : Nat) (X : Nat → zV) (Q : zQt) : zT :=
  zll 10 <| zll 10 <| zc (.int 2) <| zji (fun x y => (x.toUInt64 >>> (y.toInt64.toUInt64 &&& Int64.toUInt64 63)).toInt64) <| zjj (fun x y => x ||| y) <| zslN 10 <| kX1_lines_91 mc ms X Q
def kX1_lines_67 (mc ms : Nat) (X : Nat → zV) (Q : zQt) : zT :=
  zll 12 <| zll 2 <| zjj (fun x y => x &&& y) <| zsl 10 <| zll 10 <| zll 10 <| zc (.int 1) <| zji (fun x y => (x.toUInt64 >>> (y.toInt64.toUInt64 &&& Int64.toUInt64 63)).toInt64) <| zjj (fun x y => x ||| y) <| zslN 10 <| kX1_lines_82 mc ms X Q
def kX1_lines_51 (mc ms : Nat) (X : Nat → zV) (Q : zQt) : zT :=
  zla 0 <| zgR 1 3 <| zli 7 <| zc (.int 4) <| zii (fun x y => x + y) <| zc (.int 64) <| zii (fun x y => x * y) <| zli 1 <| zii (fun x y => x + y) <| zall <| zslN 12 <| kX1_lines_67 mc ms X Q
def kX1_lines_30 (mc ms : Nat) (X : Nat → zV) (Q : zQt) : zT :=
  zll 8 <| zll 2 <| zjj (fun x y => x &&& y) <| zsl 10 <| zll 5 <| zll 8 <| zll 10 <| zll 10 <| zc (.long 1) <| zjj (fun x y => x - y) <| zjj (fun x y => x ^^^ y) <| zjj (fun x y => x &&& y) <| zjj (fun x y => x ||| y) <| zslN 5 <| kX1_lines_51 mc ms X Q
def aX1_lines_0 (mc ms : Nat) (X : Nat → zV) (Q : zQt) : zT :=
  zc (.long 0) <| zsl 5 <| zli 4 <| zsi 7 <| zj X 7 [0, 1, 2, 4, 5, 7]
def aX1_lines_7 (mc ms : Nat) (X : Nat → zV) (Q : zQt) : zT :=
  zli 7 <| zli 4 <| zc (.int 2) <| zii (fun x y => x + y) <| zic (fun x y => y ≤ x) (zll 5 <| zrl Q) <| zla 0 <| zgR 1 3 <| zli 7 <| zc (.int 64) <| zii (fun x y => x * y) <| zli 1 <| zii (fun x y => x + y) <| zall <| zslN 8 <| kX1_lines_30 mc ms X Q
def lvX1_lines : Nat → List Nat := fun L => match L with
  | 0 => [0, 1, 2, 4]
  | 7 => [0, 1, 2, 4, 5, 7]
  | _ => []
def wX1_lines : zSp := fun mc ms av M Q => ((zlay av).length ≤ 14 ∧ zpick (zlay av) [0, 1, 2, 4] = some av) ∧ ∀ X : Nat → zV, zin 14 [0, 1, 2, 4] (aX1_lines_0 mc ms X Q) X 0 → zin 14 [0, 1, 2, 4, 5, 7] (aX1_lines_7 mc ms X Q) X 7 → X 0 0 0 av [] M
set_option maxRecDepth 100000 in
set_option maxHeartbeats 4000000 in
theorem sX1_lines (l : Launch) (G : zG) : zSnd l G yX1_lines cX1_lines 14 (some .long) 0 0 wX1_lines := by
  refine zmk [0, 1, 2, 4] (by decide) (fun mc ms av M Q h => h.1) ?_
  intro p e R s m args below meth c mc ms av M Q hC hRf hRl hr hnm h lv hlv
  obtain ⟨X, hXe⟩ : ∃ X : Nat → zV, X = fun L u v vs st M => ∀ lv, zpick lv (lvX1_lines L) = some vs → zAt p l e R s m args below meth c (MQ below (zQ G Q) args s mc ms (zA G)) G 14 L u v lv st M := ⟨_, rfl⟩
  have hJ : ∀ L, zOk p l e R s m args below meth c (MQ below (zQ G Q) args s mc ms (zA G)) G 14 L (zj X L (lvX1_lines L)) := fun L => S_jump (fun u v lv vs st M hp hx => by rw [hXe] at hx; exact hx lv hp)
  have hB0 : zin 14 [0, 1, 2, 4] (aX1_lines_0 mc ms X Q) X 0 := by
    intro u v vs st M hb
    rw [hXe]
    refine fun lv hp => S_block (L := 0) (live := [0, 1, 2, 4]) ?_ u v lv vs st M hp hb
    unfold aX1_lines_0
    refine S_lconst (pc := 0) hC dX1_lines_0 (by decide) ?_
    refine S_lstore (pc := 1) hC dX1_lines_1 (by decide) ?_
    refine S_iload (pc := 3) hC dX1_lines_3 ?_
    refine S_istore (pc := 5) hC dX1_lines_5 (by decide) ?_
    exact hJ 7
  have hB7 : zin 14 [0, 1, 2, 4, 5, 7] (aX1_lines_7 mc ms X Q) X 7 := by
    intro u v vs st M hb
    rw [hXe]
    refine fun lv hp => S_block (L := 7) (live := [0, 1, 2, 4, 5, 7]) ?_ u v lv vs st M hp hb
    unfold aX1_lines_7
    refine S_iload (pc := 7) hC dX1_lines_7 ?_
    refine S_iload (pc := 9) hC dX1_lines_9 ?_
    refine S_iconst (pc := 11) hC dX1_lines_11 (by decide) ?_
    refine S_iadd (pc := 12) hC dX1_lines_12 ?_
    refine S_icmp_ge (pc := 13) (tgt := 152) hC dX1_lines_13 (by decide) ?_ ?_
    · refine S_lload (pc := 152) hC dX1_lines_152 ?_
      exact S_lreturn (pc := 154) hC hr dX1_lines_154
    · refine S_aload_n (pc := 16) hC dX1_lines_16 rfl ?_
      refine S_getR (pc := 17) hC cfX1 (by decide) (Or.inr ⟨_, rfl⟩) wd_68 dX1_lines_17 ?_
      refine S_iload (pc := 20) hC dX1_lines_20 ?_
      refine S_bipush (pc := 22) hC dX1_lines_22 (by decide) ?_
      refine S_imul (pc := 24) hC dX1_lines_24 ?_
      refine S_iload_n (pc := 25) hC dX1_lines_25 rfl ?_
      refine S_iadd (pc := 26) hC dX1_lines_26 ?_
      refine S_laload (pc := 27) hC dX1_lines_27 ?_
      refine S_lstore_N (pc := 28) hC dX1_lines_28 (by decide) ?_
      unfold kX1_lines_30
      refine S_lload (pc := 30) hC dX1_lines_30 ?_
      refine S_lload_n (pc := 32) hC dX1_lines_32 rfl ?_
      refine S_land (pc := 33) hC dX1_lines_33 ?_
      refine S_lstore (pc := 34) hC dX1_lines_34 (by decide) ?_
      refine S_lload (pc := 36) hC dX1_lines_36 ?_
      refine S_lload (pc := 38) hC dX1_lines_38 ?_
      refine S_lload (pc := 40) hC dX1_lines_40 ?_
      refine S_lload (pc := 42) hC dX1_lines_42 ?_
      refine S_lconst (pc := 44) hC dX1_lines_44 (by decide) ?_
      refine S_lsub (pc := 45) hC dX1_lines_45 ?_
      refine S_lxor (pc := 46) hC dX1_lines_46 ?_
      refine S_land (pc := 47) hC dX1_lines_47 ?_
      refine S_lor (pc := 48) hC dX1_lines_48 ?_
      refine S_lstore_N (pc := 49) hC dX1_lines_49 (by decide) ?_
      unfold kX1_lines_51
      refine S_aload_n (pc := 51) hC dX1_lines_51 rfl ?_
      refine S_getR (pc := 52) hC cfX1 (by decide) (Or.inr ⟨_, rfl⟩) wd_68 dX1_lines_52 ?_
      refine S_iload (pc := 55) hC dX1_lines_55 ?_
      refine S_iconst (pc := 57) hC dX1_lines_57 (by decide) ?_
      refine S_iadd (pc := 58) hC dX1_lines_58 ?_
      refine S_bipush (pc := 59) hC dX1_lines_59 (by decide) ?_
      refine S_imul (pc := 61) hC dX1_lines_61 ?_
      refine S_iload_n (pc := 62) hC dX1_lines_62 rfl ?_
      refine S_iadd (pc := 63) hC dX1_lines_63 ?_
      refine S_laload (pc := 64) hC dX1_lines_64 ?_
      refine S_lstore_N (pc := 65) hC dX1_lines_65 (by decide) ?_
      unfold kX1_lines_67
      refine S_lload (pc := 67) hC dX1_lines_67 ?_
      refine S_lload_n (pc := 69) hC dX1_lines_69 rfl ?_
      refine S_land (pc := 70) hC dX1_lines_70 ?_
      refine S_lstore (pc := 71) hC dX1_lines_71 (by decide) ?_
      refine S_lload (pc := 73) hC dX1_lines_73 ?_
      refine S_lload (pc := 75) hC dX1_lines_75 ?_
      refine S_iconst (pc := 77) hC dX1_lines_77 (by decide) ?_
      refine S_lushr (pc := 78) hC dX1_lines_78 ?_
      refine S_lor (pc := 79) hC dX1_lines_79 ?_
      refine S_lstore_N (pc := 80) hC dX1_lines_80 (by decide) ?_
      unfold kX1_lines_82
      refine S_lload (pc := 82) hC dX1_lines_82 ?_
      refine S_lload (pc := 84) hC dX1_lines_84 ?_
      refine S_iconst (pc := 86) hC dX1_lines_86 (by decide) ?_
      refine S_lushr (pc := 87) hC dX1_lines_87 ?_
      refine S_lor (pc := 88) hC dX1_lines_88 ?_
      refine S_lstore_N (pc := 89) hC dX1_lines_89 (by decide) ?_
      unfold kX1_lines_91
      refine S_lload (pc := 91) hC dX1_lines_91 ?_
      refine S_lload (pc := 93) hC dX1_lines_93 ?_
      refine S_iconst (pc := 95) hC dX1_lines_95 (by decide) ?_
      refine S_lushr (pc := 96) hC dX1_lines_96 ?_
      refine S_lor (pc := 97) hC dX1_lines_97 ?_
      refine S_lstore_N (pc := 98) hC dX1_lines_98 (by decide) ?_
      unfold kX1_lines_100
      refine S_lload (pc := 100) hC dX1_lines_100 ?_
      refine S_lload (pc := 102) hC dX1_lines_102 ?_
      refine S_bipush (pc := 104) hC dX1_lines_104 (by decide) ?_
      refine S_lushr (pc := 106) hC dX1_lines_106 ?_
      refine S_lor (pc := 107) hC dX1_lines_107 ?_
      refine S_lstore_N (pc := 108) hC dX1_lines_108 (by decide) ?_
      unfold kX1_lines_110
      refine S_lload (pc := 110) hC dX1_lines_110 ?_
      refine S_lload (pc := 112) hC dX1_lines_112 ?_
      refine S_bipush (pc := 114) hC dX1_lines_114 (by decide) ?_
      refine S_lushr (pc := 116) hC dX1_lines_116 ?_
      refine S_lor (pc := 117) hC dX1_lines_117 ?_
      refine S_lstore_N (pc := 118) hC dX1_lines_118 (by decide) ?_
      unfold kX1_lines_120
      refine S_lload (pc := 120) hC dX1_lines_120 ?_
      refine S_lload (pc := 122) hC dX1_lines_122 ?_
      refine S_bipush (pc := 124) hC dX1_lines_124 (by decide) ?_
      refine S_lushr (pc := 126) hC dX1_lines_126 ?_
      refine S_lor (pc := 127) hC dX1_lines_127 ?_
      refine S_lstore_N (pc := 128) hC dX1_lines_128 (by decide) ?_
      unfold kX1_lines_130
      refine S_lload (pc := 130) hC dX1_lines_130 ?_
      refine S_lload (pc := 132) hC dX1_lines_132 ?_
      refine S_lload (pc := 134) hC dX1_lines_134 ?_
      refine S_iconst (pc := 136) hC dX1_lines_136 (by decide) ?_
      refine S_lushr (pc := 137) hC dX1_lines_137 ?_
      refine S_ldc2 (pc := 138) hC wd_455 dX1_lines_138 ?_
      refine S_lxor (pc := 141) hC dX1_lines_141 ?_
      refine S_land (pc := 142) hC dX1_lines_142 ?_
      refine S_lor (pc := 143) hC dX1_lines_143 ?_
      refine S_lstore_N (pc := 144) hC dX1_lines_144 (by decide) ?_
      unfold kX1_lines_146
      refine S_iinc (pc := 146) hC dX1_lines_146 (by decide) (by decide) ?_
      refine S_goto (pc := 149) (tgt := 7) hC dX1_lines_149 (by decide) ?_
      exact hJ 7
  have := h.2 X hB0 hB7
  rw [hXe] at this
  exact this lv hlv
theorem vX1_lines_0 {mc ms : Nat} {X : Nat → zV} {Q : zQt} {M : zM} {g : Nat} {x1 : Int32} {x2 : Int64} {x4 : Int32} (hW : zWd M g)  (h : X 7 0 0 [.ref 17, .int x1, .long x2, .int x4, .long 0, .int x4] [] M) : aX1_lines_0 mc ms X Q 0 0 [some (.ref 17), some (.int x1), some (.long x2), none, some (.int x4), none, none, none, none, none, none, none, none, none] [] M := h
theorem vcX1_lines_146 {mc ms : Nat} {X : Nat → zV} {Q : zQt} {M : zM} {g : Nat} {x1 : Int32} {x2 : Int64} {x4 : Int32} {x5 : Int64} {x7 : Int32} {x8 : Int64} {x10 : Int64} {x12 : Int64} (hW : zWd M g)  (h : X 7 0 0 [.ref 17, .int x1, .long x2, .int x4, .long x5, .int (x7 + 1)] [] M) : kX1_lines_146 mc ms X Q 0 0 [some (.ref 17), some (.int x1), some (.long x2), none, some (.int x4), some (.long x5), none, some (.int x7), some (.long x8), none, some (.long x10), none, some (.long x12), none] [] M := h
theorem vcX1_lines_130 {mc ms : Nat} {X : Nat → zV} {Q : zQt} {M : zM} {g : Nat} {x1 : Int32} {x2 : Int64} {x4 : Int32} {x5 : Int64} {x7 : Int32} {x8 : Int64} {x10 : Int64} {x12 : Int64} (hW : zWd M g)  (h : ∀ y144 : Int64, y144 = (x5 ||| (x12 &&& (((x10.toUInt64 >>> ((1 : Int32).toInt64.toUInt64 &&& Int64.toUInt64 63)).toInt64) ^^^ ((-1) : Int64)))) → X 7 0 0 [.ref 17, .int x1, .long x2, .int x4, .long y144, .int (x7 + 1)] [] M) : kX1_lines_130 mc ms X Q 0 0 [some (.ref 17), some (.int x1), some (.long x2), none, some (.int x4), some (.long x5), none, some (.int x7), some (.long x8), none, some (.long x10), none, some (.long x12), none] [] M := (fun y144 e144 => have h144 := h y144 e144; (vcX1_lines_146 hW  h144))
theorem vcX1_lines_120 {mc ms : Nat} {X : Nat → zV} {Q : zQt} {M : zM} {g : Nat} {x1 : Int32} {x2 : Int64} {x4 : Int32} {x5 : Int64} {x7 : Int32} {x8 : Int64} {x10 : Int64} {x12 : Int64} (hW : zWd M g)  (h : ∀ y128 : Int64, y128 = (x10 ||| ((x10.toUInt64 >>> ((32 : Int32).toInt64.toUInt64 &&& Int64.toUInt64 63)).toInt64)) → ∀ y144 : Int64, y144 = (x5 ||| (x12 &&& (((y128.toUInt64 >>> ((1 : Int32).toInt64.toUInt64 &&& Int64.toUInt64 63)).toInt64) ^^^ ((-1) : Int64)))) → X 7 0 0 [.ref 17, .int x1, .long x2, .int x4, .long y144, .int (x7 + 1)] [] M) : kX1_lines_120 mc ms X Q 0 0 [some (.ref 17), some (.int x1), some (.long x2), none, some (.int x4), some (.long x5), none, some (.int x7), some (.long x8), none, some (.long x10), none, some (.long x12), none] [] M := (fun y128 e128 => have h128 := h y128 e128; (vcX1_lines_130 hW  h128))
theorem vcX1_lines_110 {mc ms : Nat} {X : Nat → zV} {Q : zQt} {M : zM} {g : Nat} {x1 : Int32} {x2 : Int64} {x4 : Int32} {x5 : Int64} {x7 : Int32} {x8 : Int64} {x10 : Int64} {x12 : Int64} (hW : zWd M g)  (h : ∀ y118 : Int64, y118 = (x10 ||| ((x10.toUInt64 >>> ((16 : Int32).toInt64.toUInt64 &&& Int64.toUInt64 63)).toInt64)) → ∀ y128 : Int64, y128 = (y118 ||| ((y118.toUInt64 >>> ((32 : Int32).toInt64.toUInt64 &&& Int64.toUInt64 63)).toInt64)) → ∀ y144 : Int64, y144 = (x5 ||| (x12 &&& (((y128.toUInt64 >>> ((1 : Int32).toInt64.toUInt64 &&& Int64.toUInt64 63)).toInt64) ^^^ ((-1) : Int64)))) → X 7 0 0 [.ref 17, .int x1, .long x2, .int x4, .long y144, .int (x7 + 1)] [] M) : kX1_lines_110 mc ms X Q 0 0 [some (.ref 17), some (.int x1), some (.long x2), none, some (.int x4), some (.long x5), none, some (.int x7), some (.long x8), none, some (.long x10), none, some (.long x12), none] [] M := (fun y118 e118 => have h118 := h y118 e118; (vcX1_lines_120 hW  h118))
theorem vcX1_lines_100 {mc ms : Nat} {X : Nat → zV} {Q : zQt} {M : zM} {g : Nat} {x1 : Int32} {x2 : Int64} {x4 : Int32} {x5 : Int64} {x7 : Int32} {x8 : Int64} {x10 : Int64} {x12 : Int64} (hW : zWd M g)  (h : ∀ y108 : Int64, y108 = (x10 ||| ((x10.toUInt64 >>> ((8 : Int32).toInt64.toUInt64 &&& Int64.toUInt64 63)).toInt64)) → ∀ y118 : Int64, y118 = (y108 ||| ((y108.toUInt64 >>> ((16 : Int32).toInt64.toUInt64 &&& Int64.toUInt64 63)).toInt64)) → ∀ y128 : Int64, y128 = (y118 ||| ((y118.toUInt64 >>> ((32 : Int32).toInt64.toUInt64 &&& Int64.toUInt64 63)).toInt64)) → ∀ y144 : Int64, y144 = (x5 ||| (x12 &&& (((y128.toUInt64 >>> ((1 : Int32).toInt64.toUInt64 &&& Int64.toUInt64 63)).toInt64) ^^^ ((-1) : Int64)))) → X 7 0 0 [.ref 17, .int x1, .long x2, .int x4, .long y144, .int (x7 + 1)] [] M) : kX1_lines_100 mc ms X Q 0 0 [some (.ref 17), some (.int x1), some (.long x2), none, some (.int x4), some (.long x5), none, some (.int x7), some (.long x8), none, some (.long x10), none, some (.long x12), none] [] M := (fun y108 e108 => have h108 := h y108 e108; (vcX1_lines_110 hW  h108))
theorem vcX1_lines_91 {mc ms : Nat} {X : Nat → zV} {Q : zQt} {M : zM} {g : Nat} {x1 : Int32} {x2 : Int64} {x4 : Int32} {x5 : Int64} {x7 : Int32} {x8 : Int64} {x10 : Int64} {x12 : Int64} (hW : zWd M g)  (h : ∀ y98 : Int64, y98 = (x10 ||| ((x10.toUInt64 >>> ((4 : Int32).toInt64.toUInt64 &&& Int64.toUInt64 63)).toInt64)) → ∀ y108 : Int64, y108 = (y98 ||| ((y98.toUInt64 >>> ((8 : Int32).toInt64.toUInt64 &&& Int64.toUInt64 63)).toInt64)) → ∀ y118 : Int64, y118 = (y108 ||| ((y108.toUInt64 >>> ((16 : Int32).toInt64.toUInt64 &&& Int64.toUInt64 63)).toInt64)) → ∀ y128 : Int64, y128 = (y118 ||| ((y118.toUInt64 >>> ((32 : Int32).toInt64.toUInt64 &&& Int64.toUInt64 63)).toInt64)) → ∀ y144 : Int64, y144 = (x5 ||| (x12 &&& (((y128.toUInt64 >>> ((1 : Int32).toInt64.toUInt64 &&& Int64.toUInt64 63)).toInt64) ^^^ ((-1) : Int64)))) → X 7 0 0 [.ref 17, .int x1, .long x2, .int x4, .long y144, .int (x7 + 1)] [] M) : kX1_lines_91 mc ms X Q 0 0 [some (.ref 17), some (.int x1), some (.long x2), none, some (.int x4), some (.long x5), none, some (.int x7), some (.long x8), none, some (.long x10), none, some (.long x12), none] [] M := (fun y98 e98 => have h98 := h y98 e98; (vcX1_lines_100 hW  h98))
theorem vcX1_lines_82 {mc ms : Nat} {X : Nat → zV} {Q : zQt} {M : zM} {g : Nat} {x1 : Int32} {x2 : Int64} {x4 : Int32} {x5 : Int64} {x7 : Int32} {x8 : Int64} {x10 : Int64} {x12 : Int64} (hW : zWd M g)  (h : ∀ y89 : Int64, y89 = (x10 ||| ((x10.toUInt64 >>> ((2 : Int32).toInt64.toUInt64 &&& Int64.toUInt64 63)).toInt64)) → ∀ y98 : Int64, y98 = (y89 ||| ((y89.toUInt64 >>> ((4 : Int32).toInt64.toUInt64 &&& Int64.toUInt64 63)).toInt64)) → ∀ y108 : Int64, y108 = (y98 ||| ((y98.toUInt64 >>> ((8 : Int32).toInt64.toUInt64 &&& Int64.toUInt64 63)).toInt64)) → ∀ y118 : Int64, y118 = (y108 ||| ((y108.toUInt64 >>> ((16 : Int32).toInt64.toUInt64 &&& Int64.toUInt64 63)).toInt64)) → ∀ y128 : Int64, y128 = (y118 ||| ((y118.toUInt64 >>> ((32 : Int32).toInt64.toUInt64 &&& Int64.toUInt64 63)).toInt64)) → ∀ y144 : Int64, y144 = (x5 ||| (x12 &&& (((y128.toUInt64 >>> ((1 : Int32).toInt64.toUInt64 &&& Int64.toUInt64 63)).toInt64) ^^^ ((-1) : Int64)))) → X 7 0 0 [.ref 17, .int x1, .long x2, .int x4, .long y144, .int (x7 + 1)] [] M) : kX1_lines_82 mc ms X Q 0 0 [some (.ref 17), some (.int x1), some (.long x2), none, some (.int x4), some (.long x5), none, some (.int x7), some (.long x8), none, some (.long x10), none, some (.long x12), none] [] M := (fun y89 e89 => have h89 := h y89 e89; (vcX1_lines_91 hW  h89))
theorem vcX1_lines_67 {mc ms : Nat} {X : Nat → zV} {Q : zQt} {M : zM} {g : Nat} {x1 : Int32} {x2 : Int64} {x4 : Int32} {x5 : Int64} {x7 : Int32} {x8 : Int64} {x10 : Int64} {x12 : Int64} (hW : zWd M g)  (h : ∀ y80 : Int64, y80 = ((x12 &&& x2) ||| (((x12 &&& x2).toUInt64 >>> ((1 : Int32).toInt64.toUInt64 &&& Int64.toUInt64 63)).toInt64)) → ∀ y89 : Int64, y89 = (y80 ||| ((y80.toUInt64 >>> ((2 : Int32).toInt64.toUInt64 &&& Int64.toUInt64 63)).toInt64)) → ∀ y98 : Int64, y98 = (y89 ||| ((y89.toUInt64 >>> ((4 : Int32).toInt64.toUInt64 &&& Int64.toUInt64 63)).toInt64)) → ∀ y108 : Int64, y108 = (y98 ||| ((y98.toUInt64 >>> ((8 : Int32).toInt64.toUInt64 &&& Int64.toUInt64 63)).toInt64)) → ∀ y118 : Int64, y118 = (y108 ||| ((y108.toUInt64 >>> ((16 : Int32).toInt64.toUInt64 &&& Int64.toUInt64 63)).toInt64)) → ∀ y128 : Int64, y128 = (y118 ||| ((y118.toUInt64 >>> ((32 : Int32).toInt64.toUInt64 &&& Int64.toUInt64 63)).toInt64)) → ∀ y144 : Int64, y144 = (x5 ||| (x12 &&& (((y128.toUInt64 >>> ((1 : Int32).toInt64.toUInt64 &&& Int64.toUInt64 63)).toInt64) ^^^ ((-1) : Int64)))) → X 7 0 0 [.ref 17, .int x1, .long x2, .int x4, .long y144, .int (x7 + 1)] [] M) : kX1_lines_67 mc ms X Q 0 0 [some (.ref 17), some (.int x1), some (.long x2), none, some (.int x4), some (.long x5), none, some (.int x7), some (.long x8), none, some (.long x10), none, some (.long x12), none] [] M := (fun y80 e80 => have h80 := h y80 e80; (vcX1_lines_82 hW  h80))
theorem vcX1_lines_51 {mc ms : Nat} {X : Nat → zV} {Q : zQt} {M : zM} {g : Nat} {x1 : Int32} {x2 : Int64} {x4 : Int32} {x5 : Int64} {x7 : Int32} {x8 : Int64} {x10 : Int64} (hW : zWd M g)  (h : vp_in ((((x7 + (4 : Int32)) * (64 : Int32)) + x1)) 512 ∧ ∀ y65 : Int64, y65 = ((M : zM).2.1 21 ((((x7 + (4 : Int32)) * (64 : Int32)) + x1) : Int32).toNatClampNeg) → ∀ y80 : Int64, y80 = ((y65 &&& x2) ||| (((y65 &&& x2).toUInt64 >>> ((1 : Int32).toInt64.toUInt64 &&& Int64.toUInt64 63)).toInt64)) → ∀ y89 : Int64, y89 = (y80 ||| ((y80.toUInt64 >>> ((2 : Int32).toInt64.toUInt64 &&& Int64.toUInt64 63)).toInt64)) → ∀ y98 : Int64, y98 = (y89 ||| ((y89.toUInt64 >>> ((4 : Int32).toInt64.toUInt64 &&& Int64.toUInt64 63)).toInt64)) → ∀ y108 : Int64, y108 = (y98 ||| ((y98.toUInt64 >>> ((8 : Int32).toInt64.toUInt64 &&& Int64.toUInt64 63)).toInt64)) → ∀ y118 : Int64, y118 = (y108 ||| ((y108.toUInt64 >>> ((16 : Int32).toInt64.toUInt64 &&& Int64.toUInt64 63)).toInt64)) → ∀ y128 : Int64, y128 = (y118 ||| ((y118.toUInt64 >>> ((32 : Int32).toInt64.toUInt64 &&& Int64.toUInt64 63)).toInt64)) → ∀ y144 : Int64, y144 = (x5 ||| (y65 &&& (((y128.toUInt64 >>> ((1 : Int32).toInt64.toUInt64 &&& Int64.toUInt64 63)).toInt64) ^^^ ((-1) : Int64)))) → X 7 0 0 [.ref 17, .int x1, .long x2, .int x4, .long y144, .int (x7 + 1)] [] M) : kX1_lines_51 mc ms X Q 0 0 [some (.ref 17), some (.int x1), some (.long x2), none, some (.int x4), some (.long x5), none, some (.int x7), some (.long x8), none, some (.long x10), none, none, none] [] M := ⟨(fxs_17 hW.1), 21, (fxr_17_3 hW.1), ⟨512, (fxs_21 hW.1), h.1, (fun y65 e65 => have h65 := h.2 y65 e65; (vcX1_lines_67 hW  h65))⟩⟩
theorem vcX1_lines_30 {mc ms : Nat} {X : Nat → zV} {Q : zQt} {M : zM} {g : Nat} {x1 : Int32} {x2 : Int64} {x4 : Int32} {x5 : Int64} {x7 : Int32} {x8 : Int64} (hW : zWd M g)  (h : ∀ y49 : Int64, y49 = (x5 ||| (x8 &&& ((x8 &&& x2) ^^^ ((x8 &&& x2) - (1 : Int64))))) → vp_in ((((x7 + (4 : Int32)) * (64 : Int32)) + x1)) 512 ∧ ∀ y65 : Int64, y65 = ((M : zM).2.1 21 ((((x7 + (4 : Int32)) * (64 : Int32)) + x1) : Int32).toNatClampNeg) → ∀ y80 : Int64, y80 = ((y65 &&& x2) ||| (((y65 &&& x2).toUInt64 >>> ((1 : Int32).toInt64.toUInt64 &&& Int64.toUInt64 63)).toInt64)) → ∀ y89 : Int64, y89 = (y80 ||| ((y80.toUInt64 >>> ((2 : Int32).toInt64.toUInt64 &&& Int64.toUInt64 63)).toInt64)) → ∀ y98 : Int64, y98 = (y89 ||| ((y89.toUInt64 >>> ((4 : Int32).toInt64.toUInt64 &&& Int64.toUInt64 63)).toInt64)) → ∀ y108 : Int64, y108 = (y98 ||| ((y98.toUInt64 >>> ((8 : Int32).toInt64.toUInt64 &&& Int64.toUInt64 63)).toInt64)) → ∀ y118 : Int64, y118 = (y108 ||| ((y108.toUInt64 >>> ((16 : Int32).toInt64.toUInt64 &&& Int64.toUInt64 63)).toInt64)) → ∀ y128 : Int64, y128 = (y118 ||| ((y118.toUInt64 >>> ((32 : Int32).toInt64.toUInt64 &&& Int64.toUInt64 63)).toInt64)) → ∀ y144 : Int64, y144 = (y49 ||| (y65 &&& (((y128.toUInt64 >>> ((1 : Int32).toInt64.toUInt64 &&& Int64.toUInt64 63)).toInt64) ^^^ ((-1) : Int64)))) → X 7 0 0 [.ref 17, .int x1, .long x2, .int x4, .long y144, .int (x7 + 1)] [] M) : kX1_lines_30 mc ms X Q 0 0 [some (.ref 17), some (.int x1), some (.long x2), none, some (.int x4), some (.long x5), none, some (.int x7), some (.long x8), none, none, none, none, none] [] M := (fun y49 e49 => have h49 := h y49 e49; (vcX1_lines_51 hW  h49))
theorem vX1_lines_7 {mc ms : Nat} {X : Nat → zV} {Q : zQt} {M : zM} {g : Nat} {x1 : Int32} {x2 : Int64} {x4 : Int32} {x5 : Int64} {x7 : Int32} (hW : zWd M g)  (h : ((x4 + (2 : Int32)) ≤ x7 → Q (some (.long x5)) M) ∧ (¬ (x4 + (2 : Int32)) ≤ x7 → vp_in (((x7 * (64 : Int32)) + x1)) 512 ∧ ∀ y28 : Int64, y28 = ((M : zM).2.1 21 (((x7 * (64 : Int32)) + x1) : Int32).toNatClampNeg) → ∀ y49 : Int64, y49 = (x5 ||| (y28 &&& ((y28 &&& x2) ^^^ ((y28 &&& x2) - (1 : Int64))))) → vp_in ((((x7 + (4 : Int32)) * (64 : Int32)) + x1)) 512 ∧ ∀ y65 : Int64, y65 = ((M : zM).2.1 21 ((((x7 + (4 : Int32)) * (64 : Int32)) + x1) : Int32).toNatClampNeg) → ∀ y80 : Int64, y80 = ((y65 &&& x2) ||| (((y65 &&& x2).toUInt64 >>> ((1 : Int32).toInt64.toUInt64 &&& Int64.toUInt64 63)).toInt64)) → ∀ y89 : Int64, y89 = (y80 ||| ((y80.toUInt64 >>> ((2 : Int32).toInt64.toUInt64 &&& Int64.toUInt64 63)).toInt64)) → ∀ y98 : Int64, y98 = (y89 ||| ((y89.toUInt64 >>> ((4 : Int32).toInt64.toUInt64 &&& Int64.toUInt64 63)).toInt64)) → ∀ y108 : Int64, y108 = (y98 ||| ((y98.toUInt64 >>> ((8 : Int32).toInt64.toUInt64 &&& Int64.toUInt64 63)).toInt64)) → ∀ y118 : Int64, y118 = (y108 ||| ((y108.toUInt64 >>> ((16 : Int32).toInt64.toUInt64 &&& Int64.toUInt64 63)).toInt64)) → ∀ y128 : Int64, y128 = (y118 ||| ((y118.toUInt64 >>> ((32 : Int32).toInt64.toUInt64 &&& Int64.toUInt64 63)).toInt64)) → ∀ y144 : Int64, y144 = (y49 ||| (y65 &&& (((y128.toUInt64 >>> ((1 : Int32).toInt64.toUInt64 &&& Int64.toUInt64 63)).toInt64) ^^^ ((-1) : Int64)))) → X 7 0 0 [.ref 17, .int x1, .long x2, .int x4, .long y144, .int (x7 + 1)] [] M)) : aX1_lines_7 mc ms X Q 0 0 [some (.ref 17), some (.int x1), some (.long x2), none, some (.int x4), some (.long x5), none, some (.int x7), none, none, none, none, none, none] [] M := ⟨fun c13 => (h.1 c13), fun c13 => ⟨(fxs_17 hW.1), 21, (fxr_17_3 hW.1), ⟨512, (fxs_21 hW.1), (h.2 c13).1, (fun y28 e28 => have h28 := (h.2 c13).2 y28 e28; (vcX1_lines_30 hW  h28))⟩⟩⟩
theorem dX0_lowest_0 : decode cX0_lowest 0 = .ok (.lload_n 0, 1) := by decide +kernel
theorem dX0_lowest_1 : decode cX0_lowest 1 = .ok (.lload_n 0, 1) := by decide +kernel
theorem dX0_lowest_2 : decode cX0_lowest 2 = .ok (.lneg, 1) := by decide +kernel
theorem dX0_lowest_3 : decode cX0_lowest 3 = .ok (.land, 1) := by decide +kernel
theorem dX0_lowest_4 : decode cX0_lowest 4 = .ok (.lconst 1, 1) := by decide +kernel
theorem dX0_lowest_5 : decode cX0_lowest 5 = .ok (.lsub, 1) := by decide +kernel
theorem dX0_lowest_6 : decode cX0_lowest 6 = .ok (.invokestatic 60, 3) := by decide +kernel
theorem dX0_lowest_9 : decode cX0_lowest 9 = .ok (.ireturn, 1) := by decide +kernel
def kX0_lowest_9 (mc ms : Nat) (X : Nat → zV) (Q : zQt) : zT :=
  zri Q
def aX0_lowest_0 (mc ms : Nat) (X : Nat → zV) (Q : zQt) : zT :=
  zll 0 <| zll 0 <| zj1 (fun x => -x) <| zjj (fun x y => x &&& y) <| zc (.long 1) <| zjj (fun x y => x - y) <| zcs mc ms 1 wJ13_bitCount_95d88 <| kX0_lowest_9 mc ms X Q
def lvX0_lowest : Nat → List Nat := fun L => match L with
  | 0 => [0]
  | _ => []
def wX0_lowest : zSp := fun mc ms av M Q => ((zlay av).length ≤ 2 ∧ zpick (zlay av) [0] = some av) ∧ ∀ X : Nat → zV, zin 2 [0] (aX0_lowest_0 mc ms X Q) X 0 → X 0 0 0 av [] M
set_option maxRecDepth 100000 in
set_option maxHeartbeats 4000000 in
theorem sX0_lowest (l : Launch) (G : zG) : zSnd l G yX0_lowest cX0_lowest 2 (some .int) 1 21 wX0_lowest := by
  refine zmk [0] (by decide) (fun mc ms av M Q h => h.1) ?_
  intro p e R s m args below meth c mc ms av M Q hC hRf hRl hr hnm h lv hlv
  obtain ⟨X, hXe⟩ : ∃ X : Nat → zV, X = fun L u v vs st M => ∀ lv, zpick lv (lvX0_lowest L) = some vs → zAt p l e R s m args below meth c (MQ below (zQ G Q) args s mc ms (zA G)) G 2 L u v lv st M := ⟨_, rfl⟩
  have hJ : ∀ L, zOk p l e R s m args below meth c (MQ below (zQ G Q) args s mc ms (zA G)) G 2 L (zj X L (lvX0_lowest L)) := fun L => S_jump (fun u v lv vs st M hp hx => by rw [hXe] at hx; exact hx lv hp)
  have hB0 : zin 2 [0] (aX0_lowest_0 mc ms X Q) X 0 := by
    intro u v vs st M hb
    rw [hXe]
    refine fun lv hp => S_block (L := 0) (live := [0]) ?_ u v lv vs st M hp hb
    unfold aX0_lowest_0
    refine S_lload_n (pc := 0) hC dX0_lowest_0 rfl ?_
    refine S_lload_n (pc := 1) hC dX0_lowest_1 rfl ?_
    refine S_lneg (pc := 2) hC dX0_lowest_2 ?_
    refine S_land (pc := 3) hC dX0_lowest_3 ?_
    refine S_lconst (pc := 4) hC dX0_lowest_4 (by decide) ?_
    refine S_lsub (pc := 5) hC dX0_lowest_5 ?_
    refine S_callS (pc := 6) hC (sJ13_bitCount_95d88 l G) wd_437 wd_438 wd_25 wd_439 (by decide +kernel) ⟨by rw [hRf]; decide, by rw [hRl]; decide⟩ dX0_lowest_6 ?_
    unfold kX0_lowest_9
    exact S_ireturn (pc := 9) hC hr dX0_lowest_9
  have := h.2 X hB0
  rw [hXe] at this
  exact this lv hlv
theorem vX0_lowest_0 {mc ms : Nat} {X : Nat → zV} {Q : zQt} {M : zM} {g : Nat} {x0 : Int64} (hW : zWd M g)  (h : wJ13_bitCount_95d88 0 0 [.long ((x0 &&& (-x0)) - (1 : Int64))] M (fun r M1 => kX0_lowest_9 mc ms X Q 0 0 [some (.long x0), none] (r.toList ++ []) M1)) : aX0_lowest_0 mc ms X Q 0 0 [some (.long x0), none] [] M := ⟨Nat.le_of_ble_eq_true rfl, rfl, 0, 0, Nat.zero_le _, Nat.zero_le _, h⟩
theorem vkX0_lowest_9 {mc ms : Nat} {X : Nat → zV} {Q : zQt} {M : zM} {g : Nat} {x0 : Int64} {s0 : Int32} (hW : zWd M g)  (h : Q (some (.int s0)) M) : kX0_lowest_9 mc ms X Q 0 0 [some (.long x0), none] [.int s0] M := h
theorem dX0_occupied_0 : decode cX0_occupied 0 = .ok (.aload_n 0, 1) := by decide +kernel
theorem dX0_occupied_1 : decode cX0_occupied 1 = .ok (.getfield 23, 3) := by decide +kernel
theorem dX0_occupied_4 : decode cX0_occupied 4 = .ok (.iconst 0, 1) := by decide +kernel
theorem dX0_occupied_5 : decode cX0_occupied 5 = .ok (.laload, 1) := by decide +kernel
theorem dX0_occupied_6 : decode cX0_occupied 6 = .ok (.aload_n 0, 1) := by decide +kernel
theorem dX0_occupied_7 : decode cX0_occupied 7 = .ok (.getfield 23, 3) := by decide +kernel
theorem dX0_occupied_10 : decode cX0_occupied 10 = .ok (.iconst 1, 1) := by decide +kernel
theorem dX0_occupied_11 : decode cX0_occupied 11 = .ok (.laload, 1) := by decide +kernel
theorem dX0_occupied_12 : decode cX0_occupied 12 = .ok (.lor, 1) := by decide +kernel
theorem dX0_occupied_13 : decode cX0_occupied 13 = .ok (.lreturn, 1) := by decide +kernel
def aX0_occupied_0 (mc ms : Nat) (X : Nat → zV) (Q : zQt) : zT :=
  zla 0 <| zgR 0 3 <| zc (.int 0) <| zall <| zla 0 <| zgR 0 3 <| zc (.int 1) <| zall <| zjj (fun x y => x ||| y) <| zrl Q
def lvX0_occupied : Nat → List Nat := fun L => match L with
  | 0 => [0]
  | _ => []
def wX0_occupied : zSp := fun mc ms av M Q => ((zlay av).length ≤ 1 ∧ zpick (zlay av) [0] = some av) ∧ ∀ X : Nat → zV, zin 1 [0] (aX0_occupied_0 mc ms X Q) X 0 → X 0 0 0 av [] M
set_option maxRecDepth 100000 in
set_option maxHeartbeats 4000000 in
theorem sX0_occupied (l : Launch) (G : zG) : zSnd l G yX0_occupied cX0_occupied 1 (some .long) 0 0 wX0_occupied := by
  refine zmk [0] (by decide) (fun mc ms av M Q h => h.1) ?_
  intro p e R s m args below meth c mc ms av M Q hC hRf hRl hr hnm h lv hlv
  obtain ⟨X, hXe⟩ : ∃ X : Nat → zV, X = fun L u v vs st M => ∀ lv, zpick lv (lvX0_occupied L) = some vs → zAt p l e R s m args below meth c (MQ below (zQ G Q) args s mc ms (zA G)) G 1 L u v lv st M := ⟨_, rfl⟩
  have hJ : ∀ L, zOk p l e R s m args below meth c (MQ below (zQ G Q) args s mc ms (zA G)) G 1 L (zj X L (lvX0_occupied L)) := fun L => S_jump (fun u v lv vs st M hp hx => by rw [hXe] at hx; exact hx lv hp)
  have hB0 : zin 1 [0] (aX0_occupied_0 mc ms X Q) X 0 := by
    intro u v vs st M hb
    rw [hXe]
    refine fun lv hp => S_block (L := 0) (live := [0]) ?_ u v lv vs st M hp hb
    unfold aX0_occupied_0
    refine S_aload_n (pc := 0) hC dX0_occupied_0 rfl ?_
    refine S_getR (pc := 1) hC cfX0 (by decide) (Or.inr ⟨_, rfl⟩) wd_225 dX0_occupied_1 ?_
    refine S_iconst (pc := 4) hC dX0_occupied_4 (by decide) ?_
    refine S_laload (pc := 5) hC dX0_occupied_5 ?_
    refine S_aload_n (pc := 6) hC dX0_occupied_6 rfl ?_
    refine S_getR (pc := 7) hC cfX0 (by decide) (Or.inr ⟨_, rfl⟩) wd_225 dX0_occupied_7 ?_
    refine S_iconst (pc := 10) hC dX0_occupied_10 (by decide) ?_
    refine S_laload (pc := 11) hC dX0_occupied_11 ?_
    refine S_lor (pc := 12) hC dX0_occupied_12 ?_
    exact S_lreturn (pc := 13) hC hr dX0_occupied_13
  have := h.2 X hB0
  rw [hXe] at this
  exact this lv hlv
theorem vX0_occupied_0 {mc ms : Nat} {X : Nat → zV} {Q : zQt} {M : zM} {g : Nat}  (hW : zWd M g)  (h : Q (some (.long ((((M : zM).2.1 ((g + 4)) (0 : Int32).toNatClampNeg) ||| ((M : zM).2.1 ((g + 4)) (1 : Int32).toNatClampNeg))))) M) : aX0_occupied_0 mc ms X Q 0 0 [some (.ref (g + 1))] [] M := ⟨(fgs_1 hW), (g + 4), (fgr_1_3 hW), ⟨2, (fgs_4 hW), by unfold vp_in; decide, ⟨(fgs_1 hW), (g + 4), (fgr_1_3 hW), ⟨2, (fgs_4 hW), by unfold vp_in; decide, h⟩⟩⟩⟩
theorem dX0_manyMen_0 : decode cX0_manyMen 0 = .ok (.aload_n 0, 1) := by decide +kernel
theorem dX0_manyMen_1 : decode cX0_manyMen 1 = .ok (.getfield 23, 3) := by decide +kernel
theorem dX0_manyMen_4 : decode cX0_manyMen 4 = .ok (.iconst 0, 1) := by decide +kernel
theorem dX0_manyMen_5 : decode cX0_manyMen 5 = .ok (.laload, 1) := by decide +kernel
theorem dX0_manyMen_6 : decode cX0_manyMen 6 = .ok (.aload_n 0, 1) := by decide +kernel
theorem dX0_manyMen_7 : decode cX0_manyMen 7 = .ok (.getfield 23, 3) := by decide +kernel
theorem dX0_manyMen_10 : decode cX0_manyMen 10 = .ok (.iconst 1, 1) := by decide +kernel
theorem dX0_manyMen_11 : decode cX0_manyMen 11 = .ok (.laload, 1) := by decide +kernel
theorem dX0_manyMen_12 : decode cX0_manyMen 12 = .ok (.lor, 1) := by decide +kernel
theorem dX0_manyMen_13 : decode cX0_manyMen 13 = .ok (.invokestatic 60, 3) := by decide +kernel
theorem dX0_manyMen_16 : decode cX0_manyMen 16 = .ok (.ireturn, 1) := by decide +kernel
def kX0_manyMen_16 (mc ms : Nat) (X : Nat → zV) (Q : zQt) : zT :=
  zri Q
def aX0_manyMen_0 (mc ms : Nat) (X : Nat → zV) (Q : zQt) : zT :=
  zla 0 <| zgR 0 3 <| zc (.int 0) <| zall <| zla 0 <| zgR 0 3 <| zc (.int 1) <| zall <| zjj (fun x y => x ||| y) <| zcs mc ms 1 wJ13_bitCount_95d88 <| kX0_manyMen_16 mc ms X Q
def lvX0_manyMen : Nat → List Nat := fun L => match L with
  | 0 => [0]
  | _ => []
def wX0_manyMen : zSp := fun mc ms av M Q => ((zlay av).length ≤ 1 ∧ zpick (zlay av) [0] = some av) ∧ ∀ X : Nat → zV, zin 1 [0] (aX0_manyMen_0 mc ms X Q) X 0 → X 0 0 0 av [] M
set_option maxRecDepth 100000 in
set_option maxHeartbeats 4000000 in
theorem sX0_manyMen (l : Launch) (G : zG) : zSnd l G yX0_manyMen cX0_manyMen 1 (some .int) 1 21 wX0_manyMen := by
  refine zmk [0] (by decide) (fun mc ms av M Q h => h.1) ?_
  intro p e R s m args below meth c mc ms av M Q hC hRf hRl hr hnm h lv hlv
  obtain ⟨X, hXe⟩ : ∃ X : Nat → zV, X = fun L u v vs st M => ∀ lv, zpick lv (lvX0_manyMen L) = some vs → zAt p l e R s m args below meth c (MQ below (zQ G Q) args s mc ms (zA G)) G 1 L u v lv st M := ⟨_, rfl⟩
  have hJ : ∀ L, zOk p l e R s m args below meth c (MQ below (zQ G Q) args s mc ms (zA G)) G 1 L (zj X L (lvX0_manyMen L)) := fun L => S_jump (fun u v lv vs st M hp hx => by rw [hXe] at hx; exact hx lv hp)
  have hB0 : zin 1 [0] (aX0_manyMen_0 mc ms X Q) X 0 := by
    intro u v vs st M hb
    rw [hXe]
    refine fun lv hp => S_block (L := 0) (live := [0]) ?_ u v lv vs st M hp hb
    unfold aX0_manyMen_0
    refine S_aload_n (pc := 0) hC dX0_manyMen_0 rfl ?_
    refine S_getR (pc := 1) hC cfX0 (by decide) (Or.inr ⟨_, rfl⟩) wd_225 dX0_manyMen_1 ?_
    refine S_iconst (pc := 4) hC dX0_manyMen_4 (by decide) ?_
    refine S_laload (pc := 5) hC dX0_manyMen_5 ?_
    refine S_aload_n (pc := 6) hC dX0_manyMen_6 rfl ?_
    refine S_getR (pc := 7) hC cfX0 (by decide) (Or.inr ⟨_, rfl⟩) wd_225 dX0_manyMen_7 ?_
    refine S_iconst (pc := 10) hC dX0_manyMen_10 (by decide) ?_
    refine S_laload (pc := 11) hC dX0_manyMen_11 ?_
    refine S_lor (pc := 12) hC dX0_manyMen_12 ?_
    refine S_callS (pc := 13) hC (sJ13_bitCount_95d88 l G) wd_437 wd_438 wd_25 wd_439 (by decide +kernel) ⟨by rw [hRf]; decide, by rw [hRl]; decide⟩ dX0_manyMen_13 ?_
    unfold kX0_manyMen_16
    exact S_ireturn (pc := 16) hC hr dX0_manyMen_16
  have := h.2 X hB0
  rw [hXe] at this
  exact this lv hlv
theorem vX0_manyMen_0 {mc ms : Nat} {X : Nat → zV} {Q : zQt} {M : zM} {g : Nat}  (hW : zWd M g)  (h : wJ13_bitCount_95d88 0 0 [.long (((M : zM).2.1 ((g + 4)) (0 : Int32).toNatClampNeg) ||| ((M : zM).2.1 ((g + 4)) (1 : Int32).toNatClampNeg))] M (fun r M1 => kX0_manyMen_16 mc ms X Q 0 0 [some (.ref (g + 1))] (r.toList ++ []) M1)) : aX0_manyMen_0 mc ms X Q 0 0 [some (.ref (g + 1))] [] M := ⟨(fgs_1 hW), (g + 4), (fgr_1_3 hW), ⟨2, (fgs_4 hW), by unfold vp_in; decide, ⟨(fgs_1 hW), (g + 4), (fgr_1_3 hW), ⟨2, (fgs_4 hW), by unfold vp_in; decide, ⟨Nat.le_of_ble_eq_true rfl, rfl, 0, 0, Nat.zero_le _, Nat.zero_le _, h⟩⟩⟩⟩⟩
theorem vkX0_manyMen_16 {mc ms : Nat} {X : Nat → zV} {Q : zQt} {M : zM} {g : Nat} {s0 : Int32} (hW : zWd M g)  (h : Q (some (.int s0)) M) : kX0_manyMen_16 mc ms X Q 0 0 [some (.ref (g + 1))] [.int s0] M := h
theorem dX0_put_0 : decode cX0_put 0 = .ok (.lconst 1, 1) := by decide +kernel
theorem dX0_put_1 : decode cX0_put 1 = .ok (.iload_n 1, 1) := by decide +kernel
theorem dX0_put_2 : decode cX0_put 2 = .ok (.lshl, 1) := by decide +kernel
theorem dX0_put_3 : decode cX0_put 3 = .ok (.lstore_n 3, 1) := by decide +kernel
theorem dX0_put_4 : decode cX0_put 4 = .ok (.aload_n 0, 1) := by decide +kernel
theorem dX0_put_5 : decode cX0_put 5 = .ok (.getfield 15, 3) := by decide +kernel
theorem dX0_put_8 : decode cX0_put 8 = .ok (.iload_n 1, 1) := by decide +kernel
theorem dX0_put_9 : decode cX0_put 9 = .ok (.iload_n 2, 1) := by decide +kernel
theorem dX0_put_10 : decode cX0_put 10 = .ok (.iastore, 1) := by decide +kernel
theorem dX0_put_11 : decode cX0_put 11 = .ok (.aload_n 0, 1) := by decide +kernel
theorem dX0_put_12 : decode cX0_put 12 = .ok (.getfield 19, 3) := by decide +kernel
theorem dX0_put_15 : decode cX0_put 15 = .ok (.iload_n 2, 1) := by decide +kernel
theorem dX0_put_16 : decode cX0_put 16 = .ok (.dup2, 1) := by decide +kernel
theorem dX0_put_17 : decode cX0_put 17 = .ok (.laload, 1) := by decide +kernel
theorem dX0_put_18 : decode cX0_put 18 = .ok (.lload_n 3, 1) := by decide +kernel
theorem dX0_put_19 : decode cX0_put 19 = .ok (.lor, 1) := by decide +kernel
theorem dX0_put_20 : decode cX0_put 20 = .ok (.lastore, 1) := by decide +kernel
theorem dX0_put_21 : decode cX0_put 21 = .ok (.aload_n 0, 1) := by decide +kernel
theorem dX0_put_22 : decode cX0_put 22 = .ok (.getfield 23, 3) := by decide +kernel
theorem dX0_put_25 : decode cX0_put 25 = .ok (.iload_n 2, 1) := by decide +kernel
theorem dX0_put_26 : decode cX0_put 26 = .ok (.bipush 6, 2) := by decide +kernel
theorem dX0_put_28 : decode cX0_put 28 = .ok (.if_icmp .le 7, 3) := by decide +kernel
theorem dX0_put_31 : decode cX0_put 31 = .ok (.iconst 1, 1) := by decide +kernel
theorem dX0_put_32 : decode cX0_put 32 = .ok (.goto 4, 3) := by decide +kernel
theorem dX0_put_35 : decode cX0_put 35 = .ok (.iconst 0, 1) := by decide +kernel
theorem dX0_put_36 : decode cX0_put 36 = .ok (.dup2, 1) := by decide +kernel
theorem dX0_put_37 : decode cX0_put 37 = .ok (.laload, 1) := by decide +kernel
theorem dX0_put_38 : decode cX0_put 38 = .ok (.lload_n 3, 1) := by decide +kernel
theorem dX0_put_39 : decode cX0_put 39 = .ok (.lor, 1) := by decide +kernel
theorem dX0_put_40 : decode cX0_put 40 = .ok (.lastore, 1) := by decide +kernel
theorem dX0_put_41 : decode cX0_put 41 = .ok (.aload_n 0, 1) := by decide +kernel
theorem dX0_put_42 : decode cX0_put 42 = .ok (.dup, 1) := by decide +kernel
theorem dX0_put_43 : decode cX0_put 43 = .ok (.getfield 54, 3) := by decide +kernel
theorem dX0_put_46 : decode cX0_put 46 = .ok (.getstatic 66, 3) := by decide +kernel
theorem dX0_put_49 : decode cX0_put 49 = .ok (.iload_n 2, 1) := by decide +kernel
theorem dX0_put_50 : decode cX0_put 50 = .ok (.iaload, 1) := by decide +kernel
theorem dX0_put_51 : decode cX0_put 51 = .ok (.iadd, 1) := by decide +kernel
theorem dX0_put_52 : decode cX0_put 52 = .ok (.putfield 54, 3) := by decide +kernel
theorem dX0_put_55 : decode cX0_put 55 = .ok (.return_, 1) := by decide +kernel
def kX0_put_4 (mc ms : Nat) (X : Nat → zV) (Q : zQt) : zT :=
  zla 0 <| zgR 0 1 <| zli 1 <| zli 2 <| zas 1 (fun x => x) <| zla 0 <| zgR 0 2 <| zli 2 <| zdp2 <| zall <| zll 3 <| zjj (fun x y => x ||| y) <| zasl <| zla 0 <| zgR 0 3 <| zli 2 <| zc (.int 6) <| zic (fun x y => x ≤ y) (zc (.int 0) <| zj X 36 [0, 2, 3]) <| zc (.int 1) <| zj X 36 [0, 2, 3]
def aX0_put_0 (mc ms : Nat) (X : Nat → zV) (Q : zQt) : zT :=
  zc (.long 1) <| zli 1 <| zji (fun x y => x <<< (y.toInt64 &&& 63)) <| zslN 3 <| kX0_put_4 mc ms X Q
def aX0_put_36 (mc ms : Nat) (X : Nat → zV) (Q : zQt) : zT :=
  zdp2 <| zall <| zll 3 <| zjj (fun x y => x ||| y) <| zasl <| zla 0 <| zdup <| zgi 0 9 <| zgs 4 <| zli 2 <| zxl 4 <| zii (fun x y => x + y) <| zpi 0 9 <| zrv Q
def lvX0_put : Nat → List Nat := fun L => match L with
  | 0 => [0, 1, 2]
  | 36 => [0, 2, 3]
  | _ => []
def wX0_put : zSp := fun mc ms av M Q => ((zlay av).length ≤ 5 ∧ zpick (zlay av) [0, 1, 2] = some av) ∧ ∀ X : Nat → zV, zin 5 [0, 1, 2] (aX0_put_0 mc ms X Q) X 0 → zin 5 [0, 2, 3] (aX0_put_36 mc ms X Q) X 36 → X 0 0 0 av [] M
set_option maxRecDepth 100000 in
set_option maxHeartbeats 4000000 in
theorem sX0_put (l : Launch) (G : zG) (hG : zStat G) : zSnd l G yX0_put cX0_put 5 none 0 0 wX0_put := by
  refine zmk [0, 1, 2] (by decide) (fun mc ms av M Q h => h.1) ?_
  intro p e R s m args below meth c mc ms av M Q hC hRf hRl hr hnm h lv hlv
  obtain ⟨X, hXe⟩ : ∃ X : Nat → zV, X = fun L u v vs st M => ∀ lv, zpick lv (lvX0_put L) = some vs → zAt p l e R s m args below meth c (MQ below (zQ G Q) args s mc ms (zA G)) G 5 L u v lv st M := ⟨_, rfl⟩
  have hJ : ∀ L, zOk p l e R s m args below meth c (MQ below (zQ G Q) args s mc ms (zA G)) G 5 L (zj X L (lvX0_put L)) := fun L => S_jump (fun u v lv vs st M hp hx => by rw [hXe] at hx; exact hx lv hp)
  have hB0 : zin 5 [0, 1, 2] (aX0_put_0 mc ms X Q) X 0 := by
    intro u v vs st M hb
    rw [hXe]
    refine fun lv hp => S_block (L := 0) (live := [0, 1, 2]) ?_ u v lv vs st M hp hb
    unfold aX0_put_0
    refine S_lconst (pc := 0) hC dX0_put_0 (by decide) ?_
    refine S_iload_n (pc := 1) hC dX0_put_1 rfl ?_
    refine S_lshl (pc := 2) hC dX0_put_2 ?_
    refine S_lstore_n_N (pc := 3) hC dX0_put_3 rfl (by decide) ?_
    unfold kX0_put_4
    refine S_aload_n (pc := 4) hC dX0_put_4 rfl ?_
    refine S_getR (pc := 5) hC cfX0 (by decide) (Or.inr ⟨_, rfl⟩) wd_213 dX0_put_5 ?_
    refine S_iload_n (pc := 8) hC dX0_put_8 rfl ?_
    refine S_iload_n (pc := 9) hC dX0_put_9 rfl ?_
    refine S_iastore (pc := 10) hC dX0_put_10 ?_
    refine S_aload_n (pc := 11) hC dX0_put_11 rfl ?_
    refine S_getR (pc := 12) hC cfX0 (by decide) (Or.inr ⟨_, rfl⟩) wd_220 dX0_put_12 ?_
    refine S_iload_n (pc := 15) hC dX0_put_15 rfl ?_
    refine S_dup2 (pc := 16) hC dX0_put_16 ?_
    refine S_laload (pc := 17) hC dX0_put_17 ?_
    refine S_lload_n (pc := 18) hC dX0_put_18 rfl ?_
    refine S_lor (pc := 19) hC dX0_put_19 ?_
    refine S_lastore (pc := 20) hC dX0_put_20 ?_
    refine S_aload_n (pc := 21) hC dX0_put_21 rfl ?_
    refine S_getR (pc := 22) hC cfX0 (by decide) (Or.inr ⟨_, rfl⟩) wd_225 dX0_put_22 ?_
    refine S_iload_n (pc := 25) hC dX0_put_25 rfl ?_
    refine S_bipush (pc := 26) hC dX0_put_26 (by decide) ?_
    refine S_icmp_le (pc := 28) (tgt := 35) hC dX0_put_28 (by decide) ?_ ?_
    · refine S_iconst (pc := 35) hC dX0_put_35 (by decide) ?_
      exact hJ 36
    · refine S_iconst (pc := 31) hC dX0_put_31 (by decide) ?_
      refine S_goto (pc := 32) (tgt := 36) hC dX0_put_32 (by decide) ?_
      exact hJ 36
  have hB36 : zin 5 [0, 2, 3] (aX0_put_36 mc ms X Q) X 36 := by
    intro u v vs st M hb
    rw [hXe]
    refine fun lv hp => S_block (L := 36) (live := [0, 2, 3]) ?_ u v lv vs st M hp hb
    unfold aX0_put_36
    refine S_dup2 (pc := 36) hC dX0_put_36 ?_
    refine S_laload (pc := 37) hC dX0_put_37 ?_
    refine S_lload_n (pc := 38) hC dX0_put_38 rfl ?_
    refine S_lor (pc := 39) hC dX0_put_39 ?_
    refine S_lastore (pc := 40) hC dX0_put_40 ?_
    refine S_aload_n (pc := 41) hC dX0_put_41 rfl ?_
    refine S_dup (pc := 42) hC dX0_put_42 ?_
    refine S_geti (pc := 43) hC cfX0 (by decide) (Or.inl rfl) wd_259 dX0_put_43 ?_
    refine S_gets (pc := 46) hC hG (e0 := 4) (by decide) wd_411 dX0_put_46 ?_
    refine S_iload_n (pc := 49) hC dX0_put_49 rfl ?_
    refine S_xload (pc := 50) hC hG (by decide) dX0_put_50 ?_
    refine S_iadd (pc := 51) hC dX0_put_51 ?_
    refine S_puti (pc := 52) hC cfX0 (by decide) rfl (Or.inl rfl) wd_259 dX0_put_52 ?_
    exact S_vreturn (pc := 55) hC hr dX0_put_55
  have := h.2 X hB0 hB36
  rw [hXe] at this
  exact this lv hlv
theorem vcX0_put_4 {mc ms : Nat} {X : Nat → zV} {Q : zQt} {M : zM} {g : Nat} {x1 : Int32} {x2 : Int32} {x3 : Int64} (hW : zWd M g)  (h : vp_in x1 64 ∧ ∀ M10 : zM, M10 = (zsI M ((g + 2)) (x1 : Int32).toNatClampNeg x2) → vp_in x2 13 ∧ vp_in x2 13 ∧ ∀ M20 : zM, M20 = (zsJ M10 ((g + 3)) (x2 : Int32).toNatClampNeg ((((M10 : zM).2.1 ((g + 3)) (x2 : Int32).toNatClampNeg) ||| x3))) → (x2 ≤ (6 : Int32) → X 36 0 0 [.ref (g + 1), .int x2, .long x3] [.int 0, .ref (g + 4)] M20) ∧ (¬ x2 ≤ (6 : Int32) → X 36 0 0 [.ref (g + 1), .int x2, .long x3] [.int 1, .ref (g + 4)] M20)) : kX0_put_4 mc ms X Q 0 0 [some (.ref (g + 1)), some (.int x1), some (.int x2), some (.long x3), none] [] M := ⟨(fgs_1 hW), (g + 2), (fgr_1_1 hW), ⟨64, (fgs_2 hW), h.1, (have h10 := h.2 _ rfl; ⟨(fgs_1 hW), (g + 3), (fgr_1_2 hW), ⟨13, (fgs_3 hW), h10.1, ⟨13, (fgs_3 hW), h10.2.1, (have h20 := h10.2.2 _ rfl; ⟨(fgs_1 hW), (g + 4), (fgr_1_3 hW), ⟨fun c28 => (h20.1 c28), fun c28 => (h20.2 c28)⟩⟩)⟩⟩⟩)⟩⟩
theorem vX0_put_0 {mc ms : Nat} {X : Nat → zV} {Q : zQt} {M : zM} {g : Nat} {x1 : Int32} {x2 : Int32} (hW : zWd M g)  (h : ∀ y3 : Int64, y3 = ((1 : Int64) <<< (x1.toInt64 &&& 63)) → vp_in x1 64 ∧ ∀ M10 : zM, M10 = (zsI M ((g + 2)) (x1 : Int32).toNatClampNeg x2) → vp_in x2 13 ∧ vp_in x2 13 ∧ ∀ M20 : zM, M20 = (zsJ M10 ((g + 3)) (x2 : Int32).toNatClampNeg ((((M10 : zM).2.1 ((g + 3)) (x2 : Int32).toNatClampNeg) ||| y3))) → (x2 ≤ (6 : Int32) → X 36 0 0 [.ref (g + 1), .int x2, .long y3] [.int 0, .ref (g + 4)] M20) ∧ (¬ x2 ≤ (6 : Int32) → X 36 0 0 [.ref (g + 1), .int x2, .long y3] [.int 1, .ref (g + 4)] M20)) : aX0_put_0 mc ms X Q 0 0 [some (.ref (g + 1)), some (.int x1), some (.int x2), none, none] [] M := (fun y3 e3 => have h3 := h y3 e3; (vcX0_put_4 hW  h3))
theorem vX0_put_36 {mc ms : Nat} {X : Nat → zV} {Q : zQt} {M : zM} {g : Nat} {x2 : Int32} {x3 : Int64} {s0 : Int32} (hW : zWd M g)  (h : vp_in s0 2 ∧ vp_in s0 2 ∧ ∀ M40 : zM, M40 = (zsJ M ((g + 4)) (s0 : Int32).toNatClampNeg ((((M : zM).2.1 ((g + 4)) (s0 : Int32).toNatClampNeg) ||| x3))) → vp_in x2 13 ∧ ∀ M52 : zM, M52 = (zsI M40 ((g + 1)) 9 (((M40.1 ((g + 1)) 9) + ((zstn 4).2.2.getD (x2 : Int32).toNatClampNeg 0)))) → Q none M52) : aX0_put_36 mc ms X Q 0 0 [some (.ref (g + 1)), none, some (.int x2), some (.long x3), none] [.int s0, .ref (g + 4)] M := ⟨2, (fgs_4 hW), h.1, ⟨2, (fgs_4 hW), h.2.1, (have h40 := h.2.2 _ rfl; ⟨(fgs_1 hW), ⟨rfl, h40.1, ⟨(fgs_1 hW), (have h52 := h40.2 _ rfl; h52)⟩⟩⟩)⟩⟩
theorem dX0_lift_0 : decode cX0_lift 0 = .ok (.aload_n 0, 1) := by decide +kernel
theorem dX0_lift_1 : decode cX0_lift 1 = .ok (.getfield 15, 3) := by decide +kernel
theorem dX0_lift_4 : decode cX0_lift 4 = .ok (.iload_n 1, 1) := by decide +kernel
theorem dX0_lift_5 : decode cX0_lift 5 = .ok (.iaload, 1) := by decide +kernel
theorem dX0_lift_6 : decode cX0_lift 6 = .ok (.istore_n 2, 1) := by decide +kernel
theorem dX0_lift_7 : decode cX0_lift 7 = .ok (.lconst 1, 1) := by decide +kernel
theorem dX0_lift_8 : decode cX0_lift 8 = .ok (.iload_n 1, 1) := by decide +kernel
theorem dX0_lift_9 : decode cX0_lift 9 = .ok (.lshl, 1) := by decide +kernel
theorem dX0_lift_10 : decode cX0_lift 10 = .ok (.lstore_n 3, 1) := by decide +kernel
theorem dX0_lift_11 : decode cX0_lift 11 = .ok (.aload_n 0, 1) := by decide +kernel
theorem dX0_lift_12 : decode cX0_lift 12 = .ok (.getfield 15, 3) := by decide +kernel
theorem dX0_lift_15 : decode cX0_lift 15 = .ok (.iload_n 1, 1) := by decide +kernel
theorem dX0_lift_16 : decode cX0_lift 16 = .ok (.iconst 0, 1) := by decide +kernel
theorem dX0_lift_17 : decode cX0_lift 17 = .ok (.iastore, 1) := by decide +kernel
theorem dX0_lift_18 : decode cX0_lift 18 = .ok (.aload_n 0, 1) := by decide +kernel
theorem dX0_lift_19 : decode cX0_lift 19 = .ok (.getfield 19, 3) := by decide +kernel
theorem dX0_lift_22 : decode cX0_lift 22 = .ok (.iload_n 2, 1) := by decide +kernel
theorem dX0_lift_23 : decode cX0_lift 23 = .ok (.dup2, 1) := by decide +kernel
theorem dX0_lift_24 : decode cX0_lift 24 = .ok (.laload, 1) := by decide +kernel
theorem dX0_lift_25 : decode cX0_lift 25 = .ok (.lload_n 3, 1) := by decide +kernel
theorem dX0_lift_26 : decode cX0_lift 26 = .ok (.ldc2_w 69, 3) := by decide +kernel
theorem dX0_lift_29 : decode cX0_lift 29 = .ok (.lxor, 1) := by decide +kernel
theorem dX0_lift_30 : decode cX0_lift 30 = .ok (.land, 1) := by decide +kernel
theorem dX0_lift_31 : decode cX0_lift 31 = .ok (.lastore, 1) := by decide +kernel
theorem dX0_lift_32 : decode cX0_lift 32 = .ok (.aload_n 0, 1) := by decide +kernel
theorem dX0_lift_33 : decode cX0_lift 33 = .ok (.getfield 23, 3) := by decide +kernel
theorem dX0_lift_36 : decode cX0_lift 36 = .ok (.iload_n 2, 1) := by decide +kernel
theorem dX0_lift_37 : decode cX0_lift 37 = .ok (.bipush 6, 2) := by decide +kernel
theorem dX0_lift_39 : decode cX0_lift 39 = .ok (.if_icmp .le 7, 3) := by decide +kernel
theorem dX0_lift_42 : decode cX0_lift 42 = .ok (.iconst 1, 1) := by decide +kernel
theorem dX0_lift_43 : decode cX0_lift 43 = .ok (.goto 4, 3) := by decide +kernel
theorem dX0_lift_46 : decode cX0_lift 46 = .ok (.iconst 0, 1) := by decide +kernel
theorem dX0_lift_47 : decode cX0_lift 47 = .ok (.dup2, 1) := by decide +kernel
theorem dX0_lift_48 : decode cX0_lift 48 = .ok (.laload, 1) := by decide +kernel
theorem dX0_lift_49 : decode cX0_lift 49 = .ok (.lload_n 3, 1) := by decide +kernel
theorem dX0_lift_50 : decode cX0_lift 50 = .ok (.ldc2_w 69, 3) := by decide +kernel
theorem dX0_lift_53 : decode cX0_lift 53 = .ok (.lxor, 1) := by decide +kernel
theorem dX0_lift_54 : decode cX0_lift 54 = .ok (.land, 1) := by decide +kernel
theorem dX0_lift_55 : decode cX0_lift 55 = .ok (.lastore, 1) := by decide +kernel
theorem dX0_lift_56 : decode cX0_lift 56 = .ok (.aload_n 0, 1) := by decide +kernel
theorem dX0_lift_57 : decode cX0_lift 57 = .ok (.dup, 1) := by decide +kernel
theorem dX0_lift_58 : decode cX0_lift 58 = .ok (.getfield 54, 3) := by decide +kernel
theorem dX0_lift_61 : decode cX0_lift 61 = .ok (.getstatic 66, 3) := by decide +kernel
theorem dX0_lift_64 : decode cX0_lift 64 = .ok (.iload_n 2, 1) := by decide +kernel
theorem dX0_lift_65 : decode cX0_lift 65 = .ok (.iaload, 1) := by decide +kernel
theorem dX0_lift_66 : decode cX0_lift 66 = .ok (.isub, 1) := by decide +kernel
theorem dX0_lift_67 : decode cX0_lift 67 = .ok (.putfield 54, 3) := by decide +kernel
theorem dX0_lift_70 : decode cX0_lift 70 = .ok (.return_, 1) := by decide +kernel
def kX0_lift_11 (mc ms : Nat) (X : Nat → zV) (Q : zQt) : zT :=
  zla 0 <| zgR 0 1 <| zli 1 <| zc (.int 0) <| zas 1 (fun x => x) <| zla 0 <| zgR 0 2 <| zli 2 <| zdp2 <| zall <| zll 3 <| zc (.long (-1)) <| zjj (fun x y => x ^^^ y) <| zjj (fun x y => x &&& y) <| zasl <| zla 0 <| zgR 0 3 <| zli 2 <| zc (.int 6) <| zic (fun x y => x ≤ y) (zc (.int 0) <| zj X 47 [0, 2, 3]) <| zc (.int 1) <| zj X 47 [0, 2, 3]
def kX0_lift_7 (mc ms : Nat) (X : Nat → zV) (Q : zQt) : zT :=
  zc (.long 1) <| zli 1 <| zji (fun x y => x <<< (y.toInt64 &&& 63)) <| zslN 3 <| kX0_lift_11 mc ms X Q
def aX0_lift_0 (mc ms : Nat) (X : Nat → zV) (Q : zQt) : zT :=
  zla 0 <| zgR 0 1 <| zli 1 <| zal 1 <| zsiN 2 <| kX0_lift_7 mc ms X Q
def aX0_lift_47 (mc ms : Nat) (X : Nat → zV) (Q : zQt) : zT :=
  zdp2 <| zall <| zll 3 <| zc (.long (-1)) <| zjj (fun x y => x ^^^ y) <| zjj (fun x y => x &&& y) <| zasl <| zla 0 <| zdup <| zgi 0 9 <| zgs 4 <| zli 2 <| zxl 4 <| zii (fun x y => x - y) <| zpi 0 9 <| zrv Q
def lvX0_lift : Nat → List Nat := fun L => match L with
  | 0 => [0, 1]
  | 47 => [0, 2, 3]
  | _ => []
def wX0_lift : zSp := fun mc ms av M Q => ((zlay av).length ≤ 5 ∧ zpick (zlay av) [0, 1] = some av) ∧ ∀ X : Nat → zV, zin 5 [0, 1] (aX0_lift_0 mc ms X Q) X 0 → zin 5 [0, 2, 3] (aX0_lift_47 mc ms X Q) X 47 → X 0 0 0 av [] M
set_option maxRecDepth 100000 in
set_option maxHeartbeats 4000000 in
theorem sX0_lift (l : Launch) (G : zG) (hG : zStat G) : zSnd l G yX0_lift cX0_lift 5 none 0 0 wX0_lift := by
  refine zmk [0, 1] (by decide) (fun mc ms av M Q h => h.1) ?_
  intro p e R s m args below meth c mc ms av M Q hC hRf hRl hr hnm h lv hlv
  obtain ⟨X, hXe⟩ : ∃ X : Nat → zV, X = fun L u v vs st M => ∀ lv, zpick lv (lvX0_lift L) = some vs → zAt p l e R s m args below meth c (MQ below (zQ G Q) args s mc ms (zA G)) G 5 L u v lv st M := ⟨_, rfl⟩
  have hJ : ∀ L, zOk p l e R s m args below meth c (MQ below (zQ G Q) args s mc ms (zA G)) G 5 L (zj X L (lvX0_lift L)) := fun L => S_jump (fun u v lv vs st M hp hx => by rw [hXe] at hx; exact hx lv hp)
  have hB0 : zin 5 [0, 1] (aX0_lift_0 mc ms X Q) X 0 := by
    intro u v vs st M hb
    rw [hXe]
    refine fun lv hp => S_block (L := 0) (live := [0, 1]) ?_ u v lv vs st M hp hb
    unfold aX0_lift_0
    refine S_aload_n (pc := 0) hC dX0_lift_0 rfl ?_
    refine S_getR (pc := 1) hC cfX0 (by decide) (Or.inr ⟨_, rfl⟩) wd_213 dX0_lift_1 ?_
    refine S_iload_n (pc := 4) hC dX0_lift_4 rfl ?_
    refine S_iaload (pc := 5) hC dX0_lift_5 ?_
    refine S_istore_n_N (pc := 6) hC dX0_lift_6 rfl (by decide) ?_
    unfold kX0_lift_7
    refine S_lconst (pc := 7) hC dX0_lift_7 (by decide) ?_
    refine S_iload_n (pc := 8) hC dX0_lift_8 rfl ?_
    refine S_lshl (pc := 9) hC dX0_lift_9 ?_
    refine S_lstore_n_N (pc := 10) hC dX0_lift_10 rfl (by decide) ?_
    unfold kX0_lift_11
    refine S_aload_n (pc := 11) hC dX0_lift_11 rfl ?_
    refine S_getR (pc := 12) hC cfX0 (by decide) (Or.inr ⟨_, rfl⟩) wd_213 dX0_lift_12 ?_
    refine S_iload_n (pc := 15) hC dX0_lift_15 rfl ?_
    refine S_iconst (pc := 16) hC dX0_lift_16 (by decide) ?_
    refine S_iastore (pc := 17) hC dX0_lift_17 ?_
    refine S_aload_n (pc := 18) hC dX0_lift_18 rfl ?_
    refine S_getR (pc := 19) hC cfX0 (by decide) (Or.inr ⟨_, rfl⟩) wd_220 dX0_lift_19 ?_
    refine S_iload_n (pc := 22) hC dX0_lift_22 rfl ?_
    refine S_dup2 (pc := 23) hC dX0_lift_23 ?_
    refine S_laload (pc := 24) hC dX0_lift_24 ?_
    refine S_lload_n (pc := 25) hC dX0_lift_25 rfl ?_
    refine S_ldc2 (pc := 26) hC wd_410 dX0_lift_26 ?_
    refine S_lxor (pc := 29) hC dX0_lift_29 ?_
    refine S_land (pc := 30) hC dX0_lift_30 ?_
    refine S_lastore (pc := 31) hC dX0_lift_31 ?_
    refine S_aload_n (pc := 32) hC dX0_lift_32 rfl ?_
    refine S_getR (pc := 33) hC cfX0 (by decide) (Or.inr ⟨_, rfl⟩) wd_225 dX0_lift_33 ?_
    refine S_iload_n (pc := 36) hC dX0_lift_36 rfl ?_
    refine S_bipush (pc := 37) hC dX0_lift_37 (by decide) ?_
    refine S_icmp_le (pc := 39) (tgt := 46) hC dX0_lift_39 (by decide) ?_ ?_
    · refine S_iconst (pc := 46) hC dX0_lift_46 (by decide) ?_
      exact hJ 47
    · refine S_iconst (pc := 42) hC dX0_lift_42 (by decide) ?_
      refine S_goto (pc := 43) (tgt := 47) hC dX0_lift_43 (by decide) ?_
      exact hJ 47
  have hB47 : zin 5 [0, 2, 3] (aX0_lift_47 mc ms X Q) X 47 := by
    intro u v vs st M hb
    rw [hXe]
    refine fun lv hp => S_block (L := 47) (live := [0, 2, 3]) ?_ u v lv vs st M hp hb
    unfold aX0_lift_47
    refine S_dup2 (pc := 47) hC dX0_lift_47 ?_
    refine S_laload (pc := 48) hC dX0_lift_48 ?_
    refine S_lload_n (pc := 49) hC dX0_lift_49 rfl ?_
    refine S_ldc2 (pc := 50) hC wd_410 dX0_lift_50 ?_
    refine S_lxor (pc := 53) hC dX0_lift_53 ?_
    refine S_land (pc := 54) hC dX0_lift_54 ?_
    refine S_lastore (pc := 55) hC dX0_lift_55 ?_
    refine S_aload_n (pc := 56) hC dX0_lift_56 rfl ?_
    refine S_dup (pc := 57) hC dX0_lift_57 ?_
    refine S_geti (pc := 58) hC cfX0 (by decide) (Or.inl rfl) wd_259 dX0_lift_58 ?_
    refine S_gets (pc := 61) hC hG (e0 := 4) (by decide) wd_411 dX0_lift_61 ?_
    refine S_iload_n (pc := 64) hC dX0_lift_64 rfl ?_
    refine S_xload (pc := 65) hC hG (by decide) dX0_lift_65 ?_
    refine S_isub (pc := 66) hC dX0_lift_66 ?_
    refine S_puti (pc := 67) hC cfX0 (by decide) rfl (Or.inl rfl) wd_259 dX0_lift_67 ?_
    exact S_vreturn (pc := 70) hC hr dX0_lift_70
  have := h.2 X hB0 hB47
  rw [hXe] at this
  exact this lv hlv
theorem vcX0_lift_11 {mc ms : Nat} {X : Nat → zV} {Q : zQt} {M : zM} {g : Nat} {x1 : Int32} {x2 : Int32} {x3 : Int64} (hW : zWd M g)  (h : vp_in x1 64 ∧ ∀ M17 : zM, M17 = (zsI M ((g + 2)) (x1 : Int32).toNatClampNeg 0) → vp_in x2 13 ∧ vp_in x2 13 ∧ ∀ M31 : zM, M31 = (zsJ M17 ((g + 3)) (x2 : Int32).toNatClampNeg ((((M17 : zM).2.1 ((g + 3)) (x2 : Int32).toNatClampNeg) &&& (x3 ^^^ ((-1) : Int64))))) → (x2 ≤ (6 : Int32) → X 47 0 0 [.ref (g + 1), .int x2, .long x3] [.int 0, .ref (g + 4)] M31) ∧ (¬ x2 ≤ (6 : Int32) → X 47 0 0 [.ref (g + 1), .int x2, .long x3] [.int 1, .ref (g + 4)] M31)) : kX0_lift_11 mc ms X Q 0 0 [some (.ref (g + 1)), some (.int x1), some (.int x2), some (.long x3), none] [] M := ⟨(fgs_1 hW), (g + 2), (fgr_1_1 hW), ⟨64, (fgs_2 hW), h.1, (have h17 := h.2 _ rfl; ⟨(fgs_1 hW), (g + 3), (fgr_1_2 hW), ⟨13, (fgs_3 hW), h17.1, ⟨13, (fgs_3 hW), h17.2.1, (have h31 := h17.2.2 _ rfl; ⟨(fgs_1 hW), (g + 4), (fgr_1_3 hW), ⟨fun c39 => (h31.1 c39), fun c39 => (h31.2 c39)⟩⟩)⟩⟩⟩)⟩⟩
theorem vcX0_lift_7 {mc ms : Nat} {X : Nat → zV} {Q : zQt} {M : zM} {g : Nat} {x1 : Int32} {x2 : Int32} (hW : zWd M g)  (h : ∀ y10 : Int64, y10 = ((1 : Int64) <<< (x1.toInt64 &&& 63)) → vp_in x1 64 ∧ ∀ M17 : zM, M17 = (zsI M ((g + 2)) (x1 : Int32).toNatClampNeg 0) → vp_in x2 13 ∧ vp_in x2 13 ∧ ∀ M31 : zM, M31 = (zsJ M17 ((g + 3)) (x2 : Int32).toNatClampNeg ((((M17 : zM).2.1 ((g + 3)) (x2 : Int32).toNatClampNeg) &&& (y10 ^^^ ((-1) : Int64))))) → (x2 ≤ (6 : Int32) → X 47 0 0 [.ref (g + 1), .int x2, .long y10] [.int 0, .ref (g + 4)] M31) ∧ (¬ x2 ≤ (6 : Int32) → X 47 0 0 [.ref (g + 1), .int x2, .long y10] [.int 1, .ref (g + 4)] M31)) : kX0_lift_7 mc ms X Q 0 0 [some (.ref (g + 1)), some (.int x1), some (.int x2), none, none] [] M := (fun y10 e10 => have h10 := h y10 e10; (vcX0_lift_11 hW  h10))
theorem vX0_lift_0 {mc ms : Nat} {X : Nat → zV} {Q : zQt} {M : zM} {g : Nat} {x1 : Int32} (hW : zWd M g)  (h : vp_in x1 64 ∧ ∀ y6 : Int32, y6 = ((M : zM).1 ((g + 2)) (x1 : Int32).toNatClampNeg) → ∀ y10 : Int64, y10 = ((1 : Int64) <<< (x1.toInt64 &&& 63)) → vp_in x1 64 ∧ ∀ M17 : zM, M17 = (zsI M ((g + 2)) (x1 : Int32).toNatClampNeg 0) → vp_in y6 13 ∧ vp_in y6 13 ∧ ∀ M31 : zM, M31 = (zsJ M17 ((g + 3)) (y6 : Int32).toNatClampNeg ((((M17 : zM).2.1 ((g + 3)) (y6 : Int32).toNatClampNeg) &&& (y10 ^^^ ((-1) : Int64))))) → (y6 ≤ (6 : Int32) → X 47 0 0 [.ref (g + 1), .int y6, .long y10] [.int 0, .ref (g + 4)] M31) ∧ (¬ y6 ≤ (6 : Int32) → X 47 0 0 [.ref (g + 1), .int y6, .long y10] [.int 1, .ref (g + 4)] M31)) : aX0_lift_0 mc ms X Q 0 0 [some (.ref (g + 1)), some (.int x1), none, none, none] [] M := ⟨(fgs_1 hW), (g + 2), (fgr_1_1 hW), ⟨64, (fgs_2 hW), h.1, (fun y6 e6 => have h6 := h.2 y6 e6; (vcX0_lift_7 hW  h6))⟩⟩
theorem vX0_lift_47 {mc ms : Nat} {X : Nat → zV} {Q : zQt} {M : zM} {g : Nat} {x2 : Int32} {x3 : Int64} {s0 : Int32} (hW : zWd M g)  (h : vp_in s0 2 ∧ vp_in s0 2 ∧ ∀ M55 : zM, M55 = (zsJ M ((g + 4)) (s0 : Int32).toNatClampNeg ((((M : zM).2.1 ((g + 4)) (s0 : Int32).toNatClampNeg) &&& (x3 ^^^ ((-1) : Int64))))) → vp_in x2 13 ∧ ∀ M67 : zM, M67 = (zsI M55 ((g + 1)) 9 (((M55.1 ((g + 1)) 9) - ((zstn 4).2.2.getD (x2 : Int32).toNatClampNeg 0)))) → Q none M67) : aX0_lift_47 mc ms X Q 0 0 [some (.ref (g + 1)), none, some (.int x2), some (.long x3), none] [.int s0, .ref (g + 4)] M := ⟨2, (fgs_4 hW), h.1, ⟨2, (fgs_4 hW), h.2.1, (have h55 := h.2.2 _ rfl; ⟨(fgs_1 hW), ⟨rfl, h55.1, ⟨(fgs_1 hW), (have h67 := h55.2 _ rfl; h67)⟩⟩⟩)⟩⟩
theorem dX0_kingOf_0 : decode cX0_kingOf 0 = .ok (.aload_n 0, 1) := by decide +kernel
theorem dX0_kingOf_1 : decode cX0_kingOf 1 = .ok (.getfield 19, 3) := by decide +kernel
theorem dX0_kingOf_4 : decode cX0_kingOf 4 = .ok (.bipush 6, 2) := by decide +kernel
theorem dX0_kingOf_6 : decode cX0_kingOf 6 = .ok (.bipush 6, 2) := by decide +kernel
theorem dX0_kingOf_8 : decode cX0_kingOf 8 = .ok (.iload_n 1, 1) := by decide +kernel
theorem dX0_kingOf_9 : decode cX0_kingOf 9 = .ok (.imul, 1) := by decide +kernel
theorem dX0_kingOf_10 : decode cX0_kingOf 10 = .ok (.iadd, 1) := by decide +kernel
theorem dX0_kingOf_11 : decode cX0_kingOf 11 = .ok (.laload, 1) := by decide +kernel
theorem dX0_kingOf_12 : decode cX0_kingOf 12 = .ok (.invokestatic 71, 3) := by decide +kernel
theorem dX0_kingOf_15 : decode cX0_kingOf 15 = .ok (.ireturn, 1) := by decide +kernel
def kX0_kingOf_15 (mc ms : Nat) (X : Nat → zV) (Q : zQt) : zT :=
  zri Q
def aX0_kingOf_0 (mc ms : Nat) (X : Nat → zV) (Q : zQt) : zT :=
  zla 0 <| zgR 0 2 <| zc (.int 6) <| zc (.int 6) <| zli 1 <| zii (fun x y => x * y) <| zii (fun x y => x + y) <| zall <| zcs mc ms 1 wX0_lowest <| kX0_kingOf_15 mc ms X Q
def lvX0_kingOf : Nat → List Nat := fun L => match L with
  | 0 => [0, 1]
  | _ => []
def wX0_kingOf : zSp := fun mc ms av M Q => ((zlay av).length ≤ 2 ∧ zpick (zlay av) [0, 1] = some av) ∧ ∀ X : Nat → zV, zin 2 [0, 1] (aX0_kingOf_0 mc ms X Q) X 0 → X 0 0 0 av [] M
set_option maxRecDepth 100000 in
set_option maxHeartbeats 4000000 in
theorem sX0_kingOf (l : Launch) (G : zG) : zSnd l G yX0_kingOf cX0_kingOf 2 (some .int) 2 42 wX0_kingOf := by
  refine zmk [0, 1] (by decide) (fun mc ms av M Q h => h.1) ?_
  intro p e R s m args below meth c mc ms av M Q hC hRf hRl hr hnm h lv hlv
  obtain ⟨X, hXe⟩ : ∃ X : Nat → zV, X = fun L u v vs st M => ∀ lv, zpick lv (lvX0_kingOf L) = some vs → zAt p l e R s m args below meth c (MQ below (zQ G Q) args s mc ms (zA G)) G 2 L u v lv st M := ⟨_, rfl⟩
  have hJ : ∀ L, zOk p l e R s m args below meth c (MQ below (zQ G Q) args s mc ms (zA G)) G 2 L (zj X L (lvX0_kingOf L)) := fun L => S_jump (fun u v lv vs st M hp hx => by rw [hXe] at hx; exact hx lv hp)
  have hB0 : zin 2 [0, 1] (aX0_kingOf_0 mc ms X Q) X 0 := by
    intro u v vs st M hb
    rw [hXe]
    refine fun lv hp => S_block (L := 0) (live := [0, 1]) ?_ u v lv vs st M hp hb
    unfold aX0_kingOf_0
    refine S_aload_n (pc := 0) hC dX0_kingOf_0 rfl ?_
    refine S_getR (pc := 1) hC cfX0 (by decide) (Or.inr ⟨_, rfl⟩) wd_220 dX0_kingOf_1 ?_
    refine S_bipush (pc := 4) hC dX0_kingOf_4 (by decide) ?_
    refine S_bipush (pc := 6) hC dX0_kingOf_6 (by decide) ?_
    refine S_iload_n (pc := 8) hC dX0_kingOf_8 rfl ?_
    refine S_imul (pc := 9) hC dX0_kingOf_9 ?_
    refine S_iadd (pc := 10) hC dX0_kingOf_10 ?_
    refine S_laload (pc := 11) hC dX0_kingOf_11 ?_
    refine S_callS (pc := 12) hC (sX0_lowest l G) wd_434 wd_435 wd_10 wd_436 (by decide +kernel) ⟨by rw [hRf]; decide, by rw [hRl]; decide⟩ dX0_kingOf_12 ?_
    unfold kX0_kingOf_15
    exact S_ireturn (pc := 15) hC hr dX0_kingOf_15
  have := h.2 X hB0
  rw [hXe] at this
  exact this lv hlv
theorem vX0_kingOf_0 {mc ms : Nat} {X : Nat → zV} {Q : zQt} {M : zM} {g : Nat} {x1 : Int32} (hW : zWd M g)  (h : vp_in (((6 : Int32) + ((6 : Int32) * x1))) 13 ∧ wX0_lowest 0 0 [.long ((M : zM).2.1 ((g + 3)) (((6 : Int32) + ((6 : Int32) * x1)) : Int32).toNatClampNeg)] M (fun r M1 => kX0_kingOf_15 mc ms X Q 0 0 [some (.ref (g + 1)), some (.int x1)] (r.toList ++ []) M1)) : aX0_kingOf_0 mc ms X Q 0 0 [some (.ref (g + 1)), some (.int x1)] [] M := ⟨(fgs_1 hW), (g + 3), (fgr_1_2 hW), ⟨13, (fgs_3 hW), h.1, ⟨Nat.le_of_ble_eq_true rfl, rfl, 0, 0, Nat.zero_le _, Nat.zero_le _, h.2⟩⟩⟩
theorem vkX0_kingOf_15 {mc ms : Nat} {X : Nat → zV} {Q : zQt} {M : zM} {g : Nat} {x1 : Int32} {s0 : Int32} (hW : zWd M g)  (h : Q (some (.int s0)) M) : kX0_kingOf_15 mc ms X Q 0 0 [some (.ref (g + 1)), some (.int x1)] [.int s0] M := h
