theorem dX13_howMany_0 : decode cX13_howMany 0 = .ok (.iconst 0, 1) := by decide +kernel
theorem dX13_howMany_1 : decode cX13_howMany 1 = .ok (.istore_n 2, 1) := by decide +kernel
theorem dX13_howMany_2 : decode cX13_howMany 2 = .ok (.iconst 0, 1) := by decide +kernel
theorem dX13_howMany_3 : decode cX13_howMany 3 = .ok (.istore_n 3, 1) := by decide +kernel
theorem dX13_howMany_4 : decode cX13_howMany 4 = .ok (.iload_n 3, 1) := by decide +kernel
theorem dX13_howMany_5 : decode cX13_howMany 5 = .ok (.bipush 64, 2) := by decide +kernel
theorem dX13_howMany_7 : decode cX13_howMany 7 = .ok (.if_icmp .ge 27, 3) := by decide +kernel
theorem dX13_howMany_10 : decode cX13_howMany 10 = .ok (.iload_n 2, 1) := by decide +kernel
theorem dX13_howMany_11 : decode cX13_howMany 11 = .ok (.aload_n 0, 1) := by decide +kernel
theorem dX13_howMany_12 : decode cX13_howMany 12 = .ok (.getfield 43, 3) := by decide +kernel
theorem dX13_howMany_15 : decode cX13_howMany 15 = .ok (.iload_n 3, 1) := by decide +kernel
theorem dX13_howMany_16 : decode cX13_howMany 16 = .ok (.iaload, 1) := by decide +kernel
theorem dX13_howMany_17 : decode cX13_howMany 17 = .ok (.iload_n 1, 1) := by decide +kernel
theorem dX13_howMany_18 : decode cX13_howMany 18 = .ok (.if_icmp .ne 7, 3) := by decide +kernel
theorem dX13_howMany_21 : decode cX13_howMany 21 = .ok (.iconst 1, 1) := by decide +kernel
theorem dX13_howMany_22 : decode cX13_howMany 22 = .ok (.goto 4, 3) := by decide +kernel
theorem dX13_howMany_25 : decode cX13_howMany 25 = .ok (.iconst 0, 1) := by decide +kernel
theorem dX13_howMany_26 : decode cX13_howMany 26 = .ok (.iadd, 1) := by decide +kernel
theorem dX13_howMany_27 : decode cX13_howMany 27 = .ok (.istore_n 2, 1) := by decide +kernel
theorem dX13_howMany_28 : decode cX13_howMany 28 = .ok (.iinc 3 1, 3) := by decide +kernel
theorem dX13_howMany_31 : decode cX13_howMany 31 = .ok (.goto (-27), 3) := by decide +kernel
theorem dX13_howMany_34 : decode cX13_howMany 34 = .ok (.iload_n 2, 1) := by decide +kernel
theorem dX13_howMany_35 : decode cX13_howMany 35 = .ok (.ireturn, 1) := by decide +kernel
def aX13_howMany_0 (mc ms : Nat) (X : Nat → zV) (Q : zQt) : zT :=
  zc (.int 0) <| zsi 2 <| zc (.int 0) <| zsi 3 <| zj X 4 [0, 1, 2, 3]
def aX13_howMany_4 (mc ms : Nat) (X : Nat → zV) (Q : zQt) : zT :=
  zli 3 <| zc (.int 64) <| zic (fun x y => y ≤ x) (zli 2 <| zri Q) <| zli 2 <| zla 0 <| zgR 13 16 <| zli 3 <| zal 1 <| zli 1 <| zic (fun x y => x = y) (zc (.int 1) <| zj X 26 [0, 1, 3]) <| zc (.int 0) <| zj X 26 [0, 1, 3]
def aX13_howMany_26 (mc ms : Nat) (X : Nat → zV) (Q : zQt) : zT :=
  zii (fun x y => x + y) <| zsi 2 <| zinc 3 1 <| zj X 4 [0, 1, 2, 3]
def lvX13_howMany : Nat → List Nat := fun L => match L with
  | 0 => [0, 1]
  | 4 => [0, 1, 2, 3]
  | 26 => [0, 1, 3]
  | _ => []
def wX13_howMany : zSp := fun mc ms av M Q => ((zlay av).length ≤ 4 ∧ zpick (zlay av) [0, 1] = some av) ∧ ∀ X : Nat → zV, zin 4 [0, 1] (aX13_howMany_0 mc ms X Q) X 0 → zin 4 [0, 1, 2, 3] (aX13_howMany_4 mc ms X Q) X 4 → zin 4 [0, 1, 3] (aX13_howMany_26 mc ms X Q) X 26 → X 0 0 0 av [] M
set_option maxRecDepth 100000 in
set_option maxHeartbeats 4000000 in
theorem sX13_howMany (l : Launch) (G : zG) : zSnd l G yX13_howMany cX13_howMany 4 (some .int) 0 0 wX13_howMany := by
  refine zmk [0, 1] (by decide) (fun mc ms av M Q h => h.1) ?_
  intro p e R s m args below meth c mc ms av M Q hC hRf hRl hr hnm h lv hlv
  obtain ⟨X, hXe⟩ : ∃ X : Nat → zV, X = fun L u v vs st M => ∀ lv, zpick lv (lvX13_howMany L) = some vs → zAt p l e R s m args below meth c (MQ below (zQ G Q) args s mc ms (zA G)) G 4 L u v lv st M := ⟨_, rfl⟩
  have hJ : ∀ L, zOk p l e R s m args below meth c (MQ below (zQ G Q) args s mc ms (zA G)) G 4 L (zj X L (lvX13_howMany L)) := fun L => S_jump (fun u v lv vs st M hp hx => by rw [hXe] at hx; exact hx lv hp)
  have hB0 : zin 4 [0, 1] (aX13_howMany_0 mc ms X Q) X 0 := by
    intro u v vs st M hb
    rw [hXe]
    refine fun lv hp => S_block (L := 0) (live := [0, 1]) ?_ u v lv vs st M hp hb
    unfold aX13_howMany_0
    refine S_iconst (pc := 0) hC dX13_howMany_0 (by decide) ?_
    refine S_istore_n (pc := 1) hC dX13_howMany_1 rfl (by decide) ?_
    refine S_iconst (pc := 2) hC dX13_howMany_2 (by decide) ?_
    refine S_istore_n (pc := 3) hC dX13_howMany_3 rfl (by decide) ?_
    exact hJ 4
  have hB4 : zin 4 [0, 1, 2, 3] (aX13_howMany_4 mc ms X Q) X 4 := by
    intro u v vs st M hb
    rw [hXe]
    refine fun lv hp => S_block (L := 4) (live := [0, 1, 2, 3]) ?_ u v lv vs st M hp hb
    unfold aX13_howMany_4
    refine S_iload_n (pc := 4) hC dX13_howMany_4 rfl ?_
    refine S_bipush (pc := 5) hC dX13_howMany_5 (by decide) ?_
    refine S_icmp_ge (pc := 7) (tgt := 34) hC dX13_howMany_7 (by decide) ?_ ?_
    · refine S_iload_n (pc := 34) hC dX13_howMany_34 rfl ?_
      exact S_ireturn (pc := 35) hC hr dX13_howMany_35
    · refine S_iload_n (pc := 10) hC dX13_howMany_10 rfl ?_
      refine S_aload_n (pc := 11) hC dX13_howMany_11 rfl ?_
      refine S_getR (pc := 12) hC cfX13 (by decide) (Or.inr ⟨_, rfl⟩) wd_1271 dX13_howMany_12 ?_
      refine S_iload_n (pc := 15) hC dX13_howMany_15 rfl ?_
      refine S_iaload (pc := 16) hC dX13_howMany_16 ?_
      refine S_iload_n (pc := 17) hC dX13_howMany_17 rfl ?_
      refine S_icmp_ne (pc := 18) (tgt := 25) hC dX13_howMany_18 (by decide) ?_ ?_
      · refine S_iconst (pc := 25) hC dX13_howMany_25 (by decide) ?_
        exact hJ 26
      · refine S_iconst (pc := 21) hC dX13_howMany_21 (by decide) ?_
        refine S_goto (pc := 22) (tgt := 26) hC dX13_howMany_22 (by decide) ?_
        exact hJ 26
  have hB26 : zin 4 [0, 1, 3] (aX13_howMany_26 mc ms X Q) X 26 := by
    intro u v vs st M hb
    rw [hXe]
    refine fun lv hp => S_block (L := 26) (live := [0, 1, 3]) ?_ u v lv vs st M hp hb
    unfold aX13_howMany_26
    refine S_iadd (pc := 26) hC dX13_howMany_26 ?_
    refine S_istore_n (pc := 27) hC dX13_howMany_27 rfl (by decide) ?_
    refine S_iinc (pc := 28) hC dX13_howMany_28 (by decide) (by decide) ?_
    refine S_goto (pc := 31) (tgt := 4) hC dX13_howMany_31 (by decide) ?_
    exact hJ 4
  have := h.2 X hB0 hB4 hB26
  rw [hXe] at this
  exact this lv hlv
theorem vX13_howMany_0 {mc ms : Nat} {X : Nat → zV} {Q : zQt} {M : zM} {x1 : Int32} (hW : zFix M)  (h : X 4 0 0 [.ref 55, .int x1, .int 0, .int 0] [] M) : aX13_howMany_0 mc ms X Q 0 0 [some (.ref 55), some (.int x1), none, none] [] M := h
theorem vX13_howMany_4 {mc ms : Nat} {X : Nat → zV} {Q : zQt} {M : zM} {x1 : Int32} {x2 : Int32} {x3 : Int32} (hW : zFix M)  (h : ((64 : Int32) ≤ x3 → Q (some (.int x2)) M) ∧ (¬ (64 : Int32) ≤ x3 → vp_in x3 414 ∧ (((M : zM).1 65 (x3 : Int32).toNatClampNeg) = x1 → X 26 0 0 [.ref 55, .int x1, .int x3] [.int 1, .int x2] M) ∧ (¬ ((M : zM).1 65 (x3 : Int32).toNatClampNeg) = x1 → X 26 0 0 [.ref 55, .int x1, .int x3] [.int 0, .int x2] M))) : aX13_howMany_4 mc ms X Q 0 0 [some (.ref 55), some (.int x1), some (.int x2), some (.int x3)] [] M := ⟨fun c7 => (h.1 c7), fun c7 => ⟨(fxs_55 hW), 65, (fxr_55_16 hW), ⟨414, (fxs_65 hW), (h.2 c7).1, ⟨fun c18 => ((h.2 c7).2.1 c18), fun c18 => ((h.2 c7).2.2 c18)⟩⟩⟩⟩
theorem vX13_howMany_26 {mc ms : Nat} {X : Nat → zV} {Q : zQt} {M : zM} {x1 : Int32} {x3 : Int32} {s0 : Int32} {s1 : Int32} (hW : zFix M)  (h : X 4 0 0 [.ref 55, .int x1, .int (s1 + s0), .int (x3 + 1)] [] M) : aX13_howMany_26 mc ms X Q 0 0 [some (.ref 55), some (.int x1), none, some (.int x3)] [.int s0, .int s1] M := h
theorem dX13_above_0 : decode cX13_above 0 = .ok (.iload_n 0, 1) := by decide +kernel
theorem dX13_above_1 : decode cX13_above 1 = .ok (.iload_n 1, 1) := by decide +kernel
theorem dX13_above_2 : decode cX13_above 2 = .ok (.if_icmp .le 9, 3) := by decide +kernel
theorem dX13_above_5 : decode cX13_above 5 = .ok (.iload_n 0, 1) := by decide +kernel
theorem dX13_above_6 : decode cX13_above 6 = .ok (.iload_n 1, 1) := by decide +kernel
theorem dX13_above_7 : decode cX13_above 7 = .ok (.isub, 1) := by decide +kernel
theorem dX13_above_8 : decode cX13_above 8 = .ok (.goto 4, 3) := by decide +kernel
theorem dX13_above_11 : decode cX13_above 11 = .ok (.iconst 0, 1) := by decide +kernel
theorem dX13_above_12 : decode cX13_above 12 = .ok (.ireturn, 1) := by decide +kernel
def aX13_above_0 (mc ms : Nat) (X : Nat → zV) (Q : zQt) : zT :=
  zli 0 <| zli 1 <| zic (fun x y => x ≤ y) (zc (.int 0) <| zj X 12 []) <| zli 0 <| zli 1 <| zii (fun x y => x - y) <| zj X 12 []
def aX13_above_12 (mc ms : Nat) (X : Nat → zV) (Q : zQt) : zT :=
  zri Q
def lvX13_above : Nat → List Nat := fun L => match L with
  | 0 => [0, 1]
  | 12 => []
  | _ => []
def wX13_above : zSp := fun mc ms av M Q => ((zlay av).length ≤ 2 ∧ zpick (zlay av) [0, 1] = some av) ∧ ∀ X : Nat → zV, zin 2 [0, 1] (aX13_above_0 mc ms X Q) X 0 → zin 2 [] (aX13_above_12 mc ms X Q) X 12 → X 0 0 0 av [] M
set_option maxRecDepth 100000 in
set_option maxHeartbeats 4000000 in
theorem sX13_above (l : Launch) (G : zG) : zSnd l G yX13_above cX13_above 2 (some .int) 0 0 wX13_above := by
  refine zmk [0, 1] (by decide) (fun mc ms av M Q h => h.1) ?_
  intro p e R s m args below meth c mc ms av M Q hC hRf hRl hr hnm h lv hlv
  obtain ⟨X, hXe⟩ : ∃ X : Nat → zV, X = fun L u v vs st M => ∀ lv, zpick lv (lvX13_above L) = some vs → zAt p l e R s m args below meth c (MQ below (zQ G Q) args s mc ms (zA G)) G 2 L u v lv st M := ⟨_, rfl⟩
  have hJ : ∀ L, zOk p l e R s m args below meth c (MQ below (zQ G Q) args s mc ms (zA G)) G 2 L (zj X L (lvX13_above L)) := fun L => S_jump (fun u v lv vs st M hp hx => by rw [hXe] at hx; exact hx lv hp)
  have hB0 : zin 2 [0, 1] (aX13_above_0 mc ms X Q) X 0 := by
    intro u v vs st M hb
    rw [hXe]
    refine fun lv hp => S_block (L := 0) (live := [0, 1]) ?_ u v lv vs st M hp hb
    unfold aX13_above_0
    refine S_iload_n (pc := 0) hC dX13_above_0 rfl ?_
    refine S_iload_n (pc := 1) hC dX13_above_1 rfl ?_
    refine S_icmp_le (pc := 2) (tgt := 11) hC dX13_above_2 (by decide) ?_ ?_
    · refine S_iconst (pc := 11) hC dX13_above_11 (by decide) ?_
      exact hJ 12
    · refine S_iload_n (pc := 5) hC dX13_above_5 rfl ?_
      refine S_iload_n (pc := 6) hC dX13_above_6 rfl ?_
      refine S_isub (pc := 7) hC dX13_above_7 ?_
      refine S_goto (pc := 8) (tgt := 12) hC dX13_above_8 (by decide) ?_
      exact hJ 12
  have hB12 : zin 2 [] (aX13_above_12 mc ms X Q) X 12 := by
    intro u v vs st M hb
    rw [hXe]
    refine fun lv hp => S_block (L := 12) (live := []) ?_ u v lv vs st M hp hb
    unfold aX13_above_12
    exact S_ireturn (pc := 12) hC hr dX13_above_12
  have := h.2 X hB0 hB12
  rw [hXe] at this
  exact this lv hlv
theorem vX13_above_0 {mc ms : Nat} {X : Nat → zV} {Q : zQt} {M : zM} {x0 : Int32} {x1 : Int32} (hW : zFix M)  (h : (x0 ≤ x1 → X 12 0 0 [] [.int 0] M) ∧ (¬ x0 ≤ x1 → X 12 0 0 [] [.int (x0 - x1)] M)) : aX13_above_0 mc ms X Q 0 0 [some (.int x0), some (.int x1)] [] M := ⟨fun c2 => (h.1 c2), fun c2 => (h.2 c2)⟩
theorem vX13_above_12 {mc ms : Nat} {X : Nat → zV} {Q : zQt} {M : zM} {s0 : Int32} (hW : zFix M)  (h : Q (some (.int s0)) M) : aX13_above_12 mc ms X Q 0 0 [none, none] [.int s0] M := h
theorem dX13_menFit_0 : decode cX13_menFit 0 = .ok (.iconst 0, 1) := by decide +kernel
theorem dX13_menFit_1 : decode cX13_menFit 1 = .ok (.istore_n 1, 1) := by decide +kernel
theorem dX13_menFit_2 : decode cX13_menFit 2 = .ok (.iload_n 1, 1) := by decide +kernel
theorem dX13_menFit_3 : decode cX13_menFit 3 = .ok (.bipush 8, 2) := by decide +kernel
theorem dX13_menFit_5 : decode cX13_menFit 5 = .ok (.if_icmp .ge 40, 3) := by decide +kernel
theorem dX13_menFit_8 : decode cX13_menFit 8 = .ok (.aload_n 0, 1) := by decide +kernel
theorem dX13_menFit_9 : decode cX13_menFit 9 = .ok (.getfield 43, 3) := by decide +kernel
theorem dX13_menFit_12 : decode cX13_menFit 12 = .ok (.iload_n 1, 1) := by decide +kernel
theorem dX13_menFit_13 : decode cX13_menFit 13 = .ok (.iaload, 1) := by decide +kernel
theorem dX13_menFit_14 : decode cX13_menFit 14 = .ok (.invokestatic 71, 3) := by decide +kernel
theorem dX13_menFit_17 : decode cX13_menFit 17 = .ok (.iconst 1, 1) := by decide +kernel
theorem dX13_menFit_18 : decode cX13_menFit 18 = .ok (.if_icmp .eq 19, 3) := by decide +kernel
theorem dX13_menFit_21 : decode cX13_menFit 21 = .ok (.aload_n 0, 1) := by decide +kernel
theorem dX13_menFit_22 : decode cX13_menFit 22 = .ok (.getfield 43, 3) := by decide +kernel
theorem dX13_menFit_25 : decode cX13_menFit 25 = .ok (.bipush 56, 2) := by decide +kernel
theorem dX13_menFit_27 : decode cX13_menFit 27 = .ok (.iload_n 1, 1) := by decide +kernel
theorem dX13_menFit_28 : decode cX13_menFit 28 = .ok (.iadd, 1) := by decide +kernel
theorem dX13_menFit_29 : decode cX13_menFit 29 = .ok (.iaload, 1) := by decide +kernel
theorem dX13_menFit_30 : decode cX13_menFit 30 = .ok (.invokestatic 71, 3) := by decide +kernel
theorem dX13_menFit_33 : decode cX13_menFit 33 = .ok (.iconst 1, 1) := by decide +kernel
theorem dX13_menFit_34 : decode cX13_menFit 34 = .ok (.if_icmp .ne 5, 3) := by decide +kernel
theorem dX13_menFit_37 : decode cX13_menFit 37 = .ok (.iconst 0, 1) := by decide +kernel
theorem dX13_menFit_38 : decode cX13_menFit 38 = .ok (.ireturn, 1) := by decide +kernel
theorem dX13_menFit_39 : decode cX13_menFit 39 = .ok (.iinc 1 1, 3) := by decide +kernel
theorem dX13_menFit_42 : decode cX13_menFit 42 = .ok (.goto (-40), 3) := by decide +kernel
theorem dX13_menFit_45 : decode cX13_menFit 45 = .ok (.iconst 1, 1) := by decide +kernel
theorem dX13_menFit_46 : decode cX13_menFit 46 = .ok (.istore_n 1, 1) := by decide +kernel
theorem dX13_menFit_47 : decode cX13_menFit 47 = .ok (.iconst 0, 1) := by decide +kernel
theorem dX13_menFit_48 : decode cX13_menFit 48 = .ok (.istore_n 2, 1) := by decide +kernel
theorem dX13_menFit_49 : decode cX13_menFit 49 = .ok (.iload_n 2, 1) := by decide +kernel
theorem dX13_menFit_50 : decode cX13_menFit 50 = .ok (.bipush 12, 2) := by decide +kernel
theorem dX13_menFit_52 : decode cX13_menFit 52 = .ok (.if_icmp .ge 85, 3) := by decide +kernel
theorem dX13_menFit_55 : decode cX13_menFit 55 = .ok (.aload_n 0, 1) := by decide +kernel
theorem dX13_menFit_56 : decode cX13_menFit 56 = .ok (.iload_n 2, 1) := by decide +kernel
theorem dX13_menFit_57 : decode cX13_menFit 57 = .ok (.iconst 1, 1) := by decide +kernel
theorem dX13_menFit_58 : decode cX13_menFit 58 = .ok (.iadd, 1) := by decide +kernel
theorem dX13_menFit_59 : decode cX13_menFit 59 = .ok (.invokevirtual 215, 3) := by decide +kernel
theorem dX13_menFit_62 : decode cX13_menFit 62 = .ok (.istore_n 3, 1) := by decide +kernel
theorem dX13_menFit_63 : decode cX13_menFit 63 = .ok (.aload_n 0, 1) := by decide +kernel
theorem dX13_menFit_64 : decode cX13_menFit 64 = .ok (.iload_n 2, 1) := by decide +kernel
theorem dX13_menFit_65 : decode cX13_menFit 65 = .ok (.iconst 2, 1) := by decide +kernel
theorem dX13_menFit_66 : decode cX13_menFit 66 = .ok (.iadd, 1) := by decide +kernel
theorem dX13_menFit_67 : decode cX13_menFit 67 = .ok (.invokevirtual 215, 3) := by decide +kernel
theorem dX13_menFit_70 : decode cX13_menFit 70 = .ok (.iconst 2, 1) := by decide +kernel
theorem dX13_menFit_71 : decode cX13_menFit 71 = .ok (.invokestatic 218, 3) := by decide +kernel
theorem dX13_menFit_74 : decode cX13_menFit 74 = .ok (.aload_n 0, 1) := by decide +kernel
theorem dX13_menFit_75 : decode cX13_menFit 75 = .ok (.iload_n 2, 1) := by decide +kernel
theorem dX13_menFit_76 : decode cX13_menFit 76 = .ok (.iconst 3, 1) := by decide +kernel
theorem dX13_menFit_77 : decode cX13_menFit 77 = .ok (.iadd, 1) := by decide +kernel
theorem dX13_menFit_78 : decode cX13_menFit 78 = .ok (.invokevirtual 215, 3) := by decide +kernel
theorem dX13_menFit_81 : decode cX13_menFit 81 = .ok (.iconst 2, 1) := by decide +kernel
theorem dX13_menFit_82 : decode cX13_menFit 82 = .ok (.invokestatic 218, 3) := by decide +kernel
theorem dX13_menFit_85 : decode cX13_menFit 85 = .ok (.iadd, 1) := by decide +kernel
theorem dX13_menFit_86 : decode cX13_menFit 86 = .ok (.aload_n 0, 1) := by decide +kernel
theorem dX13_menFit_87 : decode cX13_menFit 87 = .ok (.iload_n 2, 1) := by decide +kernel
theorem dX13_menFit_88 : decode cX13_menFit 88 = .ok (.iconst 4, 1) := by decide +kernel
theorem dX13_menFit_89 : decode cX13_menFit 89 = .ok (.iadd, 1) := by decide +kernel
theorem dX13_menFit_90 : decode cX13_menFit 90 = .ok (.invokevirtual 215, 3) := by decide +kernel
theorem dX13_menFit_93 : decode cX13_menFit 93 = .ok (.iconst 2, 1) := by decide +kernel
theorem dX13_menFit_94 : decode cX13_menFit 94 = .ok (.invokestatic 218, 3) := by decide +kernel
theorem dX13_menFit_97 : decode cX13_menFit 97 = .ok (.iadd, 1) := by decide +kernel
theorem dX13_menFit_98 : decode cX13_menFit 98 = .ok (.aload_n 0, 1) := by decide +kernel
theorem dX13_menFit_99 : decode cX13_menFit 99 = .ok (.iload_n 2, 1) := by decide +kernel
theorem dX13_menFit_100 : decode cX13_menFit 100 = .ok (.iconst 5, 1) := by decide +kernel
theorem dX13_menFit_101 : decode cX13_menFit 101 = .ok (.iadd, 1) := by decide +kernel
theorem dX13_menFit_102 : decode cX13_menFit 102 = .ok (.invokevirtual 215, 3) := by decide +kernel
theorem dX13_menFit_105 : decode cX13_menFit 105 = .ok (.iconst 1, 1) := by decide +kernel
theorem dX13_menFit_106 : decode cX13_menFit 106 = .ok (.invokestatic 218, 3) := by decide +kernel
theorem dX13_menFit_109 : decode cX13_menFit 109 = .ok (.iadd, 1) := by decide +kernel
theorem dX13_menFit_110 : decode cX13_menFit 110 = .ok (.istore 4, 2) := by decide +kernel
theorem dX13_menFit_112 : decode cX13_menFit 112 = .ok (.iload_n 1, 1) := by decide +kernel
theorem dX13_menFit_113 : decode cX13_menFit 113 = .ok (.ifCond .eq 16, 3) := by decide +kernel
theorem dX13_menFit_116 : decode cX13_menFit 116 = .ok (.iload_n 3, 1) := by decide +kernel
theorem dX13_menFit_117 : decode cX13_menFit 117 = .ok (.iload 4, 2) := by decide +kernel
theorem dX13_menFit_119 : decode cX13_menFit 119 = .ok (.iadd, 1) := by decide +kernel
theorem dX13_menFit_120 : decode cX13_menFit 120 = .ok (.bipush 8, 2) := by decide +kernel
theorem dX13_menFit_122 : decode cX13_menFit 122 = .ok (.if_icmp .gt 7, 3) := by decide +kernel
theorem dX13_menFit_125 : decode cX13_menFit 125 = .ok (.iconst 1, 1) := by decide +kernel
theorem dX13_menFit_126 : decode cX13_menFit 126 = .ok (.goto 4, 3) := by decide +kernel
theorem dX13_menFit_129 : decode cX13_menFit 129 = .ok (.iconst 0, 1) := by decide +kernel
theorem dX13_menFit_130 : decode cX13_menFit 130 = .ok (.istore_n 1, 1) := by decide +kernel
theorem dX13_menFit_131 : decode cX13_menFit 131 = .ok (.iinc 2 6, 3) := by decide +kernel
theorem dX13_menFit_134 : decode cX13_menFit 134 = .ok (.goto (-85), 3) := by decide +kernel
theorem dX13_menFit_137 : decode cX13_menFit 137 = .ok (.iload_n 1, 1) := by decide +kernel
theorem dX13_menFit_138 : decode cX13_menFit 138 = .ok (.ireturn, 1) := by decide +kernel
def kX13_menFit_33 (mc ms : Nat) (X : Nat → zV) (Q : zQt) : zT :=
  zc (.int 1) <| zic (fun x y => x = y) (zj X 37 []) <| zinc 1 1 <| zj X 2 [0, 1]
def kX13_menFit_17 (mc ms : Nat) (X : Nat → zV) (Q : zQt) : zT :=
  zc (.int 1) <| zic (fun x y => x = y) (zj X 37 []) <| zla 0 <| zgR 13 16 <| zc (.int 56) <| zli 1 <| zii (fun x y => x + y) <| zal 1 <| zcs mc ms 1 wX13_kindOf <| kX13_menFit_33 mc ms X Q
def kX13_menFit_109 (mc ms : Nat) (X : Nat → zV) (Q : zQt) : zT :=
  zii (fun x y => x + y) <| zsi 4 <| zli 1 <| zif (fun x => x = 0) (zj X 129 [0, 2]) <| zli 3 <| zli 4 <| zii (fun x y => x + y) <| zc (.int 8) <| zic (fun x y => y < x) (zj X 129 [0, 2]) <| zc (.int 1) <| zj X 130 [0, 2]
def kX13_menFit_105 (mc ms : Nat) (X : Nat → zV) (Q : zQt) : zT :=
  zc (.int 1) <| zcs mc ms 2 wX13_above <| kX13_menFit_109 mc ms X Q
def kX13_menFit_97 (mc ms : Nat) (X : Nat → zV) (Q : zQt) : zT :=
  zii (fun x y => x + y) <| zla 0 <| zli 2 <| zc (.int 5) <| zii (fun x y => x + y) <| zcv mc ms 13 1 wX13_howMany <| kX13_menFit_105 mc ms X Q
def kX13_menFit_93 (mc ms : Nat) (X : Nat → zV) (Q : zQt) : zT :=
  zc (.int 2) <| zcs mc ms 2 wX13_above <| kX13_menFit_97 mc ms X Q
def kX13_menFit_85 (mc ms : Nat) (X : Nat → zV) (Q : zQt) : zT :=
  zii (fun x y => x + y) <| zla 0 <| zli 2 <| zc (.int 4) <| zii (fun x y => x + y) <| zcv mc ms 13 1 wX13_howMany <| kX13_menFit_93 mc ms X Q
def kX13_menFit_81 (mc ms : Nat) (X : Nat → zV) (Q : zQt) : zT :=
  zc (.int 2) <| zcs mc ms 2 wX13_above <| kX13_menFit_85 mc ms X Q
def kX13_menFit_74 (mc ms : Nat) (X : Nat → zV) (Q : zQt) : zT :=
  zla 0 <| zli 2 <| zc (.int 3) <| zii (fun x y => x + y) <| zcv mc ms 13 1 wX13_howMany <| kX13_menFit_81 mc ms X Q
def kX13_menFit_70 (mc ms : Nat) (X : Nat → zV) (Q : zQt) : zT :=
  zc (.int 2) <| zcs mc ms 2 wX13_above <| kX13_menFit_74 mc ms X Q
def kX13_menFit_62 (mc ms : Nat) (X : Nat → zV) (Q : zQt) : zT :=
  zsi 3 <| zla 0 <| zli 2 <| zc (.int 2) <| zii (fun x y => x + y) <| zcv mc ms 13 1 wX13_howMany <| kX13_menFit_70 mc ms X Q
def aX13_menFit_0 (mc ms : Nat) (X : Nat → zV) (Q : zQt) : zT :=
  zc (.int 0) <| zsi 1 <| zj X 2 [0, 1]
def aX13_menFit_2 (mc ms : Nat) (X : Nat → zV) (Q : zQt) : zT :=
  zli 1 <| zc (.int 8) <| zic (fun x y => y ≤ x) (zc (.int 1) <| zsi 1 <| zc (.int 0) <| zsi 2 <| zj X 49 [0, 1, 2]) <| zla 0 <| zgR 13 16 <| zli 1 <| zal 1 <| zcs mc ms 1 wX13_kindOf <| kX13_menFit_17 mc ms X Q
def aX13_menFit_37 (mc ms : Nat) (X : Nat → zV) (Q : zQt) : zT :=
  zc (.int 0) <| zrz .boolean Q
def aX13_menFit_49 (mc ms : Nat) (X : Nat → zV) (Q : zQt) : zT :=
  zli 2 <| zc (.int 12) <| zic (fun x y => y ≤ x) (zli 1 <| zrz .boolean Q) <| zla 0 <| zli 2 <| zc (.int 1) <| zii (fun x y => x + y) <| zcv mc ms 13 1 wX13_howMany <| kX13_menFit_62 mc ms X Q
def aX13_menFit_129 (mc ms : Nat) (X : Nat → zV) (Q : zQt) : zT :=
  zc (.int 0) <| zj X 130 [0, 2]
def aX13_menFit_130 (mc ms : Nat) (X : Nat → zV) (Q : zQt) : zT :=
  zsi 1 <| zinc 2 6 <| zj X 49 [0, 1, 2]
def lvX13_menFit : Nat → List Nat := fun L => match L with
  | 0 => [0]
  | 2 => [0, 1]
  | 37 => []
  | 49 => [0, 1, 2]
  | 129 => [0, 2]
  | 130 => [0, 2]
  | _ => []
def wX13_menFit : zSp := fun mc ms av M Q => ((zlay av).length ≤ 5 ∧ zpick (zlay av) [0] = some av) ∧ ∀ X : Nat → zV, zin 5 [0] (aX13_menFit_0 mc ms X Q) X 0 → zin 5 [0, 1] (aX13_menFit_2 mc ms X Q) X 2 → zin 5 [] (aX13_menFit_37 mc ms X Q) X 37 → zin 5 [0, 1, 2] (aX13_menFit_49 mc ms X Q) X 49 → zin 5 [0, 2] (aX13_menFit_129 mc ms X Q) X 129 → zin 5 [0, 2] (aX13_menFit_130 mc ms X Q) X 130 → X 0 0 0 av [] M
set_option maxRecDepth 100000 in
set_option maxHeartbeats 4000000 in
theorem sX13_menFit (l : Launch) (G : zG) : zSnd l G yX13_menFit cX13_menFit 5 (some .boolean) 1 23 wX13_menFit := by
  refine zmk [0] (by decide) (fun mc ms av M Q h => h.1) ?_
  intro p e R s m args below meth c mc ms av M Q hC hRf hRl hr hnm h lv hlv
  obtain ⟨X, hXe⟩ : ∃ X : Nat → zV, X = fun L u v vs st M => ∀ lv, zpick lv (lvX13_menFit L) = some vs → zAt p l e R s m args below meth c (MQ below (zQ G Q) args s mc ms (zA G)) G 5 L u v lv st M := ⟨_, rfl⟩
  have hJ : ∀ L, zOk p l e R s m args below meth c (MQ below (zQ G Q) args s mc ms (zA G)) G 5 L (zj X L (lvX13_menFit L)) := fun L => S_jump (fun u v lv vs st M hp hx => by rw [hXe] at hx; exact hx lv hp)
  have hB0 : zin 5 [0] (aX13_menFit_0 mc ms X Q) X 0 := by
    intro u v vs st M hb
    rw [hXe]
    refine fun lv hp => S_block (L := 0) (live := [0]) ?_ u v lv vs st M hp hb
    unfold aX13_menFit_0
    refine S_iconst (pc := 0) hC dX13_menFit_0 (by decide) ?_
    refine S_istore_n (pc := 1) hC dX13_menFit_1 rfl (by decide) ?_
    exact hJ 2
  have hB2 : zin 5 [0, 1] (aX13_menFit_2 mc ms X Q) X 2 := by
    intro u v vs st M hb
    rw [hXe]
    refine fun lv hp => S_block (L := 2) (live := [0, 1]) ?_ u v lv vs st M hp hb
    unfold aX13_menFit_2
    refine S_iload_n (pc := 2) hC dX13_menFit_2 rfl ?_
    refine S_bipush (pc := 3) hC dX13_menFit_3 (by decide) ?_
    refine S_icmp_ge (pc := 5) (tgt := 45) hC dX13_menFit_5 (by decide) ?_ ?_
    · refine S_iconst (pc := 45) hC dX13_menFit_45 (by decide) ?_
      refine S_istore_n (pc := 46) hC dX13_menFit_46 rfl (by decide) ?_
      refine S_iconst (pc := 47) hC dX13_menFit_47 (by decide) ?_
      refine S_istore_n (pc := 48) hC dX13_menFit_48 rfl (by decide) ?_
      exact hJ 49
    · refine S_aload_n (pc := 8) hC dX13_menFit_8 rfl ?_
      refine S_getR (pc := 9) hC cfX13 (by decide) (Or.inr ⟨_, rfl⟩) wd_1271 dX13_menFit_9 ?_
      refine S_iload_n (pc := 12) hC dX13_menFit_12 rfl ?_
      refine S_iaload (pc := 13) hC dX13_menFit_13 ?_
      refine S_callS (pc := 14) hC (sX13_kindOf l G) wd_1376 wd_1377 wd_12 wd_1378 (by decide +kernel) ⟨by rw [hRf]; decide, by rw [hRl]; decide⟩ dX13_menFit_14 ?_
      unfold kX13_menFit_17
      refine S_iconst (pc := 17) hC dX13_menFit_17 (by decide) ?_
      refine S_icmp_eq (pc := 18) (tgt := 37) hC dX13_menFit_18 (by decide) ?_ ?_
      · exact hJ 37
      · refine S_aload_n (pc := 21) hC dX13_menFit_21 rfl ?_
        refine S_getR (pc := 22) hC cfX13 (by decide) (Or.inr ⟨_, rfl⟩) wd_1271 dX13_menFit_22 ?_
        refine S_bipush (pc := 25) hC dX13_menFit_25 (by decide) ?_
        refine S_iload_n (pc := 27) hC dX13_menFit_27 rfl ?_
        refine S_iadd (pc := 28) hC dX13_menFit_28 ?_
        refine S_iaload (pc := 29) hC dX13_menFit_29 ?_
        refine S_callS (pc := 30) hC (sX13_kindOf l G) wd_1376 wd_1377 wd_12 wd_1378 (by decide +kernel) ⟨by rw [hRf]; decide, by rw [hRl]; decide⟩ dX13_menFit_30 ?_
        unfold kX13_menFit_33
        refine S_iconst (pc := 33) hC dX13_menFit_33 (by decide) ?_
        refine S_icmp_ne (pc := 34) (tgt := 39) hC dX13_menFit_34 (by decide) ?_ ?_
        · refine S_iinc (pc := 39) hC dX13_menFit_39 (by decide) (by decide) ?_
          refine S_goto (pc := 42) (tgt := 2) hC dX13_menFit_42 (by decide) ?_
          exact hJ 2
        · exact hJ 37
  have hB37 : zin 5 [] (aX13_menFit_37 mc ms X Q) X 37 := by
    intro u v vs st M hb
    rw [hXe]
    refine fun lv hp => S_block (L := 37) (live := []) ?_ u v lv vs st M hp hb
    unfold aX13_menFit_37
    refine S_iconst (pc := 37) hC dX13_menFit_37 (by decide) ?_
    exact S_zreturn (pc := 38) hC hr dX13_menFit_38
  have hB49 : zin 5 [0, 1, 2] (aX13_menFit_49 mc ms X Q) X 49 := by
    intro u v vs st M hb
    rw [hXe]
    refine fun lv hp => S_block (L := 49) (live := [0, 1, 2]) ?_ u v lv vs st M hp hb
    unfold aX13_menFit_49
    refine S_iload_n (pc := 49) hC dX13_menFit_49 rfl ?_
    refine S_bipush (pc := 50) hC dX13_menFit_50 (by decide) ?_
    refine S_icmp_ge (pc := 52) (tgt := 137) hC dX13_menFit_52 (by decide) ?_ ?_
    · refine S_iload_n (pc := 137) hC dX13_menFit_137 rfl ?_
      exact S_zreturn (pc := 138) hC hr dX13_menFit_138
    · refine S_aload_n (pc := 55) hC dX13_menFit_55 rfl ?_
      refine S_iload_n (pc := 56) hC dX13_menFit_56 rfl ?_
      refine S_iconst (pc := 57) hC dX13_menFit_57 (by decide) ?_
      refine S_iadd (pc := 58) hC dX13_menFit_58 ?_
      refine S_callV (pc := 59) hC (sX13_howMany l G) rfl wd_1398 wd_1400 ws_63 wd_12 wd_1401 (by decide +kernel) ⟨by rw [hRf]; decide, by rw [hRl]; decide⟩ dX13_menFit_59 ?_
      unfold kX13_menFit_62
      refine S_istore_n (pc := 62) hC dX13_menFit_62 rfl (by decide) ?_
      refine S_aload_n (pc := 63) hC dX13_menFit_63 rfl ?_
      refine S_iload_n (pc := 64) hC dX13_menFit_64 rfl ?_
      refine S_iconst (pc := 65) hC dX13_menFit_65 (by decide) ?_
      refine S_iadd (pc := 66) hC dX13_menFit_66 ?_
      refine S_callV (pc := 67) hC (sX13_howMany l G) rfl wd_1398 wd_1400 ws_63 wd_12 wd_1401 (by decide +kernel) ⟨by rw [hRf]; decide, by rw [hRl]; decide⟩ dX13_menFit_67 ?_
      unfold kX13_menFit_70
      refine S_iconst (pc := 70) hC dX13_menFit_70 (by decide) ?_
      refine S_callS (pc := 71) hC (sX13_above l G) wd_1406 wd_1407 wd_12 wd_1408 (by decide +kernel) ⟨by rw [hRf]; decide, by rw [hRl]; decide⟩ dX13_menFit_71 ?_
      unfold kX13_menFit_74
      refine S_aload_n (pc := 74) hC dX13_menFit_74 rfl ?_
      refine S_iload_n (pc := 75) hC dX13_menFit_75 rfl ?_
      refine S_iconst (pc := 76) hC dX13_menFit_76 (by decide) ?_
      refine S_iadd (pc := 77) hC dX13_menFit_77 ?_
      refine S_callV (pc := 78) hC (sX13_howMany l G) rfl wd_1398 wd_1400 ws_63 wd_12 wd_1401 (by decide +kernel) ⟨by rw [hRf]; decide, by rw [hRl]; decide⟩ dX13_menFit_78 ?_
      unfold kX13_menFit_81
      refine S_iconst (pc := 81) hC dX13_menFit_81 (by decide) ?_
      refine S_callS (pc := 82) hC (sX13_above l G) wd_1406 wd_1407 wd_12 wd_1408 (by decide +kernel) ⟨by rw [hRf]; decide, by rw [hRl]; decide⟩ dX13_menFit_82 ?_
      unfold kX13_menFit_85
      refine S_iadd (pc := 85) hC dX13_menFit_85 ?_
      refine S_aload_n (pc := 86) hC dX13_menFit_86 rfl ?_
      refine S_iload_n (pc := 87) hC dX13_menFit_87 rfl ?_
      refine S_iconst (pc := 88) hC dX13_menFit_88 (by decide) ?_
      refine S_iadd (pc := 89) hC dX13_menFit_89 ?_
      refine S_callV (pc := 90) hC (sX13_howMany l G) rfl wd_1398 wd_1400 ws_63 wd_12 wd_1401 (by decide +kernel) ⟨by rw [hRf]; decide, by rw [hRl]; decide⟩ dX13_menFit_90 ?_
      unfold kX13_menFit_93
      refine S_iconst (pc := 93) hC dX13_menFit_93 (by decide) ?_
      refine S_callS (pc := 94) hC (sX13_above l G) wd_1406 wd_1407 wd_12 wd_1408 (by decide +kernel) ⟨by rw [hRf]; decide, by rw [hRl]; decide⟩ dX13_menFit_94 ?_
      unfold kX13_menFit_97
      refine S_iadd (pc := 97) hC dX13_menFit_97 ?_
      refine S_aload_n (pc := 98) hC dX13_menFit_98 rfl ?_
      refine S_iload_n (pc := 99) hC dX13_menFit_99 rfl ?_
      refine S_iconst (pc := 100) hC dX13_menFit_100 (by decide) ?_
      refine S_iadd (pc := 101) hC dX13_menFit_101 ?_
      refine S_callV (pc := 102) hC (sX13_howMany l G) rfl wd_1398 wd_1400 ws_63 wd_12 wd_1401 (by decide +kernel) ⟨by rw [hRf]; decide, by rw [hRl]; decide⟩ dX13_menFit_102 ?_
      unfold kX13_menFit_105
      refine S_iconst (pc := 105) hC dX13_menFit_105 (by decide) ?_
      refine S_callS (pc := 106) hC (sX13_above l G) wd_1406 wd_1407 wd_12 wd_1408 (by decide +kernel) ⟨by rw [hRf]; decide, by rw [hRl]; decide⟩ dX13_menFit_106 ?_
      unfold kX13_menFit_109
      refine S_iadd (pc := 109) hC dX13_menFit_109 ?_
      refine S_istore (pc := 110) hC dX13_menFit_110 (by decide) ?_
      refine S_iload_n (pc := 112) hC dX13_menFit_112 rfl ?_
      refine S_if_eq (pc := 113) (tgt := 129) hC dX13_menFit_113 (by decide) ?_ ?_
      · exact hJ 129
      · refine S_iload_n (pc := 116) hC dX13_menFit_116 rfl ?_
        refine S_iload (pc := 117) hC dX13_menFit_117 ?_
        refine S_iadd (pc := 119) hC dX13_menFit_119 ?_
        refine S_bipush (pc := 120) hC dX13_menFit_120 (by decide) ?_
        refine S_icmp_gt (pc := 122) (tgt := 129) hC dX13_menFit_122 (by decide) ?_ ?_
        · exact hJ 129
        · refine S_iconst (pc := 125) hC dX13_menFit_125 (by decide) ?_
          refine S_goto (pc := 126) (tgt := 130) hC dX13_menFit_126 (by decide) ?_
          exact hJ 130
  have hB129 : zin 5 [0, 2] (aX13_menFit_129 mc ms X Q) X 129 := by
    intro u v vs st M hb
    rw [hXe]
    refine fun lv hp => S_block (L := 129) (live := [0, 2]) ?_ u v lv vs st M hp hb
    unfold aX13_menFit_129
    refine S_iconst (pc := 129) hC dX13_menFit_129 (by decide) ?_
    exact hJ 130
  have hB130 : zin 5 [0, 2] (aX13_menFit_130 mc ms X Q) X 130 := by
    intro u v vs st M hb
    rw [hXe]
    refine fun lv hp => S_block (L := 130) (live := [0, 2]) ?_ u v lv vs st M hp hb
    unfold aX13_menFit_130
    refine S_istore_n (pc := 130) hC dX13_menFit_130 rfl (by decide) ?_
    refine S_iinc (pc := 131) hC dX13_menFit_131 (by decide) (by decide) ?_
    refine S_goto (pc := 134) (tgt := 49) hC dX13_menFit_134 (by decide) ?_
    exact hJ 49
  have := h.2 X hB0 hB2 hB37 hB49 hB129 hB130
  rw [hXe] at this
  exact this lv hlv
theorem vX13_menFit_0 {mc ms : Nat} {X : Nat → zV} {Q : zQt} {M : zM}  (hW : zFix M)  (h : X 2 0 0 [.ref 55, .int 0] [] M) : aX13_menFit_0 mc ms X Q 0 0 [some (.ref 55), none, none, none, none] [] M := h
theorem vX13_menFit_2 {mc ms : Nat} {X : Nat → zV} {Q : zQt} {M : zM} {x1 : Int32} (hW : zFix M)  (h : ((8 : Int32) ≤ x1 → X 49 0 0 [.ref 55, .int 1, .int 0] [] M) ∧ (¬ (8 : Int32) ≤ x1 → vp_in x1 414 ∧ wX13_kindOf 0 0 [.int ((M : zM).1 65 (x1 : Int32).toNatClampNeg)] M (fun r M1 => kX13_menFit_17 mc ms X Q 0 0 [some (.ref 55), some (.int x1), none, none, none] (r.toList ++ []) M1))) : aX13_menFit_2 mc ms X Q 0 0 [some (.ref 55), some (.int x1), none, none, none] [] M := ⟨fun c5 => (h.1 c5), fun c5 => ⟨(fxs_55 hW), 65, (fxr_55_16 hW), ⟨414, (fxs_65 hW), (h.2 c5).1, ⟨Nat.le_of_ble_eq_true rfl, rfl, 0, 0, Nat.zero_le _, Nat.zero_le _, (h.2 c5).2⟩⟩⟩⟩
theorem vX13_menFit_37 {mc ms : Nat} {X : Nat → zV} {Q : zQt} {M : zM}  (hW : zFix M)  (h : Q (some (.int 0)) M) : aX13_menFit_37 mc ms X Q 0 0 [none, none, none, none, none] [] M := ⟨rfl, h⟩
theorem vX13_menFit_49 {mc ms : Nat} {X : Nat → zV} {Q : zQt} {M : zM} {x1 : Int32} {x2 : Int32} (hW : zFix M)  (h : ((12 : Int32) ≤ x2 → narrow .boolean (.int x1) = .int x1 ∧ Q (some (.int x1)) M) ∧ (¬ (12 : Int32) ≤ x2 → wX13_howMany 0 0 [.ref 55, .int (x2 + (1 : Int32))] M (fun r M1 => kX13_menFit_62 mc ms X Q 0 0 [some (.ref 55), some (.int x1), some (.int x2), none, none] (r.toList ++ []) M1))) : aX13_menFit_49 mc ms X Q 0 0 [some (.ref 55), some (.int x1), some (.int x2), none, none] [] M := ⟨fun c52 => (h.1 c52), fun c52 => ⟨Nat.le_of_ble_eq_true rfl, rfl, (fxs_55 hW), 0, 0, Nat.zero_le _, Nat.zero_le _, (h.2 c52)⟩⟩
theorem vX13_menFit_129 {mc ms : Nat} {X : Nat → zV} {Q : zQt} {M : zM} {x2 : Int32} (hW : zFix M)  (h : X 130 0 0 [.ref 55, .int x2] [.int 0] M) : aX13_menFit_129 mc ms X Q 0 0 [some (.ref 55), none, some (.int x2), none, none] [] M := h
theorem vX13_menFit_130 {mc ms : Nat} {X : Nat → zV} {Q : zQt} {M : zM} {x2 : Int32} {s0 : Int32} (hW : zFix M)  (h : X 49 0 0 [.ref 55, .int s0, .int (x2 + 6)] [] M) : aX13_menFit_130 mc ms X Q 0 0 [some (.ref 55), none, some (.int x2), none, none] [.int s0] M := h
theorem vkX13_menFit_17 {mc ms : Nat} {X : Nat → zV} {Q : zQt} {M : zM} {x1 : Int32} {s0 : Int32} (hW : zFix M)  (h : (s0 = (1 : Int32) → X 37 0 0 [] [] M) ∧ (¬ s0 = (1 : Int32) → vp_in (((56 : Int32) + x1)) 414 ∧ wX13_kindOf 0 0 [.int ((M : zM).1 65 (((56 : Int32) + x1) : Int32).toNatClampNeg)] M (fun r M1 => kX13_menFit_33 mc ms X Q 0 0 [some (.ref 55), some (.int x1), none, none, none] (r.toList ++ []) M1))) : kX13_menFit_17 mc ms X Q 0 0 [some (.ref 55), some (.int x1), none, none, none] [.int s0] M := ⟨fun c18 => (h.1 c18), fun c18 => ⟨(fxs_55 hW), 65, (fxr_55_16 hW), ⟨414, (fxs_65 hW), (h.2 c18).1, ⟨Nat.le_of_ble_eq_true rfl, rfl, 0, 0, Nat.zero_le _, Nat.zero_le _, (h.2 c18).2⟩⟩⟩⟩
theorem vkX13_menFit_33 {mc ms : Nat} {X : Nat → zV} {Q : zQt} {M : zM} {x1 : Int32} {s0 : Int32} (hW : zFix M)  (h : (s0 = (1 : Int32) → X 37 0 0 [] [] M) ∧ (¬ s0 = (1 : Int32) → X 2 0 0 [.ref 55, .int (x1 + 1)] [] M)) : kX13_menFit_33 mc ms X Q 0 0 [some (.ref 55), some (.int x1), none, none, none] [.int s0] M := ⟨fun c34 => (h.1 c34), fun c34 => (h.2 c34)⟩
theorem vkX13_menFit_62 {mc ms : Nat} {X : Nat → zV} {Q : zQt} {M : zM} {x1 : Int32} {x2 : Int32} {s0 : Int32} (hW : zFix M)  (h : wX13_howMany 0 0 [.ref 55, .int (x2 + (2 : Int32))] M (fun r M1 => kX13_menFit_70 mc ms X Q 0 0 [some (.ref 55), some (.int x1), some (.int x2), some (.int s0), none] (r.toList ++ []) M1)) : kX13_menFit_62 mc ms X Q 0 0 [some (.ref 55), some (.int x1), some (.int x2), none, none] [.int s0] M := ⟨Nat.le_of_ble_eq_true rfl, rfl, (fxs_55 hW), 0, 0, Nat.zero_le _, Nat.zero_le _, h⟩
theorem vkX13_menFit_70 {mc ms : Nat} {X : Nat → zV} {Q : zQt} {M : zM} {x1 : Int32} {x2 : Int32} {x3 : Int32} {s0 : Int32} (hW : zFix M)  (h : wX13_above 0 0 [.int s0, .int 2] M (fun r M1 => kX13_menFit_74 mc ms X Q 0 0 [some (.ref 55), some (.int x1), some (.int x2), some (.int x3), none] (r.toList ++ []) M1)) : kX13_menFit_70 mc ms X Q 0 0 [some (.ref 55), some (.int x1), some (.int x2), some (.int x3), none] [.int s0] M := ⟨Nat.le_of_ble_eq_true rfl, rfl, 0, 0, Nat.zero_le _, Nat.zero_le _, h⟩
theorem vkX13_menFit_74 {mc ms : Nat} {X : Nat → zV} {Q : zQt} {M : zM} {x1 : Int32} {x2 : Int32} {x3 : Int32} {s0 : Int32} (hW : zFix M)  (h : wX13_howMany 0 0 [.ref 55, .int (x2 + (3 : Int32))] M (fun r M1 => kX13_menFit_81 mc ms X Q 0 0 [some (.ref 55), some (.int x1), some (.int x2), some (.int x3), none] (r.toList ++ [.int s0]) M1)) : kX13_menFit_74 mc ms X Q 0 0 [some (.ref 55), some (.int x1), some (.int x2), some (.int x3), none] [.int s0] M := ⟨Nat.le_of_ble_eq_true rfl, rfl, (fxs_55 hW), 0, 0, Nat.zero_le _, Nat.zero_le _, h⟩
theorem vkX13_menFit_81 {mc ms : Nat} {X : Nat → zV} {Q : zQt} {M : zM} {x1 : Int32} {x2 : Int32} {x3 : Int32} {s0 : Int32} {s1 : Int32} (hW : zFix M)  (h : wX13_above 0 0 [.int s0, .int 2] M (fun r M1 => kX13_menFit_85 mc ms X Q 0 0 [some (.ref 55), some (.int x1), some (.int x2), some (.int x3), none] (r.toList ++ [.int s1]) M1)) : kX13_menFit_81 mc ms X Q 0 0 [some (.ref 55), some (.int x1), some (.int x2), some (.int x3), none] [.int s0, .int s1] M := ⟨Nat.le_of_ble_eq_true rfl, rfl, 0, 0, Nat.zero_le _, Nat.zero_le _, h⟩
theorem vkX13_menFit_85 {mc ms : Nat} {X : Nat → zV} {Q : zQt} {M : zM} {x1 : Int32} {x2 : Int32} {x3 : Int32} {s0 : Int32} {s1 : Int32} (hW : zFix M)  (h : wX13_howMany 0 0 [.ref 55, .int (x2 + (4 : Int32))] M (fun r M1 => kX13_menFit_93 mc ms X Q 0 0 [some (.ref 55), some (.int x1), some (.int x2), some (.int x3), none] (r.toList ++ [.int (s1 + s0)]) M1)) : kX13_menFit_85 mc ms X Q 0 0 [some (.ref 55), some (.int x1), some (.int x2), some (.int x3), none] [.int s0, .int s1] M := ⟨Nat.le_of_ble_eq_true rfl, rfl, (fxs_55 hW), 0, 0, Nat.zero_le _, Nat.zero_le _, h⟩
theorem vkX13_menFit_93 {mc ms : Nat} {X : Nat → zV} {Q : zQt} {M : zM} {x1 : Int32} {x2 : Int32} {x3 : Int32} {s0 : Int32} {s1 : Int32} (hW : zFix M)  (h : wX13_above 0 0 [.int s0, .int 2] M (fun r M1 => kX13_menFit_97 mc ms X Q 0 0 [some (.ref 55), some (.int x1), some (.int x2), some (.int x3), none] (r.toList ++ [.int s1]) M1)) : kX13_menFit_93 mc ms X Q 0 0 [some (.ref 55), some (.int x1), some (.int x2), some (.int x3), none] [.int s0, .int s1] M := ⟨Nat.le_of_ble_eq_true rfl, rfl, 0, 0, Nat.zero_le _, Nat.zero_le _, h⟩
theorem vkX13_menFit_97 {mc ms : Nat} {X : Nat → zV} {Q : zQt} {M : zM} {x1 : Int32} {x2 : Int32} {x3 : Int32} {s0 : Int32} {s1 : Int32} (hW : zFix M)  (h : wX13_howMany 0 0 [.ref 55, .int (x2 + (5 : Int32))] M (fun r M1 => kX13_menFit_105 mc ms X Q 0 0 [some (.ref 55), some (.int x1), some (.int x2), some (.int x3), none] (r.toList ++ [.int (s1 + s0)]) M1)) : kX13_menFit_97 mc ms X Q 0 0 [some (.ref 55), some (.int x1), some (.int x2), some (.int x3), none] [.int s0, .int s1] M := ⟨Nat.le_of_ble_eq_true rfl, rfl, (fxs_55 hW), 0, 0, Nat.zero_le _, Nat.zero_le _, h⟩
theorem vkX13_menFit_105 {mc ms : Nat} {X : Nat → zV} {Q : zQt} {M : zM} {x1 : Int32} {x2 : Int32} {x3 : Int32} {s0 : Int32} {s1 : Int32} (hW : zFix M)  (h : wX13_above 0 0 [.int s0, .int 1] M (fun r M1 => kX13_menFit_109 mc ms X Q 0 0 [some (.ref 55), some (.int x1), some (.int x2), some (.int x3), none] (r.toList ++ [.int s1]) M1)) : kX13_menFit_105 mc ms X Q 0 0 [some (.ref 55), some (.int x1), some (.int x2), some (.int x3), none] [.int s0, .int s1] M := ⟨Nat.le_of_ble_eq_true rfl, rfl, 0, 0, Nat.zero_le _, Nat.zero_le _, h⟩
theorem vkX13_menFit_109 {mc ms : Nat} {X : Nat → zV} {Q : zQt} {M : zM} {x1 : Int32} {x2 : Int32} {x3 : Int32} {s0 : Int32} {s1 : Int32} (hW : zFix M)  (h : (x1 = 0 → X 129 0 0 [.ref 55, .int x2] [] M) ∧ (¬ x1 = 0 → ((8 : Int32) < (x3 + (s1 + s0)) → X 129 0 0 [.ref 55, .int x2] [] M) ∧ (¬ (8 : Int32) < (x3 + (s1 + s0)) → X 130 0 0 [.ref 55, .int x2] [.int 1] M))) : kX13_menFit_109 mc ms X Q 0 0 [some (.ref 55), some (.int x1), some (.int x2), some (.int x3), none] [.int s0, .int s1] M := ⟨fun c113 => (h.1 c113), fun c113 => ⟨fun c122 => ((h.2 c113).1 c122), fun c122 => ((h.2 c113).2 c122)⟩⟩
theorem dX13_rightsFit_0 : decode cX13_rightsFit 0 = .ok (.iconst 1, 1) := by decide +kernel
theorem dX13_rightsFit_1 : decode cX13_rightsFit 1 = .ok (.istore_n 1, 1) := by decide +kernel
theorem dX13_rightsFit_2 : decode cX13_rightsFit 2 = .ok (.iconst 0, 1) := by decide +kernel
theorem dX13_rightsFit_3 : decode cX13_rightsFit 3 = .ok (.istore_n 2, 1) := by decide +kernel
theorem dX13_rightsFit_4 : decode cX13_rightsFit 4 = .ok (.iload_n 2, 1) := by decide +kernel
theorem dX13_rightsFit_5 : decode cX13_rightsFit 5 = .ok (.iconst 4, 1) := by decide +kernel
theorem dX13_rightsFit_6 : decode cX13_rightsFit 6 = .ok (.if_icmp .ge 105, 3) := by decide +kernel
theorem dX13_rightsFit_9 : decode cX13_rightsFit 9 = .ok (.iload_n 2, 1) := by decide +kernel
theorem dX13_rightsFit_10 : decode cX13_rightsFit 10 = .ok (.iconst 2, 1) := by decide +kernel
theorem dX13_rightsFit_11 : decode cX13_rightsFit 11 = .ok (.idiv, 1) := by decide +kernel
theorem dX13_rightsFit_12 : decode cX13_rightsFit 12 = .ok (.istore_n 3, 1) := by decide +kernel
theorem dX13_rightsFit_13 : decode cX13_rightsFit 13 = .ok (.bipush 56, 2) := by decide +kernel
theorem dX13_rightsFit_15 : decode cX13_rightsFit 15 = .ok (.iload_n 3, 1) := by decide +kernel
theorem dX13_rightsFit_16 : decode cX13_rightsFit 16 = .ok (.imul, 1) := by decide +kernel
theorem dX13_rightsFit_17 : decode cX13_rightsFit 17 = .ok (.iload_n 2, 1) := by decide +kernel
theorem dX13_rightsFit_18 : decode cX13_rightsFit 18 = .ok (.iconst 2, 1) := by decide +kernel
theorem dX13_rightsFit_19 : decode cX13_rightsFit 19 = .ok (.irem, 1) := by decide +kernel
theorem dX13_rightsFit_20 : decode cX13_rightsFit 20 = .ok (.ifCond .ne 8, 3) := by decide +kernel
theorem dX13_rightsFit_23 : decode cX13_rightsFit 23 = .ok (.bipush 7, 2) := by decide +kernel
theorem dX13_rightsFit_25 : decode cX13_rightsFit 25 = .ok (.goto 4, 3) := by decide +kernel
theorem dX13_rightsFit_28 : decode cX13_rightsFit 28 = .ok (.iconst 0, 1) := by decide +kernel
theorem dX13_rightsFit_29 : decode cX13_rightsFit 29 = .ok (.iadd, 1) := by decide +kernel
theorem dX13_rightsFit_30 : decode cX13_rightsFit 30 = .ok (.istore 4, 2) := by decide +kernel
theorem dX13_rightsFit_32 : decode cX13_rightsFit 32 = .ok (.aload_n 0, 1) := by decide +kernel
theorem dX13_rightsFit_33 : decode cX13_rightsFit 33 = .ok (.getfield 43, 3) := by decide +kernel
theorem dX13_rightsFit_36 : decode cX13_rightsFit 36 = .ok (.bipush 56, 2) := by decide +kernel
theorem dX13_rightsFit_38 : decode cX13_rightsFit 38 = .ok (.iload_n 3, 1) := by decide +kernel
theorem dX13_rightsFit_39 : decode cX13_rightsFit 39 = .ok (.imul, 1) := by decide +kernel
theorem dX13_rightsFit_40 : decode cX13_rightsFit 40 = .ok (.iconst 4, 1) := by decide +kernel
theorem dX13_rightsFit_41 : decode cX13_rightsFit 41 = .ok (.iadd, 1) := by decide +kernel
theorem dX13_rightsFit_42 : decode cX13_rightsFit 42 = .ok (.iaload, 1) := by decide +kernel
theorem dX13_rightsFit_43 : decode cX13_rightsFit 43 = .ok (.bipush 6, 2) := by decide +kernel
theorem dX13_rightsFit_45 : decode cX13_rightsFit 45 = .ok (.bipush 6, 2) := by decide +kernel
theorem dX13_rightsFit_47 : decode cX13_rightsFit 47 = .ok (.iload_n 3, 1) := by decide +kernel
theorem dX13_rightsFit_48 : decode cX13_rightsFit 48 = .ok (.imul, 1) := by decide +kernel
theorem dX13_rightsFit_49 : decode cX13_rightsFit 49 = .ok (.iadd, 1) := by decide +kernel
theorem dX13_rightsFit_50 : decode cX13_rightsFit 50 = .ok (.if_icmp .ne 23, 3) := by decide +kernel
theorem dX13_rightsFit_53 : decode cX13_rightsFit 53 = .ok (.aload_n 0, 1) := by decide +kernel
theorem dX13_rightsFit_54 : decode cX13_rightsFit 54 = .ok (.getfield 43, 3) := by decide +kernel
theorem dX13_rightsFit_57 : decode cX13_rightsFit 57 = .ok (.iload 4, 2) := by decide +kernel
theorem dX13_rightsFit_59 : decode cX13_rightsFit 59 = .ok (.iaload, 1) := by decide +kernel
theorem dX13_rightsFit_60 : decode cX13_rightsFit 60 = .ok (.iconst 4, 1) := by decide +kernel
theorem dX13_rightsFit_61 : decode cX13_rightsFit 61 = .ok (.bipush 6, 2) := by decide +kernel
theorem dX13_rightsFit_63 : decode cX13_rightsFit 63 = .ok (.iload_n 3, 1) := by decide +kernel
theorem dX13_rightsFit_64 : decode cX13_rightsFit 64 = .ok (.imul, 1) := by decide +kernel
theorem dX13_rightsFit_65 : decode cX13_rightsFit 65 = .ok (.iadd, 1) := by decide +kernel
theorem dX13_rightsFit_66 : decode cX13_rightsFit 66 = .ok (.if_icmp .ne 7, 3) := by decide +kernel
theorem dX13_rightsFit_69 : decode cX13_rightsFit 69 = .ok (.iconst 1, 1) := by decide +kernel
theorem dX13_rightsFit_70 : decode cX13_rightsFit 70 = .ok (.goto 4, 3) := by decide +kernel
theorem dX13_rightsFit_73 : decode cX13_rightsFit 73 = .ok (.iconst 0, 1) := by decide +kernel
theorem dX13_rightsFit_74 : decode cX13_rightsFit 74 = .ok (.istore 5, 2) := by decide +kernel
theorem dX13_rightsFit_76 : decode cX13_rightsFit 76 = .ok (.iload_n 1, 1) := by decide +kernel
theorem dX13_rightsFit_77 : decode cX13_rightsFit 77 = .ok (.ifCond .eq 26, 3) := by decide +kernel
theorem dX13_rightsFit_80 : decode cX13_rightsFit 80 = .ok (.iload 5, 2) := by decide +kernel
theorem dX13_rightsFit_82 : decode cX13_rightsFit 82 = .ok (.ifCond .ne 17, 3) := by decide +kernel
theorem dX13_rightsFit_85 : decode cX13_rightsFit 85 = .ok (.aload_n 0, 1) := by decide +kernel
theorem dX13_rightsFit_86 : decode cX13_rightsFit 86 = .ok (.getfield 43, 3) := by decide +kernel
theorem dX13_rightsFit_89 : decode cX13_rightsFit 89 = .ok (.bipush 65, 2) := by decide +kernel
theorem dX13_rightsFit_91 : decode cX13_rightsFit 91 = .ok (.iaload, 1) := by decide +kernel
theorem dX13_rightsFit_92 : decode cX13_rightsFit 92 = .ok (.iload_n 2, 1) := by decide +kernel
theorem dX13_rightsFit_93 : decode cX13_rightsFit 93 = .ok (.ishr, 1) := by decide +kernel
theorem dX13_rightsFit_94 : decode cX13_rightsFit 94 = .ok (.iconst 1, 1) := by decide +kernel
theorem dX13_rightsFit_95 : decode cX13_rightsFit 95 = .ok (.iand, 1) := by decide +kernel
theorem dX13_rightsFit_96 : decode cX13_rightsFit 96 = .ok (.ifCond .ne 7, 3) := by decide +kernel
theorem dX13_rightsFit_99 : decode cX13_rightsFit 99 = .ok (.iconst 1, 1) := by decide +kernel
theorem dX13_rightsFit_100 : decode cX13_rightsFit 100 = .ok (.goto 4, 3) := by decide +kernel
theorem dX13_rightsFit_103 : decode cX13_rightsFit 103 = .ok (.iconst 0, 1) := by decide +kernel
theorem dX13_rightsFit_104 : decode cX13_rightsFit 104 = .ok (.istore_n 1, 1) := by decide +kernel
theorem dX13_rightsFit_105 : decode cX13_rightsFit 105 = .ok (.iinc 2 1, 3) := by decide +kernel
theorem dX13_rightsFit_108 : decode cX13_rightsFit 108 = .ok (.goto (-104), 3) := by decide +kernel
theorem dX13_rightsFit_111 : decode cX13_rightsFit 111 = .ok (.iload_n 1, 1) := by decide +kernel
theorem dX13_rightsFit_112 : decode cX13_rightsFit 112 = .ok (.ireturn, 1) := by decide +kernel
def aX13_rightsFit_0 (mc ms : Nat) (X : Nat → zV) (Q : zQt) : zT :=
  zc (.int 1) <| zsi 1 <| zc (.int 0) <| zsi 2 <| zj X 4 [0, 1, 2]
def aX13_rightsFit_4 (mc ms : Nat) (X : Nat → zV) (Q : zQt) : zT :=
  zli 2 <| zc (.int 4) <| zic (fun x y => y ≤ x) (zli 1 <| zrz .boolean Q) <| zli 2 <| zc (.int 2) <| zid (fun x y => x / y) <| zsi 3 <| zc (.int 56) <| zli 3 <| zii (fun x y => x * y) <| zli 2 <| zc (.int 2) <| zid (fun x y => x - x / y * y) <| zif (fun x => x = 0) (zc (.int 7) <| zj X 29 [0, 1, 2, 3]) <| zc (.int 0) <| zj X 29 [0, 1, 2, 3]
def aX13_rightsFit_29 (mc ms : Nat) (X : Nat → zV) (Q : zQt) : zT :=
  zii (fun x y => x + y) <| zsi 4 <| zla 0 <| zgR 13 16 <| zc (.int 56) <| zli 3 <| zii (fun x y => x * y) <| zc (.int 4) <| zii (fun x y => x + y) <| zal 1 <| zc (.int 6) <| zc (.int 6) <| zli 3 <| zii (fun x y => x * y) <| zii (fun x y => x + y) <| zic (fun x y => x = y) (zla 0 <| zgR 13 16 <| zli 4 <| zal 1 <| zc (.int 4) <| zc (.int 6) <| zli 3 <| zii (fun x y => x * y) <| zii (fun x y => x + y) <| zic (fun x y => x = y) (zc (.int 1) <| zj X 74 [0, 1, 2]) <| zj X 73 [0, 1, 2]) <| zj X 73 [0, 1, 2]
def aX13_rightsFit_73 (mc ms : Nat) (X : Nat → zV) (Q : zQt) : zT :=
  zc (.int 0) <| zj X 74 [0, 1, 2]
def aX13_rightsFit_74 (mc ms : Nat) (X : Nat → zV) (Q : zQt) : zT :=
  zsi 5 <| zli 1 <| zif (fun x => x = 0) (zj X 103 [0, 2]) <| zli 5 <| zif (fun x => x = 0) (zla 0 <| zgR 13 16 <| zc (.int 65) <| zal 1 <| zli 2 <| zii (fun x y => x >>> (y &&& 31)) <| zc (.int 1) <| zii (fun x y => x &&& y) <| zif (fun x => x = 0) (zj X 99 [0, 2]) <| zj X 103 [0, 2]) <| zj X 99 [0, 2]
def aX13_rightsFit_99 (mc ms : Nat) (X : Nat → zV) (Q : zQt) : zT :=
  zc (.int 1) <| zj X 104 [0, 2]
def aX13_rightsFit_103 (mc ms : Nat) (X : Nat → zV) (Q : zQt) : zT :=
  zc (.int 0) <| zj X 104 [0, 2]
def aX13_rightsFit_104 (mc ms : Nat) (X : Nat → zV) (Q : zQt) : zT :=
  zsi 1 <| zinc 2 1 <| zj X 4 [0, 1, 2]
def lvX13_rightsFit : Nat → List Nat := fun L => match L with
  | 0 => [0]
  | 4 => [0, 1, 2]
  | 29 => [0, 1, 2, 3]
  | 73 => [0, 1, 2]
  | 74 => [0, 1, 2]
  | 99 => [0, 2]
  | 103 => [0, 2]
  | 104 => [0, 2]
  | _ => []
def wX13_rightsFit : zSp := fun mc ms av M Q => ((zlay av).length ≤ 6 ∧ zpick (zlay av) [0] = some av) ∧ ∀ X : Nat → zV, zin 6 [0] (aX13_rightsFit_0 mc ms X Q) X 0 → zin 6 [0, 1, 2] (aX13_rightsFit_4 mc ms X Q) X 4 → zin 6 [0, 1, 2, 3] (aX13_rightsFit_29 mc ms X Q) X 29 → zin 6 [0, 1, 2] (aX13_rightsFit_73 mc ms X Q) X 73 → zin 6 [0, 1, 2] (aX13_rightsFit_74 mc ms X Q) X 74 → zin 6 [0, 2] (aX13_rightsFit_99 mc ms X Q) X 99 → zin 6 [0, 2] (aX13_rightsFit_103 mc ms X Q) X 103 → zin 6 [0, 2] (aX13_rightsFit_104 mc ms X Q) X 104 → X 0 0 0 av [] M
set_option maxRecDepth 100000 in
set_option maxHeartbeats 4000000 in
theorem sX13_rightsFit (l : Launch) (G : zG) : zSnd l G yX13_rightsFit cX13_rightsFit 6 (some .boolean) 0 0 wX13_rightsFit := by
  refine zmk [0] (by decide) (fun mc ms av M Q h => h.1) ?_
  intro p e R s m args below meth c mc ms av M Q hC hRf hRl hr hnm h lv hlv
  obtain ⟨X, hXe⟩ : ∃ X : Nat → zV, X = fun L u v vs st M => ∀ lv, zpick lv (lvX13_rightsFit L) = some vs → zAt p l e R s m args below meth c (MQ below (zQ G Q) args s mc ms (zA G)) G 6 L u v lv st M := ⟨_, rfl⟩
  have hJ : ∀ L, zOk p l e R s m args below meth c (MQ below (zQ G Q) args s mc ms (zA G)) G 6 L (zj X L (lvX13_rightsFit L)) := fun L => S_jump (fun u v lv vs st M hp hx => by rw [hXe] at hx; exact hx lv hp)
  have hB0 : zin 6 [0] (aX13_rightsFit_0 mc ms X Q) X 0 := by
    intro u v vs st M hb
    rw [hXe]
    refine fun lv hp => S_block (L := 0) (live := [0]) ?_ u v lv vs st M hp hb
    unfold aX13_rightsFit_0
    refine S_iconst (pc := 0) hC dX13_rightsFit_0 (by decide) ?_
    refine S_istore_n (pc := 1) hC dX13_rightsFit_1 rfl (by decide) ?_
    refine S_iconst (pc := 2) hC dX13_rightsFit_2 (by decide) ?_
    refine S_istore_n (pc := 3) hC dX13_rightsFit_3 rfl (by decide) ?_
    exact hJ 4
  have hB4 : zin 6 [0, 1, 2] (aX13_rightsFit_4 mc ms X Q) X 4 := by
    intro u v vs st M hb
    rw [hXe]
    refine fun lv hp => S_block (L := 4) (live := [0, 1, 2]) ?_ u v lv vs st M hp hb
    unfold aX13_rightsFit_4
    refine S_iload_n (pc := 4) hC dX13_rightsFit_4 rfl ?_
    refine S_iconst (pc := 5) hC dX13_rightsFit_5 (by decide) ?_
    refine S_icmp_ge (pc := 6) (tgt := 111) hC dX13_rightsFit_6 (by decide) ?_ ?_
    · refine S_iload_n (pc := 111) hC dX13_rightsFit_111 rfl ?_
      exact S_zreturn (pc := 112) hC hr dX13_rightsFit_112
    · refine S_iload_n (pc := 9) hC dX13_rightsFit_9 rfl ?_
      refine S_iconst (pc := 10) hC dX13_rightsFit_10 (by decide) ?_
      refine S_idiv (pc := 11) hC dX13_rightsFit_11 ?_
      refine S_istore_n (pc := 12) hC dX13_rightsFit_12 rfl (by decide) ?_
      refine S_bipush (pc := 13) hC dX13_rightsFit_13 (by decide) ?_
      refine S_iload_n (pc := 15) hC dX13_rightsFit_15 rfl ?_
      refine S_imul (pc := 16) hC dX13_rightsFit_16 ?_
      refine S_iload_n (pc := 17) hC dX13_rightsFit_17 rfl ?_
      refine S_iconst (pc := 18) hC dX13_rightsFit_18 (by decide) ?_
      refine S_irem (pc := 19) hC dX13_rightsFit_19 ?_
      refine S_if_ne (pc := 20) (tgt := 28) hC dX13_rightsFit_20 (by decide) ?_ ?_
      · refine S_iconst (pc := 28) hC dX13_rightsFit_28 (by decide) ?_
        exact hJ 29
      · refine S_bipush (pc := 23) hC dX13_rightsFit_23 (by decide) ?_
        refine S_goto (pc := 25) (tgt := 29) hC dX13_rightsFit_25 (by decide) ?_
        exact hJ 29
  have hB29 : zin 6 [0, 1, 2, 3] (aX13_rightsFit_29 mc ms X Q) X 29 := by
    intro u v vs st M hb
    rw [hXe]
    refine fun lv hp => S_block (L := 29) (live := [0, 1, 2, 3]) ?_ u v lv vs st M hp hb
    unfold aX13_rightsFit_29
    refine S_iadd (pc := 29) hC dX13_rightsFit_29 ?_
    refine S_istore (pc := 30) hC dX13_rightsFit_30 (by decide) ?_
    refine S_aload_n (pc := 32) hC dX13_rightsFit_32 rfl ?_
    refine S_getR (pc := 33) hC cfX13 (by decide) (Or.inr ⟨_, rfl⟩) wd_1271 dX13_rightsFit_33 ?_
    refine S_bipush (pc := 36) hC dX13_rightsFit_36 (by decide) ?_
    refine S_iload_n (pc := 38) hC dX13_rightsFit_38 rfl ?_
    refine S_imul (pc := 39) hC dX13_rightsFit_39 ?_
    refine S_iconst (pc := 40) hC dX13_rightsFit_40 (by decide) ?_
    refine S_iadd (pc := 41) hC dX13_rightsFit_41 ?_
    refine S_iaload (pc := 42) hC dX13_rightsFit_42 ?_
    refine S_bipush (pc := 43) hC dX13_rightsFit_43 (by decide) ?_
    refine S_bipush (pc := 45) hC dX13_rightsFit_45 (by decide) ?_
    refine S_iload_n (pc := 47) hC dX13_rightsFit_47 rfl ?_
    refine S_imul (pc := 48) hC dX13_rightsFit_48 ?_
    refine S_iadd (pc := 49) hC dX13_rightsFit_49 ?_
    refine S_icmp_ne (pc := 50) (tgt := 73) hC dX13_rightsFit_50 (by decide) ?_ ?_
    · exact hJ 73
    · refine S_aload_n (pc := 53) hC dX13_rightsFit_53 rfl ?_
      refine S_getR (pc := 54) hC cfX13 (by decide) (Or.inr ⟨_, rfl⟩) wd_1271 dX13_rightsFit_54 ?_
      refine S_iload (pc := 57) hC dX13_rightsFit_57 ?_
      refine S_iaload (pc := 59) hC dX13_rightsFit_59 ?_
      refine S_iconst (pc := 60) hC dX13_rightsFit_60 (by decide) ?_
      refine S_bipush (pc := 61) hC dX13_rightsFit_61 (by decide) ?_
      refine S_iload_n (pc := 63) hC dX13_rightsFit_63 rfl ?_
      refine S_imul (pc := 64) hC dX13_rightsFit_64 ?_
      refine S_iadd (pc := 65) hC dX13_rightsFit_65 ?_
      refine S_icmp_ne (pc := 66) (tgt := 73) hC dX13_rightsFit_66 (by decide) ?_ ?_
      · exact hJ 73
      · refine S_iconst (pc := 69) hC dX13_rightsFit_69 (by decide) ?_
        refine S_goto (pc := 70) (tgt := 74) hC dX13_rightsFit_70 (by decide) ?_
        exact hJ 74
  have hB73 : zin 6 [0, 1, 2] (aX13_rightsFit_73 mc ms X Q) X 73 := by
    intro u v vs st M hb
    rw [hXe]
    refine fun lv hp => S_block (L := 73) (live := [0, 1, 2]) ?_ u v lv vs st M hp hb
    unfold aX13_rightsFit_73
    refine S_iconst (pc := 73) hC dX13_rightsFit_73 (by decide) ?_
    exact hJ 74
  have hB74 : zin 6 [0, 1, 2] (aX13_rightsFit_74 mc ms X Q) X 74 := by
    intro u v vs st M hb
    rw [hXe]
    refine fun lv hp => S_block (L := 74) (live := [0, 1, 2]) ?_ u v lv vs st M hp hb
    unfold aX13_rightsFit_74
    refine S_istore (pc := 74) hC dX13_rightsFit_74 (by decide) ?_
    refine S_iload_n (pc := 76) hC dX13_rightsFit_76 rfl ?_
    refine S_if_eq (pc := 77) (tgt := 103) hC dX13_rightsFit_77 (by decide) ?_ ?_
    · exact hJ 103
    · refine S_iload (pc := 80) hC dX13_rightsFit_80 ?_
      refine S_if_ne (pc := 82) (tgt := 99) hC dX13_rightsFit_82 (by decide) ?_ ?_
      · exact hJ 99
      · refine S_aload_n (pc := 85) hC dX13_rightsFit_85 rfl ?_
        refine S_getR (pc := 86) hC cfX13 (by decide) (Or.inr ⟨_, rfl⟩) wd_1271 dX13_rightsFit_86 ?_
        refine S_bipush (pc := 89) hC dX13_rightsFit_89 (by decide) ?_
        refine S_iaload (pc := 91) hC dX13_rightsFit_91 ?_
        refine S_iload_n (pc := 92) hC dX13_rightsFit_92 rfl ?_
        refine S_ishr (pc := 93) hC dX13_rightsFit_93 ?_
        refine S_iconst (pc := 94) hC dX13_rightsFit_94 (by decide) ?_
        refine S_iand (pc := 95) hC dX13_rightsFit_95 ?_
        refine S_if_ne (pc := 96) (tgt := 103) hC dX13_rightsFit_96 (by decide) ?_ ?_
        · exact hJ 103
        · exact hJ 99
  have hB99 : zin 6 [0, 2] (aX13_rightsFit_99 mc ms X Q) X 99 := by
    intro u v vs st M hb
    rw [hXe]
    refine fun lv hp => S_block (L := 99) (live := [0, 2]) ?_ u v lv vs st M hp hb
    unfold aX13_rightsFit_99
    refine S_iconst (pc := 99) hC dX13_rightsFit_99 (by decide) ?_
    refine S_goto (pc := 100) (tgt := 104) hC dX13_rightsFit_100 (by decide) ?_
    exact hJ 104
  have hB103 : zin 6 [0, 2] (aX13_rightsFit_103 mc ms X Q) X 103 := by
    intro u v vs st M hb
    rw [hXe]
    refine fun lv hp => S_block (L := 103) (live := [0, 2]) ?_ u v lv vs st M hp hb
    unfold aX13_rightsFit_103
    refine S_iconst (pc := 103) hC dX13_rightsFit_103 (by decide) ?_
    exact hJ 104
  have hB104 : zin 6 [0, 2] (aX13_rightsFit_104 mc ms X Q) X 104 := by
    intro u v vs st M hb
    rw [hXe]
    refine fun lv hp => S_block (L := 104) (live := [0, 2]) ?_ u v lv vs st M hp hb
    unfold aX13_rightsFit_104
    refine S_istore_n (pc := 104) hC dX13_rightsFit_104 rfl (by decide) ?_
    refine S_iinc (pc := 105) hC dX13_rightsFit_105 (by decide) (by decide) ?_
    refine S_goto (pc := 108) (tgt := 4) hC dX13_rightsFit_108 (by decide) ?_
    exact hJ 4
  have := h.2 X hB0 hB4 hB29 hB73 hB74 hB99 hB103 hB104
  rw [hXe] at this
  exact this lv hlv
theorem vX13_rightsFit_0 {mc ms : Nat} {X : Nat → zV} {Q : zQt} {M : zM}  (hW : zFix M)  (h : X 4 0 0 [.ref 55, .int 1, .int 0] [] M) : aX13_rightsFit_0 mc ms X Q 0 0 [some (.ref 55), none, none, none, none, none] [] M := h
theorem vX13_rightsFit_4 {mc ms : Nat} {X : Nat → zV} {Q : zQt} {M : zM} {x1 : Int32} {x2 : Int32} (hW : zFix M)  (h : ((4 : Int32) ≤ x2 → narrow .boolean (.int x1) = .int x1 ∧ Q (some (.int x1)) M) ∧ (¬ (4 : Int32) ≤ x2 → ((x2 - x2 / (2 : Int32) * (2 : Int32)) = 0 → X 29 0 0 [.ref 55, .int x1, .int x2, .int (x2 / (2 : Int32))] [.int 7, .int ((56 : Int32) * (x2 / (2 : Int32)))] M) ∧ (¬ (x2 - x2 / (2 : Int32) * (2 : Int32)) = 0 → X 29 0 0 [.ref 55, .int x1, .int x2, .int (x2 / (2 : Int32))] [.int 0, .int ((56 : Int32) * (x2 / (2 : Int32)))] M))) : aX13_rightsFit_4 mc ms X Q 0 0 [some (.ref 55), some (.int x1), some (.int x2), none, none, none] [] M := ⟨fun c6 => (h.1 c6), fun c6 => ⟨by decide, ⟨by decide, ⟨fun c20 => ((h.2 c6).1 c20), fun c20 => ((h.2 c6).2 c20)⟩⟩⟩⟩
theorem vX13_rightsFit_29 {mc ms : Nat} {X : Nat → zV} {Q : zQt} {M : zM} {x1 : Int32} {x2 : Int32} {x3 : Int32} {s0 : Int32} {s1 : Int32} (hW : zFix M)  (h : vp_in ((((56 : Int32) * x3) + (4 : Int32))) 414 ∧ (((M : zM).1 65 ((((56 : Int32) * x3) + (4 : Int32)) : Int32).toNatClampNeg) = ((6 : Int32) + ((6 : Int32) * x3)) → vp_in ((s1 + s0)) 414 ∧ (((M : zM).1 65 ((s1 + s0) : Int32).toNatClampNeg) = ((4 : Int32) + ((6 : Int32) * x3)) → X 74 0 0 [.ref 55, .int x1, .int x2] [.int 1] M) ∧ (¬ ((M : zM).1 65 ((s1 + s0) : Int32).toNatClampNeg) = ((4 : Int32) + ((6 : Int32) * x3)) → X 73 0 0 [.ref 55, .int x1, .int x2] [] M)) ∧ (¬ ((M : zM).1 65 ((((56 : Int32) * x3) + (4 : Int32)) : Int32).toNatClampNeg) = ((6 : Int32) + ((6 : Int32) * x3)) → X 73 0 0 [.ref 55, .int x1, .int x2] [] M)) : aX13_rightsFit_29 mc ms X Q 0 0 [some (.ref 55), some (.int x1), some (.int x2), some (.int x3), none, none] [.int s0, .int s1] M := ⟨(fxs_55 hW), 65, (fxr_55_16 hW), ⟨414, (fxs_65 hW), h.1, ⟨fun c50 => ⟨(fxs_55 hW), 65, (fxr_55_16 hW), ⟨414, (fxs_65 hW), (h.2.1 c50).1, ⟨fun c66 => ((h.2.1 c50).2.1 c66), fun c66 => ((h.2.1 c50).2.2 c66)⟩⟩⟩, fun c50 => (h.2.2 c50)⟩⟩⟩
theorem vX13_rightsFit_73 {mc ms : Nat} {X : Nat → zV} {Q : zQt} {M : zM} {x1 : Int32} {x2 : Int32} (hW : zFix M)  (h : X 74 0 0 [.ref 55, .int x1, .int x2] [.int 0] M) : aX13_rightsFit_73 mc ms X Q 0 0 [some (.ref 55), some (.int x1), some (.int x2), none, none, none] [] M := h
theorem vX13_rightsFit_74 {mc ms : Nat} {X : Nat → zV} {Q : zQt} {M : zM} {x1 : Int32} {x2 : Int32} {s0 : Int32} (hW : zFix M)  (h : (x1 = 0 → X 103 0 0 [.ref 55, .int x2] [] M) ∧ (¬ x1 = 0 → (s0 = 0 → (((((M : zM).1 65 (65 : Int32).toNatClampNeg) >>> (x2 &&& 31)) &&& (1 : Int32)) = 0 → X 99 0 0 [.ref 55, .int x2] [] M) ∧ (¬ ((((M : zM).1 65 (65 : Int32).toNatClampNeg) >>> (x2 &&& 31)) &&& (1 : Int32)) = 0 → X 103 0 0 [.ref 55, .int x2] [] M)) ∧ (¬ s0 = 0 → X 99 0 0 [.ref 55, .int x2] [] M))) : aX13_rightsFit_74 mc ms X Q 0 0 [some (.ref 55), some (.int x1), some (.int x2), none, none, none] [.int s0] M := ⟨fun c77 => (h.1 c77), fun c77 => ⟨fun c82 => ⟨(fxs_55 hW), 65, (fxr_55_16 hW), ⟨414, (fxs_65 hW), by unfold vp_in; decide, ⟨fun c96 => (((h.2 c77).1 c82).1 c96), fun c96 => (((h.2 c77).1 c82).2 c96)⟩⟩⟩, fun c82 => ((h.2 c77).2 c82)⟩⟩
theorem vX13_rightsFit_99 {mc ms : Nat} {X : Nat → zV} {Q : zQt} {M : zM} {x2 : Int32} (hW : zFix M)  (h : X 104 0 0 [.ref 55, .int x2] [.int 1] M) : aX13_rightsFit_99 mc ms X Q 0 0 [some (.ref 55), none, some (.int x2), none, none, none] [] M := h
theorem vX13_rightsFit_103 {mc ms : Nat} {X : Nat → zV} {Q : zQt} {M : zM} {x2 : Int32} (hW : zFix M)  (h : X 104 0 0 [.ref 55, .int x2] [.int 0] M) : aX13_rightsFit_103 mc ms X Q 0 0 [some (.ref 55), none, some (.int x2), none, none, none] [] M := h
theorem vX13_rightsFit_104 {mc ms : Nat} {X : Nat → zV} {Q : zQt} {M : zM} {x2 : Int32} {s0 : Int32} (hW : zFix M)  (h : X 4 0 0 [.ref 55, .int s0, .int (x2 + 1)] [] M) : aX13_rightsFit_104 mc ms X Q 0 0 [some (.ref 55), none, some (.int x2), none, none, none] [.int s0] M := h
theorem dX13_passantFits_0 : decode cX13_passantFits 0 = .ok (.aload_n 0, 1) := by decide +kernel
theorem dX13_passantFits_1 : decode cX13_passantFits 1 = .ok (.getfield 43, 3) := by decide +kernel
theorem dX13_passantFits_4 : decode cX13_passantFits 4 = .ok (.bipush 66, 2) := by decide +kernel
theorem dX13_passantFits_6 : decode cX13_passantFits 6 = .ok (.iaload, 1) := by decide +kernel
theorem dX13_passantFits_7 : decode cX13_passantFits 7 = .ok (.istore_n 1, 1) := by decide +kernel
theorem dX13_passantFits_8 : decode cX13_passantFits 8 = .ok (.iload_n 1, 1) := by decide +kernel
theorem dX13_passantFits_9 : decode cX13_passantFits 9 = .ok (.ifCond .ge 5, 3) := by decide +kernel
theorem dX13_passantFits_12 : decode cX13_passantFits 12 = .ok (.iconst 1, 1) := by decide +kernel
theorem dX13_passantFits_13 : decode cX13_passantFits 13 = .ok (.ireturn, 1) := by decide +kernel
theorem dX13_passantFits_14 : decode cX13_passantFits 14 = .ok (.aload_n 0, 1) := by decide +kernel
theorem dX13_passantFits_15 : decode cX13_passantFits 15 = .ok (.getfield 43, 3) := by decide +kernel
theorem dX13_passantFits_18 : decode cX13_passantFits 18 = .ok (.bipush 64, 2) := by decide +kernel
theorem dX13_passantFits_20 : decode cX13_passantFits 20 = .ok (.iaload, 1) := by decide +kernel
theorem dX13_passantFits_21 : decode cX13_passantFits 21 = .ok (.ifCond .ne 7, 3) := by decide +kernel
theorem dX13_passantFits_24 : decode cX13_passantFits 24 = .ok (.iconst 1, 1) := by decide +kernel
theorem dX13_passantFits_25 : decode cX13_passantFits 25 = .ok (.goto 4, 3) := by decide +kernel
theorem dX13_passantFits_28 : decode cX13_passantFits 28 = .ok (.iconst 0, 1) := by decide +kernel
theorem dX13_passantFits_29 : decode cX13_passantFits 29 = .ok (.istore_n 2, 1) := by decide +kernel
theorem dX13_passantFits_30 : decode cX13_passantFits 30 = .ok (.iload_n 2, 1) := by decide +kernel
theorem dX13_passantFits_31 : decode cX13_passantFits 31 = .ok (.ifCond .eq 10, 3) := by decide +kernel
theorem dX13_passantFits_34 : decode cX13_passantFits 34 = .ok (.bipush 32, 2) := by decide +kernel
theorem dX13_passantFits_36 : decode cX13_passantFits 36 = .ok (.iload_n 1, 1) := by decide +kernel
theorem dX13_passantFits_37 : decode cX13_passantFits 37 = .ok (.iadd, 1) := by decide +kernel
theorem dX13_passantFits_38 : decode cX13_passantFits 38 = .ok (.goto 7, 3) := by decide +kernel
theorem dX13_passantFits_41 : decode cX13_passantFits 41 = .ok (.bipush 24, 2) := by decide +kernel
theorem dX13_passantFits_43 : decode cX13_passantFits 43 = .ok (.iload_n 1, 1) := by decide +kernel
theorem dX13_passantFits_44 : decode cX13_passantFits 44 = .ok (.iadd, 1) := by decide +kernel
theorem dX13_passantFits_45 : decode cX13_passantFits 45 = .ok (.istore_n 3, 1) := by decide +kernel
theorem dX13_passantFits_46 : decode cX13_passantFits 46 = .ok (.iload_n 2, 1) := by decide +kernel
theorem dX13_passantFits_47 : decode cX13_passantFits 47 = .ok (.ifCond .eq 10, 3) := by decide +kernel
theorem dX13_passantFits_50 : decode cX13_passantFits 50 = .ok (.bipush 40, 2) := by decide +kernel
theorem dX13_passantFits_52 : decode cX13_passantFits 52 = .ok (.iload_n 1, 1) := by decide +kernel
theorem dX13_passantFits_53 : decode cX13_passantFits 53 = .ok (.iadd, 1) := by decide +kernel
theorem dX13_passantFits_54 : decode cX13_passantFits 54 = .ok (.goto 7, 3) := by decide +kernel
theorem dX13_passantFits_57 : decode cX13_passantFits 57 = .ok (.bipush 16, 2) := by decide +kernel
theorem dX13_passantFits_59 : decode cX13_passantFits 59 = .ok (.iload_n 1, 1) := by decide +kernel
theorem dX13_passantFits_60 : decode cX13_passantFits 60 = .ok (.iadd, 1) := by decide +kernel
theorem dX13_passantFits_61 : decode cX13_passantFits 61 = .ok (.istore 4, 2) := by decide +kernel
theorem dX13_passantFits_63 : decode cX13_passantFits 63 = .ok (.iload_n 2, 1) := by decide +kernel
theorem dX13_passantFits_64 : decode cX13_passantFits 64 = .ok (.ifCond .eq 10, 3) := by decide +kernel
theorem dX13_passantFits_67 : decode cX13_passantFits 67 = .ok (.bipush 48, 2) := by decide +kernel
theorem dX13_passantFits_69 : decode cX13_passantFits 69 = .ok (.iload_n 1, 1) := by decide +kernel
theorem dX13_passantFits_70 : decode cX13_passantFits 70 = .ok (.iadd, 1) := by decide +kernel
theorem dX13_passantFits_71 : decode cX13_passantFits 71 = .ok (.goto 7, 3) := by decide +kernel
theorem dX13_passantFits_74 : decode cX13_passantFits 74 = .ok (.bipush 8, 2) := by decide +kernel
theorem dX13_passantFits_76 : decode cX13_passantFits 76 = .ok (.iload_n 1, 1) := by decide +kernel
theorem dX13_passantFits_77 : decode cX13_passantFits 77 = .ok (.iadd, 1) := by decide +kernel
theorem dX13_passantFits_78 : decode cX13_passantFits 78 = .ok (.istore 5, 2) := by decide +kernel
theorem dX13_passantFits_80 : decode cX13_passantFits 80 = .ok (.aload_n 0, 1) := by decide +kernel
theorem dX13_passantFits_81 : decode cX13_passantFits 81 = .ok (.getfield 43, 3) := by decide +kernel
theorem dX13_passantFits_84 : decode cX13_passantFits 84 = .ok (.iload_n 3, 1) := by decide +kernel
theorem dX13_passantFits_85 : decode cX13_passantFits 85 = .ok (.iaload, 1) := by decide +kernel
theorem dX13_passantFits_86 : decode cX13_passantFits 86 = .ok (.iload_n 2, 1) := by decide +kernel
theorem dX13_passantFits_87 : decode cX13_passantFits 87 = .ok (.ifCond .eq 8, 3) := by decide +kernel
theorem dX13_passantFits_90 : decode cX13_passantFits 90 = .ok (.bipush 7, 2) := by decide +kernel
theorem dX13_passantFits_92 : decode cX13_passantFits 92 = .ok (.goto 4, 3) := by decide +kernel
theorem dX13_passantFits_95 : decode cX13_passantFits 95 = .ok (.iconst 1, 1) := by decide +kernel
theorem dX13_passantFits_96 : decode cX13_passantFits 96 = .ok (.if_icmp .ne 37, 3) := by decide +kernel
theorem dX13_passantFits_99 : decode cX13_passantFits 99 = .ok (.aload_n 0, 1) := by decide +kernel
theorem dX13_passantFits_100 : decode cX13_passantFits 100 = .ok (.getfield 43, 3) := by decide +kernel
theorem dX13_passantFits_103 : decode cX13_passantFits 103 = .ok (.iload 4, 2) := by decide +kernel
theorem dX13_passantFits_105 : decode cX13_passantFits 105 = .ok (.iaload, 1) := by decide +kernel
theorem dX13_passantFits_106 : decode cX13_passantFits 106 = .ok (.ifCond .ne 27, 3) := by decide +kernel
theorem dX13_passantFits_109 : decode cX13_passantFits 109 = .ok (.aload_n 0, 1) := by decide +kernel
theorem dX13_passantFits_110 : decode cX13_passantFits 110 = .ok (.getfield 43, 3) := by decide +kernel
theorem dX13_passantFits_113 : decode cX13_passantFits 113 = .ok (.iload 5, 2) := by decide +kernel
theorem dX13_passantFits_115 : decode cX13_passantFits 115 = .ok (.iaload, 1) := by decide +kernel
theorem dX13_passantFits_116 : decode cX13_passantFits 116 = .ok (.ifCond .ne 17, 3) := by decide +kernel
theorem dX13_passantFits_119 : decode cX13_passantFits 119 = .ok (.aload_n 0, 1) := by decide +kernel
theorem dX13_passantFits_120 : decode cX13_passantFits 120 = .ok (.getfield 43, 3) := by decide +kernel
theorem dX13_passantFits_123 : decode cX13_passantFits 123 = .ok (.bipush 67, 2) := by decide +kernel
theorem dX13_passantFits_125 : decode cX13_passantFits 125 = .ok (.iaload, 1) := by decide +kernel
theorem dX13_passantFits_126 : decode cX13_passantFits 126 = .ok (.ifCond .ne 7, 3) := by decide +kernel
theorem dX13_passantFits_129 : decode cX13_passantFits 129 = .ok (.iconst 1, 1) := by decide +kernel
theorem dX13_passantFits_130 : decode cX13_passantFits 130 = .ok (.goto 4, 3) := by decide +kernel
theorem dX13_passantFits_133 : decode cX13_passantFits 133 = .ok (.iconst 0, 1) := by decide +kernel
theorem dX13_passantFits_134 : decode cX13_passantFits 134 = .ok (.ireturn, 1) := by decide +kernel
def kX13_passantFits_8 (mc ms : Nat) (X : Nat → zV) (Q : zQt) : zT :=
  zli 1 <| zif (fun x => 0 ≤ x) (zla 0 <| zgR 13 16 <| zc (.int 64) <| zal 1 <| zif (fun x => x = 0) (zc (.int 1) <| zj X 29 [0, 1]) <| zc (.int 0) <| zj X 29 [0, 1]) <| zc (.int 1) <| zrz .boolean Q
def aX13_passantFits_0 (mc ms : Nat) (X : Nat → zV) (Q : zQt) : zT :=
  zla 0 <| zgR 13 16 <| zc (.int 66) <| zal 1 <| zsiN 1 <| kX13_passantFits_8 mc ms X Q
def aX13_passantFits_29 (mc ms : Nat) (X : Nat → zV) (Q : zQt) : zT :=
  zsi 2 <| zli 2 <| zif (fun x => x = 0) (zc (.int 24) <| zli 1 <| zii (fun x y => x + y) <| zj X 45 [0, 1, 2]) <| zc (.int 32) <| zli 1 <| zii (fun x y => x + y) <| zj X 45 [0, 1, 2]
def aX13_passantFits_45 (mc ms : Nat) (X : Nat → zV) (Q : zQt) : zT :=
  zsi 3 <| zli 2 <| zif (fun x => x = 0) (zc (.int 16) <| zli 1 <| zii (fun x y => x + y) <| zj X 61 [0, 1, 2, 3]) <| zc (.int 40) <| zli 1 <| zii (fun x y => x + y) <| zj X 61 [0, 1, 2, 3]
def aX13_passantFits_61 (mc ms : Nat) (X : Nat → zV) (Q : zQt) : zT :=
  zsi 4 <| zli 2 <| zif (fun x => x = 0) (zc (.int 8) <| zli 1 <| zii (fun x y => x + y) <| zj X 78 [0, 2, 3, 4]) <| zc (.int 48) <| zli 1 <| zii (fun x y => x + y) <| zj X 78 [0, 2, 3, 4]
def aX13_passantFits_78 (mc ms : Nat) (X : Nat → zV) (Q : zQt) : zT :=
  zsi 5 <| zla 0 <| zgR 13 16 <| zli 3 <| zal 1 <| zli 2 <| zif (fun x => x = 0) (zc (.int 1) <| zj X 96 [0, 4, 5]) <| zc (.int 7) <| zj X 96 [0, 4, 5]
def aX13_passantFits_96 (mc ms : Nat) (X : Nat → zV) (Q : zQt) : zT :=
  zic (fun x y => x = y) (zla 0 <| zgR 13 16 <| zli 4 <| zal 1 <| zif (fun x => x = 0) (zla 0 <| zgR 13 16 <| zli 5 <| zal 1 <| zif (fun x => x = 0) (zla 0 <| zgR 13 16 <| zc (.int 67) <| zal 1 <| zif (fun x => x = 0) (zc (.int 1) <| zj X 134 []) <| zj X 133 []) <| zj X 133 []) <| zj X 133 []) <| zj X 133 []
def aX13_passantFits_133 (mc ms : Nat) (X : Nat → zV) (Q : zQt) : zT :=
  zc (.int 0) <| zj X 134 []
def aX13_passantFits_134 (mc ms : Nat) (X : Nat → zV) (Q : zQt) : zT :=
  zrz .boolean Q
def lvX13_passantFits : Nat → List Nat := fun L => match L with
  | 0 => [0]
  | 29 => [0, 1]
  | 45 => [0, 1, 2]
  | 61 => [0, 1, 2, 3]
  | 78 => [0, 2, 3, 4]
  | 96 => [0, 4, 5]
  | 133 => []
  | 134 => []
  | _ => []
def wX13_passantFits : zSp := fun mc ms av M Q => ((zlay av).length ≤ 6 ∧ zpick (zlay av) [0] = some av) ∧ ∀ X : Nat → zV, zin 6 [0] (aX13_passantFits_0 mc ms X Q) X 0 → zin 6 [0, 1] (aX13_passantFits_29 mc ms X Q) X 29 → zin 6 [0, 1, 2] (aX13_passantFits_45 mc ms X Q) X 45 → zin 6 [0, 1, 2, 3] (aX13_passantFits_61 mc ms X Q) X 61 → zin 6 [0, 2, 3, 4] (aX13_passantFits_78 mc ms X Q) X 78 → zin 6 [0, 4, 5] (aX13_passantFits_96 mc ms X Q) X 96 → zin 6 [] (aX13_passantFits_133 mc ms X Q) X 133 → zin 6 [] (aX13_passantFits_134 mc ms X Q) X 134 → X 0 0 0 av [] M
set_option maxRecDepth 100000 in
set_option maxHeartbeats 4000000 in
theorem sX13_passantFits (l : Launch) (G : zG) : zSnd l G yX13_passantFits cX13_passantFits 6 (some .boolean) 0 0 wX13_passantFits := by
  refine zmk [0] (by decide) (fun mc ms av M Q h => h.1) ?_
  intro p e R s m args below meth c mc ms av M Q hC hRf hRl hr hnm h lv hlv
  obtain ⟨X, hXe⟩ : ∃ X : Nat → zV, X = fun L u v vs st M => ∀ lv, zpick lv (lvX13_passantFits L) = some vs → zAt p l e R s m args below meth c (MQ below (zQ G Q) args s mc ms (zA G)) G 6 L u v lv st M := ⟨_, rfl⟩
  have hJ : ∀ L, zOk p l e R s m args below meth c (MQ below (zQ G Q) args s mc ms (zA G)) G 6 L (zj X L (lvX13_passantFits L)) := fun L => S_jump (fun u v lv vs st M hp hx => by rw [hXe] at hx; exact hx lv hp)
  have hB0 : zin 6 [0] (aX13_passantFits_0 mc ms X Q) X 0 := by
    intro u v vs st M hb
    rw [hXe]
    refine fun lv hp => S_block (L := 0) (live := [0]) ?_ u v lv vs st M hp hb
    unfold aX13_passantFits_0
    refine S_aload_n (pc := 0) hC dX13_passantFits_0 rfl ?_
    refine S_getR (pc := 1) hC cfX13 (by decide) (Or.inr ⟨_, rfl⟩) wd_1271 dX13_passantFits_1 ?_
    refine S_bipush (pc := 4) hC dX13_passantFits_4 (by decide) ?_
    refine S_iaload (pc := 6) hC dX13_passantFits_6 ?_
    refine S_istore_n_N (pc := 7) hC dX13_passantFits_7 rfl (by decide) ?_
    unfold kX13_passantFits_8
    refine S_iload_n (pc := 8) hC dX13_passantFits_8 rfl ?_
    refine S_if_ge (pc := 9) (tgt := 14) hC dX13_passantFits_9 (by decide) ?_ ?_
    · refine S_aload_n (pc := 14) hC dX13_passantFits_14 rfl ?_
      refine S_getR (pc := 15) hC cfX13 (by decide) (Or.inr ⟨_, rfl⟩) wd_1271 dX13_passantFits_15 ?_
      refine S_bipush (pc := 18) hC dX13_passantFits_18 (by decide) ?_
      refine S_iaload (pc := 20) hC dX13_passantFits_20 ?_
      refine S_if_ne (pc := 21) (tgt := 28) hC dX13_passantFits_21 (by decide) ?_ ?_
      · refine S_iconst (pc := 28) hC dX13_passantFits_28 (by decide) ?_
        exact hJ 29
      · refine S_iconst (pc := 24) hC dX13_passantFits_24 (by decide) ?_
        refine S_goto (pc := 25) (tgt := 29) hC dX13_passantFits_25 (by decide) ?_
        exact hJ 29
    · refine S_iconst (pc := 12) hC dX13_passantFits_12 (by decide) ?_
      exact S_zreturn (pc := 13) hC hr dX13_passantFits_13
  have hB29 : zin 6 [0, 1] (aX13_passantFits_29 mc ms X Q) X 29 := by
    intro u v vs st M hb
    rw [hXe]
    refine fun lv hp => S_block (L := 29) (live := [0, 1]) ?_ u v lv vs st M hp hb
    unfold aX13_passantFits_29
    refine S_istore_n (pc := 29) hC dX13_passantFits_29 rfl (by decide) ?_
    refine S_iload_n (pc := 30) hC dX13_passantFits_30 rfl ?_
    refine S_if_eq (pc := 31) (tgt := 41) hC dX13_passantFits_31 (by decide) ?_ ?_
    · refine S_bipush (pc := 41) hC dX13_passantFits_41 (by decide) ?_
      refine S_iload_n (pc := 43) hC dX13_passantFits_43 rfl ?_
      refine S_iadd (pc := 44) hC dX13_passantFits_44 ?_
      exact hJ 45
    · refine S_bipush (pc := 34) hC dX13_passantFits_34 (by decide) ?_
      refine S_iload_n (pc := 36) hC dX13_passantFits_36 rfl ?_
      refine S_iadd (pc := 37) hC dX13_passantFits_37 ?_
      refine S_goto (pc := 38) (tgt := 45) hC dX13_passantFits_38 (by decide) ?_
      exact hJ 45
  have hB45 : zin 6 [0, 1, 2] (aX13_passantFits_45 mc ms X Q) X 45 := by
    intro u v vs st M hb
    rw [hXe]
    refine fun lv hp => S_block (L := 45) (live := [0, 1, 2]) ?_ u v lv vs st M hp hb
    unfold aX13_passantFits_45
    refine S_istore_n (pc := 45) hC dX13_passantFits_45 rfl (by decide) ?_
    refine S_iload_n (pc := 46) hC dX13_passantFits_46 rfl ?_
    refine S_if_eq (pc := 47) (tgt := 57) hC dX13_passantFits_47 (by decide) ?_ ?_
    · refine S_bipush (pc := 57) hC dX13_passantFits_57 (by decide) ?_
      refine S_iload_n (pc := 59) hC dX13_passantFits_59 rfl ?_
      refine S_iadd (pc := 60) hC dX13_passantFits_60 ?_
      exact hJ 61
    · refine S_bipush (pc := 50) hC dX13_passantFits_50 (by decide) ?_
      refine S_iload_n (pc := 52) hC dX13_passantFits_52 rfl ?_
      refine S_iadd (pc := 53) hC dX13_passantFits_53 ?_
      refine S_goto (pc := 54) (tgt := 61) hC dX13_passantFits_54 (by decide) ?_
      exact hJ 61
  have hB61 : zin 6 [0, 1, 2, 3] (aX13_passantFits_61 mc ms X Q) X 61 := by
    intro u v vs st M hb
    rw [hXe]
    refine fun lv hp => S_block (L := 61) (live := [0, 1, 2, 3]) ?_ u v lv vs st M hp hb
    unfold aX13_passantFits_61
    refine S_istore (pc := 61) hC dX13_passantFits_61 (by decide) ?_
    refine S_iload_n (pc := 63) hC dX13_passantFits_63 rfl ?_
    refine S_if_eq (pc := 64) (tgt := 74) hC dX13_passantFits_64 (by decide) ?_ ?_
    · refine S_bipush (pc := 74) hC dX13_passantFits_74 (by decide) ?_
      refine S_iload_n (pc := 76) hC dX13_passantFits_76 rfl ?_
      refine S_iadd (pc := 77) hC dX13_passantFits_77 ?_
      exact hJ 78
    · refine S_bipush (pc := 67) hC dX13_passantFits_67 (by decide) ?_
      refine S_iload_n (pc := 69) hC dX13_passantFits_69 rfl ?_
      refine S_iadd (pc := 70) hC dX13_passantFits_70 ?_
      refine S_goto (pc := 71) (tgt := 78) hC dX13_passantFits_71 (by decide) ?_
      exact hJ 78
  have hB78 : zin 6 [0, 2, 3, 4] (aX13_passantFits_78 mc ms X Q) X 78 := by
    intro u v vs st M hb
    rw [hXe]
    refine fun lv hp => S_block (L := 78) (live := [0, 2, 3, 4]) ?_ u v lv vs st M hp hb
    unfold aX13_passantFits_78
    refine S_istore (pc := 78) hC dX13_passantFits_78 (by decide) ?_
    refine S_aload_n (pc := 80) hC dX13_passantFits_80 rfl ?_
    refine S_getR (pc := 81) hC cfX13 (by decide) (Or.inr ⟨_, rfl⟩) wd_1271 dX13_passantFits_81 ?_
    refine S_iload_n (pc := 84) hC dX13_passantFits_84 rfl ?_
    refine S_iaload (pc := 85) hC dX13_passantFits_85 ?_
    refine S_iload_n (pc := 86) hC dX13_passantFits_86 rfl ?_
    refine S_if_eq (pc := 87) (tgt := 95) hC dX13_passantFits_87 (by decide) ?_ ?_
    · refine S_iconst (pc := 95) hC dX13_passantFits_95 (by decide) ?_
      exact hJ 96
    · refine S_bipush (pc := 90) hC dX13_passantFits_90 (by decide) ?_
      refine S_goto (pc := 92) (tgt := 96) hC dX13_passantFits_92 (by decide) ?_
      exact hJ 96
  have hB96 : zin 6 [0, 4, 5] (aX13_passantFits_96 mc ms X Q) X 96 := by
    intro u v vs st M hb
    rw [hXe]
    refine fun lv hp => S_block (L := 96) (live := [0, 4, 5]) ?_ u v lv vs st M hp hb
    unfold aX13_passantFits_96
    refine S_icmp_ne (pc := 96) (tgt := 133) hC dX13_passantFits_96 (by decide) ?_ ?_
    · exact hJ 133
    · refine S_aload_n (pc := 99) hC dX13_passantFits_99 rfl ?_
      refine S_getR (pc := 100) hC cfX13 (by decide) (Or.inr ⟨_, rfl⟩) wd_1271 dX13_passantFits_100 ?_
      refine S_iload (pc := 103) hC dX13_passantFits_103 ?_
      refine S_iaload (pc := 105) hC dX13_passantFits_105 ?_
      refine S_if_ne (pc := 106) (tgt := 133) hC dX13_passantFits_106 (by decide) ?_ ?_
      · exact hJ 133
      · refine S_aload_n (pc := 109) hC dX13_passantFits_109 rfl ?_
        refine S_getR (pc := 110) hC cfX13 (by decide) (Or.inr ⟨_, rfl⟩) wd_1271 dX13_passantFits_110 ?_
        refine S_iload (pc := 113) hC dX13_passantFits_113 ?_
        refine S_iaload (pc := 115) hC dX13_passantFits_115 ?_
        refine S_if_ne (pc := 116) (tgt := 133) hC dX13_passantFits_116 (by decide) ?_ ?_
        · exact hJ 133
        · refine S_aload_n (pc := 119) hC dX13_passantFits_119 rfl ?_
          refine S_getR (pc := 120) hC cfX13 (by decide) (Or.inr ⟨_, rfl⟩) wd_1271 dX13_passantFits_120 ?_
          refine S_bipush (pc := 123) hC dX13_passantFits_123 (by decide) ?_
          refine S_iaload (pc := 125) hC dX13_passantFits_125 ?_
          refine S_if_ne (pc := 126) (tgt := 133) hC dX13_passantFits_126 (by decide) ?_ ?_
          · exact hJ 133
          · refine S_iconst (pc := 129) hC dX13_passantFits_129 (by decide) ?_
            refine S_goto (pc := 130) (tgt := 134) hC dX13_passantFits_130 (by decide) ?_
            exact hJ 134
  have hB133 : zin 6 [] (aX13_passantFits_133 mc ms X Q) X 133 := by
    intro u v vs st M hb
    rw [hXe]
    refine fun lv hp => S_block (L := 133) (live := []) ?_ u v lv vs st M hp hb
    unfold aX13_passantFits_133
    refine S_iconst (pc := 133) hC dX13_passantFits_133 (by decide) ?_
    exact hJ 134
  have hB134 : zin 6 [] (aX13_passantFits_134 mc ms X Q) X 134 := by
    intro u v vs st M hb
    rw [hXe]
    refine fun lv hp => S_block (L := 134) (live := []) ?_ u v lv vs st M hp hb
    unfold aX13_passantFits_134
    exact S_zreturn (pc := 134) hC hr dX13_passantFits_134
  have := h.2 X hB0 hB29 hB45 hB61 hB78 hB96 hB133 hB134
  rw [hXe] at this
  exact this lv hlv
theorem vcX13_passantFits_8 {mc ms : Nat} {X : Nat → zV} {Q : zQt} {M : zM} {x1 : Int32} (hW : zFix M)  (h : (0 ≤ x1 → (((M : zM).1 65 (64 : Int32).toNatClampNeg) = 0 → X 29 0 0 [.ref 55, .int x1] [.int 1] M) ∧ (¬ ((M : zM).1 65 (64 : Int32).toNatClampNeg) = 0 → X 29 0 0 [.ref 55, .int x1] [.int 0] M)) ∧ (¬ 0 ≤ x1 → Q (some (.int 1)) M)) : kX13_passantFits_8 mc ms X Q 0 0 [some (.ref 55), some (.int x1), none, none, none, none] [] M := ⟨fun c9 => ⟨(fxs_55 hW), 65, (fxr_55_16 hW), ⟨414, (fxs_65 hW), by unfold vp_in; decide, ⟨fun c21 => ((h.1 c9).1 c21), fun c21 => ((h.1 c9).2 c21)⟩⟩⟩, fun c9 => ⟨rfl, (h.2 c9)⟩⟩
theorem vX13_passantFits_0 {mc ms : Nat} {X : Nat → zV} {Q : zQt} {M : zM}  (hW : zFix M)  (h : ∀ y7 : Int32, y7 = ((M : zM).1 65 (66 : Int32).toNatClampNeg) → (0 ≤ y7 → (((M : zM).1 65 (64 : Int32).toNatClampNeg) = 0 → X 29 0 0 [.ref 55, .int y7] [.int 1] M) ∧ (¬ ((M : zM).1 65 (64 : Int32).toNatClampNeg) = 0 → X 29 0 0 [.ref 55, .int y7] [.int 0] M)) ∧ (¬ 0 ≤ y7 → Q (some (.int 1)) M)) : aX13_passantFits_0 mc ms X Q 0 0 [some (.ref 55), none, none, none, none, none] [] M := ⟨(fxs_55 hW), 65, (fxr_55_16 hW), ⟨414, (fxs_65 hW), by unfold vp_in; decide, (fun y7 e7 => have h7 := h y7 e7; (vcX13_passantFits_8 hW  h7))⟩⟩
theorem vX13_passantFits_29 {mc ms : Nat} {X : Nat → zV} {Q : zQt} {M : zM} {x1 : Int32} {s0 : Int32} (hW : zFix M)  (h : (s0 = 0 → X 45 0 0 [.ref 55, .int x1, .int s0] [.int ((24 : Int32) + x1)] M) ∧ (¬ s0 = 0 → X 45 0 0 [.ref 55, .int x1, .int s0] [.int ((32 : Int32) + x1)] M)) : aX13_passantFits_29 mc ms X Q 0 0 [some (.ref 55), some (.int x1), none, none, none, none] [.int s0] M := ⟨fun c31 => (h.1 c31), fun c31 => (h.2 c31)⟩
theorem vX13_passantFits_45 {mc ms : Nat} {X : Nat → zV} {Q : zQt} {M : zM} {x1 : Int32} {x2 : Int32} {s0 : Int32} (hW : zFix M)  (h : (x2 = 0 → X 61 0 0 [.ref 55, .int x1, .int x2, .int s0] [.int ((16 : Int32) + x1)] M) ∧ (¬ x2 = 0 → X 61 0 0 [.ref 55, .int x1, .int x2, .int s0] [.int ((40 : Int32) + x1)] M)) : aX13_passantFits_45 mc ms X Q 0 0 [some (.ref 55), some (.int x1), some (.int x2), none, none, none] [.int s0] M := ⟨fun c47 => (h.1 c47), fun c47 => (h.2 c47)⟩
theorem vX13_passantFits_61 {mc ms : Nat} {X : Nat → zV} {Q : zQt} {M : zM} {x1 : Int32} {x2 : Int32} {x3 : Int32} {s0 : Int32} (hW : zFix M)  (h : (x2 = 0 → X 78 0 0 [.ref 55, .int x2, .int x3, .int s0] [.int ((8 : Int32) + x1)] M) ∧ (¬ x2 = 0 → X 78 0 0 [.ref 55, .int x2, .int x3, .int s0] [.int ((48 : Int32) + x1)] M)) : aX13_passantFits_61 mc ms X Q 0 0 [some (.ref 55), some (.int x1), some (.int x2), some (.int x3), none, none] [.int s0] M := ⟨fun c64 => (h.1 c64), fun c64 => (h.2 c64)⟩
theorem vX13_passantFits_78 {mc ms : Nat} {X : Nat → zV} {Q : zQt} {M : zM} {x2 : Int32} {x3 : Int32} {x4 : Int32} {s0 : Int32} (hW : zFix M)  (h : vp_in x3 414 ∧ (x2 = 0 → X 96 0 0 [.ref 55, .int x4, .int s0] [.int 1, .int ((M : zM).1 65 (x3 : Int32).toNatClampNeg)] M) ∧ (¬ x2 = 0 → X 96 0 0 [.ref 55, .int x4, .int s0] [.int 7, .int ((M : zM).1 65 (x3 : Int32).toNatClampNeg)] M)) : aX13_passantFits_78 mc ms X Q 0 0 [some (.ref 55), none, some (.int x2), some (.int x3), some (.int x4), none] [.int s0] M := ⟨(fxs_55 hW), 65, (fxr_55_16 hW), ⟨414, (fxs_65 hW), h.1, ⟨fun c87 => (h.2.1 c87), fun c87 => (h.2.2 c87)⟩⟩⟩
theorem vX13_passantFits_96 {mc ms : Nat} {X : Nat → zV} {Q : zQt} {M : zM} {x4 : Int32} {x5 : Int32} {s0 : Int32} {s1 : Int32} (hW : zFix M)  (h : (s1 = s0 → vp_in x4 414 ∧ (((M : zM).1 65 (x4 : Int32).toNatClampNeg) = 0 → vp_in x5 414 ∧ (((M : zM).1 65 (x5 : Int32).toNatClampNeg) = 0 → (((M : zM).1 65 (67 : Int32).toNatClampNeg) = 0 → X 134 0 0 [] [.int 1] M) ∧ (¬ ((M : zM).1 65 (67 : Int32).toNatClampNeg) = 0 → X 133 0 0 [] [] M)) ∧ (¬ ((M : zM).1 65 (x5 : Int32).toNatClampNeg) = 0 → X 133 0 0 [] [] M)) ∧ (¬ ((M : zM).1 65 (x4 : Int32).toNatClampNeg) = 0 → X 133 0 0 [] [] M)) ∧ (¬ s1 = s0 → X 133 0 0 [] [] M)) : aX13_passantFits_96 mc ms X Q 0 0 [some (.ref 55), none, none, none, some (.int x4), some (.int x5)] [.int s0, .int s1] M := ⟨fun c96 => ⟨(fxs_55 hW), 65, (fxr_55_16 hW), ⟨414, (fxs_65 hW), (h.1 c96).1, ⟨fun c106 => ⟨(fxs_55 hW), 65, (fxr_55_16 hW), ⟨414, (fxs_65 hW), ((h.1 c96).2.1 c106).1, ⟨fun c116 => ⟨(fxs_55 hW), 65, (fxr_55_16 hW), ⟨414, (fxs_65 hW), by unfold vp_in; decide, ⟨fun c126 => ((((h.1 c96).2.1 c106).2.1 c116).1 c126), fun c126 => ((((h.1 c96).2.1 c106).2.1 c116).2 c126)⟩⟩⟩, fun c116 => (((h.1 c96).2.1 c106).2.2 c116)⟩⟩⟩, fun c106 => ((h.1 c96).2.2 c106)⟩⟩⟩, fun c96 => (h.2 c96)⟩
theorem vX13_passantFits_133 {mc ms : Nat} {X : Nat → zV} {Q : zQt} {M : zM}  (hW : zFix M)  (h : X 134 0 0 [] [.int 0] M) : aX13_passantFits_133 mc ms X Q 0 0 [none, none, none, none, none, none] [] M := h
theorem vX13_passantFits_134 {mc ms : Nat} {X : Nat → zV} {Q : zQt} {M : zM} {s0 : Int32} (hW : zFix M)  (h : narrow .boolean (.int s0) = .int s0 ∧ Q (some (.int s0)) M) : aX13_passantFits_134 mc ms X Q 0 0 [none, none, none, none, none, none] [.int s0] M := h
theorem dX13_readRecord_0 : decode cX13_readRecord 0 = .ok (.aload_n 0, 1) := by decide +kernel
theorem dX13_readRecord_1 : decode cX13_readRecord 1 = .ok (.invokevirtual 222, 3) := by decide +kernel
theorem dX13_readRecord_4 : decode cX13_readRecord 4 = .ok (.istore_n 1, 1) := by decide +kernel
theorem dX13_readRecord_5 : decode cX13_readRecord 5 = .ok (.iload_n 1, 1) := by decide +kernel
theorem dX13_readRecord_6 : decode cX13_readRecord 6 = .ok (.ifCond .le 5, 3) := by decide +kernel
theorem dX13_readRecord_9 : decode cX13_readRecord 9 = .ok (.iload_n 1, 1) := by decide +kernel
theorem dX13_readRecord_10 : decode cX13_readRecord 10 = .ok (.ireturn, 1) := by decide +kernel
theorem dX13_readRecord_11 : decode cX13_readRecord 11 = .ok (.aload_n 0, 1) := by decide +kernel
theorem dX13_readRecord_12 : decode cX13_readRecord 12 = .ok (.bipush 6, 2) := by decide +kernel
theorem dX13_readRecord_14 : decode cX13_readRecord 14 = .ok (.invokevirtual 215, 3) := by decide +kernel
theorem dX13_readRecord_17 : decode cX13_readRecord 17 = .ok (.iconst 1, 1) := by decide +kernel
theorem dX13_readRecord_18 : decode cX13_readRecord 18 = .ok (.if_icmp .ne 13, 3) := by decide +kernel
theorem dX13_readRecord_21 : decode cX13_readRecord 21 = .ok (.aload_n 0, 1) := by decide +kernel
theorem dX13_readRecord_22 : decode cX13_readRecord 22 = .ok (.bipush 12, 2) := by decide +kernel
theorem dX13_readRecord_24 : decode cX13_readRecord 24 = .ok (.invokevirtual 215, 3) := by decide +kernel
theorem dX13_readRecord_27 : decode cX13_readRecord 27 = .ok (.iconst 1, 1) := by decide +kernel
theorem dX13_readRecord_28 : decode cX13_readRecord 28 = .ok (.if_icmp .eq 6, 3) := by decide +kernel
theorem dX13_readRecord_31 : decode cX13_readRecord 31 = .ok (.bipush 7, 2) := by decide +kernel
theorem dX13_readRecord_33 : decode cX13_readRecord 33 = .ok (.ireturn, 1) := by decide +kernel
theorem dX13_readRecord_34 : decode cX13_readRecord 34 = .ok (.aload_n 0, 1) := by decide +kernel
theorem dX13_readRecord_35 : decode cX13_readRecord 35 = .ok (.invokevirtual 225, 3) := by decide +kernel
theorem dX13_readRecord_38 : decode cX13_readRecord 38 = .ok (.ifCond .ne 8, 3) := by decide +kernel
theorem dX13_readRecord_41 : decode cX13_readRecord 41 = .ok (.bipush 8, 2) := by decide +kernel
theorem dX13_readRecord_43 : decode cX13_readRecord 43 = .ok (.goto 50, 3) := by decide +kernel
theorem dX13_readRecord_46 : decode cX13_readRecord 46 = .ok (.aload_n 0, 1) := by decide +kernel
theorem dX13_readRecord_47 : decode cX13_readRecord 47 = .ok (.invokevirtual 228, 3) := by decide +kernel
theorem dX13_readRecord_50 : decode cX13_readRecord 50 = .ok (.ifCond .ne 8, 3) := by decide +kernel
theorem dX13_readRecord_53 : decode cX13_readRecord 53 = .ok (.bipush 9, 2) := by decide +kernel
theorem dX13_readRecord_55 : decode cX13_readRecord 55 = .ok (.goto 38, 3) := by decide +kernel
theorem dX13_readRecord_58 : decode cX13_readRecord 58 = .ok (.aload_n 0, 1) := by decide +kernel
theorem dX13_readRecord_59 : decode cX13_readRecord 59 = .ok (.invokevirtual 231, 3) := by decide +kernel
theorem dX13_readRecord_62 : decode cX13_readRecord 62 = .ok (.ifCond .ne 8, 3) := by decide +kernel
theorem dX13_readRecord_65 : decode cX13_readRecord 65 = .ok (.bipush 10, 2) := by decide +kernel
theorem dX13_readRecord_67 : decode cX13_readRecord 67 = .ok (.goto 26, 3) := by decide +kernel
theorem dX13_readRecord_70 : decode cX13_readRecord 70 = .ok (.aload_n 0, 1) := by decide +kernel
theorem dX13_readRecord_71 : decode cX13_readRecord 71 = .ok (.iconst 0, 1) := by decide +kernel
theorem dX13_readRecord_72 : decode cX13_readRecord 72 = .ok (.iconst 1, 1) := by decide +kernel
theorem dX13_readRecord_73 : decode cX13_readRecord 73 = .ok (.aload_n 0, 1) := by decide +kernel
theorem dX13_readRecord_74 : decode cX13_readRecord 74 = .ok (.getfield 43, 3) := by decide +kernel
theorem dX13_readRecord_77 : decode cX13_readRecord 77 = .ok (.bipush 64, 2) := by decide +kernel
theorem dX13_readRecord_79 : decode cX13_readRecord 79 = .ok (.iaload, 1) := by decide +kernel
theorem dX13_readRecord_80 : decode cX13_readRecord 80 = .ok (.isub, 1) := by decide +kernel
theorem dX13_readRecord_81 : decode cX13_readRecord 81 = .ok (.invokevirtual 116, 3) := by decide +kernel
theorem dX13_readRecord_84 : decode cX13_readRecord 84 = .ok (.ifCond .eq 8, 3) := by decide +kernel
theorem dX13_readRecord_87 : decode cX13_readRecord 87 = .ok (.bipush 11, 2) := by decide +kernel
theorem dX13_readRecord_89 : decode cX13_readRecord 89 = .ok (.goto 4, 3) := by decide +kernel
theorem dX13_readRecord_92 : decode cX13_readRecord 92 = .ok (.iconst 0, 1) := by decide +kernel
theorem dX13_readRecord_93 : decode cX13_readRecord 93 = .ok (.ireturn, 1) := by decide +kernel
def kX13_readRecord_84 (mc ms : Nat) (X : Nat → zV) (Q : zQt) : zT :=
  zif (fun x => x = 0) (zc (.int 0) <| zj X 93 []) <| zc (.int 11) <| zj X 93 []
def kX13_readRecord_62 (mc ms : Nat) (X : Nat → zV) (Q : zQt) : zT :=
  zif (fun x => x = 0) (zc (.int 10) <| zj X 93 []) <| zla 0 <| zc (.int 0) <| zc (.int 1) <| zla 0 <| zgR 13 16 <| zc (.int 64) <| zal 1 <| zii (fun x y => x - y) <| zcv mc ms 13 2 wX13_isChecked <| kX13_readRecord_84 mc ms X Q
def kX13_readRecord_50 (mc ms : Nat) (X : Nat → zV) (Q : zQt) : zT :=
  zif (fun x => x = 0) (zc (.int 9) <| zj X 93 []) <| zla 0 <| zcv mc ms 13 0 wX13_passantFits <| kX13_readRecord_62 mc ms X Q
def kX13_readRecord_38 (mc ms : Nat) (X : Nat → zV) (Q : zQt) : zT :=
  zif (fun x => x = 0) (zc (.int 8) <| zj X 93 []) <| zla 0 <| zcv mc ms 13 0 wX13_rightsFit <| kX13_readRecord_50 mc ms X Q
def kX13_readRecord_27 (mc ms : Nat) (X : Nat → zV) (Q : zQt) : zT :=
  zc (.int 1) <| zic (fun x y => x = y) (zla 0 <| zcv mc ms 13 0 wX13_menFit <| kX13_readRecord_38 mc ms X Q) <| zj X 31 []
def kX13_readRecord_17 (mc ms : Nat) (X : Nat → zV) (Q : zQt) : zT :=
  zc (.int 1) <| zic (fun x y => x = y) (zla 0 <| zc (.int 12) <| zcv mc ms 13 1 wX13_howMany <| kX13_readRecord_27 mc ms X Q) <| zj X 31 []
def kX13_readRecord_4 (mc ms : Nat) (X : Nat → zV) (Q : zQt) : zT :=
  zsi 1 <| zli 1 <| zif (fun x => x ≤ 0) (zla 0 <| zc (.int 6) <| zcv mc ms 13 1 wX13_howMany <| kX13_readRecord_17 mc ms X Q) <| zli 1 <| zri Q
def aX13_readRecord_0 (mc ms : Nat) (X : Nat → zV) (Q : zQt) : zT :=
  zla 0 <| zcv mc ms 13 0 wX13_readFields <| kX13_readRecord_4 mc ms X Q
def aX13_readRecord_31 (mc ms : Nat) (X : Nat → zV) (Q : zQt) : zT :=
  zc (.int 7) <| zri Q
def aX13_readRecord_93 (mc ms : Nat) (X : Nat → zV) (Q : zQt) : zT :=
  zri Q
def lvX13_readRecord : Nat → List Nat := fun L => match L with
  | 0 => [0]
  | 31 => []
  | 93 => []
  | _ => []
def wX13_readRecord : zSp := fun mc ms av M Q => ((zlay av).length ≤ 2 ∧ zpick (zlay av) [0] = some av) ∧ ∀ X : Nat → zV, zin 2 [0] (aX13_readRecord_0 mc ms X Q) X 0 → zin 2 [] (aX13_readRecord_31 mc ms X Q) X 31 → zin 2 [] (aX13_readRecord_93 mc ms X Q) X 93 → X 0 0 0 av [] M
set_option maxRecDepth 100000 in
set_option maxHeartbeats 4000000 in
theorem sX13_readRecord (l : Launch) (G : zG) : zSnd l G yX13_readRecord cX13_readRecord 2 (some .int) 6 133 wX13_readRecord := by
  refine zmk [0] (by decide) (fun mc ms av M Q h => h.1) ?_
  intro p e R s m args below meth c mc ms av M Q hC hRf hRl hr hnm h lv hlv
  obtain ⟨X, hXe⟩ : ∃ X : Nat → zV, X = fun L u v vs st M => ∀ lv, zpick lv (lvX13_readRecord L) = some vs → zAt p l e R s m args below meth c (MQ below (zQ G Q) args s mc ms (zA G)) G 2 L u v lv st M := ⟨_, rfl⟩
  have hJ : ∀ L, zOk p l e R s m args below meth c (MQ below (zQ G Q) args s mc ms (zA G)) G 2 L (zj X L (lvX13_readRecord L)) := fun L => S_jump (fun u v lv vs st M hp hx => by rw [hXe] at hx; exact hx lv hp)
  have hB0 : zin 2 [0] (aX13_readRecord_0 mc ms X Q) X 0 := by
    intro u v vs st M hb
    rw [hXe]
    refine fun lv hp => S_block (L := 0) (live := [0]) ?_ u v lv vs st M hp hb
    unfold aX13_readRecord_0
    refine S_aload_n (pc := 0) hC dX13_readRecord_0 rfl ?_
    refine S_callV (pc := 1) hC (sX13_readFields l G) rfl wd_1354 wd_1356 ws_55 wd_12 wd_1357 (by decide +kernel) ⟨by rw [hRf]; decide, by rw [hRl]; decide⟩ dX13_readRecord_1 ?_
    unfold kX13_readRecord_4
    refine S_istore_n (pc := 4) hC dX13_readRecord_4 rfl (by decide) ?_
    refine S_iload_n (pc := 5) hC dX13_readRecord_5 rfl ?_
    refine S_if_le (pc := 6) (tgt := 11) hC dX13_readRecord_6 (by decide) ?_ ?_
    · refine S_aload_n (pc := 11) hC dX13_readRecord_11 rfl ?_
      refine S_bipush (pc := 12) hC dX13_readRecord_12 (by decide) ?_
      refine S_callV (pc := 14) hC (sX13_howMany l G) rfl wd_1398 wd_1400 ws_63 wd_12 wd_1401 (by decide +kernel) ⟨by rw [hRf]; decide, by rw [hRl]; decide⟩ dX13_readRecord_14 ?_
      unfold kX13_readRecord_17
      refine S_iconst (pc := 17) hC dX13_readRecord_17 (by decide) ?_
      refine S_icmp_ne (pc := 18) (tgt := 31) hC dX13_readRecord_18 (by decide) ?_ ?_
      · exact hJ 31
      · refine S_aload_n (pc := 21) hC dX13_readRecord_21 rfl ?_
        refine S_bipush (pc := 22) hC dX13_readRecord_22 (by decide) ?_
        refine S_callV (pc := 24) hC (sX13_howMany l G) rfl wd_1398 wd_1400 ws_63 wd_12 wd_1401 (by decide +kernel) ⟨by rw [hRf]; decide, by rw [hRl]; decide⟩ dX13_readRecord_24 ?_
        unfold kX13_readRecord_27
        refine S_iconst (pc := 27) hC dX13_readRecord_27 (by decide) ?_
        refine S_icmp_eq (pc := 28) (tgt := 34) hC dX13_readRecord_28 (by decide) ?_ ?_
        · refine S_aload_n (pc := 34) hC dX13_readRecord_34 rfl ?_
          refine S_callV (pc := 35) hC (sX13_menFit l G) rfl wd_1402 wd_1404 ws_64 wd_12 wd_1405 (by decide +kernel) ⟨by rw [hRf]; decide, by rw [hRl]; decide⟩ dX13_readRecord_35 ?_
          unfold kX13_readRecord_38
          refine S_if_ne (pc := 38) (tgt := 46) hC dX13_readRecord_38 (by decide) ?_ ?_
          · refine S_aload_n (pc := 46) hC dX13_readRecord_46 rfl ?_
            refine S_callV (pc := 47) hC (sX13_rightsFit l G) rfl wd_1409 wd_1411 ws_65 wd_12 wd_1412 (by decide +kernel) ⟨by rw [hRf]; decide, by rw [hRl]; decide⟩ dX13_readRecord_47 ?_
            unfold kX13_readRecord_50
            refine S_if_ne (pc := 50) (tgt := 58) hC dX13_readRecord_50 (by decide) ?_ ?_
            · refine S_aload_n (pc := 58) hC dX13_readRecord_58 rfl ?_
              refine S_callV (pc := 59) hC (sX13_passantFits l G) rfl wd_1413 wd_1415 ws_66 wd_12 wd_1416 (by decide +kernel) ⟨by rw [hRf]; decide, by rw [hRl]; decide⟩ dX13_readRecord_59 ?_
              unfold kX13_readRecord_62
              refine S_if_ne (pc := 62) (tgt := 70) hC dX13_readRecord_62 (by decide) ?_ ?_
              · refine S_aload_n (pc := 70) hC dX13_readRecord_70 rfl ?_
                refine S_iconst (pc := 71) hC dX13_readRecord_71 (by decide) ?_
                refine S_iconst (pc := 72) hC dX13_readRecord_72 (by decide) ?_
                refine S_aload_n (pc := 73) hC dX13_readRecord_73 rfl ?_
                refine S_getR (pc := 74) hC cfX13 (by decide) (Or.inr ⟨_, rfl⟩) wd_1271 dX13_readRecord_74 ?_
                refine S_bipush (pc := 77) hC dX13_readRecord_77 (by decide) ?_
                refine S_iaload (pc := 79) hC dX13_readRecord_79 ?_
                refine S_isub (pc := 80) hC dX13_readRecord_80 ?_
                refine S_callV (pc := 81) hC (sX13_isChecked l G) rfl wd_1417 wd_1419 ws_67 wd_12 wd_1420 (by decide +kernel) ⟨by rw [hRf]; decide, by rw [hRl]; decide⟩ dX13_readRecord_81 ?_
                unfold kX13_readRecord_84
                refine S_if_eq (pc := 84) (tgt := 92) hC dX13_readRecord_84 (by decide) ?_ ?_
                · refine S_iconst (pc := 92) hC dX13_readRecord_92 (by decide) ?_
                  exact hJ 93
                · refine S_bipush (pc := 87) hC dX13_readRecord_87 (by decide) ?_
                  refine S_goto (pc := 89) (tgt := 93) hC dX13_readRecord_89 (by decide) ?_
                  exact hJ 93
              · refine S_bipush (pc := 65) hC dX13_readRecord_65 (by decide) ?_
                refine S_goto (pc := 67) (tgt := 93) hC dX13_readRecord_67 (by decide) ?_
                exact hJ 93
            · refine S_bipush (pc := 53) hC dX13_readRecord_53 (by decide) ?_
              refine S_goto (pc := 55) (tgt := 93) hC dX13_readRecord_55 (by decide) ?_
              exact hJ 93
          · refine S_bipush (pc := 41) hC dX13_readRecord_41 (by decide) ?_
            refine S_goto (pc := 43) (tgt := 93) hC dX13_readRecord_43 (by decide) ?_
            exact hJ 93
        · exact hJ 31
    · refine S_iload_n (pc := 9) hC dX13_readRecord_9 rfl ?_
      exact S_ireturn (pc := 10) hC hr dX13_readRecord_10
  have hB31 : zin 2 [] (aX13_readRecord_31 mc ms X Q) X 31 := by
    intro u v vs st M hb
    rw [hXe]
    refine fun lv hp => S_block (L := 31) (live := []) ?_ u v lv vs st M hp hb
    unfold aX13_readRecord_31
    refine S_bipush (pc := 31) hC dX13_readRecord_31 (by decide) ?_
    exact S_ireturn (pc := 33) hC hr dX13_readRecord_33
  have hB93 : zin 2 [] (aX13_readRecord_93 mc ms X Q) X 93 := by
    intro u v vs st M hb
    rw [hXe]
    refine fun lv hp => S_block (L := 93) (live := []) ?_ u v lv vs st M hp hb
    unfold aX13_readRecord_93
    exact S_ireturn (pc := 93) hC hr dX13_readRecord_93
  have := h.2 X hB0 hB31 hB93
  rw [hXe] at this
  exact this lv hlv
theorem vX13_readRecord_0 {mc ms : Nat} {X : Nat → zV} {Q : zQt} {M : zM}  (hW : zFix M)  (h : wX13_readFields 0 0 [.ref 55] M (fun r M1 => kX13_readRecord_4 mc ms X Q 0 0 [some (.ref 55), none] (r.toList ++ []) M1)) : aX13_readRecord_0 mc ms X Q 0 0 [some (.ref 55), none] [] M := ⟨Nat.le_of_ble_eq_true rfl, rfl, (fxs_55 hW), 0, 0, Nat.zero_le _, Nat.zero_le _, h⟩
theorem vX13_readRecord_31 {mc ms : Nat} {X : Nat → zV} {Q : zQt} {M : zM}  (hW : zFix M)  (h : Q (some (.int 7)) M) : aX13_readRecord_31 mc ms X Q 0 0 [none, none] [] M := h
theorem vX13_readRecord_93 {mc ms : Nat} {X : Nat → zV} {Q : zQt} {M : zM} {s0 : Int32} (hW : zFix M)  (h : Q (some (.int s0)) M) : aX13_readRecord_93 mc ms X Q 0 0 [none, none] [.int s0] M := h
theorem vkX13_readRecord_4 {mc ms : Nat} {X : Nat → zV} {Q : zQt} {M : zM} {s0 : Int32} (hW : zFix M)  (h : (s0 ≤ 0 → wX13_howMany 0 0 [.ref 55, .int 6] M (fun r M1 => kX13_readRecord_17 mc ms X Q 0 0 [some (.ref 55), some (.int s0)] (r.toList ++ []) M1)) ∧ (¬ s0 ≤ 0 → Q (some (.int s0)) M)) : kX13_readRecord_4 mc ms X Q 0 0 [some (.ref 55), none] [.int s0] M := ⟨fun c6 => ⟨Nat.le_of_ble_eq_true rfl, rfl, (fxs_55 hW), 0, 0, Nat.zero_le _, Nat.zero_le _, (h.1 c6)⟩, fun c6 => (h.2 c6)⟩
theorem vkX13_readRecord_17 {mc ms : Nat} {X : Nat → zV} {Q : zQt} {M : zM} {x1 : Int32} {s0 : Int32} (hW : zFix M)  (h : (s0 = (1 : Int32) → wX13_howMany 0 0 [.ref 55, .int 12] M (fun r M1 => kX13_readRecord_27 mc ms X Q 0 0 [some (.ref 55), some (.int x1)] (r.toList ++ []) M1)) ∧ (¬ s0 = (1 : Int32) → X 31 0 0 [] [] M)) : kX13_readRecord_17 mc ms X Q 0 0 [some (.ref 55), some (.int x1)] [.int s0] M := ⟨fun c18 => ⟨Nat.le_of_ble_eq_true rfl, rfl, (fxs_55 hW), 0, 0, Nat.zero_le _, Nat.zero_le _, (h.1 c18)⟩, fun c18 => (h.2 c18)⟩
theorem vkX13_readRecord_27 {mc ms : Nat} {X : Nat → zV} {Q : zQt} {M : zM} {x1 : Int32} {s0 : Int32} (hW : zFix M)  (h : (s0 = (1 : Int32) → wX13_menFit 0 0 [.ref 55] M (fun r M1 => kX13_readRecord_38 mc ms X Q 0 0 [some (.ref 55), some (.int x1)] (r.toList ++ []) M1)) ∧ (¬ s0 = (1 : Int32) → X 31 0 0 [] [] M)) : kX13_readRecord_27 mc ms X Q 0 0 [some (.ref 55), some (.int x1)] [.int s0] M := ⟨fun c28 => ⟨Nat.le_of_ble_eq_true rfl, rfl, (fxs_55 hW), 0, 0, Nat.zero_le _, Nat.zero_le _, (h.1 c28)⟩, fun c28 => (h.2 c28)⟩
theorem vkX13_readRecord_38 {mc ms : Nat} {X : Nat → zV} {Q : zQt} {M : zM} {x1 : Int32} {s0 : Int32} (hW : zFix M)  (h : (s0 = 0 → X 93 0 0 [] [.int 8] M) ∧ (¬ s0 = 0 → wX13_rightsFit 0 0 [.ref 55] M (fun r M1 => kX13_readRecord_50 mc ms X Q 0 0 [some (.ref 55), some (.int x1)] (r.toList ++ []) M1))) : kX13_readRecord_38 mc ms X Q 0 0 [some (.ref 55), some (.int x1)] [.int s0] M := ⟨fun c38 => (h.1 c38), fun c38 => ⟨Nat.le_of_ble_eq_true rfl, rfl, (fxs_55 hW), 0, 0, Nat.zero_le _, Nat.zero_le _, (h.2 c38)⟩⟩
theorem vkX13_readRecord_50 {mc ms : Nat} {X : Nat → zV} {Q : zQt} {M : zM} {x1 : Int32} {s0 : Int32} (hW : zFix M)  (h : (s0 = 0 → X 93 0 0 [] [.int 9] M) ∧ (¬ s0 = 0 → wX13_passantFits 0 0 [.ref 55] M (fun r M1 => kX13_readRecord_62 mc ms X Q 0 0 [some (.ref 55), some (.int x1)] (r.toList ++ []) M1))) : kX13_readRecord_50 mc ms X Q 0 0 [some (.ref 55), some (.int x1)] [.int s0] M := ⟨fun c50 => (h.1 c50), fun c50 => ⟨Nat.le_of_ble_eq_true rfl, rfl, (fxs_55 hW), 0, 0, Nat.zero_le _, Nat.zero_le _, (h.2 c50)⟩⟩
theorem vkX13_readRecord_62 {mc ms : Nat} {X : Nat → zV} {Q : zQt} {M : zM} {x1 : Int32} {s0 : Int32} (hW : zFix M)  (h : (s0 = 0 → X 93 0 0 [] [.int 10] M) ∧ (¬ s0 = 0 → wX13_isChecked 0 0 [.ref 55, .int 0, .int ((1 : Int32) - ((M : zM).1 65 (64 : Int32).toNatClampNeg))] M (fun r M1 => kX13_readRecord_84 mc ms X Q 0 0 [some (.ref 55), some (.int x1)] (r.toList ++ []) M1))) : kX13_readRecord_62 mc ms X Q 0 0 [some (.ref 55), some (.int x1)] [.int s0] M := ⟨fun c62 => (h.1 c62), fun c62 => ⟨(fxs_55 hW), 65, (fxr_55_16 hW), ⟨414, (fxs_65 hW), by unfold vp_in; decide, ⟨Nat.le_of_ble_eq_true rfl, rfl, (fxs_55 hW), 0, 0, Nat.zero_le _, Nat.zero_le _, (h.2 c62)⟩⟩⟩⟩
theorem vkX13_readRecord_84 {mc ms : Nat} {X : Nat → zV} {Q : zQt} {M : zM} {x1 : Int32} {s0 : Int32} (hW : zFix M)  (h : (s0 = 0 → X 93 0 0 [] [.int 0] M) ∧ (¬ s0 = 0 → X 93 0 0 [] [.int 11] M)) : kX13_readRecord_84 mc ms X Q 0 0 [some (.ref 55), some (.int x1)] [.int s0] M := ⟨fun c84 => (h.1 c84), fun c84 => (h.2 c84)⟩
theorem dX13_say_0 : decode cX13_say 0 = .ok (.aload_n 0, 1) := by decide +kernel
theorem dX13_say_1 : decode cX13_say 1 = .ok (.getfield 58, 3) := by decide +kernel
theorem dX13_say_4 : decode cX13_say 4 = .ok (.aload_n 0, 1) := by decide +kernel
theorem dX13_say_5 : decode cX13_say 5 = .ok (.getfield 234, 3) := by decide +kernel
theorem dX13_say_8 : decode cX13_say 8 = .ok (.iload_n 1, 1) := by decide +kernel
theorem dX13_say_9 : decode cX13_say 9 = .ok (.iastore, 1) := by decide +kernel
theorem dX13_say_10 : decode cX13_say 10 = .ok (.aload_n 0, 1) := by decide +kernel
theorem dX13_say_11 : decode cX13_say 11 = .ok (.dup, 1) := by decide +kernel
theorem dX13_say_12 : decode cX13_say 12 = .ok (.getfield 234, 3) := by decide +kernel
theorem dX13_say_15 : decode cX13_say 15 = .ok (.iconst 1, 1) := by decide +kernel
theorem dX13_say_16 : decode cX13_say 16 = .ok (.iadd, 1) := by decide +kernel
theorem dX13_say_17 : decode cX13_say 17 = .ok (.putfield 234, 3) := by decide +kernel
theorem dX13_say_20 : decode cX13_say 20 = .ok (.return_, 1) := by decide +kernel
def aX13_say_0 (mc ms : Nat) (X : Nat → zV) (Q : zQt) : zT :=
  zla 0 <| zgR 13 23 <| zla 0 <| zgi 13 24 <| zli 1 <| zas 1 (fun x => x) <| zla 0 <| zdup <| zgi 13 24 <| zc (.int 1) <| zii (fun x y => x + y) <| zpi 13 24 <| zrv Q
def lvX13_say : Nat → List Nat := fun L => match L with
  | 0 => [0, 1]
  | _ => []
def wX13_say : zSp := fun mc ms av M Q => ((zlay av).length ≤ 2 ∧ zpick (zlay av) [0, 1] = some av) ∧ ∀ X : Nat → zV, zin 2 [0, 1] (aX13_say_0 mc ms X Q) X 0 → X 0 0 0 av [] M
set_option maxRecDepth 100000 in
set_option maxHeartbeats 4000000 in
theorem sX13_say (l : Launch) (G : zG) : zSnd l G yX13_say cX13_say 2 none 0 0 wX13_say := by
  refine zmk [0, 1] (by decide) (fun mc ms av M Q h => h.1) ?_
  intro p e R s m args below meth c mc ms av M Q hC hRf hRl hr hnm h lv hlv
  obtain ⟨X, hXe⟩ : ∃ X : Nat → zV, X = fun L u v vs st M => ∀ lv, zpick lv (lvX13_say L) = some vs → zAt p l e R s m args below meth c (MQ below (zQ G Q) args s mc ms (zA G)) G 2 L u v lv st M := ⟨_, rfl⟩
  have hJ : ∀ L, zOk p l e R s m args below meth c (MQ below (zQ G Q) args s mc ms (zA G)) G 2 L (zj X L (lvX13_say L)) := fun L => S_jump (fun u v lv vs st M hp hx => by rw [hXe] at hx; exact hx lv hp)
  have hB0 : zin 2 [0, 1] (aX13_say_0 mc ms X Q) X 0 := by
    intro u v vs st M hb
    rw [hXe]
    refine fun lv hp => S_block (L := 0) (live := [0, 1]) ?_ u v lv vs st M hp hb
    unfold aX13_say_0
    refine S_aload_n (pc := 0) hC dX13_say_0 rfl ?_
    refine S_getR (pc := 1) hC cfX13 (by decide) (Or.inr ⟨_, rfl⟩) wd_1278 dX13_say_1 ?_
    refine S_aload_n (pc := 4) hC dX13_say_4 rfl ?_
    refine S_geti (pc := 5) hC cfX13 (by decide) (Or.inl rfl) wd_1279 dX13_say_5 ?_
    refine S_iload_n (pc := 8) hC dX13_say_8 rfl ?_
    refine S_iastore (pc := 9) hC dX13_say_9 ?_
    refine S_aload_n (pc := 10) hC dX13_say_10 rfl ?_
    refine S_dup (pc := 11) hC dX13_say_11 ?_
    refine S_geti (pc := 12) hC cfX13 (by decide) (Or.inl rfl) wd_1279 dX13_say_12 ?_
    refine S_iconst (pc := 15) hC dX13_say_15 (by decide) ?_
    refine S_iadd (pc := 16) hC dX13_say_16 ?_
    refine S_puti (pc := 17) hC cfX13 (by decide) rfl (Or.inl rfl) wd_1279 dX13_say_17 ?_
    exact S_vreturn (pc := 20) hC hr dX13_say_20
  have := h.2 X hB0
  rw [hXe] at this
  exact this lv hlv
theorem vX13_say_0 {mc ms : Nat} {X : Nat → zV} {Q : zQt} {M : zM} {x1 : Int32} (hW : zFix M)  (h : vp_in ((M.1 55 24)) 100 ∧ ∀ M9 : zM, M9 = (zsI M 70 ((M.1 55 24) : Int32).toNatClampNeg x1) → ∀ M17 : zM, M17 = (zsI M9 55 24 (((M9.1 55 24) + (1 : Int32)))) → Q none M17) : aX13_say_0 mc ms X Q 0 0 [some (.ref 55), some (.int x1)] [] M := ⟨(fxs_55 hW), 70, (fxr_55_23 hW), ⟨(fxs_55 hW), ⟨100, (fxs_70 hW), h.1, (have h9 := h.2 _ rfl; ⟨(fxs_55 hW), ⟨(fxs_55 hW), (have h17 := h9 _ rfl; h17)⟩⟩)⟩⟩⟩
theorem dX13_saySquare_0 : decode cX13_saySquare 0 = .ok (.aload_n 0, 1) := by decide +kernel
theorem dX13_saySquare_1 : decode cX13_saySquare 1 = .ok (.bipush 97, 2) := by decide +kernel
theorem dX13_saySquare_3 : decode cX13_saySquare 3 = .ok (.iload_n 1, 1) := by decide +kernel
theorem dX13_saySquare_4 : decode cX13_saySquare 4 = .ok (.bipush 8, 2) := by decide +kernel
theorem dX13_saySquare_6 : decode cX13_saySquare 6 = .ok (.irem, 1) := by decide +kernel
theorem dX13_saySquare_7 : decode cX13_saySquare 7 = .ok (.iadd, 1) := by decide +kernel
theorem dX13_saySquare_8 : decode cX13_saySquare 8 = .ok (.invokevirtual 237, 3) := by decide +kernel
theorem dX13_saySquare_11 : decode cX13_saySquare 11 = .ok (.aload_n 0, 1) := by decide +kernel
theorem dX13_saySquare_12 : decode cX13_saySquare 12 = .ok (.bipush 49, 2) := by decide +kernel
theorem dX13_saySquare_14 : decode cX13_saySquare 14 = .ok (.iload_n 1, 1) := by decide +kernel
theorem dX13_saySquare_15 : decode cX13_saySquare 15 = .ok (.bipush 8, 2) := by decide +kernel
theorem dX13_saySquare_17 : decode cX13_saySquare 17 = .ok (.idiv, 1) := by decide +kernel
theorem dX13_saySquare_18 : decode cX13_saySquare 18 = .ok (.iadd, 1) := by decide +kernel
theorem dX13_saySquare_19 : decode cX13_saySquare 19 = .ok (.invokevirtual 237, 3) := by decide +kernel
theorem dX13_saySquare_22 : decode cX13_saySquare 22 = .ok (.return_, 1) := by decide +kernel
def kX13_saySquare_22 (mc ms : Nat) (X : Nat → zV) (Q : zQt) : zT :=
  zrv Q
def kX13_saySquare_11 (mc ms : Nat) (X : Nat → zV) (Q : zQt) : zT :=
  zla 0 <| zc (.int 49) <| zli 1 <| zc (.int 8) <| zid (fun x y => x / y) <| zii (fun x y => x + y) <| zcv mc ms 13 1 wX13_say <| kX13_saySquare_22 mc ms X Q
def aX13_saySquare_0 (mc ms : Nat) (X : Nat → zV) (Q : zQt) : zT :=
  zla 0 <| zc (.int 97) <| zli 1 <| zc (.int 8) <| zid (fun x y => x - x / y * y) <| zii (fun x y => x + y) <| zcv mc ms 13 1 wX13_say <| kX13_saySquare_11 mc ms X Q
def lvX13_saySquare : Nat → List Nat := fun L => match L with
  | 0 => [0, 1]
  | _ => []
def wX13_saySquare : zSp := fun mc ms av M Q => ((zlay av).length ≤ 2 ∧ zpick (zlay av) [0, 1] = some av) ∧ ∀ X : Nat → zV, zin 2 [0, 1] (aX13_saySquare_0 mc ms X Q) X 0 → X 0 0 0 av [] M
set_option maxRecDepth 100000 in
set_option maxHeartbeats 4000000 in
theorem sX13_saySquare (l : Launch) (G : zG) : zSnd l G yX13_saySquare cX13_saySquare 2 none 1 21 wX13_saySquare := by
  refine zmk [0, 1] (by decide) (fun mc ms av M Q h => h.1) ?_
  intro p e R s m args below meth c mc ms av M Q hC hRf hRl hr hnm h lv hlv
  obtain ⟨X, hXe⟩ : ∃ X : Nat → zV, X = fun L u v vs st M => ∀ lv, zpick lv (lvX13_saySquare L) = some vs → zAt p l e R s m args below meth c (MQ below (zQ G Q) args s mc ms (zA G)) G 2 L u v lv st M := ⟨_, rfl⟩
  have hJ : ∀ L, zOk p l e R s m args below meth c (MQ below (zQ G Q) args s mc ms (zA G)) G 2 L (zj X L (lvX13_saySquare L)) := fun L => S_jump (fun u v lv vs st M hp hx => by rw [hXe] at hx; exact hx lv hp)
  have hB0 : zin 2 [0, 1] (aX13_saySquare_0 mc ms X Q) X 0 := by
    intro u v vs st M hb
    rw [hXe]
    refine fun lv hp => S_block (L := 0) (live := [0, 1]) ?_ u v lv vs st M hp hb
    unfold aX13_saySquare_0
    refine S_aload_n (pc := 0) hC dX13_saySquare_0 rfl ?_
    refine S_bipush (pc := 1) hC dX13_saySquare_1 (by decide) ?_
    refine S_iload_n (pc := 3) hC dX13_saySquare_3 rfl ?_
    refine S_bipush (pc := 4) hC dX13_saySquare_4 (by decide) ?_
    refine S_irem (pc := 6) hC dX13_saySquare_6 ?_
    refine S_iadd (pc := 7) hC dX13_saySquare_7 ?_
    refine S_callV (pc := 8) hC (sX13_say l G) rfl wd_1553 wd_1555 ws_95 wd_12 wd_1556 (by decide +kernel) ⟨by rw [hRf]; decide, by rw [hRl]; decide⟩ dX13_saySquare_8 ?_
    unfold kX13_saySquare_11
    refine S_aload_n (pc := 11) hC dX13_saySquare_11 rfl ?_
    refine S_bipush (pc := 12) hC dX13_saySquare_12 (by decide) ?_
    refine S_iload_n (pc := 14) hC dX13_saySquare_14 rfl ?_
    refine S_bipush (pc := 15) hC dX13_saySquare_15 (by decide) ?_
    refine S_idiv (pc := 17) hC dX13_saySquare_17 ?_
    refine S_iadd (pc := 18) hC dX13_saySquare_18 ?_
    refine S_callV (pc := 19) hC (sX13_say l G) rfl wd_1553 wd_1555 ws_95 wd_12 wd_1556 (by decide +kernel) ⟨by rw [hRf]; decide, by rw [hRl]; decide⟩ dX13_saySquare_19 ?_
    unfold kX13_saySquare_22
    exact S_vreturn (pc := 22) hC hr dX13_saySquare_22
  have := h.2 X hB0
  rw [hXe] at this
  exact this lv hlv
theorem vX13_saySquare_0 {mc ms : Nat} {X : Nat → zV} {Q : zQt} {M : zM} {x1 : Int32} (hW : zFix M)  (h : wX13_say 0 0 [.ref 55, .int ((97 : Int32) + (x1 - x1 / (8 : Int32) * (8 : Int32)))] M (fun r M1 => kX13_saySquare_11 mc ms X Q 0 0 [some (.ref 55), some (.int x1)] (r.toList ++ []) M1)) : aX13_saySquare_0 mc ms X Q 0 0 [some (.ref 55), some (.int x1)] [] M := ⟨by decide, ⟨Nat.le_of_ble_eq_true rfl, rfl, (fxs_55 hW), 0, 0, Nat.zero_le _, Nat.zero_le _, h⟩⟩
theorem vkX13_saySquare_11 {mc ms : Nat} {X : Nat → zV} {Q : zQt} {M : zM} {x1 : Int32} (hW : zFix M)  (h : wX13_say 0 0 [.ref 55, .int ((49 : Int32) + (x1 / (8 : Int32)))] M (fun r M1 => kX13_saySquare_22 mc ms X Q 0 0 [some (.ref 55), some (.int x1)] (r.toList ++ []) M1)) : kX13_saySquare_11 mc ms X Q 0 0 [some (.ref 55), some (.int x1)] [] M := ⟨by decide, ⟨Nat.le_of_ble_eq_true rfl, rfl, (fxs_55 hW), 0, 0, Nat.zero_le _, Nat.zero_le _, h⟩⟩
theorem vkX13_saySquare_22 {mc ms : Nat} {X : Nat → zV} {Q : zQt} {M : zM} {x1 : Int32} (hW : zFix M)  (h : Q none M) : kX13_saySquare_22 mc ms X Q 0 0 [some (.ref 55), some (.int x1)] [] M := h
theorem dX13_castling_0 : decode cX13_castling 0 = .ok (.aload_n 0, 1) := by decide +kernel
theorem dX13_castling_1 : decode cX13_castling 1 = .ok (.getfield 43, 3) := by decide +kernel
theorem dX13_castling_4 : decode cX13_castling 4 = .ok (.iload_n 1, 1) := by decide +kernel
theorem dX13_castling_5 : decode cX13_castling 5 = .ok (.invokestatic 100, 3) := by decide +kernel
theorem dX13_castling_8 : decode cX13_castling 8 = .ok (.iaload, 1) := by decide +kernel
theorem dX13_castling_9 : decode cX13_castling 9 = .ok (.invokestatic 71, 3) := by decide +kernel
theorem dX13_castling_12 : decode cX13_castling 12 = .ok (.bipush 6, 2) := by decide +kernel
theorem dX13_castling_14 : decode cX13_castling 14 = .ok (.if_icmp .ne 7, 3) := by decide +kernel
theorem dX13_castling_17 : decode cX13_castling 17 = .ok (.iconst 1, 1) := by decide +kernel
theorem dX13_castling_18 : decode cX13_castling 18 = .ok (.goto 4, 3) := by decide +kernel
theorem dX13_castling_21 : decode cX13_castling 21 = .ok (.iconst 0, 1) := by decide +kernel
theorem dX13_castling_22 : decode cX13_castling 22 = .ok (.istore_n 2, 1) := by decide +kernel
theorem dX13_castling_23 : decode cX13_castling 23 = .ok (.iload_n 2, 1) := by decide +kernel
theorem dX13_castling_24 : decode cX13_castling 24 = .ok (.ifCond .eq 20, 3) := by decide +kernel
theorem dX13_castling_27 : decode cX13_castling 27 = .ok (.iload_n 1, 1) := by decide +kernel
theorem dX13_castling_28 : decode cX13_castling 28 = .ok (.invokestatic 103, 3) := by decide +kernel
theorem dX13_castling_31 : decode cX13_castling 31 = .ok (.iload_n 1, 1) := by decide +kernel
theorem dX13_castling_32 : decode cX13_castling 32 = .ok (.invokestatic 100, 3) := by decide +kernel
theorem dX13_castling_35 : decode cX13_castling 35 = .ok (.isub, 1) := by decide +kernel
theorem dX13_castling_36 : decode cX13_castling 36 = .ok (.iconst 2, 1) := by decide +kernel
theorem dX13_castling_37 : decode cX13_castling 37 = .ok (.if_icmp .ne 7, 3) := by decide +kernel
theorem dX13_castling_40 : decode cX13_castling 40 = .ok (.iconst 1, 1) := by decide +kernel
theorem dX13_castling_41 : decode cX13_castling 41 = .ok (.goto 25, 3) := by decide +kernel
theorem dX13_castling_44 : decode cX13_castling 44 = .ok (.iload_n 2, 1) := by decide +kernel
theorem dX13_castling_45 : decode cX13_castling 45 = .ok (.ifCond .eq 20, 3) := by decide +kernel
theorem dX13_castling_48 : decode cX13_castling 48 = .ok (.iload_n 1, 1) := by decide +kernel
theorem dX13_castling_49 : decode cX13_castling 49 = .ok (.invokestatic 100, 3) := by decide +kernel
theorem dX13_castling_52 : decode cX13_castling 52 = .ok (.iload_n 1, 1) := by decide +kernel
theorem dX13_castling_53 : decode cX13_castling 53 = .ok (.invokestatic 103, 3) := by decide +kernel
theorem dX13_castling_56 : decode cX13_castling 56 = .ok (.isub, 1) := by decide +kernel
theorem dX13_castling_57 : decode cX13_castling 57 = .ok (.iconst 2, 1) := by decide +kernel
theorem dX13_castling_58 : decode cX13_castling 58 = .ok (.if_icmp .ne 7, 3) := by decide +kernel
theorem dX13_castling_61 : decode cX13_castling 61 = .ok (.iconst 2, 1) := by decide +kernel
theorem dX13_castling_62 : decode cX13_castling 62 = .ok (.goto 4, 3) := by decide +kernel
theorem dX13_castling_65 : decode cX13_castling 65 = .ok (.iconst 0, 1) := by decide +kernel
theorem dX13_castling_66 : decode cX13_castling 66 = .ok (.ireturn, 1) := by decide +kernel
def kX13_castling_12 (mc ms : Nat) (X : Nat → zV) (Q : zQt) : zT :=
  zc (.int 6) <| zic (fun x y => x = y) (zc (.int 1) <| zj X 22 [1]) <| zc (.int 0) <| zj X 22 [1]
def kX13_castling_8 (mc ms : Nat) (X : Nat → zV) (Q : zQt) : zT :=
  zal 1 <| zcs mc ms 1 wX13_kindOf <| kX13_castling_12 mc ms X Q
def kX13_castling_35 (mc ms : Nat) (X : Nat → zV) (Q : zQt) : zT :=
  zii (fun x y => x - y) <| zc (.int 2) <| zic (fun x y => x = y) (zc (.int 1) <| zj X 66 []) <| zj X 44 [1, 2]
def kX13_castling_31 (mc ms : Nat) (X : Nat → zV) (Q : zQt) : zT :=
  zli 1 <| zcs mc ms 1 wX13_fromOf <| kX13_castling_35 mc ms X Q
def kX13_castling_56 (mc ms : Nat) (X : Nat → zV) (Q : zQt) : zT :=
  zii (fun x y => x - y) <| zc (.int 2) <| zic (fun x y => x = y) (zc (.int 2) <| zj X 66 []) <| zj X 65 []
def kX13_castling_52 (mc ms : Nat) (X : Nat → zV) (Q : zQt) : zT :=
  zli 1 <| zcs mc ms 1 wX13_toOf <| kX13_castling_56 mc ms X Q
def aX13_castling_0 (mc ms : Nat) (X : Nat → zV) (Q : zQt) : zT :=
  zla 0 <| zgR 13 16 <| zli 1 <| zcs mc ms 1 wX13_fromOf <| kX13_castling_8 mc ms X Q
def aX13_castling_22 (mc ms : Nat) (X : Nat → zV) (Q : zQt) : zT :=
  zsi 2 <| zli 2 <| zif (fun x => x = 0) (zj X 44 [1, 2]) <| zli 1 <| zcs mc ms 1 wX13_toOf <| kX13_castling_31 mc ms X Q
def aX13_castling_44 (mc ms : Nat) (X : Nat → zV) (Q : zQt) : zT :=
  zli 2 <| zif (fun x => x = 0) (zj X 65 []) <| zli 1 <| zcs mc ms 1 wX13_fromOf <| kX13_castling_52 mc ms X Q
def aX13_castling_65 (mc ms : Nat) (X : Nat → zV) (Q : zQt) : zT :=
  zc (.int 0) <| zj X 66 []
def aX13_castling_66 (mc ms : Nat) (X : Nat → zV) (Q : zQt) : zT :=
  zri Q
def lvX13_castling : Nat → List Nat := fun L => match L with
  | 0 => [0, 1]
  | 22 => [1]
  | 44 => [1, 2]
  | 65 => []
  | 66 => []
  | _ => []
def wX13_castling : zSp := fun mc ms av M Q => ((zlay av).length ≤ 3 ∧ zpick (zlay av) [0, 1] = some av) ∧ ∀ X : Nat → zV, zin 3 [0, 1] (aX13_castling_0 mc ms X Q) X 0 → zin 3 [1] (aX13_castling_22 mc ms X Q) X 22 → zin 3 [1, 2] (aX13_castling_44 mc ms X Q) X 44 → zin 3 [] (aX13_castling_65 mc ms X Q) X 65 → zin 3 [] (aX13_castling_66 mc ms X Q) X 66 → X 0 0 0 av [] M
set_option maxRecDepth 100000 in
set_option maxHeartbeats 4000000 in
theorem sX13_castling (l : Launch) (G : zG) : zSnd l G yX13_castling cX13_castling 3 (some .int) 1 20 wX13_castling := by
  refine zmk [0, 1] (by decide) (fun mc ms av M Q h => h.1) ?_
  intro p e R s m args below meth c mc ms av M Q hC hRf hRl hr hnm h lv hlv
  obtain ⟨X, hXe⟩ : ∃ X : Nat → zV, X = fun L u v vs st M => ∀ lv, zpick lv (lvX13_castling L) = some vs → zAt p l e R s m args below meth c (MQ below (zQ G Q) args s mc ms (zA G)) G 3 L u v lv st M := ⟨_, rfl⟩
  have hJ : ∀ L, zOk p l e R s m args below meth c (MQ below (zQ G Q) args s mc ms (zA G)) G 3 L (zj X L (lvX13_castling L)) := fun L => S_jump (fun u v lv vs st M hp hx => by rw [hXe] at hx; exact hx lv hp)
  have hB0 : zin 3 [0, 1] (aX13_castling_0 mc ms X Q) X 0 := by
    intro u v vs st M hb
    rw [hXe]
    refine fun lv hp => S_block (L := 0) (live := [0, 1]) ?_ u v lv vs st M hp hb
    unfold aX13_castling_0
    refine S_aload_n (pc := 0) hC dX13_castling_0 rfl ?_
    refine S_getR (pc := 1) hC cfX13 (by decide) (Or.inr ⟨_, rfl⟩) wd_1271 dX13_castling_1 ?_
    refine S_iload_n (pc := 4) hC dX13_castling_4 rfl ?_
    refine S_callS (pc := 5) hC (sX13_fromOf l G) wd_1475 wd_1476 wd_12 wd_1477 (by decide +kernel) ⟨by rw [hRf]; decide, by rw [hRl]; decide⟩ dX13_castling_5 ?_
    unfold kX13_castling_8
    refine S_iaload (pc := 8) hC dX13_castling_8 ?_
    refine S_callS (pc := 9) hC (sX13_kindOf l G) wd_1376 wd_1377 wd_12 wd_1378 (by decide +kernel) ⟨by rw [hRf]; decide, by rw [hRl]; decide⟩ dX13_castling_9 ?_
    unfold kX13_castling_12
    refine S_bipush (pc := 12) hC dX13_castling_12 (by decide) ?_
    refine S_icmp_ne (pc := 14) (tgt := 21) hC dX13_castling_14 (by decide) ?_ ?_
    · refine S_iconst (pc := 21) hC dX13_castling_21 (by decide) ?_
      exact hJ 22
    · refine S_iconst (pc := 17) hC dX13_castling_17 (by decide) ?_
      refine S_goto (pc := 18) (tgt := 22) hC dX13_castling_18 (by decide) ?_
      exact hJ 22
  have hB22 : zin 3 [1] (aX13_castling_22 mc ms X Q) X 22 := by
    intro u v vs st M hb
    rw [hXe]
    refine fun lv hp => S_block (L := 22) (live := [1]) ?_ u v lv vs st M hp hb
    unfold aX13_castling_22
    refine S_istore_n (pc := 22) hC dX13_castling_22 rfl (by decide) ?_
    refine S_iload_n (pc := 23) hC dX13_castling_23 rfl ?_
    refine S_if_eq (pc := 24) (tgt := 44) hC dX13_castling_24 (by decide) ?_ ?_
    · exact hJ 44
    · refine S_iload_n (pc := 27) hC dX13_castling_27 rfl ?_
      refine S_callS (pc := 28) hC (sX13_toOf l G) wd_1478 wd_1479 wd_12 wd_1480 (by decide +kernel) ⟨by rw [hRf]; decide, by rw [hRl]; decide⟩ dX13_castling_28 ?_
      unfold kX13_castling_31
      refine S_iload_n (pc := 31) hC dX13_castling_31 rfl ?_
      refine S_callS (pc := 32) hC (sX13_fromOf l G) wd_1475 wd_1476 wd_12 wd_1477 (by decide +kernel) ⟨by rw [hRf]; decide, by rw [hRl]; decide⟩ dX13_castling_32 ?_
      unfold kX13_castling_35
      refine S_isub (pc := 35) hC dX13_castling_35 ?_
      refine S_iconst (pc := 36) hC dX13_castling_36 (by decide) ?_
      refine S_icmp_ne (pc := 37) (tgt := 44) hC dX13_castling_37 (by decide) ?_ ?_
      · exact hJ 44
      · refine S_iconst (pc := 40) hC dX13_castling_40 (by decide) ?_
        refine S_goto (pc := 41) (tgt := 66) hC dX13_castling_41 (by decide) ?_
        exact hJ 66
  have hB44 : zin 3 [1, 2] (aX13_castling_44 mc ms X Q) X 44 := by
    intro u v vs st M hb
    rw [hXe]
    refine fun lv hp => S_block (L := 44) (live := [1, 2]) ?_ u v lv vs st M hp hb
    unfold aX13_castling_44
    refine S_iload_n (pc := 44) hC dX13_castling_44 rfl ?_
    refine S_if_eq (pc := 45) (tgt := 65) hC dX13_castling_45 (by decide) ?_ ?_
    · exact hJ 65
    · refine S_iload_n (pc := 48) hC dX13_castling_48 rfl ?_
      refine S_callS (pc := 49) hC (sX13_fromOf l G) wd_1475 wd_1476 wd_12 wd_1477 (by decide +kernel) ⟨by rw [hRf]; decide, by rw [hRl]; decide⟩ dX13_castling_49 ?_
      unfold kX13_castling_52
      refine S_iload_n (pc := 52) hC dX13_castling_52 rfl ?_
      refine S_callS (pc := 53) hC (sX13_toOf l G) wd_1478 wd_1479 wd_12 wd_1480 (by decide +kernel) ⟨by rw [hRf]; decide, by rw [hRl]; decide⟩ dX13_castling_53 ?_
      unfold kX13_castling_56
      refine S_isub (pc := 56) hC dX13_castling_56 ?_
      refine S_iconst (pc := 57) hC dX13_castling_57 (by decide) ?_
      refine S_icmp_ne (pc := 58) (tgt := 65) hC dX13_castling_58 (by decide) ?_ ?_
      · exact hJ 65
      · refine S_iconst (pc := 61) hC dX13_castling_61 (by decide) ?_
        refine S_goto (pc := 62) (tgt := 66) hC dX13_castling_62 (by decide) ?_
        exact hJ 66
  have hB65 : zin 3 [] (aX13_castling_65 mc ms X Q) X 65 := by
    intro u v vs st M hb
    rw [hXe]
    refine fun lv hp => S_block (L := 65) (live := []) ?_ u v lv vs st M hp hb
    unfold aX13_castling_65
    refine S_iconst (pc := 65) hC dX13_castling_65 (by decide) ?_
    exact hJ 66
  have hB66 : zin 3 [] (aX13_castling_66 mc ms X Q) X 66 := by
    intro u v vs st M hb
    rw [hXe]
    refine fun lv hp => S_block (L := 66) (live := []) ?_ u v lv vs st M hp hb
    unfold aX13_castling_66
    exact S_ireturn (pc := 66) hC hr dX13_castling_66
  have := h.2 X hB0 hB22 hB44 hB65 hB66
  rw [hXe] at this
  exact this lv hlv
theorem vX13_castling_0 {mc ms : Nat} {X : Nat → zV} {Q : zQt} {M : zM} {x1 : Int32} (hW : zFix M)  (h : wX13_fromOf 0 0 [.int x1] M (fun r M1 => kX13_castling_8 mc ms X Q 0 0 [some (.ref 55), some (.int x1), none] (r.toList ++ [.ref 65]) M1)) : aX13_castling_0 mc ms X Q 0 0 [some (.ref 55), some (.int x1), none] [] M := ⟨(fxs_55 hW), 65, (fxr_55_16 hW), ⟨Nat.le_of_ble_eq_true rfl, rfl, 0, 0, Nat.zero_le _, Nat.zero_le _, h⟩⟩
theorem vX13_castling_22 {mc ms : Nat} {X : Nat → zV} {Q : zQt} {M : zM} {x1 : Int32} {s0 : Int32} (hW : zFix M)  (h : (s0 = 0 → X 44 0 0 [.int x1, .int s0] [] M) ∧ (¬ s0 = 0 → wX13_toOf 0 0 [.int x1] M (fun r M1 => kX13_castling_31 mc ms X Q 0 0 [none, some (.int x1), some (.int s0)] (r.toList ++ []) M1))) : aX13_castling_22 mc ms X Q 0 0 [none, some (.int x1), none] [.int s0] M := ⟨fun c24 => (h.1 c24), fun c24 => ⟨Nat.le_of_ble_eq_true rfl, rfl, 0, 0, Nat.zero_le _, Nat.zero_le _, (h.2 c24)⟩⟩
theorem vX13_castling_44 {mc ms : Nat} {X : Nat → zV} {Q : zQt} {M : zM} {x1 : Int32} {x2 : Int32} (hW : zFix M)  (h : (x2 = 0 → X 65 0 0 [] [] M) ∧ (¬ x2 = 0 → wX13_fromOf 0 0 [.int x1] M (fun r M1 => kX13_castling_52 mc ms X Q 0 0 [none, some (.int x1), some (.int x2)] (r.toList ++ []) M1))) : aX13_castling_44 mc ms X Q 0 0 [none, some (.int x1), some (.int x2)] [] M := ⟨fun c45 => (h.1 c45), fun c45 => ⟨Nat.le_of_ble_eq_true rfl, rfl, 0, 0, Nat.zero_le _, Nat.zero_le _, (h.2 c45)⟩⟩
theorem vX13_castling_65 {mc ms : Nat} {X : Nat → zV} {Q : zQt} {M : zM}  (hW : zFix M)  (h : X 66 0 0 [] [.int 0] M) : aX13_castling_65 mc ms X Q 0 0 [none, none, none] [] M := h
theorem vX13_castling_66 {mc ms : Nat} {X : Nat → zV} {Q : zQt} {M : zM} {s0 : Int32} (hW : zFix M)  (h : Q (some (.int s0)) M) : aX13_castling_66 mc ms X Q 0 0 [none, none, none] [.int s0] M := h
theorem vkX13_castling_8 {mc ms : Nat} {X : Nat → zV} {Q : zQt} {M : zM} {x1 : Int32} {s0 : Int32} (hW : zFix M)  (h : vp_in s0 414 ∧ wX13_kindOf 0 0 [.int ((M : zM).1 65 (s0 : Int32).toNatClampNeg)] M (fun r M1 => kX13_castling_12 mc ms X Q 0 0 [some (.ref 55), some (.int x1), none] (r.toList ++ []) M1)) : kX13_castling_8 mc ms X Q 0 0 [some (.ref 55), some (.int x1), none] [.int s0, .ref 65] M := ⟨414, (fxs_65 hW), h.1, ⟨Nat.le_of_ble_eq_true rfl, rfl, 0, 0, Nat.zero_le _, Nat.zero_le _, h.2⟩⟩
theorem vkX13_castling_12 {mc ms : Nat} {X : Nat → zV} {Q : zQt} {M : zM} {x1 : Int32} {s0 : Int32} (hW : zFix M)  (h : (s0 = (6 : Int32) → X 22 0 0 [.int x1] [.int 1] M) ∧ (¬ s0 = (6 : Int32) → X 22 0 0 [.int x1] [.int 0] M)) : kX13_castling_12 mc ms X Q 0 0 [some (.ref 55), some (.int x1), none] [.int s0] M := ⟨fun c14 => (h.1 c14), fun c14 => (h.2 c14)⟩
theorem vkX13_castling_31 {mc ms : Nat} {X : Nat → zV} {Q : zQt} {M : zM} {x1 : Int32} {x2 : Int32} {s0 : Int32} (hW : zFix M)  (h : wX13_fromOf 0 0 [.int x1] M (fun r M1 => kX13_castling_35 mc ms X Q 0 0 [none, some (.int x1), some (.int x2)] (r.toList ++ [.int s0]) M1)) : kX13_castling_31 mc ms X Q 0 0 [none, some (.int x1), some (.int x2)] [.int s0] M := ⟨Nat.le_of_ble_eq_true rfl, rfl, 0, 0, Nat.zero_le _, Nat.zero_le _, h⟩
theorem vkX13_castling_35 {mc ms : Nat} {X : Nat → zV} {Q : zQt} {M : zM} {x1 : Int32} {x2 : Int32} {s0 : Int32} {s1 : Int32} (hW : zFix M)  (h : ((s1 - s0) = (2 : Int32) → X 66 0 0 [] [.int 1] M) ∧ (¬ (s1 - s0) = (2 : Int32) → X 44 0 0 [.int x1, .int x2] [] M)) : kX13_castling_35 mc ms X Q 0 0 [none, some (.int x1), some (.int x2)] [.int s0, .int s1] M := ⟨fun c37 => (h.1 c37), fun c37 => (h.2 c37)⟩
theorem vkX13_castling_52 {mc ms : Nat} {X : Nat → zV} {Q : zQt} {M : zM} {x1 : Int32} {x2 : Int32} {s0 : Int32} (hW : zFix M)  (h : wX13_toOf 0 0 [.int x1] M (fun r M1 => kX13_castling_56 mc ms X Q 0 0 [none, some (.int x1), some (.int x2)] (r.toList ++ [.int s0]) M1)) : kX13_castling_52 mc ms X Q 0 0 [none, some (.int x1), some (.int x2)] [.int s0] M := ⟨Nat.le_of_ble_eq_true rfl, rfl, 0, 0, Nat.zero_le _, Nat.zero_le _, h⟩
theorem vkX13_castling_56 {mc ms : Nat} {X : Nat → zV} {Q : zQt} {M : zM} {x1 : Int32} {x2 : Int32} {s0 : Int32} {s1 : Int32} (hW : zFix M)  (h : ((s1 - s0) = (2 : Int32) → X 66 0 0 [] [.int 2] M) ∧ (¬ (s1 - s0) = (2 : Int32) → X 65 0 0 [] [] M)) : kX13_castling_56 mc ms X Q 0 0 [none, some (.int x1), some (.int x2)] [.int s0, .int s1] M := ⟨fun c58 => (h.1 c58), fun c58 => (h.2 c58)⟩
theorem dX13_rivals_0 : decode cX13_rivals 0 = .ok (.iconst 0, 1) := by decide +kernel
theorem dX13_rivals_1 : decode cX13_rivals 1 = .ok (.istore_n 3, 1) := by decide +kernel
theorem dX13_rivals_2 : decode cX13_rivals 2 = .ok (.iload_n 1, 1) := by decide +kernel
theorem dX13_rivals_3 : decode cX13_rivals 3 = .ok (.invokestatic 100, 3) := by decide +kernel
theorem dX13_rivals_6 : decode cX13_rivals 6 = .ok (.istore 4, 2) := by decide +kernel
theorem dX13_rivals_8 : decode cX13_rivals 8 = .ok (.iconst 0, 1) := by decide +kernel
theorem dX13_rivals_9 : decode cX13_rivals 9 = .ok (.istore 5, 2) := by decide +kernel
theorem dX13_rivals_11 : decode cX13_rivals 11 = .ok (.iload 5, 2) := by decide +kernel
theorem dX13_rivals_13 : decode cX13_rivals 13 = .ok (.aload_n 0, 1) := by decide +kernel
theorem dX13_rivals_14 : decode cX13_rivals 14 = .ok (.getfield 49, 3) := by decide +kernel
theorem dX13_rivals_17 : decode cX13_rivals 17 = .ok (.iconst 0, 1) := by decide +kernel
theorem dX13_rivals_18 : decode cX13_rivals 18 = .ok (.iaload, 1) := by decide +kernel
theorem dX13_rivals_19 : decode cX13_rivals 19 = .ok (.if_icmp .ge 122, 3) := by decide +kernel
theorem dX13_rivals_22 : decode cX13_rivals 22 = .ok (.aload_n 0, 1) := by decide +kernel
theorem dX13_rivals_23 : decode cX13_rivals 23 = .ok (.getfield 46, 3) := by decide +kernel
theorem dX13_rivals_26 : decode cX13_rivals 26 = .ok (.iload 5, 2) := by decide +kernel
theorem dX13_rivals_28 : decode cX13_rivals 28 = .ok (.iaload, 1) := by decide +kernel
theorem dX13_rivals_29 : decode cX13_rivals 29 = .ok (.invokestatic 100, 3) := by decide +kernel
theorem dX13_rivals_32 : decode cX13_rivals 32 = .ok (.istore 6, 2) := by decide +kernel
theorem dX13_rivals_34 : decode cX13_rivals 34 = .ok (.iload 6, 2) := by decide +kernel
theorem dX13_rivals_36 : decode cX13_rivals 36 = .ok (.iload 4, 2) := by decide +kernel
theorem dX13_rivals_38 : decode cX13_rivals 38 = .ok (.if_icmp .eq 41, 3) := by decide +kernel
theorem dX13_rivals_41 : decode cX13_rivals 41 = .ok (.aload_n 0, 1) := by decide +kernel
theorem dX13_rivals_42 : decode cX13_rivals 42 = .ok (.getfield 46, 3) := by decide +kernel
theorem dX13_rivals_45 : decode cX13_rivals 45 = .ok (.iload 5, 2) := by decide +kernel
theorem dX13_rivals_47 : decode cX13_rivals 47 = .ok (.iaload, 1) := by decide +kernel
theorem dX13_rivals_48 : decode cX13_rivals 48 = .ok (.invokestatic 103, 3) := by decide +kernel
theorem dX13_rivals_51 : decode cX13_rivals 51 = .ok (.iload_n 1, 1) := by decide +kernel
theorem dX13_rivals_52 : decode cX13_rivals 52 = .ok (.invokestatic 103, 3) := by decide +kernel
theorem dX13_rivals_55 : decode cX13_rivals 55 = .ok (.if_icmp .ne 24, 3) := by decide +kernel
theorem dX13_rivals_58 : decode cX13_rivals 58 = .ok (.aload_n 0, 1) := by decide +kernel
theorem dX13_rivals_59 : decode cX13_rivals 59 = .ok (.getfield 43, 3) := by decide +kernel
theorem dX13_rivals_62 : decode cX13_rivals 62 = .ok (.iload 6, 2) := by decide +kernel
theorem dX13_rivals_64 : decode cX13_rivals 64 = .ok (.iaload, 1) := by decide +kernel
theorem dX13_rivals_65 : decode cX13_rivals 65 = .ok (.aload_n 0, 1) := by decide +kernel
theorem dX13_rivals_66 : decode cX13_rivals 66 = .ok (.getfield 43, 3) := by decide +kernel
theorem dX13_rivals_69 : decode cX13_rivals 69 = .ok (.iload 4, 2) := by decide +kernel
theorem dX13_rivals_71 : decode cX13_rivals 71 = .ok (.iaload, 1) := by decide +kernel
theorem dX13_rivals_72 : decode cX13_rivals 72 = .ok (.if_icmp .ne 7, 3) := by decide +kernel
theorem dX13_rivals_75 : decode cX13_rivals 75 = .ok (.iconst 1, 1) := by decide +kernel
theorem dX13_rivals_76 : decode cX13_rivals 76 = .ok (.goto 4, 3) := by decide +kernel
theorem dX13_rivals_79 : decode cX13_rivals 79 = .ok (.iconst 0, 1) := by decide +kernel
theorem dX13_rivals_80 : decode cX13_rivals 80 = .ok (.istore 7, 2) := by decide +kernel
theorem dX13_rivals_82 : decode cX13_rivals 82 = .ok (.iload_n 3, 1) := by decide +kernel
theorem dX13_rivals_83 : decode cX13_rivals 83 = .ok (.iload 7, 2) := by decide +kernel
theorem dX13_rivals_85 : decode cX13_rivals 85 = .ok (.ifCond .eq 47, 3) := by decide +kernel
theorem dX13_rivals_88 : decode cX13_rivals 88 = .ok (.iload_n 2, 1) := by decide +kernel
theorem dX13_rivals_89 : decode cX13_rivals 89 = .ok (.ifCond .eq 39, 3) := by decide +kernel
theorem dX13_rivals_92 : decode cX13_rivals 92 = .ok (.iload_n 2, 1) := by decide +kernel
theorem dX13_rivals_93 : decode cX13_rivals 93 = .ok (.iconst 1, 1) := by decide +kernel
theorem dX13_rivals_94 : decode cX13_rivals 94 = .ok (.if_icmp .ne 16, 3) := by decide +kernel
theorem dX13_rivals_97 : decode cX13_rivals 97 = .ok (.iload 6, 2) := by decide +kernel
theorem dX13_rivals_99 : decode cX13_rivals 99 = .ok (.bipush 8, 2) := by decide +kernel
theorem dX13_rivals_101 : decode cX13_rivals 101 = .ok (.irem, 1) := by decide +kernel
theorem dX13_rivals_102 : decode cX13_rivals 102 = .ok (.iload 4, 2) := by decide +kernel
theorem dX13_rivals_104 : decode cX13_rivals 104 = .ok (.bipush 8, 2) := by decide +kernel
theorem dX13_rivals_106 : decode cX13_rivals 106 = .ok (.irem, 1) := by decide +kernel
theorem dX13_rivals_107 : decode cX13_rivals 107 = .ok (.if_icmp .eq 21, 3) := by decide +kernel
theorem dX13_rivals_110 : decode cX13_rivals 110 = .ok (.iload_n 2, 1) := by decide +kernel
theorem dX13_rivals_111 : decode cX13_rivals 111 = .ok (.iconst 2, 1) := by decide +kernel
theorem dX13_rivals_112 : decode cX13_rivals 112 = .ok (.if_icmp .ne 20, 3) := by decide +kernel
theorem dX13_rivals_115 : decode cX13_rivals 115 = .ok (.iload 6, 2) := by decide +kernel
theorem dX13_rivals_117 : decode cX13_rivals 117 = .ok (.bipush 8, 2) := by decide +kernel
theorem dX13_rivals_119 : decode cX13_rivals 119 = .ok (.idiv, 1) := by decide +kernel
theorem dX13_rivals_120 : decode cX13_rivals 120 = .ok (.iload 4, 2) := by decide +kernel
theorem dX13_rivals_122 : decode cX13_rivals 122 = .ok (.bipush 8, 2) := by decide +kernel
theorem dX13_rivals_124 : decode cX13_rivals 124 = .ok (.idiv, 1) := by decide +kernel
theorem dX13_rivals_125 : decode cX13_rivals 125 = .ok (.if_icmp .ne 7, 3) := by decide +kernel
theorem dX13_rivals_128 : decode cX13_rivals 128 = .ok (.iconst 1, 1) := by decide +kernel
theorem dX13_rivals_129 : decode cX13_rivals 129 = .ok (.goto 4, 3) := by decide +kernel
theorem dX13_rivals_132 : decode cX13_rivals 132 = .ok (.iconst 0, 1) := by decide +kernel
theorem dX13_rivals_133 : decode cX13_rivals 133 = .ok (.iadd, 1) := by decide +kernel
theorem dX13_rivals_134 : decode cX13_rivals 134 = .ok (.istore_n 3, 1) := by decide +kernel
theorem dX13_rivals_135 : decode cX13_rivals 135 = .ok (.iinc 5 1, 3) := by decide +kernel
theorem dX13_rivals_138 : decode cX13_rivals 138 = .ok (.goto (-127), 3) := by decide +kernel
theorem dX13_rivals_141 : decode cX13_rivals 141 = .ok (.iload_n 3, 1) := by decide +kernel
theorem dX13_rivals_142 : decode cX13_rivals 142 = .ok (.ireturn, 1) := by decide +kernel
def kX13_rivals_6 (mc ms : Nat) (X : Nat → zV) (Q : zQt) : zT :=
  zsi 4 <| zc (.int 0) <| zsi 5 <| zj X 11 [0, 1, 2, 3, 4, 5]
def kX13_rivals_55 (mc ms : Nat) (X : Nat → zV) (Q : zQt) : zT :=
  zic (fun x y => x = y) (zla 0 <| zgR 13 16 <| zli 6 <| zal 1 <| zla 0 <| zgR 13 16 <| zli 4 <| zal 1 <| zic (fun x y => x = y) (zc (.int 1) <| zj X 80 [0, 1, 2, 3, 4, 5, 6]) <| zj X 79 [0, 1, 2, 3, 4, 5, 6]) <| zj X 79 [0, 1, 2, 3, 4, 5, 6]
def kX13_rivals_51 (mc ms : Nat) (X : Nat → zV) (Q : zQt) : zT :=
  zli 1 <| zcs mc ms 1 wX13_toOf <| kX13_rivals_55 mc ms X Q
def kX13_rivals_32 (mc ms : Nat) (X : Nat → zV) (Q : zQt) : zT :=
  zsi 6 <| zli 6 <| zli 4 <| zic (fun x y => x = y) (zj X 79 [0, 1, 2, 3, 4, 5, 6]) <| zla 0 <| zgR 13 17 <| zli 5 <| zal 1 <| zcs mc ms 1 wX13_toOf <| kX13_rivals_51 mc ms X Q
def aX13_rivals_0 (mc ms : Nat) (X : Nat → zV) (Q : zQt) : zT :=
  zc (.int 0) <| zsi 3 <| zli 1 <| zcs mc ms 1 wX13_fromOf <| kX13_rivals_6 mc ms X Q
def aX13_rivals_11 (mc ms : Nat) (X : Nat → zV) (Q : zQt) : zT :=
  zli 5 <| zla 0 <| zgR 13 18 <| zc (.int 0) <| zal 1 <| zic (fun x y => y ≤ x) (zli 3 <| zri Q) <| zla 0 <| zgR 13 17 <| zli 5 <| zal 1 <| zcs mc ms 1 wX13_fromOf <| kX13_rivals_32 mc ms X Q
def aX13_rivals_79 (mc ms : Nat) (X : Nat → zV) (Q : zQt) : zT :=
  zc (.int 0) <| zj X 80 [0, 1, 2, 3, 4, 5, 6]
def aX13_rivals_80 (mc ms : Nat) (X : Nat → zV) (Q : zQt) : zT :=
  zsi 7 <| zli 3 <| zli 7 <| zif (fun x => x = 0) (zj X 132 [0, 1, 2, 4, 5]) <| zli 2 <| zif (fun x => x = 0) (zj X 128 [0, 1, 2, 4, 5]) <| zli 2 <| zc (.int 1) <| zic (fun x y => x = y) (zli 6 <| zc (.int 8) <| zid (fun x y => x - x / y * y) <| zli 4 <| zc (.int 8) <| zid (fun x y => x - x / y * y) <| zic (fun x y => x = y) (zj X 128 [0, 1, 2, 4, 5]) <| zj X 110 [0, 1, 2, 4, 5, 6]) <| zj X 110 [0, 1, 2, 4, 5, 6]
def aX13_rivals_110 (mc ms : Nat) (X : Nat → zV) (Q : zQt) : zT :=
  zli 2 <| zc (.int 2) <| zic (fun x y => x = y) (zli 6 <| zc (.int 8) <| zid (fun x y => x / y) <| zli 4 <| zc (.int 8) <| zid (fun x y => x / y) <| zic (fun x y => x = y) (zj X 128 [0, 1, 2, 4, 5]) <| zj X 132 [0, 1, 2, 4, 5]) <| zj X 132 [0, 1, 2, 4, 5]
def aX13_rivals_128 (mc ms : Nat) (X : Nat → zV) (Q : zQt) : zT :=
  zc (.int 1) <| zj X 133 [0, 1, 2, 4, 5]
def aX13_rivals_132 (mc ms : Nat) (X : Nat → zV) (Q : zQt) : zT :=
  zc (.int 0) <| zj X 133 [0, 1, 2, 4, 5]
def aX13_rivals_133 (mc ms : Nat) (X : Nat → zV) (Q : zQt) : zT :=
  zii (fun x y => x + y) <| zsi 3 <| zinc 5 1 <| zj X 11 [0, 1, 2, 3, 4, 5]
def lvX13_rivals : Nat → List Nat := fun L => match L with
  | 0 => [0, 1, 2]
  | 11 => [0, 1, 2, 3, 4, 5]
  | 79 => [0, 1, 2, 3, 4, 5, 6]
  | 80 => [0, 1, 2, 3, 4, 5, 6]
  | 110 => [0, 1, 2, 4, 5, 6]
  | 128 => [0, 1, 2, 4, 5]
  | 132 => [0, 1, 2, 4, 5]
  | 133 => [0, 1, 2, 4, 5]
  | _ => []
def wX13_rivals : zSp := fun mc ms av M Q => ((zlay av).length ≤ 8 ∧ zpick (zlay av) [0, 1, 2] = some av) ∧ ∀ X : Nat → zV, zin 8 [0, 1, 2] (aX13_rivals_0 mc ms X Q) X 0 → zin 8 [0, 1, 2, 3, 4, 5] (aX13_rivals_11 mc ms X Q) X 11 → zin 8 [0, 1, 2, 3, 4, 5, 6] (aX13_rivals_79 mc ms X Q) X 79 → zin 8 [0, 1, 2, 3, 4, 5, 6] (aX13_rivals_80 mc ms X Q) X 80 → zin 8 [0, 1, 2, 4, 5, 6] (aX13_rivals_110 mc ms X Q) X 110 → zin 8 [0, 1, 2, 4, 5] (aX13_rivals_128 mc ms X Q) X 128 → zin 8 [0, 1, 2, 4, 5] (aX13_rivals_132 mc ms X Q) X 132 → zin 8 [0, 1, 2, 4, 5] (aX13_rivals_133 mc ms X Q) X 133 → X 0 0 0 av [] M
set_option maxRecDepth 100000 in
set_option maxHeartbeats 4000000 in
theorem sX13_rivals (l : Launch) (G : zG) : zSnd l G yX13_rivals cX13_rivals 8 (some .int) 1 20 wX13_rivals := by
  refine zmk [0, 1, 2] (by decide) (fun mc ms av M Q h => h.1) ?_
  intro p e R s m args below meth c mc ms av M Q hC hRf hRl hr hnm h lv hlv
  obtain ⟨X, hXe⟩ : ∃ X : Nat → zV, X = fun L u v vs st M => ∀ lv, zpick lv (lvX13_rivals L) = some vs → zAt p l e R s m args below meth c (MQ below (zQ G Q) args s mc ms (zA G)) G 8 L u v lv st M := ⟨_, rfl⟩
  have hJ : ∀ L, zOk p l e R s m args below meth c (MQ below (zQ G Q) args s mc ms (zA G)) G 8 L (zj X L (lvX13_rivals L)) := fun L => S_jump (fun u v lv vs st M hp hx => by rw [hXe] at hx; exact hx lv hp)
  have hB0 : zin 8 [0, 1, 2] (aX13_rivals_0 mc ms X Q) X 0 := by
    intro u v vs st M hb
    rw [hXe]
    refine fun lv hp => S_block (L := 0) (live := [0, 1, 2]) ?_ u v lv vs st M hp hb
    unfold aX13_rivals_0
    refine S_iconst (pc := 0) hC dX13_rivals_0 (by decide) ?_
    refine S_istore_n (pc := 1) hC dX13_rivals_1 rfl (by decide) ?_
    refine S_iload_n (pc := 2) hC dX13_rivals_2 rfl ?_
    refine S_callS (pc := 3) hC (sX13_fromOf l G) wd_1475 wd_1476 wd_12 wd_1477 (by decide +kernel) ⟨by rw [hRf]; decide, by rw [hRl]; decide⟩ dX13_rivals_3 ?_
    unfold kX13_rivals_6
    refine S_istore (pc := 6) hC dX13_rivals_6 (by decide) ?_
    refine S_iconst (pc := 8) hC dX13_rivals_8 (by decide) ?_
    refine S_istore (pc := 9) hC dX13_rivals_9 (by decide) ?_
    exact hJ 11
  have hB11 : zin 8 [0, 1, 2, 3, 4, 5] (aX13_rivals_11 mc ms X Q) X 11 := by
    intro u v vs st M hb
    rw [hXe]
    refine fun lv hp => S_block (L := 11) (live := [0, 1, 2, 3, 4, 5]) ?_ u v lv vs st M hp hb
    unfold aX13_rivals_11
    refine S_iload (pc := 11) hC dX13_rivals_11 ?_
    refine S_aload_n (pc := 13) hC dX13_rivals_13 rfl ?_
    refine S_getR (pc := 14) hC cfX13 (by decide) (Or.inr ⟨_, rfl⟩) wd_1273 dX13_rivals_14 ?_
    refine S_iconst (pc := 17) hC dX13_rivals_17 (by decide) ?_
    refine S_iaload (pc := 18) hC dX13_rivals_18 ?_
    refine S_icmp_ge (pc := 19) (tgt := 141) hC dX13_rivals_19 (by decide) ?_ ?_
    · refine S_iload_n (pc := 141) hC dX13_rivals_141 rfl ?_
      exact S_ireturn (pc := 142) hC hr dX13_rivals_142
    · refine S_aload_n (pc := 22) hC dX13_rivals_22 rfl ?_
      refine S_getR (pc := 23) hC cfX13 (by decide) (Or.inr ⟨_, rfl⟩) wd_1272 dX13_rivals_23 ?_
      refine S_iload (pc := 26) hC dX13_rivals_26 ?_
      refine S_iaload (pc := 28) hC dX13_rivals_28 ?_
      refine S_callS (pc := 29) hC (sX13_fromOf l G) wd_1475 wd_1476 wd_12 wd_1477 (by decide +kernel) ⟨by rw [hRf]; decide, by rw [hRl]; decide⟩ dX13_rivals_29 ?_
      unfold kX13_rivals_32
      refine S_istore (pc := 32) hC dX13_rivals_32 (by decide) ?_
      refine S_iload (pc := 34) hC dX13_rivals_34 ?_
      refine S_iload (pc := 36) hC dX13_rivals_36 ?_
      refine S_icmp_eq (pc := 38) (tgt := 79) hC dX13_rivals_38 (by decide) ?_ ?_
      · exact hJ 79
      · refine S_aload_n (pc := 41) hC dX13_rivals_41 rfl ?_
        refine S_getR (pc := 42) hC cfX13 (by decide) (Or.inr ⟨_, rfl⟩) wd_1272 dX13_rivals_42 ?_
        refine S_iload (pc := 45) hC dX13_rivals_45 ?_
        refine S_iaload (pc := 47) hC dX13_rivals_47 ?_
        refine S_callS (pc := 48) hC (sX13_toOf l G) wd_1478 wd_1479 wd_12 wd_1480 (by decide +kernel) ⟨by rw [hRf]; decide, by rw [hRl]; decide⟩ dX13_rivals_48 ?_
        unfold kX13_rivals_51
        refine S_iload_n (pc := 51) hC dX13_rivals_51 rfl ?_
        refine S_callS (pc := 52) hC (sX13_toOf l G) wd_1478 wd_1479 wd_12 wd_1480 (by decide +kernel) ⟨by rw [hRf]; decide, by rw [hRl]; decide⟩ dX13_rivals_52 ?_
        unfold kX13_rivals_55
        refine S_icmp_ne (pc := 55) (tgt := 79) hC dX13_rivals_55 (by decide) ?_ ?_
        · exact hJ 79
        · refine S_aload_n (pc := 58) hC dX13_rivals_58 rfl ?_
          refine S_getR (pc := 59) hC cfX13 (by decide) (Or.inr ⟨_, rfl⟩) wd_1271 dX13_rivals_59 ?_
          refine S_iload (pc := 62) hC dX13_rivals_62 ?_
          refine S_iaload (pc := 64) hC dX13_rivals_64 ?_
          refine S_aload_n (pc := 65) hC dX13_rivals_65 rfl ?_
          refine S_getR (pc := 66) hC cfX13 (by decide) (Or.inr ⟨_, rfl⟩) wd_1271 dX13_rivals_66 ?_
          refine S_iload (pc := 69) hC dX13_rivals_69 ?_
          refine S_iaload (pc := 71) hC dX13_rivals_71 ?_
          refine S_icmp_ne (pc := 72) (tgt := 79) hC dX13_rivals_72 (by decide) ?_ ?_
          · exact hJ 79
          · refine S_iconst (pc := 75) hC dX13_rivals_75 (by decide) ?_
            refine S_goto (pc := 76) (tgt := 80) hC dX13_rivals_76 (by decide) ?_
            exact hJ 80
  have hB79 : zin 8 [0, 1, 2, 3, 4, 5, 6] (aX13_rivals_79 mc ms X Q) X 79 := by
    intro u v vs st M hb
    rw [hXe]
    refine fun lv hp => S_block (L := 79) (live := [0, 1, 2, 3, 4, 5, 6]) ?_ u v lv vs st M hp hb
    unfold aX13_rivals_79
    refine S_iconst (pc := 79) hC dX13_rivals_79 (by decide) ?_
    exact hJ 80
  have hB80 : zin 8 [0, 1, 2, 3, 4, 5, 6] (aX13_rivals_80 mc ms X Q) X 80 := by
    intro u v vs st M hb
    rw [hXe]
    refine fun lv hp => S_block (L := 80) (live := [0, 1, 2, 3, 4, 5, 6]) ?_ u v lv vs st M hp hb
    unfold aX13_rivals_80
    refine S_istore (pc := 80) hC dX13_rivals_80 (by decide) ?_
    refine S_iload_n (pc := 82) hC dX13_rivals_82 rfl ?_
    refine S_iload (pc := 83) hC dX13_rivals_83 ?_
    refine S_if_eq (pc := 85) (tgt := 132) hC dX13_rivals_85 (by decide) ?_ ?_
    · exact hJ 132
    · refine S_iload_n (pc := 88) hC dX13_rivals_88 rfl ?_
      refine S_if_eq (pc := 89) (tgt := 128) hC dX13_rivals_89 (by decide) ?_ ?_
      · exact hJ 128
      · refine S_iload_n (pc := 92) hC dX13_rivals_92 rfl ?_
        refine S_iconst (pc := 93) hC dX13_rivals_93 (by decide) ?_
        refine S_icmp_ne (pc := 94) (tgt := 110) hC dX13_rivals_94 (by decide) ?_ ?_
        · exact hJ 110
        · refine S_iload (pc := 97) hC dX13_rivals_97 ?_
          refine S_bipush (pc := 99) hC dX13_rivals_99 (by decide) ?_
          refine S_irem (pc := 101) hC dX13_rivals_101 ?_
          refine S_iload (pc := 102) hC dX13_rivals_102 ?_
          refine S_bipush (pc := 104) hC dX13_rivals_104 (by decide) ?_
          refine S_irem (pc := 106) hC dX13_rivals_106 ?_
          refine S_icmp_eq (pc := 107) (tgt := 128) hC dX13_rivals_107 (by decide) ?_ ?_
          · exact hJ 128
          · exact hJ 110
  have hB110 : zin 8 [0, 1, 2, 4, 5, 6] (aX13_rivals_110 mc ms X Q) X 110 := by
    intro u v vs st M hb
    rw [hXe]
    refine fun lv hp => S_block (L := 110) (live := [0, 1, 2, 4, 5, 6]) ?_ u v lv vs st M hp hb
    unfold aX13_rivals_110
    refine S_iload_n (pc := 110) hC dX13_rivals_110 rfl ?_
    refine S_iconst (pc := 111) hC dX13_rivals_111 (by decide) ?_
    refine S_icmp_ne (pc := 112) (tgt := 132) hC dX13_rivals_112 (by decide) ?_ ?_
    · exact hJ 132
    · refine S_iload (pc := 115) hC dX13_rivals_115 ?_
      refine S_bipush (pc := 117) hC dX13_rivals_117 (by decide) ?_
      refine S_idiv (pc := 119) hC dX13_rivals_119 ?_
      refine S_iload (pc := 120) hC dX13_rivals_120 ?_
      refine S_bipush (pc := 122) hC dX13_rivals_122 (by decide) ?_
      refine S_idiv (pc := 124) hC dX13_rivals_124 ?_
      refine S_icmp_ne (pc := 125) (tgt := 132) hC dX13_rivals_125 (by decide) ?_ ?_
      · exact hJ 132
      · exact hJ 128
  have hB128 : zin 8 [0, 1, 2, 4, 5] (aX13_rivals_128 mc ms X Q) X 128 := by
    intro u v vs st M hb
    rw [hXe]
    refine fun lv hp => S_block (L := 128) (live := [0, 1, 2, 4, 5]) ?_ u v lv vs st M hp hb
    unfold aX13_rivals_128
    refine S_iconst (pc := 128) hC dX13_rivals_128 (by decide) ?_
    refine S_goto (pc := 129) (tgt := 133) hC dX13_rivals_129 (by decide) ?_
    exact hJ 133
  have hB132 : zin 8 [0, 1, 2, 4, 5] (aX13_rivals_132 mc ms X Q) X 132 := by
    intro u v vs st M hb
    rw [hXe]
    refine fun lv hp => S_block (L := 132) (live := [0, 1, 2, 4, 5]) ?_ u v lv vs st M hp hb
    unfold aX13_rivals_132
    refine S_iconst (pc := 132) hC dX13_rivals_132 (by decide) ?_
    exact hJ 133
  have hB133 : zin 8 [0, 1, 2, 4, 5] (aX13_rivals_133 mc ms X Q) X 133 := by
    intro u v vs st M hb
    rw [hXe]
    refine fun lv hp => S_block (L := 133) (live := [0, 1, 2, 4, 5]) ?_ u v lv vs st M hp hb
    unfold aX13_rivals_133
    refine S_iadd (pc := 133) hC dX13_rivals_133 ?_
    refine S_istore_n (pc := 134) hC dX13_rivals_134 rfl (by decide) ?_
    refine S_iinc (pc := 135) hC dX13_rivals_135 (by decide) (by decide) ?_
    refine S_goto (pc := 138) (tgt := 11) hC dX13_rivals_138 (by decide) ?_
    exact hJ 11
  have := h.2 X hB0 hB11 hB79 hB80 hB110 hB128 hB132 hB133
  rw [hXe] at this
  exact this lv hlv
theorem vX13_rivals_0 {mc ms : Nat} {X : Nat → zV} {Q : zQt} {M : zM} {x1 : Int32} {x2 : Int32} (hW : zFix M)  (h : wX13_fromOf 0 0 [.int x1] M (fun r M1 => kX13_rivals_6 mc ms X Q 0 0 [some (.ref 55), some (.int x1), some (.int x2), some (.int 0), none, none, none, none] (r.toList ++ []) M1)) : aX13_rivals_0 mc ms X Q 0 0 [some (.ref 55), some (.int x1), some (.int x2), none, none, none, none, none] [] M := ⟨Nat.le_of_ble_eq_true rfl, rfl, 0, 0, Nat.zero_le _, Nat.zero_le _, h⟩
theorem vX13_rivals_11 {mc ms : Nat} {X : Nat → zV} {Q : zQt} {M : zM} {x1 : Int32} {x2 : Int32} {x3 : Int32} {x4 : Int32} {x5 : Int32} (hW : zFix M)  (h : (((M : zM).1 67 (0 : Int32).toNatClampNeg) ≤ x5 → Q (some (.int x3)) M) ∧ (¬ ((M : zM).1 67 (0 : Int32).toNatClampNeg) ≤ x5 → vp_in x5 1980 ∧ wX13_fromOf 0 0 [.int ((M : zM).1 66 (x5 : Int32).toNatClampNeg)] M (fun r M1 => kX13_rivals_32 mc ms X Q 0 0 [some (.ref 55), some (.int x1), some (.int x2), some (.int x3), some (.int x4), some (.int x5), none, none] (r.toList ++ []) M1))) : aX13_rivals_11 mc ms X Q 0 0 [some (.ref 55), some (.int x1), some (.int x2), some (.int x3), some (.int x4), some (.int x5), none, none] [] M := ⟨(fxs_55 hW), 67, (fxr_55_18 hW), ⟨6, (fxs_67 hW), by unfold vp_in; decide, ⟨fun c19 => (h.1 c19), fun c19 => ⟨(fxs_55 hW), 66, (fxr_55_17 hW), ⟨1980, (fxs_66 hW), (h.2 c19).1, ⟨Nat.le_of_ble_eq_true rfl, rfl, 0, 0, Nat.zero_le _, Nat.zero_le _, (h.2 c19).2⟩⟩⟩⟩⟩⟩
theorem vX13_rivals_79 {mc ms : Nat} {X : Nat → zV} {Q : zQt} {M : zM} {x1 : Int32} {x2 : Int32} {x3 : Int32} {x4 : Int32} {x5 : Int32} {x6 : Int32} (hW : zFix M)  (h : X 80 0 0 [.ref 55, .int x1, .int x2, .int x3, .int x4, .int x5, .int x6] [.int 0] M) : aX13_rivals_79 mc ms X Q 0 0 [some (.ref 55), some (.int x1), some (.int x2), some (.int x3), some (.int x4), some (.int x5), some (.int x6), none] [] M := h
theorem vX13_rivals_80 {mc ms : Nat} {X : Nat → zV} {Q : zQt} {M : zM} {x1 : Int32} {x2 : Int32} {x3 : Int32} {x4 : Int32} {x5 : Int32} {x6 : Int32} {s0 : Int32} (hW : zFix M)  (h : (s0 = 0 → X 132 0 0 [.ref 55, .int x1, .int x2, .int x4, .int x5] [.int x3] M) ∧ (¬ s0 = 0 → (x2 = 0 → X 128 0 0 [.ref 55, .int x1, .int x2, .int x4, .int x5] [.int x3] M) ∧ (¬ x2 = 0 → (x2 = (1 : Int32) → ((x6 - x6 / (8 : Int32) * (8 : Int32)) = (x4 - x4 / (8 : Int32) * (8 : Int32)) → X 128 0 0 [.ref 55, .int x1, .int x2, .int x4, .int x5] [.int x3] M) ∧ (¬ (x6 - x6 / (8 : Int32) * (8 : Int32)) = (x4 - x4 / (8 : Int32) * (8 : Int32)) → X 110 0 0 [.ref 55, .int x1, .int x2, .int x4, .int x5, .int x6] [.int x3] M)) ∧ (¬ x2 = (1 : Int32) → X 110 0 0 [.ref 55, .int x1, .int x2, .int x4, .int x5, .int x6] [.int x3] M)))) : aX13_rivals_80 mc ms X Q 0 0 [some (.ref 55), some (.int x1), some (.int x2), some (.int x3), some (.int x4), some (.int x5), some (.int x6), none] [.int s0] M := ⟨fun c85 => (h.1 c85), fun c85 => ⟨fun c89 => ((h.2 c85).1 c89), fun c89 => ⟨fun c94 => ⟨by decide, ⟨by decide, ⟨fun c107 => ((((h.2 c85).2 c89).1 c94).1 c107), fun c107 => ((((h.2 c85).2 c89).1 c94).2 c107)⟩⟩⟩, fun c94 => (((h.2 c85).2 c89).2 c94)⟩⟩⟩
theorem vX13_rivals_110 {mc ms : Nat} {X : Nat → zV} {Q : zQt} {M : zM} {x1 : Int32} {x2 : Int32} {x4 : Int32} {x5 : Int32} {x6 : Int32} {s0 : Int32} (hW : zFix M)  (h : (x2 = (2 : Int32) → ((x6 / (8 : Int32)) = (x4 / (8 : Int32)) → X 128 0 0 [.ref 55, .int x1, .int x2, .int x4, .int x5] [.int s0] M) ∧ (¬ (x6 / (8 : Int32)) = (x4 / (8 : Int32)) → X 132 0 0 [.ref 55, .int x1, .int x2, .int x4, .int x5] [.int s0] M)) ∧ (¬ x2 = (2 : Int32) → X 132 0 0 [.ref 55, .int x1, .int x2, .int x4, .int x5] [.int s0] M)) : aX13_rivals_110 mc ms X Q 0 0 [some (.ref 55), some (.int x1), some (.int x2), none, some (.int x4), some (.int x5), some (.int x6), none] [.int s0] M := ⟨fun c112 => ⟨by decide, ⟨by decide, ⟨fun c125 => ((h.1 c112).1 c125), fun c125 => ((h.1 c112).2 c125)⟩⟩⟩, fun c112 => (h.2 c112)⟩
theorem vX13_rivals_128 {mc ms : Nat} {X : Nat → zV} {Q : zQt} {M : zM} {x1 : Int32} {x2 : Int32} {x4 : Int32} {x5 : Int32} {s0 : Int32} (hW : zFix M)  (h : X 133 0 0 [.ref 55, .int x1, .int x2, .int x4, .int x5] [.int 1, .int s0] M) : aX13_rivals_128 mc ms X Q 0 0 [some (.ref 55), some (.int x1), some (.int x2), none, some (.int x4), some (.int x5), none, none] [.int s0] M := h
theorem vX13_rivals_132 {mc ms : Nat} {X : Nat → zV} {Q : zQt} {M : zM} {x1 : Int32} {x2 : Int32} {x4 : Int32} {x5 : Int32} {s0 : Int32} (hW : zFix M)  (h : X 133 0 0 [.ref 55, .int x1, .int x2, .int x4, .int x5] [.int 0, .int s0] M) : aX13_rivals_132 mc ms X Q 0 0 [some (.ref 55), some (.int x1), some (.int x2), none, some (.int x4), some (.int x5), none, none] [.int s0] M := h
theorem vX13_rivals_133 {mc ms : Nat} {X : Nat → zV} {Q : zQt} {M : zM} {x1 : Int32} {x2 : Int32} {x4 : Int32} {x5 : Int32} {s0 : Int32} {s1 : Int32} (hW : zFix M)  (h : X 11 0 0 [.ref 55, .int x1, .int x2, .int (s1 + s0), .int x4, .int (x5 + 1)] [] M) : aX13_rivals_133 mc ms X Q 0 0 [some (.ref 55), some (.int x1), some (.int x2), none, some (.int x4), some (.int x5), none, none] [.int s0, .int s1] M := h
theorem vkX13_rivals_6 {mc ms : Nat} {X : Nat → zV} {Q : zQt} {M : zM} {x1 : Int32} {x2 : Int32} {x3 : Int32} {s0 : Int32} (hW : zFix M)  (h : X 11 0 0 [.ref 55, .int x1, .int x2, .int x3, .int s0, .int 0] [] M) : kX13_rivals_6 mc ms X Q 0 0 [some (.ref 55), some (.int x1), some (.int x2), some (.int x3), none, none, none, none] [.int s0] M := h
theorem vkX13_rivals_32 {mc ms : Nat} {X : Nat → zV} {Q : zQt} {M : zM} {x1 : Int32} {x2 : Int32} {x3 : Int32} {x4 : Int32} {x5 : Int32} {s0 : Int32} (hW : zFix M)  (h : (s0 = x4 → X 79 0 0 [.ref 55, .int x1, .int x2, .int x3, .int x4, .int x5, .int s0] [] M) ∧ (¬ s0 = x4 → vp_in x5 1980 ∧ wX13_toOf 0 0 [.int ((M : zM).1 66 (x5 : Int32).toNatClampNeg)] M (fun r M1 => kX13_rivals_51 mc ms X Q 0 0 [some (.ref 55), some (.int x1), some (.int x2), some (.int x3), some (.int x4), some (.int x5), some (.int s0), none] (r.toList ++ []) M1))) : kX13_rivals_32 mc ms X Q 0 0 [some (.ref 55), some (.int x1), some (.int x2), some (.int x3), some (.int x4), some (.int x5), none, none] [.int s0] M := ⟨fun c38 => (h.1 c38), fun c38 => ⟨(fxs_55 hW), 66, (fxr_55_17 hW), ⟨1980, (fxs_66 hW), (h.2 c38).1, ⟨Nat.le_of_ble_eq_true rfl, rfl, 0, 0, Nat.zero_le _, Nat.zero_le _, (h.2 c38).2⟩⟩⟩⟩
theorem vkX13_rivals_51 {mc ms : Nat} {X : Nat → zV} {Q : zQt} {M : zM} {x1 : Int32} {x2 : Int32} {x3 : Int32} {x4 : Int32} {x5 : Int32} {x6 : Int32} {s0 : Int32} (hW : zFix M)  (h : wX13_toOf 0 0 [.int x1] M (fun r M1 => kX13_rivals_55 mc ms X Q 0 0 [some (.ref 55), some (.int x1), some (.int x2), some (.int x3), some (.int x4), some (.int x5), some (.int x6), none] (r.toList ++ [.int s0]) M1)) : kX13_rivals_51 mc ms X Q 0 0 [some (.ref 55), some (.int x1), some (.int x2), some (.int x3), some (.int x4), some (.int x5), some (.int x6), none] [.int s0] M := ⟨Nat.le_of_ble_eq_true rfl, rfl, 0, 0, Nat.zero_le _, Nat.zero_le _, h⟩
theorem vkX13_rivals_55 {mc ms : Nat} {X : Nat → zV} {Q : zQt} {M : zM} {x1 : Int32} {x2 : Int32} {x3 : Int32} {x4 : Int32} {x5 : Int32} {x6 : Int32} {s0 : Int32} {s1 : Int32} (hW : zFix M)  (h : (s1 = s0 → vp_in x6 414 ∧ vp_in x4 414 ∧ (((M : zM).1 65 (x6 : Int32).toNatClampNeg) = ((M : zM).1 65 (x4 : Int32).toNatClampNeg) → X 80 0 0 [.ref 55, .int x1, .int x2, .int x3, .int x4, .int x5, .int x6] [.int 1] M) ∧ (¬ ((M : zM).1 65 (x6 : Int32).toNatClampNeg) = ((M : zM).1 65 (x4 : Int32).toNatClampNeg) → X 79 0 0 [.ref 55, .int x1, .int x2, .int x3, .int x4, .int x5, .int x6] [] M)) ∧ (¬ s1 = s0 → X 79 0 0 [.ref 55, .int x1, .int x2, .int x3, .int x4, .int x5, .int x6] [] M)) : kX13_rivals_55 mc ms X Q 0 0 [some (.ref 55), some (.int x1), some (.int x2), some (.int x3), some (.int x4), some (.int x5), some (.int x6), none] [.int s0, .int s1] M := ⟨fun c55 => ⟨(fxs_55 hW), 65, (fxr_55_16 hW), ⟨414, (fxs_65 hW), (h.1 c55).1, ⟨(fxs_55 hW), 65, (fxr_55_16 hW), ⟨414, (fxs_65 hW), (h.1 c55).2.1, ⟨fun c72 => ((h.1 c55).2.2.1 c72), fun c72 => ((h.1 c55).2.2.2 c72)⟩⟩⟩⟩⟩, fun c55 => (h.2 c55)⟩
theorem dX13_sayMan_0 : decode cX13_sayMan 0 = .ok (.iload_n 1, 1) := by decide +kernel
theorem dX13_sayMan_1 : decode cX13_sayMan 1 = .ok (.invokestatic 100, 3) := by decide +kernel
theorem dX13_sayMan_4 : decode cX13_sayMan 4 = .ok (.istore_n 2, 1) := by decide +kernel
theorem dX13_sayMan_5 : decode cX13_sayMan 5 = .ok (.aload_n 0, 1) := by decide +kernel
theorem dX13_sayMan_6 : decode cX13_sayMan 6 = .ok (.aload_n 0, 1) := by decide +kernel
theorem dX13_sayMan_7 : decode cX13_sayMan 7 = .ok (.getfield 43, 3) := by decide +kernel
theorem dX13_sayMan_10 : decode cX13_sayMan 10 = .ok (.iload_n 2, 1) := by decide +kernel
theorem dX13_sayMan_11 : decode cX13_sayMan 11 = .ok (.iaload, 1) := by decide +kernel
theorem dX13_sayMan_12 : decode cX13_sayMan 12 = .ok (.invokestatic 71, 3) := by decide +kernel
theorem dX13_sayMan_15 : decode cX13_sayMan 15 = .ok (.invokestatic 187, 3) := by decide +kernel
theorem dX13_sayMan_18 : decode cX13_sayMan 18 = .ok (.invokevirtual 237, 3) := by decide +kernel
theorem dX13_sayMan_21 : decode cX13_sayMan 21 = .ok (.aload_n 0, 1) := by decide +kernel
theorem dX13_sayMan_22 : decode cX13_sayMan 22 = .ok (.iload_n 1, 1) := by decide +kernel
theorem dX13_sayMan_23 : decode cX13_sayMan 23 = .ok (.iconst 0, 1) := by decide +kernel
theorem dX13_sayMan_24 : decode cX13_sayMan 24 = .ok (.invokevirtual 240, 3) := by decide +kernel
theorem dX13_sayMan_27 : decode cX13_sayMan 27 = .ok (.ifCond .le 69, 3) := by decide +kernel
theorem dX13_sayMan_30 : decode cX13_sayMan 30 = .ok (.aload_n 0, 1) := by decide +kernel
theorem dX13_sayMan_31 : decode cX13_sayMan 31 = .ok (.iload_n 1, 1) := by decide +kernel
theorem dX13_sayMan_32 : decode cX13_sayMan 32 = .ok (.iconst 1, 1) := by decide +kernel
theorem dX13_sayMan_33 : decode cX13_sayMan 33 = .ok (.invokevirtual 240, 3) := by decide +kernel
theorem dX13_sayMan_36 : decode cX13_sayMan 36 = .ok (.ifCond .ne 7, 3) := by decide +kernel
theorem dX13_sayMan_39 : decode cX13_sayMan 39 = .ok (.iconst 1, 1) := by decide +kernel
theorem dX13_sayMan_40 : decode cX13_sayMan 40 = .ok (.goto 4, 3) := by decide +kernel
theorem dX13_sayMan_43 : decode cX13_sayMan 43 = .ok (.iconst 0, 1) := by decide +kernel
theorem dX13_sayMan_44 : decode cX13_sayMan 44 = .ok (.istore_n 3, 1) := by decide +kernel
theorem dX13_sayMan_45 : decode cX13_sayMan 45 = .ok (.aload_n 0, 1) := by decide +kernel
theorem dX13_sayMan_46 : decode cX13_sayMan 46 = .ok (.iload_n 1, 1) := by decide +kernel
theorem dX13_sayMan_47 : decode cX13_sayMan 47 = .ok (.iconst 2, 1) := by decide +kernel
theorem dX13_sayMan_48 : decode cX13_sayMan 48 = .ok (.invokevirtual 240, 3) := by decide +kernel
theorem dX13_sayMan_51 : decode cX13_sayMan 51 = .ok (.ifCond .ne 7, 3) := by decide +kernel
theorem dX13_sayMan_54 : decode cX13_sayMan 54 = .ok (.iconst 1, 1) := by decide +kernel
theorem dX13_sayMan_55 : decode cX13_sayMan 55 = .ok (.goto 4, 3) := by decide +kernel
theorem dX13_sayMan_58 : decode cX13_sayMan 58 = .ok (.iconst 0, 1) := by decide +kernel
theorem dX13_sayMan_59 : decode cX13_sayMan 59 = .ok (.istore 4, 2) := by decide +kernel
theorem dX13_sayMan_61 : decode cX13_sayMan 61 = .ok (.iload_n 3, 1) := by decide +kernel
theorem dX13_sayMan_62 : decode cX13_sayMan 62 = .ok (.ifCond .ne 8, 3) := by decide +kernel
theorem dX13_sayMan_65 : decode cX13_sayMan 65 = .ok (.iload 4, 2) := by decide +kernel
theorem dX13_sayMan_67 : decode cX13_sayMan 67 = .ok (.ifCond .ne 14, 3) := by decide +kernel
theorem dX13_sayMan_70 : decode cX13_sayMan 70 = .ok (.aload_n 0, 1) := by decide +kernel
theorem dX13_sayMan_71 : decode cX13_sayMan 71 = .ok (.bipush 97, 2) := by decide +kernel
theorem dX13_sayMan_73 : decode cX13_sayMan 73 = .ok (.iload_n 2, 1) := by decide +kernel
theorem dX13_sayMan_74 : decode cX13_sayMan 74 = .ok (.bipush 8, 2) := by decide +kernel
theorem dX13_sayMan_76 : decode cX13_sayMan 76 = .ok (.irem, 1) := by decide +kernel
theorem dX13_sayMan_77 : decode cX13_sayMan 77 = .ok (.iadd, 1) := by decide +kernel
theorem dX13_sayMan_78 : decode cX13_sayMan 78 = .ok (.invokevirtual 237, 3) := by decide +kernel
theorem dX13_sayMan_81 : decode cX13_sayMan 81 = .ok (.iload_n 3, 1) := by decide +kernel
theorem dX13_sayMan_82 : decode cX13_sayMan 82 = .ok (.ifCond .ne 14, 3) := by decide +kernel
theorem dX13_sayMan_85 : decode cX13_sayMan 85 = .ok (.aload_n 0, 1) := by decide +kernel
theorem dX13_sayMan_86 : decode cX13_sayMan 86 = .ok (.bipush 49, 2) := by decide +kernel
theorem dX13_sayMan_88 : decode cX13_sayMan 88 = .ok (.iload_n 2, 1) := by decide +kernel
theorem dX13_sayMan_89 : decode cX13_sayMan 89 = .ok (.bipush 8, 2) := by decide +kernel
theorem dX13_sayMan_91 : decode cX13_sayMan 91 = .ok (.idiv, 1) := by decide +kernel
theorem dX13_sayMan_92 : decode cX13_sayMan 92 = .ok (.iadd, 1) := by decide +kernel
theorem dX13_sayMan_93 : decode cX13_sayMan 93 = .ok (.invokevirtual 237, 3) := by decide +kernel
theorem dX13_sayMan_96 : decode cX13_sayMan 96 = .ok (.aload_n 0, 1) := by decide +kernel
theorem dX13_sayMan_97 : decode cX13_sayMan 97 = .ok (.getfield 43, 3) := by decide +kernel
theorem dX13_sayMan_100 : decode cX13_sayMan 100 = .ok (.iload_n 1, 1) := by decide +kernel
theorem dX13_sayMan_101 : decode cX13_sayMan 101 = .ok (.invokestatic 103, 3) := by decide +kernel
theorem dX13_sayMan_104 : decode cX13_sayMan 104 = .ok (.iaload, 1) := by decide +kernel
theorem dX13_sayMan_105 : decode cX13_sayMan 105 = .ok (.ifCond .le 9, 3) := by decide +kernel
theorem dX13_sayMan_108 : decode cX13_sayMan 108 = .ok (.aload_n 0, 1) := by decide +kernel
theorem dX13_sayMan_109 : decode cX13_sayMan 109 = .ok (.bipush 120, 2) := by decide +kernel
theorem dX13_sayMan_111 : decode cX13_sayMan 111 = .ok (.invokevirtual 237, 3) := by decide +kernel
theorem dX13_sayMan_114 : decode cX13_sayMan 114 = .ok (.aload_n 0, 1) := by decide +kernel
theorem dX13_sayMan_115 : decode cX13_sayMan 115 = .ok (.iload_n 1, 1) := by decide +kernel
theorem dX13_sayMan_116 : decode cX13_sayMan 116 = .ok (.invokestatic 103, 3) := by decide +kernel
theorem dX13_sayMan_119 : decode cX13_sayMan 119 = .ok (.invokevirtual 243, 3) := by decide +kernel
theorem dX13_sayMan_122 : decode cX13_sayMan 122 = .ok (.return_, 1) := by decide +kernel
def kX13_sayMan_36 (mc ms : Nat) (X : Nat → zV) (Q : zQt) : zT :=
  zif (fun x => x = 0) (zc (.int 1) <| zj X 44 [0, 1, 2]) <| zc (.int 0) <| zj X 44 [0, 1, 2]
def kX13_sayMan_27 (mc ms : Nat) (X : Nat → zV) (Q : zQt) : zT :=
  zif (fun x => x ≤ 0) (zj X 96 [0, 1]) <| zla 0 <| zli 1 <| zc (.int 1) <| zcv mc ms 13 2 wX13_rivals <| kX13_sayMan_36 mc ms X Q
def kX13_sayMan_21 (mc ms : Nat) (X : Nat → zV) (Q : zQt) : zT :=
  zla 0 <| zli 1 <| zc (.int 0) <| zcv mc ms 13 2 wX13_rivals <| kX13_sayMan_27 mc ms X Q
def kX13_sayMan_18 (mc ms : Nat) (X : Nat → zV) (Q : zQt) : zT :=
  zcv mc ms 13 1 wX13_say <| kX13_sayMan_21 mc ms X Q
def kX13_sayMan_15 (mc ms : Nat) (X : Nat → zV) (Q : zQt) : zT :=
  zcs mc ms 1 wX13_letter <| kX13_sayMan_18 mc ms X Q
def kX13_sayMan_4 (mc ms : Nat) (X : Nat → zV) (Q : zQt) : zT :=
  zsi 2 <| zla 0 <| zla 0 <| zgR 13 16 <| zli 2 <| zal 1 <| zcs mc ms 1 wX13_kindOf <| kX13_sayMan_15 mc ms X Q
def kX13_sayMan_51 (mc ms : Nat) (X : Nat → zV) (Q : zQt) : zT :=
  zif (fun x => x = 0) (zc (.int 1) <| zj X 59 [0, 1, 2, 3]) <| zc (.int 0) <| zj X 59 [0, 1, 2, 3]
def kX13_sayMan_81 (mc ms : Nat) (X : Nat → zV) (Q : zQt) : zT :=
  zj X 81 [0, 1, 2, 3]
def kX13_sayMan_96 (mc ms : Nat) (X : Nat → zV) (Q : zQt) : zT :=
  zj X 96 [0, 1]
def kX13_sayMan_114 (mc ms : Nat) (X : Nat → zV) (Q : zQt) : zT :=
  zj X 114 [0, 1]
def kX13_sayMan_104 (mc ms : Nat) (X : Nat → zV) (Q : zQt) : zT :=
  zal 1 <| zif (fun x => x ≤ 0) (zj X 114 [0, 1]) <| zla 0 <| zc (.int 120) <| zcv mc ms 13 1 wX13_say <| kX13_sayMan_114 mc ms X Q
def kX13_sayMan_122 (mc ms : Nat) (X : Nat → zV) (Q : zQt) : zT :=
  zrv Q
def kX13_sayMan_119 (mc ms : Nat) (X : Nat → zV) (Q : zQt) : zT :=
  zcv mc ms 13 1 wX13_saySquare <| kX13_sayMan_122 mc ms X Q
def aX13_sayMan_0 (mc ms : Nat) (X : Nat → zV) (Q : zQt) : zT :=
  zli 1 <| zcs mc ms 1 wX13_fromOf <| kX13_sayMan_4 mc ms X Q
def aX13_sayMan_44 (mc ms : Nat) (X : Nat → zV) (Q : zQt) : zT :=
  zsi 3 <| zla 0 <| zli 1 <| zc (.int 2) <| zcv mc ms 13 2 wX13_rivals <| kX13_sayMan_51 mc ms X Q
def aX13_sayMan_59 (mc ms : Nat) (X : Nat → zV) (Q : zQt) : zT :=
  zsi 4 <| zli 3 <| zif (fun x => x = 0) (zli 4 <| zif (fun x => x = 0) (zj X 70 [0, 1, 2, 3]) <| zj X 81 [0, 1, 2, 3]) <| zj X 70 [0, 1, 2, 3]
def aX13_sayMan_70 (mc ms : Nat) (X : Nat → zV) (Q : zQt) : zT :=
  zla 0 <| zc (.int 97) <| zli 2 <| zc (.int 8) <| zid (fun x y => x - x / y * y) <| zii (fun x y => x + y) <| zcv mc ms 13 1 wX13_say <| kX13_sayMan_81 mc ms X Q
def aX13_sayMan_81 (mc ms : Nat) (X : Nat → zV) (Q : zQt) : zT :=
  zli 3 <| zif (fun x => x = 0) (zla 0 <| zc (.int 49) <| zli 2 <| zc (.int 8) <| zid (fun x y => x / y) <| zii (fun x y => x + y) <| zcv mc ms 13 1 wX13_say <| kX13_sayMan_96 mc ms X Q) <| zj X 96 [0, 1]
def aX13_sayMan_96 (mc ms : Nat) (X : Nat → zV) (Q : zQt) : zT :=
  zla 0 <| zgR 13 16 <| zli 1 <| zcs mc ms 1 wX13_toOf <| kX13_sayMan_104 mc ms X Q
def aX13_sayMan_114 (mc ms : Nat) (X : Nat → zV) (Q : zQt) : zT :=
  zla 0 <| zli 1 <| zcs mc ms 1 wX13_toOf <| kX13_sayMan_119 mc ms X Q
def lvX13_sayMan : Nat → List Nat := fun L => match L with
  | 0 => [0, 1]
  | 44 => [0, 1, 2]
  | 59 => [0, 1, 2, 3]
  | 70 => [0, 1, 2, 3]
  | 81 => [0, 1, 2, 3]
  | 96 => [0, 1]
  | 114 => [0, 1]
  | _ => []
def wX13_sayMan : zSp := fun mc ms av M Q => ((zlay av).length ≤ 5 ∧ zpick (zlay av) [0, 1] = some av) ∧ ∀ X : Nat → zV, zin 5 [0, 1] (aX13_sayMan_0 mc ms X Q) X 0 → zin 5 [0, 1, 2] (aX13_sayMan_44 mc ms X Q) X 44 → zin 5 [0, 1, 2, 3] (aX13_sayMan_59 mc ms X Q) X 59 → zin 5 [0, 1, 2, 3] (aX13_sayMan_70 mc ms X Q) X 70 → zin 5 [0, 1, 2, 3] (aX13_sayMan_81 mc ms X Q) X 81 → zin 5 [0, 1] (aX13_sayMan_96 mc ms X Q) X 96 → zin 5 [0, 1] (aX13_sayMan_114 mc ms X Q) X 114 → X 0 0 0 av [] M
set_option maxRecDepth 100000 in
set_option maxHeartbeats 4000000 in
theorem sX13_sayMan (l : Launch) (G : zG) : zSnd l G yX13_sayMan cX13_sayMan 5 none 2 47 wX13_sayMan := by
  refine zmk [0, 1] (by decide) (fun mc ms av M Q h => h.1) ?_
  intro p e R s m args below meth c mc ms av M Q hC hRf hRl hr hnm h lv hlv
  obtain ⟨X, hXe⟩ : ∃ X : Nat → zV, X = fun L u v vs st M => ∀ lv, zpick lv (lvX13_sayMan L) = some vs → zAt p l e R s m args below meth c (MQ below (zQ G Q) args s mc ms (zA G)) G 5 L u v lv st M := ⟨_, rfl⟩
  have hJ : ∀ L, zOk p l e R s m args below meth c (MQ below (zQ G Q) args s mc ms (zA G)) G 5 L (zj X L (lvX13_sayMan L)) := fun L => S_jump (fun u v lv vs st M hp hx => by rw [hXe] at hx; exact hx lv hp)
  have hB0 : zin 5 [0, 1] (aX13_sayMan_0 mc ms X Q) X 0 := by
    intro u v vs st M hb
    rw [hXe]
    refine fun lv hp => S_block (L := 0) (live := [0, 1]) ?_ u v lv vs st M hp hb
    unfold aX13_sayMan_0
    refine S_iload_n (pc := 0) hC dX13_sayMan_0 rfl ?_
    refine S_callS (pc := 1) hC (sX13_fromOf l G) wd_1475 wd_1476 wd_12 wd_1477 (by decide +kernel) ⟨by rw [hRf]; decide, by rw [hRl]; decide⟩ dX13_sayMan_1 ?_
    unfold kX13_sayMan_4
    refine S_istore_n (pc := 4) hC dX13_sayMan_4 rfl (by decide) ?_
    refine S_aload_n (pc := 5) hC dX13_sayMan_5 rfl ?_
    refine S_aload_n (pc := 6) hC dX13_sayMan_6 rfl ?_
    refine S_getR (pc := 7) hC cfX13 (by decide) (Or.inr ⟨_, rfl⟩) wd_1271 dX13_sayMan_7 ?_
    refine S_iload_n (pc := 10) hC dX13_sayMan_10 rfl ?_
    refine S_iaload (pc := 11) hC dX13_sayMan_11 ?_
    refine S_callS (pc := 12) hC (sX13_kindOf l G) wd_1376 wd_1377 wd_12 wd_1378 (by decide +kernel) ⟨by rw [hRf]; decide, by rw [hRl]; decide⟩ dX13_sayMan_12 ?_
    unfold kX13_sayMan_15
    refine S_callS (pc := 15) hC (sX13_letter l G) wd_1373 wd_1374 wd_12 wd_1375 (by decide +kernel) ⟨by rw [hRf]; decide, by rw [hRl]; decide⟩ dX13_sayMan_15 ?_
    unfold kX13_sayMan_18
    refine S_callV (pc := 18) hC (sX13_say l G) rfl wd_1553 wd_1555 ws_95 wd_12 wd_1556 (by decide +kernel) ⟨by rw [hRf]; decide, by rw [hRl]; decide⟩ dX13_sayMan_18 ?_
    unfold kX13_sayMan_21
    refine S_aload_n (pc := 21) hC dX13_sayMan_21 rfl ?_
    refine S_iload_n (pc := 22) hC dX13_sayMan_22 rfl ?_
    refine S_iconst (pc := 23) hC dX13_sayMan_23 (by decide) ?_
    refine S_callV (pc := 24) hC (sX13_rivals l G) rfl wd_1565 wd_1567 ws_98 wd_12 wd_1568 (by decide +kernel) ⟨by rw [hRf]; decide, by rw [hRl]; decide⟩ dX13_sayMan_24 ?_
    unfold kX13_sayMan_27
    refine S_if_le (pc := 27) (tgt := 96) hC dX13_sayMan_27 (by decide) ?_ ?_
    · exact hJ 96
    · refine S_aload_n (pc := 30) hC dX13_sayMan_30 rfl ?_
      refine S_iload_n (pc := 31) hC dX13_sayMan_31 rfl ?_
      refine S_iconst (pc := 32) hC dX13_sayMan_32 (by decide) ?_
      refine S_callV (pc := 33) hC (sX13_rivals l G) rfl wd_1565 wd_1567 ws_98 wd_12 wd_1568 (by decide +kernel) ⟨by rw [hRf]; decide, by rw [hRl]; decide⟩ dX13_sayMan_33 ?_
      unfold kX13_sayMan_36
      refine S_if_ne (pc := 36) (tgt := 43) hC dX13_sayMan_36 (by decide) ?_ ?_
      · refine S_iconst (pc := 43) hC dX13_sayMan_43 (by decide) ?_
        exact hJ 44
      · refine S_iconst (pc := 39) hC dX13_sayMan_39 (by decide) ?_
        refine S_goto (pc := 40) (tgt := 44) hC dX13_sayMan_40 (by decide) ?_
        exact hJ 44
  have hB44 : zin 5 [0, 1, 2] (aX13_sayMan_44 mc ms X Q) X 44 := by
    intro u v vs st M hb
    rw [hXe]
    refine fun lv hp => S_block (L := 44) (live := [0, 1, 2]) ?_ u v lv vs st M hp hb
    unfold aX13_sayMan_44
    refine S_istore_n (pc := 44) hC dX13_sayMan_44 rfl (by decide) ?_
    refine S_aload_n (pc := 45) hC dX13_sayMan_45 rfl ?_
    refine S_iload_n (pc := 46) hC dX13_sayMan_46 rfl ?_
    refine S_iconst (pc := 47) hC dX13_sayMan_47 (by decide) ?_
    refine S_callV (pc := 48) hC (sX13_rivals l G) rfl wd_1565 wd_1567 ws_98 wd_12 wd_1568 (by decide +kernel) ⟨by rw [hRf]; decide, by rw [hRl]; decide⟩ dX13_sayMan_48 ?_
    unfold kX13_sayMan_51
    refine S_if_ne (pc := 51) (tgt := 58) hC dX13_sayMan_51 (by decide) ?_ ?_
    · refine S_iconst (pc := 58) hC dX13_sayMan_58 (by decide) ?_
      exact hJ 59
    · refine S_iconst (pc := 54) hC dX13_sayMan_54 (by decide) ?_
      refine S_goto (pc := 55) (tgt := 59) hC dX13_sayMan_55 (by decide) ?_
      exact hJ 59
  have hB59 : zin 5 [0, 1, 2, 3] (aX13_sayMan_59 mc ms X Q) X 59 := by
    intro u v vs st M hb
    rw [hXe]
    refine fun lv hp => S_block (L := 59) (live := [0, 1, 2, 3]) ?_ u v lv vs st M hp hb
    unfold aX13_sayMan_59
    refine S_istore (pc := 59) hC dX13_sayMan_59 (by decide) ?_
    refine S_iload_n (pc := 61) hC dX13_sayMan_61 rfl ?_
    refine S_if_ne (pc := 62) (tgt := 70) hC dX13_sayMan_62 (by decide) ?_ ?_
    · exact hJ 70
    · refine S_iload (pc := 65) hC dX13_sayMan_65 ?_
      refine S_if_ne (pc := 67) (tgt := 81) hC dX13_sayMan_67 (by decide) ?_ ?_
      · exact hJ 81
      · exact hJ 70
  have hB70 : zin 5 [0, 1, 2, 3] (aX13_sayMan_70 mc ms X Q) X 70 := by
    intro u v vs st M hb
    rw [hXe]
    refine fun lv hp => S_block (L := 70) (live := [0, 1, 2, 3]) ?_ u v lv vs st M hp hb
    unfold aX13_sayMan_70
    refine S_aload_n (pc := 70) hC dX13_sayMan_70 rfl ?_
    refine S_bipush (pc := 71) hC dX13_sayMan_71 (by decide) ?_
    refine S_iload_n (pc := 73) hC dX13_sayMan_73 rfl ?_
    refine S_bipush (pc := 74) hC dX13_sayMan_74 (by decide) ?_
    refine S_irem (pc := 76) hC dX13_sayMan_76 ?_
    refine S_iadd (pc := 77) hC dX13_sayMan_77 ?_
    refine S_callV (pc := 78) hC (sX13_say l G) rfl wd_1553 wd_1555 ws_95 wd_12 wd_1556 (by decide +kernel) ⟨by rw [hRf]; decide, by rw [hRl]; decide⟩ dX13_sayMan_78 ?_
    unfold kX13_sayMan_81
    exact hJ 81
  have hB81 : zin 5 [0, 1, 2, 3] (aX13_sayMan_81 mc ms X Q) X 81 := by
    intro u v vs st M hb
    rw [hXe]
    refine fun lv hp => S_block (L := 81) (live := [0, 1, 2, 3]) ?_ u v lv vs st M hp hb
    unfold aX13_sayMan_81
    refine S_iload_n (pc := 81) hC dX13_sayMan_81 rfl ?_
    refine S_if_ne (pc := 82) (tgt := 96) hC dX13_sayMan_82 (by decide) ?_ ?_
    · exact hJ 96
    · refine S_aload_n (pc := 85) hC dX13_sayMan_85 rfl ?_
      refine S_bipush (pc := 86) hC dX13_sayMan_86 (by decide) ?_
      refine S_iload_n (pc := 88) hC dX13_sayMan_88 rfl ?_
      refine S_bipush (pc := 89) hC dX13_sayMan_89 (by decide) ?_
      refine S_idiv (pc := 91) hC dX13_sayMan_91 ?_
      refine S_iadd (pc := 92) hC dX13_sayMan_92 ?_
      refine S_callV (pc := 93) hC (sX13_say l G) rfl wd_1553 wd_1555 ws_95 wd_12 wd_1556 (by decide +kernel) ⟨by rw [hRf]; decide, by rw [hRl]; decide⟩ dX13_sayMan_93 ?_
      unfold kX13_sayMan_96
      exact hJ 96
  have hB96 : zin 5 [0, 1] (aX13_sayMan_96 mc ms X Q) X 96 := by
    intro u v vs st M hb
    rw [hXe]
    refine fun lv hp => S_block (L := 96) (live := [0, 1]) ?_ u v lv vs st M hp hb
    unfold aX13_sayMan_96
    refine S_aload_n (pc := 96) hC dX13_sayMan_96 rfl ?_
    refine S_getR (pc := 97) hC cfX13 (by decide) (Or.inr ⟨_, rfl⟩) wd_1271 dX13_sayMan_97 ?_
    refine S_iload_n (pc := 100) hC dX13_sayMan_100 rfl ?_
    refine S_callS (pc := 101) hC (sX13_toOf l G) wd_1478 wd_1479 wd_12 wd_1480 (by decide +kernel) ⟨by rw [hRf]; decide, by rw [hRl]; decide⟩ dX13_sayMan_101 ?_
    unfold kX13_sayMan_104
    refine S_iaload (pc := 104) hC dX13_sayMan_104 ?_
    refine S_if_le (pc := 105) (tgt := 114) hC dX13_sayMan_105 (by decide) ?_ ?_
    · exact hJ 114
    · refine S_aload_n (pc := 108) hC dX13_sayMan_108 rfl ?_
      refine S_bipush (pc := 109) hC dX13_sayMan_109 (by decide) ?_
      refine S_callV (pc := 111) hC (sX13_say l G) rfl wd_1553 wd_1555 ws_95 wd_12 wd_1556 (by decide +kernel) ⟨by rw [hRf]; decide, by rw [hRl]; decide⟩ dX13_sayMan_111 ?_
      unfold kX13_sayMan_114
      exact hJ 114
  have hB114 : zin 5 [0, 1] (aX13_sayMan_114 mc ms X Q) X 114 := by
    intro u v vs st M hb
    rw [hXe]
    refine fun lv hp => S_block (L := 114) (live := [0, 1]) ?_ u v lv vs st M hp hb
    unfold aX13_sayMan_114
    refine S_aload_n (pc := 114) hC dX13_sayMan_114 rfl ?_
    refine S_iload_n (pc := 115) hC dX13_sayMan_115 rfl ?_
    refine S_callS (pc := 116) hC (sX13_toOf l G) wd_1478 wd_1479 wd_12 wd_1480 (by decide +kernel) ⟨by rw [hRf]; decide, by rw [hRl]; decide⟩ dX13_sayMan_116 ?_
    unfold kX13_sayMan_119
    refine S_callV (pc := 119) hC (sX13_saySquare l G) rfl wd_1557 wd_1559 ws_96 wd_12 wd_1560 (by decide +kernel) ⟨by rw [hRf]; decide, by rw [hRl]; decide⟩ dX13_sayMan_119 ?_
    unfold kX13_sayMan_122
    exact S_vreturn (pc := 122) hC hr dX13_sayMan_122
  have := h.2 X hB0 hB44 hB59 hB70 hB81 hB96 hB114
  rw [hXe] at this
  exact this lv hlv
theorem vX13_sayMan_0 {mc ms : Nat} {X : Nat → zV} {Q : zQt} {M : zM} {x1 : Int32} (hW : zFix M)  (h : wX13_fromOf 0 0 [.int x1] M (fun r M1 => kX13_sayMan_4 mc ms X Q 0 0 [some (.ref 55), some (.int x1), none, none, none] (r.toList ++ []) M1)) : aX13_sayMan_0 mc ms X Q 0 0 [some (.ref 55), some (.int x1), none, none, none] [] M := ⟨Nat.le_of_ble_eq_true rfl, rfl, 0, 0, Nat.zero_le _, Nat.zero_le _, h⟩
theorem vX13_sayMan_44 {mc ms : Nat} {X : Nat → zV} {Q : zQt} {M : zM} {x1 : Int32} {x2 : Int32} {s0 : Int32} (hW : zFix M)  (h : wX13_rivals 0 0 [.ref 55, .int x1, .int 2] M (fun r M1 => kX13_sayMan_51 mc ms X Q 0 0 [some (.ref 55), some (.int x1), some (.int x2), some (.int s0), none] (r.toList ++ []) M1)) : aX13_sayMan_44 mc ms X Q 0 0 [some (.ref 55), some (.int x1), some (.int x2), none, none] [.int s0] M := ⟨Nat.le_of_ble_eq_true rfl, rfl, (fxs_55 hW), 0, 0, Nat.zero_le _, Nat.zero_le _, h⟩
theorem vX13_sayMan_59 {mc ms : Nat} {X : Nat → zV} {Q : zQt} {M : zM} {x1 : Int32} {x2 : Int32} {x3 : Int32} {s0 : Int32} (hW : zFix M)  (h : (x3 = 0 → (s0 = 0 → X 70 0 0 [.ref 55, .int x1, .int x2, .int x3] [] M) ∧ (¬ s0 = 0 → X 81 0 0 [.ref 55, .int x1, .int x2, .int x3] [] M)) ∧ (¬ x3 = 0 → X 70 0 0 [.ref 55, .int x1, .int x2, .int x3] [] M)) : aX13_sayMan_59 mc ms X Q 0 0 [some (.ref 55), some (.int x1), some (.int x2), some (.int x3), none] [.int s0] M := ⟨fun c62 => ⟨fun c67 => ((h.1 c62).1 c67), fun c67 => ((h.1 c62).2 c67)⟩, fun c62 => (h.2 c62)⟩
theorem vX13_sayMan_70 {mc ms : Nat} {X : Nat → zV} {Q : zQt} {M : zM} {x1 : Int32} {x2 : Int32} {x3 : Int32} (hW : zFix M)  (h : wX13_say 0 0 [.ref 55, .int ((97 : Int32) + (x2 - x2 / (8 : Int32) * (8 : Int32)))] M (fun r M1 => kX13_sayMan_81 mc ms X Q 0 0 [some (.ref 55), some (.int x1), some (.int x2), some (.int x3), none] (r.toList ++ []) M1)) : aX13_sayMan_70 mc ms X Q 0 0 [some (.ref 55), some (.int x1), some (.int x2), some (.int x3), none] [] M := ⟨by decide, ⟨Nat.le_of_ble_eq_true rfl, rfl, (fxs_55 hW), 0, 0, Nat.zero_le _, Nat.zero_le _, h⟩⟩
theorem vX13_sayMan_81 {mc ms : Nat} {X : Nat → zV} {Q : zQt} {M : zM} {x1 : Int32} {x2 : Int32} {x3 : Int32} (hW : zFix M)  (h : (x3 = 0 → wX13_say 0 0 [.ref 55, .int ((49 : Int32) + (x2 / (8 : Int32)))] M (fun r M1 => kX13_sayMan_96 mc ms X Q 0 0 [some (.ref 55), some (.int x1), some (.int x2), some (.int x3), none] (r.toList ++ []) M1)) ∧ (¬ x3 = 0 → X 96 0 0 [.ref 55, .int x1] [] M)) : aX13_sayMan_81 mc ms X Q 0 0 [some (.ref 55), some (.int x1), some (.int x2), some (.int x3), none] [] M := ⟨fun c82 => ⟨by decide, ⟨Nat.le_of_ble_eq_true rfl, rfl, (fxs_55 hW), 0, 0, Nat.zero_le _, Nat.zero_le _, (h.1 c82)⟩⟩, fun c82 => (h.2 c82)⟩
theorem vX13_sayMan_96 {mc ms : Nat} {X : Nat → zV} {Q : zQt} {M : zM} {x1 : Int32} (hW : zFix M)  (h : wX13_toOf 0 0 [.int x1] M (fun r M1 => kX13_sayMan_104 mc ms X Q 0 0 [some (.ref 55), some (.int x1), none, none, none] (r.toList ++ [.ref 65]) M1)) : aX13_sayMan_96 mc ms X Q 0 0 [some (.ref 55), some (.int x1), none, none, none] [] M := ⟨(fxs_55 hW), 65, (fxr_55_16 hW), ⟨Nat.le_of_ble_eq_true rfl, rfl, 0, 0, Nat.zero_le _, Nat.zero_le _, h⟩⟩
theorem vX13_sayMan_114 {mc ms : Nat} {X : Nat → zV} {Q : zQt} {M : zM} {x1 : Int32} (hW : zFix M)  (h : wX13_toOf 0 0 [.int x1] M (fun r M1 => kX13_sayMan_119 mc ms X Q 0 0 [some (.ref 55), some (.int x1), none, none, none] (r.toList ++ [.ref 55]) M1)) : aX13_sayMan_114 mc ms X Q 0 0 [some (.ref 55), some (.int x1), none, none, none] [] M := ⟨Nat.le_of_ble_eq_true rfl, rfl, 0, 0, Nat.zero_le _, Nat.zero_le _, h⟩
theorem vkX13_sayMan_4 {mc ms : Nat} {X : Nat → zV} {Q : zQt} {M : zM} {x1 : Int32} {s0 : Int32} (hW : zFix M)  (h : vp_in s0 414 ∧ wX13_kindOf 0 0 [.int ((M : zM).1 65 (s0 : Int32).toNatClampNeg)] M (fun r M1 => kX13_sayMan_15 mc ms X Q 0 0 [some (.ref 55), some (.int x1), some (.int s0), none, none] (r.toList ++ [.ref 55]) M1)) : kX13_sayMan_4 mc ms X Q 0 0 [some (.ref 55), some (.int x1), none, none, none] [.int s0] M := ⟨(fxs_55 hW), 65, (fxr_55_16 hW), ⟨414, (fxs_65 hW), h.1, ⟨Nat.le_of_ble_eq_true rfl, rfl, 0, 0, Nat.zero_le _, Nat.zero_le _, h.2⟩⟩⟩
theorem vkX13_sayMan_15 {mc ms : Nat} {X : Nat → zV} {Q : zQt} {M : zM} {x1 : Int32} {x2 : Int32} {s0 : Int32} (hW : zFix M)  (h : wX13_letter 0 0 [.int s0] M (fun r M1 => kX13_sayMan_18 mc ms X Q 0 0 [some (.ref 55), some (.int x1), some (.int x2), none, none] (r.toList ++ [.ref 55]) M1)) : kX13_sayMan_15 mc ms X Q 0 0 [some (.ref 55), some (.int x1), some (.int x2), none, none] [.int s0, .ref 55] M := ⟨Nat.le_of_ble_eq_true rfl, rfl, 0, 0, Nat.zero_le _, Nat.zero_le _, h⟩
theorem vkX13_sayMan_18 {mc ms : Nat} {X : Nat → zV} {Q : zQt} {M : zM} {x1 : Int32} {x2 : Int32} {s0 : Int32} (hW : zFix M)  (h : wX13_say 0 0 [.ref 55, .int s0] M (fun r M1 => kX13_sayMan_21 mc ms X Q 0 0 [some (.ref 55), some (.int x1), some (.int x2), none, none] (r.toList ++ []) M1)) : kX13_sayMan_18 mc ms X Q 0 0 [some (.ref 55), some (.int x1), some (.int x2), none, none] [.int s0, .ref 55] M := ⟨Nat.le_of_ble_eq_true rfl, rfl, (fxs_55 hW), 0, 0, Nat.zero_le _, Nat.zero_le _, h⟩
theorem vkX13_sayMan_21 {mc ms : Nat} {X : Nat → zV} {Q : zQt} {M : zM} {x1 : Int32} {x2 : Int32} (hW : zFix M)  (h : wX13_rivals 0 0 [.ref 55, .int x1, .int 0] M (fun r M1 => kX13_sayMan_27 mc ms X Q 0 0 [some (.ref 55), some (.int x1), some (.int x2), none, none] (r.toList ++ []) M1)) : kX13_sayMan_21 mc ms X Q 0 0 [some (.ref 55), some (.int x1), some (.int x2), none, none] [] M := ⟨Nat.le_of_ble_eq_true rfl, rfl, (fxs_55 hW), 0, 0, Nat.zero_le _, Nat.zero_le _, h⟩
theorem vkX13_sayMan_27 {mc ms : Nat} {X : Nat → zV} {Q : zQt} {M : zM} {x1 : Int32} {x2 : Int32} {s0 : Int32} (hW : zFix M)  (h : (s0 ≤ 0 → X 96 0 0 [.ref 55, .int x1] [] M) ∧ (¬ s0 ≤ 0 → wX13_rivals 0 0 [.ref 55, .int x1, .int 1] M (fun r M1 => kX13_sayMan_36 mc ms X Q 0 0 [some (.ref 55), some (.int x1), some (.int x2), none, none] (r.toList ++ []) M1))) : kX13_sayMan_27 mc ms X Q 0 0 [some (.ref 55), some (.int x1), some (.int x2), none, none] [.int s0] M := ⟨fun c27 => (h.1 c27), fun c27 => ⟨Nat.le_of_ble_eq_true rfl, rfl, (fxs_55 hW), 0, 0, Nat.zero_le _, Nat.zero_le _, (h.2 c27)⟩⟩
theorem vkX13_sayMan_36 {mc ms : Nat} {X : Nat → zV} {Q : zQt} {M : zM} {x1 : Int32} {x2 : Int32} {s0 : Int32} (hW : zFix M)  (h : (s0 = 0 → X 44 0 0 [.ref 55, .int x1, .int x2] [.int 1] M) ∧ (¬ s0 = 0 → X 44 0 0 [.ref 55, .int x1, .int x2] [.int 0] M)) : kX13_sayMan_36 mc ms X Q 0 0 [some (.ref 55), some (.int x1), some (.int x2), none, none] [.int s0] M := ⟨fun c36 => (h.1 c36), fun c36 => (h.2 c36)⟩
theorem vkX13_sayMan_51 {mc ms : Nat} {X : Nat → zV} {Q : zQt} {M : zM} {x1 : Int32} {x2 : Int32} {x3 : Int32} {s0 : Int32} (hW : zFix M)  (h : (s0 = 0 → X 59 0 0 [.ref 55, .int x1, .int x2, .int x3] [.int 1] M) ∧ (¬ s0 = 0 → X 59 0 0 [.ref 55, .int x1, .int x2, .int x3] [.int 0] M)) : kX13_sayMan_51 mc ms X Q 0 0 [some (.ref 55), some (.int x1), some (.int x2), some (.int x3), none] [.int s0] M := ⟨fun c51 => (h.1 c51), fun c51 => (h.2 c51)⟩
theorem vkX13_sayMan_81 {mc ms : Nat} {X : Nat → zV} {Q : zQt} {M : zM} {x1 : Int32} {x2 : Int32} {x3 : Int32} (hW : zFix M)  (h : X 81 0 0 [.ref 55, .int x1, .int x2, .int x3] [] M) : kX13_sayMan_81 mc ms X Q 0 0 [some (.ref 55), some (.int x1), some (.int x2), some (.int x3), none] [] M := h
theorem vkX13_sayMan_96 {mc ms : Nat} {X : Nat → zV} {Q : zQt} {M : zM} {x1 : Int32} {x2 : Int32} {x3 : Int32} (hW : zFix M)  (h : X 96 0 0 [.ref 55, .int x1] [] M) : kX13_sayMan_96 mc ms X Q 0 0 [some (.ref 55), some (.int x1), some (.int x2), some (.int x3), none] [] M := h
theorem vkX13_sayMan_104 {mc ms : Nat} {X : Nat → zV} {Q : zQt} {M : zM} {x1 : Int32} {s0 : Int32} (hW : zFix M)  (h : vp_in s0 414 ∧ (((M : zM).1 65 (s0 : Int32).toNatClampNeg) ≤ 0 → X 114 0 0 [.ref 55, .int x1] [] M) ∧ (¬ ((M : zM).1 65 (s0 : Int32).toNatClampNeg) ≤ 0 → wX13_say 0 0 [.ref 55, .int 120] M (fun r M1 => kX13_sayMan_114 mc ms X Q 0 0 [some (.ref 55), some (.int x1), none, none, none] (r.toList ++ []) M1))) : kX13_sayMan_104 mc ms X Q 0 0 [some (.ref 55), some (.int x1), none, none, none] [.int s0, .ref 65] M := ⟨414, (fxs_65 hW), h.1, ⟨fun c105 => (h.2.1 c105), fun c105 => ⟨Nat.le_of_ble_eq_true rfl, rfl, (fxs_55 hW), 0, 0, Nat.zero_le _, Nat.zero_le _, (h.2.2 c105)⟩⟩⟩
theorem vkX13_sayMan_114 {mc ms : Nat} {X : Nat → zV} {Q : zQt} {M : zM} {x1 : Int32} (hW : zFix M)  (h : X 114 0 0 [.ref 55, .int x1] [] M) : kX13_sayMan_114 mc ms X Q 0 0 [some (.ref 55), some (.int x1), none, none, none] [] M := h
theorem vkX13_sayMan_119 {mc ms : Nat} {X : Nat → zV} {Q : zQt} {M : zM} {x1 : Int32} {s0 : Int32} (hW : zFix M)  (h : wX13_saySquare 0 0 [.ref 55, .int s0] M (fun r M1 => kX13_sayMan_122 mc ms X Q 0 0 [some (.ref 55), some (.int x1), none, none, none] (r.toList ++ []) M1)) : kX13_sayMan_119 mc ms X Q 0 0 [some (.ref 55), some (.int x1), none, none, none] [.int s0, .ref 55] M := ⟨Nat.le_of_ble_eq_true rfl, rfl, (fxs_55 hW), 0, 0, Nat.zero_le _, Nat.zero_le _, h⟩
theorem vkX13_sayMan_122 {mc ms : Nat} {X : Nat → zV} {Q : zQt} {M : zM} {x1 : Int32} (hW : zFix M)  (h : Q none M) : kX13_sayMan_122 mc ms X Q 0 0 [some (.ref 55), some (.int x1), none, none, none] [] M := h
theorem dX13_spell_0 : decode cX13_spell 0 = .ok (.aload_n 0, 1) := by decide +kernel
theorem dX13_spell_1 : decode cX13_spell 1 = .ok (.iconst 0, 1) := by decide +kernel
theorem dX13_spell_2 : decode cX13_spell 2 = .ok (.putfield 234, 3) := by decide +kernel
theorem dX13_spell_5 : decode cX13_spell 5 = .ok (.iload_n 1, 1) := by decide +kernel
theorem dX13_spell_6 : decode cX13_spell 6 = .ok (.invokestatic 100, 3) := by decide +kernel
theorem dX13_spell_9 : decode cX13_spell 9 = .ok (.istore_n 2, 1) := by decide +kernel
theorem dX13_spell_10 : decode cX13_spell 10 = .ok (.iload_n 1, 1) := by decide +kernel
theorem dX13_spell_11 : decode cX13_spell 11 = .ok (.invokestatic 103, 3) := by decide +kernel
theorem dX13_spell_14 : decode cX13_spell 14 = .ok (.istore_n 3, 1) := by decide +kernel
theorem dX13_spell_15 : decode cX13_spell 15 = .ok (.aload_n 0, 1) := by decide +kernel
theorem dX13_spell_16 : decode cX13_spell 16 = .ok (.iload_n 1, 1) := by decide +kernel
theorem dX13_spell_17 : decode cX13_spell 17 = .ok (.invokevirtual 246, 3) := by decide +kernel
theorem dX13_spell_20 : decode cX13_spell 20 = .ok (.istore 4, 2) := by decide +kernel
theorem dX13_spell_22 : decode cX13_spell 22 = .ok (.iload 4, 2) := by decide +kernel
theorem dX13_spell_24 : decode cX13_spell 24 = .ok (.ifCond .le 49, 3) := by decide +kernel
theorem dX13_spell_27 : decode cX13_spell 27 = .ok (.iconst 0, 1) := by decide +kernel
theorem dX13_spell_28 : decode cX13_spell 28 = .ok (.istore 5, 2) := by decide +kernel
theorem dX13_spell_30 : decode cX13_spell 30 = .ok (.iload 5, 2) := by decide +kernel
theorem dX13_spell_32 : decode cX13_spell 32 = .ok (.iload 4, 2) := by decide +kernel
theorem dX13_spell_34 : decode cX13_spell 34 = .ok (.iconst 1, 1) := by decide +kernel
theorem dX13_spell_35 : decode cX13_spell 35 = .ok (.if_icmp .ne 7, 3) := by decide +kernel
theorem dX13_spell_38 : decode cX13_spell 38 = .ok (.iconst 3, 1) := by decide +kernel
theorem dX13_spell_39 : decode cX13_spell 39 = .ok (.goto 4, 3) := by decide +kernel
theorem dX13_spell_42 : decode cX13_spell 42 = .ok (.iconst 5, 1) := by decide +kernel
theorem dX13_spell_43 : decode cX13_spell 43 = .ok (.if_icmp .ge 27, 3) := by decide +kernel
theorem dX13_spell_46 : decode cX13_spell 46 = .ok (.aload_n 0, 1) := by decide +kernel
theorem dX13_spell_47 : decode cX13_spell 47 = .ok (.iload 5, 2) := by decide +kernel
theorem dX13_spell_49 : decode cX13_spell 49 = .ok (.iconst 2, 1) := by decide +kernel
theorem dX13_spell_50 : decode cX13_spell 50 = .ok (.irem, 1) := by decide +kernel
theorem dX13_spell_51 : decode cX13_spell 51 = .ok (.ifCond .ne 8, 3) := by decide +kernel
theorem dX13_spell_54 : decode cX13_spell 54 = .ok (.bipush 48, 2) := by decide +kernel
theorem dX13_spell_56 : decode cX13_spell 56 = .ok (.goto 5, 3) := by decide +kernel
theorem dX13_spell_59 : decode cX13_spell 59 = .ok (.bipush 45, 2) := by decide +kernel
theorem dX13_spell_61 : decode cX13_spell 61 = .ok (.invokevirtual 237, 3) := by decide +kernel
theorem dX13_spell_64 : decode cX13_spell 64 = .ok (.iinc 5 1, 3) := by decide +kernel
theorem dX13_spell_67 : decode cX13_spell 67 = .ok (.goto (-37), 3) := by decide +kernel
theorem dX13_spell_70 : decode cX13_spell 70 = .ok (.goto 77, 3) := by decide +kernel
theorem dX13_spell_73 : decode cX13_spell 73 = .ok (.aload_n 0, 1) := by decide +kernel
theorem dX13_spell_74 : decode cX13_spell 74 = .ok (.getfield 43, 3) := by decide +kernel
theorem dX13_spell_77 : decode cX13_spell 77 = .ok (.iload_n 2, 1) := by decide +kernel
theorem dX13_spell_78 : decode cX13_spell 78 = .ok (.iaload, 1) := by decide +kernel
theorem dX13_spell_79 : decode cX13_spell 79 = .ok (.invokestatic 71, 3) := by decide +kernel
theorem dX13_spell_82 : decode cX13_spell 82 = .ok (.iconst 1, 1) := by decide +kernel
theorem dX13_spell_83 : decode cX13_spell 83 = .ok (.if_icmp .ne 59, 3) := by decide +kernel
theorem dX13_spell_86 : decode cX13_spell 86 = .ok (.iload_n 2, 1) := by decide +kernel
theorem dX13_spell_87 : decode cX13_spell 87 = .ok (.bipush 8, 2) := by decide +kernel
theorem dX13_spell_89 : decode cX13_spell 89 = .ok (.irem, 1) := by decide +kernel
theorem dX13_spell_90 : decode cX13_spell 90 = .ok (.iload_n 3, 1) := by decide +kernel
theorem dX13_spell_91 : decode cX13_spell 91 = .ok (.bipush 8, 2) := by decide +kernel
theorem dX13_spell_93 : decode cX13_spell 93 = .ok (.irem, 1) := by decide +kernel
theorem dX13_spell_94 : decode cX13_spell 94 = .ok (.if_icmp .eq 20, 3) := by decide +kernel
theorem dX13_spell_97 : decode cX13_spell 97 = .ok (.aload_n 0, 1) := by decide +kernel
theorem dX13_spell_98 : decode cX13_spell 98 = .ok (.bipush 97, 2) := by decide +kernel
theorem dX13_spell_100 : decode cX13_spell 100 = .ok (.iload_n 2, 1) := by decide +kernel
theorem dX13_spell_101 : decode cX13_spell 101 = .ok (.bipush 8, 2) := by decide +kernel
theorem dX13_spell_103 : decode cX13_spell 103 = .ok (.irem, 1) := by decide +kernel
theorem dX13_spell_104 : decode cX13_spell 104 = .ok (.iadd, 1) := by decide +kernel
theorem dX13_spell_105 : decode cX13_spell 105 = .ok (.invokevirtual 237, 3) := by decide +kernel
theorem dX13_spell_108 : decode cX13_spell 108 = .ok (.aload_n 0, 1) := by decide +kernel
theorem dX13_spell_109 : decode cX13_spell 109 = .ok (.bipush 120, 2) := by decide +kernel
theorem dX13_spell_111 : decode cX13_spell 111 = .ok (.invokevirtual 237, 3) := by decide +kernel
theorem dX13_spell_114 : decode cX13_spell 114 = .ok (.aload_n 0, 1) := by decide +kernel
theorem dX13_spell_115 : decode cX13_spell 115 = .ok (.iload_n 3, 1) := by decide +kernel
theorem dX13_spell_116 : decode cX13_spell 116 = .ok (.invokevirtual 243, 3) := by decide +kernel
theorem dX13_spell_119 : decode cX13_spell 119 = .ok (.iload_n 1, 1) := by decide +kernel
theorem dX13_spell_120 : decode cX13_spell 120 = .ok (.sipush 4096, 3) := by decide +kernel
theorem dX13_spell_123 : decode cX13_spell 123 = .ok (.idiv, 1) := by decide +kernel
theorem dX13_spell_124 : decode cX13_spell 124 = .ok (.ifCond .le 23, 3) := by decide +kernel
theorem dX13_spell_127 : decode cX13_spell 127 = .ok (.aload_n 0, 1) := by decide +kernel
theorem dX13_spell_128 : decode cX13_spell 128 = .ok (.iload_n 1, 1) := by decide +kernel
theorem dX13_spell_129 : decode cX13_spell 129 = .ok (.sipush 4096, 3) := by decide +kernel
theorem dX13_spell_132 : decode cX13_spell 132 = .ok (.idiv, 1) := by decide +kernel
theorem dX13_spell_133 : decode cX13_spell 133 = .ok (.invokestatic 187, 3) := by decide +kernel
theorem dX13_spell_136 : decode cX13_spell 136 = .ok (.invokevirtual 237, 3) := by decide +kernel
theorem dX13_spell_139 : decode cX13_spell 139 = .ok (.goto 8, 3) := by decide +kernel
theorem dX13_spell_142 : decode cX13_spell 142 = .ok (.aload_n 0, 1) := by decide +kernel
theorem dX13_spell_143 : decode cX13_spell 143 = .ok (.iload_n 1, 1) := by decide +kernel
theorem dX13_spell_144 : decode cX13_spell 144 = .ok (.invokevirtual 249, 3) := by decide +kernel
theorem dX13_spell_147 : decode cX13_spell 147 = .ok (.return_, 1) := by decide +kernel
def kX13_spell_147 (mc ms : Nat) (X : Nat → zV) (Q : zQt) : zT :=
  zj X 147 []
def kX13_spell_114 (mc ms : Nat) (X : Nat → zV) (Q : zQt) : zT :=
  zj X 114 [0, 1, 3]
def kX13_spell_108 (mc ms : Nat) (X : Nat → zV) (Q : zQt) : zT :=
  zla 0 <| zc (.int 120) <| zcv mc ms 13 1 wX13_say <| kX13_spell_114 mc ms X Q
def kX13_spell_82 (mc ms : Nat) (X : Nat → zV) (Q : zQt) : zT :=
  zc (.int 1) <| zic (fun x y => x = y) (zli 2 <| zc (.int 8) <| zid (fun x y => x - x / y * y) <| zli 3 <| zc (.int 8) <| zid (fun x y => x - x / y * y) <| zic (fun x y => x = y) (zj X 114 [0, 1, 3]) <| zla 0 <| zc (.int 97) <| zli 2 <| zc (.int 8) <| zid (fun x y => x - x / y * y) <| zii (fun x y => x + y) <| zcv mc ms 13 1 wX13_say <| kX13_spell_108 mc ms X Q) <| zla 0 <| zli 1 <| zcv mc ms 13 1 wX13_sayMan <| kX13_spell_147 mc ms X Q
def kX13_spell_20 (mc ms : Nat) (X : Nat → zV) (Q : zQt) : zT :=
  zsi 4 <| zli 4 <| zif (fun x => x ≤ 0) (zla 0 <| zgR 13 16 <| zli 2 <| zal 1 <| zcs mc ms 1 wX13_kindOf <| kX13_spell_82 mc ms X Q) <| zc (.int 0) <| zsi 5 <| zj X 30 [0, 4, 5]
def kX13_spell_14 (mc ms : Nat) (X : Nat → zV) (Q : zQt) : zT :=
  zsi 3 <| zla 0 <| zli 1 <| zcv mc ms 13 1 wX13_castling <| kX13_spell_20 mc ms X Q
def kX13_spell_9 (mc ms : Nat) (X : Nat → zV) (Q : zQt) : zT :=
  zsi 2 <| zli 1 <| zcs mc ms 1 wX13_toOf <| kX13_spell_14 mc ms X Q
def kX13_spell_64 (mc ms : Nat) (X : Nat → zV) (Q : zQt) : zT :=
  zinc 5 1 <| zj X 30 [0, 4, 5]
def kX13_spell_139 (mc ms : Nat) (X : Nat → zV) (Q : zQt) : zT :=
  zj X 147 []
def kX13_spell_136 (mc ms : Nat) (X : Nat → zV) (Q : zQt) : zT :=
  zcv mc ms 13 1 wX13_say <| kX13_spell_139 mc ms X Q
def kX13_spell_119 (mc ms : Nat) (X : Nat → zV) (Q : zQt) : zT :=
  zli 1 <| zc (.int 4096) <| zid (fun x y => x / y) <| zif (fun x => x ≤ 0) (zj X 147 []) <| zla 0 <| zli 1 <| zc (.int 4096) <| zid (fun x y => x / y) <| zcs mc ms 1 wX13_letter <| kX13_spell_136 mc ms X Q
def aX13_spell_0 (mc ms : Nat) (X : Nat → zV) (Q : zQt) : zT :=
  zla 0 <| zc (.int 0) <| zpi 13 24 <| zli 1 <| zcs mc ms 1 wX13_fromOf <| kX13_spell_9 mc ms X Q
def aX13_spell_30 (mc ms : Nat) (X : Nat → zV) (Q : zQt) : zT :=
  zli 5 <| zli 4 <| zc (.int 1) <| zic (fun x y => x = y) (zc (.int 3) <| zj X 43 [0, 4, 5]) <| zc (.int 5) <| zj X 43 [0, 4, 5]
def aX13_spell_43 (mc ms : Nat) (X : Nat → zV) (Q : zQt) : zT :=
  zic (fun x y => y ≤ x) (zj X 147 []) <| zla 0 <| zli 5 <| zc (.int 2) <| zid (fun x y => x - x / y * y) <| zif (fun x => x = 0) (zc (.int 48) <| zj X 61 [0, 4, 5]) <| zc (.int 45) <| zj X 61 [0, 4, 5]
def aX13_spell_61 (mc ms : Nat) (X : Nat → zV) (Q : zQt) : zT :=
  zcv mc ms 13 1 wX13_say <| kX13_spell_64 mc ms X Q
def aX13_spell_114 (mc ms : Nat) (X : Nat → zV) (Q : zQt) : zT :=
  zla 0 <| zli 3 <| zcv mc ms 13 1 wX13_saySquare <| kX13_spell_119 mc ms X Q
def aX13_spell_147 (mc ms : Nat) (X : Nat → zV) (Q : zQt) : zT :=
  zrv Q
def lvX13_spell : Nat → List Nat := fun L => match L with
  | 0 => [0, 1]
  | 30 => [0, 4, 5]
  | 43 => [0, 4, 5]
  | 61 => [0, 4, 5]
  | 114 => [0, 1, 3]
  | 147 => []
  | _ => []
def wX13_spell : zSp := fun mc ms av M Q => ((zlay av).length ≤ 6 ∧ zpick (zlay av) [0, 1] = some av) ∧ ∀ X : Nat → zV, zin 6 [0, 1] (aX13_spell_0 mc ms X Q) X 0 → zin 6 [0, 4, 5] (aX13_spell_30 mc ms X Q) X 30 → zin 6 [0, 4, 5] (aX13_spell_43 mc ms X Q) X 43 → zin 6 [0, 4, 5] (aX13_spell_61 mc ms X Q) X 61 → zin 6 [0, 1, 3] (aX13_spell_114 mc ms X Q) X 114 → zin 6 [] (aX13_spell_147 mc ms X Q) X 147 → X 0 0 0 av [] M
set_option maxRecDepth 100000 in
set_option maxHeartbeats 4000000 in
theorem sX13_spell (l : Launch) (G : zG) : zSnd l G yX13_spell cX13_spell 6 none 3 71 wX13_spell := by
  refine zmk [0, 1] (by decide) (fun mc ms av M Q h => h.1) ?_
  intro p e R s m args below meth c mc ms av M Q hC hRf hRl hr hnm h lv hlv
  obtain ⟨X, hXe⟩ : ∃ X : Nat → zV, X = fun L u v vs st M => ∀ lv, zpick lv (lvX13_spell L) = some vs → zAt p l e R s m args below meth c (MQ below (zQ G Q) args s mc ms (zA G)) G 6 L u v lv st M := ⟨_, rfl⟩
  have hJ : ∀ L, zOk p l e R s m args below meth c (MQ below (zQ G Q) args s mc ms (zA G)) G 6 L (zj X L (lvX13_spell L)) := fun L => S_jump (fun u v lv vs st M hp hx => by rw [hXe] at hx; exact hx lv hp)
  have hB0 : zin 6 [0, 1] (aX13_spell_0 mc ms X Q) X 0 := by
    intro u v vs st M hb
    rw [hXe]
    refine fun lv hp => S_block (L := 0) (live := [0, 1]) ?_ u v lv vs st M hp hb
    unfold aX13_spell_0
    refine S_aload_n (pc := 0) hC dX13_spell_0 rfl ?_
    refine S_iconst (pc := 1) hC dX13_spell_1 (by decide) ?_
    refine S_puti (pc := 2) hC cfX13 (by decide) rfl (Or.inl rfl) wd_1279 dX13_spell_2 ?_
    refine S_iload_n (pc := 5) hC dX13_spell_5 rfl ?_
    refine S_callS (pc := 6) hC (sX13_fromOf l G) wd_1475 wd_1476 wd_12 wd_1477 (by decide +kernel) ⟨by rw [hRf]; decide, by rw [hRl]; decide⟩ dX13_spell_6 ?_
    unfold kX13_spell_9
    refine S_istore_n (pc := 9) hC dX13_spell_9 rfl (by decide) ?_
    refine S_iload_n (pc := 10) hC dX13_spell_10 rfl ?_
    refine S_callS (pc := 11) hC (sX13_toOf l G) wd_1478 wd_1479 wd_12 wd_1480 (by decide +kernel) ⟨by rw [hRf]; decide, by rw [hRl]; decide⟩ dX13_spell_11 ?_
    unfold kX13_spell_14
    refine S_istore_n (pc := 14) hC dX13_spell_14 rfl (by decide) ?_
    refine S_aload_n (pc := 15) hC dX13_spell_15 rfl ?_
    refine S_iload_n (pc := 16) hC dX13_spell_16 rfl ?_
    refine S_callV (pc := 17) hC (sX13_castling l G) rfl wd_1545 wd_1547 ws_93 wd_12 wd_1548 (by decide +kernel) ⟨by rw [hRf]; decide, by rw [hRl]; decide⟩ dX13_spell_17 ?_
    unfold kX13_spell_20
    refine S_istore (pc := 20) hC dX13_spell_20 (by decide) ?_
    refine S_iload (pc := 22) hC dX13_spell_22 ?_
    refine S_if_le (pc := 24) (tgt := 73) hC dX13_spell_24 (by decide) ?_ ?_
    · refine S_aload_n (pc := 73) hC dX13_spell_73 rfl ?_
      refine S_getR (pc := 74) hC cfX13 (by decide) (Or.inr ⟨_, rfl⟩) wd_1271 dX13_spell_74 ?_
      refine S_iload_n (pc := 77) hC dX13_spell_77 rfl ?_
      refine S_iaload (pc := 78) hC dX13_spell_78 ?_
      refine S_callS (pc := 79) hC (sX13_kindOf l G) wd_1376 wd_1377 wd_12 wd_1378 (by decide +kernel) ⟨by rw [hRf]; decide, by rw [hRl]; decide⟩ dX13_spell_79 ?_
      unfold kX13_spell_82
      refine S_iconst (pc := 82) hC dX13_spell_82 (by decide) ?_
      refine S_icmp_ne (pc := 83) (tgt := 142) hC dX13_spell_83 (by decide) ?_ ?_
      · refine S_aload_n (pc := 142) hC dX13_spell_142 rfl ?_
        refine S_iload_n (pc := 143) hC dX13_spell_143 rfl ?_
        refine S_callV (pc := 144) hC (sX13_sayMan l G) rfl wd_1561 wd_1563 ws_97 wd_12 wd_1564 (by decide +kernel) ⟨by rw [hRf]; decide, by rw [hRl]; decide⟩ dX13_spell_144 ?_
        unfold kX13_spell_147
        exact hJ 147
      · refine S_iload_n (pc := 86) hC dX13_spell_86 rfl ?_
        refine S_bipush (pc := 87) hC dX13_spell_87 (by decide) ?_
        refine S_irem (pc := 89) hC dX13_spell_89 ?_
        refine S_iload_n (pc := 90) hC dX13_spell_90 rfl ?_
        refine S_bipush (pc := 91) hC dX13_spell_91 (by decide) ?_
        refine S_irem (pc := 93) hC dX13_spell_93 ?_
        refine S_icmp_eq (pc := 94) (tgt := 114) hC dX13_spell_94 (by decide) ?_ ?_
        · exact hJ 114
        · refine S_aload_n (pc := 97) hC dX13_spell_97 rfl ?_
          refine S_bipush (pc := 98) hC dX13_spell_98 (by decide) ?_
          refine S_iload_n (pc := 100) hC dX13_spell_100 rfl ?_
          refine S_bipush (pc := 101) hC dX13_spell_101 (by decide) ?_
          refine S_irem (pc := 103) hC dX13_spell_103 ?_
          refine S_iadd (pc := 104) hC dX13_spell_104 ?_
          refine S_callV (pc := 105) hC (sX13_say l G) rfl wd_1553 wd_1555 ws_95 wd_12 wd_1556 (by decide +kernel) ⟨by rw [hRf]; decide, by rw [hRl]; decide⟩ dX13_spell_105 ?_
          unfold kX13_spell_108
          refine S_aload_n (pc := 108) hC dX13_spell_108 rfl ?_
          refine S_bipush (pc := 109) hC dX13_spell_109 (by decide) ?_
          refine S_callV (pc := 111) hC (sX13_say l G) rfl wd_1553 wd_1555 ws_95 wd_12 wd_1556 (by decide +kernel) ⟨by rw [hRf]; decide, by rw [hRl]; decide⟩ dX13_spell_111 ?_
          unfold kX13_spell_114
          exact hJ 114
    · refine S_iconst (pc := 27) hC dX13_spell_27 (by decide) ?_
      refine S_istore (pc := 28) hC dX13_spell_28 (by decide) ?_
      exact hJ 30
  have hB30 : zin 6 [0, 4, 5] (aX13_spell_30 mc ms X Q) X 30 := by
    intro u v vs st M hb
    rw [hXe]
    refine fun lv hp => S_block (L := 30) (live := [0, 4, 5]) ?_ u v lv vs st M hp hb
    unfold aX13_spell_30
    refine S_iload (pc := 30) hC dX13_spell_30 ?_
    refine S_iload (pc := 32) hC dX13_spell_32 ?_
    refine S_iconst (pc := 34) hC dX13_spell_34 (by decide) ?_
    refine S_icmp_ne (pc := 35) (tgt := 42) hC dX13_spell_35 (by decide) ?_ ?_
    · refine S_iconst (pc := 42) hC dX13_spell_42 (by decide) ?_
      exact hJ 43
    · refine S_iconst (pc := 38) hC dX13_spell_38 (by decide) ?_
      refine S_goto (pc := 39) (tgt := 43) hC dX13_spell_39 (by decide) ?_
      exact hJ 43
  have hB43 : zin 6 [0, 4, 5] (aX13_spell_43 mc ms X Q) X 43 := by
    intro u v vs st M hb
    rw [hXe]
    refine fun lv hp => S_block (L := 43) (live := [0, 4, 5]) ?_ u v lv vs st M hp hb
    unfold aX13_spell_43
    refine S_icmp_ge (pc := 43) (tgt := 70) hC dX13_spell_43 (by decide) ?_ ?_
    · refine S_goto (pc := 70) (tgt := 147) hC dX13_spell_70 (by decide) ?_
      exact hJ 147
    · refine S_aload_n (pc := 46) hC dX13_spell_46 rfl ?_
      refine S_iload (pc := 47) hC dX13_spell_47 ?_
      refine S_iconst (pc := 49) hC dX13_spell_49 (by decide) ?_
      refine S_irem (pc := 50) hC dX13_spell_50 ?_
      refine S_if_ne (pc := 51) (tgt := 59) hC dX13_spell_51 (by decide) ?_ ?_
      · refine S_bipush (pc := 59) hC dX13_spell_59 (by decide) ?_
        exact hJ 61
      · refine S_bipush (pc := 54) hC dX13_spell_54 (by decide) ?_
        refine S_goto (pc := 56) (tgt := 61) hC dX13_spell_56 (by decide) ?_
        exact hJ 61
  have hB61 : zin 6 [0, 4, 5] (aX13_spell_61 mc ms X Q) X 61 := by
    intro u v vs st M hb
    rw [hXe]
    refine fun lv hp => S_block (L := 61) (live := [0, 4, 5]) ?_ u v lv vs st M hp hb
    unfold aX13_spell_61
    refine S_callV (pc := 61) hC (sX13_say l G) rfl wd_1553 wd_1555 ws_95 wd_12 wd_1556 (by decide +kernel) ⟨by rw [hRf]; decide, by rw [hRl]; decide⟩ dX13_spell_61 ?_
    unfold kX13_spell_64
    refine S_iinc (pc := 64) hC dX13_spell_64 (by decide) (by decide) ?_
    refine S_goto (pc := 67) (tgt := 30) hC dX13_spell_67 (by decide) ?_
    exact hJ 30
  have hB114 : zin 6 [0, 1, 3] (aX13_spell_114 mc ms X Q) X 114 := by
    intro u v vs st M hb
    rw [hXe]
    refine fun lv hp => S_block (L := 114) (live := [0, 1, 3]) ?_ u v lv vs st M hp hb
    unfold aX13_spell_114
    refine S_aload_n (pc := 114) hC dX13_spell_114 rfl ?_
    refine S_iload_n (pc := 115) hC dX13_spell_115 rfl ?_
    refine S_callV (pc := 116) hC (sX13_saySquare l G) rfl wd_1557 wd_1559 ws_96 wd_12 wd_1560 (by decide +kernel) ⟨by rw [hRf]; decide, by rw [hRl]; decide⟩ dX13_spell_116 ?_
    unfold kX13_spell_119
    refine S_iload_n (pc := 119) hC dX13_spell_119 rfl ?_
    refine S_sipush (pc := 120) hC dX13_spell_120 (by decide) ?_
    refine S_idiv (pc := 123) hC dX13_spell_123 ?_
    refine S_if_le (pc := 124) (tgt := 147) hC dX13_spell_124 (by decide) ?_ ?_
    · exact hJ 147
    · refine S_aload_n (pc := 127) hC dX13_spell_127 rfl ?_
      refine S_iload_n (pc := 128) hC dX13_spell_128 rfl ?_
      refine S_sipush (pc := 129) hC dX13_spell_129 (by decide) ?_
      refine S_idiv (pc := 132) hC dX13_spell_132 ?_
      refine S_callS (pc := 133) hC (sX13_letter l G) wd_1373 wd_1374 wd_12 wd_1375 (by decide +kernel) ⟨by rw [hRf]; decide, by rw [hRl]; decide⟩ dX13_spell_133 ?_
      unfold kX13_spell_136
      refine S_callV (pc := 136) hC (sX13_say l G) rfl wd_1553 wd_1555 ws_95 wd_12 wd_1556 (by decide +kernel) ⟨by rw [hRf]; decide, by rw [hRl]; decide⟩ dX13_spell_136 ?_
      unfold kX13_spell_139
      refine S_goto (pc := 139) (tgt := 147) hC dX13_spell_139 (by decide) ?_
      exact hJ 147
  have hB147 : zin 6 [] (aX13_spell_147 mc ms X Q) X 147 := by
    intro u v vs st M hb
    rw [hXe]
    refine fun lv hp => S_block (L := 147) (live := []) ?_ u v lv vs st M hp hb
    unfold aX13_spell_147
    exact S_vreturn (pc := 147) hC hr dX13_spell_147
  have := h.2 X hB0 hB30 hB43 hB61 hB114 hB147
  rw [hXe] at this
  exact this lv hlv
theorem vX13_spell_0 {mc ms : Nat} {X : Nat → zV} {Q : zQt} {M : zM} {x1 : Int32} (hW : zFix M)  (h : ∀ M2 : zM, M2 = (zsI M 55 24 0) → wX13_fromOf 0 0 [.int x1] M2 (fun r M1 => kX13_spell_9 mc ms X Q 0 0 [some (.ref 55), some (.int x1), none, none, none, none] (r.toList ++ []) M1)) : aX13_spell_0 mc ms X Q 0 0 [some (.ref 55), some (.int x1), none, none, none, none] [] M := ⟨(fxs_55 hW), (have h2 := h _ rfl; ⟨Nat.le_of_ble_eq_true rfl, rfl, 0, 0, Nat.zero_le _, Nat.zero_le _, h2⟩)⟩
theorem vX13_spell_30 {mc ms : Nat} {X : Nat → zV} {Q : zQt} {M : zM} {x4 : Int32} {x5 : Int32} (hW : zFix M)  (h : (x4 = (1 : Int32) → X 43 0 0 [.ref 55, .int x4, .int x5] [.int 3, .int x5] M) ∧ (¬ x4 = (1 : Int32) → X 43 0 0 [.ref 55, .int x4, .int x5] [.int 5, .int x5] M)) : aX13_spell_30 mc ms X Q 0 0 [some (.ref 55), none, none, none, some (.int x4), some (.int x5)] [] M := ⟨fun c35 => (h.1 c35), fun c35 => (h.2 c35)⟩
theorem vX13_spell_43 {mc ms : Nat} {X : Nat → zV} {Q : zQt} {M : zM} {x4 : Int32} {x5 : Int32} {s0 : Int32} {s1 : Int32} (hW : zFix M)  (h : (s0 ≤ s1 → X 147 0 0 [] [] M) ∧ (¬ s0 ≤ s1 → ((x5 - x5 / (2 : Int32) * (2 : Int32)) = 0 → X 61 0 0 [.ref 55, .int x4, .int x5] [.int 48, .ref 55] M) ∧ (¬ (x5 - x5 / (2 : Int32) * (2 : Int32)) = 0 → X 61 0 0 [.ref 55, .int x4, .int x5] [.int 45, .ref 55] M))) : aX13_spell_43 mc ms X Q 0 0 [some (.ref 55), none, none, none, some (.int x4), some (.int x5)] [.int s0, .int s1] M := ⟨fun c43 => (h.1 c43), fun c43 => ⟨by decide, ⟨fun c51 => ((h.2 c43).1 c51), fun c51 => ((h.2 c43).2 c51)⟩⟩⟩
theorem vX13_spell_61 {mc ms : Nat} {X : Nat → zV} {Q : zQt} {M : zM} {x4 : Int32} {x5 : Int32} {s0 : Int32} (hW : zFix M)  (h : wX13_say 0 0 [.ref 55, .int s0] M (fun r M1 => kX13_spell_64 mc ms X Q 0 0 [some (.ref 55), none, none, none, some (.int x4), some (.int x5)] (r.toList ++ []) M1)) : aX13_spell_61 mc ms X Q 0 0 [some (.ref 55), none, none, none, some (.int x4), some (.int x5)] [.int s0, .ref 55] M := ⟨Nat.le_of_ble_eq_true rfl, rfl, (fxs_55 hW), 0, 0, Nat.zero_le _, Nat.zero_le _, h⟩
theorem vX13_spell_114 {mc ms : Nat} {X : Nat → zV} {Q : zQt} {M : zM} {x1 : Int32} {x3 : Int32} (hW : zFix M)  (h : wX13_saySquare 0 0 [.ref 55, .int x3] M (fun r M1 => kX13_spell_119 mc ms X Q 0 0 [some (.ref 55), some (.int x1), none, some (.int x3), none, none] (r.toList ++ []) M1)) : aX13_spell_114 mc ms X Q 0 0 [some (.ref 55), some (.int x1), none, some (.int x3), none, none] [] M := ⟨Nat.le_of_ble_eq_true rfl, rfl, (fxs_55 hW), 0, 0, Nat.zero_le _, Nat.zero_le _, h⟩
theorem vX13_spell_147 {mc ms : Nat} {X : Nat → zV} {Q : zQt} {M : zM}  (hW : zFix M)  (h : Q none M) : aX13_spell_147 mc ms X Q 0 0 [none, none, none, none, none, none] [] M := h
theorem vkX13_spell_9 {mc ms : Nat} {X : Nat → zV} {Q : zQt} {M : zM} {x1 : Int32} {s0 : Int32} (hW : zFix M)  (h : wX13_toOf 0 0 [.int x1] M (fun r M1 => kX13_spell_14 mc ms X Q 0 0 [some (.ref 55), some (.int x1), some (.int s0), none, none, none] (r.toList ++ []) M1)) : kX13_spell_9 mc ms X Q 0 0 [some (.ref 55), some (.int x1), none, none, none, none] [.int s0] M := ⟨Nat.le_of_ble_eq_true rfl, rfl, 0, 0, Nat.zero_le _, Nat.zero_le _, h⟩
theorem vkX13_spell_14 {mc ms : Nat} {X : Nat → zV} {Q : zQt} {M : zM} {x1 : Int32} {x2 : Int32} {s0 : Int32} (hW : zFix M)  (h : wX13_castling 0 0 [.ref 55, .int x1] M (fun r M1 => kX13_spell_20 mc ms X Q 0 0 [some (.ref 55), some (.int x1), some (.int x2), some (.int s0), none, none] (r.toList ++ []) M1)) : kX13_spell_14 mc ms X Q 0 0 [some (.ref 55), some (.int x1), some (.int x2), none, none, none] [.int s0] M := ⟨Nat.le_of_ble_eq_true rfl, rfl, (fxs_55 hW), 0, 0, Nat.zero_le _, Nat.zero_le _, h⟩
theorem vkX13_spell_20 {mc ms : Nat} {X : Nat → zV} {Q : zQt} {M : zM} {x1 : Int32} {x2 : Int32} {x3 : Int32} {s0 : Int32} (hW : zFix M)  (h : (s0 ≤ 0 → vp_in x2 414 ∧ wX13_kindOf 0 0 [.int ((M : zM).1 65 (x2 : Int32).toNatClampNeg)] M (fun r M1 => kX13_spell_82 mc ms X Q 0 0 [some (.ref 55), some (.int x1), some (.int x2), some (.int x3), some (.int s0), none] (r.toList ++ []) M1)) ∧ (¬ s0 ≤ 0 → X 30 0 0 [.ref 55, .int s0, .int 0] [] M)) : kX13_spell_20 mc ms X Q 0 0 [some (.ref 55), some (.int x1), some (.int x2), some (.int x3), none, none] [.int s0] M := ⟨fun c24 => ⟨(fxs_55 hW), 65, (fxr_55_16 hW), ⟨414, (fxs_65 hW), (h.1 c24).1, ⟨Nat.le_of_ble_eq_true rfl, rfl, 0, 0, Nat.zero_le _, Nat.zero_le _, (h.1 c24).2⟩⟩⟩, fun c24 => (h.2 c24)⟩
theorem vkX13_spell_64 {mc ms : Nat} {X : Nat → zV} {Q : zQt} {M : zM} {x4 : Int32} {x5 : Int32} (hW : zFix M)  (h : X 30 0 0 [.ref 55, .int x4, .int (x5 + 1)] [] M) : kX13_spell_64 mc ms X Q 0 0 [some (.ref 55), none, none, none, some (.int x4), some (.int x5)] [] M := h
theorem vkX13_spell_82 {mc ms : Nat} {X : Nat → zV} {Q : zQt} {M : zM} {x1 : Int32} {x2 : Int32} {x3 : Int32} {x4 : Int32} {s0 : Int32} (hW : zFix M)  (h : (s0 = (1 : Int32) → ((x2 - x2 / (8 : Int32) * (8 : Int32)) = (x3 - x3 / (8 : Int32) * (8 : Int32)) → X 114 0 0 [.ref 55, .int x1, .int x3] [] M) ∧ (¬ (x2 - x2 / (8 : Int32) * (8 : Int32)) = (x3 - x3 / (8 : Int32) * (8 : Int32)) → wX13_say 0 0 [.ref 55, .int ((97 : Int32) + (x2 - x2 / (8 : Int32) * (8 : Int32)))] M (fun r M1 => kX13_spell_108 mc ms X Q 0 0 [some (.ref 55), some (.int x1), some (.int x2), some (.int x3), some (.int x4), none] (r.toList ++ []) M1))) ∧ (¬ s0 = (1 : Int32) → wX13_sayMan 0 0 [.ref 55, .int x1] M (fun r M1 => kX13_spell_147 mc ms X Q 0 0 [some (.ref 55), some (.int x1), some (.int x2), some (.int x3), some (.int x4), none] (r.toList ++ []) M1))) : kX13_spell_82 mc ms X Q 0 0 [some (.ref 55), some (.int x1), some (.int x2), some (.int x3), some (.int x4), none] [.int s0] M := ⟨fun c83 => ⟨by decide, ⟨by decide, ⟨fun c94 => ((h.1 c83).1 c94), fun c94 => ⟨by decide, ⟨Nat.le_of_ble_eq_true rfl, rfl, (fxs_55 hW), 0, 0, Nat.zero_le _, Nat.zero_le _, ((h.1 c83).2 c94)⟩⟩⟩⟩⟩, fun c83 => ⟨Nat.le_of_ble_eq_true rfl, rfl, (fxs_55 hW), 0, 0, Nat.zero_le _, Nat.zero_le _, (h.2 c83)⟩⟩
theorem vkX13_spell_108 {mc ms : Nat} {X : Nat → zV} {Q : zQt} {M : zM} {x1 : Int32} {x2 : Int32} {x3 : Int32} {x4 : Int32} (hW : zFix M)  (h : wX13_say 0 0 [.ref 55, .int 120] M (fun r M1 => kX13_spell_114 mc ms X Q 0 0 [some (.ref 55), some (.int x1), some (.int x2), some (.int x3), some (.int x4), none] (r.toList ++ []) M1)) : kX13_spell_108 mc ms X Q 0 0 [some (.ref 55), some (.int x1), some (.int x2), some (.int x3), some (.int x4), none] [] M := ⟨Nat.le_of_ble_eq_true rfl, rfl, (fxs_55 hW), 0, 0, Nat.zero_le _, Nat.zero_le _, h⟩
theorem vkX13_spell_114 {mc ms : Nat} {X : Nat → zV} {Q : zQt} {M : zM} {x1 : Int32} {x2 : Int32} {x3 : Int32} {x4 : Int32} (hW : zFix M)  (h : X 114 0 0 [.ref 55, .int x1, .int x3] [] M) : kX13_spell_114 mc ms X Q 0 0 [some (.ref 55), some (.int x1), some (.int x2), some (.int x3), some (.int x4), none] [] M := h
theorem vkX13_spell_119 {mc ms : Nat} {X : Nat → zV} {Q : zQt} {M : zM} {x1 : Int32} {x3 : Int32} (hW : zFix M)  (h : ((x1 / (4096 : Int32)) ≤ 0 → X 147 0 0 [] [] M) ∧ (¬ (x1 / (4096 : Int32)) ≤ 0 → wX13_letter 0 0 [.int (x1 / (4096 : Int32))] M (fun r M1 => kX13_spell_136 mc ms X Q 0 0 [some (.ref 55), some (.int x1), none, some (.int x3), none, none] (r.toList ++ [.ref 55]) M1))) : kX13_spell_119 mc ms X Q 0 0 [some (.ref 55), some (.int x1), none, some (.int x3), none, none] [] M := ⟨by decide, ⟨fun c124 => (h.1 c124), fun c124 => ⟨by decide, ⟨Nat.le_of_ble_eq_true rfl, rfl, 0, 0, Nat.zero_le _, Nat.zero_le _, (h.2 c124)⟩⟩⟩⟩
theorem vkX13_spell_136 {mc ms : Nat} {X : Nat → zV} {Q : zQt} {M : zM} {x1 : Int32} {x3 : Int32} {s0 : Int32} (hW : zFix M)  (h : wX13_say 0 0 [.ref 55, .int s0] M (fun r M1 => kX13_spell_139 mc ms X Q 0 0 [some (.ref 55), some (.int x1), none, some (.int x3), none, none] (r.toList ++ []) M1)) : kX13_spell_136 mc ms X Q 0 0 [some (.ref 55), some (.int x1), none, some (.int x3), none, none] [.int s0, .ref 55] M := ⟨Nat.le_of_ble_eq_true rfl, rfl, (fxs_55 hW), 0, 0, Nat.zero_le _, Nat.zero_le _, h⟩
theorem vkX13_spell_139 {mc ms : Nat} {X : Nat → zV} {Q : zQt} {M : zM} {x1 : Int32} {x3 : Int32} (hW : zFix M)  (h : X 147 0 0 [] [] M) : kX13_spell_139 mc ms X Q 0 0 [some (.ref 55), some (.int x1), none, some (.int x3), none, none] [] M := h
theorem vkX13_spell_147 {mc ms : Nat} {X : Nat → zV} {Q : zQt} {M : zM} {x1 : Int32} {x2 : Int32} {x3 : Int32} {x4 : Int32} (hW : zFix M)  (h : X 147 0 0 [] [] M) : kX13_spell_147 mc ms X Q 0 0 [some (.ref 55), some (.int x1), some (.int x2), some (.int x3), some (.int x4), none] [] M := h
theorem dX13_saySign_0 : decode cX13_saySign 0 = .ok (.aload_n 0, 1) := by decide +kernel
theorem dX13_saySign_1 : decode cX13_saySign 1 = .ok (.iconst 0, 1) := by decide +kernel
theorem dX13_saySign_2 : decode cX13_saySign 2 = .ok (.iload_n 1, 1) := by decide +kernel
theorem dX13_saySign_3 : decode cX13_saySign 3 = .ok (.invokevirtual 112, 3) := by decide +kernel
theorem dX13_saySign_6 : decode cX13_saySign 6 = .ok (.aload_n 0, 1) := by decide +kernel
theorem dX13_saySign_7 : decode cX13_saySign 7 = .ok (.bipush 69, 2) := by decide +kernel
theorem dX13_saySign_9 : decode cX13_saySign 9 = .ok (.aload_n 0, 1) := by decide +kernel
theorem dX13_saySign_10 : decode cX13_saySign 10 = .ok (.getfield 43, 3) := by decide +kernel
theorem dX13_saySign_13 : decode cX13_saySign 13 = .ok (.sipush 133, 3) := by decide +kernel
theorem dX13_saySign_16 : decode cX13_saySign 16 = .ok (.iaload, 1) := by decide +kernel
theorem dX13_saySign_17 : decode cX13_saySign 17 = .ok (.invokevirtual 116, 3) := by decide +kernel
theorem dX13_saySign_20 : decode cX13_saySign 20 = .ok (.ifCond .eq 22, 3) := by decide +kernel
theorem dX13_saySign_23 : decode cX13_saySign 23 = .ok (.aload_n 0, 1) := by decide +kernel
theorem dX13_saySign_24 : decode cX13_saySign 24 = .ok (.aload_n 0, 1) := by decide +kernel
theorem dX13_saySign_25 : decode cX13_saySign 25 = .ok (.iconst 1, 1) := by decide +kernel
theorem dX13_saySign_26 : decode cX13_saySign 26 = .ok (.invokevirtual 252, 3) := by decide +kernel
theorem dX13_saySign_29 : decode cX13_saySign 29 = .ok (.ifCond .eq 8, 3) := by decide +kernel
theorem dX13_saySign_32 : decode cX13_saySign 32 = .ok (.bipush 43, 2) := by decide +kernel
theorem dX13_saySign_34 : decode cX13_saySign 34 = .ok (.goto 5, 3) := by decide +kernel
theorem dX13_saySign_37 : decode cX13_saySign 37 = .ok (.bipush 35, 2) := by decide +kernel
theorem dX13_saySign_39 : decode cX13_saySign 39 = .ok (.invokevirtual 237, 3) := by decide +kernel
theorem dX13_saySign_42 : decode cX13_saySign 42 = .ok (.return_, 1) := by decide +kernel
def kX13_saySign_29 (mc ms : Nat) (X : Nat → zV) (Q : zQt) : zT :=
  zif (fun x => x = 0) (zc (.int 35) <| zj X 39 []) <| zc (.int 43) <| zj X 39 []
def kX13_saySign_20 (mc ms : Nat) (X : Nat → zV) (Q : zQt) : zT :=
  zif (fun x => x = 0) (zj X 42 []) <| zla 0 <| zla 0 <| zc (.int 1) <| zcv mc ms 13 1 wX13_hasMove <| kX13_saySign_29 mc ms X Q
def kX13_saySign_6 (mc ms : Nat) (X : Nat → zV) (Q : zQt) : zT :=
  zla 0 <| zc (.int 69) <| zla 0 <| zgR 13 16 <| zc (.int 133) <| zal 1 <| zcv mc ms 13 2 wX13_isChecked <| kX13_saySign_20 mc ms X Q
def kX13_saySign_42 (mc ms : Nat) (X : Nat → zV) (Q : zQt) : zT :=
  zj X 42 []
def aX13_saySign_0 (mc ms : Nat) (X : Nat → zV) (Q : zQt) : zT :=
  zla 0 <| zc (.int 0) <| zli 1 <| zcv mc ms 13 2 wX13_make <| kX13_saySign_6 mc ms X Q
def aX13_saySign_39 (mc ms : Nat) (X : Nat → zV) (Q : zQt) : zT :=
  zcv mc ms 13 1 wX13_say <| kX13_saySign_42 mc ms X Q
def aX13_saySign_42 (mc ms : Nat) (X : Nat → zV) (Q : zQt) : zT :=
  zrv Q
def lvX13_saySign : Nat → List Nat := fun L => match L with
  | 0 => [0, 1]
  | 39 => []
  | 42 => []
  | _ => []
def wX13_saySign : zSp := fun mc ms av M Q => ((zlay av).length ≤ 2 ∧ zpick (zlay av) [0, 1] = some av) ∧ ∀ X : Nat → zV, zin 2 [0, 1] (aX13_saySign_0 mc ms X Q) X 0 → zin 2 [] (aX13_saySign_39 mc ms X Q) X 39 → zin 2 [] (aX13_saySign_42 mc ms X Q) X 42 → X 0 0 0 av [] M
set_option maxRecDepth 100000 in
set_option maxHeartbeats 4000000 in
theorem sX13_saySign (l : Launch) (G : zG) : zSnd l G yX13_saySign cX13_saySign 2 none 7 181 wX13_saySign := by
  refine zmk [0, 1] (by decide) (fun mc ms av M Q h => h.1) ?_
  intro p e R s m args below meth c mc ms av M Q hC hRf hRl hr hnm h lv hlv
  obtain ⟨X, hXe⟩ : ∃ X : Nat → zV, X = fun L u v vs st M => ∀ lv, zpick lv (lvX13_saySign L) = some vs → zAt p l e R s m args below meth c (MQ below (zQ G Q) args s mc ms (zA G)) G 2 L u v lv st M := ⟨_, rfl⟩
  have hJ : ∀ L, zOk p l e R s m args below meth c (MQ below (zQ G Q) args s mc ms (zA G)) G 2 L (zj X L (lvX13_saySign L)) := fun L => S_jump (fun u v lv vs st M hp hx => by rw [hXe] at hx; exact hx lv hp)
  have hB0 : zin 2 [0, 1] (aX13_saySign_0 mc ms X Q) X 0 := by
    intro u v vs st M hb
    rw [hXe]
    refine fun lv hp => S_block (L := 0) (live := [0, 1]) ?_ u v lv vs st M hp hb
    unfold aX13_saySign_0
    refine S_aload_n (pc := 0) hC dX13_saySign_0 rfl ?_
    refine S_iconst (pc := 1) hC dX13_saySign_1 (by decide) ?_
    refine S_iload_n (pc := 2) hC dX13_saySign_2 rfl ?_
    refine S_callV (pc := 3) hC (sX13_make l G) rfl wd_1471 wd_1473 ws_79 wd_12 wd_1474 (by decide +kernel) ⟨by rw [hRf]; decide, by rw [hRl]; decide⟩ dX13_saySign_3 ?_
    unfold kX13_saySign_6
    refine S_aload_n (pc := 6) hC dX13_saySign_6 rfl ?_
    refine S_bipush (pc := 7) hC dX13_saySign_7 (by decide) ?_
    refine S_aload_n (pc := 9) hC dX13_saySign_9 rfl ?_
    refine S_getR (pc := 10) hC cfX13 (by decide) (Or.inr ⟨_, rfl⟩) wd_1271 dX13_saySign_10 ?_
    refine S_sipush (pc := 13) hC dX13_saySign_13 (by decide) ?_
    refine S_iaload (pc := 16) hC dX13_saySign_16 ?_
    refine S_callV (pc := 17) hC (sX13_isChecked l G) rfl wd_1417 wd_1419 ws_67 wd_12 wd_1420 (by decide +kernel) ⟨by rw [hRf]; decide, by rw [hRl]; decide⟩ dX13_saySign_17 ?_
    unfold kX13_saySign_20
    refine S_if_eq (pc := 20) (tgt := 42) hC dX13_saySign_20 (by decide) ?_ ?_
    · exact hJ 42
    · refine S_aload_n (pc := 23) hC dX13_saySign_23 rfl ?_
      refine S_aload_n (pc := 24) hC dX13_saySign_24 rfl ?_
      refine S_iconst (pc := 25) hC dX13_saySign_25 (by decide) ?_
      refine S_callV (pc := 26) hC (sX13_hasMove l G) rfl wd_1577 wd_1579 ws_101 wd_12 wd_1580 (by decide +kernel) ⟨by rw [hRf]; decide, by rw [hRl]; decide⟩ dX13_saySign_26 ?_
      unfold kX13_saySign_29
      refine S_if_eq (pc := 29) (tgt := 37) hC dX13_saySign_29 (by decide) ?_ ?_
      · refine S_bipush (pc := 37) hC dX13_saySign_37 (by decide) ?_
        exact hJ 39
      · refine S_bipush (pc := 32) hC dX13_saySign_32 (by decide) ?_
        refine S_goto (pc := 34) (tgt := 39) hC dX13_saySign_34 (by decide) ?_
        exact hJ 39
  have hB39 : zin 2 [] (aX13_saySign_39 mc ms X Q) X 39 := by
    intro u v vs st M hb
    rw [hXe]
    refine fun lv hp => S_block (L := 39) (live := []) ?_ u v lv vs st M hp hb
    unfold aX13_saySign_39
    refine S_callV (pc := 39) hC (sX13_say l G) rfl wd_1553 wd_1555 ws_95 wd_12 wd_1556 (by decide +kernel) ⟨by rw [hRf]; decide, by rw [hRl]; decide⟩ dX13_saySign_39 ?_
    unfold kX13_saySign_42
    exact hJ 42
  have hB42 : zin 2 [] (aX13_saySign_42 mc ms X Q) X 42 := by
    intro u v vs st M hb
    rw [hXe]
    refine fun lv hp => S_block (L := 42) (live := []) ?_ u v lv vs st M hp hb
    unfold aX13_saySign_42
    exact S_vreturn (pc := 42) hC hr dX13_saySign_42
  have := h.2 X hB0 hB39 hB42
  rw [hXe] at this
  exact this lv hlv
theorem vX13_saySign_0 {mc ms : Nat} {X : Nat → zV} {Q : zQt} {M : zM} {x1 : Int32} (hW : zFix M)  (h : wX13_make 0 0 [.ref 55, .int 0, .int x1] M (fun r M1 => kX13_saySign_6 mc ms X Q 0 0 [some (.ref 55), some (.int x1)] (r.toList ++ []) M1)) : aX13_saySign_0 mc ms X Q 0 0 [some (.ref 55), some (.int x1)] [] M := ⟨Nat.le_of_ble_eq_true rfl, rfl, (fxs_55 hW), 0, 0, Nat.zero_le _, Nat.zero_le _, h⟩
theorem vX13_saySign_39 {mc ms : Nat} {X : Nat → zV} {Q : zQt} {M : zM} {s0 : Int32} (hW : zFix M)  (h : wX13_say 0 0 [.ref 55, .int s0] M (fun r M1 => kX13_saySign_42 mc ms X Q 0 0 [none, none] (r.toList ++ []) M1)) : aX13_saySign_39 mc ms X Q 0 0 [none, none] [.int s0, .ref 55] M := ⟨Nat.le_of_ble_eq_true rfl, rfl, (fxs_55 hW), 0, 0, Nat.zero_le _, Nat.zero_le _, h⟩
theorem vX13_saySign_42 {mc ms : Nat} {X : Nat → zV} {Q : zQt} {M : zM}  (hW : zFix M)  (h : Q none M) : aX13_saySign_42 mc ms X Q 0 0 [none, none] [] M := h
theorem vkX13_saySign_6 {mc ms : Nat} {X : Nat → zV} {Q : zQt} {M : zM} {x1 : Int32} (hW : zFix M)  (h : wX13_isChecked 0 0 [.ref 55, .int 69, .int ((M : zM).1 65 (133 : Int32).toNatClampNeg)] M (fun r M1 => kX13_saySign_20 mc ms X Q 0 0 [some (.ref 55), some (.int x1)] (r.toList ++ []) M1)) : kX13_saySign_6 mc ms X Q 0 0 [some (.ref 55), some (.int x1)] [] M := ⟨(fxs_55 hW), 65, (fxr_55_16 hW), ⟨414, (fxs_65 hW), by unfold vp_in; decide, ⟨Nat.le_of_ble_eq_true rfl, rfl, (fxs_55 hW), 0, 0, Nat.zero_le _, Nat.zero_le _, h⟩⟩⟩
theorem vkX13_saySign_20 {mc ms : Nat} {X : Nat → zV} {Q : zQt} {M : zM} {x1 : Int32} {s0 : Int32} (hW : zFix M)  (h : (s0 = 0 → X 42 0 0 [] [] M) ∧ (¬ s0 = 0 → wX13_hasMove 0 0 [.ref 55, .int 1] M (fun r M1 => kX13_saySign_29 mc ms X Q 0 0 [some (.ref 55), some (.int x1)] (r.toList ++ [.ref 55]) M1))) : kX13_saySign_20 mc ms X Q 0 0 [some (.ref 55), some (.int x1)] [.int s0] M := ⟨fun c20 => (h.1 c20), fun c20 => ⟨Nat.le_of_ble_eq_true rfl, rfl, (fxs_55 hW), 0, 0, Nat.zero_le _, Nat.zero_le _, (h.2 c20)⟩⟩
theorem vkX13_saySign_29 {mc ms : Nat} {X : Nat → zV} {Q : zQt} {M : zM} {x1 : Int32} {s0 : Int32} (hW : zFix M)  (h : (s0 = 0 → X 39 0 0 [] [.int 35, .ref 55] M) ∧ (¬ s0 = 0 → X 39 0 0 [] [.int 43, .ref 55] M)) : kX13_saySign_29 mc ms X Q 0 0 [some (.ref 55), some (.int x1)] [.int s0, .ref 55] M := ⟨fun c29 => (h.1 c29), fun c29 => (h.2 c29)⟩
theorem vkX13_saySign_42 {mc ms : Nat} {X : Nat → zV} {Q : zQt} {M : zM}  (hW : zFix M)  (h : X 42 0 0 [] [] M) : kX13_saySign_42 mc ms X Q 0 0 [none, none] [] M := h
theorem dX13_isText_0 : decode cX13_isText 0 = .ok (.aload_n 0, 1) := by decide +kernel
theorem dX13_isText_1 : decode cX13_isText 1 = .ok (.getfield 234, 3) := by decide +kernel
theorem dX13_isText_4 : decode cX13_isText 4 = .ok (.iload_n 2, 1) := by decide +kernel
theorem dX13_isText_5 : decode cX13_isText 5 = .ok (.if_icmp .ne 7, 3) := by decide +kernel
theorem dX13_isText_8 : decode cX13_isText 8 = .ok (.iconst 1, 1) := by decide +kernel
theorem dX13_isText_9 : decode cX13_isText 9 = .ok (.goto 4, 3) := by decide +kernel
theorem dX13_isText_12 : decode cX13_isText 12 = .ok (.iconst 0, 1) := by decide +kernel
theorem dX13_isText_13 : decode cX13_isText 13 = .ok (.istore_n 3, 1) := by decide +kernel
theorem dX13_isText_14 : decode cX13_isText 14 = .ok (.iconst 0, 1) := by decide +kernel
theorem dX13_isText_15 : decode cX13_isText 15 = .ok (.istore 4, 2) := by decide +kernel
theorem dX13_isText_17 : decode cX13_isText 17 = .ok (.iload 4, 2) := by decide +kernel
theorem dX13_isText_19 : decode cX13_isText 19 = .ok (.iload_n 2, 1) := by decide +kernel
theorem dX13_isText_20 : decode cX13_isText 20 = .ok (.if_icmp .ge 42, 3) := by decide +kernel
theorem dX13_isText_23 : decode cX13_isText 23 = .ok (.iload_n 3, 1) := by decide +kernel
theorem dX13_isText_24 : decode cX13_isText 24 = .ok (.ifCond .eq 38, 3) := by decide +kernel
theorem dX13_isText_27 : decode cX13_isText 27 = .ok (.aload_n 0, 1) := by decide +kernel
theorem dX13_isText_28 : decode cX13_isText 28 = .ok (.getfield 58, 3) := by decide +kernel
theorem dX13_isText_31 : decode cX13_isText 31 = .ok (.iload 4, 2) := by decide +kernel
theorem dX13_isText_33 : decode cX13_isText 33 = .ok (.iaload, 1) := by decide +kernel
theorem dX13_isText_34 : decode cX13_isText 34 = .ok (.aload_n 0, 1) := by decide +kernel
theorem dX13_isText_35 : decode cX13_isText 35 = .ok (.getfield 7, 3) := by decide +kernel
theorem dX13_isText_38 : decode cX13_isText 38 = .ok (.iload_n 1, 1) := by decide +kernel
theorem dX13_isText_39 : decode cX13_isText 39 = .ok (.iload 4, 2) := by decide +kernel
theorem dX13_isText_41 : decode cX13_isText 41 = .ok (.iadd, 1) := by decide +kernel
theorem dX13_isText_42 : decode cX13_isText 42 = .ok (.baload, 1) := by decide +kernel
theorem dX13_isText_43 : decode cX13_isText 43 = .ok (.sipush 255, 3) := by decide +kernel
theorem dX13_isText_46 : decode cX13_isText 46 = .ok (.iand, 1) := by decide +kernel
theorem dX13_isText_47 : decode cX13_isText 47 = .ok (.if_icmp .ne 7, 3) := by decide +kernel
theorem dX13_isText_50 : decode cX13_isText 50 = .ok (.iconst 1, 1) := by decide +kernel
theorem dX13_isText_51 : decode cX13_isText 51 = .ok (.goto 4, 3) := by decide +kernel
theorem dX13_isText_54 : decode cX13_isText 54 = .ok (.iconst 0, 1) := by decide +kernel
theorem dX13_isText_55 : decode cX13_isText 55 = .ok (.istore_n 3, 1) := by decide +kernel
theorem dX13_isText_56 : decode cX13_isText 56 = .ok (.iinc 4 1, 3) := by decide +kernel
theorem dX13_isText_59 : decode cX13_isText 59 = .ok (.goto (-42), 3) := by decide +kernel
theorem dX13_isText_62 : decode cX13_isText 62 = .ok (.iload_n 3, 1) := by decide +kernel
theorem dX13_isText_63 : decode cX13_isText 63 = .ok (.ireturn, 1) := by decide +kernel
def aX13_isText_0 (mc ms : Nat) (X : Nat → zV) (Q : zQt) : zT :=
  zla 0 <| zgi 13 24 <| zli 2 <| zic (fun x y => x = y) (zc (.int 1) <| zj X 13 [0, 1, 2]) <| zc (.int 0) <| zj X 13 [0, 1, 2]
def aX13_isText_13 (mc ms : Nat) (X : Nat → zV) (Q : zQt) : zT :=
  zsi 3 <| zc (.int 0) <| zsi 4 <| zj X 17 [0, 1, 2, 3, 4]
def aX13_isText_17 (mc ms : Nat) (X : Nat → zV) (Q : zQt) : zT :=
  zli 4 <| zli 2 <| zic (fun x y => y ≤ x) (zj X 62 [3]) <| zli 3 <| zif (fun x => x = 0) (zj X 62 [3]) <| zla 0 <| zgR 13 23 <| zli 4 <| zal 1 <| zla 0 <| zgR 13 1 <| zli 1 <| zli 4 <| zii (fun x y => x + y) <| zal 3 <| zc (.int 255) <| zii (fun x y => x &&& y) <| zic (fun x y => x = y) (zc (.int 1) <| zj X 55 [0, 1, 2, 4]) <| zc (.int 0) <| zj X 55 [0, 1, 2, 4]
def aX13_isText_55 (mc ms : Nat) (X : Nat → zV) (Q : zQt) : zT :=
  zsi 3 <| zinc 4 1 <| zj X 17 [0, 1, 2, 3, 4]
def aX13_isText_62 (mc ms : Nat) (X : Nat → zV) (Q : zQt) : zT :=
  zli 3 <| zrz .boolean Q
def lvX13_isText : Nat → List Nat := fun L => match L with
  | 0 => [0, 1, 2]
  | 13 => [0, 1, 2]
  | 17 => [0, 1, 2, 3, 4]
  | 55 => [0, 1, 2, 4]
  | 62 => [3]
  | _ => []
def wX13_isText : zSp := fun mc ms av M Q => ((zlay av).length ≤ 5 ∧ zpick (zlay av) [0, 1, 2] = some av) ∧ ∀ X : Nat → zV, zin 5 [0, 1, 2] (aX13_isText_0 mc ms X Q) X 0 → zin 5 [0, 1, 2] (aX13_isText_13 mc ms X Q) X 13 → zin 5 [0, 1, 2, 3, 4] (aX13_isText_17 mc ms X Q) X 17 → zin 5 [0, 1, 2, 4] (aX13_isText_55 mc ms X Q) X 55 → zin 5 [3] (aX13_isText_62 mc ms X Q) X 62 → X 0 0 0 av [] M
set_option maxRecDepth 100000 in
set_option maxHeartbeats 4000000 in
theorem sX13_isText (l : Launch) (G : zG) : zSnd l G yX13_isText cX13_isText 5 (some .boolean) 0 0 wX13_isText := by
  refine zmk [0, 1, 2] (by decide) (fun mc ms av M Q h => h.1) ?_
  intro p e R s m args below meth c mc ms av M Q hC hRf hRl hr hnm h lv hlv
  obtain ⟨X, hXe⟩ : ∃ X : Nat → zV, X = fun L u v vs st M => ∀ lv, zpick lv (lvX13_isText L) = some vs → zAt p l e R s m args below meth c (MQ below (zQ G Q) args s mc ms (zA G)) G 5 L u v lv st M := ⟨_, rfl⟩
  have hJ : ∀ L, zOk p l e R s m args below meth c (MQ below (zQ G Q) args s mc ms (zA G)) G 5 L (zj X L (lvX13_isText L)) := fun L => S_jump (fun u v lv vs st M hp hx => by rw [hXe] at hx; exact hx lv hp)
  have hB0 : zin 5 [0, 1, 2] (aX13_isText_0 mc ms X Q) X 0 := by
    intro u v vs st M hb
    rw [hXe]
    refine fun lv hp => S_block (L := 0) (live := [0, 1, 2]) ?_ u v lv vs st M hp hb
    unfold aX13_isText_0
    refine S_aload_n (pc := 0) hC dX13_isText_0 rfl ?_
    refine S_geti (pc := 1) hC cfX13 (by decide) (Or.inl rfl) wd_1279 dX13_isText_1 ?_
    refine S_iload_n (pc := 4) hC dX13_isText_4 rfl ?_
    refine S_icmp_ne (pc := 5) (tgt := 12) hC dX13_isText_5 (by decide) ?_ ?_
    · refine S_iconst (pc := 12) hC dX13_isText_12 (by decide) ?_
      exact hJ 13
    · refine S_iconst (pc := 8) hC dX13_isText_8 (by decide) ?_
      refine S_goto (pc := 9) (tgt := 13) hC dX13_isText_9 (by decide) ?_
      exact hJ 13
  have hB13 : zin 5 [0, 1, 2] (aX13_isText_13 mc ms X Q) X 13 := by
    intro u v vs st M hb
    rw [hXe]
    refine fun lv hp => S_block (L := 13) (live := [0, 1, 2]) ?_ u v lv vs st M hp hb
    unfold aX13_isText_13
    refine S_istore_n (pc := 13) hC dX13_isText_13 rfl (by decide) ?_
    refine S_iconst (pc := 14) hC dX13_isText_14 (by decide) ?_
    refine S_istore (pc := 15) hC dX13_isText_15 (by decide) ?_
    exact hJ 17
  have hB17 : zin 5 [0, 1, 2, 3, 4] (aX13_isText_17 mc ms X Q) X 17 := by
    intro u v vs st M hb
    rw [hXe]
    refine fun lv hp => S_block (L := 17) (live := [0, 1, 2, 3, 4]) ?_ u v lv vs st M hp hb
    unfold aX13_isText_17
    refine S_iload (pc := 17) hC dX13_isText_17 ?_
    refine S_iload_n (pc := 19) hC dX13_isText_19 rfl ?_
    refine S_icmp_ge (pc := 20) (tgt := 62) hC dX13_isText_20 (by decide) ?_ ?_
    · exact hJ 62
    · refine S_iload_n (pc := 23) hC dX13_isText_23 rfl ?_
      refine S_if_eq (pc := 24) (tgt := 62) hC dX13_isText_24 (by decide) ?_ ?_
      · exact hJ 62
      · refine S_aload_n (pc := 27) hC dX13_isText_27 rfl ?_
        refine S_getR (pc := 28) hC cfX13 (by decide) (Or.inr ⟨_, rfl⟩) wd_1278 dX13_isText_28 ?_
        refine S_iload (pc := 31) hC dX13_isText_31 ?_
        refine S_iaload (pc := 33) hC dX13_isText_33 ?_
        refine S_aload_n (pc := 34) hC dX13_isText_34 rfl ?_
        refine S_getR (pc := 35) hC cfX13 (by decide) (Or.inr ⟨_, rfl⟩) wd_1256 dX13_isText_35 ?_
        refine S_iload_n (pc := 38) hC dX13_isText_38 rfl ?_
        refine S_iload (pc := 39) hC dX13_isText_39 ?_
        refine S_iadd (pc := 41) hC dX13_isText_41 ?_
        refine S_baload (pc := 42) hC dX13_isText_42 ?_
        refine S_sipush (pc := 43) hC dX13_isText_43 (by decide) ?_
        refine S_iand (pc := 46) hC dX13_isText_46 ?_
        refine S_icmp_ne (pc := 47) (tgt := 54) hC dX13_isText_47 (by decide) ?_ ?_
        · refine S_iconst (pc := 54) hC dX13_isText_54 (by decide) ?_
          exact hJ 55
        · refine S_iconst (pc := 50) hC dX13_isText_50 (by decide) ?_
          refine S_goto (pc := 51) (tgt := 55) hC dX13_isText_51 (by decide) ?_
          exact hJ 55
  have hB55 : zin 5 [0, 1, 2, 4] (aX13_isText_55 mc ms X Q) X 55 := by
    intro u v vs st M hb
    rw [hXe]
    refine fun lv hp => S_block (L := 55) (live := [0, 1, 2, 4]) ?_ u v lv vs st M hp hb
    unfold aX13_isText_55
    refine S_istore_n (pc := 55) hC dX13_isText_55 rfl (by decide) ?_
    refine S_iinc (pc := 56) hC dX13_isText_56 (by decide) (by decide) ?_
    refine S_goto (pc := 59) (tgt := 17) hC dX13_isText_59 (by decide) ?_
    exact hJ 17
  have hB62 : zin 5 [3] (aX13_isText_62 mc ms X Q) X 62 := by
    intro u v vs st M hb
    rw [hXe]
    refine fun lv hp => S_block (L := 62) (live := [3]) ?_ u v lv vs st M hp hb
    unfold aX13_isText_62
    refine S_iload_n (pc := 62) hC dX13_isText_62 rfl ?_
    exact S_zreturn (pc := 63) hC hr dX13_isText_63
  have := h.2 X hB0 hB13 hB17 hB55 hB62
  rw [hXe] at this
  exact this lv hlv
theorem vX13_isText_0 {mc ms : Nat} {X : Nat → zV} {Q : zQt} {M : zM} {x1 : Int32} {x2 : Int32} (hW : zFix M)  (h : ((M.1 55 24) = x2 → X 13 0 0 [.ref 55, .int x1, .int x2] [.int 1] M) ∧ (¬ (M.1 55 24) = x2 → X 13 0 0 [.ref 55, .int x1, .int x2] [.int 0] M)) : aX13_isText_0 mc ms X Q 0 0 [some (.ref 55), some (.int x1), some (.int x2), none, none] [] M := ⟨(fxs_55 hW), ⟨fun c5 => (h.1 c5), fun c5 => (h.2 c5)⟩⟩
theorem vX13_isText_13 {mc ms : Nat} {X : Nat → zV} {Q : zQt} {M : zM} {x1 : Int32} {x2 : Int32} {s0 : Int32} (hW : zFix M)  (h : X 17 0 0 [.ref 55, .int x1, .int x2, .int s0, .int 0] [] M) : aX13_isText_13 mc ms X Q 0 0 [some (.ref 55), some (.int x1), some (.int x2), none, none] [.int s0] M := h
theorem vX13_isText_17 {mc ms : Nat} {X : Nat → zV} {Q : zQt} {M : zM} {x1 : Int32} {x2 : Int32} {x3 : Int32} {x4 : Int32} (hW : zFix M)  (h : (x2 ≤ x4 → X 62 0 0 [.int x3] [] M) ∧ (¬ x2 ≤ x4 → (x3 = 0 → X 62 0 0 [.int x3] [] M) ∧ (¬ x3 = 0 → vp_in x4 100 ∧ vp_in ((x1 + x4)) 8200 ∧ (((M : zM).1 70 (x4 : Int32).toNatClampNeg) = (((M : zM).1 56 ((x1 + x4) : Int32).toNatClampNeg) &&& (255 : Int32)) → X 55 0 0 [.ref 55, .int x1, .int x2, .int x4] [.int 1] M) ∧ (¬ ((M : zM).1 70 (x4 : Int32).toNatClampNeg) = (((M : zM).1 56 ((x1 + x4) : Int32).toNatClampNeg) &&& (255 : Int32)) → X 55 0 0 [.ref 55, .int x1, .int x2, .int x4] [.int 0] M)))) : aX13_isText_17 mc ms X Q 0 0 [some (.ref 55), some (.int x1), some (.int x2), some (.int x3), some (.int x4)] [] M := ⟨fun c20 => (h.1 c20), fun c20 => ⟨fun c24 => ((h.2 c20).1 c24), fun c24 => ⟨(fxs_55 hW), 70, (fxr_55_23 hW), ⟨100, (fxs_70 hW), ((h.2 c20).2 c24).1, ⟨(fxs_55 hW), 56, (fxr_55_1 hW), ⟨8200, (fxs_56 hW), ((h.2 c20).2 c24).2.1, ⟨fun c47 => (((h.2 c20).2 c24).2.2.1 c47), fun c47 => (((h.2 c20).2 c24).2.2.2 c47)⟩⟩⟩⟩⟩⟩⟩
theorem vX13_isText_55 {mc ms : Nat} {X : Nat → zV} {Q : zQt} {M : zM} {x1 : Int32} {x2 : Int32} {x4 : Int32} {s0 : Int32} (hW : zFix M)  (h : X 17 0 0 [.ref 55, .int x1, .int x2, .int s0, .int (x4 + 1)] [] M) : aX13_isText_55 mc ms X Q 0 0 [some (.ref 55), some (.int x1), some (.int x2), none, some (.int x4)] [.int s0] M := h
theorem vX13_isText_62 {mc ms : Nat} {X : Nat → zV} {Q : zQt} {M : zM} {x3 : Int32} (hW : zFix M)  (h : narrow .boolean (.int x3) = .int x3 ∧ Q (some (.int x3)) M) : aX13_isText_62 mc ms X Q 0 0 [none, none, none, some (.int x3), none] [] M := h
theorem dX13_sign_0 : decode cX13_sign 0 = .ok (.aload_n 0, 1) := by decide +kernel
theorem dX13_sign_1 : decode cX13_sign 1 = .ok (.getfield 7, 3) := by decide +kernel
theorem dX13_sign_4 : decode cX13_sign 4 = .ok (.iload_n 1, 1) := by decide +kernel
theorem dX13_sign_5 : decode cX13_sign 5 = .ok (.baload, 1) := by decide +kernel
theorem dX13_sign_6 : decode cX13_sign 6 = .ok (.sipush 255, 3) := by decide +kernel
theorem dX13_sign_9 : decode cX13_sign 9 = .ok (.iand, 1) := by decide +kernel
theorem dX13_sign_10 : decode cX13_sign 10 = .ok (.ireturn, 1) := by decide +kernel
def aX13_sign_0 (mc ms : Nat) (X : Nat → zV) (Q : zQt) : zT :=
  zla 0 <| zgR 13 1 <| zli 1 <| zal 3 <| zc (.int 255) <| zii (fun x y => x &&& y) <| zri Q
def lvX13_sign : Nat → List Nat := fun L => match L with
  | 0 => [0, 1]
  | _ => []
def wX13_sign : zSp := fun mc ms av M Q => ((zlay av).length ≤ 2 ∧ zpick (zlay av) [0, 1] = some av) ∧ ∀ X : Nat → zV, zin 2 [0, 1] (aX13_sign_0 mc ms X Q) X 0 → X 0 0 0 av [] M
set_option maxRecDepth 100000 in
set_option maxHeartbeats 4000000 in
theorem sX13_sign (l : Launch) (G : zG) : zSnd l G yX13_sign cX13_sign 2 (some .int) 0 0 wX13_sign := by
  refine zmk [0, 1] (by decide) (fun mc ms av M Q h => h.1) ?_
  intro p e R s m args below meth c mc ms av M Q hC hRf hRl hr hnm h lv hlv
  obtain ⟨X, hXe⟩ : ∃ X : Nat → zV, X = fun L u v vs st M => ∀ lv, zpick lv (lvX13_sign L) = some vs → zAt p l e R s m args below meth c (MQ below (zQ G Q) args s mc ms (zA G)) G 2 L u v lv st M := ⟨_, rfl⟩
  have hJ : ∀ L, zOk p l e R s m args below meth c (MQ below (zQ G Q) args s mc ms (zA G)) G 2 L (zj X L (lvX13_sign L)) := fun L => S_jump (fun u v lv vs st M hp hx => by rw [hXe] at hx; exact hx lv hp)
  have hB0 : zin 2 [0, 1] (aX13_sign_0 mc ms X Q) X 0 := by
    intro u v vs st M hb
    rw [hXe]
    refine fun lv hp => S_block (L := 0) (live := [0, 1]) ?_ u v lv vs st M hp hb
    unfold aX13_sign_0
    refine S_aload_n (pc := 0) hC dX13_sign_0 rfl ?_
    refine S_getR (pc := 1) hC cfX13 (by decide) (Or.inr ⟨_, rfl⟩) wd_1256 dX13_sign_1 ?_
    refine S_iload_n (pc := 4) hC dX13_sign_4 rfl ?_
    refine S_baload (pc := 5) hC dX13_sign_5 ?_
    refine S_sipush (pc := 6) hC dX13_sign_6 (by decide) ?_
    refine S_iand (pc := 9) hC dX13_sign_9 ?_
    exact S_ireturn (pc := 10) hC hr dX13_sign_10
  have := h.2 X hB0
  rw [hXe] at this
  exact this lv hlv
theorem vX13_sign_0 {mc ms : Nat} {X : Nat → zV} {Q : zQt} {M : zM} {x1 : Int32} (hW : zFix M)  (h : vp_in x1 8200 ∧ Q (some (.int ((((M : zM).1 56 (x1 : Int32).toNatClampNeg) &&& (255 : Int32))))) M) : aX13_sign_0 mc ms X Q 0 0 [some (.ref 55), some (.int x1)] [] M := ⟨(fxs_55 hW), 56, (fxr_55_1 hW), ⟨8200, (fxs_56 hW), h.1, h.2⟩⟩
theorem dX13_isFile_0 : decode cX13_isFile 0 = .ok (.iload_n 0, 1) := by decide +kernel
theorem dX13_isFile_1 : decode cX13_isFile 1 = .ok (.bipush 97, 2) := by decide +kernel
theorem dX13_isFile_3 : decode cX13_isFile 3 = .ok (.if_icmp .lt 13, 3) := by decide +kernel
theorem dX13_isFile_6 : decode cX13_isFile 6 = .ok (.iload_n 0, 1) := by decide +kernel
theorem dX13_isFile_7 : decode cX13_isFile 7 = .ok (.bipush 104, 2) := by decide +kernel
theorem dX13_isFile_9 : decode cX13_isFile 9 = .ok (.if_icmp .gt 7, 3) := by decide +kernel
theorem dX13_isFile_12 : decode cX13_isFile 12 = .ok (.iconst 1, 1) := by decide +kernel
theorem dX13_isFile_13 : decode cX13_isFile 13 = .ok (.goto 4, 3) := by decide +kernel
theorem dX13_isFile_16 : decode cX13_isFile 16 = .ok (.iconst 0, 1) := by decide +kernel
theorem dX13_isFile_17 : decode cX13_isFile 17 = .ok (.ireturn, 1) := by decide +kernel
def aX13_isFile_0 (mc ms : Nat) (X : Nat → zV) (Q : zQt) : zT :=
  zli 0 <| zc (.int 97) <| zic (fun x y => x < y) (zj X 16 []) <| zli 0 <| zc (.int 104) <| zic (fun x y => y < x) (zj X 16 []) <| zc (.int 1) <| zj X 17 []
def aX13_isFile_16 (mc ms : Nat) (X : Nat → zV) (Q : zQt) : zT :=
  zc (.int 0) <| zj X 17 []
def aX13_isFile_17 (mc ms : Nat) (X : Nat → zV) (Q : zQt) : zT :=
  zrz .boolean Q
def lvX13_isFile : Nat → List Nat := fun L => match L with
  | 0 => [0]
  | 16 => []
  | 17 => []
  | _ => []
def wX13_isFile : zSp := fun mc ms av M Q => ((zlay av).length ≤ 1 ∧ zpick (zlay av) [0] = some av) ∧ ∀ X : Nat → zV, zin 1 [0] (aX13_isFile_0 mc ms X Q) X 0 → zin 1 [] (aX13_isFile_16 mc ms X Q) X 16 → zin 1 [] (aX13_isFile_17 mc ms X Q) X 17 → X 0 0 0 av [] M
set_option maxRecDepth 100000 in
set_option maxHeartbeats 4000000 in
theorem sX13_isFile (l : Launch) (G : zG) : zSnd l G yX13_isFile cX13_isFile 1 (some .boolean) 0 0 wX13_isFile := by
  refine zmk [0] (by decide) (fun mc ms av M Q h => h.1) ?_
  intro p e R s m args below meth c mc ms av M Q hC hRf hRl hr hnm h lv hlv
  obtain ⟨X, hXe⟩ : ∃ X : Nat → zV, X = fun L u v vs st M => ∀ lv, zpick lv (lvX13_isFile L) = some vs → zAt p l e R s m args below meth c (MQ below (zQ G Q) args s mc ms (zA G)) G 1 L u v lv st M := ⟨_, rfl⟩
  have hJ : ∀ L, zOk p l e R s m args below meth c (MQ below (zQ G Q) args s mc ms (zA G)) G 1 L (zj X L (lvX13_isFile L)) := fun L => S_jump (fun u v lv vs st M hp hx => by rw [hXe] at hx; exact hx lv hp)
  have hB0 : zin 1 [0] (aX13_isFile_0 mc ms X Q) X 0 := by
    intro u v vs st M hb
    rw [hXe]
    refine fun lv hp => S_block (L := 0) (live := [0]) ?_ u v lv vs st M hp hb
    unfold aX13_isFile_0
    refine S_iload_n (pc := 0) hC dX13_isFile_0 rfl ?_
    refine S_bipush (pc := 1) hC dX13_isFile_1 (by decide) ?_
    refine S_icmp_lt (pc := 3) (tgt := 16) hC dX13_isFile_3 (by decide) ?_ ?_
    · exact hJ 16
    · refine S_iload_n (pc := 6) hC dX13_isFile_6 rfl ?_
      refine S_bipush (pc := 7) hC dX13_isFile_7 (by decide) ?_
      refine S_icmp_gt (pc := 9) (tgt := 16) hC dX13_isFile_9 (by decide) ?_ ?_
      · exact hJ 16
      · refine S_iconst (pc := 12) hC dX13_isFile_12 (by decide) ?_
        refine S_goto (pc := 13) (tgt := 17) hC dX13_isFile_13 (by decide) ?_
        exact hJ 17
  have hB16 : zin 1 [] (aX13_isFile_16 mc ms X Q) X 16 := by
    intro u v vs st M hb
    rw [hXe]
    refine fun lv hp => S_block (L := 16) (live := []) ?_ u v lv vs st M hp hb
    unfold aX13_isFile_16
    refine S_iconst (pc := 16) hC dX13_isFile_16 (by decide) ?_
    exact hJ 17
  have hB17 : zin 1 [] (aX13_isFile_17 mc ms X Q) X 17 := by
    intro u v vs st M hb
    rw [hXe]
    refine fun lv hp => S_block (L := 17) (live := []) ?_ u v lv vs st M hp hb
    unfold aX13_isFile_17
    exact S_zreturn (pc := 17) hC hr dX13_isFile_17
  have := h.2 X hB0 hB16 hB17
  rw [hXe] at this
  exact this lv hlv
theorem vX13_isFile_0 {mc ms : Nat} {X : Nat → zV} {Q : zQt} {M : zM} {x0 : Int32} (hW : zFix M)  (h : (x0 < (97 : Int32) → X 16 0 0 [] [] M) ∧ (¬ x0 < (97 : Int32) → ((104 : Int32) < x0 → X 16 0 0 [] [] M) ∧ (¬ (104 : Int32) < x0 → X 17 0 0 [] [.int 1] M))) : aX13_isFile_0 mc ms X Q 0 0 [some (.int x0)] [] M := ⟨fun c3 => (h.1 c3), fun c3 => ⟨fun c9 => ((h.2 c3).1 c9), fun c9 => ((h.2 c3).2 c9)⟩⟩
theorem vX13_isFile_16 {mc ms : Nat} {X : Nat → zV} {Q : zQt} {M : zM}  (hW : zFix M)  (h : X 17 0 0 [] [.int 0] M) : aX13_isFile_16 mc ms X Q 0 0 [none] [] M := h
theorem vX13_isFile_17 {mc ms : Nat} {X : Nat → zV} {Q : zQt} {M : zM} {s0 : Int32} (hW : zFix M)  (h : narrow .boolean (.int s0) = .int s0 ∧ Q (some (.int s0)) M) : aX13_isFile_17 mc ms X Q 0 0 [none] [.int s0] M := h
theorem dX13_isRank_0 : decode cX13_isRank 0 = .ok (.iload_n 0, 1) := by decide +kernel
theorem dX13_isRank_1 : decode cX13_isRank 1 = .ok (.bipush 49, 2) := by decide +kernel
theorem dX13_isRank_3 : decode cX13_isRank 3 = .ok (.if_icmp .lt 13, 3) := by decide +kernel
theorem dX13_isRank_6 : decode cX13_isRank 6 = .ok (.iload_n 0, 1) := by decide +kernel
theorem dX13_isRank_7 : decode cX13_isRank 7 = .ok (.bipush 56, 2) := by decide +kernel
theorem dX13_isRank_9 : decode cX13_isRank 9 = .ok (.if_icmp .gt 7, 3) := by decide +kernel
theorem dX13_isRank_12 : decode cX13_isRank 12 = .ok (.iconst 1, 1) := by decide +kernel
theorem dX13_isRank_13 : decode cX13_isRank 13 = .ok (.goto 4, 3) := by decide +kernel
theorem dX13_isRank_16 : decode cX13_isRank 16 = .ok (.iconst 0, 1) := by decide +kernel
theorem dX13_isRank_17 : decode cX13_isRank 17 = .ok (.ireturn, 1) := by decide +kernel
def aX13_isRank_0 (mc ms : Nat) (X : Nat → zV) (Q : zQt) : zT :=
  zli 0 <| zc (.int 49) <| zic (fun x y => x < y) (zj X 16 []) <| zli 0 <| zc (.int 56) <| zic (fun x y => y < x) (zj X 16 []) <| zc (.int 1) <| zj X 17 []
def aX13_isRank_16 (mc ms : Nat) (X : Nat → zV) (Q : zQt) : zT :=
  zc (.int 0) <| zj X 17 []
def aX13_isRank_17 (mc ms : Nat) (X : Nat → zV) (Q : zQt) : zT :=
  zrz .boolean Q
def lvX13_isRank : Nat → List Nat := fun L => match L with
  | 0 => [0]
  | 16 => []
  | 17 => []
  | _ => []
def wX13_isRank : zSp := fun mc ms av M Q => ((zlay av).length ≤ 1 ∧ zpick (zlay av) [0] = some av) ∧ ∀ X : Nat → zV, zin 1 [0] (aX13_isRank_0 mc ms X Q) X 0 → zin 1 [] (aX13_isRank_16 mc ms X Q) X 16 → zin 1 [] (aX13_isRank_17 mc ms X Q) X 17 → X 0 0 0 av [] M
set_option maxRecDepth 100000 in
set_option maxHeartbeats 4000000 in
theorem sX13_isRank (l : Launch) (G : zG) : zSnd l G yX13_isRank cX13_isRank 1 (some .boolean) 0 0 wX13_isRank := by
  refine zmk [0] (by decide) (fun mc ms av M Q h => h.1) ?_
  intro p e R s m args below meth c mc ms av M Q hC hRf hRl hr hnm h lv hlv
  obtain ⟨X, hXe⟩ : ∃ X : Nat → zV, X = fun L u v vs st M => ∀ lv, zpick lv (lvX13_isRank L) = some vs → zAt p l e R s m args below meth c (MQ below (zQ G Q) args s mc ms (zA G)) G 1 L u v lv st M := ⟨_, rfl⟩
  have hJ : ∀ L, zOk p l e R s m args below meth c (MQ below (zQ G Q) args s mc ms (zA G)) G 1 L (zj X L (lvX13_isRank L)) := fun L => S_jump (fun u v lv vs st M hp hx => by rw [hXe] at hx; exact hx lv hp)
  have hB0 : zin 1 [0] (aX13_isRank_0 mc ms X Q) X 0 := by
    intro u v vs st M hb
    rw [hXe]
    refine fun lv hp => S_block (L := 0) (live := [0]) ?_ u v lv vs st M hp hb
    unfold aX13_isRank_0
    refine S_iload_n (pc := 0) hC dX13_isRank_0 rfl ?_
    refine S_bipush (pc := 1) hC dX13_isRank_1 (by decide) ?_
    refine S_icmp_lt (pc := 3) (tgt := 16) hC dX13_isRank_3 (by decide) ?_ ?_
    · exact hJ 16
    · refine S_iload_n (pc := 6) hC dX13_isRank_6 rfl ?_
      refine S_bipush (pc := 7) hC dX13_isRank_7 (by decide) ?_
      refine S_icmp_gt (pc := 9) (tgt := 16) hC dX13_isRank_9 (by decide) ?_ ?_
      · exact hJ 16
      · refine S_iconst (pc := 12) hC dX13_isRank_12 (by decide) ?_
        refine S_goto (pc := 13) (tgt := 17) hC dX13_isRank_13 (by decide) ?_
        exact hJ 17
  have hB16 : zin 1 [] (aX13_isRank_16 mc ms X Q) X 16 := by
    intro u v vs st M hb
    rw [hXe]
    refine fun lv hp => S_block (L := 16) (live := []) ?_ u v lv vs st M hp hb
    unfold aX13_isRank_16
    refine S_iconst (pc := 16) hC dX13_isRank_16 (by decide) ?_
    exact hJ 17
  have hB17 : zin 1 [] (aX13_isRank_17 mc ms X Q) X 17 := by
    intro u v vs st M hb
    rw [hXe]
    refine fun lv hp => S_block (L := 17) (live := []) ?_ u v lv vs st M hp hb
    unfold aX13_isRank_17
    exact S_zreturn (pc := 17) hC hr dX13_isRank_17
  have := h.2 X hB0 hB16 hB17
  rw [hXe] at this
  exact this lv hlv
theorem vX13_isRank_0 {mc ms : Nat} {X : Nat → zV} {Q : zQt} {M : zM} {x0 : Int32} (hW : zFix M)  (h : (x0 < (49 : Int32) → X 16 0 0 [] [] M) ∧ (¬ x0 < (49 : Int32) → ((56 : Int32) < x0 → X 16 0 0 [] [] M) ∧ (¬ (56 : Int32) < x0 → X 17 0 0 [] [.int 1] M))) : aX13_isRank_0 mc ms X Q 0 0 [some (.int x0)] [] M := ⟨fun c3 => (h.1 c3), fun c3 => ⟨fun c9 => ((h.2 c3).1 c9), fun c9 => ((h.2 c3).2 c9)⟩⟩
theorem vX13_isRank_16 {mc ms : Nat} {X : Nat → zV} {Q : zQt} {M : zM}  (hW : zFix M)  (h : X 17 0 0 [] [.int 0] M) : aX13_isRank_16 mc ms X Q 0 0 [none] [] M := h
theorem vX13_isRank_17 {mc ms : Nat} {X : Nat → zV} {Q : zQt} {M : zM} {s0 : Int32} (hW : zFix M)  (h : narrow .boolean (.int s0) = .int s0 ∧ Q (some (.int s0)) M) : aX13_isRank_17 mc ms X Q 0 0 [none] [.int s0] M := h
theorem dX13_isOfficer_0 : decode cX13_isOfficer 0 = .ok (.iload_n 0, 1) := by decide +kernel
theorem dX13_isOfficer_1 : decode cX13_isOfficer 1 = .ok (.bipush 81, 2) := by decide +kernel
theorem dX13_isOfficer_3 : decode cX13_isOfficer 3 = .ok (.if_icmp .eq 21, 3) := by decide +kernel
theorem dX13_isOfficer_6 : decode cX13_isOfficer 6 = .ok (.iload_n 0, 1) := by decide +kernel
theorem dX13_isOfficer_7 : decode cX13_isOfficer 7 = .ok (.bipush 82, 2) := by decide +kernel
theorem dX13_isOfficer_9 : decode cX13_isOfficer 9 = .ok (.if_icmp .eq 15, 3) := by decide +kernel
theorem dX13_isOfficer_12 : decode cX13_isOfficer 12 = .ok (.iload_n 0, 1) := by decide +kernel
theorem dX13_isOfficer_13 : decode cX13_isOfficer 13 = .ok (.bipush 66, 2) := by decide +kernel
theorem dX13_isOfficer_15 : decode cX13_isOfficer 15 = .ok (.if_icmp .eq 9, 3) := by decide +kernel
theorem dX13_isOfficer_18 : decode cX13_isOfficer 18 = .ok (.iload_n 0, 1) := by decide +kernel
theorem dX13_isOfficer_19 : decode cX13_isOfficer 19 = .ok (.bipush 78, 2) := by decide +kernel
theorem dX13_isOfficer_21 : decode cX13_isOfficer 21 = .ok (.if_icmp .ne 7, 3) := by decide +kernel
theorem dX13_isOfficer_24 : decode cX13_isOfficer 24 = .ok (.iconst 1, 1) := by decide +kernel
theorem dX13_isOfficer_25 : decode cX13_isOfficer 25 = .ok (.goto 4, 3) := by decide +kernel
theorem dX13_isOfficer_28 : decode cX13_isOfficer 28 = .ok (.iconst 0, 1) := by decide +kernel
theorem dX13_isOfficer_29 : decode cX13_isOfficer 29 = .ok (.ireturn, 1) := by decide +kernel
def aX13_isOfficer_0 (mc ms : Nat) (X : Nat → zV) (Q : zQt) : zT :=
  zli 0 <| zc (.int 81) <| zic (fun x y => x = y) (zj X 24 []) <| zli 0 <| zc (.int 82) <| zic (fun x y => x = y) (zj X 24 []) <| zli 0 <| zc (.int 66) <| zic (fun x y => x = y) (zj X 24 []) <| zli 0 <| zc (.int 78) <| zic (fun x y => x = y) (zj X 24 []) <| zc (.int 0) <| zj X 29 []
def aX13_isOfficer_24 (mc ms : Nat) (X : Nat → zV) (Q : zQt) : zT :=
  zc (.int 1) <| zj X 29 []
def aX13_isOfficer_29 (mc ms : Nat) (X : Nat → zV) (Q : zQt) : zT :=
  zrz .boolean Q
def lvX13_isOfficer : Nat → List Nat := fun L => match L with
  | 0 => [0]
  | 24 => []
  | 29 => []
  | _ => []
def wX13_isOfficer : zSp := fun mc ms av M Q => ((zlay av).length ≤ 1 ∧ zpick (zlay av) [0] = some av) ∧ ∀ X : Nat → zV, zin 1 [0] (aX13_isOfficer_0 mc ms X Q) X 0 → zin 1 [] (aX13_isOfficer_24 mc ms X Q) X 24 → zin 1 [] (aX13_isOfficer_29 mc ms X Q) X 29 → X 0 0 0 av [] M
set_option maxRecDepth 100000 in
set_option maxHeartbeats 4000000 in
theorem sX13_isOfficer (l : Launch) (G : zG) : zSnd l G yX13_isOfficer cX13_isOfficer 1 (some .boolean) 0 0 wX13_isOfficer := by
  refine zmk [0] (by decide) (fun mc ms av M Q h => h.1) ?_
  intro p e R s m args below meth c mc ms av M Q hC hRf hRl hr hnm h lv hlv
  obtain ⟨X, hXe⟩ : ∃ X : Nat → zV, X = fun L u v vs st M => ∀ lv, zpick lv (lvX13_isOfficer L) = some vs → zAt p l e R s m args below meth c (MQ below (zQ G Q) args s mc ms (zA G)) G 1 L u v lv st M := ⟨_, rfl⟩
  have hJ : ∀ L, zOk p l e R s m args below meth c (MQ below (zQ G Q) args s mc ms (zA G)) G 1 L (zj X L (lvX13_isOfficer L)) := fun L => S_jump (fun u v lv vs st M hp hx => by rw [hXe] at hx; exact hx lv hp)
  have hB0 : zin 1 [0] (aX13_isOfficer_0 mc ms X Q) X 0 := by
    intro u v vs st M hb
    rw [hXe]
    refine fun lv hp => S_block (L := 0) (live := [0]) ?_ u v lv vs st M hp hb
    unfold aX13_isOfficer_0
    refine S_iload_n (pc := 0) hC dX13_isOfficer_0 rfl ?_
    refine S_bipush (pc := 1) hC dX13_isOfficer_1 (by decide) ?_
    refine S_icmp_eq (pc := 3) (tgt := 24) hC dX13_isOfficer_3 (by decide) ?_ ?_
    · exact hJ 24
    · refine S_iload_n (pc := 6) hC dX13_isOfficer_6 rfl ?_
      refine S_bipush (pc := 7) hC dX13_isOfficer_7 (by decide) ?_
      refine S_icmp_eq (pc := 9) (tgt := 24) hC dX13_isOfficer_9 (by decide) ?_ ?_
      · exact hJ 24
      · refine S_iload_n (pc := 12) hC dX13_isOfficer_12 rfl ?_
        refine S_bipush (pc := 13) hC dX13_isOfficer_13 (by decide) ?_
        refine S_icmp_eq (pc := 15) (tgt := 24) hC dX13_isOfficer_15 (by decide) ?_ ?_
        · exact hJ 24
        · refine S_iload_n (pc := 18) hC dX13_isOfficer_18 rfl ?_
          refine S_bipush (pc := 19) hC dX13_isOfficer_19 (by decide) ?_
          refine S_icmp_ne (pc := 21) (tgt := 28) hC dX13_isOfficer_21 (by decide) ?_ ?_
          · refine S_iconst (pc := 28) hC dX13_isOfficer_28 (by decide) ?_
            exact hJ 29
          · exact hJ 24
  have hB24 : zin 1 [] (aX13_isOfficer_24 mc ms X Q) X 24 := by
    intro u v vs st M hb
    rw [hXe]
    refine fun lv hp => S_block (L := 24) (live := []) ?_ u v lv vs st M hp hb
    unfold aX13_isOfficer_24
    refine S_iconst (pc := 24) hC dX13_isOfficer_24 (by decide) ?_
    refine S_goto (pc := 25) (tgt := 29) hC dX13_isOfficer_25 (by decide) ?_
    exact hJ 29
  have hB29 : zin 1 [] (aX13_isOfficer_29 mc ms X Q) X 29 := by
    intro u v vs st M hb
    rw [hXe]
    refine fun lv hp => S_block (L := 29) (live := []) ?_ u v lv vs st M hp hb
    unfold aX13_isOfficer_29
    exact S_zreturn (pc := 29) hC hr dX13_isOfficer_29
  have := h.2 X hB0 hB24 hB29
  rw [hXe] at this
  exact this lv hlv
theorem vX13_isOfficer_0 {mc ms : Nat} {X : Nat → zV} {Q : zQt} {M : zM} {x0 : Int32} (hW : zFix M)  (h : (x0 = (81 : Int32) → X 24 0 0 [] [] M) ∧ (¬ x0 = (81 : Int32) → (x0 = (82 : Int32) → X 24 0 0 [] [] M) ∧ (¬ x0 = (82 : Int32) → (x0 = (66 : Int32) → X 24 0 0 [] [] M) ∧ (¬ x0 = (66 : Int32) → (x0 = (78 : Int32) → X 24 0 0 [] [] M) ∧ (¬ x0 = (78 : Int32) → X 29 0 0 [] [.int 0] M))))) : aX13_isOfficer_0 mc ms X Q 0 0 [some (.int x0)] [] M := ⟨fun c3 => (h.1 c3), fun c3 => ⟨fun c9 => ((h.2 c3).1 c9), fun c9 => ⟨fun c15 => (((h.2 c3).2 c9).1 c15), fun c15 => ⟨fun c21 => ((((h.2 c3).2 c9).2 c15).1 c21), fun c21 => ((((h.2 c3).2 c9).2 c15).2 c21)⟩⟩⟩⟩
theorem vX13_isOfficer_24 {mc ms : Nat} {X : Nat → zV} {Q : zQt} {M : zM}  (hW : zFix M)  (h : X 29 0 0 [] [.int 1] M) : aX13_isOfficer_24 mc ms X Q 0 0 [none] [] M := h
theorem vX13_isOfficer_29 {mc ms : Nat} {X : Nat → zV} {Q : zQt} {M : zM} {s0 : Int32} (hW : zFix M)  (h : narrow .boolean (.int s0) = .int s0 ∧ Q (some (.int s0)) M) : aX13_isOfficer_29 mc ms X Q 0 0 [none] [.int s0] M := h
