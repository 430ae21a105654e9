theorem dX2_stepBecoming_0 : decode cX2_stepBecoming 0 = .ok (.iconst 0, 1) := by decide +kernel
theorem dX2_stepBecoming_1 : decode cX2_stepBecoming 1 = .ok (.istore_n 2, 1) := by decide +kernel
theorem dX2_stepBecoming_2 : decode cX2_stepBecoming 2 = .ok (.sipush 3072, 3) := by decide +kernel
theorem dX2_stepBecoming_5 : decode cX2_stepBecoming 5 = .ok (.istore_n 3, 1) := by decide +kernel
theorem dX2_stepBecoming_6 : decode cX2_stepBecoming 6 = .ok (.iload_n 3, 1) := by decide +kernel
theorem dX2_stepBecoming_7 : decode cX2_stepBecoming 7 = .ok (.sipush 3584, 3) := by decide +kernel
theorem dX2_stepBecoming_10 : decode cX2_stepBecoming 10 = .ok (.if_icmp .ge 63, 3) := by decide +kernel
theorem dX2_stepBecoming_13 : decode cX2_stepBecoming 13 = .ok (.aload_n 0, 1) := by decide +kernel
theorem dX2_stepBecoming_14 : decode cX2_stepBecoming 14 = .ok (.getfield 19, 3) := by decide +kernel
theorem dX2_stepBecoming_17 : decode cX2_stepBecoming 17 = .ok (.iload_n 3, 1) := by decide +kernel
theorem dX2_stepBecoming_18 : decode cX2_stepBecoming 18 = .ok (.sipush 512, 3) := by decide +kernel
theorem dX2_stepBecoming_21 : decode cX2_stepBecoming 21 = .ok (.iadd, 1) := by decide +kernel
theorem dX2_stepBecoming_22 : decode cX2_stepBecoming 22 = .ok (.iload_n 1, 1) := by decide +kernel
theorem dX2_stepBecoming_23 : decode cX2_stepBecoming 23 = .ok (.iconst 1, 1) := by decide +kernel
theorem dX2_stepBecoming_24 : decode cX2_stepBecoming 24 = .ok (.isub, 1) := by decide +kernel
theorem dX2_stepBecoming_25 : decode cX2_stepBecoming 25 = .ok (.invokevirtual 120, 3) := by decide +kernel
theorem dX2_stepBecoming_28 : decode cX2_stepBecoming 28 = .ok (.aload_n 0, 1) := by decide +kernel
theorem dX2_stepBecoming_29 : decode cX2_stepBecoming 29 = .ok (.getfield 23, 3) := by decide +kernel
theorem dX2_stepBecoming_32 : decode cX2_stepBecoming 32 = .ok (.iload_n 3, 1) := by decide +kernel
theorem dX2_stepBecoming_33 : decode cX2_stepBecoming 33 = .ok (.sipush 512, 3) := by decide +kernel
theorem dX2_stepBecoming_36 : decode cX2_stepBecoming 36 = .ok (.iadd, 1) := by decide +kernel
theorem dX2_stepBecoming_37 : decode cX2_stepBecoming 37 = .ok (.iload_n 1, 1) := by decide +kernel
theorem dX2_stepBecoming_38 : decode cX2_stepBecoming 38 = .ok (.iconst 1, 1) := by decide +kernel
theorem dX2_stepBecoming_39 : decode cX2_stepBecoming 39 = .ok (.isub, 1) := by decide +kernel
theorem dX2_stepBecoming_40 : decode cX2_stepBecoming 40 = .ok (.invokevirtual 120, 3) := by decide +kernel
theorem dX2_stepBecoming_43 : decode cX2_stepBecoming 43 = .ok (.lor, 1) := by decide +kernel
theorem dX2_stepBecoming_44 : decode cX2_stepBecoming 44 = .ok (.lstore 4, 2) := by decide +kernel
theorem dX2_stepBecoming_46 : decode cX2_stepBecoming 46 = .ok (.iload_n 2, 1) := by decide +kernel
theorem dX2_stepBecoming_47 : decode cX2_stepBecoming 47 = .ok (.aload_n 0, 1) := by decide +kernel
theorem dX2_stepBecoming_48 : decode cX2_stepBecoming 48 = .ok (.iload_n 3, 1) := by decide +kernel
theorem dX2_stepBecoming_49 : decode cX2_stepBecoming 49 = .ok (.lload 4, 2) := by decide +kernel
theorem dX2_stepBecoming_51 : decode cX2_stepBecoming 51 = .ok (.iload_n 1, 1) := by decide +kernel
theorem dX2_stepBecoming_52 : decode cX2_stepBecoming 52 = .ok (.invokevirtual 111, 3) := by decide +kernel
theorem dX2_stepBecoming_55 : decode cX2_stepBecoming 55 = .ok (.lconst 0, 1) := by decide +kernel
theorem dX2_stepBecoming_56 : decode cX2_stepBecoming 56 = .ok (.lcmp, 1) := by decide +kernel
theorem dX2_stepBecoming_57 : decode cX2_stepBecoming 57 = .ok (.ifCond .eq 7, 3) := by decide +kernel
theorem dX2_stepBecoming_60 : decode cX2_stepBecoming 60 = .ok (.iconst 1, 1) := by decide +kernel
theorem dX2_stepBecoming_61 : decode cX2_stepBecoming 61 = .ok (.goto 4, 3) := by decide +kernel
theorem dX2_stepBecoming_64 : decode cX2_stepBecoming 64 = .ok (.iconst 0, 1) := by decide +kernel
theorem dX2_stepBecoming_65 : decode cX2_stepBecoming 65 = .ok (.ior, 1) := by decide +kernel
theorem dX2_stepBecoming_66 : decode cX2_stepBecoming 66 = .ok (.istore_n 2, 1) := by decide +kernel
theorem dX2_stepBecoming_67 : decode cX2_stepBecoming 67 = .ok (.iinc 3 1, 3) := by decide +kernel
theorem dX2_stepBecoming_70 : decode cX2_stepBecoming 70 = .ok (.goto (-64), 3) := by decide +kernel
theorem dX2_stepBecoming_73 : decode cX2_stepBecoming 73 = .ok (.iload_n 2, 1) := by decide +kernel
theorem dX2_stepBecoming_74 : decode cX2_stepBecoming 74 = .ok (.ireturn, 1) := by decide +kernel
def kX2_stepBecoming_55 (mc ms : Nat) (X : Nat → zV) (Q : zQt) : zT :=
  zc (.long 0) <| zlc <| zif (fun x => x = 0) (zc (.int 0) <| zj X 65 [0, 1, 3]) <| zc (.int 1) <| zj X 65 [0, 1, 3]
def kX2_stepBecoming_43 (mc ms : Nat) (X : Nat → zV) (Q : zQt) : zT :=
  zjj (fun x y => x ||| y) <| zsl 4 <| zli 2 <| zla 0 <| zli 3 <| zll 4 <| zli 1 <| zcv mc ms 2 3 wX2_gain <| kX2_stepBecoming_55 mc ms X Q
def kX2_stepBecoming_28 (mc ms : Nat) (X : Nat → zV) (Q : zQt) : zT :=
  zla 0 <| zgR 2 3 <| zli 3 <| zc (.int 512) <| zii (fun x y => x + y) <| zli 1 <| zc (.int 1) <| zii (fun x y => x - y) <| zcv mc ms 2 2 wX2_lostIn <| kX2_stepBecoming_43 mc ms X Q
def aX2_stepBecoming_0 (mc ms : Nat) (X : Nat → zV) (Q : zQt) : zT :=
  zc (.int 0) <| zsi 2 <| zc (.int 3072) <| zsi 3 <| zj X 6 [0, 1, 2, 3]
def aX2_stepBecoming_6 (mc ms : Nat) (X : Nat → zV) (Q : zQt) : zT :=
  zli 3 <| zc (.int 3584) <| zic (fun x y => y ≤ x) (zli 2 <| zrz .boolean Q) <| zla 0 <| zgR 2 2 <| zli 3 <| zc (.int 512) <| zii (fun x y => x + y) <| zli 1 <| zc (.int 1) <| zii (fun x y => x - y) <| zcv mc ms 2 2 wX2_lostIn <| kX2_stepBecoming_28 mc ms X Q
def aX2_stepBecoming_65 (mc ms : Nat) (X : Nat → zV) (Q : zQt) : zT :=
  zii (fun x y => x ||| y) <| zsi 2 <| zinc 3 1 <| zj X 6 [0, 1, 2, 3]
def lvX2_stepBecoming : Nat → List Nat := fun L => match L with
  | 0 => [0, 1]
  | 6 => [0, 1, 2, 3]
  | 65 => [0, 1, 3]
  | _ => []
def wX2_stepBecoming : zSp := fun mc ms av M Q => ((zlay av).length ≤ 6 ∧ zpick (zlay av) [0, 1] = some av) ∧ ∀ X : Nat → zV, zin 6 [0, 1] (aX2_stepBecoming_0 mc ms X Q) X 0 → zin 6 [0, 1, 2, 3] (aX2_stepBecoming_6 mc ms X Q) X 6 → zin 6 [0, 1, 3] (aX2_stepBecoming_65 mc ms X Q) X 65 → X 0 0 0 av [] M
set_option maxRecDepth 100000 in
set_option maxHeartbeats 4000000 in
theorem sX2_stepBecoming (l : Launch) (G : zG) : zSnd l G yX2_stepBecoming cX2_stepBecoming 6 (some .boolean) 1 29 wX2_stepBecoming := by
  refine zmk [0, 1] (by decide) (fun mc ms av M Q h => h.1) ?_
  intro p e R s m args below meth c mc ms av M Q hC hRf hRl hr hnm h lv hlv
  obtain ⟨X, hXe⟩ : ∃ X : Nat → zV, X = fun L u v vs st M => ∀ lv, zpick lv (lvX2_stepBecoming L) = some vs → zAt p l e R s m args below meth c (MQ below (zQ G Q) args s mc ms (zA G)) G 6 L u v lv st M := ⟨_, rfl⟩
  have hJ : ∀ L, zOk p l e R s m args below meth c (MQ below (zQ G Q) args s mc ms (zA G)) G 6 L (zj X L (lvX2_stepBecoming L)) := fun L => S_jump (fun u v lv vs st M hp hx => by rw [hXe] at hx; exact hx lv hp)
  have hB0 : zin 6 [0, 1] (aX2_stepBecoming_0 mc ms X Q) X 0 := by
    intro u v vs st M hb
    rw [hXe]
    refine fun lv hp => S_block (L := 0) (live := [0, 1]) ?_ u v lv vs st M hp hb
    unfold aX2_stepBecoming_0
    refine S_iconst (pc := 0) hC dX2_stepBecoming_0 (by decide) ?_
    refine S_istore_n (pc := 1) hC dX2_stepBecoming_1 rfl (by decide) ?_
    refine S_sipush (pc := 2) hC dX2_stepBecoming_2 (by decide) ?_
    refine S_istore_n (pc := 5) hC dX2_stepBecoming_5 rfl (by decide) ?_
    exact hJ 6
  have hB6 : zin 6 [0, 1, 2, 3] (aX2_stepBecoming_6 mc ms X Q) X 6 := by
    intro u v vs st M hb
    rw [hXe]
    refine fun lv hp => S_block (L := 6) (live := [0, 1, 2, 3]) ?_ u v lv vs st M hp hb
    unfold aX2_stepBecoming_6
    refine S_iload_n (pc := 6) hC dX2_stepBecoming_6 rfl ?_
    refine S_sipush (pc := 7) hC dX2_stepBecoming_7 (by decide) ?_
    refine S_icmp_ge (pc := 10) (tgt := 73) hC dX2_stepBecoming_10 (by decide) ?_ ?_
    · refine S_iload_n (pc := 73) hC dX2_stepBecoming_73 rfl ?_
      exact S_zreturn (pc := 74) hC hr dX2_stepBecoming_74
    · refine S_aload_n (pc := 13) hC dX2_stepBecoming_13 rfl ?_
      refine S_getR (pc := 14) hC cfX2 (by decide) (Or.inl ⟨_, rfl⟩) wd_1076 dX2_stepBecoming_14 ?_
      refine S_iload_n (pc := 17) hC dX2_stepBecoming_17 rfl ?_
      refine S_sipush (pc := 18) hC dX2_stepBecoming_18 (by decide) ?_
      refine S_iadd (pc := 21) hC dX2_stepBecoming_21 ?_
      refine S_iload_n (pc := 22) hC dX2_stepBecoming_22 rfl ?_
      refine S_iconst (pc := 23) hC dX2_stepBecoming_23 (by decide) ?_
      refine S_isub (pc := 24) hC dX2_stepBecoming_24 ?_
      refine S_callV (pc := 25) hC (sX2_lostIn l G) rfl wd_1155 wd_1157 ws_51 wd_28 wd_1158 (by decide +kernel) ⟨by rw [hRf]; decide, by rw [hRl]; decide⟩ dX2_stepBecoming_25 ?_
      unfold kX2_stepBecoming_28
      refine S_aload_n (pc := 28) hC dX2_stepBecoming_28 rfl ?_
      refine S_getR (pc := 29) hC cfX2 (by decide) (Or.inl ⟨_, rfl⟩) wd_1077 dX2_stepBecoming_29 ?_
      refine S_iload_n (pc := 32) hC dX2_stepBecoming_32 rfl ?_
      refine S_sipush (pc := 33) hC dX2_stepBecoming_33 (by decide) ?_
      refine S_iadd (pc := 36) hC dX2_stepBecoming_36 ?_
      refine S_iload_n (pc := 37) hC dX2_stepBecoming_37 rfl ?_
      refine S_iconst (pc := 38) hC dX2_stepBecoming_38 (by decide) ?_
      refine S_isub (pc := 39) hC dX2_stepBecoming_39 ?_
      refine S_callV (pc := 40) hC (sX2_lostIn l G) rfl wd_1155 wd_1157 ws_51 wd_28 wd_1158 (by decide +kernel) ⟨by rw [hRf]; decide, by rw [hRl]; decide⟩ dX2_stepBecoming_40 ?_
      unfold kX2_stepBecoming_43
      refine S_lor (pc := 43) hC dX2_stepBecoming_43 ?_
      refine S_lstore (pc := 44) hC dX2_stepBecoming_44 (by decide) ?_
      refine S_iload_n (pc := 46) hC dX2_stepBecoming_46 rfl ?_
      refine S_aload_n (pc := 47) hC dX2_stepBecoming_47 rfl ?_
      refine S_iload_n (pc := 48) hC dX2_stepBecoming_48 rfl ?_
      refine S_lload (pc := 49) hC dX2_stepBecoming_49 ?_
      refine S_iload_n (pc := 51) hC dX2_stepBecoming_51 rfl ?_
      refine S_callV (pc := 52) hC (sX2_gain l G) rfl wd_1138 wd_1140 ws_47 wd_28 wd_1141 (by decide +kernel) ⟨by rw [hRf]; decide, by rw [hRl]; decide⟩ dX2_stepBecoming_52 ?_
      unfold kX2_stepBecoming_55
      refine S_lconst (pc := 55) hC dX2_stepBecoming_55 (by decide) ?_
      refine S_lcmp (pc := 56) hC dX2_stepBecoming_56 ?_
      refine S_if_eq (pc := 57) (tgt := 64) hC dX2_stepBecoming_57 (by decide) ?_ ?_
      · refine S_iconst (pc := 64) hC dX2_stepBecoming_64 (by decide) ?_
        exact hJ 65
      · refine S_iconst (pc := 60) hC dX2_stepBecoming_60 (by decide) ?_
        refine S_goto (pc := 61) (tgt := 65) hC dX2_stepBecoming_61 (by decide) ?_
        exact hJ 65
  have hB65 : zin 6 [0, 1, 3] (aX2_stepBecoming_65 mc ms X Q) X 65 := by
    intro u v vs st M hb
    rw [hXe]
    refine fun lv hp => S_block (L := 65) (live := [0, 1, 3]) ?_ u v lv vs st M hp hb
    unfold aX2_stepBecoming_65
    refine S_ior (pc := 65) hC dX2_stepBecoming_65 ?_
    refine S_istore_n (pc := 66) hC dX2_stepBecoming_66 rfl (by decide) ?_
    refine S_iinc (pc := 67) hC dX2_stepBecoming_67 (by decide) (by decide) ?_
    refine S_goto (pc := 70) (tgt := 6) hC dX2_stepBecoming_70 (by decide) ?_
    exact hJ 6
  have := h.2 X hB0 hB6 hB65
  rw [hXe] at this
  exact this lv hlv
theorem vX2_stepBecoming_0 {mc ms : Nat} {X : Nat → zV} {Q : zQt} {M : zM} {g : Nat} {x0 : Nat} {x1 : Int32} (hW : zWd M g) (hx0 : zsh M x0 = some (0, 2)) (h : X 6 0 0 [.ref x0, .int x1, .int 0, .int 3072] [] M) : aX2_stepBecoming_0 mc ms X Q 0 0 [some (.ref x0), some (.int x1), none, none, none, none] [] M := h
theorem vX2_stepBecoming_6 {mc ms : Nat} {X : Nat → zV} {Q : zQt} {M : zM} {g : Nat} {x0 : Nat} {x1 : Int32} {x2 : Int32} {x3 : Int32} (hW : zWd M g) (hx0 : zsh M x0 = some (0, 2)) (h : ((3584 : Int32) ≤ x3 → narrow .boolean (.int x2) = .int x2 ∧ Q (some (.int x2)) M) ∧ (¬ (3584 : Int32) ≤ x3 → ∃ r14, ((M : zM).2.2.1 x0 2) = some r14 ∧ zsh M r14 = some (0, 2) ∧ wX2_lostIn 0 0 [.ref r14, .int (x3 + (512 : Int32)), .int (x1 - (1 : Int32))] M (fun r M1 => kX2_stepBecoming_28 mc ms X Q 0 0 [some (.ref x0), some (.int x1), some (.int x2), some (.int x3), none, none] (r.toList ++ []) M1))) : aX2_stepBecoming_6 mc ms X Q 0 0 [some (.ref x0), some (.int x1), some (.int x2), some (.int x3), none, none] [] M := ⟨fun c10 => (h.1 c10), fun c10 => (let ⟨r14, q14, hr14, h14⟩ := (h.2 c10); ⟨hx0, r14, q14, ⟨Nat.le_of_ble_eq_true rfl, rfl, hr14, 0, 0, Nat.zero_le _, Nat.zero_le _, h14⟩⟩)⟩
theorem vX2_stepBecoming_65 {mc ms : Nat} {X : Nat → zV} {Q : zQt} {M : zM} {g : Nat} {x0 : Nat} {x1 : Int32} {x3 : Int32} {s0 : Int32} {s1 : Int32} (hW : zWd M g) (hx0 : zsh M x0 = some (0, 2)) (h : X 6 0 0 [.ref x0, .int x1, .int (s1 ||| s0), .int (x3 + 1)] [] M) : aX2_stepBecoming_65 mc ms X Q 0 0 [some (.ref x0), some (.int x1), none, some (.int x3), none, none] [.int s0, .int s1] M := h
theorem vkX2_stepBecoming_28 {mc ms : Nat} {X : Nat → zV} {Q : zQt} {M : zM} {g : Nat} {x0 : Nat} {x1 : Int32} {x2 : Int32} {x3 : Int32} {s0 : Int64} (hW : zWd M g) (hx0 : zsh M x0 = some (0, 2)) (h : ∃ r29, ((M : zM).2.2.1 x0 3) = some r29 ∧ zsh M r29 = some (0, 2) ∧ wX2_lostIn 0 0 [.ref r29, .int (x3 + (512 : Int32)), .int (x1 - (1 : Int32))] M (fun r M1 => kX2_stepBecoming_43 mc ms X Q 0 0 [some (.ref x0), some (.int x1), some (.int x2), some (.int x3), none, none] (r.toList ++ [.long s0]) M1)) : kX2_stepBecoming_28 mc ms X Q 0 0 [some (.ref x0), some (.int x1), some (.int x2), some (.int x3), none, none] [.long s0] M := (let ⟨r29, q29, hr29, h29⟩ := h; ⟨hx0, r29, q29, ⟨Nat.le_of_ble_eq_true rfl, rfl, hr29, 0, 0, Nat.zero_le _, Nat.zero_le _, h29⟩⟩)
theorem vkX2_stepBecoming_43 {mc ms : Nat} {X : Nat → zV} {Q : zQt} {M : zM} {g : Nat} {x0 : Nat} {x1 : Int32} {x2 : Int32} {x3 : Int32} {s0 : Int64} {s1 : Int64} (hW : zWd M g) (hx0 : zsh M x0 = some (0, 2)) (h : wX2_gain 0 0 [.ref x0, .int x3, .long (s1 ||| s0), .int x1] M (fun r M1 => kX2_stepBecoming_55 mc ms X Q 0 0 [some (.ref x0), some (.int x1), some (.int x2), some (.int x3), some (.long (s1 ||| s0)), none] (r.toList ++ [.int x2]) M1)) : kX2_stepBecoming_43 mc ms X Q 0 0 [some (.ref x0), some (.int x1), some (.int x2), some (.int x3), none, none] [.long s0, .long s1] M := ⟨Nat.le_of_ble_eq_true rfl, rfl, hx0, 0, 0, Nat.zero_le _, Nat.zero_le _, h⟩
theorem vkX2_stepBecoming_55 {mc ms : Nat} {X : Nat → zV} {Q : zQt} {M : zM} {g : Nat} {x0 : Nat} {x1 : Int32} {x2 : Int32} {x3 : Int32} {x4 : Int64} {s0 : Int64} {s1 : Int32} (hW : zWd M g) (hx0 : zsh M x0 = some (0, 2)) (h : ((lg_cmp s0 ((0 : Int64))) = 0 → X 65 0 0 [.ref x0, .int x1, .int x3] [.int 0, .int s1] M) ∧ (¬ (lg_cmp s0 ((0 : Int64))) = 0 → X 65 0 0 [.ref x0, .int x1, .int x3] [.int 1, .int s1] M)) : kX2_stepBecoming_55 mc ms X Q 0 0 [some (.ref x0), some (.int x1), some (.int x2), some (.int x3), some (.long x4), none] [.long s0, .int s1] M := ⟨fun c57 => (h.1 c57), fun c57 => (h.2 c57)⟩
theorem dX2_stepWeak_0 : decode cX2_stepWeak 0 = .ok (.iconst 0, 1) := by decide +kernel
theorem dX2_stepWeak_1 : decode cX2_stepWeak 1 = .ok (.istore_n 2, 1) := by decide +kernel
theorem dX2_stepWeak_2 : decode cX2_stepWeak 2 = .ok (.iconst 0, 1) := by decide +kernel
theorem dX2_stepWeak_3 : decode cX2_stepWeak 3 = .ok (.istore_n 3, 1) := by decide +kernel
theorem dX2_stepWeak_4 : decode cX2_stepWeak 4 = .ok (.iload_n 3, 1) := by decide +kernel
theorem dX2_stepWeak_5 : decode cX2_stepWeak 5 = .ok (.sipush 4096, 3) := by decide +kernel
theorem dX2_stepWeak_8 : decode cX2_stepWeak 8 = .ok (.if_icmp .ge 110, 3) := by decide +kernel
theorem dX2_stepWeak_11 : decode cX2_stepWeak 11 = .ok (.aload_n 0, 1) := by decide +kernel
theorem dX2_stepWeak_12 : decode cX2_stepWeak 12 = .ok (.getfield 42, 3) := by decide +kernel
theorem dX2_stepWeak_15 : decode cX2_stepWeak 15 = .ok (.iload_n 3, 1) := by decide +kernel
theorem dX2_stepWeak_16 : decode cX2_stepWeak 16 = .ok (.lconst 0, 1) := by decide +kernel
theorem dX2_stepWeak_17 : decode cX2_stepWeak 17 = .ok (.lastore, 1) := by decide +kernel
theorem dX2_stepWeak_18 : decode cX2_stepWeak 18 = .ok (.aload_n 0, 1) := by decide +kernel
theorem dX2_stepWeak_19 : decode cX2_stepWeak 19 = .ok (.getfield 30, 3) := by decide +kernel
theorem dX2_stepWeak_22 : decode cX2_stepWeak 22 = .ok (.iload_n 3, 1) := by decide +kernel
theorem dX2_stepWeak_23 : decode cX2_stepWeak 23 = .ok (.laload, 1) := by decide +kernel
theorem dX2_stepWeak_24 : decode cX2_stepWeak 24 = .ok (.aload_n 0, 1) := by decide +kernel
theorem dX2_stepWeak_25 : decode cX2_stepWeak 25 = .ok (.getfield 33, 3) := by decide +kernel
theorem dX2_stepWeak_28 : decode cX2_stepWeak 28 = .ok (.iload_n 3, 1) := by decide +kernel
theorem dX2_stepWeak_29 : decode cX2_stepWeak 29 = .ok (.laload, 1) := by decide +kernel
theorem dX2_stepWeak_30 : decode cX2_stepWeak 30 = .ok (.ldc2_w 83, 3) := by decide +kernel
theorem dX2_stepWeak_33 : decode cX2_stepWeak 33 = .ok (.lxor, 1) := by decide +kernel
theorem dX2_stepWeak_34 : decode cX2_stepWeak 34 = .ok (.land, 1) := by decide +kernel
theorem dX2_stepWeak_35 : decode cX2_stepWeak 35 = .ok (.lconst 0, 1) := by decide +kernel
theorem dX2_stepWeak_36 : decode cX2_stepWeak 36 = .ok (.lcmp, 1) := by decide +kernel
theorem dX2_stepWeak_37 : decode cX2_stepWeak 37 = .ok (.ifCond .eq 75, 3) := by decide +kernel
theorem dX2_stepWeak_40 : decode cX2_stepWeak 40 = .ok (.aload_n 0, 1) := by decide +kernel
theorem dX2_stepWeak_41 : decode cX2_stepWeak 41 = .ok (.getfield 26, 3) := by decide +kernel
theorem dX2_stepWeak_44 : decode cX2_stepWeak 44 = .ok (.iload_n 3, 1) := by decide +kernel
theorem dX2_stepWeak_45 : decode cX2_stepWeak 45 = .ok (.laload, 1) := by decide +kernel
theorem dX2_stepWeak_46 : decode cX2_stepWeak 46 = .ok (.aload_n 0, 1) := by decide +kernel
theorem dX2_stepWeak_47 : decode cX2_stepWeak 47 = .ok (.getfield 11, 3) := by decide +kernel
theorem dX2_stepWeak_50 : decode cX2_stepWeak 50 = .ok (.getfield 78, 3) := by decide +kernel
theorem dX2_stepWeak_53 : decode cX2_stepWeak 53 = .ok (.iload_n 3, 1) := by decide +kernel
theorem dX2_stepWeak_54 : decode cX2_stepWeak 54 = .ok (.bipush 64, 2) := by decide +kernel
theorem dX2_stepWeak_56 : decode cX2_stepWeak 56 = .ok (.irem, 1) := by decide +kernel
theorem dX2_stepWeak_57 : decode cX2_stepWeak 57 = .ok (.laload, 1) := by decide +kernel
theorem dX2_stepWeak_58 : decode cX2_stepWeak 58 = .ok (.lor, 1) := by decide +kernel
theorem dX2_stepWeak_59 : decode cX2_stepWeak 59 = .ok (.aload_n 0, 1) := by decide +kernel
theorem dX2_stepWeak_60 : decode cX2_stepWeak 60 = .ok (.getfield 39, 3) := by decide +kernel
theorem dX2_stepWeak_63 : decode cX2_stepWeak 63 = .ok (.iload_n 3, 1) := by decide +kernel
theorem dX2_stepWeak_64 : decode cX2_stepWeak 64 = .ok (.laload, 1) := by decide +kernel
theorem dX2_stepWeak_65 : decode cX2_stepWeak 65 = .ok (.lor, 1) := by decide +kernel
theorem dX2_stepWeak_66 : decode cX2_stepWeak 66 = .ok (.ldc2_w 83, 3) := by decide +kernel
theorem dX2_stepWeak_69 : decode cX2_stepWeak 69 = .ok (.lxor, 1) := by decide +kernel
theorem dX2_stepWeak_70 : decode cX2_stepWeak 70 = .ok (.lstore 4, 2) := by decide +kernel
theorem dX2_stepWeak_72 : decode cX2_stepWeak 72 = .ok (.aload_n 0, 1) := by decide +kernel
theorem dX2_stepWeak_73 : decode cX2_stepWeak 73 = .ok (.getfield 42, 3) := by decide +kernel
theorem dX2_stepWeak_76 : decode cX2_stepWeak 76 = .ok (.iload_n 3, 1) := by decide +kernel
theorem dX2_stepWeak_77 : decode cX2_stepWeak 77 = .ok (.aload_n 0, 1) := by decide +kernel
theorem dX2_stepWeak_78 : decode cX2_stepWeak 78 = .ok (.iload_n 3, 1) := by decide +kernel
theorem dX2_stepWeak_79 : decode cX2_stepWeak 79 = .ok (.lload 4, 2) := by decide +kernel
theorem dX2_stepWeak_81 : decode cX2_stepWeak 81 = .ok (.invokestatic 85, 3) := by decide +kernel
theorem dX2_stepWeak_84 : decode cX2_stepWeak 84 = .ok (.ldc2_w 83, 3) := by decide +kernel
theorem dX2_stepWeak_87 : decode cX2_stepWeak 87 = .ok (.lxor, 1) := by decide +kernel
theorem dX2_stepWeak_88 : decode cX2_stepWeak 88 = .ok (.iload_n 1, 1) := by decide +kernel
theorem dX2_stepWeak_89 : decode cX2_stepWeak 89 = .ok (.invokevirtual 111, 3) := by decide +kernel
theorem dX2_stepWeak_92 : decode cX2_stepWeak 92 = .ok (.lastore, 1) := by decide +kernel
theorem dX2_stepWeak_93 : decode cX2_stepWeak 93 = .ok (.iload_n 2, 1) := by decide +kernel
theorem dX2_stepWeak_94 : decode cX2_stepWeak 94 = .ok (.aload_n 0, 1) := by decide +kernel
theorem dX2_stepWeak_95 : decode cX2_stepWeak 95 = .ok (.getfield 42, 3) := by decide +kernel
theorem dX2_stepWeak_98 : decode cX2_stepWeak 98 = .ok (.iload_n 3, 1) := by decide +kernel
theorem dX2_stepWeak_99 : decode cX2_stepWeak 99 = .ok (.laload, 1) := by decide +kernel
theorem dX2_stepWeak_100 : decode cX2_stepWeak 100 = .ok (.lconst 0, 1) := by decide +kernel
theorem dX2_stepWeak_101 : decode cX2_stepWeak 101 = .ok (.lcmp, 1) := by decide +kernel
theorem dX2_stepWeak_102 : decode cX2_stepWeak 102 = .ok (.ifCond .eq 7, 3) := by decide +kernel
theorem dX2_stepWeak_105 : decode cX2_stepWeak 105 = .ok (.iconst 1, 1) := by decide +kernel
theorem dX2_stepWeak_106 : decode cX2_stepWeak 106 = .ok (.goto 4, 3) := by decide +kernel
theorem dX2_stepWeak_109 : decode cX2_stepWeak 109 = .ok (.iconst 0, 1) := by decide +kernel
theorem dX2_stepWeak_110 : decode cX2_stepWeak 110 = .ok (.ior, 1) := by decide +kernel
theorem dX2_stepWeak_111 : decode cX2_stepWeak 111 = .ok (.istore_n 2, 1) := by decide +kernel
theorem dX2_stepWeak_112 : decode cX2_stepWeak 112 = .ok (.iinc 3 1, 3) := by decide +kernel
theorem dX2_stepWeak_115 : decode cX2_stepWeak 115 = .ok (.goto (-111), 3) := by decide +kernel
theorem dX2_stepWeak_118 : decode cX2_stepWeak 118 = .ok (.iload_n 2, 1) := by decide +kernel
theorem dX2_stepWeak_119 : decode cX2_stepWeak 119 = .ok (.ireturn, 1) := by decide +kernel
def kX2_stepWeak_92 (mc ms : Nat) (X : Nat → zV) (Q : zQt) : zT :=
  zasl <| zli 2 <| zla 0 <| zgR 2 9 <| zli 3 <| zall <| zc (.long 0) <| zlc <| zif (fun x => x = 0) (zc (.int 0) <| zj X 110 [0, 1, 3]) <| zc (.int 1) <| zj X 110 [0, 1, 3]
def kX2_stepWeak_84 (mc ms : Nat) (X : Nat → zV) (Q : zQt) : zT :=
  zc (.long (-1)) <| zjj (fun x y => x ^^^ y) <| zli 1 <| zcv mc ms 2 3 wX2_gain <| kX2_stepWeak_92 mc ms X Q
def kX2_stepWeak_72 (mc ms : Nat) (X : Nat → zV) (Q : zQt) : zT :=
  zla 0 <| zgR 2 9 <| zli 3 <| zla 0 <| zli 3 <| zll 4 <| zcs mc ms 1 wX2_spread <| kX2_stepWeak_84 mc ms X Q
def aX2_stepWeak_0 (mc ms : Nat) (X : Nat → zV) (Q : zQt) : zT :=
  zc (.int 0) <| zsi 2 <| zc (.int 0) <| zsi 3 <| zj X 4 [0, 1, 2, 3]
def aX2_stepWeak_4 (mc ms : Nat) (X : Nat → zV) (Q : zQt) : zT :=
  zli 3 <| zc (.int 4096) <| zic (fun x y => y ≤ x) (zli 2 <| zrz .boolean Q) <| zla 0 <| zgR 2 9 <| zli 3 <| zc (.long 0) <| zasl <| zla 0 <| zgR 2 5 <| zli 3 <| zall <| zla 0 <| zgR 2 6 <| zli 3 <| zall <| zc (.long (-1)) <| zjj (fun x y => x ^^^ y) <| zjj (fun x y => x &&& y) <| zc (.long 0) <| zlc <| zif (fun x => x = 0) (zj X 112 [0, 1, 2, 3]) <| zla 0 <| zgR 2 4 <| zli 3 <| zall <| zla 0 <| zgR 2 0 <| zgR 1 1 <| zli 3 <| zc (.int 64) <| zid (fun x y => x - x / y * y) <| zall <| zjj (fun x y => x ||| y) <| zla 0 <| zgR 2 8 <| zli 3 <| zall <| zjj (fun x y => x ||| y) <| zc (.long (-1)) <| zjj (fun x y => x ^^^ y) <| zslN 4 <| kX2_stepWeak_72 mc ms X Q
def aX2_stepWeak_110 (mc ms : Nat) (X : Nat → zV) (Q : zQt) : zT :=
  zii (fun x y => x ||| y) <| zsi 2 <| zj X 112 [0, 1, 2, 3]
def aX2_stepWeak_112 (mc ms : Nat) (X : Nat → zV) (Q : zQt) : zT :=
  zinc 3 1 <| zj X 4 [0, 1, 2, 3]
def lvX2_stepWeak : Nat → List Nat := fun L => match L with
  | 0 => [0, 1]
  | 4 => [0, 1, 2, 3]
  | 110 => [0, 1, 3]
  | 112 => [0, 1, 2, 3]
  | _ => []
def wX2_stepWeak : zSp := fun mc ms av M Q => ((zlay av).length ≤ 6 ∧ zpick (zlay av) [0, 1] = some av) ∧ ∀ X : Nat → zV, zin 6 [0, 1] (aX2_stepWeak_0 mc ms X Q) X 0 → zin 6 [0, 1, 2, 3] (aX2_stepWeak_4 mc ms X Q) X 4 → zin 6 [0, 1, 3] (aX2_stepWeak_110 mc ms X Q) X 110 → zin 6 [0, 1, 2, 3] (aX2_stepWeak_112 mc ms X Q) X 112 → X 0 0 0 av [] M
set_option maxRecDepth 100000 in
set_option maxHeartbeats 4000000 in
theorem sX2_stepWeak (l : Launch) (G : zG) : zSnd l G yX2_stepWeak cX2_stepWeak 6 (some .boolean) 1 29 wX2_stepWeak := by
  refine zmk [0, 1] (by decide) (fun mc ms av M Q h => h.1) ?_
  intro p e R s m args below meth c mc ms av M Q hC hRf hRl hr hnm h lv hlv
  obtain ⟨X, hXe⟩ : ∃ X : Nat → zV, X = fun L u v vs st M => ∀ lv, zpick lv (lvX2_stepWeak L) = some vs → zAt p l e R s m args below meth c (MQ below (zQ G Q) args s mc ms (zA G)) G 6 L u v lv st M := ⟨_, rfl⟩
  have hJ : ∀ L, zOk p l e R s m args below meth c (MQ below (zQ G Q) args s mc ms (zA G)) G 6 L (zj X L (lvX2_stepWeak L)) := fun L => S_jump (fun u v lv vs st M hp hx => by rw [hXe] at hx; exact hx lv hp)
  have hB0 : zin 6 [0, 1] (aX2_stepWeak_0 mc ms X Q) X 0 := by
    intro u v vs st M hb
    rw [hXe]
    refine fun lv hp => S_block (L := 0) (live := [0, 1]) ?_ u v lv vs st M hp hb
    unfold aX2_stepWeak_0
    refine S_iconst (pc := 0) hC dX2_stepWeak_0 (by decide) ?_
    refine S_istore_n (pc := 1) hC dX2_stepWeak_1 rfl (by decide) ?_
    refine S_iconst (pc := 2) hC dX2_stepWeak_2 (by decide) ?_
    refine S_istore_n (pc := 3) hC dX2_stepWeak_3 rfl (by decide) ?_
    exact hJ 4
  have hB4 : zin 6 [0, 1, 2, 3] (aX2_stepWeak_4 mc ms X Q) X 4 := by
    intro u v vs st M hb
    rw [hXe]
    refine fun lv hp => S_block (L := 4) (live := [0, 1, 2, 3]) ?_ u v lv vs st M hp hb
    unfold aX2_stepWeak_4
    refine S_iload_n (pc := 4) hC dX2_stepWeak_4 rfl ?_
    refine S_sipush (pc := 5) hC dX2_stepWeak_5 (by decide) ?_
    refine S_icmp_ge (pc := 8) (tgt := 118) hC dX2_stepWeak_8 (by decide) ?_ ?_
    · refine S_iload_n (pc := 118) hC dX2_stepWeak_118 rfl ?_
      exact S_zreturn (pc := 119) hC hr dX2_stepWeak_119
    · refine S_aload_n (pc := 11) hC dX2_stepWeak_11 rfl ?_
      refine S_getR (pc := 12) hC cfX2 (by decide) (Or.inr ⟨_, rfl⟩) wd_1083 dX2_stepWeak_12 ?_
      refine S_iload_n (pc := 15) hC dX2_stepWeak_15 rfl ?_
      refine S_lconst (pc := 16) hC dX2_stepWeak_16 (by decide) ?_
      refine S_lastore (pc := 17) hC dX2_stepWeak_17 ?_
      refine S_aload_n (pc := 18) hC dX2_stepWeak_18 rfl ?_
      refine S_getR (pc := 19) hC cfX2 (by decide) (Or.inr ⟨_, rfl⟩) wd_1079 dX2_stepWeak_19 ?_
      refine S_iload_n (pc := 22) hC dX2_stepWeak_22 rfl ?_
      refine S_laload (pc := 23) hC dX2_stepWeak_23 ?_
      refine S_aload_n (pc := 24) hC dX2_stepWeak_24 rfl ?_
      refine S_getR (pc := 25) hC cfX2 (by decide) (Or.inr ⟨_, rfl⟩) wd_1080 dX2_stepWeak_25 ?_
      refine S_iload_n (pc := 28) hC dX2_stepWeak_28 rfl ?_
      refine S_laload (pc := 29) hC dX2_stepWeak_29 ?_
      refine S_ldc2 (pc := 30) hC wd_1125 dX2_stepWeak_30 ?_
      refine S_lxor (pc := 33) hC dX2_stepWeak_33 ?_
      refine S_land (pc := 34) hC dX2_stepWeak_34 ?_
      refine S_lconst (pc := 35) hC dX2_stepWeak_35 (by decide) ?_
      refine S_lcmp (pc := 36) hC dX2_stepWeak_36 ?_
      refine S_if_eq (pc := 37) (tgt := 112) hC dX2_stepWeak_37 (by decide) ?_ ?_
      · exact hJ 112
      · refine S_aload_n (pc := 40) hC dX2_stepWeak_40 rfl ?_
        refine S_getR (pc := 41) hC cfX2 (by decide) (Or.inr ⟨_, rfl⟩) wd_1078 dX2_stepWeak_41 ?_
        refine S_iload_n (pc := 44) hC dX2_stepWeak_44 rfl ?_
        refine S_laload (pc := 45) hC dX2_stepWeak_45 ?_
        refine S_aload_n (pc := 46) hC dX2_stepWeak_46 rfl ?_
        refine S_getR (pc := 47) hC cfX2 (by decide) (Or.inl ⟨_, rfl⟩) wd_1074 dX2_stepWeak_47 ?_
        refine S_getR (pc := 50) hC cfX1 (by decide) (Or.inr ⟨_, rfl⟩) wd_61 dX2_stepWeak_50 ?_
        refine S_iload_n (pc := 53) hC dX2_stepWeak_53 rfl ?_
        refine S_bipush (pc := 54) hC dX2_stepWeak_54 (by decide) ?_
        refine S_irem (pc := 56) hC dX2_stepWeak_56 ?_
        refine S_laload (pc := 57) hC dX2_stepWeak_57 ?_
        refine S_lor (pc := 58) hC dX2_stepWeak_58 ?_
        refine S_aload_n (pc := 59) hC dX2_stepWeak_59 rfl ?_
        refine S_getR (pc := 60) hC cfX2 (by decide) (Or.inr ⟨_, rfl⟩) wd_1082 dX2_stepWeak_60 ?_
        refine S_iload_n (pc := 63) hC dX2_stepWeak_63 rfl ?_
        refine S_laload (pc := 64) hC dX2_stepWeak_64 ?_
        refine S_lor (pc := 65) hC dX2_stepWeak_65 ?_
        refine S_ldc2 (pc := 66) hC wd_1125 dX2_stepWeak_66 ?_
        refine S_lxor (pc := 69) hC dX2_stepWeak_69 ?_
        refine S_lstore_N (pc := 70) hC dX2_stepWeak_70 (by decide) ?_
        unfold kX2_stepWeak_72
        refine S_aload_n (pc := 72) hC dX2_stepWeak_72 rfl ?_
        refine S_getR (pc := 73) hC cfX2 (by decide) (Or.inr ⟨_, rfl⟩) wd_1083 dX2_stepWeak_73 ?_
        refine S_iload_n (pc := 76) hC dX2_stepWeak_76 rfl ?_
        refine S_aload_n (pc := 77) hC dX2_stepWeak_77 rfl ?_
        refine S_iload_n (pc := 78) hC dX2_stepWeak_78 rfl ?_
        refine S_lload (pc := 79) hC dX2_stepWeak_79 ?_
        refine S_callS (pc := 81) hC (sX2_spread l G) wd_1126 wd_1127 wd_28 wd_1128 (by decide +kernel) ⟨by rw [hRf]; decide, by rw [hRl]; decide⟩ dX2_stepWeak_81 ?_
        unfold kX2_stepWeak_84
        refine S_ldc2 (pc := 84) hC wd_1125 dX2_stepWeak_84 ?_
        refine S_lxor (pc := 87) hC dX2_stepWeak_87 ?_
        refine S_iload_n (pc := 88) hC dX2_stepWeak_88 rfl ?_
        refine S_callV (pc := 89) hC (sX2_gain l G) rfl wd_1138 wd_1140 ws_47 wd_28 wd_1141 (by decide +kernel) ⟨by rw [hRf]; decide, by rw [hRl]; decide⟩ dX2_stepWeak_89 ?_
        unfold kX2_stepWeak_92
        refine S_lastore (pc := 92) hC dX2_stepWeak_92 ?_
        refine S_iload_n (pc := 93) hC dX2_stepWeak_93 rfl ?_
        refine S_aload_n (pc := 94) hC dX2_stepWeak_94 rfl ?_
        refine S_getR (pc := 95) hC cfX2 (by decide) (Or.inr ⟨_, rfl⟩) wd_1083 dX2_stepWeak_95 ?_
        refine S_iload_n (pc := 98) hC dX2_stepWeak_98 rfl ?_
        refine S_laload (pc := 99) hC dX2_stepWeak_99 ?_
        refine S_lconst (pc := 100) hC dX2_stepWeak_100 (by decide) ?_
        refine S_lcmp (pc := 101) hC dX2_stepWeak_101 ?_
        refine S_if_eq (pc := 102) (tgt := 109) hC dX2_stepWeak_102 (by decide) ?_ ?_
        · refine S_iconst (pc := 109) hC dX2_stepWeak_109 (by decide) ?_
          exact hJ 110
        · refine S_iconst (pc := 105) hC dX2_stepWeak_105 (by decide) ?_
          refine S_goto (pc := 106) (tgt := 110) hC dX2_stepWeak_106 (by decide) ?_
          exact hJ 110
  have hB110 : zin 6 [0, 1, 3] (aX2_stepWeak_110 mc ms X Q) X 110 := by
    intro u v vs st M hb
    rw [hXe]
    refine fun lv hp => S_block (L := 110) (live := [0, 1, 3]) ?_ u v lv vs st M hp hb
    unfold aX2_stepWeak_110
    refine S_ior (pc := 110) hC dX2_stepWeak_110 ?_
    refine S_istore_n (pc := 111) hC dX2_stepWeak_111 rfl (by decide) ?_
    exact hJ 112
  have hB112 : zin 6 [0, 1, 2, 3] (aX2_stepWeak_112 mc ms X Q) X 112 := by
    intro u v vs st M hb
    rw [hXe]
    refine fun lv hp => S_block (L := 112) (live := [0, 1, 2, 3]) ?_ u v lv vs st M hp hb
    unfold aX2_stepWeak_112
    refine S_iinc (pc := 112) hC dX2_stepWeak_112 (by decide) (by decide) ?_
    refine S_goto (pc := 115) (tgt := 4) hC dX2_stepWeak_115 (by decide) ?_
    exact hJ 4
  have := h.2 X hB0 hB4 hB110 hB112
  rw [hXe] at this
  exact this lv hlv
theorem vX2_stepWeak_0 {mc ms : Nat} {X : Nat → zV} {Q : zQt} {M : zM} {g : Nat} {x0 : Nat} {x1 : Int32} (hW : zWd M g) (hx0 : zsh M x0 = some (0, 2)) (h : X 4 0 0 [.ref x0, .int x1, .int 0, .int 0] [] M) : aX2_stepWeak_0 mc ms X Q 0 0 [some (.ref x0), some (.int x1), none, none, none, none] [] M := h
theorem vcX2_stepWeak_72 {mc ms : Nat} {X : Nat → zV} {Q : zQt} {M : zM} {g : Nat} {x0 : Nat} {x1 : Int32} {x2 : Int32} {x3 : Int32} {x4 : Int64} (hW : zWd M g) (hx0 : zsh M x0 = some (0, 2)) (h : ∃ r73 r73n, ((M : zM).2.2.1 x0 9) = some r73 ∧ zsh M r73 = some (2, r73n) ∧ wX2_spread 0 0 [.long x4] M (fun r M1 => kX2_stepWeak_84 mc ms X Q 0 0 [some (.ref x0), some (.int x1), some (.int x2), some (.int x3), some (.long x4), none] (r.toList ++ [.int x3, .ref x0, .int x3, .ref r73]) M1)) : kX2_stepWeak_72 mc ms X Q 0 0 [some (.ref x0), some (.int x1), some (.int x2), some (.int x3), some (.long x4), none] [] M := (let ⟨r73, r73n, q73, hr73, h73⟩ := h; ⟨hx0, r73, q73, ⟨Nat.le_of_ble_eq_true rfl, rfl, 0, 0, Nat.zero_le _, Nat.zero_le _, h73⟩⟩)
theorem vX2_stepWeak_4 {mc ms : Nat} {X : Nat → zV} {Q : zQt} {M : zM} {g : Nat} {x0 : Nat} {x1 : Int32} {x2 : Int32} {x3 : Int32} (hW : zWd M g) (hx0 : zsh M x0 = some (0, 2)) (h : ((4096 : Int32) ≤ x3 → narrow .boolean (.int x2) = .int x2 ∧ Q (some (.int x2)) M) ∧ (¬ (4096 : Int32) ≤ x3 → ∃ r12 r12n, ((M : zM).2.2.1 x0 9) = some r12 ∧ zsh M r12 = some (2, r12n) ∧ vp_in x3 r12n ∧ ∀ M17 : zM, M17 = (zsJ M r12 (x3 : Int32).toNatClampNeg 0) → ∃ r19 r19n, ((M17 : zM).2.2.1 x0 5) = some r19 ∧ zsh M17 r19 = some (2, r19n) ∧ vp_in x3 r19n ∧ ∃ r25 r25n, ((M17 : zM).2.2.1 x0 6) = some r25 ∧ zsh M17 r25 = some (2, r25n) ∧ vp_in x3 r25n ∧ ((lg_cmp ((((M17 : zM).2.1 r19 (x3 : Int32).toNatClampNeg) &&& (((M17 : zM).2.1 r25 (x3 : Int32).toNatClampNeg) ^^^ ((-1) : Int64)))) ((0 : Int64))) = 0 → X 112 0 0 [.ref x0, .int x1, .int x2, .int x3] [] M17) ∧ (¬ (lg_cmp ((((M17 : zM).2.1 r19 (x3 : Int32).toNatClampNeg) &&& (((M17 : zM).2.1 r25 (x3 : Int32).toNatClampNeg) ^^^ ((-1) : Int64)))) ((0 : Int64))) = 0 → ∃ r41 r41n, ((M17 : zM).2.2.1 x0 4) = some r41 ∧ zsh M17 r41 = some (2, r41n) ∧ vp_in x3 r41n ∧ ∃ r47, ((M17 : zM).2.2.1 x0 0) = some r47 ∧ zsh M17 r47 = some (0, 1) ∧ ∃ r50 r50n, ((M17 : zM).2.2.1 r47 1) = some r50 ∧ zsh M17 r50 = some (2, r50n) ∧ vp_in ((x3 - x3 / (64 : Int32) * (64 : Int32))) r50n ∧ ∃ r60 r60n, ((M17 : zM).2.2.1 x0 8) = some r60 ∧ zsh M17 r60 = some (2, r60n) ∧ vp_in x3 r60n ∧ ∀ y70 : Int64, y70 = (((((M17 : zM).2.1 r41 (x3 : Int32).toNatClampNeg) ||| ((M17 : zM).2.1 r50 ((x3 - x3 / (64 : Int32) * (64 : Int32)) : Int32).toNatClampNeg)) ||| ((M17 : zM).2.1 r60 (x3 : Int32).toNatClampNeg)) ^^^ ((-1) : Int64)) → ∃ r73 r73n, ((M17 : zM).2.2.1 x0 9) = some r73 ∧ zsh M17 r73 = some (2, r73n) ∧ wX2_spread 0 0 [.long y70] M17 (fun r M1 => kX2_stepWeak_84 mc ms X Q 0 0 [some (.ref x0), some (.int x1), some (.int x2), some (.int x3), some (.long y70), none] (r.toList ++ [.int x3, .ref x0, .int x3, .ref r73]) M1)))) : aX2_stepWeak_4 mc ms X Q 0 0 [some (.ref x0), some (.int x1), some (.int x2), some (.int x3), none, none] [] M := ⟨fun c8 => (h.1 c8), fun c8 => (let ⟨r12, r12n, q12, hr12, h12⟩ := (h.2 c8); ⟨hx0, r12, q12, ⟨r12n, hr12, h12.1, (have h17 := h12.2 _ rfl; (let ⟨r19, r19n, q19, hr19, h19⟩ := h17; ⟨hx0, r19, q19, ⟨r19n, hr19, h19.1, (let ⟨r25, r25n, q25, hr25, h25⟩ := h19.2; ⟨hx0, r25, q25, ⟨r25n, hr25, h25.1, ⟨fun c37 => (h25.2.1 c37), fun c37 => (let ⟨r41, r41n, q41, hr41, h41⟩ := (h25.2.2 c37); ⟨hx0, r41, q41, ⟨r41n, hr41, h41.1, (let ⟨r47, q47, hr47, h47⟩ := h41.2; ⟨hx0, r47, q47, (let ⟨r50, r50n, q50, hr50, h50⟩ := h47; ⟨hr47, r50, q50, ⟨by decide, ⟨r50n, hr50, h50.1, (let ⟨r60, r60n, q60, hr60, h60⟩ := h50.2; ⟨hx0, r60, q60, ⟨r60n, hr60, h60.1, (fun y70 e70 => have h70 := h60.2 y70 e70; (vcX2_stepWeak_72 hW hx0 h70))⟩⟩)⟩⟩⟩)⟩)⟩⟩)⟩⟩⟩)⟩⟩))⟩⟩)⟩
theorem vX2_stepWeak_110 {mc ms : Nat} {X : Nat → zV} {Q : zQt} {M : zM} {g : Nat} {x0 : Nat} {x1 : Int32} {x3 : Int32} {s0 : Int32} {s1 : Int32} (hW : zWd M g) (hx0 : zsh M x0 = some (0, 2)) (h : X 112 0 0 [.ref x0, .int x1, .int (s1 ||| s0), .int x3] [] M) : aX2_stepWeak_110 mc ms X Q 0 0 [some (.ref x0), some (.int x1), none, some (.int x3), none, none] [.int s0, .int s1] M := h
theorem vX2_stepWeak_112 {mc ms : Nat} {X : Nat → zV} {Q : zQt} {M : zM} {g : Nat} {x0 : Nat} {x1 : Int32} {x2 : Int32} {x3 : Int32} (hW : zWd M g) (hx0 : zsh M x0 = some (0, 2)) (h : X 4 0 0 [.ref x0, .int x1, .int x2, .int (x3 + 1)] [] M) : aX2_stepWeak_112 mc ms X Q 0 0 [some (.ref x0), some (.int x1), some (.int x2), some (.int x3), none, none] [] M := h
theorem vkX2_stepWeak_84 {mc ms : Nat} {X : Nat → zV} {Q : zQt} {M : zM} {g : Nat} {x0 : Nat} {x1 : Int32} {x2 : Int32} {x3 : Int32} {x4 : Int64} {s0 : Int64} {s1 : Int32} {s2 : Nat} {s3 : Int32} {s4 : Nat} {s4n : Nat} (hW : zWd M g) (hx0 : zsh M x0 = some (0, 2)) (hs2 : zsh M s2 = some (0, 2)) (hs4 : zsh M s4 = some (2, s4n)) (h : wX2_gain 0 0 [.ref s2, .int s1, .long (s0 ^^^ ((-1) : Int64)), .int x1] M (fun r M1 => kX2_stepWeak_92 mc ms X Q 0 0 [some (.ref x0), some (.int x1), some (.int x2), some (.int x3), some (.long x4), none] (r.toList ++ [.int s3, .ref s4]) M1)) : kX2_stepWeak_84 mc ms X Q 0 0 [some (.ref x0), some (.int x1), some (.int x2), some (.int x3), some (.long x4), none] [.long s0, .int s1, .ref s2, .int s3, .ref s4] M := ⟨Nat.le_of_ble_eq_true rfl, rfl, hs2, 0, 0, Nat.zero_le _, Nat.zero_le _, h⟩
theorem vkX2_stepWeak_92 {mc ms : Nat} {X : Nat → zV} {Q : zQt} {M : zM} {g : Nat} {x0 : Nat} {x1 : Int32} {x2 : Int32} {x3 : Int32} {x4 : Int64} {s0 : Int64} {s1 : Int32} {s2 : Nat} {s2n : Nat} (hW : zWd M g) (hx0 : zsh M x0 = some (0, 2)) (hs2 : zsh M s2 = some (2, s2n)) (h : vp_in s1 s2n ∧ ∀ M92 : zM, M92 = (zsJ M s2 (s1 : Int32).toNatClampNeg s0) → ∃ r95 r95n, ((M92 : zM).2.2.1 x0 9) = some r95 ∧ zsh M92 r95 = some (2, r95n) ∧ vp_in x3 r95n ∧ ((lg_cmp (((M92 : zM).2.1 r95 (x3 : Int32).toNatClampNeg)) ((0 : Int64))) = 0 → X 110 0 0 [.ref x0, .int x1, .int x3] [.int 0, .int x2] M92) ∧ (¬ (lg_cmp (((M92 : zM).2.1 r95 (x3 : Int32).toNatClampNeg)) ((0 : Int64))) = 0 → X 110 0 0 [.ref x0, .int x1, .int x3] [.int 1, .int x2] M92)) : kX2_stepWeak_92 mc ms X Q 0 0 [some (.ref x0), some (.int x1), some (.int x2), some (.int x3), some (.long x4), none] [.long s0, .int s1, .ref s2] M := ⟨s2n, hs2, h.1, (have h92 := h.2 _ rfl; (let ⟨r95, r95n, q95, hr95, h95⟩ := h92; ⟨hx0, r95, q95, ⟨r95n, hr95, h95.1, ⟨fun c102 => (h95.2.1 c102), fun c102 => (h95.2.2 c102)⟩⟩⟩))⟩
theorem dX4_init_0 : decode cX4_init 0 = .ok (.aload_n 0, 1) := by decide +kernel
theorem dX4_init_1 : decode cX4_init 1 = .ok (.invokespecial 3, 3) := by decide +kernel
theorem dX4_init_4 : decode cX4_init 4 = .ok (.aload_n 0, 1) := by decide +kernel
theorem dX4_init_5 : decode cX4_init 5 = .ok (.new 9, 3) := by decide +kernel
theorem dX4_init_8 : decode cX4_init 8 = .ok (.dup, 1) := by decide +kernel
theorem dX4_init_9 : decode cX4_init 9 = .ok (.aload_n 1, 1) := by decide +kernel
theorem dX4_init_10 : decode cX4_init 10 = .ok (.invokespecial 11, 3) := by decide +kernel
theorem dX4_init_13 : decode cX4_init 13 = .ok (.putfield 14, 3) := by decide +kernel
theorem dX4_init_16 : decode cX4_init 16 = .ok (.aload_n 0, 1) := by decide +kernel
theorem dX4_init_17 : decode cX4_init 17 = .ok (.new 20, 3) := by decide +kernel
theorem dX4_init_20 : decode cX4_init 20 = .ok (.dup, 1) := by decide +kernel
theorem dX4_init_21 : decode cX4_init 21 = .ok (.aload_n 0, 1) := by decide +kernel
theorem dX4_init_22 : decode cX4_init 22 = .ok (.getfield 14, 3) := by decide +kernel
theorem dX4_init_25 : decode cX4_init 25 = .ok (.aload_n 1, 1) := by decide +kernel
theorem dX4_init_26 : decode cX4_init 26 = .ok (.invokespecial 22, 3) := by decide +kernel
theorem dX4_init_29 : decode cX4_init 29 = .ok (.putfield 25, 3) := by decide +kernel
theorem dX4_init_32 : decode cX4_init 32 = .ok (.aload_n 0, 1) := by decide +kernel
theorem dX4_init_33 : decode cX4_init 33 = .ok (.sipush 384, 3) := by decide +kernel
theorem dX4_init_36 : decode cX4_init 36 = .ok (.newarray .int, 2) := by decide +kernel
theorem dX4_init_38 : decode cX4_init 38 = .ok (.putfield 29, 3) := by decide +kernel
theorem dX4_init_41 : decode cX4_init 41 = .ok (.aload_n 0, 1) := by decide +kernel
theorem dX4_init_42 : decode cX4_init 42 = .ok (.sipush 4808, 3) := by decide +kernel
theorem dX4_init_45 : decode cX4_init 45 = .ok (.newarray .int, 2) := by decide +kernel
theorem dX4_init_47 : decode cX4_init 47 = .ok (.putfield 33, 3) := by decide +kernel
theorem dX4_init_50 : decode cX4_init 50 = .ok (.aload_n 0, 1) := by decide +kernel
theorem dX4_init_51 : decode cX4_init 51 = .ok (.sipush 3005, 3) := by decide +kernel
theorem dX4_init_54 : decode cX4_init 54 = .ok (.newarray .long, 2) := by decide +kernel
theorem dX4_init_56 : decode cX4_init 56 = .ok (.putfield 36, 3) := by decide +kernel
theorem dX4_init_59 : decode cX4_init 59 = .ok (.return_, 1) := by decide +kernel
def kX4_init_29 (mc ms : Nat) (X : Nat → zV) (Q : zQt) : zT :=
  zpr 4 1 <| zla 0 <| zc (.int 384) <| zna mc ms 1 <| zpr 4 2 <| zla 0 <| zc (.int 4808) <| zna mc ms 1 <| zpr 4 5 <| zla 0 <| zc (.int 3005) <| zna mc ms 2 <| zpr 4 6 <| zrv Q
def kX4_init_13 (mc ms : Nat) (X : Nat → zV) (Q : zQt) : zT :=
  zpr 4 0 <| zla 0 <| znew mc ms 5 <| zdup <| zla 0 <| zgR 4 0 <| zla 1 <| zci mc ms 2 wX5_init <| kX4_init_29 mc ms X Q
def aX4_init_0 (mc ms : Nat) (X : Nat → zV) (Q : zQt) : zT :=
  zla 0 <| zoi <| zla 0 <| znew mc ms 0 <| zdup <| zla 1 <| zci mc ms 1 wX0_init <| kX4_init_13 mc ms X Q
def lvX4_init : Nat → List Nat := fun L => match L with
  | 0 => [0, 1]
  | _ => []
def wX4_init : zSp := fun mc ms av M Q => ((zlay av).length ≤ 2 ∧ zpick (zlay av) [0, 1] = some av) ∧ ∀ X : Nat → zV, zin 2 [0, 1] (aX4_init_0 mc ms X Q) X 0 → X 0 0 0 av [] M
set_option maxRecDepth 100000 in
set_option maxHeartbeats 4000000 in
theorem sX4_init (l : Launch) (G : zG) : zSnd l G yX4_init cX4_init 2 none 2 42 wX4_init := by
  refine zmk [0, 1] (by decide) (fun mc ms av M Q h => h.1) ?_
  intro p e R s m args below meth c mc ms av M Q hC hRf hRl hr hnm h lv hlv
  obtain ⟨X, hXe⟩ : ∃ X : Nat → zV, X = fun L u v vs st M => ∀ lv, zpick lv (lvX4_init L) = some vs → zAt p l e R s m args below meth c (MQ below (zQ G Q) args s mc ms (zA G)) G 2 L u v lv st M := ⟨_, rfl⟩
  have hJ : ∀ L, zOk p l e R s m args below meth c (MQ below (zQ G Q) args s mc ms (zA G)) G 2 L (zj X L (lvX4_init L)) := fun L => S_jump (fun u v lv vs st M hp hx => by rw [hXe] at hx; exact hx lv hp)
  have hB0 : zin 2 [0, 1] (aX4_init_0 mc ms X Q) X 0 := by
    intro u v vs st M hb
    rw [hXe]
    refine fun lv hp => S_block (L := 0) (live := [0, 1]) ?_ u v lv vs st M hp hb
    unfold aX4_init_0
    refine S_aload_n (pc := 0) hC dX4_init_0 rfl ?_
    refine S_objInit (pc := 1) hC wd_205 wd_35 wd_36 (by rw [hRf]; decide) (by rw [hRl]; decide) dX4_init_1 ?_
    refine S_aload_n (pc := 4) hC dX4_init_4 rfl ?_
    refine S_new (pc := 5) hC cfX0 (by decide) wd_206 wd_207 wd_10 dX4_init_5 ?_
    refine S_dup (pc := 8) hC dX4_init_8 ?_
    refine S_aload_n (pc := 9) hC dX4_init_9 rfl ?_
    refine S_callI (pc := 10) hC (sX0_init l G) wd_208 wd_209 wd_10 wd_210 rfl (by decide +kernel) ⟨by rw [hRf]; decide, by rw [hRl]; decide⟩ dX4_init_10 ?_
    unfold kX4_init_13
    refine S_putr (pc := 13) hC cfX4 (by decide) (Or.inl ⟨_, rfl⟩) (Or.inr ⟨rfl, hnm, rfl⟩) wd_307 dX4_init_13 ?_
    refine S_aload_n (pc := 16) hC dX4_init_16 rfl ?_
    refine S_new (pc := 17) hC cfX5 (by decide) wd_288 wd_289 wd_11 dX4_init_17 ?_
    refine S_dup (pc := 20) hC dX4_init_20 ?_
    refine S_aload_n (pc := 21) hC dX4_init_21 rfl ?_
    refine S_getR (pc := 22) hC cfX4 (by decide) (Or.inl ⟨_, rfl⟩) wd_307 dX4_init_22 ?_
    refine S_aload_n (pc := 25) hC dX4_init_25 rfl ?_
    refine S_callI (pc := 26) hC (sX5_init l G) wd_290 wd_291 wd_11 wd_292 rfl (by decide +kernel) ⟨by rw [hRf]; decide, by rw [hRl]; decide⟩ dX4_init_26 ?_
    unfold kX4_init_29
    refine S_putr (pc := 29) hC cfX4 (by decide) (Or.inl ⟨_, rfl⟩) (Or.inr ⟨rfl, hnm, rfl⟩) wd_312 dX4_init_29 ?_
    refine S_aload_n (pc := 32) hC dX4_init_32 rfl ?_
    refine S_sipush (pc := 33) hC dX4_init_33 (by decide) ?_
    refine S_newa_int (pc := 36) hC wd_100 dX4_init_36 ?_
    refine S_putr (pc := 38) hC cfX4 (by decide) (Or.inr ⟨_, rfl⟩) (Or.inr ⟨rfl, hnm, rfl⟩) wd_315 dX4_init_38 ?_
    refine S_aload_n (pc := 41) hC dX4_init_41 rfl ?_
    refine S_sipush (pc := 42) hC dX4_init_42 (by decide) ?_
    refine S_newa_int (pc := 45) hC wd_100 dX4_init_45 ?_
    refine S_putr (pc := 47) hC cfX4 (by decide) (Or.inr ⟨_, rfl⟩) (Or.inr ⟨rfl, hnm, rfl⟩) wd_328 dX4_init_47 ?_
    refine S_aload_n (pc := 50) hC dX4_init_50 rfl ?_
    refine S_sipush (pc := 51) hC dX4_init_51 (by decide) ?_
    refine S_newa_long (pc := 54) hC wd_88 dX4_init_54 ?_
    refine S_putr (pc := 56) hC cfX4 (by decide) (Or.inr ⟨_, rfl⟩) (Or.inr ⟨rfl, hnm, rfl⟩) wd_330 dX4_init_56 ?_
    exact S_vreturn (pc := 59) hC hr dX4_init_59
  have := h.2 X hB0
  rw [hXe] at this
  exact this lv hlv
theorem dX4_latestSame_0 : decode cX4_latestSame 0 = .ok (.iconst 0, 1) := by decide +kernel
theorem dX4_latestSame_1 : decode cX4_latestSame 1 = .ok (.iload_n 1, 1) := by decide +kernel
theorem dX4_latestSame_2 : decode cX4_latestSame 2 = .ok (.aload_n 0, 1) := by decide +kernel
theorem dX4_latestSame_3 : decode cX4_latestSame 3 = .ok (.getfield 14, 3) := by decide +kernel
theorem dX4_latestSame_6 : decode cX4_latestSame 6 = .ok (.getfield 58, 3) := by decide +kernel
theorem dX4_latestSame_9 : decode cX4_latestSame 9 = .ok (.isub, 1) := by decide +kernel
theorem dX4_latestSame_10 : decode cX4_latestSame 10 = .ok (.invokestatic 95, 3) := by decide +kernel
theorem dX4_latestSame_13 : decode cX4_latestSame 13 = .ok (.istore_n 2, 1) := by decide +kernel
theorem dX4_latestSame_14 : decode cX4_latestSame 14 = .ok (.iload_n 1, 1) := by decide +kernel
theorem dX4_latestSame_15 : decode cX4_latestSame 15 = .ok (.iconst 1, 1) := by decide +kernel
theorem dX4_latestSame_16 : decode cX4_latestSame 16 = .ok (.isub, 1) := by decide +kernel
theorem dX4_latestSame_17 : decode cX4_latestSame 17 = .ok (.istore_n 3, 1) := by decide +kernel
theorem dX4_latestSame_18 : decode cX4_latestSame 18 = .ok (.iload_n 3, 1) := by decide +kernel
theorem dX4_latestSame_19 : decode cX4_latestSame 19 = .ok (.iload_n 2, 1) := by decide +kernel
theorem dX4_latestSame_20 : decode cX4_latestSame 20 = .ok (.if_icmp .lt 24, 3) := by decide +kernel
theorem dX4_latestSame_23 : decode cX4_latestSame 23 = .ok (.aload_n 0, 1) := by decide +kernel
theorem dX4_latestSame_24 : decode cX4_latestSame 24 = .ok (.iload_n 3, 1) := by decide +kernel
theorem dX4_latestSame_25 : decode cX4_latestSame 25 = .ok (.iconst 5, 1) := by decide +kernel
theorem dX4_latestSame_26 : decode cX4_latestSame 26 = .ok (.imul, 1) := by decide +kernel
theorem dX4_latestSame_27 : decode cX4_latestSame 27 = .ok (.iload_n 1, 1) := by decide +kernel
theorem dX4_latestSame_28 : decode cX4_latestSame 28 = .ok (.iconst 5, 1) := by decide +kernel
theorem dX4_latestSame_29 : decode cX4_latestSame 29 = .ok (.imul, 1) := by decide +kernel
theorem dX4_latestSame_30 : decode cX4_latestSame 30 = .ok (.invokevirtual 101, 3) := by decide +kernel
theorem dX4_latestSame_33 : decode cX4_latestSame 33 = .ok (.ifCond .eq 5, 3) := by decide +kernel
theorem dX4_latestSame_36 : decode cX4_latestSame 36 = .ok (.iload_n 3, 1) := by decide +kernel
theorem dX4_latestSame_37 : decode cX4_latestSame 37 = .ok (.ireturn, 1) := by decide +kernel
theorem dX4_latestSame_38 : decode cX4_latestSame 38 = .ok (.iinc 3 (-1), 3) := by decide +kernel
theorem dX4_latestSame_41 : decode cX4_latestSame 41 = .ok (.goto (-23), 3) := by decide +kernel
theorem dX4_latestSame_44 : decode cX4_latestSame 44 = .ok (.iconst (-1), 1) := by decide +kernel
theorem dX4_latestSame_45 : decode cX4_latestSame 45 = .ok (.ireturn, 1) := by decide +kernel
def kX4_latestSame_14 (mc ms : Nat) (X : Nat → zV) (Q : zQt) : zT :=
  zli 1 <| zc (.int 1) <| zii (fun x y => x - y) <| zsi 3 <| zj X 18 [0, 1, 2, 3]
def kX4_latestSame_33 (mc ms : Nat) (X : Nat → zV) (Q : zQt) : zT :=
  zif (fun x => x = 0) (zinc 3 (-1) <| zj X 18 [0, 1, 2, 3]) <| zli 3 <| zri Q
def aX4_latestSame_0 (mc ms : Nat) (X : Nat → zV) (Q : zQt) : zT :=
  zc (.int 0) <| zli 1 <| zla 0 <| zgR 4 0 <| zgi 0 7 <| zii (fun x y => x - y) <| zmx <| zsiN 2 <| kX4_latestSame_14 mc ms X Q
def aX4_latestSame_18 (mc ms : Nat) (X : Nat → zV) (Q : zQt) : zT :=
  zli 3 <| zli 2 <| zic (fun x y => x < y) (zc (.int (-1)) <| zri Q) <| zla 0 <| zli 3 <| zc (.int 5) <| zii (fun x y => x * y) <| zli 1 <| zc (.int 5) <| zii (fun x y => x * y) <| zcv mc ms 4 2 wX4_isSame <| kX4_latestSame_33 mc ms X Q
def lvX4_latestSame : Nat → List Nat := fun L => match L with
  | 0 => [0, 1]
  | 18 => [0, 1, 2, 3]
  | _ => []
def wX4_latestSame : zSp := fun mc ms av M Q => ((zlay av).length ≤ 4 ∧ zpick (zlay av) [0, 1] = some av) ∧ ∀ X : Nat → zV, zin 4 [0, 1] (aX4_latestSame_0 mc ms X Q) X 0 → zin 4 [0, 1, 2, 3] (aX4_latestSame_18 mc ms X Q) X 18 → X 0 0 0 av [] M
set_option maxRecDepth 100000 in
set_option maxHeartbeats 4000000 in
theorem sX4_latestSame (l : Launch) (G : zG) : zSnd l G yX4_latestSame cX4_latestSame 4 (some .int) 1 23 wX4_latestSame := by
  refine zmk [0, 1] (by decide) (fun mc ms av M Q h => h.1) ?_
  intro p e R s m args below meth c mc ms av M Q hC hRf hRl hr hnm h lv hlv
  obtain ⟨X, hXe⟩ : ∃ X : Nat → zV, X = fun L u v vs st M => ∀ lv, zpick lv (lvX4_latestSame L) = some vs → zAt p l e R s m args below meth c (MQ below (zQ G Q) args s mc ms (zA G)) G 4 L u v lv st M := ⟨_, rfl⟩
  have hJ : ∀ L, zOk p l e R s m args below meth c (MQ below (zQ G Q) args s mc ms (zA G)) G 4 L (zj X L (lvX4_latestSame L)) := fun L => S_jump (fun u v lv vs st M hp hx => by rw [hXe] at hx; exact hx lv hp)
  have hB0 : zin 4 [0, 1] (aX4_latestSame_0 mc ms X Q) X 0 := by
    intro u v vs st M hb
    rw [hXe]
    refine fun lv hp => S_block (L := 0) (live := [0, 1]) ?_ u v lv vs st M hp hb
    unfold aX4_latestSame_0
    refine S_iconst (pc := 0) hC dX4_latestSame_0 (by decide) ?_
    refine S_iload_n (pc := 1) hC dX4_latestSame_1 rfl ?_
    refine S_aload_n (pc := 2) hC dX4_latestSame_2 rfl ?_
    refine S_getR (pc := 3) hC cfX4 (by decide) (Or.inl ⟨_, rfl⟩) wd_307 dX4_latestSame_3 ?_
    refine S_geti (pc := 6) hC cfX0 (by decide) (Or.inl rfl) wd_252 dX4_latestSame_6 ?_
    refine S_isub (pc := 9) hC dX4_latestSame_9 ?_
    refine S_max (pc := 10) hC wd_582 wd_583 wd_21 wd_584 (by rw [hRf]; decide) (by rw [hRl]; decide) dX4_latestSame_10 ?_
    refine S_istore_n_N (pc := 13) hC dX4_latestSame_13 rfl (by decide) ?_
    unfold kX4_latestSame_14
    refine S_iload_n (pc := 14) hC dX4_latestSame_14 rfl ?_
    refine S_iconst (pc := 15) hC dX4_latestSame_15 (by decide) ?_
    refine S_isub (pc := 16) hC dX4_latestSame_16 ?_
    refine S_istore_n (pc := 17) hC dX4_latestSame_17 rfl (by decide) ?_
    exact hJ 18
  have hB18 : zin 4 [0, 1, 2, 3] (aX4_latestSame_18 mc ms X Q) X 18 := by
    intro u v vs st M hb
    rw [hXe]
    refine fun lv hp => S_block (L := 18) (live := [0, 1, 2, 3]) ?_ u v lv vs st M hp hb
    unfold aX4_latestSame_18
    refine S_iload_n (pc := 18) hC dX4_latestSame_18 rfl ?_
    refine S_iload_n (pc := 19) hC dX4_latestSame_19 rfl ?_
    refine S_icmp_lt (pc := 20) (tgt := 44) hC dX4_latestSame_20 (by decide) ?_ ?_
    · refine S_iconst (pc := 44) hC dX4_latestSame_44 (by decide) ?_
      exact S_ireturn (pc := 45) hC hr dX4_latestSame_45
    · refine S_aload_n (pc := 23) hC dX4_latestSame_23 rfl ?_
      refine S_iload_n (pc := 24) hC dX4_latestSame_24 rfl ?_
      refine S_iconst (pc := 25) hC dX4_latestSame_25 (by decide) ?_
      refine S_imul (pc := 26) hC dX4_latestSame_26 ?_
      refine S_iload_n (pc := 27) hC dX4_latestSame_27 rfl ?_
      refine S_iconst (pc := 28) hC dX4_latestSame_28 (by decide) ?_
      refine S_imul (pc := 29) hC dX4_latestSame_29 ?_
      refine S_callV (pc := 30) hC (sX4_isSame l G) rfl wd_846 wd_848 ws_30 wd_9 wd_849 (by decide +kernel) ⟨by rw [hRf]; decide, by rw [hRl]; decide⟩ dX4_latestSame_30 ?_
      unfold kX4_latestSame_33
      refine S_if_eq (pc := 33) (tgt := 38) hC dX4_latestSame_33 (by decide) ?_ ?_
      · refine S_iinc (pc := 38) hC dX4_latestSame_38 (by decide) (by decide) ?_
        refine S_goto (pc := 41) (tgt := 18) hC dX4_latestSame_41 (by decide) ?_
        exact hJ 18
      · refine S_iload_n (pc := 36) hC dX4_latestSame_36 rfl ?_
        exact S_ireturn (pc := 37) hC hr dX4_latestSame_37
  have := h.2 X hB0 hB18
  rw [hXe] at this
  exact this lv hlv
theorem vcX4_latestSame_14 {mc ms : Nat} {X : Nat → zV} {Q : zQt} {M : zM} {g : Nat} {x1 : Int32} {x2 : Int32} (hW : zWd M g)  (h : X 18 0 0 [.ref g, .int x1, .int x2, .int (x1 - (1 : Int32))] [] M) : kX4_latestSame_14 mc ms X Q 0 0 [some (.ref g), some (.int x1), some (.int x2), none] [] M := h
theorem vX4_latestSame_0 {mc ms : Nat} {X : Nat → zV} {Q : zQt} {M : zM} {g : Nat} {x1 : Int32} (hW : zWd M g)  (h : ∀ y13 : Int32, y13 = (if 0 < (x1 - (M.1 ((g + 1)) 7)) then (x1 - (M.1 ((g + 1)) 7)) else 0) → X 18 0 0 [.ref g, .int x1, .int y13, .int (x1 - (1 : Int32))] [] M) : aX4_latestSame_0 mc ms X Q 0 0 [some (.ref g), some (.int x1), none, none] [] M := ⟨(fgs_0 hW), (g + 1), (fgr_0_0 hW), ⟨(fgs_1 hW), ⟨Nat.le_of_ble_eq_true rfl, (fun y13 e13 => have h13 := h y13 e13; (vcX4_latestSame_14 hW  h13))⟩⟩⟩
theorem vX4_latestSame_18 {mc ms : Nat} {X : Nat → zV} {Q : zQt} {M : zM} {g : Nat} {x1 : Int32} {x2 : Int32} {x3 : Int32} (hW : zWd M g)  (h : (x3 < x2 → Q (some (.int ((-1)))) M) ∧ (¬ x3 < x2 → wX4_isSame 0 0 [.ref g, .int (x3 * (5 : Int32)), .int (x1 * (5 : Int32))] M (fun r M1 => kX4_latestSame_33 mc ms X Q 0 0 [some (.ref g), some (.int x1), some (.int x2), some (.int x3)] (r.toList ++ []) M1))) : aX4_latestSame_18 mc ms X Q 0 0 [some (.ref g), some (.int x1), some (.int x2), some (.int x3)] [] M := ⟨fun c20 => (h.1 c20), fun c20 => ⟨Nat.le_of_ble_eq_true rfl, rfl, (fgs_0 hW), 0, 0, Nat.zero_le _, Nat.zero_le _, (h.2 c20)⟩⟩
theorem vkX4_latestSame_33 {mc ms : Nat} {X : Nat → zV} {Q : zQt} {M : zM} {g : Nat} {x1 : Int32} {x2 : Int32} {x3 : Int32} {s0 : Int32} (hW : zWd M g)  (h : (s0 = 0 → X 18 0 0 [.ref g, .int x1, .int x2, .int (x3 + (-1))] [] M) ∧ (¬ s0 = 0 → Q (some (.int x3)) M)) : kX4_latestSame_33 mc ms X Q 0 0 [some (.ref g), some (.int x1), some (.int x2), some (.int x3)] [.int s0] M := ⟨fun c33 => (h.1 c33), fun c33 => (h.2 c33)⟩
theorem dX4_judge_0 : decode cX4_judge 0 = .ok (.aload_n 0, 1) := by decide +kernel
theorem dX4_judge_1 : decode cX4_judge 1 = .ok (.getfield 55, 3) := by decide +kernel
theorem dX4_judge_4 : decode cX4_judge 4 = .ok (.ifCond .ne 21, 3) := by decide +kernel
theorem dX4_judge_7 : decode cX4_judge 7 = .ok (.aload_n 0, 1) := by decide +kernel
theorem dX4_judge_8 : decode cX4_judge 8 = .ok (.getfield 33, 3) := by decide +kernel
theorem dX4_judge_11 : decode cX4_judge 11 = .ok (.iload_n 1, 1) := by decide +kernel
theorem dX4_judge_12 : decode cX4_judge 12 = .ok (.iconst 5, 1) := by decide +kernel
theorem dX4_judge_13 : decode cX4_judge 13 = .ok (.iadd, 1) := by decide +kernel
theorem dX4_judge_14 : decode cX4_judge 14 = .ok (.iaload, 1) := by decide +kernel
theorem dX4_judge_15 : decode cX4_judge 15 = .ok (.iconst 1, 1) := by decide +kernel
theorem dX4_judge_16 : decode cX4_judge 16 = .ok (.if_icmp .ne 7, 3) := by decide +kernel
theorem dX4_judge_19 : decode cX4_judge 19 = .ok (.iconst 1, 1) := by decide +kernel
theorem dX4_judge_20 : decode cX4_judge 20 = .ok (.goto 4, 3) := by decide +kernel
theorem dX4_judge_23 : decode cX4_judge 23 = .ok (.iconst 2, 1) := by decide +kernel
theorem dX4_judge_24 : decode cX4_judge 24 = .ok (.ireturn, 1) := by decide +kernel
theorem dX4_judge_25 : decode cX4_judge 25 = .ok (.aload_n 0, 1) := by decide +kernel
theorem dX4_judge_26 : decode cX4_judge 26 = .ok (.invokevirtual 104, 3) := by decide +kernel
theorem dX4_judge_29 : decode cX4_judge 29 = .ok (.ifCond .eq 5, 3) := by decide +kernel
theorem dX4_judge_32 : decode cX4_judge 32 = .ok (.iconst 3, 1) := by decide +kernel
theorem dX4_judge_33 : decode cX4_judge 33 = .ok (.ireturn, 1) := by decide +kernel
theorem dX4_judge_34 : decode cX4_judge 34 = .ok (.aload_n 0, 1) := by decide +kernel
theorem dX4_judge_35 : decode cX4_judge 35 = .ok (.getfield 33, 3) := by decide +kernel
theorem dX4_judge_38 : decode cX4_judge 38 = .ok (.iload_n 1, 1) := by decide +kernel
theorem dX4_judge_39 : decode cX4_judge 39 = .ok (.iconst 0, 1) := by decide +kernel
theorem dX4_judge_40 : decode cX4_judge 40 = .ok (.iadd, 1) := by decide +kernel
theorem dX4_judge_41 : decode cX4_judge 41 = .ok (.iaload, 1) := by decide +kernel
theorem dX4_judge_42 : decode cX4_judge 42 = .ok (.istore_n 2, 1) := by decide +kernel
theorem dX4_judge_43 : decode cX4_judge 43 = .ok (.iload_n 2, 1) := by decide +kernel
theorem dX4_judge_44 : decode cX4_judge 44 = .ok (.iconst 5, 1) := by decide +kernel
theorem dX4_judge_45 : decode cX4_judge 45 = .ok (.if_icmp .lt 5, 3) := by decide +kernel
theorem dX4_judge_48 : decode cX4_judge 48 = .ok (.iconst 4, 1) := by decide +kernel
theorem dX4_judge_49 : decode cX4_judge 49 = .ok (.ireturn, 1) := by decide +kernel
theorem dX4_judge_50 : decode cX4_judge 50 = .ok (.aload_n 0, 1) := by decide +kernel
theorem dX4_judge_51 : decode cX4_judge 51 = .ok (.getfield 14, 3) := by decide +kernel
theorem dX4_judge_54 : decode cX4_judge 54 = .ok (.getfield 58, 3) := by decide +kernel
theorem dX4_judge_57 : decode cX4_judge 57 = .ok (.sipush 150, 3) := by decide +kernel
theorem dX4_judge_60 : decode cX4_judge 60 = .ok (.if_icmp .lt 5, 3) := by decide +kernel
theorem dX4_judge_63 : decode cX4_judge 63 = .ok (.iconst 5, 1) := by decide +kernel
theorem dX4_judge_64 : decode cX4_judge 64 = .ok (.ireturn, 1) := by decide +kernel
theorem dX4_judge_65 : decode cX4_judge 65 = .ok (.iload_n 2, 1) := by decide +kernel
theorem dX4_judge_66 : decode cX4_judge 66 = .ok (.iconst 3, 1) := by decide +kernel
theorem dX4_judge_67 : decode cX4_judge 67 = .ok (.if_icmp .lt 23, 3) := by decide +kernel
theorem dX4_judge_70 : decode cX4_judge 70 = .ok (.aload_n 0, 1) := by decide +kernel
theorem dX4_judge_71 : decode cX4_judge 71 = .ok (.getfield 14, 3) := by decide +kernel
theorem dX4_judge_74 : decode cX4_judge 74 = .ok (.getfield 58, 3) := by decide +kernel
theorem dX4_judge_77 : decode cX4_judge 77 = .ok (.bipush 100, 2) := by decide +kernel
theorem dX4_judge_79 : decode cX4_judge 79 = .ok (.if_icmp .lt 8, 3) := by decide +kernel
theorem dX4_judge_82 : decode cX4_judge 82 = .ok (.bipush 8, 2) := by decide +kernel
theorem dX4_judge_84 : decode cX4_judge 84 = .ok (.goto 5, 3) := by decide +kernel
theorem dX4_judge_87 : decode cX4_judge 87 = .ok (.bipush 6, 2) := by decide +kernel
theorem dX4_judge_89 : decode cX4_judge 89 = .ok (.ireturn, 1) := by decide +kernel
theorem dX4_judge_90 : decode cX4_judge 90 = .ok (.aload_n 0, 1) := by decide +kernel
theorem dX4_judge_91 : decode cX4_judge 91 = .ok (.getfield 14, 3) := by decide +kernel
theorem dX4_judge_94 : decode cX4_judge 94 = .ok (.getfield 58, 3) := by decide +kernel
theorem dX4_judge_97 : decode cX4_judge 97 = .ok (.bipush 100, 2) := by decide +kernel
theorem dX4_judge_99 : decode cX4_judge 99 = .ok (.if_icmp .lt 8, 3) := by decide +kernel
theorem dX4_judge_102 : decode cX4_judge 102 = .ok (.bipush 7, 2) := by decide +kernel
theorem dX4_judge_104 : decode cX4_judge 104 = .ok (.goto 4, 3) := by decide +kernel
theorem dX4_judge_107 : decode cX4_judge 107 = .ok (.iconst 0, 1) := by decide +kernel
theorem dX4_judge_108 : decode cX4_judge 108 = .ok (.ireturn, 1) := by decide +kernel
def kX4_judge_43 (mc ms : Nat) (X : Nat → zV) (Q : zQt) : zT :=
  zli 2 <| zc (.int 5) <| zic (fun x y => x < y) (zla 0 <| zgR 4 0 <| zgi 0 7 <| zc (.int 150) <| zic (fun x y => x < y) (zli 2 <| zc (.int 3) <| zic (fun x y => x < y) (zla 0 <| zgR 4 0 <| zgi 0 7 <| zc (.int 100) <| zic (fun x y => x < y) (zc (.int 0) <| zj X 108 []) <| zc (.int 7) <| zj X 108 []) <| zla 0 <| zgR 4 0 <| zgi 0 7 <| zc (.int 100) <| zic (fun x y => x < y) (zc (.int 6) <| zj X 89 []) <| zc (.int 8) <| zj X 89 []) <| zc (.int 5) <| zri Q) <| zc (.int 4) <| zri Q
def kX4_judge_29 (mc ms : Nat) (X : Nat → zV) (Q : zQt) : zT :=
  zif (fun x => x = 0) (zla 0 <| zgR 4 5 <| zli 1 <| zc (.int 0) <| zii (fun x y => x + y) <| zal 1 <| zsiN 2 <| kX4_judge_43 mc ms X Q) <| zc (.int 3) <| zri Q
def aX4_judge_0 (mc ms : Nat) (X : Nat → zV) (Q : zQt) : zT :=
  zla 0 <| zgi 4 3 <| zif (fun x => x = 0) (zla 0 <| zgR 4 5 <| zli 1 <| zc (.int 5) <| zii (fun x y => x + y) <| zal 1 <| zc (.int 1) <| zic (fun x y => x = y) (zc (.int 1) <| zj X 24 []) <| zc (.int 2) <| zj X 24 []) <| zla 0 <| zcv mc ms 4 0 wX4_isDead <| kX4_judge_29 mc ms X Q
def aX4_judge_24 (mc ms : Nat) (X : Nat → zV) (Q : zQt) : zT :=
  zri Q
def aX4_judge_89 (mc ms : Nat) (X : Nat → zV) (Q : zQt) : zT :=
  zri Q
def aX4_judge_108 (mc ms : Nat) (X : Nat → zV) (Q : zQt) : zT :=
  zri Q
def lvX4_judge : Nat → List Nat := fun L => match L with
  | 0 => [0, 1]
  | 24 => []
  | 89 => []
  | 108 => []
  | _ => []
def wX4_judge : zSp := fun mc ms av M Q => ((zlay av).length ≤ 3 ∧ zpick (zlay av) [0, 1] = some av) ∧ ∀ X : Nat → zV, zin 3 [0, 1] (aX4_judge_0 mc ms X Q) X 0 → zin 3 [] (aX4_judge_24 mc ms X Q) X 24 → zin 3 [] (aX4_judge_89 mc ms X Q) X 89 → zin 3 [] (aX4_judge_108 mc ms X Q) X 108 → X 0 0 0 av [] M
set_option maxRecDepth 100000 in
set_option maxHeartbeats 4000000 in
theorem sX4_judge (l : Launch) (G : zG) : zSnd l G yX4_judge cX4_judge 3 (some .int) 3 69 wX4_judge := by
  refine zmk [0, 1] (by decide) (fun mc ms av M Q h => h.1) ?_
  intro p e R s m args below meth c mc ms av M Q hC hRf hRl hr hnm h lv hlv
  obtain ⟨X, hXe⟩ : ∃ X : Nat → zV, X = fun L u v vs st M => ∀ lv, zpick lv (lvX4_judge L) = some vs → zAt p l e R s m args below meth c (MQ below (zQ G Q) args s mc ms (zA G)) G 3 L u v lv st M := ⟨_, rfl⟩
  have hJ : ∀ L, zOk p l e R s m args below meth c (MQ below (zQ G Q) args s mc ms (zA G)) G 3 L (zj X L (lvX4_judge L)) := fun L => S_jump (fun u v lv vs st M hp hx => by rw [hXe] at hx; exact hx lv hp)
  have hB0 : zin 3 [0, 1] (aX4_judge_0 mc ms X Q) X 0 := by
    intro u v vs st M hb
    rw [hXe]
    refine fun lv hp => S_block (L := 0) (live := [0, 1]) ?_ u v lv vs st M hp hb
    unfold aX4_judge_0
    refine S_aload_n (pc := 0) hC dX4_judge_0 rfl ?_
    refine S_geti (pc := 1) hC cfX4 (by decide) (Or.inl rfl) wd_321 dX4_judge_1 ?_
    refine S_if_ne (pc := 4) (tgt := 25) hC dX4_judge_4 (by decide) ?_ ?_
    · refine S_aload_n (pc := 25) hC dX4_judge_25 rfl ?_
      refine S_callV (pc := 26) hC (sX4_isDead l G) rfl wd_854 wd_856 ws_32 wd_9 wd_857 (by decide +kernel) ⟨by rw [hRf]; decide, by rw [hRl]; decide⟩ dX4_judge_26 ?_
      unfold kX4_judge_29
      refine S_if_eq (pc := 29) (tgt := 34) hC dX4_judge_29 (by decide) ?_ ?_
      · refine S_aload_n (pc := 34) hC dX4_judge_34 rfl ?_
        refine S_getR (pc := 35) hC cfX4 (by decide) (Or.inr ⟨_, rfl⟩) wd_328 dX4_judge_35 ?_
        refine S_iload_n (pc := 38) hC dX4_judge_38 rfl ?_
        refine S_iconst (pc := 39) hC dX4_judge_39 (by decide) ?_
        refine S_iadd (pc := 40) hC dX4_judge_40 ?_
        refine S_iaload (pc := 41) hC dX4_judge_41 ?_
        refine S_istore_n_N (pc := 42) hC dX4_judge_42 rfl (by decide) ?_
        unfold kX4_judge_43
        refine S_iload_n (pc := 43) hC dX4_judge_43 rfl ?_
        refine S_iconst (pc := 44) hC dX4_judge_44 (by decide) ?_
        refine S_icmp_lt (pc := 45) (tgt := 50) hC dX4_judge_45 (by decide) ?_ ?_
        · refine S_aload_n (pc := 50) hC dX4_judge_50 rfl ?_
          refine S_getR (pc := 51) hC cfX4 (by decide) (Or.inl ⟨_, rfl⟩) wd_307 dX4_judge_51 ?_
          refine S_geti (pc := 54) hC cfX0 (by decide) (Or.inl rfl) wd_252 dX4_judge_54 ?_
          refine S_sipush (pc := 57) hC dX4_judge_57 (by decide) ?_
          refine S_icmp_lt (pc := 60) (tgt := 65) hC dX4_judge_60 (by decide) ?_ ?_
          · refine S_iload_n (pc := 65) hC dX4_judge_65 rfl ?_
            refine S_iconst (pc := 66) hC dX4_judge_66 (by decide) ?_
            refine S_icmp_lt (pc := 67) (tgt := 90) hC dX4_judge_67 (by decide) ?_ ?_
            · refine S_aload_n (pc := 90) hC dX4_judge_90 rfl ?_
              refine S_getR (pc := 91) hC cfX4 (by decide) (Or.inl ⟨_, rfl⟩) wd_307 dX4_judge_91 ?_
              refine S_geti (pc := 94) hC cfX0 (by decide) (Or.inl rfl) wd_252 dX4_judge_94 ?_
              refine S_bipush (pc := 97) hC dX4_judge_97 (by decide) ?_
              refine S_icmp_lt (pc := 99) (tgt := 107) hC dX4_judge_99 (by decide) ?_ ?_
              · refine S_iconst (pc := 107) hC dX4_judge_107 (by decide) ?_
                exact hJ 108
              · refine S_bipush (pc := 102) hC dX4_judge_102 (by decide) ?_
                refine S_goto (pc := 104) (tgt := 108) hC dX4_judge_104 (by decide) ?_
                exact hJ 108
            · refine S_aload_n (pc := 70) hC dX4_judge_70 rfl ?_
              refine S_getR (pc := 71) hC cfX4 (by decide) (Or.inl ⟨_, rfl⟩) wd_307 dX4_judge_71 ?_
              refine S_geti (pc := 74) hC cfX0 (by decide) (Or.inl rfl) wd_252 dX4_judge_74 ?_
              refine S_bipush (pc := 77) hC dX4_judge_77 (by decide) ?_
              refine S_icmp_lt (pc := 79) (tgt := 87) hC dX4_judge_79 (by decide) ?_ ?_
              · refine S_bipush (pc := 87) hC dX4_judge_87 (by decide) ?_
                exact hJ 89
              · refine S_bipush (pc := 82) hC dX4_judge_82 (by decide) ?_
                refine S_goto (pc := 84) (tgt := 89) hC dX4_judge_84 (by decide) ?_
                exact hJ 89
          · refine S_iconst (pc := 63) hC dX4_judge_63 (by decide) ?_
            exact S_ireturn (pc := 64) hC hr dX4_judge_64
        · refine S_iconst (pc := 48) hC dX4_judge_48 (by decide) ?_
          exact S_ireturn (pc := 49) hC hr dX4_judge_49
      · refine S_iconst (pc := 32) hC dX4_judge_32 (by decide) ?_
        exact S_ireturn (pc := 33) hC hr dX4_judge_33
    · refine S_aload_n (pc := 7) hC dX4_judge_7 rfl ?_
      refine S_getR (pc := 8) hC cfX4 (by decide) (Or.inr ⟨_, rfl⟩) wd_328 dX4_judge_8 ?_
      refine S_iload_n (pc := 11) hC dX4_judge_11 rfl ?_
      refine S_iconst (pc := 12) hC dX4_judge_12 (by decide) ?_
      refine S_iadd (pc := 13) hC dX4_judge_13 ?_
      refine S_iaload (pc := 14) hC dX4_judge_14 ?_
      refine S_iconst (pc := 15) hC dX4_judge_15 (by decide) ?_
      refine S_icmp_ne (pc := 16) (tgt := 23) hC dX4_judge_16 (by decide) ?_ ?_
      · refine S_iconst (pc := 23) hC dX4_judge_23 (by decide) ?_
        exact hJ 24
      · refine S_iconst (pc := 19) hC dX4_judge_19 (by decide) ?_
        refine S_goto (pc := 20) (tgt := 24) hC dX4_judge_20 (by decide) ?_
        exact hJ 24
  have hB24 : zin 3 [] (aX4_judge_24 mc ms X Q) X 24 := by
    intro u v vs st M hb
    rw [hXe]
    refine fun lv hp => S_block (L := 24) (live := []) ?_ u v lv vs st M hp hb
    unfold aX4_judge_24
    exact S_ireturn (pc := 24) hC hr dX4_judge_24
  have hB89 : zin 3 [] (aX4_judge_89 mc ms X Q) X 89 := by
    intro u v vs st M hb
    rw [hXe]
    refine fun lv hp => S_block (L := 89) (live := []) ?_ u v lv vs st M hp hb
    unfold aX4_judge_89
    exact S_ireturn (pc := 89) hC hr dX4_judge_89
  have hB108 : zin 3 [] (aX4_judge_108 mc ms X Q) X 108 := by
    intro u v vs st M hb
    rw [hXe]
    refine fun lv hp => S_block (L := 108) (live := []) ?_ u v lv vs st M hp hb
    unfold aX4_judge_108
    exact S_ireturn (pc := 108) hC hr dX4_judge_108
  have := h.2 X hB0 hB24 hB89 hB108
  rw [hXe] at this
  exact this lv hlv
theorem vX4_judge_0 {mc ms : Nat} {X : Nat → zV} {Q : zQt} {M : zM} {g : Nat} {x1 : Int32} (hW : zWd M g)  (h : ((M.1 g 3) = 0 → vp_in ((x1 + (5 : Int32))) 4808 ∧ (((M : zM).1 ((g + 8)) ((x1 + (5 : Int32)) : Int32).toNatClampNeg) = (1 : Int32) → X 24 0 0 [] [.int 1] M) ∧ (¬ ((M : zM).1 ((g + 8)) ((x1 + (5 : Int32)) : Int32).toNatClampNeg) = (1 : Int32) → X 24 0 0 [] [.int 2] M)) ∧ (¬ (M.1 g 3) = 0 → wX4_isDead 0 0 [.ref g] M (fun r M1 => kX4_judge_29 mc ms X Q 0 0 [some (.ref g), some (.int x1), none] (r.toList ++ []) M1))) : aX4_judge_0 mc ms X Q 0 0 [some (.ref g), some (.int x1), none] [] M := ⟨(fgs_0 hW), ⟨fun c4 => ⟨(fgs_0 hW), (g + 8), (fgr_0_5 hW), ⟨4808, (fgs_8 hW), (h.1 c4).1, ⟨fun c16 => ((h.1 c4).2.1 c16), fun c16 => ((h.1 c4).2.2 c16)⟩⟩⟩, fun c4 => ⟨Nat.le_of_ble_eq_true rfl, rfl, (fgs_0 hW), 0, 0, Nat.zero_le _, Nat.zero_le _, (h.2 c4)⟩⟩⟩
theorem vX4_judge_24 {mc ms : Nat} {X : Nat → zV} {Q : zQt} {M : zM} {g : Nat} {s0 : Int32} (hW : zWd M g)  (h : Q (some (.int s0)) M) : aX4_judge_24 mc ms X Q 0 0 [none, none, none] [.int s0] M := h
theorem vX4_judge_89 {mc ms : Nat} {X : Nat → zV} {Q : zQt} {M : zM} {g : Nat} {s0 : Int32} (hW : zWd M g)  (h : Q (some (.int s0)) M) : aX4_judge_89 mc ms X Q 0 0 [none, none, none] [.int s0] M := h
theorem vX4_judge_108 {mc ms : Nat} {X : Nat → zV} {Q : zQt} {M : zM} {g : Nat} {s0 : Int32} (hW : zWd M g)  (h : Q (some (.int s0)) M) : aX4_judge_108 mc ms X Q 0 0 [none, none, none] [.int s0] M := h
theorem vcX4_judge_43 {mc ms : Nat} {X : Nat → zV} {Q : zQt} {M : zM} {g : Nat} {x1 : Int32} {x2 : Int32} (hW : zWd M g)  (h : (x2 < (5 : Int32) → ((M.1 ((g + 1)) 7) < (150 : Int32) → (x2 < (3 : Int32) → ((M.1 ((g + 1)) 7) < (100 : Int32) → X 108 0 0 [] [.int 0] M) ∧ (¬ (M.1 ((g + 1)) 7) < (100 : Int32) → X 108 0 0 [] [.int 7] M)) ∧ (¬ x2 < (3 : Int32) → ((M.1 ((g + 1)) 7) < (100 : Int32) → X 89 0 0 [] [.int 6] M) ∧ (¬ (M.1 ((g + 1)) 7) < (100 : Int32) → X 89 0 0 [] [.int 8] M))) ∧ (¬ (M.1 ((g + 1)) 7) < (150 : Int32) → Q (some (.int 5)) M)) ∧ (¬ x2 < (5 : Int32) → Q (some (.int 4)) M)) : kX4_judge_43 mc ms X Q 0 0 [some (.ref g), some (.int x1), some (.int x2)] [] M := ⟨fun c45 => ⟨(fgs_0 hW), (g + 1), (fgr_0_0 hW), ⟨(fgs_1 hW), ⟨fun c60 => ⟨fun c67 => ⟨(fgs_0 hW), (g + 1), (fgr_0_0 hW), ⟨(fgs_1 hW), ⟨fun c99 => ((((h.1 c45).1 c60).1 c67).1 c99), fun c99 => ((((h.1 c45).1 c60).1 c67).2 c99)⟩⟩⟩, fun c67 => ⟨(fgs_0 hW), (g + 1), (fgr_0_0 hW), ⟨(fgs_1 hW), ⟨fun c79 => ((((h.1 c45).1 c60).2 c67).1 c79), fun c79 => ((((h.1 c45).1 c60).2 c67).2 c79)⟩⟩⟩⟩, fun c60 => ((h.1 c45).2 c60)⟩⟩⟩, fun c45 => (h.2 c45)⟩
theorem vkX4_judge_29 {mc ms : Nat} {X : Nat → zV} {Q : zQt} {M : zM} {g : Nat} {x1 : Int32} {s0 : Int32} (hW : zWd M g)  (h : (s0 = 0 → vp_in ((x1 + (0 : Int32))) 4808 ∧ ∀ y42 : Int32, y42 = ((M : zM).1 ((g + 8)) ((x1 + (0 : Int32)) : Int32).toNatClampNeg) → (y42 < (5 : Int32) → ((M.1 ((g + 1)) 7) < (150 : Int32) → (y42 < (3 : Int32) → ((M.1 ((g + 1)) 7) < (100 : Int32) → X 108 0 0 [] [.int 0] M) ∧ (¬ (M.1 ((g + 1)) 7) < (100 : Int32) → X 108 0 0 [] [.int 7] M)) ∧ (¬ y42 < (3 : Int32) → ((M.1 ((g + 1)) 7) < (100 : Int32) → X 89 0 0 [] [.int 6] M) ∧ (¬ (M.1 ((g + 1)) 7) < (100 : Int32) → X 89 0 0 [] [.int 8] M))) ∧ (¬ (M.1 ((g + 1)) 7) < (150 : Int32) → Q (some (.int 5)) M)) ∧ (¬ y42 < (5 : Int32) → Q (some (.int 4)) M)) ∧ (¬ s0 = 0 → Q (some (.int 3)) M)) : kX4_judge_29 mc ms X Q 0 0 [some (.ref g), some (.int x1), none] [.int s0] M := ⟨fun c29 => ⟨(fgs_0 hW), (g + 8), (fgr_0_5 hW), ⟨4808, (fgs_8 hW), (h.1 c29).1, (fun y42 e42 => have h42 := (h.1 c29).2 y42 e42; (vcX4_judge_43 hW  h42))⟩⟩, fun c29 => (h.2 c29)⟩
theorem dX5_lookRound_0 : decode cX5_lookRound 0 = .ok (.aload_n 0, 1) := by decide +kernel
theorem dX5_lookRound_1 : decode cX5_lookRound 1 = .ok (.getfield 9, 3) := by decide +kernel
theorem dX5_lookRound_4 : decode cX5_lookRound 4 = .ok (.getfield 22, 3) := by decide +kernel
theorem dX5_lookRound_7 : decode cX5_lookRound 7 = .ok (.aload_n 0, 1) := by decide +kernel
theorem dX5_lookRound_8 : decode cX5_lookRound 8 = .ok (.getfield 9, 3) := by decide +kernel
theorem dX5_lookRound_11 : decode cX5_lookRound 11 = .ok (.getfield 28, 3) := by decide +kernel
theorem dX5_lookRound_14 : decode cX5_lookRound 14 = .ok (.laload, 1) := by decide +kernel
theorem dX5_lookRound_15 : decode cX5_lookRound 15 = .ok (.lstore_n 1, 1) := by decide +kernel
theorem dX5_lookRound_16 : decode cX5_lookRound 16 = .ok (.aload_n 0, 1) := by decide +kernel
theorem dX5_lookRound_17 : decode cX5_lookRound 17 = .ok (.aload_n 0, 1) := by decide +kernel
theorem dX5_lookRound_18 : decode cX5_lookRound 18 = .ok (.getfield 9, 3) := by decide +kernel
theorem dX5_lookRound_21 : decode cX5_lookRound 21 = .ok (.aload_n 0, 1) := by decide +kernel
theorem dX5_lookRound_22 : decode cX5_lookRound 22 = .ok (.getfield 9, 3) := by decide +kernel
theorem dX5_lookRound_25 : decode cX5_lookRound 25 = .ok (.getfield 28, 3) := by decide +kernel
theorem dX5_lookRound_28 : decode cX5_lookRound 28 = .ok (.invokevirtual 66, 3) := by decide +kernel
theorem dX5_lookRound_31 : decode cX5_lookRound 31 = .ok (.putfield 53, 3) := by decide +kernel
theorem dX5_lookRound_34 : decode cX5_lookRound 34 = .ok (.aload_n 0, 1) := by decide +kernel
theorem dX5_lookRound_35 : decode cX5_lookRound 35 = .ok (.getfield 9, 3) := by decide +kernel
theorem dX5_lookRound_38 : decode cX5_lookRound 38 = .ok (.aload_n 0, 1) := by decide +kernel
theorem dX5_lookRound_39 : decode cX5_lookRound 39 = .ok (.getfield 53, 3) := by decide +kernel
theorem dX5_lookRound_42 : decode cX5_lookRound 42 = .ok (.iconst 1, 1) := by decide +kernel
theorem dX5_lookRound_43 : decode cX5_lookRound 43 = .ok (.aload_n 0, 1) := by decide +kernel
theorem dX5_lookRound_44 : decode cX5_lookRound 44 = .ok (.getfield 9, 3) := by decide +kernel
theorem dX5_lookRound_47 : decode cX5_lookRound 47 = .ok (.getfield 28, 3) := by decide +kernel
theorem dX5_lookRound_50 : decode cX5_lookRound 50 = .ok (.isub, 1) := by decide +kernel
theorem dX5_lookRound_51 : decode cX5_lookRound 51 = .ok (.aload_n 0, 1) := by decide +kernel
theorem dX5_lookRound_52 : decode cX5_lookRound 52 = .ok (.getfield 9, 3) := by decide +kernel
theorem dX5_lookRound_55 : decode cX5_lookRound 55 = .ok (.invokevirtual 70, 3) := by decide +kernel
theorem dX5_lookRound_58 : decode cX5_lookRound 58 = .ok (.lconst 0, 1) := by decide +kernel
theorem dX5_lookRound_59 : decode cX5_lookRound 59 = .ok (.invokevirtual 73, 3) := by decide +kernel
theorem dX5_lookRound_62 : decode cX5_lookRound 62 = .ok (.ifCond .eq 9, 3) := by decide +kernel
theorem dX5_lookRound_65 : decode cX5_lookRound 65 = .ok (.aload_n 0, 1) := by decide +kernel
theorem dX5_lookRound_66 : decode cX5_lookRound 66 = .ok (.lload_n 1, 1) := by decide +kernel
theorem dX5_lookRound_67 : decode cX5_lookRound 67 = .ok (.putfield 41, 3) := by decide +kernel
theorem dX5_lookRound_70 : decode cX5_lookRound 70 = .ok (.return_, 1) := by decide +kernel
theorem dX5_lookRound_71 : decode cX5_lookRound 71 = .ok (.aload_n 0, 1) := by decide +kernel
theorem dX5_lookRound_72 : decode cX5_lookRound 72 = .ok (.lload_n 1, 1) := by decide +kernel
theorem dX5_lookRound_73 : decode cX5_lookRound 73 = .ok (.aload_n 0, 1) := by decide +kernel
theorem dX5_lookRound_74 : decode cX5_lookRound 74 = .ok (.getfield 15, 3) := by decide +kernel
theorem dX5_lookRound_77 : decode cX5_lookRound 77 = .ok (.getfield 77, 3) := by decide +kernel
theorem dX5_lookRound_80 : decode cX5_lookRound 80 = .ok (.aload_n 0, 1) := by decide +kernel
theorem dX5_lookRound_81 : decode cX5_lookRound 81 = .ok (.getfield 53, 3) := by decide +kernel
theorem dX5_lookRound_84 : decode cX5_lookRound 84 = .ok (.laload, 1) := by decide +kernel
theorem dX5_lookRound_85 : decode cX5_lookRound 85 = .ok (.aload_n 0, 1) := by decide +kernel
theorem dX5_lookRound_86 : decode cX5_lookRound 86 = .ok (.getfield 15, 3) := by decide +kernel
theorem dX5_lookRound_89 : decode cX5_lookRound 89 = .ok (.getfield 82, 3) := by decide +kernel
theorem dX5_lookRound_92 : decode cX5_lookRound 92 = .ok (.aload_n 0, 1) := by decide +kernel
theorem dX5_lookRound_93 : decode cX5_lookRound 93 = .ok (.getfield 53, 3) := by decide +kernel
theorem dX5_lookRound_96 : decode cX5_lookRound 96 = .ok (.laload, 1) := by decide +kernel
theorem dX5_lookRound_97 : decode cX5_lookRound 97 = .ok (.lor, 1) := by decide +kernel
theorem dX5_lookRound_98 : decode cX5_lookRound 98 = .ok (.lconst 1, 1) := by decide +kernel
theorem dX5_lookRound_99 : decode cX5_lookRound 99 = .ok (.aload_n 0, 1) := by decide +kernel
theorem dX5_lookRound_100 : decode cX5_lookRound 100 = .ok (.getfield 53, 3) := by decide +kernel
theorem dX5_lookRound_103 : decode cX5_lookRound 103 = .ok (.lshl, 1) := by decide +kernel
theorem dX5_lookRound_104 : decode cX5_lookRound 104 = .ok (.lor, 1) := by decide +kernel
theorem dX5_lookRound_105 : decode cX5_lookRound 105 = .ok (.land, 1) := by decide +kernel
theorem dX5_lookRound_106 : decode cX5_lookRound 106 = .ok (.putfield 41, 3) := by decide +kernel
theorem dX5_lookRound_109 : decode cX5_lookRound 109 = .ok (.aload_n 0, 1) := by decide +kernel
theorem dX5_lookRound_110 : decode cX5_lookRound 110 = .ok (.getfield 9, 3) := by decide +kernel
theorem dX5_lookRound_113 : decode cX5_lookRound 113 = .ok (.getfield 85, 3) := by decide +kernel
theorem dX5_lookRound_116 : decode cX5_lookRound 116 = .ok (.iconst (-1), 1) := by decide +kernel
theorem dX5_lookRound_117 : decode cX5_lookRound 117 = .ok (.if_icmp .eq 32, 3) := by decide +kernel
theorem dX5_lookRound_120 : decode cX5_lookRound 120 = .ok (.aload_n 0, 1) := by decide +kernel
theorem dX5_lookRound_121 : decode cX5_lookRound 121 = .ok (.dup, 1) := by decide +kernel
theorem dX5_lookRound_122 : decode cX5_lookRound 122 = .ok (.getfield 41, 3) := by decide +kernel
theorem dX5_lookRound_125 : decode cX5_lookRound 125 = .ok (.aload_n 0, 1) := by decide +kernel
theorem dX5_lookRound_126 : decode cX5_lookRound 126 = .ok (.getfield 9, 3) := by decide +kernel
theorem dX5_lookRound_129 : decode cX5_lookRound 129 = .ok (.getfield 88, 3) := by decide +kernel
theorem dX5_lookRound_132 : decode cX5_lookRound 132 = .ok (.iconst 1, 1) := by decide +kernel
theorem dX5_lookRound_133 : decode cX5_lookRound 133 = .ok (.bipush 6, 2) := by decide +kernel
theorem dX5_lookRound_135 : decode cX5_lookRound 135 = .ok (.aload_n 0, 1) := by decide +kernel
theorem dX5_lookRound_136 : decode cX5_lookRound 136 = .ok (.getfield 9, 3) := by decide +kernel
theorem dX5_lookRound_139 : decode cX5_lookRound 139 = .ok (.getfield 28, 3) := by decide +kernel
theorem dX5_lookRound_142 : decode cX5_lookRound 142 = .ok (.imul, 1) := by decide +kernel
theorem dX5_lookRound_143 : decode cX5_lookRound 143 = .ok (.iadd, 1) := by decide +kernel
theorem dX5_lookRound_144 : decode cX5_lookRound 144 = .ok (.laload, 1) := by decide +kernel
theorem dX5_lookRound_145 : decode cX5_lookRound 145 = .ok (.lor, 1) := by decide +kernel
theorem dX5_lookRound_146 : decode cX5_lookRound 146 = .ok (.putfield 41, 3) := by decide +kernel
theorem dX5_lookRound_149 : decode cX5_lookRound 149 = .ok (.return_, 1) := by decide +kernel
def kX5_lookRound_62 (mc ms : Nat) (X : Nat → zV) (Q : zQt) : zT :=
  zif (fun x => x = 0) (zla 0 <| zll 1 <| zla 0 <| zgR 5 1 <| zgR 1 4 <| zla 0 <| zgi 5 2 <| zall <| zla 0 <| zgR 5 1 <| zgR 1 5 <| zla 0 <| zgi 5 2 <| zall <| zjj (fun x y => x ||| y) <| zc (.long 1) <| zla 0 <| zgi 5 2 <| zji (fun x y => x <<< (y.toInt64 &&& 63)) <| zjj (fun x y => x ||| y) <| zjj (fun x y => x &&& y) <| zpl 5 3 <| zla 0 <| zgR 5 0 <| zgi 0 6 <| zc (.int (-1)) <| zic (fun x y => x = y) (zj X 149 []) <| zla 0 <| zdup <| zgl 5 3 <| zla 0 <| zgR 5 0 <| zgR 0 2 <| zc (.int 1) <| zc (.int 6) <| zla 0 <| zgR 5 0 <| zgi 0 4 <| zii (fun x y => x * y) <| zii (fun x y => x + y) <| zall <| zjj (fun x y => x ||| y) <| zpl 5 3 <| zj X 149 []) <| zla 0 <| zll 1 <| zpl 5 3 <| zrv Q
def kX5_lookRound_58 (mc ms : Nat) (X : Nat → zV) (Q : zQt) : zT :=
  zc (.long 0) <| zcv mc ms 0 4 wX0_attacked <| kX5_lookRound_62 mc ms X Q
def kX5_lookRound_31 (mc ms : Nat) (X : Nat → zV) (Q : zQt) : zT :=
  zpi 5 2 <| zla 0 <| zgR 5 0 <| zla 0 <| zgi 5 2 <| zc (.int 1) <| zla 0 <| zgR 5 0 <| zgi 0 4 <| zii (fun x y => x - y) <| zla 0 <| zgR 5 0 <| zcv mc ms 0 0 wX0_occupied <| kX5_lookRound_58 mc ms X Q
def kX5_lookRound_16 (mc ms : Nat) (X : Nat → zV) (Q : zQt) : zT :=
  zla 0 <| zla 0 <| zgR 5 0 <| zla 0 <| zgR 5 0 <| zgi 0 4 <| zcv mc ms 0 1 wX0_kingOf <| kX5_lookRound_31 mc ms X Q
def aX5_lookRound_0 (mc ms : Nat) (X : Nat → zV) (Q : zQt) : zT :=
  zla 0 <| zgR 5 0 <| zgR 0 3 <| zla 0 <| zgR 5 0 <| zgi 0 4 <| zall <| zslN 1 <| kX5_lookRound_16 mc ms X Q
def aX5_lookRound_149 (mc ms : Nat) (X : Nat → zV) (Q : zQt) : zT :=
  zrv Q
def lvX5_lookRound : Nat → List Nat := fun L => match L with
  | 0 => [0]
  | 149 => []
  | _ => []
def wX5_lookRound : zSp := fun mc ms av M Q => ((zlay av).length ≤ 3 ∧ zpick (zlay av) [0] = some av) ∧ ∀ X : Nat → zV, zin 3 [0] (aX5_lookRound_0 mc ms X Q) X 0 → zin 3 [] (aX5_lookRound_149 mc ms X Q) X 149 → X 0 0 0 av [] M
set_option maxRecDepth 100000 in
set_option maxHeartbeats 4000000 in
theorem sX5_lookRound (l : Launch) (G : zG) : zSnd l G yX5_lookRound cX5_lookRound 3 none 3 66 wX5_lookRound := by
  refine zmk [0] (by decide) (fun mc ms av M Q h => h.1) ?_
  intro p e R s m args below meth c mc ms av M Q hC hRf hRl hr hnm h lv hlv
  obtain ⟨X, hXe⟩ : ∃ X : Nat → zV, X = fun L u v vs st M => ∀ lv, zpick lv (lvX5_lookRound L) = some vs → zAt p l e R s m args below meth c (MQ below (zQ G Q) args s mc ms (zA G)) G 3 L u v lv st M := ⟨_, rfl⟩
  have hJ : ∀ L, zOk p l e R s m args below meth c (MQ below (zQ G Q) args s mc ms (zA G)) G 3 L (zj X L (lvX5_lookRound L)) := fun L => S_jump (fun u v lv vs st M hp hx => by rw [hXe] at hx; exact hx lv hp)
  have hB0 : zin 3 [0] (aX5_lookRound_0 mc ms X Q) X 0 := by
    intro u v vs st M hb
    rw [hXe]
    refine fun lv hp => S_block (L := 0) (live := [0]) ?_ u v lv vs st M hp hb
    unfold aX5_lookRound_0
    refine S_aload_n (pc := 0) hC dX5_lookRound_0 rfl ?_
    refine S_getR (pc := 1) hC cfX5 (by decide) (Or.inl ⟨_, rfl⟩) wd_294 dX5_lookRound_1 ?_
    refine S_getR (pc := 4) hC cfX0 (by decide) (Or.inr ⟨_, rfl⟩) wd_226 dX5_lookRound_4 ?_
    refine S_aload_n (pc := 7) hC dX5_lookRound_7 rfl ?_
    refine S_getR (pc := 8) hC cfX5 (by decide) (Or.inl ⟨_, rfl⟩) wd_294 dX5_lookRound_8 ?_
    refine S_geti (pc := 11) hC cfX0 (by decide) (Or.inl rfl) wd_228 dX5_lookRound_11 ?_
    refine S_laload (pc := 14) hC dX5_lookRound_14 ?_
    refine S_lstore_n_N (pc := 15) hC dX5_lookRound_15 rfl (by decide) ?_
    unfold kX5_lookRound_16
    refine S_aload_n (pc := 16) hC dX5_lookRound_16 rfl ?_
    refine S_aload_n (pc := 17) hC dX5_lookRound_17 rfl ?_
    refine S_getR (pc := 18) hC cfX5 (by decide) (Or.inl ⟨_, rfl⟩) wd_294 dX5_lookRound_18 ?_
    refine S_aload_n (pc := 21) hC dX5_lookRound_21 rfl ?_
    refine S_getR (pc := 22) hC cfX5 (by decide) (Or.inl ⟨_, rfl⟩) wd_294 dX5_lookRound_22 ?_
    refine S_geti (pc := 25) hC cfX0 (by decide) (Or.inl rfl) wd_228 dX5_lookRound_25 ?_
    refine S_callV (pc := 28) hC (sX0_kingOf l G) rfl wd_430 wd_431 wd_432 wd_10 wd_433 (by decide +kernel) ⟨by rw [hRf]; decide, by rw [hRl]; decide⟩ dX5_lookRound_28 ?_
    unfold kX5_lookRound_31
    refine S_puti (pc := 31) hC cfX5 (by decide) rfl (Or.inl rfl) wd_296 dX5_lookRound_31 ?_
    refine S_aload_n (pc := 34) hC dX5_lookRound_34 rfl ?_
    refine S_getR (pc := 35) hC cfX5 (by decide) (Or.inl ⟨_, rfl⟩) wd_294 dX5_lookRound_35 ?_
    refine S_aload_n (pc := 38) hC dX5_lookRound_38 rfl ?_
    refine S_geti (pc := 39) hC cfX5 (by decide) (Or.inl rfl) wd_296 dX5_lookRound_39 ?_
    refine S_iconst (pc := 42) hC dX5_lookRound_42 (by decide) ?_
    refine S_aload_n (pc := 43) hC dX5_lookRound_43 rfl ?_
    refine S_getR (pc := 44) hC cfX5 (by decide) (Or.inl ⟨_, rfl⟩) wd_294 dX5_lookRound_44 ?_
    refine S_geti (pc := 47) hC cfX0 (by decide) (Or.inl rfl) wd_228 dX5_lookRound_47 ?_
    refine S_isub (pc := 50) hC dX5_lookRound_50 ?_
    refine S_aload_n (pc := 51) hC dX5_lookRound_51 rfl ?_
    refine S_getR (pc := 52) hC cfX5 (by decide) (Or.inl ⟨_, rfl⟩) wd_294 dX5_lookRound_52 ?_
    refine S_callV (pc := 55) hC (sX0_occupied l G) rfl wd_443 wd_444 wd_445 wd_10 wd_446 (by decide +kernel) ⟨by rw [hRf]; decide, by rw [hRl]; decide⟩ dX5_lookRound_55 ?_
    unfold kX5_lookRound_58
    refine S_lconst (pc := 58) hC dX5_lookRound_58 (by decide) ?_
    refine S_callV (pc := 59) hC (sX0_attacked l G) rfl wd_447 wd_448 wd_449 wd_10 wd_450 (by decide +kernel) ⟨by rw [hRf]; decide, by rw [hRl]; decide⟩ dX5_lookRound_59 ?_
    unfold kX5_lookRound_62
    refine S_if_eq (pc := 62) (tgt := 71) hC dX5_lookRound_62 (by decide) ?_ ?_
    · refine S_aload_n (pc := 71) hC dX5_lookRound_71 rfl ?_
      refine S_lload_n (pc := 72) hC dX5_lookRound_72 rfl ?_
      refine S_aload_n (pc := 73) hC dX5_lookRound_73 rfl ?_
      refine S_getR (pc := 74) hC cfX5 (by decide) (Or.inl ⟨_, rfl⟩) wd_295 dX5_lookRound_74 ?_
      refine S_getR (pc := 77) hC cfX1 (by decide) (Or.inr ⟨_, rfl⟩) wd_70 dX5_lookRound_77 ?_
      refine S_aload_n (pc := 80) hC dX5_lookRound_80 rfl ?_
      refine S_geti (pc := 81) hC cfX5 (by decide) (Or.inl rfl) wd_296 dX5_lookRound_81 ?_
      refine S_laload (pc := 84) hC dX5_lookRound_84 ?_
      refine S_aload_n (pc := 85) hC dX5_lookRound_85 rfl ?_
      refine S_getR (pc := 86) hC cfX5 (by decide) (Or.inl ⟨_, rfl⟩) wd_295 dX5_lookRound_86 ?_
      refine S_getR (pc := 89) hC cfX1 (by decide) (Or.inr ⟨_, rfl⟩) wd_73 dX5_lookRound_89 ?_
      refine S_aload_n (pc := 92) hC dX5_lookRound_92 rfl ?_
      refine S_geti (pc := 93) hC cfX5 (by decide) (Or.inl rfl) wd_296 dX5_lookRound_93 ?_
      refine S_laload (pc := 96) hC dX5_lookRound_96 ?_
      refine S_lor (pc := 97) hC dX5_lookRound_97 ?_
      refine S_lconst (pc := 98) hC dX5_lookRound_98 (by decide) ?_
      refine S_aload_n (pc := 99) hC dX5_lookRound_99 rfl ?_
      refine S_geti (pc := 100) hC cfX5 (by decide) (Or.inl rfl) wd_296 dX5_lookRound_100 ?_
      refine S_lshl (pc := 103) hC dX5_lookRound_103 ?_
      refine S_lor (pc := 104) hC dX5_lookRound_104 ?_
      refine S_land (pc := 105) hC dX5_lookRound_105 ?_
      refine S_putl (pc := 106) hC cfX5 (by decide) rfl (Or.inl rfl) wd_297 dX5_lookRound_106 ?_
      refine S_aload_n (pc := 109) hC dX5_lookRound_109 rfl ?_
      refine S_getR (pc := 110) hC cfX5 (by decide) (Or.inl ⟨_, rfl⟩) wd_294 dX5_lookRound_110 ?_
      refine S_geti (pc := 113) hC cfX0 (by decide) (Or.inl rfl) wd_245 dX5_lookRound_113 ?_
      refine S_iconst (pc := 116) hC dX5_lookRound_116 (by decide) ?_
      refine S_icmp_eq (pc := 117) (tgt := 149) hC dX5_lookRound_117 (by decide) ?_ ?_
      · exact hJ 149
      · refine S_aload_n (pc := 120) hC dX5_lookRound_120 rfl ?_
        refine S_dup (pc := 121) hC dX5_lookRound_121 ?_
        refine S_getl (pc := 122) hC cfX5 (by decide) rfl wd_297 dX5_lookRound_122 ?_
        refine S_aload_n (pc := 125) hC dX5_lookRound_125 rfl ?_
        refine S_getR (pc := 126) hC cfX5 (by decide) (Or.inl ⟨_, rfl⟩) wd_294 dX5_lookRound_126 ?_
        refine S_getR (pc := 129) hC cfX0 (by decide) (Or.inr ⟨_, rfl⟩) wd_222 dX5_lookRound_129 ?_
        refine S_iconst (pc := 132) hC dX5_lookRound_132 (by decide) ?_
        refine S_bipush (pc := 133) hC dX5_lookRound_133 (by decide) ?_
        refine S_aload_n (pc := 135) hC dX5_lookRound_135 rfl ?_
        refine S_getR (pc := 136) hC cfX5 (by decide) (Or.inl ⟨_, rfl⟩) wd_294 dX5_lookRound_136 ?_
        refine S_geti (pc := 139) hC cfX0 (by decide) (Or.inl rfl) wd_228 dX5_lookRound_139 ?_
        refine S_imul (pc := 142) hC dX5_lookRound_142 ?_
        refine S_iadd (pc := 143) hC dX5_lookRound_143 ?_
        refine S_laload (pc := 144) hC dX5_lookRound_144 ?_
        refine S_lor (pc := 145) hC dX5_lookRound_145 ?_
        refine S_putl (pc := 146) hC cfX5 (by decide) rfl (Or.inl rfl) wd_297 dX5_lookRound_146 ?_
        exact hJ 149
    · refine S_aload_n (pc := 65) hC dX5_lookRound_65 rfl ?_
      refine S_lload_n (pc := 66) hC dX5_lookRound_66 rfl ?_
      refine S_putl (pc := 67) hC cfX5 (by decide) rfl (Or.inl rfl) wd_297 dX5_lookRound_67 ?_
      exact S_vreturn (pc := 70) hC hr dX5_lookRound_70
  have hB149 : zin 3 [] (aX5_lookRound_149 mc ms X Q) X 149 := by
    intro u v vs st M hb
    rw [hXe]
    refine fun lv hp => S_block (L := 149) (live := []) ?_ u v lv vs st M hp hb
    unfold aX5_lookRound_149
    exact S_vreturn (pc := 149) hC hr dX5_lookRound_149
  have := h.2 X hB0 hB149
  rw [hXe] at this
  exact this lv hlv
theorem vcX5_lookRound_16 {mc ms : Nat} {X : Nat → zV} {Q : zQt} {M : zM} {g : Nat} {x1 : Int64} (hW : zWd M g)  (h : wX0_kingOf 0 0 [.ref (g + 1), .int (M.1 ((g + 1)) 4)] M (fun r M1 => kX5_lookRound_31 mc ms X Q 0 0 [some (.ref (g + 6)), some (.long x1), none] (r.toList ++ [.ref (g + 6)]) M1)) : kX5_lookRound_16 mc ms X Q 0 0 [some (.ref (g + 6)), some (.long x1), none] [] M := ⟨(fgs_6 hW), (g + 1), (fgr_6_0 hW), ⟨(fgs_6 hW), (g + 1), (fgr_6_0 hW), ⟨(fgs_1 hW), ⟨Nat.le_of_ble_eq_true rfl, rfl, (fgs_1 hW), 0, 0, Nat.zero_le _, Nat.zero_le _, h⟩⟩⟩⟩
theorem vX5_lookRound_0 {mc ms : Nat} {X : Nat → zV} {Q : zQt} {M : zM} {g : Nat}  (hW : zWd M g)  (h : vp_in ((M.1 ((g + 1)) 4)) 2 ∧ ∀ y15 : Int64, y15 = ((M : zM).2.1 ((g + 4)) ((M.1 ((g + 1)) 4) : Int32).toNatClampNeg) → wX0_kingOf 0 0 [.ref (g + 1), .int (M.1 ((g + 1)) 4)] M (fun r M1 => kX5_lookRound_31 mc ms X Q 0 0 [some (.ref (g + 6)), some (.long y15), none] (r.toList ++ [.ref (g + 6)]) M1)) : aX5_lookRound_0 mc ms X Q 0 0 [some (.ref (g + 6)), none, none] [] M := ⟨(fgs_6 hW), (g + 1), (fgr_6_0 hW), ⟨(fgs_1 hW), (g + 4), (fgr_1_3 hW), ⟨(fgs_6 hW), (g + 1), (fgr_6_0 hW), ⟨(fgs_1 hW), ⟨2, (fgs_4 hW), h.1, (fun y15 e15 => have h15 := h.2 y15 e15; (vcX5_lookRound_16 hW  h15))⟩⟩⟩⟩⟩
theorem vX5_lookRound_149 {mc ms : Nat} {X : Nat → zV} {Q : zQt} {M : zM} {g : Nat}  (hW : zWd M g)  (h : Q none M) : aX5_lookRound_149 mc ms X Q 0 0 [none, none, none] [] M := h
theorem vkX5_lookRound_31 {mc ms : Nat} {X : Nat → zV} {Q : zQt} {M : zM} {g : Nat} {x1 : Int64} {s0 : Int32} (hW : zWd M g)  (h : ∀ M31 : zM, M31 = (zsI M ((g + 6)) 2 s0) → wX0_occupied 0 0 [.ref (g + 1)] M31 (fun r M1 => kX5_lookRound_58 mc ms X Q 0 0 [some (.ref (g + 6)), some (.long x1), none] (r.toList ++ [.int ((1 : Int32) - (M31.1 ((g + 1)) 4)), .int (M31.1 ((g + 6)) 2), .ref (g + 1)]) M1)) : kX5_lookRound_31 mc ms X Q 0 0 [some (.ref (g + 6)), some (.long x1), none] [.int s0, .ref (g + 6)] M := ⟨(fgs_6 hW), (have h31 := h _ rfl; ⟨(fgs_6 hW), (g + 1), (fgr_6_0 hW), ⟨(fgs_6 hW), ⟨(fgs_6 hW), (g + 1), (fgr_6_0 hW), ⟨(fgs_1 hW), ⟨(fgs_6 hW), (g + 1), (fgr_6_0 hW), ⟨Nat.le_of_ble_eq_true rfl, rfl, (fgs_1 hW), 0, 0, Nat.zero_le _, Nat.zero_le _, h31⟩⟩⟩⟩⟩⟩)⟩
theorem vkX5_lookRound_58 {mc ms : Nat} {X : Nat → zV} {Q : zQt} {M : zM} {g : Nat} {x1 : Int64} {s0 : Int64} {s1 : Int32} {s2 : Int32} (hW : zWd M g)  (h : wX0_attacked 0 0 [.ref (g + 1), .int s2, .int s1, .long s0, .long 0] M (fun r M1 => kX5_lookRound_62 mc ms X Q 0 0 [some (.ref (g + 6)), some (.long x1), none] (r.toList ++ []) M1)) : kX5_lookRound_58 mc ms X Q 0 0 [some (.ref (g + 6)), some (.long x1), none] [.long s0, .int s1, .int s2, .ref (g + 1)] M := ⟨Nat.le_of_ble_eq_true rfl, rfl, (fgs_1 hW), 0, 0, Nat.zero_le _, Nat.zero_le _, h⟩
theorem vkX5_lookRound_62 {mc ms : Nat} {X : Nat → zV} {Q : zQt} {M : zM} {g : Nat} {x1 : Int64} {s0 : Int32} (hW : zWd M g)  (h : (s0 = 0 → vp_in ((M.1 ((g + 6)) 2)) 64 ∧ vp_in ((M.1 ((g + 6)) 2)) 64 ∧ ∀ M106 : zM, M106 = (zsJ M ((g + 6)) 3 ((x1 &&& ((((M : zM).2.1 22 ((M.1 ((g + 6)) 2) : Int32).toNatClampNeg) ||| ((M : zM).2.1 23 ((M.1 ((g + 6)) 2) : Int32).toNatClampNeg)) ||| ((1 : Int64) <<< ((M.1 ((g + 6)) 2).toInt64 &&& 63)))))) → ((M106.1 ((g + 1)) 6) = ((-1) : Int32) → X 149 0 0 [] [] M106) ∧ (¬ (M106.1 ((g + 1)) 6) = ((-1) : Int32) → vp_in (((1 : Int32) + ((6 : Int32) * (M106.1 ((g + 1)) 4)))) 13 ∧ ∀ M146 : zM, M146 = (zsJ M106 ((g + 6)) 3 (((M106.2.1 ((g + 6)) 3) ||| ((M106 : zM).2.1 ((g + 3)) (((1 : Int32) + ((6 : Int32) * (M106.1 ((g + 1)) 4))) : Int32).toNatClampNeg)))) → X 149 0 0 [] [] M146)) ∧ (¬ s0 = 0 → ∀ M67 : zM, M67 = (zsJ M ((g + 6)) 3 x1) → Q none M67)) : kX5_lookRound_62 mc ms X Q 0 0 [some (.ref (g + 6)), some (.long x1), none] [.int s0] M := ⟨fun c62 => ⟨(fgs_6 hW), 17, (fgr_6_1 hW), ⟨(fxs_17 hW.1), 22, (fxr_17_4 hW.1), ⟨(fgs_6 hW), ⟨64, (fxs_22 hW.1), (h.1 c62).1, ⟨(fgs_6 hW), 17, (fgr_6_1 hW), ⟨(fxs_17 hW.1), 23, (fxr_17_5 hW.1), ⟨(fgs_6 hW), ⟨64, (fxs_23 hW.1), (h.1 c62).2.1, ⟨(fgs_6 hW), ⟨(fgs_6 hW), (have h106 := (h.1 c62).2.2 _ rfl; ⟨(fgs_6 hW), (g + 1), (fgr_6_0 hW), ⟨(fgs_1 hW), ⟨fun c117 => (h106.1 c117), fun c117 => ⟨(fgs_6 hW), ⟨(fgs_6 hW), (g + 1), (fgr_6_0 hW), ⟨(fgs_1 hW), (g + 3), (fgr_1_2 hW), ⟨(fgs_6 hW), (g + 1), (fgr_6_0 hW), ⟨(fgs_1 hW), ⟨13, (fgs_3 hW), (h106.2 c117).1, ⟨(fgs_6 hW), (have h146 := (h106.2 c117).2 _ rfl; h146)⟩⟩⟩⟩⟩⟩⟩⟩⟩⟩)⟩⟩⟩⟩⟩⟩⟩⟩⟩⟩, fun c62 => ⟨(fgs_6 hW), (have h67 := (h.2 c62) _ rfl; h67)⟩⟩
theorem dX5_pawnGoals_0 : decode cX5_pawnGoals 0 = .ok (.aload_n 0, 1) := by decide +kernel
theorem dX5_pawnGoals_1 : decode cX5_pawnGoals 1 = .ok (.getfield 9, 3) := by decide +kernel
theorem dX5_pawnGoals_4 : decode cX5_pawnGoals 4 = .ok (.getfield 28, 3) := by decide +kernel
theorem dX5_pawnGoals_7 : decode cX5_pawnGoals 7 = .ok (.istore_n 2, 1) := by decide +kernel
theorem dX5_pawnGoals_8 : decode cX5_pawnGoals 8 = .ok (.iload_n 2, 1) := by decide +kernel
theorem dX5_pawnGoals_9 : decode cX5_pawnGoals 9 = .ok (.ifCond .ne 8, 3) := by decide +kernel
theorem dX5_pawnGoals_12 : decode cX5_pawnGoals 12 = .ok (.bipush 8, 2) := by decide +kernel
theorem dX5_pawnGoals_14 : decode cX5_pawnGoals 14 = .ok (.goto 5, 3) := by decide +kernel
theorem dX5_pawnGoals_17 : decode cX5_pawnGoals 17 = .ok (.bipush (-8), 2) := by decide +kernel
theorem dX5_pawnGoals_19 : decode cX5_pawnGoals 19 = .ok (.istore_n 3, 1) := by decide +kernel
theorem dX5_pawnGoals_20 : decode cX5_pawnGoals 20 = .ok (.aload_n 0, 1) := by decide +kernel
theorem dX5_pawnGoals_21 : decode cX5_pawnGoals 21 = .ok (.getfield 9, 3) := by decide +kernel
theorem dX5_pawnGoals_24 : decode cX5_pawnGoals 24 = .ok (.invokevirtual 70, 3) := by decide +kernel
theorem dX5_pawnGoals_27 : decode cX5_pawnGoals 27 = .ok (.ldc2_w 103, 3) := by decide +kernel
theorem dX5_pawnGoals_30 : decode cX5_pawnGoals 30 = .ok (.lxor, 1) := by decide +kernel
theorem dX5_pawnGoals_31 : decode cX5_pawnGoals 31 = .ok (.lstore 4, 2) := by decide +kernel
theorem dX5_pawnGoals_33 : decode cX5_pawnGoals 33 = .ok (.lconst 1, 1) := by decide +kernel
theorem dX5_pawnGoals_34 : decode cX5_pawnGoals 34 = .ok (.iload_n 1, 1) := by decide +kernel
theorem dX5_pawnGoals_35 : decode cX5_pawnGoals 35 = .ok (.iload_n 3, 1) := by decide +kernel
theorem dX5_pawnGoals_36 : decode cX5_pawnGoals 36 = .ok (.iadd, 1) := by decide +kernel
theorem dX5_pawnGoals_37 : decode cX5_pawnGoals 37 = .ok (.lshl, 1) := by decide +kernel
theorem dX5_pawnGoals_38 : decode cX5_pawnGoals 38 = .ok (.lload 4, 2) := by decide +kernel
theorem dX5_pawnGoals_40 : decode cX5_pawnGoals 40 = .ok (.land, 1) := by decide +kernel
theorem dX5_pawnGoals_41 : decode cX5_pawnGoals 41 = .ok (.lstore 6, 2) := by decide +kernel
theorem dX5_pawnGoals_43 : decode cX5_pawnGoals 43 = .ok (.lload 6, 2) := by decide +kernel
theorem dX5_pawnGoals_45 : decode cX5_pawnGoals 45 = .ok (.lconst 0, 1) := by decide +kernel
theorem dX5_pawnGoals_46 : decode cX5_pawnGoals 46 = .ok (.lcmp, 1) := by decide +kernel
theorem dX5_pawnGoals_47 : decode cX5_pawnGoals 47 = .ok (.ifCond .eq 35, 3) := by decide +kernel
theorem dX5_pawnGoals_50 : decode cX5_pawnGoals 50 = .ok (.iload_n 1, 1) := by decide +kernel
theorem dX5_pawnGoals_51 : decode cX5_pawnGoals 51 = .ok (.bipush 8, 2) := by decide +kernel
theorem dX5_pawnGoals_53 : decode cX5_pawnGoals 53 = .ok (.idiv, 1) := by decide +kernel
theorem dX5_pawnGoals_54 : decode cX5_pawnGoals 54 = .ok (.iload_n 2, 1) := by decide +kernel
theorem dX5_pawnGoals_55 : decode cX5_pawnGoals 55 = .ok (.ifCond .ne 7, 3) := by decide +kernel
theorem dX5_pawnGoals_58 : decode cX5_pawnGoals 58 = .ok (.iconst 1, 1) := by decide +kernel
theorem dX5_pawnGoals_59 : decode cX5_pawnGoals 59 = .ok (.goto 5, 3) := by decide +kernel
theorem dX5_pawnGoals_62 : decode cX5_pawnGoals 62 = .ok (.bipush 6, 2) := by decide +kernel
theorem dX5_pawnGoals_64 : decode cX5_pawnGoals 64 = .ok (.if_icmp .ne 18, 3) := by decide +kernel
theorem dX5_pawnGoals_67 : decode cX5_pawnGoals 67 = .ok (.lload 6, 2) := by decide +kernel
theorem dX5_pawnGoals_69 : decode cX5_pawnGoals 69 = .ok (.lconst 1, 1) := by decide +kernel
theorem dX5_pawnGoals_70 : decode cX5_pawnGoals 70 = .ok (.iload_n 1, 1) := by decide +kernel
theorem dX5_pawnGoals_71 : decode cX5_pawnGoals 71 = .ok (.iconst 2, 1) := by decide +kernel
theorem dX5_pawnGoals_72 : decode cX5_pawnGoals 72 = .ok (.iload_n 3, 1) := by decide +kernel
theorem dX5_pawnGoals_73 : decode cX5_pawnGoals 73 = .ok (.imul, 1) := by decide +kernel
theorem dX5_pawnGoals_74 : decode cX5_pawnGoals 74 = .ok (.iadd, 1) := by decide +kernel
theorem dX5_pawnGoals_75 : decode cX5_pawnGoals 75 = .ok (.lshl, 1) := by decide +kernel
theorem dX5_pawnGoals_76 : decode cX5_pawnGoals 76 = .ok (.lload 4, 2) := by decide +kernel
theorem dX5_pawnGoals_78 : decode cX5_pawnGoals 78 = .ok (.land, 1) := by decide +kernel
theorem dX5_pawnGoals_79 : decode cX5_pawnGoals 79 = .ok (.lor, 1) := by decide +kernel
theorem dX5_pawnGoals_80 : decode cX5_pawnGoals 80 = .ok (.lstore 6, 2) := by decide +kernel
theorem dX5_pawnGoals_82 : decode cX5_pawnGoals 82 = .ok (.lload 6, 2) := by decide +kernel
theorem dX5_pawnGoals_84 : decode cX5_pawnGoals 84 = .ok (.aload_n 0, 1) := by decide +kernel
theorem dX5_pawnGoals_85 : decode cX5_pawnGoals 85 = .ok (.getfield 15, 3) := by decide +kernel
theorem dX5_pawnGoals_88 : decode cX5_pawnGoals 88 = .ok (.getfield 105, 3) := by decide +kernel
theorem dX5_pawnGoals_91 : decode cX5_pawnGoals 91 = .ok (.iload_n 2, 1) := by decide +kernel
theorem dX5_pawnGoals_92 : decode cX5_pawnGoals 92 = .ok (.bipush 64, 2) := by decide +kernel
theorem dX5_pawnGoals_94 : decode cX5_pawnGoals 94 = .ok (.imul, 1) := by decide +kernel
theorem dX5_pawnGoals_95 : decode cX5_pawnGoals 95 = .ok (.iload_n 1, 1) := by decide +kernel
theorem dX5_pawnGoals_96 : decode cX5_pawnGoals 96 = .ok (.iadd, 1) := by decide +kernel
theorem dX5_pawnGoals_97 : decode cX5_pawnGoals 97 = .ok (.laload, 1) := by decide +kernel
theorem dX5_pawnGoals_98 : decode cX5_pawnGoals 98 = .ok (.aload_n 0, 1) := by decide +kernel
theorem dX5_pawnGoals_99 : decode cX5_pawnGoals 99 = .ok (.getfield 9, 3) := by decide +kernel
theorem dX5_pawnGoals_102 : decode cX5_pawnGoals 102 = .ok (.getfield 22, 3) := by decide +kernel
theorem dX5_pawnGoals_105 : decode cX5_pawnGoals 105 = .ok (.iconst 1, 1) := by decide +kernel
theorem dX5_pawnGoals_106 : decode cX5_pawnGoals 106 = .ok (.iload_n 2, 1) := by decide +kernel
theorem dX5_pawnGoals_107 : decode cX5_pawnGoals 107 = .ok (.isub, 1) := by decide +kernel
theorem dX5_pawnGoals_108 : decode cX5_pawnGoals 108 = .ok (.laload, 1) := by decide +kernel
theorem dX5_pawnGoals_109 : decode cX5_pawnGoals 109 = .ok (.aload_n 0, 1) := by decide +kernel
theorem dX5_pawnGoals_110 : decode cX5_pawnGoals 110 = .ok (.invokevirtual 108, 3) := by decide +kernel
theorem dX5_pawnGoals_113 : decode cX5_pawnGoals 113 = .ok (.lor, 1) := by decide +kernel
theorem dX5_pawnGoals_114 : decode cX5_pawnGoals 114 = .ok (.land, 1) := by decide +kernel
theorem dX5_pawnGoals_115 : decode cX5_pawnGoals 115 = .ok (.lor, 1) := by decide +kernel
theorem dX5_pawnGoals_116 : decode cX5_pawnGoals 116 = .ok (.lreturn, 1) := by decide +kernel
def kX5_pawnGoals_43 (mc ms : Nat) (X : Nat → zV) (Q : zQt) : zT :=
  zll 6 <| zc (.long 0) <| zlc <| zif (fun x => x = 0) (zj X 82 [0, 1, 2, 6]) <| zli 1 <| zc (.int 8) <| zid (fun x y => x / y) <| zli 2 <| zif (fun x => x = 0) (zc (.int 1) <| zj X 64 [0, 1, 2, 3, 4, 6]) <| zc (.int 6) <| zj X 64 [0, 1, 2, 3, 4, 6]
def kX5_pawnGoals_27 (mc ms : Nat) (X : Nat → zV) (Q : zQt) : zT :=
  zc (.long (-1)) <| zjj (fun x y => x ^^^ y) <| zsl 4 <| zc (.long 1) <| zli 1 <| zli 3 <| zii (fun x y => x + y) <| zji (fun x y => x <<< (y.toInt64 &&& 63)) <| zll 4 <| zjj (fun x y => x &&& y) <| zslN 6 <| kX5_pawnGoals_43 mc ms X Q
def kX5_pawnGoals_113 (mc ms : Nat) (X : Nat → zV) (Q : zQt) : zT :=
  zjj (fun x y => x ||| y) <| zjj (fun x y => x &&& y) <| zjj (fun x y => x ||| y) <| zrl Q
def aX5_pawnGoals_0 (mc ms : Nat) (X : Nat → zV) (Q : zQt) : zT :=
  zla 0 <| zgR 5 0 <| zgi 0 4 <| zsi 2 <| zli 2 <| zif (fun x => x = 0) (zc (.int 8) <| zj X 19 [0, 1, 2]) <| zc (.int (-8)) <| zj X 19 [0, 1, 2]
def aX5_pawnGoals_19 (mc ms : Nat) (X : Nat → zV) (Q : zQt) : zT :=
  zsi 3 <| zla 0 <| zgR 5 0 <| zcv mc ms 0 0 wX0_occupied <| kX5_pawnGoals_27 mc ms X Q
def aX5_pawnGoals_64 (mc ms : Nat) (X : Nat → zV) (Q : zQt) : zT :=
  zic (fun x y => x = y) (zll 6 <| zc (.long 1) <| zli 1 <| zc (.int 2) <| zli 3 <| zii (fun x y => x * y) <| zii (fun x y => x + y) <| zji (fun x y => x <<< (y.toInt64 &&& 63)) <| zll 4 <| zjj (fun x y => x &&& y) <| zjj (fun x y => x ||| y) <| zslN 6 <| zj X 82 [0, 1, 2, 6]) <| zj X 82 [0, 1, 2, 6]
def aX5_pawnGoals_82 (mc ms : Nat) (X : Nat → zV) (Q : zQt) : zT :=
  zll 6 <| zla 0 <| zgR 5 1 <| zgR 1 2 <| zli 2 <| zc (.int 64) <| zii (fun x y => x * y) <| zli 1 <| zii (fun x y => x + y) <| zall <| zla 0 <| zgR 5 0 <| zgR 0 3 <| zc (.int 1) <| zli 2 <| zii (fun x y => x - y) <| zall <| zla 0 <| zcv mc ms 5 0 wX5_passedSquare <| kX5_pawnGoals_113 mc ms X Q
def lvX5_pawnGoals : Nat → List Nat := fun L => match L with
  | 0 => [0, 1]
  | 19 => [0, 1, 2]
  | 64 => [0, 1, 2, 3, 4, 6]
  | 82 => [0, 1, 2, 6]
  | _ => []
def wX5_pawnGoals : zSp := fun mc ms av M Q => ((zlay av).length ≤ 8 ∧ zpick (zlay av) [0, 1] = some av) ∧ ∀ X : Nat → zV, zin 8 [0, 1] (aX5_pawnGoals_0 mc ms X Q) X 0 → zin 8 [0, 1, 2] (aX5_pawnGoals_19 mc ms X Q) X 19 → zin 8 [0, 1, 2, 3, 4, 6] (aX5_pawnGoals_64 mc ms X Q) X 64 → zin 8 [0, 1, 2, 6] (aX5_pawnGoals_82 mc ms X Q) X 82 → X 0 0 0 av [] M
set_option maxRecDepth 100000 in
set_option maxHeartbeats 4000000 in
theorem sX5_pawnGoals (l : Launch) (G : zG) : zSnd l G yX5_pawnGoals cX5_pawnGoals 8 (some .long) 1 22 wX5_pawnGoals := by
  refine zmk [0, 1] (by decide) (fun mc ms av M Q h => h.1) ?_
  intro p e R s m args below meth c mc ms av M Q hC hRf hRl hr hnm h lv hlv
  obtain ⟨X, hXe⟩ : ∃ X : Nat → zV, X = fun L u v vs st M => ∀ lv, zpick lv (lvX5_pawnGoals L) = some vs → zAt p l e R s m args below meth c (MQ below (zQ G Q) args s mc ms (zA G)) G 8 L u v lv st M := ⟨_, rfl⟩
  have hJ : ∀ L, zOk p l e R s m args below meth c (MQ below (zQ G Q) args s mc ms (zA G)) G 8 L (zj X L (lvX5_pawnGoals L)) := fun L => S_jump (fun u v lv vs st M hp hx => by rw [hXe] at hx; exact hx lv hp)
  have hB0 : zin 8 [0, 1] (aX5_pawnGoals_0 mc ms X Q) X 0 := by
    intro u v vs st M hb
    rw [hXe]
    refine fun lv hp => S_block (L := 0) (live := [0, 1]) ?_ u v lv vs st M hp hb
    unfold aX5_pawnGoals_0
    refine S_aload_n (pc := 0) hC dX5_pawnGoals_0 rfl ?_
    refine S_getR (pc := 1) hC cfX5 (by decide) (Or.inl ⟨_, rfl⟩) wd_294 dX5_pawnGoals_1 ?_
    refine S_geti (pc := 4) hC cfX0 (by decide) (Or.inl rfl) wd_228 dX5_pawnGoals_4 ?_
    refine S_istore_n (pc := 7) hC dX5_pawnGoals_7 rfl (by decide) ?_
    refine S_iload_n (pc := 8) hC dX5_pawnGoals_8 rfl ?_
    refine S_if_ne (pc := 9) (tgt := 17) hC dX5_pawnGoals_9 (by decide) ?_ ?_
    · refine S_bipush (pc := 17) hC dX5_pawnGoals_17 (by decide) ?_
      exact hJ 19
    · refine S_bipush (pc := 12) hC dX5_pawnGoals_12 (by decide) ?_
      refine S_goto (pc := 14) (tgt := 19) hC dX5_pawnGoals_14 (by decide) ?_
      exact hJ 19
  have hB19 : zin 8 [0, 1, 2] (aX5_pawnGoals_19 mc ms X Q) X 19 := by
    intro u v vs st M hb
    rw [hXe]
    refine fun lv hp => S_block (L := 19) (live := [0, 1, 2]) ?_ u v lv vs st M hp hb
    unfold aX5_pawnGoals_19
    refine S_istore_n (pc := 19) hC dX5_pawnGoals_19 rfl (by decide) ?_
    refine S_aload_n (pc := 20) hC dX5_pawnGoals_20 rfl ?_
    refine S_getR (pc := 21) hC cfX5 (by decide) (Or.inl ⟨_, rfl⟩) wd_294 dX5_pawnGoals_21 ?_
    refine S_callV (pc := 24) hC (sX0_occupied l G) rfl wd_443 wd_444 wd_445 wd_10 wd_446 (by decide +kernel) ⟨by rw [hRf]; decide, by rw [hRl]; decide⟩ dX5_pawnGoals_24 ?_
    unfold kX5_pawnGoals_27
    refine S_ldc2 (pc := 27) hC wd_466 dX5_pawnGoals_27 ?_
    refine S_lxor (pc := 30) hC dX5_pawnGoals_30 ?_
    refine S_lstore (pc := 31) hC dX5_pawnGoals_31 (by decide) ?_
    refine S_lconst (pc := 33) hC dX5_pawnGoals_33 (by decide) ?_
    refine S_iload_n (pc := 34) hC dX5_pawnGoals_34 rfl ?_
    refine S_iload_n (pc := 35) hC dX5_pawnGoals_35 rfl ?_
    refine S_iadd (pc := 36) hC dX5_pawnGoals_36 ?_
    refine S_lshl (pc := 37) hC dX5_pawnGoals_37 ?_
    refine S_lload (pc := 38) hC dX5_pawnGoals_38 ?_
    refine S_land (pc := 40) hC dX5_pawnGoals_40 ?_
    refine S_lstore_N (pc := 41) hC dX5_pawnGoals_41 (by decide) ?_
    unfold kX5_pawnGoals_43
    refine S_lload (pc := 43) hC dX5_pawnGoals_43 ?_
    refine S_lconst (pc := 45) hC dX5_pawnGoals_45 (by decide) ?_
    refine S_lcmp (pc := 46) hC dX5_pawnGoals_46 ?_
    refine S_if_eq (pc := 47) (tgt := 82) hC dX5_pawnGoals_47 (by decide) ?_ ?_
    · exact hJ 82
    · refine S_iload_n (pc := 50) hC dX5_pawnGoals_50 rfl ?_
      refine S_bipush (pc := 51) hC dX5_pawnGoals_51 (by decide) ?_
      refine S_idiv (pc := 53) hC dX5_pawnGoals_53 ?_
      refine S_iload_n (pc := 54) hC dX5_pawnGoals_54 rfl ?_
      refine S_if_ne (pc := 55) (tgt := 62) hC dX5_pawnGoals_55 (by decide) ?_ ?_
      · refine S_bipush (pc := 62) hC dX5_pawnGoals_62 (by decide) ?_
        exact hJ 64
      · refine S_iconst (pc := 58) hC dX5_pawnGoals_58 (by decide) ?_
        refine S_goto (pc := 59) (tgt := 64) hC dX5_pawnGoals_59 (by decide) ?_
        exact hJ 64
  have hB64 : zin 8 [0, 1, 2, 3, 4, 6] (aX5_pawnGoals_64 mc ms X Q) X 64 := by
    intro u v vs st M hb
    rw [hXe]
    refine fun lv hp => S_block (L := 64) (live := [0, 1, 2, 3, 4, 6]) ?_ u v lv vs st M hp hb
    unfold aX5_pawnGoals_64
    refine S_icmp_ne (pc := 64) (tgt := 82) hC dX5_pawnGoals_64 (by decide) ?_ ?_
    · exact hJ 82
    · refine S_lload (pc := 67) hC dX5_pawnGoals_67 ?_
      refine S_lconst (pc := 69) hC dX5_pawnGoals_69 (by decide) ?_
      refine S_iload_n (pc := 70) hC dX5_pawnGoals_70 rfl ?_
      refine S_iconst (pc := 71) hC dX5_pawnGoals_71 (by decide) ?_
      refine S_iload_n (pc := 72) hC dX5_pawnGoals_72 rfl ?_
      refine S_imul (pc := 73) hC dX5_pawnGoals_73 ?_
      refine S_iadd (pc := 74) hC dX5_pawnGoals_74 ?_
      refine S_lshl (pc := 75) hC dX5_pawnGoals_75 ?_
      refine S_lload (pc := 76) hC dX5_pawnGoals_76 ?_
      refine S_land (pc := 78) hC dX5_pawnGoals_78 ?_
      refine S_lor (pc := 79) hC dX5_pawnGoals_79 ?_
      refine S_lstore_N (pc := 80) hC dX5_pawnGoals_80 (by decide) ?_
      exact hJ 82
  have hB82 : zin 8 [0, 1, 2, 6] (aX5_pawnGoals_82 mc ms X Q) X 82 := by
    intro u v vs st M hb
    rw [hXe]
    refine fun lv hp => S_block (L := 82) (live := [0, 1, 2, 6]) ?_ u v lv vs st M hp hb
    unfold aX5_pawnGoals_82
    refine S_lload (pc := 82) hC dX5_pawnGoals_82 ?_
    refine S_aload_n (pc := 84) hC dX5_pawnGoals_84 rfl ?_
    refine S_getR (pc := 85) hC cfX5 (by decide) (Or.inl ⟨_, rfl⟩) wd_295 dX5_pawnGoals_85 ?_
    refine S_getR (pc := 88) hC cfX1 (by decide) (Or.inr ⟨_, rfl⟩) wd_66 dX5_pawnGoals_88 ?_
    refine S_iload_n (pc := 91) hC dX5_pawnGoals_91 rfl ?_
    refine S_bipush (pc := 92) hC dX5_pawnGoals_92 (by decide) ?_
    refine S_imul (pc := 94) hC dX5_pawnGoals_94 ?_
    refine S_iload_n (pc := 95) hC dX5_pawnGoals_95 rfl ?_
    refine S_iadd (pc := 96) hC dX5_pawnGoals_96 ?_
    refine S_laload (pc := 97) hC dX5_pawnGoals_97 ?_
    refine S_aload_n (pc := 98) hC dX5_pawnGoals_98 rfl ?_
    refine S_getR (pc := 99) hC cfX5 (by decide) (Or.inl ⟨_, rfl⟩) wd_294 dX5_pawnGoals_99 ?_
    refine S_getR (pc := 102) hC cfX0 (by decide) (Or.inr ⟨_, rfl⟩) wd_226 dX5_pawnGoals_102 ?_
    refine S_iconst (pc := 105) hC dX5_pawnGoals_105 (by decide) ?_
    refine S_iload_n (pc := 106) hC dX5_pawnGoals_106 rfl ?_
    refine S_isub (pc := 107) hC dX5_pawnGoals_107 ?_
    refine S_laload (pc := 108) hC dX5_pawnGoals_108 ?_
    refine S_aload_n (pc := 109) hC dX5_pawnGoals_109 rfl ?_
    refine S_callV (pc := 110) hC (sX5_passedSquare l G) rfl wd_467 wd_469 ws_4 wd_11 wd_470 (by decide +kernel) ⟨by rw [hRf]; decide, by rw [hRl]; decide⟩ dX5_pawnGoals_110 ?_
    unfold kX5_pawnGoals_113
    refine S_lor (pc := 113) hC dX5_pawnGoals_113 ?_
    refine S_land (pc := 114) hC dX5_pawnGoals_114 ?_
    refine S_lor (pc := 115) hC dX5_pawnGoals_115 ?_
    exact S_lreturn (pc := 116) hC hr dX5_pawnGoals_116
  have := h.2 X hB0 hB19 hB64 hB82
  rw [hXe] at this
  exact this lv hlv
theorem vX5_pawnGoals_0 {mc ms : Nat} {X : Nat → zV} {Q : zQt} {M : zM} {g : Nat} {x1 : Int32} (hW : zWd M g)  (h : ((M.1 ((g + 1)) 4) = 0 → X 19 0 0 [.ref (g + 6), .int x1, .int (M.1 ((g + 1)) 4)] [.int 8] M) ∧ (¬ (M.1 ((g + 1)) 4) = 0 → X 19 0 0 [.ref (g + 6), .int x1, .int (M.1 ((g + 1)) 4)] [.int (-8)] M)) : aX5_pawnGoals_0 mc ms X Q 0 0 [some (.ref (g + 6)), some (.int x1), none, none, none, none, none, none] [] M := ⟨(fgs_6 hW), (g + 1), (fgr_6_0 hW), ⟨(fgs_1 hW), ⟨fun c9 => (h.1 c9), fun c9 => (h.2 c9)⟩⟩⟩
theorem vX5_pawnGoals_19 {mc ms : Nat} {X : Nat → zV} {Q : zQt} {M : zM} {g : Nat} {x1 : Int32} {x2 : Int32} {s0 : Int32} (hW : zWd M g)  (h : wX0_occupied 0 0 [.ref (g + 1)] M (fun r M1 => kX5_pawnGoals_27 mc ms X Q 0 0 [some (.ref (g + 6)), some (.int x1), some (.int x2), some (.int s0), none, none, none, none] (r.toList ++ []) M1)) : aX5_pawnGoals_19 mc ms X Q 0 0 [some (.ref (g + 6)), some (.int x1), some (.int x2), none, none, none, none, none] [.int s0] M := ⟨(fgs_6 hW), (g + 1), (fgr_6_0 hW), ⟨Nat.le_of_ble_eq_true rfl, rfl, (fgs_1 hW), 0, 0, Nat.zero_le _, Nat.zero_le _, h⟩⟩
theorem vX5_pawnGoals_64 {mc ms : Nat} {X : Nat → zV} {Q : zQt} {M : zM} {g : Nat} {x1 : Int32} {x2 : Int32} {x3 : Int32} {x4 : Int64} {x6 : Int64} {s0 : Int32} {s1 : Int32} (hW : zWd M g)  (h : (s1 = s0 → ∀ y80 : Int64, y80 = (x6 ||| (((1 : Int64) <<< ((x1 + ((2 : Int32) * x3)).toInt64 &&& 63)) &&& x4)) → X 82 0 0 [.ref (g + 6), .int x1, .int x2, .long y80] [] M) ∧ (¬ s1 = s0 → X 82 0 0 [.ref (g + 6), .int x1, .int x2, .long x6] [] M)) : aX5_pawnGoals_64 mc ms X Q 0 0 [some (.ref (g + 6)), some (.int x1), some (.int x2), some (.int x3), some (.long x4), none, some (.long x6), none] [.int s0, .int s1] M := ⟨fun c64 => (fun y80 e80 => have h80 := (h.1 c64) y80 e80; h80), fun c64 => (h.2 c64)⟩
theorem vX5_pawnGoals_82 {mc ms : Nat} {X : Nat → zV} {Q : zQt} {M : zM} {g : Nat} {x1 : Int32} {x2 : Int32} {x6 : Int64} (hW : zWd M g)  (h : vp_in (((x2 * (64 : Int32)) + x1)) 128 ∧ vp_in (((1 : Int32) - x2)) 2 ∧ wX5_passedSquare 0 0 [.ref (g + 6)] M (fun r M1 => kX5_pawnGoals_113 mc ms X Q 0 0 [some (.ref (g + 6)), some (.int x1), some (.int x2), none, none, none, some (.long x6), none] (r.toList ++ [.long ((M : zM).2.1 ((g + 4)) (((1 : Int32) - x2) : Int32).toNatClampNeg), .long ((M : zM).2.1 20 (((x2 * (64 : Int32)) + x1) : Int32).toNatClampNeg), .long x6]) M1)) : aX5_pawnGoals_82 mc ms X Q 0 0 [some (.ref (g + 6)), some (.int x1), some (.int x2), none, none, none, some (.long x6), none] [] M := ⟨(fgs_6 hW), 17, (fgr_6_1 hW), ⟨(fxs_17 hW.1), 20, (fxr_17_2 hW.1), ⟨128, (fxs_20 hW.1), h.1, ⟨(fgs_6 hW), (g + 1), (fgr_6_0 hW), ⟨(fgs_1 hW), (g + 4), (fgr_1_3 hW), ⟨2, (fgs_4 hW), h.2.1, ⟨Nat.le_of_ble_eq_true rfl, rfl, (fgs_6 hW), 0, 0, Nat.zero_le _, Nat.zero_le _, h.2.2⟩⟩⟩⟩⟩⟩⟩
theorem vcX5_pawnGoals_43 {mc ms : Nat} {X : Nat → zV} {Q : zQt} {M : zM} {g : Nat} {x1 : Int32} {x2 : Int32} {x3 : Int32} {x4 : Int64} {x6 : Int64} (hW : zWd M g)  (h : ((lg_cmp x6 ((0 : Int64))) = 0 → X 82 0 0 [.ref (g + 6), .int x1, .int x2, .long x6] [] M) ∧ (¬ (lg_cmp x6 ((0 : Int64))) = 0 → (x2 = 0 → X 64 0 0 [.ref (g + 6), .int x1, .int x2, .int x3, .long x4, .long x6] [.int 1, .int (x1 / (8 : Int32))] M) ∧ (¬ x2 = 0 → X 64 0 0 [.ref (g + 6), .int x1, .int x2, .int x3, .long x4, .long x6] [.int 6, .int (x1 / (8 : Int32))] M))) : kX5_pawnGoals_43 mc ms X Q 0 0 [some (.ref (g + 6)), some (.int x1), some (.int x2), some (.int x3), some (.long x4), none, some (.long x6), none] [] M := ⟨fun c47 => (h.1 c47), fun c47 => ⟨by decide, ⟨fun c55 => ((h.2 c47).1 c55), fun c55 => ((h.2 c47).2 c55)⟩⟩⟩
theorem vkX5_pawnGoals_27 {mc ms : Nat} {X : Nat → zV} {Q : zQt} {M : zM} {g : Nat} {x1 : Int32} {x2 : Int32} {x3 : Int32} {s0 : Int64} (hW : zWd M g)  (h : ∀ y41 : Int64, y41 = (((1 : Int64) <<< ((x1 + x3).toInt64 &&& 63)) &&& (s0 ^^^ ((-1) : Int64))) → ((lg_cmp y41 ((0 : Int64))) = 0 → X 82 0 0 [.ref (g + 6), .int x1, .int x2, .long y41] [] M) ∧ (¬ (lg_cmp y41 ((0 : Int64))) = 0 → (x2 = 0 → X 64 0 0 [.ref (g + 6), .int x1, .int x2, .int x3, .long (s0 ^^^ ((-1) : Int64)), .long y41] [.int 1, .int (x1 / (8 : Int32))] M) ∧ (¬ x2 = 0 → X 64 0 0 [.ref (g + 6), .int x1, .int x2, .int x3, .long (s0 ^^^ ((-1) : Int64)), .long y41] [.int 6, .int (x1 / (8 : Int32))] M))) : kX5_pawnGoals_27 mc ms X Q 0 0 [some (.ref (g + 6)), some (.int x1), some (.int x2), some (.int x3), none, none, none, none] [.long s0] M := (fun y41 e41 => have h41 := h y41 e41; (vcX5_pawnGoals_43 hW  h41))
theorem vkX5_pawnGoals_113 {mc ms : Nat} {X : Nat → zV} {Q : zQt} {M : zM} {g : Nat} {x1 : Int32} {x2 : Int32} {x6 : Int64} {s0 : Int64} {s1 : Int64} {s2 : Int64} {s3 : Int64} (hW : zWd M g)  (h : Q (some (.long ((s3 ||| (s2 &&& (s1 ||| s0)))))) M) : kX5_pawnGoals_113 mc ms X Q 0 0 [some (.ref (g + 6)), some (.int x1), some (.int x2), none, none, none, some (.long x6), none] [.long s0, .long s1, .long s2, .long s3] M := h
theorem dX5_castlings_0 : decode cX5_castlings 0 = .ok (.aload_n 0, 1) := by decide +kernel
theorem dX5_castlings_1 : decode cX5_castlings 1 = .ok (.getfield 9, 3) := by decide +kernel
theorem dX5_castlings_4 : decode cX5_castlings 4 = .ok (.getfield 28, 3) := by decide +kernel
theorem dX5_castlings_7 : decode cX5_castlings 7 = .ok (.ifCond .ne 7, 3) := by decide +kernel
theorem dX5_castlings_10 : decode cX5_castlings 10 = .ok (.iconst 4, 1) := by decide +kernel
theorem dX5_castlings_11 : decode cX5_castlings 11 = .ok (.goto 5, 3) := by decide +kernel
theorem dX5_castlings_14 : decode cX5_castlings 14 = .ok (.bipush 60, 2) := by decide +kernel
theorem dX5_castlings_16 : decode cX5_castlings 16 = .ok (.istore_n 1, 1) := by decide +kernel
theorem dX5_castlings_17 : decode cX5_castlings 17 = .ok (.aload_n 0, 1) := by decide +kernel
theorem dX5_castlings_18 : decode cX5_castlings 18 = .ok (.getfield 9, 3) := by decide +kernel
theorem dX5_castlings_21 : decode cX5_castlings 21 = .ok (.getfield 111, 3) := by decide +kernel
theorem dX5_castlings_24 : decode cX5_castlings 24 = .ok (.iconst 2, 1) := by decide +kernel
theorem dX5_castlings_25 : decode cX5_castlings 25 = .ok (.aload_n 0, 1) := by decide +kernel
theorem dX5_castlings_26 : decode cX5_castlings 26 = .ok (.getfield 9, 3) := by decide +kernel
theorem dX5_castlings_29 : decode cX5_castlings 29 = .ok (.getfield 28, 3) := by decide +kernel
theorem dX5_castlings_32 : decode cX5_castlings 32 = .ok (.imul, 1) := by decide +kernel
theorem dX5_castlings_33 : decode cX5_castlings 33 = .ok (.ishr, 1) := by decide +kernel
theorem dX5_castlings_34 : decode cX5_castlings 34 = .ok (.iconst 3, 1) := by decide +kernel
theorem dX5_castlings_35 : decode cX5_castlings 35 = .ok (.iand, 1) := by decide +kernel
theorem dX5_castlings_36 : decode cX5_castlings 36 = .ok (.istore_n 2, 1) := by decide +kernel
theorem dX5_castlings_37 : decode cX5_castlings 37 = .ok (.iload_n 2, 1) := by decide +kernel
theorem dX5_castlings_38 : decode cX5_castlings 38 = .ok (.ifCond .eq 11, 3) := by decide +kernel
theorem dX5_castlings_41 : decode cX5_castlings 41 = .ok (.aload_n 0, 1) := by decide +kernel
theorem dX5_castlings_42 : decode cX5_castlings 42 = .ok (.getfield 53, 3) := by decide +kernel
theorem dX5_castlings_45 : decode cX5_castlings 45 = .ok (.iload_n 1, 1) := by decide +kernel
theorem dX5_castlings_46 : decode cX5_castlings 46 = .ok (.if_icmp .eq 5, 3) := by decide +kernel
theorem dX5_castlings_49 : decode cX5_castlings 49 = .ok (.lconst 0, 1) := by decide +kernel
theorem dX5_castlings_50 : decode cX5_castlings 50 = .ok (.lreturn, 1) := by decide +kernel
theorem dX5_castlings_51 : decode cX5_castlings 51 = .ok (.iconst 4, 1) := by decide +kernel
theorem dX5_castlings_52 : decode cX5_castlings 52 = .ok (.bipush 6, 2) := by decide +kernel
theorem dX5_castlings_54 : decode cX5_castlings 54 = .ok (.aload_n 0, 1) := by decide +kernel
theorem dX5_castlings_55 : decode cX5_castlings 55 = .ok (.getfield 9, 3) := by decide +kernel
theorem dX5_castlings_58 : decode cX5_castlings 58 = .ok (.getfield 28, 3) := by decide +kernel
theorem dX5_castlings_61 : decode cX5_castlings 61 = .ok (.imul, 1) := by decide +kernel
theorem dX5_castlings_62 : decode cX5_castlings 62 = .ok (.iadd, 1) := by decide +kernel
theorem dX5_castlings_63 : decode cX5_castlings 63 = .ok (.istore_n 3, 1) := by decide +kernel
theorem dX5_castlings_64 : decode cX5_castlings 64 = .ok (.iconst 1, 1) := by decide +kernel
theorem dX5_castlings_65 : decode cX5_castlings 65 = .ok (.aload_n 0, 1) := by decide +kernel
theorem dX5_castlings_66 : decode cX5_castlings 66 = .ok (.getfield 9, 3) := by decide +kernel
theorem dX5_castlings_69 : decode cX5_castlings 69 = .ok (.getfield 28, 3) := by decide +kernel
theorem dX5_castlings_72 : decode cX5_castlings 72 = .ok (.isub, 1) := by decide +kernel
theorem dX5_castlings_73 : decode cX5_castlings 73 = .ok (.istore 4, 2) := by decide +kernel
theorem dX5_castlings_75 : decode cX5_castlings 75 = .ok (.aload_n 0, 1) := by decide +kernel
theorem dX5_castlings_76 : decode cX5_castlings 76 = .ok (.getfield 9, 3) := by decide +kernel
theorem dX5_castlings_79 : decode cX5_castlings 79 = .ok (.invokevirtual 70, 3) := by decide +kernel
theorem dX5_castlings_82 : decode cX5_castlings 82 = .ok (.lstore 5, 2) := by decide +kernel
theorem dX5_castlings_84 : decode cX5_castlings 84 = .ok (.aload_n 0, 1) := by decide +kernel
theorem dX5_castlings_85 : decode cX5_castlings 85 = .ok (.getfield 9, 3) := by decide +kernel
theorem dX5_castlings_88 : decode cX5_castlings 88 = .ok (.iload_n 1, 1) := by decide +kernel
theorem dX5_castlings_89 : decode cX5_castlings 89 = .ok (.iload 4, 2) := by decide +kernel
theorem dX5_castlings_91 : decode cX5_castlings 91 = .ok (.lload 5, 2) := by decide +kernel
theorem dX5_castlings_93 : decode cX5_castlings 93 = .ok (.lconst 0, 1) := by decide +kernel
theorem dX5_castlings_94 : decode cX5_castlings 94 = .ok (.invokevirtual 73, 3) := by decide +kernel
theorem dX5_castlings_97 : decode cX5_castlings 97 = .ok (.ifCond .ne 7, 3) := by decide +kernel
theorem dX5_castlings_100 : decode cX5_castlings 100 = .ok (.iconst 1, 1) := by decide +kernel
theorem dX5_castlings_101 : decode cX5_castlings 101 = .ok (.goto 4, 3) := by decide +kernel
theorem dX5_castlings_104 : decode cX5_castlings 104 = .ok (.iconst 0, 1) := by decide +kernel
theorem dX5_castlings_105 : decode cX5_castlings 105 = .ok (.istore 7, 2) := by decide +kernel
theorem dX5_castlings_107 : decode cX5_castlings 107 = .ok (.lconst 0, 1) := by decide +kernel
theorem dX5_castlings_108 : decode cX5_castlings 108 = .ok (.lstore 8, 2) := by decide +kernel
theorem dX5_castlings_110 : decode cX5_castlings 110 = .ok (.iload 7, 2) := by decide +kernel
theorem dX5_castlings_112 : decode cX5_castlings 112 = .ok (.ifCond .eq 67, 3) := by decide +kernel
theorem dX5_castlings_115 : decode cX5_castlings 115 = .ok (.iload_n 2, 1) := by decide +kernel
theorem dX5_castlings_116 : decode cX5_castlings 116 = .ok (.iconst 1, 1) := by decide +kernel
theorem dX5_castlings_117 : decode cX5_castlings 117 = .ok (.iand, 1) := by decide +kernel
theorem dX5_castlings_118 : decode cX5_castlings 118 = .ok (.ifCond .eq 61, 3) := by decide +kernel
theorem dX5_castlings_121 : decode cX5_castlings 121 = .ok (.aload_n 0, 1) := by decide +kernel
theorem dX5_castlings_122 : decode cX5_castlings 122 = .ok (.getfield 9, 3) := by decide +kernel
theorem dX5_castlings_125 : decode cX5_castlings 125 = .ok (.getfield 45, 3) := by decide +kernel
theorem dX5_castlings_128 : decode cX5_castlings 128 = .ok (.iload_n 1, 1) := by decide +kernel
theorem dX5_castlings_129 : decode cX5_castlings 129 = .ok (.iconst 3, 1) := by decide +kernel
theorem dX5_castlings_130 : decode cX5_castlings 130 = .ok (.iadd, 1) := by decide +kernel
theorem dX5_castlings_131 : decode cX5_castlings 131 = .ok (.iaload, 1) := by decide +kernel
theorem dX5_castlings_132 : decode cX5_castlings 132 = .ok (.iload_n 3, 1) := by decide +kernel
theorem dX5_castlings_133 : decode cX5_castlings 133 = .ok (.if_icmp .ne 46, 3) := by decide +kernel
theorem dX5_castlings_136 : decode cX5_castlings 136 = .ok (.lload 5, 2) := by decide +kernel
theorem dX5_castlings_138 : decode cX5_castlings 138 = .ok (.ldc2_w 114, 3) := by decide +kernel
theorem dX5_castlings_141 : decode cX5_castlings 141 = .ok (.iload_n 1, 1) := by decide +kernel
theorem dX5_castlings_142 : decode cX5_castlings 142 = .ok (.iconst 4, 1) := by decide +kernel
theorem dX5_castlings_143 : decode cX5_castlings 143 = .ok (.isub, 1) := by decide +kernel
theorem dX5_castlings_144 : decode cX5_castlings 144 = .ok (.lshl, 1) := by decide +kernel
theorem dX5_castlings_145 : decode cX5_castlings 145 = .ok (.land, 1) := by decide +kernel
theorem dX5_castlings_146 : decode cX5_castlings 146 = .ok (.lconst 0, 1) := by decide +kernel
theorem dX5_castlings_147 : decode cX5_castlings 147 = .ok (.lcmp, 1) := by decide +kernel
theorem dX5_castlings_148 : decode cX5_castlings 148 = .ok (.ifCond .ne 31, 3) := by decide +kernel
theorem dX5_castlings_151 : decode cX5_castlings 151 = .ok (.aload_n 0, 1) := by decide +kernel
theorem dX5_castlings_152 : decode cX5_castlings 152 = .ok (.getfield 9, 3) := by decide +kernel
theorem dX5_castlings_155 : decode cX5_castlings 155 = .ok (.iload_n 1, 1) := by decide +kernel
theorem dX5_castlings_156 : decode cX5_castlings 156 = .ok (.iconst 1, 1) := by decide +kernel
theorem dX5_castlings_157 : decode cX5_castlings 157 = .ok (.iadd, 1) := by decide +kernel
theorem dX5_castlings_158 : decode cX5_castlings 158 = .ok (.iload 4, 2) := by decide +kernel
theorem dX5_castlings_160 : decode cX5_castlings 160 = .ok (.lload 5, 2) := by decide +kernel
theorem dX5_castlings_162 : decode cX5_castlings 162 = .ok (.lconst 0, 1) := by decide +kernel
theorem dX5_castlings_163 : decode cX5_castlings 163 = .ok (.invokevirtual 73, 3) := by decide +kernel
theorem dX5_castlings_166 : decode cX5_castlings 166 = .ok (.ifCond .ne 13, 3) := by decide +kernel
theorem dX5_castlings_169 : decode cX5_castlings 169 = .ok (.lload 8, 2) := by decide +kernel
theorem dX5_castlings_171 : decode cX5_castlings 171 = .ok (.lconst 1, 1) := by decide +kernel
theorem dX5_castlings_172 : decode cX5_castlings 172 = .ok (.iload_n 1, 1) := by decide +kernel
theorem dX5_castlings_173 : decode cX5_castlings 173 = .ok (.iconst 2, 1) := by decide +kernel
theorem dX5_castlings_174 : decode cX5_castlings 174 = .ok (.iadd, 1) := by decide +kernel
theorem dX5_castlings_175 : decode cX5_castlings 175 = .ok (.lshl, 1) := by decide +kernel
theorem dX5_castlings_176 : decode cX5_castlings 176 = .ok (.lor, 1) := by decide +kernel
theorem dX5_castlings_177 : decode cX5_castlings 177 = .ok (.lstore 8, 2) := by decide +kernel
theorem dX5_castlings_179 : decode cX5_castlings 179 = .ok (.iload 7, 2) := by decide +kernel
theorem dX5_castlings_181 : decode cX5_castlings 181 = .ok (.ifCond .eq 67, 3) := by decide +kernel
theorem dX5_castlings_184 : decode cX5_castlings 184 = .ok (.iload_n 2, 1) := by decide +kernel
theorem dX5_castlings_185 : decode cX5_castlings 185 = .ok (.iconst 2, 1) := by decide +kernel
theorem dX5_castlings_186 : decode cX5_castlings 186 = .ok (.iand, 1) := by decide +kernel
theorem dX5_castlings_187 : decode cX5_castlings 187 = .ok (.ifCond .eq 61, 3) := by decide +kernel
theorem dX5_castlings_190 : decode cX5_castlings 190 = .ok (.aload_n 0, 1) := by decide +kernel
theorem dX5_castlings_191 : decode cX5_castlings 191 = .ok (.getfield 9, 3) := by decide +kernel
theorem dX5_castlings_194 : decode cX5_castlings 194 = .ok (.getfield 45, 3) := by decide +kernel
theorem dX5_castlings_197 : decode cX5_castlings 197 = .ok (.iload_n 1, 1) := by decide +kernel
theorem dX5_castlings_198 : decode cX5_castlings 198 = .ok (.iconst 4, 1) := by decide +kernel
theorem dX5_castlings_199 : decode cX5_castlings 199 = .ok (.isub, 1) := by decide +kernel
theorem dX5_castlings_200 : decode cX5_castlings 200 = .ok (.iaload, 1) := by decide +kernel
theorem dX5_castlings_201 : decode cX5_castlings 201 = .ok (.iload_n 3, 1) := by decide +kernel
theorem dX5_castlings_202 : decode cX5_castlings 202 = .ok (.if_icmp .ne 46, 3) := by decide +kernel
theorem dX5_castlings_205 : decode cX5_castlings 205 = .ok (.lload 5, 2) := by decide +kernel
theorem dX5_castlings_207 : decode cX5_castlings 207 = .ok (.ldc2_w 116, 3) := by decide +kernel
theorem dX5_castlings_210 : decode cX5_castlings 210 = .ok (.iload_n 1, 1) := by decide +kernel
theorem dX5_castlings_211 : decode cX5_castlings 211 = .ok (.iconst 4, 1) := by decide +kernel
theorem dX5_castlings_212 : decode cX5_castlings 212 = .ok (.isub, 1) := by decide +kernel
theorem dX5_castlings_213 : decode cX5_castlings 213 = .ok (.lshl, 1) := by decide +kernel
theorem dX5_castlings_214 : decode cX5_castlings 214 = .ok (.land, 1) := by decide +kernel
theorem dX5_castlings_215 : decode cX5_castlings 215 = .ok (.lconst 0, 1) := by decide +kernel
theorem dX5_castlings_216 : decode cX5_castlings 216 = .ok (.lcmp, 1) := by decide +kernel
theorem dX5_castlings_217 : decode cX5_castlings 217 = .ok (.ifCond .ne 31, 3) := by decide +kernel
theorem dX5_castlings_220 : decode cX5_castlings 220 = .ok (.aload_n 0, 1) := by decide +kernel
theorem dX5_castlings_221 : decode cX5_castlings 221 = .ok (.getfield 9, 3) := by decide +kernel
theorem dX5_castlings_224 : decode cX5_castlings 224 = .ok (.iload_n 1, 1) := by decide +kernel
theorem dX5_castlings_225 : decode cX5_castlings 225 = .ok (.iconst 1, 1) := by decide +kernel
theorem dX5_castlings_226 : decode cX5_castlings 226 = .ok (.isub, 1) := by decide +kernel
theorem dX5_castlings_227 : decode cX5_castlings 227 = .ok (.iload 4, 2) := by decide +kernel
theorem dX5_castlings_229 : decode cX5_castlings 229 = .ok (.lload 5, 2) := by decide +kernel
theorem dX5_castlings_231 : decode cX5_castlings 231 = .ok (.lconst 0, 1) := by decide +kernel
theorem dX5_castlings_232 : decode cX5_castlings 232 = .ok (.invokevirtual 73, 3) := by decide +kernel
theorem dX5_castlings_235 : decode cX5_castlings 235 = .ok (.ifCond .ne 13, 3) := by decide +kernel
theorem dX5_castlings_238 : decode cX5_castlings 238 = .ok (.lload 8, 2) := by decide +kernel
theorem dX5_castlings_240 : decode cX5_castlings 240 = .ok (.lconst 1, 1) := by decide +kernel
theorem dX5_castlings_241 : decode cX5_castlings 241 = .ok (.iload_n 1, 1) := by decide +kernel
theorem dX5_castlings_242 : decode cX5_castlings 242 = .ok (.iconst 2, 1) := by decide +kernel
theorem dX5_castlings_243 : decode cX5_castlings 243 = .ok (.isub, 1) := by decide +kernel
theorem dX5_castlings_244 : decode cX5_castlings 244 = .ok (.lshl, 1) := by decide +kernel
theorem dX5_castlings_245 : decode cX5_castlings 245 = .ok (.lor, 1) := by decide +kernel
theorem dX5_castlings_246 : decode cX5_castlings 246 = .ok (.lstore 8, 2) := by decide +kernel
theorem dX5_castlings_248 : decode cX5_castlings 248 = .ok (.lload 8, 2) := by decide +kernel
theorem dX5_castlings_250 : decode cX5_castlings 250 = .ok (.lreturn, 1) := by decide +kernel
def kX5_castlings_97 (mc ms : Nat) (X : Nat → zV) (Q : zQt) : zT :=
  zif (fun x => x = 0) (zc (.int 1) <| zj X 105 [0, 1, 2, 3, 4, 5]) <| zc (.int 0) <| zj X 105 [0, 1, 2, 3, 4, 5]
def kX5_castlings_82 (mc ms : Nat) (X : Nat → zV) (Q : zQt) : zT :=
  zsl 5 <| zla 0 <| zgR 5 0 <| zli 1 <| zli 4 <| zll 5 <| zc (.long 0) <| zcv mc ms 0 4 wX0_attacked <| kX5_castlings_97 mc ms X Q
def kX5_castlings_75 (mc ms : Nat) (X : Nat → zV) (Q : zQt) : zT :=
  zla 0 <| zgR 5 0 <| zcv mc ms 0 0 wX0_occupied <| kX5_castlings_82 mc ms X Q
def kX5_castlings_64 (mc ms : Nat) (X : Nat → zV) (Q : zQt) : zT :=
  zc (.int 1) <| zla 0 <| zgR 5 0 <| zgi 0 4 <| zii (fun x y => x - y) <| zsiN 4 <| kX5_castlings_75 mc ms X Q
def kX5_castlings_37 (mc ms : Nat) (X : Nat → zV) (Q : zQt) : zT :=
  zli 2 <| zif (fun x => x = 0) (zj X 49 []) <| zla 0 <| zgi 5 2 <| zli 1 <| zic (fun x y => x = y) (zc (.int 4) <| zc (.int 6) <| zla 0 <| zgR 5 0 <| zgi 0 4 <| zii (fun x y => x * y) <| zii (fun x y => x + y) <| zsiN 3 <| kX5_castlings_64 mc ms X Q) <| zj X 49 []
def kX5_castlings_166 (mc ms : Nat) (X : Nat → zV) (Q : zQt) : zT :=
  zif (fun x => x = 0) (zll 8 <| zc (.long 1) <| zli 1 <| zc (.int 2) <| zii (fun x y => x + y) <| zji (fun x y => x <<< (y.toInt64 &&& 63)) <| zjj (fun x y => x ||| y) <| zslN 8 <| zj X 179 [0, 1, 2, 3, 4, 5, 7, 8]) <| zj X 179 [0, 1, 2, 3, 4, 5, 7, 8]
def kX5_castlings_235 (mc ms : Nat) (X : Nat → zV) (Q : zQt) : zT :=
  zif (fun x => x = 0) (zll 8 <| zc (.long 1) <| zli 1 <| zc (.int 2) <| zii (fun x y => x - y) <| zji (fun x y => x <<< (y.toInt64 &&& 63)) <| zjj (fun x y => x ||| y) <| zslN 8 <| zj X 248 [8]) <| zj X 248 [8]
def aX5_castlings_0 (mc ms : Nat) (X : Nat → zV) (Q : zQt) : zT :=
  zla 0 <| zgR 5 0 <| zgi 0 4 <| zif (fun x => x = 0) (zc (.int 4) <| zj X 16 [0]) <| zc (.int 60) <| zj X 16 [0]
def aX5_castlings_16 (mc ms : Nat) (X : Nat → zV) (Q : zQt) : zT :=
  zsi 1 <| zla 0 <| zgR 5 0 <| zgi 0 5 <| zc (.int 2) <| zla 0 <| zgR 5 0 <| zgi 0 4 <| zii (fun x y => x * y) <| zii (fun x y => x >>> (y &&& 31)) <| zc (.int 3) <| zii (fun x y => x &&& y) <| zsiN 2 <| kX5_castlings_37 mc ms X Q
def aX5_castlings_49 (mc ms : Nat) (X : Nat → zV) (Q : zQt) : zT :=
  zc (.long 0) <| zrl Q
def aX5_castlings_105 (mc ms : Nat) (X : Nat → zV) (Q : zQt) : zT :=
  zsi 7 <| zc (.long 0) <| zsl 8 <| zli 7 <| zif (fun x => x = 0) (zj X 179 [0, 1, 2, 3, 4, 5, 7, 8]) <| zli 2 <| zc (.int 1) <| zii (fun x y => x &&& y) <| zif (fun x => x = 0) (zj X 179 [0, 1, 2, 3, 4, 5, 7, 8]) <| zla 0 <| zgR 5 0 <| zgR 0 1 <| zli 1 <| zc (.int 3) <| zii (fun x y => x + y) <| zal 1 <| zli 3 <| zic (fun x y => x = y) (zll 5 <| zc (.long 96) <| zli 1 <| zc (.int 4) <| zii (fun x y => x - y) <| zji (fun x y => x <<< (y.toInt64 &&& 63)) <| zjj (fun x y => x &&& y) <| zc (.long 0) <| zlc <| zif (fun x => x = 0) (zla 0 <| zgR 5 0 <| zli 1 <| zc (.int 1) <| zii (fun x y => x + y) <| zli 4 <| zll 5 <| zc (.long 0) <| zcv mc ms 0 4 wX0_attacked <| kX5_castlings_166 mc ms X Q) <| zj X 179 [0, 1, 2, 3, 4, 5, 7, 8]) <| zj X 179 [0, 1, 2, 3, 4, 5, 7, 8]
def aX5_castlings_179 (mc ms : Nat) (X : Nat → zV) (Q : zQt) : zT :=
  zli 7 <| zif (fun x => x = 0) (zj X 248 [8]) <| zli 2 <| zc (.int 2) <| zii (fun x y => x &&& y) <| zif (fun x => x = 0) (zj X 248 [8]) <| zla 0 <| zgR 5 0 <| zgR 0 1 <| zli 1 <| zc (.int 4) <| zii (fun x y => x - y) <| zal 1 <| zli 3 <| zic (fun x y => x = y) (zll 5 <| zc (.long 14) <| zli 1 <| zc (.int 4) <| zii (fun x y => x - y) <| zji (fun x y => x <<< (y.toInt64 &&& 63)) <| zjj (fun x y => x &&& y) <| zc (.long 0) <| zlc <| zif (fun x => x = 0) (zla 0 <| zgR 5 0 <| zli 1 <| zc (.int 1) <| zii (fun x y => x - y) <| zli 4 <| zll 5 <| zc (.long 0) <| zcv mc ms 0 4 wX0_attacked <| kX5_castlings_235 mc ms X Q) <| zj X 248 [8]) <| zj X 248 [8]
def aX5_castlings_248 (mc ms : Nat) (X : Nat → zV) (Q : zQt) : zT :=
  zll 8 <| zrl Q
def lvX5_castlings : Nat → List Nat := fun L => match L with
  | 0 => [0]
  | 16 => [0]
  | 49 => []
  | 105 => [0, 1, 2, 3, 4, 5]
  | 179 => [0, 1, 2, 3, 4, 5, 7, 8]
  | 248 => [8]
  | _ => []
def wX5_castlings : zSp := fun mc ms av M Q => ((zlay av).length ≤ 10 ∧ zpick (zlay av) [0] = some av) ∧ ∀ X : Nat → zV, zin 10 [0] (aX5_castlings_0 mc ms X Q) X 0 → zin 10 [0] (aX5_castlings_16 mc ms X Q) X 16 → zin 10 [] (aX5_castlings_49 mc ms X Q) X 49 → zin 10 [0, 1, 2, 3, 4, 5] (aX5_castlings_105 mc ms X Q) X 105 → zin 10 [0, 1, 2, 3, 4, 5, 7, 8] (aX5_castlings_179 mc ms X Q) X 179 → zin 10 [8] (aX5_castlings_248 mc ms X Q) X 248 → X 0 0 0 av [] M
set_option maxRecDepth 100000 in
set_option maxHeartbeats 4000000 in
theorem sX5_castlings (l : Launch) (G : zG) : zSnd l G yX5_castlings cX5_castlings 10 (some .long) 2 66 wX5_castlings := by
  refine zmk [0] (by decide) (fun mc ms av M Q h => h.1) ?_
  intro p e R s m args below meth c mc ms av M Q hC hRf hRl hr hnm h lv hlv
  obtain ⟨X, hXe⟩ : ∃ X : Nat → zV, X = fun L u v vs st M => ∀ lv, zpick lv (lvX5_castlings L) = some vs → zAt p l e R s m args below meth c (MQ below (zQ G Q) args s mc ms (zA G)) G 10 L u v lv st M := ⟨_, rfl⟩
  have hJ : ∀ L, zOk p l e R s m args below meth c (MQ below (zQ G Q) args s mc ms (zA G)) G 10 L (zj X L (lvX5_castlings L)) := fun L => S_jump (fun u v lv vs st M hp hx => by rw [hXe] at hx; exact hx lv hp)
  have hB0 : zin 10 [0] (aX5_castlings_0 mc ms X Q) X 0 := by
    intro u v vs st M hb
    rw [hXe]
    refine fun lv hp => S_block (L := 0) (live := [0]) ?_ u v lv vs st M hp hb
    unfold aX5_castlings_0
    refine S_aload_n (pc := 0) hC dX5_castlings_0 rfl ?_
    refine S_getR (pc := 1) hC cfX5 (by decide) (Or.inl ⟨_, rfl⟩) wd_294 dX5_castlings_1 ?_
    refine S_geti (pc := 4) hC cfX0 (by decide) (Or.inl rfl) wd_228 dX5_castlings_4 ?_
    refine S_if_ne (pc := 7) (tgt := 14) hC dX5_castlings_7 (by decide) ?_ ?_
    · refine S_bipush (pc := 14) hC dX5_castlings_14 (by decide) ?_
      exact hJ 16
    · refine S_iconst (pc := 10) hC dX5_castlings_10 (by decide) ?_
      refine S_goto (pc := 11) (tgt := 16) hC dX5_castlings_11 (by decide) ?_
      exact hJ 16
  have hB16 : zin 10 [0] (aX5_castlings_16 mc ms X Q) X 16 := by
    intro u v vs st M hb
    rw [hXe]
    refine fun lv hp => S_block (L := 16) (live := [0]) ?_ u v lv vs st M hp hb
    unfold aX5_castlings_16
    refine S_istore_n (pc := 16) hC dX5_castlings_16 rfl (by decide) ?_
    refine S_aload_n (pc := 17) hC dX5_castlings_17 rfl ?_
    refine S_getR (pc := 18) hC cfX5 (by decide) (Or.inl ⟨_, rfl⟩) wd_294 dX5_castlings_18 ?_
    refine S_geti (pc := 21) hC cfX0 (by decide) (Or.inl rfl) wd_241 dX5_castlings_21 ?_
    refine S_iconst (pc := 24) hC dX5_castlings_24 (by decide) ?_
    refine S_aload_n (pc := 25) hC dX5_castlings_25 rfl ?_
    refine S_getR (pc := 26) hC cfX5 (by decide) (Or.inl ⟨_, rfl⟩) wd_294 dX5_castlings_26 ?_
    refine S_geti (pc := 29) hC cfX0 (by decide) (Or.inl rfl) wd_228 dX5_castlings_29 ?_
    refine S_imul (pc := 32) hC dX5_castlings_32 ?_
    refine S_ishr (pc := 33) hC dX5_castlings_33 ?_
    refine S_iconst (pc := 34) hC dX5_castlings_34 (by decide) ?_
    refine S_iand (pc := 35) hC dX5_castlings_35 ?_
    refine S_istore_n_N (pc := 36) hC dX5_castlings_36 rfl (by decide) ?_
    unfold kX5_castlings_37
    refine S_iload_n (pc := 37) hC dX5_castlings_37 rfl ?_
    refine S_if_eq (pc := 38) (tgt := 49) hC dX5_castlings_38 (by decide) ?_ ?_
    · exact hJ 49
    · refine S_aload_n (pc := 41) hC dX5_castlings_41 rfl ?_
      refine S_geti (pc := 42) hC cfX5 (by decide) (Or.inl rfl) wd_296 dX5_castlings_42 ?_
      refine S_iload_n (pc := 45) hC dX5_castlings_45 rfl ?_
      refine S_icmp_eq (pc := 46) (tgt := 51) hC dX5_castlings_46 (by decide) ?_ ?_
      · refine S_iconst (pc := 51) hC dX5_castlings_51 (by decide) ?_
        refine S_bipush (pc := 52) hC dX5_castlings_52 (by decide) ?_
        refine S_aload_n (pc := 54) hC dX5_castlings_54 rfl ?_
        refine S_getR (pc := 55) hC cfX5 (by decide) (Or.inl ⟨_, rfl⟩) wd_294 dX5_castlings_55 ?_
        refine S_geti (pc := 58) hC cfX0 (by decide) (Or.inl rfl) wd_228 dX5_castlings_58 ?_
        refine S_imul (pc := 61) hC dX5_castlings_61 ?_
        refine S_iadd (pc := 62) hC dX5_castlings_62 ?_
        refine S_istore_n_N (pc := 63) hC dX5_castlings_63 rfl (by decide) ?_
        unfold kX5_castlings_64
        refine S_iconst (pc := 64) hC dX5_castlings_64 (by decide) ?_
        refine S_aload_n (pc := 65) hC dX5_castlings_65 rfl ?_
        refine S_getR (pc := 66) hC cfX5 (by decide) (Or.inl ⟨_, rfl⟩) wd_294 dX5_castlings_66 ?_
        refine S_geti (pc := 69) hC cfX0 (by decide) (Or.inl rfl) wd_228 dX5_castlings_69 ?_
        refine S_isub (pc := 72) hC dX5_castlings_72 ?_
        refine S_istore_N (pc := 73) hC dX5_castlings_73 (by decide) ?_
        unfold kX5_castlings_75
        refine S_aload_n (pc := 75) hC dX5_castlings_75 rfl ?_
        refine S_getR (pc := 76) hC cfX5 (by decide) (Or.inl ⟨_, rfl⟩) wd_294 dX5_castlings_76 ?_
        refine S_callV (pc := 79) hC (sX0_occupied l G) rfl wd_443 wd_444 wd_445 wd_10 wd_446 (by decide +kernel) ⟨by rw [hRf]; decide, by rw [hRl]; decide⟩ dX5_castlings_79 ?_
        unfold kX5_castlings_82
        refine S_lstore (pc := 82) hC dX5_castlings_82 (by decide) ?_
        refine S_aload_n (pc := 84) hC dX5_castlings_84 rfl ?_
        refine S_getR (pc := 85) hC cfX5 (by decide) (Or.inl ⟨_, rfl⟩) wd_294 dX5_castlings_85 ?_
        refine S_iload_n (pc := 88) hC dX5_castlings_88 rfl ?_
        refine S_iload (pc := 89) hC dX5_castlings_89 ?_
        refine S_lload (pc := 91) hC dX5_castlings_91 ?_
        refine S_lconst (pc := 93) hC dX5_castlings_93 (by decide) ?_
        refine S_callV (pc := 94) hC (sX0_attacked l G) rfl wd_447 wd_448 wd_449 wd_10 wd_450 (by decide +kernel) ⟨by rw [hRf]; decide, by rw [hRl]; decide⟩ dX5_castlings_94 ?_
        unfold kX5_castlings_97
        refine S_if_ne (pc := 97) (tgt := 104) hC dX5_castlings_97 (by decide) ?_ ?_
        · refine S_iconst (pc := 104) hC dX5_castlings_104 (by decide) ?_
          exact hJ 105
        · refine S_iconst (pc := 100) hC dX5_castlings_100 (by decide) ?_
          refine S_goto (pc := 101) (tgt := 105) hC dX5_castlings_101 (by decide) ?_
          exact hJ 105
      · exact hJ 49
  have hB49 : zin 10 [] (aX5_castlings_49 mc ms X Q) X 49 := by
    intro u v vs st M hb
    rw [hXe]
    refine fun lv hp => S_block (L := 49) (live := []) ?_ u v lv vs st M hp hb
    unfold aX5_castlings_49
    refine S_lconst (pc := 49) hC dX5_castlings_49 (by decide) ?_
    exact S_lreturn (pc := 50) hC hr dX5_castlings_50
  have hB105 : zin 10 [0, 1, 2, 3, 4, 5] (aX5_castlings_105 mc ms X Q) X 105 := by
    intro u v vs st M hb
    rw [hXe]
    refine fun lv hp => S_block (L := 105) (live := [0, 1, 2, 3, 4, 5]) ?_ u v lv vs st M hp hb
    unfold aX5_castlings_105
    refine S_istore (pc := 105) hC dX5_castlings_105 (by decide) ?_
    refine S_lconst (pc := 107) hC dX5_castlings_107 (by decide) ?_
    refine S_lstore (pc := 108) hC dX5_castlings_108 (by decide) ?_
    refine S_iload (pc := 110) hC dX5_castlings_110 ?_
    refine S_if_eq (pc := 112) (tgt := 179) hC dX5_castlings_112 (by decide) ?_ ?_
    · exact hJ 179
    · refine S_iload_n (pc := 115) hC dX5_castlings_115 rfl ?_
      refine S_iconst (pc := 116) hC dX5_castlings_116 (by decide) ?_
      refine S_iand (pc := 117) hC dX5_castlings_117 ?_
      refine S_if_eq (pc := 118) (tgt := 179) hC dX5_castlings_118 (by decide) ?_ ?_
      · exact hJ 179
      · refine S_aload_n (pc := 121) hC dX5_castlings_121 rfl ?_
        refine S_getR (pc := 122) hC cfX5 (by decide) (Or.inl ⟨_, rfl⟩) wd_294 dX5_castlings_122 ?_
        refine S_getR (pc := 125) hC cfX0 (by decide) (Or.inr ⟨_, rfl⟩) wd_215 dX5_castlings_125 ?_
        refine S_iload_n (pc := 128) hC dX5_castlings_128 rfl ?_
        refine S_iconst (pc := 129) hC dX5_castlings_129 (by decide) ?_
        refine S_iadd (pc := 130) hC dX5_castlings_130 ?_
        refine S_iaload (pc := 131) hC dX5_castlings_131 ?_
        refine S_iload_n (pc := 132) hC dX5_castlings_132 rfl ?_
        refine S_icmp_ne (pc := 133) (tgt := 179) hC dX5_castlings_133 (by decide) ?_ ?_
        · exact hJ 179
        · refine S_lload (pc := 136) hC dX5_castlings_136 ?_
          refine S_ldc2 (pc := 138) hC wd_476 dX5_castlings_138 ?_
          refine S_iload_n (pc := 141) hC dX5_castlings_141 rfl ?_
          refine S_iconst (pc := 142) hC dX5_castlings_142 (by decide) ?_
          refine S_isub (pc := 143) hC dX5_castlings_143 ?_
          refine S_lshl (pc := 144) hC dX5_castlings_144 ?_
          refine S_land (pc := 145) hC dX5_castlings_145 ?_
          refine S_lconst (pc := 146) hC dX5_castlings_146 (by decide) ?_
          refine S_lcmp (pc := 147) hC dX5_castlings_147 ?_
          refine S_if_ne (pc := 148) (tgt := 179) hC dX5_castlings_148 (by decide) ?_ ?_
          · exact hJ 179
          · refine S_aload_n (pc := 151) hC dX5_castlings_151 rfl ?_
            refine S_getR (pc := 152) hC cfX5 (by decide) (Or.inl ⟨_, rfl⟩) wd_294 dX5_castlings_152 ?_
            refine S_iload_n (pc := 155) hC dX5_castlings_155 rfl ?_
            refine S_iconst (pc := 156) hC dX5_castlings_156 (by decide) ?_
            refine S_iadd (pc := 157) hC dX5_castlings_157 ?_
            refine S_iload (pc := 158) hC dX5_castlings_158 ?_
            refine S_lload (pc := 160) hC dX5_castlings_160 ?_
            refine S_lconst (pc := 162) hC dX5_castlings_162 (by decide) ?_
            refine S_callV (pc := 163) hC (sX0_attacked l G) rfl wd_447 wd_448 wd_449 wd_10 wd_450 (by decide +kernel) ⟨by rw [hRf]; decide, by rw [hRl]; decide⟩ dX5_castlings_163 ?_
            unfold kX5_castlings_166
            refine S_if_ne (pc := 166) (tgt := 179) hC dX5_castlings_166 (by decide) ?_ ?_
            · exact hJ 179
            · refine S_lload (pc := 169) hC dX5_castlings_169 ?_
              refine S_lconst (pc := 171) hC dX5_castlings_171 (by decide) ?_
              refine S_iload_n (pc := 172) hC dX5_castlings_172 rfl ?_
              refine S_iconst (pc := 173) hC dX5_castlings_173 (by decide) ?_
              refine S_iadd (pc := 174) hC dX5_castlings_174 ?_
              refine S_lshl (pc := 175) hC dX5_castlings_175 ?_
              refine S_lor (pc := 176) hC dX5_castlings_176 ?_
              refine S_lstore_N (pc := 177) hC dX5_castlings_177 (by decide) ?_
              exact hJ 179
  have hB179 : zin 10 [0, 1, 2, 3, 4, 5, 7, 8] (aX5_castlings_179 mc ms X Q) X 179 := by
    intro u v vs st M hb
    rw [hXe]
    refine fun lv hp => S_block (L := 179) (live := [0, 1, 2, 3, 4, 5, 7, 8]) ?_ u v lv vs st M hp hb
    unfold aX5_castlings_179
    refine S_iload (pc := 179) hC dX5_castlings_179 ?_
    refine S_if_eq (pc := 181) (tgt := 248) hC dX5_castlings_181 (by decide) ?_ ?_
    · exact hJ 248
    · refine S_iload_n (pc := 184) hC dX5_castlings_184 rfl ?_
      refine S_iconst (pc := 185) hC dX5_castlings_185 (by decide) ?_
      refine S_iand (pc := 186) hC dX5_castlings_186 ?_
      refine S_if_eq (pc := 187) (tgt := 248) hC dX5_castlings_187 (by decide) ?_ ?_
      · exact hJ 248
      · refine S_aload_n (pc := 190) hC dX5_castlings_190 rfl ?_
        refine S_getR (pc := 191) hC cfX5 (by decide) (Or.inl ⟨_, rfl⟩) wd_294 dX5_castlings_191 ?_
        refine S_getR (pc := 194) hC cfX0 (by decide) (Or.inr ⟨_, rfl⟩) wd_215 dX5_castlings_194 ?_
        refine S_iload_n (pc := 197) hC dX5_castlings_197 rfl ?_
        refine S_iconst (pc := 198) hC dX5_castlings_198 (by decide) ?_
        refine S_isub (pc := 199) hC dX5_castlings_199 ?_
        refine S_iaload (pc := 200) hC dX5_castlings_200 ?_
        refine S_iload_n (pc := 201) hC dX5_castlings_201 rfl ?_
        refine S_icmp_ne (pc := 202) (tgt := 248) hC dX5_castlings_202 (by decide) ?_ ?_
        · exact hJ 248
        · refine S_lload (pc := 205) hC dX5_castlings_205 ?_
          refine S_ldc2 (pc := 207) hC wd_477 dX5_castlings_207 ?_
          refine S_iload_n (pc := 210) hC dX5_castlings_210 rfl ?_
          refine S_iconst (pc := 211) hC dX5_castlings_211 (by decide) ?_
          refine S_isub (pc := 212) hC dX5_castlings_212 ?_
          refine S_lshl (pc := 213) hC dX5_castlings_213 ?_
          refine S_land (pc := 214) hC dX5_castlings_214 ?_
          refine S_lconst (pc := 215) hC dX5_castlings_215 (by decide) ?_
          refine S_lcmp (pc := 216) hC dX5_castlings_216 ?_
          refine S_if_ne (pc := 217) (tgt := 248) hC dX5_castlings_217 (by decide) ?_ ?_
          · exact hJ 248
          · refine S_aload_n (pc := 220) hC dX5_castlings_220 rfl ?_
            refine S_getR (pc := 221) hC cfX5 (by decide) (Or.inl ⟨_, rfl⟩) wd_294 dX5_castlings_221 ?_
            refine S_iload_n (pc := 224) hC dX5_castlings_224 rfl ?_
            refine S_iconst (pc := 225) hC dX5_castlings_225 (by decide) ?_
            refine S_isub (pc := 226) hC dX5_castlings_226 ?_
            refine S_iload (pc := 227) hC dX5_castlings_227 ?_
            refine S_lload (pc := 229) hC dX5_castlings_229 ?_
            refine S_lconst (pc := 231) hC dX5_castlings_231 (by decide) ?_
            refine S_callV (pc := 232) hC (sX0_attacked l G) rfl wd_447 wd_448 wd_449 wd_10 wd_450 (by decide +kernel) ⟨by rw [hRf]; decide, by rw [hRl]; decide⟩ dX5_castlings_232 ?_
            unfold kX5_castlings_235
            refine S_if_ne (pc := 235) (tgt := 248) hC dX5_castlings_235 (by decide) ?_ ?_
            · exact hJ 248
            · refine S_lload (pc := 238) hC dX5_castlings_238 ?_
              refine S_lconst (pc := 240) hC dX5_castlings_240 (by decide) ?_
              refine S_iload_n (pc := 241) hC dX5_castlings_241 rfl ?_
              refine S_iconst (pc := 242) hC dX5_castlings_242 (by decide) ?_
              refine S_isub (pc := 243) hC dX5_castlings_243 ?_
              refine S_lshl (pc := 244) hC dX5_castlings_244 ?_
              refine S_lor (pc := 245) hC dX5_castlings_245 ?_
              refine S_lstore_N (pc := 246) hC dX5_castlings_246 (by decide) ?_
              exact hJ 248
  have hB248 : zin 10 [8] (aX5_castlings_248 mc ms X Q) X 248 := by
    intro u v vs st M hb
    rw [hXe]
    refine fun lv hp => S_block (L := 248) (live := [8]) ?_ u v lv vs st M hp hb
    unfold aX5_castlings_248
    refine S_lload (pc := 248) hC dX5_castlings_248 ?_
    exact S_lreturn (pc := 250) hC hr dX5_castlings_250
  have := h.2 X hB0 hB16 hB49 hB105 hB179 hB248
  rw [hXe] at this
  exact this lv hlv
theorem vX5_castlings_0 {mc ms : Nat} {X : Nat → zV} {Q : zQt} {M : zM} {g : Nat}  (hW : zWd M g)  (h : ((M.1 ((g + 1)) 4) = 0 → X 16 0 0 [.ref (g + 6)] [.int 4] M) ∧ (¬ (M.1 ((g + 1)) 4) = 0 → X 16 0 0 [.ref (g + 6)] [.int 60] M)) : aX5_castlings_0 mc ms X Q 0 0 [some (.ref (g + 6)), none, none, none, none, none, none, none, none, none] [] M := ⟨(fgs_6 hW), (g + 1), (fgr_6_0 hW), ⟨(fgs_1 hW), ⟨fun c7 => (h.1 c7), fun c7 => (h.2 c7)⟩⟩⟩
theorem vcX5_castlings_75 {mc ms : Nat} {X : Nat → zV} {Q : zQt} {M : zM} {g : Nat} {x1 : Int32} {x2 : Int32} {x3 : Int32} {x4 : Int32} (hW : zWd M g)  (h : wX0_occupied 0 0 [.ref (g + 1)] M (fun r M1 => kX5_castlings_82 mc ms X Q 0 0 [some (.ref (g + 6)), some (.int x1), some (.int x2), some (.int x3), some (.int x4), none, none, none, none, none] (r.toList ++ []) M1)) : kX5_castlings_75 mc ms X Q 0 0 [some (.ref (g + 6)), some (.int x1), some (.int x2), some (.int x3), some (.int x4), none, none, none, none, none] [] M := ⟨(fgs_6 hW), (g + 1), (fgr_6_0 hW), ⟨Nat.le_of_ble_eq_true rfl, rfl, (fgs_1 hW), 0, 0, Nat.zero_le _, Nat.zero_le _, h⟩⟩
theorem vcX5_castlings_64 {mc ms : Nat} {X : Nat → zV} {Q : zQt} {M : zM} {g : Nat} {x1 : Int32} {x2 : Int32} {x3 : Int32} (hW : zWd M g)  (h : ∀ y73 : Int32, y73 = ((1 : Int32) - (M.1 ((g + 1)) 4)) → wX0_occupied 0 0 [.ref (g + 1)] M (fun r M1 => kX5_castlings_82 mc ms X Q 0 0 [some (.ref (g + 6)), some (.int x1), some (.int x2), some (.int x3), some (.int y73), none, none, none, none, none] (r.toList ++ []) M1)) : kX5_castlings_64 mc ms X Q 0 0 [some (.ref (g + 6)), some (.int x1), some (.int x2), some (.int x3), none, none, none, none, none, none] [] M := ⟨(fgs_6 hW), (g + 1), (fgr_6_0 hW), ⟨(fgs_1 hW), (fun y73 e73 => have h73 := h y73 e73; (vcX5_castlings_75 hW  h73))⟩⟩
theorem vcX5_castlings_37 {mc ms : Nat} {X : Nat → zV} {Q : zQt} {M : zM} {g : Nat} {x1 : Int32} {x2 : Int32} (hW : zWd M g)  (h : (x2 = 0 → X 49 0 0 [] [] M) ∧ (¬ x2 = 0 → ((M.1 ((g + 6)) 2) = x1 → ∀ y63 : Int32, y63 = ((4 : Int32) + ((6 : Int32) * (M.1 ((g + 1)) 4))) → ∀ y73 : Int32, y73 = ((1 : Int32) - (M.1 ((g + 1)) 4)) → wX0_occupied 0 0 [.ref (g + 1)] M (fun r M1 => kX5_castlings_82 mc ms X Q 0 0 [some (.ref (g + 6)), some (.int x1), some (.int x2), some (.int y63), some (.int y73), none, none, none, none, none] (r.toList ++ []) M1)) ∧ (¬ (M.1 ((g + 6)) 2) = x1 → X 49 0 0 [] [] M))) : kX5_castlings_37 mc ms X Q 0 0 [some (.ref (g + 6)), some (.int x1), some (.int x2), none, none, none, none, none, none, none] [] M := ⟨fun c38 => (h.1 c38), fun c38 => ⟨(fgs_6 hW), ⟨fun c46 => ⟨(fgs_6 hW), (g + 1), (fgr_6_0 hW), ⟨(fgs_1 hW), (fun y63 e63 => have h63 := ((h.2 c38).1 c46) y63 e63; (vcX5_castlings_64 hW  h63))⟩⟩, fun c46 => ((h.2 c38).2 c46)⟩⟩⟩
theorem vX5_castlings_16 {mc ms : Nat} {X : Nat → zV} {Q : zQt} {M : zM} {g : Nat} {s0 : Int32} (hW : zWd M g)  (h : ∀ y36 : Int32, y36 = (((M.1 ((g + 1)) 5) >>> (((2 : Int32) * (M.1 ((g + 1)) 4)) &&& 31)) &&& (3 : Int32)) → (y36 = 0 → X 49 0 0 [] [] M) ∧ (¬ y36 = 0 → ((M.1 ((g + 6)) 2) = s0 → ∀ y63 : Int32, y63 = ((4 : Int32) + ((6 : Int32) * (M.1 ((g + 1)) 4))) → ∀ y73 : Int32, y73 = ((1 : Int32) - (M.1 ((g + 1)) 4)) → wX0_occupied 0 0 [.ref (g + 1)] M (fun r M1 => kX5_castlings_82 mc ms X Q 0 0 [some (.ref (g + 6)), some (.int s0), some (.int y36), some (.int y63), some (.int y73), none, none, none, none, none] (r.toList ++ []) M1)) ∧ (¬ (M.1 ((g + 6)) 2) = s0 → X 49 0 0 [] [] M))) : aX5_castlings_16 mc ms X Q 0 0 [some (.ref (g + 6)), none, none, none, none, none, none, none, none, none] [.int s0] M := ⟨(fgs_6 hW), (g + 1), (fgr_6_0 hW), ⟨(fgs_1 hW), ⟨(fgs_6 hW), (g + 1), (fgr_6_0 hW), ⟨(fgs_1 hW), (fun y36 e36 => have h36 := h y36 e36; (vcX5_castlings_37 hW  h36))⟩⟩⟩⟩
theorem vX5_castlings_49 {mc ms : Nat} {X : Nat → zV} {Q : zQt} {M : zM} {g : Nat}  (hW : zWd M g)  (h : Q (some (.long 0)) M) : aX5_castlings_49 mc ms X Q 0 0 [none, none, none, none, none, none, none, none, none, none] [] M := h
theorem vX5_castlings_105 {mc ms : Nat} {X : Nat → zV} {Q : zQt} {M : zM} {g : Nat} {x1 : Int32} {x2 : Int32} {x3 : Int32} {x4 : Int32} {x5 : Int64} {s0 : Int32} (hW : zWd M g)  (h : (s0 = 0 → X 179 0 0 [.ref (g + 6), .int x1, .int x2, .int x3, .int x4, .long x5, .int s0, .long 0] [] M) ∧ (¬ s0 = 0 → ((x2 &&& (1 : Int32)) = 0 → X 179 0 0 [.ref (g + 6), .int x1, .int x2, .int x3, .int x4, .long x5, .int s0, .long 0] [] M) ∧ (¬ (x2 &&& (1 : Int32)) = 0 → vp_in ((x1 + (3 : Int32))) 64 ∧ (((M : zM).1 ((g + 2)) ((x1 + (3 : Int32)) : Int32).toNatClampNeg) = x3 → ((lg_cmp ((x5 &&& ((96 : Int64) <<< ((x1 - (4 : Int32)).toInt64 &&& 63)))) ((0 : Int64))) = 0 → wX0_attacked 0 0 [.ref (g + 1), .int (x1 + (1 : Int32)), .int x4, .long x5, .long 0] M (fun r M1 => kX5_castlings_166 mc ms X Q 0 0 [some (.ref (g + 6)), some (.int x1), some (.int x2), some (.int x3), some (.int x4), some (.long x5), none, some (.int s0), some (.long 0), none] (r.toList ++ []) M1)) ∧ (¬ (lg_cmp ((x5 &&& ((96 : Int64) <<< ((x1 - (4 : Int32)).toInt64 &&& 63)))) ((0 : Int64))) = 0 → X 179 0 0 [.ref (g + 6), .int x1, .int x2, .int x3, .int x4, .long x5, .int s0, .long 0] [] M)) ∧ (¬ ((M : zM).1 ((g + 2)) ((x1 + (3 : Int32)) : Int32).toNatClampNeg) = x3 → X 179 0 0 [.ref (g + 6), .int x1, .int x2, .int x3, .int x4, .long x5, .int s0, .long 0] [] M)))) : aX5_castlings_105 mc ms X Q 0 0 [some (.ref (g + 6)), some (.int x1), some (.int x2), some (.int x3), some (.int x4), some (.long x5), none, none, none, none] [.int s0] M := ⟨fun c112 => (h.1 c112), fun c112 => ⟨fun c118 => ((h.2 c112).1 c118), fun c118 => ⟨(fgs_6 hW), (g + 1), (fgr_6_0 hW), ⟨(fgs_1 hW), (g + 2), (fgr_1_1 hW), ⟨64, (fgs_2 hW), ((h.2 c112).2 c118).1, ⟨fun c133 => ⟨fun c148 => ⟨(fgs_6 hW), (g + 1), (fgr_6_0 hW), ⟨Nat.le_of_ble_eq_true rfl, rfl, (fgs_1 hW), 0, 0, Nat.zero_le _, Nat.zero_le _, ((((h.2 c112).2 c118).2.1 c133).1 c148)⟩⟩, fun c148 => ((((h.2 c112).2 c118).2.1 c133).2 c148)⟩, fun c133 => (((h.2 c112).2 c118).2.2 c133)⟩⟩⟩⟩⟩⟩
theorem vX5_castlings_179 {mc ms : Nat} {X : Nat → zV} {Q : zQt} {M : zM} {g : Nat} {x1 : Int32} {x2 : Int32} {x3 : Int32} {x4 : Int32} {x5 : Int64} {x7 : Int32} {x8 : Int64} (hW : zWd M g)  (h : (x7 = 0 → X 248 0 0 [.long x8] [] M) ∧ (¬ x7 = 0 → ((x2 &&& (2 : Int32)) = 0 → X 248 0 0 [.long x8] [] M) ∧ (¬ (x2 &&& (2 : Int32)) = 0 → vp_in ((x1 - (4 : Int32))) 64 ∧ (((M : zM).1 ((g + 2)) ((x1 - (4 : Int32)) : Int32).toNatClampNeg) = x3 → ((lg_cmp ((x5 &&& ((14 : Int64) <<< ((x1 - (4 : Int32)).toInt64 &&& 63)))) ((0 : Int64))) = 0 → wX0_attacked 0 0 [.ref (g + 1), .int (x1 - (1 : Int32)), .int x4, .long x5, .long 0] M (fun r M1 => kX5_castlings_235 mc ms X Q 0 0 [some (.ref (g + 6)), some (.int x1), some (.int x2), some (.int x3), some (.int x4), some (.long x5), none, some (.int x7), some (.long x8), none] (r.toList ++ []) M1)) ∧ (¬ (lg_cmp ((x5 &&& ((14 : Int64) <<< ((x1 - (4 : Int32)).toInt64 &&& 63)))) ((0 : Int64))) = 0 → X 248 0 0 [.long x8] [] M)) ∧ (¬ ((M : zM).1 ((g + 2)) ((x1 - (4 : Int32)) : Int32).toNatClampNeg) = x3 → X 248 0 0 [.long x8] [] M)))) : aX5_castlings_179 mc ms X Q 0 0 [some (.ref (g + 6)), some (.int x1), some (.int x2), some (.int x3), some (.int x4), some (.long x5), none, some (.int x7), some (.long x8), none] [] M := ⟨fun c181 => (h.1 c181), fun c181 => ⟨fun c187 => ((h.2 c181).1 c187), fun c187 => ⟨(fgs_6 hW), (g + 1), (fgr_6_0 hW), ⟨(fgs_1 hW), (g + 2), (fgr_1_1 hW), ⟨64, (fgs_2 hW), ((h.2 c181).2 c187).1, ⟨fun c202 => ⟨fun c217 => ⟨(fgs_6 hW), (g + 1), (fgr_6_0 hW), ⟨Nat.le_of_ble_eq_true rfl, rfl, (fgs_1 hW), 0, 0, Nat.zero_le _, Nat.zero_le _, ((((h.2 c181).2 c187).2.1 c202).1 c217)⟩⟩, fun c217 => ((((h.2 c181).2 c187).2.1 c202).2 c217)⟩, fun c202 => (((h.2 c181).2 c187).2.2 c202)⟩⟩⟩⟩⟩⟩
theorem vX5_castlings_248 {mc ms : Nat} {X : Nat → zV} {Q : zQt} {M : zM} {g : Nat} {x8 : Int64} (hW : zWd M g)  (h : Q (some (.long x8)) M) : aX5_castlings_248 mc ms X Q 0 0 [none, none, none, none, none, none, none, none, some (.long x8), none] [] M := h
theorem vkX5_castlings_82 {mc ms : Nat} {X : Nat → zV} {Q : zQt} {M : zM} {g : Nat} {x1 : Int32} {x2 : Int32} {x3 : Int32} {x4 : Int32} {s0 : Int64} (hW : zWd M g)  (h : wX0_attacked 0 0 [.ref (g + 1), .int x1, .int x4, .long s0, .long 0] M (fun r M1 => kX5_castlings_97 mc ms X Q 0 0 [some (.ref (g + 6)), some (.int x1), some (.int x2), some (.int x3), some (.int x4), some (.long s0), none, none, none, none] (r.toList ++ []) M1)) : kX5_castlings_82 mc ms X Q 0 0 [some (.ref (g + 6)), some (.int x1), some (.int x2), some (.int x3), some (.int x4), none, none, none, none, none] [.long s0] M := ⟨(fgs_6 hW), (g + 1), (fgr_6_0 hW), ⟨Nat.le_of_ble_eq_true rfl, rfl, (fgs_1 hW), 0, 0, Nat.zero_le _, Nat.zero_le _, h⟩⟩
theorem vkX5_castlings_97 {mc ms : Nat} {X : Nat → zV} {Q : zQt} {M : zM} {g : Nat} {x1 : Int32} {x2 : Int32} {x3 : Int32} {x4 : Int32} {x5 : Int64} {s0 : Int32} (hW : zWd M g)  (h : (s0 = 0 → X 105 0 0 [.ref (g + 6), .int x1, .int x2, .int x3, .int x4, .long x5] [.int 1] M) ∧ (¬ s0 = 0 → X 105 0 0 [.ref (g + 6), .int x1, .int x2, .int x3, .int x4, .long x5] [.int 0] M)) : kX5_castlings_97 mc ms X Q 0 0 [some (.ref (g + 6)), some (.int x1), some (.int x2), some (.int x3), some (.int x4), some (.long x5), none, none, none, none] [.int s0] M := ⟨fun c97 => (h.1 c97), fun c97 => (h.2 c97)⟩
theorem vkX5_castlings_166 {mc ms : Nat} {X : Nat → zV} {Q : zQt} {M : zM} {g : Nat} {x1 : Int32} {x2 : Int32} {x3 : Int32} {x4 : Int32} {x5 : Int64} {x7 : Int32} {x8 : Int64} {s0 : Int32} (hW : zWd M g)  (h : (s0 = 0 → ∀ y177 : Int64, y177 = (x8 ||| ((1 : Int64) <<< ((x1 + (2 : Int32)).toInt64 &&& 63))) → X 179 0 0 [.ref (g + 6), .int x1, .int x2, .int x3, .int x4, .long x5, .int x7, .long y177] [] M) ∧ (¬ s0 = 0 → X 179 0 0 [.ref (g + 6), .int x1, .int x2, .int x3, .int x4, .long x5, .int x7, .long x8] [] M)) : kX5_castlings_166 mc ms X Q 0 0 [some (.ref (g + 6)), some (.int x1), some (.int x2), some (.int x3), some (.int x4), some (.long x5), none, some (.int x7), some (.long x8), none] [.int s0] M := ⟨fun c166 => (fun y177 e177 => have h177 := (h.1 c166) y177 e177; h177), fun c166 => (h.2 c166)⟩
theorem vkX5_castlings_235 {mc ms : Nat} {X : Nat → zV} {Q : zQt} {M : zM} {g : Nat} {x1 : Int32} {x2 : Int32} {x3 : Int32} {x4 : Int32} {x5 : Int64} {x7 : Int32} {x8 : Int64} {s0 : Int32} (hW : zWd M g)  (h : (s0 = 0 → ∀ y246 : Int64, y246 = (x8 ||| ((1 : Int64) <<< ((x1 - (2 : Int32)).toInt64 &&& 63))) → X 248 0 0 [.long y246] [] M) ∧ (¬ s0 = 0 → X 248 0 0 [.long x8] [] M)) : kX5_castlings_235 mc ms X Q 0 0 [some (.ref (g + 6)), some (.int x1), some (.int x2), some (.int x3), some (.int x4), some (.long x5), none, some (.int x7), some (.long x8), none] [.int s0] M := ⟨fun c235 => (fun y246 e246 => have h246 := (h.1 c235) y246 e246; h246), fun c235 => (h.2 c235)⟩
theorem dX5_exposes_0 : decode cX5_exposes 0 = .ok (.lconst 1, 1) := by decide +kernel
theorem dX5_exposes_1 : decode cX5_exposes 1 = .ok (.iload_n 2, 1) := by decide +kernel
theorem dX5_exposes_2 : decode cX5_exposes 2 = .ok (.lshl, 1) := by decide +kernel
theorem dX5_exposes_3 : decode cX5_exposes 3 = .ok (.lstore_n 3, 1) := by decide +kernel
theorem dX5_exposes_4 : decode cX5_exposes 4 = .ok (.aload_n 0, 1) := by decide +kernel
theorem dX5_exposes_5 : decode cX5_exposes 5 = .ok (.getfield 9, 3) := by decide +kernel
theorem dX5_exposes_8 : decode cX5_exposes 8 = .ok (.invokevirtual 70, 3) := by decide +kernel
theorem dX5_exposes_11 : decode cX5_exposes 11 = .ok (.lconst 1, 1) := by decide +kernel
theorem dX5_exposes_12 : decode cX5_exposes 12 = .ok (.iload_n 1, 1) := by decide +kernel
theorem dX5_exposes_13 : decode cX5_exposes 13 = .ok (.lshl, 1) := by decide +kernel
theorem dX5_exposes_14 : decode cX5_exposes 14 = .ok (.ldc2_w 103, 3) := by decide +kernel
theorem dX5_exposes_17 : decode cX5_exposes 17 = .ok (.lxor, 1) := by decide +kernel
theorem dX5_exposes_18 : decode cX5_exposes 18 = .ok (.land, 1) := by decide +kernel
theorem dX5_exposes_19 : decode cX5_exposes 19 = .ok (.lload_n 3, 1) := by decide +kernel
theorem dX5_exposes_20 : decode cX5_exposes 20 = .ok (.lor, 1) := by decide +kernel
theorem dX5_exposes_21 : decode cX5_exposes 21 = .ok (.lstore 5, 2) := by decide +kernel
theorem dX5_exposes_23 : decode cX5_exposes 23 = .ok (.aload_n 0, 1) := by decide +kernel
theorem dX5_exposes_24 : decode cX5_exposes 24 = .ok (.getfield 9, 3) := by decide +kernel
theorem dX5_exposes_27 : decode cX5_exposes 27 = .ok (.iload_n 1, 1) := by decide +kernel
theorem dX5_exposes_28 : decode cX5_exposes 28 = .ok (.iload_n 2, 1) := by decide +kernel
theorem dX5_exposes_29 : decode cX5_exposes 29 = .ok (.invokevirtual 118, 3) := by decide +kernel
theorem dX5_exposes_32 : decode cX5_exposes 32 = .ok (.ifCond .eq 20, 3) := by decide +kernel
theorem dX5_exposes_35 : decode cX5_exposes 35 = .ok (.lconst 1, 1) := by decide +kernel
theorem dX5_exposes_36 : decode cX5_exposes 36 = .ok (.iload_n 2, 1) := by decide +kernel
theorem dX5_exposes_37 : decode cX5_exposes 37 = .ok (.bipush 8, 2) := by decide +kernel
theorem dX5_exposes_39 : decode cX5_exposes 39 = .ok (.ixor, 1) := by decide +kernel
theorem dX5_exposes_40 : decode cX5_exposes 40 = .ok (.lshl, 1) := by decide +kernel
theorem dX5_exposes_41 : decode cX5_exposes 41 = .ok (.lstore_n 3, 1) := by decide +kernel
theorem dX5_exposes_42 : decode cX5_exposes 42 = .ok (.lload 5, 2) := by decide +kernel
theorem dX5_exposes_44 : decode cX5_exposes 44 = .ok (.lload_n 3, 1) := by decide +kernel
theorem dX5_exposes_45 : decode cX5_exposes 45 = .ok (.ldc2_w 103, 3) := by decide +kernel
theorem dX5_exposes_48 : decode cX5_exposes 48 = .ok (.lxor, 1) := by decide +kernel
theorem dX5_exposes_49 : decode cX5_exposes 49 = .ok (.land, 1) := by decide +kernel
theorem dX5_exposes_50 : decode cX5_exposes 50 = .ok (.lstore 5, 2) := by decide +kernel
theorem dX5_exposes_52 : decode cX5_exposes 52 = .ok (.aload_n 0, 1) := by decide +kernel
theorem dX5_exposes_53 : decode cX5_exposes 53 = .ok (.getfield 9, 3) := by decide +kernel
theorem dX5_exposes_56 : decode cX5_exposes 56 = .ok (.iload_n 1, 1) := by decide +kernel
theorem dX5_exposes_57 : decode cX5_exposes 57 = .ok (.aload_n 0, 1) := by decide +kernel
theorem dX5_exposes_58 : decode cX5_exposes 58 = .ok (.getfield 53, 3) := by decide +kernel
theorem dX5_exposes_61 : decode cX5_exposes 61 = .ok (.if_icmp .ne 7, 3) := by decide +kernel
theorem dX5_exposes_64 : decode cX5_exposes 64 = .ok (.iload_n 2, 1) := by decide +kernel
theorem dX5_exposes_65 : decode cX5_exposes 65 = .ok (.goto 7, 3) := by decide +kernel
theorem dX5_exposes_68 : decode cX5_exposes 68 = .ok (.aload_n 0, 1) := by decide +kernel
theorem dX5_exposes_69 : decode cX5_exposes 69 = .ok (.getfield 53, 3) := by decide +kernel
theorem dX5_exposes_72 : decode cX5_exposes 72 = .ok (.iconst 1, 1) := by decide +kernel
theorem dX5_exposes_73 : decode cX5_exposes 73 = .ok (.aload_n 0, 1) := by decide +kernel
theorem dX5_exposes_74 : decode cX5_exposes 74 = .ok (.getfield 9, 3) := by decide +kernel
theorem dX5_exposes_77 : decode cX5_exposes 77 = .ok (.getfield 28, 3) := by decide +kernel
theorem dX5_exposes_80 : decode cX5_exposes 80 = .ok (.isub, 1) := by decide +kernel
theorem dX5_exposes_81 : decode cX5_exposes 81 = .ok (.lload 5, 2) := by decide +kernel
theorem dX5_exposes_83 : decode cX5_exposes 83 = .ok (.lload_n 3, 1) := by decide +kernel
theorem dX5_exposes_84 : decode cX5_exposes 84 = .ok (.invokevirtual 73, 3) := by decide +kernel
theorem dX5_exposes_87 : decode cX5_exposes 87 = .ok (.ireturn, 1) := by decide +kernel
def kX5_exposes_42 (mc ms : Nat) (X : Nat → zV) (Q : zQt) : zT :=
  zll 5 <| zll 3 <| zc (.long (-1)) <| zjj (fun x y => x ^^^ y) <| zjj (fun x y => x &&& y) <| zslN 5 <| zj X 52 [0, 1, 2, 3, 5]
def kX5_exposes_32 (mc ms : Nat) (X : Nat → zV) (Q : zQt) : zT :=
  zif (fun x => x = 0) (zj X 52 [0, 1, 2, 3, 5]) <| zc (.long 1) <| zli 2 <| zc (.int 8) <| zii (fun x y => x ^^^ y) <| zji (fun x y => x <<< (y.toInt64 &&& 63)) <| zslN 3 <| kX5_exposes_42 mc ms X Q
def kX5_exposes_23 (mc ms : Nat) (X : Nat → zV) (Q : zQt) : zT :=
  zla 0 <| zgR 5 0 <| zli 1 <| zli 2 <| zcv mc ms 0 2 wX0_passes <| kX5_exposes_32 mc ms X Q
def kX5_exposes_11 (mc ms : Nat) (X : Nat → zV) (Q : zQt) : zT :=
  zc (.long 1) <| zli 1 <| zji (fun x y => x <<< (y.toInt64 &&& 63)) <| zc (.long (-1)) <| zjj (fun x y => x ^^^ y) <| zjj (fun x y => x &&& y) <| zll 3 <| zjj (fun x y => x ||| y) <| zslN 5 <| kX5_exposes_23 mc ms X Q
def kX5_exposes_4 (mc ms : Nat) (X : Nat → zV) (Q : zQt) : zT :=
  zla 0 <| zgR 5 0 <| zcv mc ms 0 0 wX0_occupied <| kX5_exposes_11 mc ms X Q
def kX5_exposes_87 (mc ms : Nat) (X : Nat → zV) (Q : zQt) : zT :=
  zrz .boolean Q
def aX5_exposes_0 (mc ms : Nat) (X : Nat → zV) (Q : zQt) : zT :=
  zc (.long 1) <| zli 2 <| zji (fun x y => x <<< (y.toInt64 &&& 63)) <| zslN 3 <| kX5_exposes_4 mc ms X Q
def aX5_exposes_52 (mc ms : Nat) (X : Nat → zV) (Q : zQt) : zT :=
  zla 0 <| zgR 5 0 <| zli 1 <| zla 0 <| zgi 5 2 <| zic (fun x y => x = y) (zli 2 <| zj X 72 [0, 3, 5]) <| zla 0 <| zgi 5 2 <| zj X 72 [0, 3, 5]
def aX5_exposes_72 (mc ms : Nat) (X : Nat → zV) (Q : zQt) : zT :=
  zc (.int 1) <| zla 0 <| zgR 5 0 <| zgi 0 4 <| zii (fun x y => x - y) <| zll 5 <| zll 3 <| zcv mc ms 0 4 wX0_attacked <| kX5_exposes_87 mc ms X Q
def lvX5_exposes : Nat → List Nat := fun L => match L with
  | 0 => [0, 1, 2]
  | 52 => [0, 1, 2, 3, 5]
  | 72 => [0, 3, 5]
  | _ => []
def wX5_exposes : zSp := fun mc ms av M Q => ((zlay av).length ≤ 7 ∧ zpick (zlay av) [0, 1, 2] = some av) ∧ ∀ X : Nat → zV, zin 7 [0, 1, 2] (aX5_exposes_0 mc ms X Q) X 0 → zin 7 [0, 1, 2, 3, 5] (aX5_exposes_52 mc ms X Q) X 52 → zin 7 [0, 3, 5] (aX5_exposes_72 mc ms X Q) X 72 → X 0 0 0 av [] M
set_option maxRecDepth 100000 in
set_option maxHeartbeats 4000000 in
theorem sX5_exposes (l : Launch) (G : zG) : zSnd l G yX5_exposes cX5_exposes 7 (some .boolean) 2 66 wX5_exposes := by
  refine zmk [0, 1, 2] (by decide) (fun mc ms av M Q h => h.1) ?_
  intro p e R s m args below meth c mc ms av M Q hC hRf hRl hr hnm h lv hlv
  obtain ⟨X, hXe⟩ : ∃ X : Nat → zV, X = fun L u v vs st M => ∀ lv, zpick lv (lvX5_exposes L) = some vs → zAt p l e R s m args below meth c (MQ below (zQ G Q) args s mc ms (zA G)) G 7 L u v lv st M := ⟨_, rfl⟩
  have hJ : ∀ L, zOk p l e R s m args below meth c (MQ below (zQ G Q) args s mc ms (zA G)) G 7 L (zj X L (lvX5_exposes L)) := fun L => S_jump (fun u v lv vs st M hp hx => by rw [hXe] at hx; exact hx lv hp)
  have hB0 : zin 7 [0, 1, 2] (aX5_exposes_0 mc ms X Q) X 0 := by
    intro u v vs st M hb
    rw [hXe]
    refine fun lv hp => S_block (L := 0) (live := [0, 1, 2]) ?_ u v lv vs st M hp hb
    unfold aX5_exposes_0
    refine S_lconst (pc := 0) hC dX5_exposes_0 (by decide) ?_
    refine S_iload_n (pc := 1) hC dX5_exposes_1 rfl ?_
    refine S_lshl (pc := 2) hC dX5_exposes_2 ?_
    refine S_lstore_n_N (pc := 3) hC dX5_exposes_3 rfl (by decide) ?_
    unfold kX5_exposes_4
    refine S_aload_n (pc := 4) hC dX5_exposes_4 rfl ?_
    refine S_getR (pc := 5) hC cfX5 (by decide) (Or.inl ⟨_, rfl⟩) wd_294 dX5_exposes_5 ?_
    refine S_callV (pc := 8) hC (sX0_occupied l G) rfl wd_443 wd_444 wd_445 wd_10 wd_446 (by decide +kernel) ⟨by rw [hRf]; decide, by rw [hRl]; decide⟩ dX5_exposes_8 ?_
    unfold kX5_exposes_11
    refine S_lconst (pc := 11) hC dX5_exposes_11 (by decide) ?_
    refine S_iload_n (pc := 12) hC dX5_exposes_12 rfl ?_
    refine S_lshl (pc := 13) hC dX5_exposes_13 ?_
    refine S_ldc2 (pc := 14) hC wd_466 dX5_exposes_14 ?_
    refine S_lxor (pc := 17) hC dX5_exposes_17 ?_
    refine S_land (pc := 18) hC dX5_exposes_18 ?_
    refine S_lload_n (pc := 19) hC dX5_exposes_19 rfl ?_
    refine S_lor (pc := 20) hC dX5_exposes_20 ?_
    refine S_lstore_N (pc := 21) hC dX5_exposes_21 (by decide) ?_
    unfold kX5_exposes_23
    refine S_aload_n (pc := 23) hC dX5_exposes_23 rfl ?_
    refine S_getR (pc := 24) hC cfX5 (by decide) (Or.inl ⟨_, rfl⟩) wd_294 dX5_exposes_24 ?_
    refine S_iload_n (pc := 27) hC dX5_exposes_27 rfl ?_
    refine S_iload_n (pc := 28) hC dX5_exposes_28 rfl ?_
    refine S_callV (pc := 29) hC (sX0_passes l G) rfl wd_482 wd_483 wd_484 wd_10 wd_485 (by decide +kernel) ⟨by rw [hRf]; decide, by rw [hRl]; decide⟩ dX5_exposes_29 ?_
    unfold kX5_exposes_32
    refine S_if_eq (pc := 32) (tgt := 52) hC dX5_exposes_32 (by decide) ?_ ?_
    · exact hJ 52
    · refine S_lconst (pc := 35) hC dX5_exposes_35 (by decide) ?_
      refine S_iload_n (pc := 36) hC dX5_exposes_36 rfl ?_
      refine S_bipush (pc := 37) hC dX5_exposes_37 (by decide) ?_
      refine S_ixor (pc := 39) hC dX5_exposes_39 ?_
      refine S_lshl (pc := 40) hC dX5_exposes_40 ?_
      refine S_lstore_n_N (pc := 41) hC dX5_exposes_41 rfl (by decide) ?_
      unfold kX5_exposes_42
      refine S_lload (pc := 42) hC dX5_exposes_42 ?_
      refine S_lload_n (pc := 44) hC dX5_exposes_44 rfl ?_
      refine S_ldc2 (pc := 45) hC wd_466 dX5_exposes_45 ?_
      refine S_lxor (pc := 48) hC dX5_exposes_48 ?_
      refine S_land (pc := 49) hC dX5_exposes_49 ?_
      refine S_lstore_N (pc := 50) hC dX5_exposes_50 (by decide) ?_
      exact hJ 52
  have hB52 : zin 7 [0, 1, 2, 3, 5] (aX5_exposes_52 mc ms X Q) X 52 := by
    intro u v vs st M hb
    rw [hXe]
    refine fun lv hp => S_block (L := 52) (live := [0, 1, 2, 3, 5]) ?_ u v lv vs st M hp hb
    unfold aX5_exposes_52
    refine S_aload_n (pc := 52) hC dX5_exposes_52 rfl ?_
    refine S_getR (pc := 53) hC cfX5 (by decide) (Or.inl ⟨_, rfl⟩) wd_294 dX5_exposes_53 ?_
    refine S_iload_n (pc := 56) hC dX5_exposes_56 rfl ?_
    refine S_aload_n (pc := 57) hC dX5_exposes_57 rfl ?_
    refine S_geti (pc := 58) hC cfX5 (by decide) (Or.inl rfl) wd_296 dX5_exposes_58 ?_
    refine S_icmp_ne (pc := 61) (tgt := 68) hC dX5_exposes_61 (by decide) ?_ ?_
    · refine S_aload_n (pc := 68) hC dX5_exposes_68 rfl ?_
      refine S_geti (pc := 69) hC cfX5 (by decide) (Or.inl rfl) wd_296 dX5_exposes_69 ?_
      exact hJ 72
    · refine S_iload_n (pc := 64) hC dX5_exposes_64 rfl ?_
      refine S_goto (pc := 65) (tgt := 72) hC dX5_exposes_65 (by decide) ?_
      exact hJ 72
  have hB72 : zin 7 [0, 3, 5] (aX5_exposes_72 mc ms X Q) X 72 := by
    intro u v vs st M hb
    rw [hXe]
    refine fun lv hp => S_block (L := 72) (live := [0, 3, 5]) ?_ u v lv vs st M hp hb
    unfold aX5_exposes_72
    refine S_iconst (pc := 72) hC dX5_exposes_72 (by decide) ?_
    refine S_aload_n (pc := 73) hC dX5_exposes_73 rfl ?_
    refine S_getR (pc := 74) hC cfX5 (by decide) (Or.inl ⟨_, rfl⟩) wd_294 dX5_exposes_74 ?_
    refine S_geti (pc := 77) hC cfX0 (by decide) (Or.inl rfl) wd_228 dX5_exposes_77 ?_
    refine S_isub (pc := 80) hC dX5_exposes_80 ?_
    refine S_lload (pc := 81) hC dX5_exposes_81 ?_
    refine S_lload_n (pc := 83) hC dX5_exposes_83 rfl ?_
    refine S_callV (pc := 84) hC (sX0_attacked l G) rfl wd_447 wd_448 wd_449 wd_10 wd_450 (by decide +kernel) ⟨by rw [hRf]; decide, by rw [hRl]; decide⟩ dX5_exposes_84 ?_
    unfold kX5_exposes_87
    exact S_zreturn (pc := 87) hC hr dX5_exposes_87
  have := h.2 X hB0 hB52 hB72
  rw [hXe] at this
  exact this lv hlv
theorem vcX5_exposes_4 {mc ms : Nat} {X : Nat → zV} {Q : zQt} {M : zM} {g : Nat} {x1 : Int32} {x2 : Int32} {x3 : Int64} (hW : zWd M g)  (h : wX0_occupied 0 0 [.ref (g + 1)] M (fun r M1 => kX5_exposes_11 mc ms X Q 0 0 [some (.ref (g + 6)), some (.int x1), some (.int x2), some (.long x3), none, none, none] (r.toList ++ []) M1)) : kX5_exposes_4 mc ms X Q 0 0 [some (.ref (g + 6)), some (.int x1), some (.int x2), some (.long x3), none, none, none] [] M := ⟨(fgs_6 hW), (g + 1), (fgr_6_0 hW), ⟨Nat.le_of_ble_eq_true rfl, rfl, (fgs_1 hW), 0, 0, Nat.zero_le _, Nat.zero_le _, h⟩⟩
theorem vX5_exposes_0 {mc ms : Nat} {X : Nat → zV} {Q : zQt} {M : zM} {g : Nat} {x1 : Int32} {x2 : Int32} (hW : zWd M g)  (h : ∀ y3 : Int64, y3 = ((1 : Int64) <<< (x2.toInt64 &&& 63)) → wX0_occupied 0 0 [.ref (g + 1)] M (fun r M1 => kX5_exposes_11 mc ms X Q 0 0 [some (.ref (g + 6)), some (.int x1), some (.int x2), some (.long y3), none, none, none] (r.toList ++ []) M1)) : aX5_exposes_0 mc ms X Q 0 0 [some (.ref (g + 6)), some (.int x1), some (.int x2), none, none, none, none] [] M := (fun y3 e3 => have h3 := h y3 e3; (vcX5_exposes_4 hW  h3))
theorem vX5_exposes_52 {mc ms : Nat} {X : Nat → zV} {Q : zQt} {M : zM} {g : Nat} {x1 : Int32} {x2 : Int32} {x3 : Int64} {x5 : Int64} (hW : zWd M g)  (h : (x1 = (M.1 ((g + 6)) 2) → X 72 0 0 [.ref (g + 6), .long x3, .long x5] [.int x2, .ref (g + 1)] M) ∧ (¬ x1 = (M.1 ((g + 6)) 2) → X 72 0 0 [.ref (g + 6), .long x3, .long x5] [.int (M.1 ((g + 6)) 2), .ref (g + 1)] M)) : aX5_exposes_52 mc ms X Q 0 0 [some (.ref (g + 6)), some (.int x1), some (.int x2), some (.long x3), none, some (.long x5), none] [] M := ⟨(fgs_6 hW), (g + 1), (fgr_6_0 hW), ⟨(fgs_6 hW), ⟨fun c61 => (h.1 c61), fun c61 => ⟨(fgs_6 hW), (h.2 c61)⟩⟩⟩⟩
theorem vX5_exposes_72 {mc ms : Nat} {X : Nat → zV} {Q : zQt} {M : zM} {g : Nat} {x3 : Int64} {x5 : Int64} {s0 : Int32} (hW : zWd M g)  (h : wX0_attacked 0 0 [.ref (g + 1), .int s0, .int ((1 : Int32) - (M.1 ((g + 1)) 4)), .long x5, .long x3] M (fun r M1 => kX5_exposes_87 mc ms X Q 0 0 [some (.ref (g + 6)), none, none, some (.long x3), none, some (.long x5), none] (r.toList ++ []) M1)) : aX5_exposes_72 mc ms X Q 0 0 [some (.ref (g + 6)), none, none, some (.long x3), none, some (.long x5), none] [.int s0, .ref (g + 1)] M := ⟨(fgs_6 hW), (g + 1), (fgr_6_0 hW), ⟨(fgs_1 hW), ⟨Nat.le_of_ble_eq_true rfl, rfl, (fgs_1 hW), 0, 0, Nat.zero_le _, Nat.zero_le _, h⟩⟩⟩
theorem vcX5_exposes_23 {mc ms : Nat} {X : Nat → zV} {Q : zQt} {M : zM} {g : Nat} {x1 : Int32} {x2 : Int32} {x3 : Int64} {x5 : Int64} (hW : zWd M g)  (h : wX0_passes 0 0 [.ref (g + 1), .int x1, .int x2] M (fun r M1 => kX5_exposes_32 mc ms X Q 0 0 [some (.ref (g + 6)), some (.int x1), some (.int x2), some (.long x3), none, some (.long x5), none] (r.toList ++ []) M1)) : kX5_exposes_23 mc ms X Q 0 0 [some (.ref (g + 6)), some (.int x1), some (.int x2), some (.long x3), none, some (.long x5), none] [] M := ⟨(fgs_6 hW), (g + 1), (fgr_6_0 hW), ⟨Nat.le_of_ble_eq_true rfl, rfl, (fgs_1 hW), 0, 0, Nat.zero_le _, Nat.zero_le _, h⟩⟩
theorem vkX5_exposes_11 {mc ms : Nat} {X : Nat → zV} {Q : zQt} {M : zM} {g : Nat} {x1 : Int32} {x2 : Int32} {x3 : Int64} {s0 : Int64} (hW : zWd M g)  (h : ∀ y21 : Int64, y21 = ((s0 &&& (((1 : Int64) <<< (x1.toInt64 &&& 63)) ^^^ ((-1) : Int64))) ||| x3) → wX0_passes 0 0 [.ref (g + 1), .int x1, .int x2] M (fun r M1 => kX5_exposes_32 mc ms X Q 0 0 [some (.ref (g + 6)), some (.int x1), some (.int x2), some (.long x3), none, some (.long y21), none] (r.toList ++ []) M1)) : kX5_exposes_11 mc ms X Q 0 0 [some (.ref (g + 6)), some (.int x1), some (.int x2), some (.long x3), none, none, none] [.long s0] M := (fun y21 e21 => have h21 := h y21 e21; (vcX5_exposes_23 hW  h21))
theorem vcX5_exposes_42 {mc ms : Nat} {X : Nat → zV} {Q : zQt} {M : zM} {g : Nat} {x1 : Int32} {x2 : Int32} {x3 : Int64} {x5 : Int64} (hW : zWd M g)  (h : ∀ y50 : Int64, y50 = (x5 &&& (x3 ^^^ ((-1) : Int64))) → X 52 0 0 [.ref (g + 6), .int x1, .int x2, .long x3, .long y50] [] M) : kX5_exposes_42 mc ms X Q 0 0 [some (.ref (g + 6)), some (.int x1), some (.int x2), some (.long x3), none, some (.long x5), none] [] M := (fun y50 e50 => have h50 := h y50 e50; h50)
theorem vkX5_exposes_32 {mc ms : Nat} {X : Nat → zV} {Q : zQt} {M : zM} {g : Nat} {x1 : Int32} {x2 : Int32} {x3 : Int64} {x5 : Int64} {s0 : Int32} (hW : zWd M g)  (h : (s0 = 0 → X 52 0 0 [.ref (g + 6), .int x1, .int x2, .long x3, .long x5] [] M) ∧ (¬ s0 = 0 → ∀ y41 : Int64, y41 = ((1 : Int64) <<< ((x2 ^^^ (8 : Int32)).toInt64 &&& 63)) → ∀ y50 : Int64, y50 = (x5 &&& (y41 ^^^ ((-1) : Int64))) → X 52 0 0 [.ref (g + 6), .int x1, .int x2, .long y41, .long y50] [] M)) : kX5_exposes_32 mc ms X Q 0 0 [some (.ref (g + 6)), some (.int x1), some (.int x2), some (.long x3), none, some (.long x5), none] [.int s0] M := ⟨fun c32 => (h.1 c32), fun c32 => (fun y41 e41 => have h41 := (h.2 c32) y41 e41; (vcX5_exposes_42 hW  h41))⟩
theorem vkX5_exposes_87 {mc ms : Nat} {X : Nat → zV} {Q : zQt} {M : zM} {g : Nat} {x3 : Int64} {x5 : Int64} {s0 : Int32} (hW : zWd M g)  (h : narrow .boolean (.int s0) = .int s0 ∧ Q (some (.int s0)) M) : kX5_exposes_87 mc ms X Q 0 0 [some (.ref (g + 6)), none, none, some (.long x3), none, some (.long x5), none] [.int s0] M := h
theorem dX6_wrong_0 : decode cX6_wrong 0 = .ok (.aload_n 1, 1) := by decide +kernel
theorem dX6_wrong_1 : decode cX6_wrong 1 = .ok (.getfield 109, 3) := by decide +kernel
theorem dX6_wrong_4 : decode cX6_wrong 4 = .ok (.bipush 6, 2) := by decide +kernel
theorem dX6_wrong_6 : decode cX6_wrong 6 = .ok (.laload, 1) := by decide +kernel
theorem dX6_wrong_7 : decode cX6_wrong 7 = .ok (.invokestatic 113, 3) := by decide +kernel
theorem dX6_wrong_10 : decode cX6_wrong 10 = .ok (.iconst 1, 1) := by decide +kernel
theorem dX6_wrong_11 : decode cX6_wrong 11 = .ok (.if_icmp .ne 17, 3) := by decide +kernel
theorem dX6_wrong_14 : decode cX6_wrong 14 = .ok (.aload_n 1, 1) := by decide +kernel
theorem dX6_wrong_15 : decode cX6_wrong 15 = .ok (.getfield 109, 3) := by decide +kernel
theorem dX6_wrong_18 : decode cX6_wrong 18 = .ok (.bipush 12, 2) := by decide +kernel
theorem dX6_wrong_20 : decode cX6_wrong 20 = .ok (.laload, 1) := by decide +kernel
theorem dX6_wrong_21 : decode cX6_wrong 21 = .ok (.invokestatic 113, 3) := by decide +kernel
theorem dX6_wrong_24 : decode cX6_wrong 24 = .ok (.iconst 1, 1) := by decide +kernel
theorem dX6_wrong_25 : decode cX6_wrong 25 = .ok (.if_icmp .eq 6, 3) := by decide +kernel
theorem dX6_wrong_28 : decode cX6_wrong 28 = .ok (.bipush 7, 2) := by decide +kernel
theorem dX6_wrong_30 : decode cX6_wrong 30 = .ok (.ireturn, 1) := by decide +kernel
theorem dX6_wrong_31 : decode cX6_wrong 31 = .ok (.aload_n 1, 1) := by decide +kernel
theorem dX6_wrong_32 : decode cX6_wrong 32 = .ok (.getfield 109, 3) := by decide +kernel
theorem dX6_wrong_35 : decode cX6_wrong 35 = .ok (.iconst 1, 1) := by decide +kernel
theorem dX6_wrong_36 : decode cX6_wrong 36 = .ok (.laload, 1) := by decide +kernel
theorem dX6_wrong_37 : decode cX6_wrong 37 = .ok (.aload_n 1, 1) := by decide +kernel
theorem dX6_wrong_38 : decode cX6_wrong 38 = .ok (.getfield 109, 3) := by decide +kernel
theorem dX6_wrong_41 : decode cX6_wrong 41 = .ok (.bipush 7, 2) := by decide +kernel
theorem dX6_wrong_43 : decode cX6_wrong 43 = .ok (.laload, 1) := by decide +kernel
theorem dX6_wrong_44 : decode cX6_wrong 44 = .ok (.lor, 1) := by decide +kernel
theorem dX6_wrong_45 : decode cX6_wrong 45 = .ok (.lstore_n 2, 1) := by decide +kernel
theorem dX6_wrong_46 : decode cX6_wrong 46 = .ok (.lload_n 2, 1) := by decide +kernel
theorem dX6_wrong_47 : decode cX6_wrong 47 = .ok (.ldc2_w 119, 3) := by decide +kernel
theorem dX6_wrong_50 : decode cX6_wrong 50 = .ok (.land, 1) := by decide +kernel
theorem dX6_wrong_51 : decode cX6_wrong 51 = .ok (.lconst 0, 1) := by decide +kernel
theorem dX6_wrong_52 : decode cX6_wrong 52 = .ok (.lcmp, 1) := by decide +kernel
theorem dX6_wrong_53 : decode cX6_wrong 53 = .ok (.ifCond .ne 22, 3) := by decide +kernel
theorem dX6_wrong_56 : decode cX6_wrong 56 = .ok (.aload_n 0, 1) := by decide +kernel
theorem dX6_wrong_57 : decode cX6_wrong 57 = .ok (.aload_n 1, 1) := by decide +kernel
theorem dX6_wrong_58 : decode cX6_wrong 58 = .ok (.iconst 0, 1) := by decide +kernel
theorem dX6_wrong_59 : decode cX6_wrong 59 = .ok (.invokevirtual 121, 3) := by decide +kernel
theorem dX6_wrong_62 : decode cX6_wrong 62 = .ok (.ifCond .ne 13, 3) := by decide +kernel
theorem dX6_wrong_65 : decode cX6_wrong 65 = .ok (.aload_n 0, 1) := by decide +kernel
theorem dX6_wrong_66 : decode cX6_wrong 66 = .ok (.aload_n 1, 1) := by decide +kernel
theorem dX6_wrong_67 : decode cX6_wrong 67 = .ok (.bipush 6, 2) := by decide +kernel
theorem dX6_wrong_69 : decode cX6_wrong 69 = .ok (.invokevirtual 121, 3) := by decide +kernel
theorem dX6_wrong_72 : decode cX6_wrong 72 = .ok (.ifCond .eq 6, 3) := by decide +kernel
theorem dX6_wrong_75 : decode cX6_wrong 75 = .ok (.bipush 8, 2) := by decide +kernel
theorem dX6_wrong_77 : decode cX6_wrong 77 = .ok (.ireturn, 1) := by decide +kernel
theorem dX6_wrong_78 : decode cX6_wrong 78 = .ok (.aload_n 0, 1) := by decide +kernel
theorem dX6_wrong_79 : decode cX6_wrong 79 = .ok (.aload_n 1, 1) := by decide +kernel
theorem dX6_wrong_80 : decode cX6_wrong 80 = .ok (.invokevirtual 124, 3) := by decide +kernel
theorem dX6_wrong_83 : decode cX6_wrong 83 = .ok (.ifCond .ne 6, 3) := by decide +kernel
theorem dX6_wrong_86 : decode cX6_wrong 86 = .ok (.bipush 9, 2) := by decide +kernel
theorem dX6_wrong_88 : decode cX6_wrong 88 = .ok (.ireturn, 1) := by decide +kernel
theorem dX6_wrong_89 : decode cX6_wrong 89 = .ok (.aload_n 1, 1) := by decide +kernel
theorem dX6_wrong_90 : decode cX6_wrong 90 = .ok (.getfield 100, 3) := by decide +kernel
theorem dX6_wrong_93 : decode cX6_wrong 93 = .ok (.iconst (-1), 1) := by decide +kernel
theorem dX6_wrong_94 : decode cX6_wrong 94 = .ok (.if_icmp .eq 14, 3) := by decide +kernel
theorem dX6_wrong_97 : decode cX6_wrong 97 = .ok (.aload_n 0, 1) := by decide +kernel
theorem dX6_wrong_98 : decode cX6_wrong 98 = .ok (.aload_n 1, 1) := by decide +kernel
theorem dX6_wrong_99 : decode cX6_wrong 99 = .ok (.invokevirtual 127, 3) := by decide +kernel
theorem dX6_wrong_102 : decode cX6_wrong 102 = .ok (.ifCond .ne 6, 3) := by decide +kernel
theorem dX6_wrong_105 : decode cX6_wrong 105 = .ok (.bipush 10, 2) := by decide +kernel
theorem dX6_wrong_107 : decode cX6_wrong 107 = .ok (.ireturn, 1) := by decide +kernel
theorem dX6_wrong_108 : decode cX6_wrong 108 = .ok (.iconst 1, 1) := by decide +kernel
theorem dX6_wrong_109 : decode cX6_wrong 109 = .ok (.aload_n 1, 1) := by decide +kernel
theorem dX6_wrong_110 : decode cX6_wrong 110 = .ok (.getfield 88, 3) := by decide +kernel
theorem dX6_wrong_113 : decode cX6_wrong 113 = .ok (.isub, 1) := by decide +kernel
theorem dX6_wrong_114 : decode cX6_wrong 114 = .ok (.istore 4, 2) := by decide +kernel
theorem dX6_wrong_116 : decode cX6_wrong 116 = .ok (.aload_n 1, 1) := by decide +kernel
theorem dX6_wrong_117 : decode cX6_wrong 117 = .ok (.aload_n 1, 1) := by decide +kernel
theorem dX6_wrong_118 : decode cX6_wrong 118 = .ok (.iload 4, 2) := by decide +kernel
theorem dX6_wrong_120 : decode cX6_wrong 120 = .ok (.invokevirtual 130, 3) := by decide +kernel
theorem dX6_wrong_123 : decode cX6_wrong 123 = .ok (.aload_n 1, 1) := by decide +kernel
theorem dX6_wrong_124 : decode cX6_wrong 124 = .ok (.getfield 88, 3) := by decide +kernel
theorem dX6_wrong_127 : decode cX6_wrong 127 = .ok (.aload_n 1, 1) := by decide +kernel
theorem dX6_wrong_128 : decode cX6_wrong 128 = .ok (.invokevirtual 133, 3) := by decide +kernel
theorem dX6_wrong_131 : decode cX6_wrong 131 = .ok (.lconst 0, 1) := by decide +kernel
theorem dX6_wrong_132 : decode cX6_wrong 132 = .ok (.invokevirtual 137, 3) := by decide +kernel
theorem dX6_wrong_135 : decode cX6_wrong 135 = .ok (.ifCond .eq 8, 3) := by decide +kernel
theorem dX6_wrong_138 : decode cX6_wrong 138 = .ok (.bipush 11, 2) := by decide +kernel
theorem dX6_wrong_140 : decode cX6_wrong 140 = .ok (.goto 4, 3) := by decide +kernel
theorem dX6_wrong_143 : decode cX6_wrong 143 = .ok (.iconst 0, 1) := by decide +kernel
theorem dX6_wrong_144 : decode cX6_wrong 144 = .ok (.ireturn, 1) := by decide +kernel
def kX6_wrong_102 (mc ms : Nat) (X : Nat → zV) (Q : zQt) : zT :=
  zif (fun x => x = 0) (zc (.int 10) <| zri Q) <| zj X 108 [1]
def kX6_wrong_83 (mc ms : Nat) (X : Nat → zV) (Q : zQt) : zT :=
  zif (fun x => x = 0) (zc (.int 9) <| zri Q) <| zla 1 <| zgi 0 6 <| zc (.int (-1)) <| zic (fun x y => x = y) (zj X 108 [1]) <| zla 0 <| zla 1 <| zcv mc ms 6 1 wX6_passantStands <| kX6_wrong_102 mc ms X Q
def kX6_wrong_72 (mc ms : Nat) (X : Nat → zV) (Q : zQt) : zT :=
  zif (fun x => x = 0) (zla 0 <| zla 1 <| zcv mc ms 6 1 wX6_rightsStand <| kX6_wrong_83 mc ms X Q) <| zj X 75 []
def kX6_wrong_62 (mc ms : Nat) (X : Nat → zV) (Q : zQt) : zT :=
  zif (fun x => x = 0) (zla 0 <| zla 1 <| zc (.int 6) <| zcv mc ms 6 2 wX6_tooMany <| kX6_wrong_72 mc ms X Q) <| zj X 75 []
def kX6_wrong_46 (mc ms : Nat) (X : Nat → zV) (Q : zQt) : zT :=
  zll 2 <| zc (.long (-72057594037927681)) <| zjj (fun x y => x &&& y) <| zc (.long 0) <| zlc <| zif (fun x => x = 0) (zla 0 <| zla 1 <| zc (.int 0) <| zcv mc ms 6 2 wX6_tooMany <| kX6_wrong_62 mc ms X Q) <| zj X 75 []
def kX6_wrong_24 (mc ms : Nat) (X : Nat → zV) (Q : zQt) : zT :=
  zc (.int 1) <| zic (fun x y => x = y) (zla 1 <| zgR 0 2 <| zc (.int 1) <| zall <| zla 1 <| zgR 0 2 <| zc (.int 7) <| zall <| zjj (fun x y => x ||| y) <| zslN 2 <| kX6_wrong_46 mc ms X Q) <| zj X 28 []
def kX6_wrong_10 (mc ms : Nat) (X : Nat → zV) (Q : zQt) : zT :=
  zc (.int 1) <| zic (fun x y => x = y) (zla 1 <| zgR 0 2 <| zc (.int 12) <| zall <| zcs mc ms 1 wJ13_bitCount_95d88 <| kX6_wrong_24 mc ms X Q) <| zj X 28 []
def kX6_wrong_135 (mc ms : Nat) (X : Nat → zV) (Q : zQt) : zT :=
  zif (fun x => x = 0) (zc (.int 0) <| zj X 144 []) <| zc (.int 11) <| zj X 144 []
def kX6_wrong_131 (mc ms : Nat) (X : Nat → zV) (Q : zQt) : zT :=
  zc (.long 0) <| zcv mc ms 0 4 wX0_attacked <| kX6_wrong_135 mc ms X Q
def kX6_wrong_123 (mc ms : Nat) (X : Nat → zV) (Q : zQt) : zT :=
  zla 1 <| zgi 0 4 <| zla 1 <| zcv mc ms 0 0 wX0_occupied <| kX6_wrong_131 mc ms X Q
def kX6_wrong_116 (mc ms : Nat) (X : Nat → zV) (Q : zQt) : zT :=
  zla 1 <| zla 1 <| zli 4 <| zcv mc ms 0 1 wX0_kingOf <| kX6_wrong_123 mc ms X Q
def aX6_wrong_0 (mc ms : Nat) (X : Nat → zV) (Q : zQt) : zT :=
  zla 1 <| zgR 0 2 <| zc (.int 6) <| zall <| zcs mc ms 1 wJ13_bitCount_95d88 <| kX6_wrong_10 mc ms X Q
def aX6_wrong_28 (mc ms : Nat) (X : Nat → zV) (Q : zQt) : zT :=
  zc (.int 7) <| zri Q
def aX6_wrong_75 (mc ms : Nat) (X : Nat → zV) (Q : zQt) : zT :=
  zc (.int 8) <| zri Q
def aX6_wrong_108 (mc ms : Nat) (X : Nat → zV) (Q : zQt) : zT :=
  zc (.int 1) <| zla 1 <| zgi 0 4 <| zii (fun x y => x - y) <| zsiN 4 <| kX6_wrong_116 mc ms X Q
def aX6_wrong_144 (mc ms : Nat) (X : Nat → zV) (Q : zQt) : zT :=
  zri Q
def lvX6_wrong : Nat → List Nat := fun L => match L with
  | 0 => [0, 1]
  | 28 => []
  | 75 => []
  | 108 => [1]
  | 144 => []
  | _ => []
def wX6_wrong : zSp := fun mc ms av M Q => ((zlay av).length ≤ 5 ∧ zpick (zlay av) [0, 1] = some av) ∧ ∀ X : Nat → zV, zin 5 [0, 1] (aX6_wrong_0 mc ms X Q) X 0 → zin 5 [] (aX6_wrong_28 mc ms X Q) X 28 → zin 5 [] (aX6_wrong_75 mc ms X Q) X 75 → zin 5 [1] (aX6_wrong_108 mc ms X Q) X 108 → zin 5 [] (aX6_wrong_144 mc ms X Q) X 144 → X 0 0 0 av [] M
set_option maxRecDepth 100000 in
set_option maxHeartbeats 4000000 in
theorem sX6_wrong (l : Launch) (G : zG) : zSnd l G yX6_wrong cX6_wrong 5 (some .int) 3 66 wX6_wrong := by
  refine zmk [0, 1] (by decide) (fun mc ms av M Q h => h.1) ?_
  intro p e R s m args below meth c mc ms av M Q hC hRf hRl hr hnm h lv hlv
  obtain ⟨X, hXe⟩ : ∃ X : Nat → zV, X = fun L u v vs st M => ∀ lv, zpick lv (lvX6_wrong L) = some vs → zAt p l e R s m args below meth c (MQ below (zQ G Q) args s mc ms (zA G)) G 5 L u v lv st M := ⟨_, rfl⟩
  have hJ : ∀ L, zOk p l e R s m args below meth c (MQ below (zQ G Q) args s mc ms (zA G)) G 5 L (zj X L (lvX6_wrong L)) := fun L => S_jump (fun u v lv vs st M hp hx => by rw [hXe] at hx; exact hx lv hp)
  have hB0 : zin 5 [0, 1] (aX6_wrong_0 mc ms X Q) X 0 := by
    intro u v vs st M hb
    rw [hXe]
    refine fun lv hp => S_block (L := 0) (live := [0, 1]) ?_ u v lv vs st M hp hb
    unfold aX6_wrong_0
    refine S_aload_n (pc := 0) hC dX6_wrong_0 rfl ?_
    refine S_getR (pc := 1) hC cfX0 (by decide) (Or.inr ⟨_, rfl⟩) wd_224 dX6_wrong_1 ?_
    refine S_bipush (pc := 4) hC dX6_wrong_4 (by decide) ?_
    refine S_laload (pc := 6) hC dX6_wrong_6 ?_
    refine S_callS (pc := 7) hC (sJ13_bitCount_95d88 l G) wd_786 wd_438 wd_25 wd_439 (by decide +kernel) ⟨by rw [hRf]; decide, by rw [hRl]; decide⟩ dX6_wrong_7 ?_
    unfold kX6_wrong_10
    refine S_iconst (pc := 10) hC dX6_wrong_10 (by decide) ?_
    refine S_icmp_ne (pc := 11) (tgt := 28) hC dX6_wrong_11 (by decide) ?_ ?_
    · exact hJ 28
    · refine S_aload_n (pc := 14) hC dX6_wrong_14 rfl ?_
      refine S_getR (pc := 15) hC cfX0 (by decide) (Or.inr ⟨_, rfl⟩) wd_224 dX6_wrong_15 ?_
      refine S_bipush (pc := 18) hC dX6_wrong_18 (by decide) ?_
      refine S_laload (pc := 20) hC dX6_wrong_20 ?_
      refine S_callS (pc := 21) hC (sJ13_bitCount_95d88 l G) wd_786 wd_438 wd_25 wd_439 (by decide +kernel) ⟨by rw [hRf]; decide, by rw [hRl]; decide⟩ dX6_wrong_21 ?_
      unfold kX6_wrong_24
      refine S_iconst (pc := 24) hC dX6_wrong_24 (by decide) ?_
      refine S_icmp_eq (pc := 25) (tgt := 31) hC dX6_wrong_25 (by decide) ?_ ?_
      · refine S_aload_n (pc := 31) hC dX6_wrong_31 rfl ?_
        refine S_getR (pc := 32) hC cfX0 (by decide) (Or.inr ⟨_, rfl⟩) wd_224 dX6_wrong_32 ?_
        refine S_iconst (pc := 35) hC dX6_wrong_35 (by decide) ?_
        refine S_laload (pc := 36) hC dX6_wrong_36 ?_
        refine S_aload_n (pc := 37) hC dX6_wrong_37 rfl ?_
        refine S_getR (pc := 38) hC cfX0 (by decide) (Or.inr ⟨_, rfl⟩) wd_224 dX6_wrong_38 ?_
        refine S_bipush (pc := 41) hC dX6_wrong_41 (by decide) ?_
        refine S_laload (pc := 43) hC dX6_wrong_43 ?_
        refine S_lor (pc := 44) hC dX6_wrong_44 ?_
        refine S_lstore_n_N (pc := 45) hC dX6_wrong_45 rfl (by decide) ?_
        unfold kX6_wrong_46
        refine S_lload_n (pc := 46) hC dX6_wrong_46 rfl ?_
        refine S_ldc2 (pc := 47) hC wd_787 dX6_wrong_47 ?_
        refine S_land (pc := 50) hC dX6_wrong_50 ?_
        refine S_lconst (pc := 51) hC dX6_wrong_51 (by decide) ?_
        refine S_lcmp (pc := 52) hC dX6_wrong_52 ?_
        refine S_if_ne (pc := 53) (tgt := 75) hC dX6_wrong_53 (by decide) ?_ ?_
        · exact hJ 75
        · refine S_aload_n (pc := 56) hC dX6_wrong_56 rfl ?_
          refine S_aload_n (pc := 57) hC dX6_wrong_57 rfl ?_
          refine S_iconst (pc := 58) hC dX6_wrong_58 (by decide) ?_
          refine S_callV (pc := 59) hC (sX6_tooMany l G) rfl wd_788 wd_790 ws_23 wd_4 wd_791 (by decide +kernel) ⟨by rw [hRf]; decide, by rw [hRl]; decide⟩ dX6_wrong_59 ?_
          unfold kX6_wrong_62
          refine S_if_ne (pc := 62) (tgt := 75) hC dX6_wrong_62 (by decide) ?_ ?_
          · exact hJ 75
          · refine S_aload_n (pc := 65) hC dX6_wrong_65 rfl ?_
            refine S_aload_n (pc := 66) hC dX6_wrong_66 rfl ?_
            refine S_bipush (pc := 67) hC dX6_wrong_67 (by decide) ?_
            refine S_callV (pc := 69) hC (sX6_tooMany l G) rfl wd_788 wd_790 ws_23 wd_4 wd_791 (by decide +kernel) ⟨by rw [hRf]; decide, by rw [hRl]; decide⟩ dX6_wrong_69 ?_
            unfold kX6_wrong_72
            refine S_if_eq (pc := 72) (tgt := 78) hC dX6_wrong_72 (by decide) ?_ ?_
            · refine S_aload_n (pc := 78) hC dX6_wrong_78 rfl ?_
              refine S_aload_n (pc := 79) hC dX6_wrong_79 rfl ?_
              refine S_callV (pc := 80) hC (sX6_rightsStand l G) rfl wd_792 wd_794 ws_24 wd_4 wd_795 (by decide +kernel) ⟨by rw [hRf]; decide, by rw [hRl]; decide⟩ dX6_wrong_80 ?_
              unfold kX6_wrong_83
              refine S_if_ne (pc := 83) (tgt := 89) hC dX6_wrong_83 (by decide) ?_ ?_
              · refine S_aload_n (pc := 89) hC dX6_wrong_89 rfl ?_
                refine S_geti (pc := 90) hC cfX0 (by decide) (Or.inl rfl) wd_248 dX6_wrong_90 ?_
                refine S_iconst (pc := 93) hC dX6_wrong_93 (by decide) ?_
                refine S_icmp_eq (pc := 94) (tgt := 108) hC dX6_wrong_94 (by decide) ?_ ?_
                · exact hJ 108
                · refine S_aload_n (pc := 97) hC dX6_wrong_97 rfl ?_
                  refine S_aload_n (pc := 98) hC dX6_wrong_98 rfl ?_
                  refine S_callV (pc := 99) hC (sX6_passantStands l G) rfl wd_796 wd_798 ws_25 wd_4 wd_799 (by decide +kernel) ⟨by rw [hRf]; decide, by rw [hRl]; decide⟩ dX6_wrong_99 ?_
                  unfold kX6_wrong_102
                  refine S_if_ne (pc := 102) (tgt := 108) hC dX6_wrong_102 (by decide) ?_ ?_
                  · exact hJ 108
                  · refine S_bipush (pc := 105) hC dX6_wrong_105 (by decide) ?_
                    exact S_ireturn (pc := 107) hC hr dX6_wrong_107
              · refine S_bipush (pc := 86) hC dX6_wrong_86 (by decide) ?_
                exact S_ireturn (pc := 88) hC hr dX6_wrong_88
            · exact hJ 75
      · exact hJ 28
  have hB28 : zin 5 [] (aX6_wrong_28 mc ms X Q) X 28 := by
    intro u v vs st M hb
    rw [hXe]
    refine fun lv hp => S_block (L := 28) (live := []) ?_ u v lv vs st M hp hb
    unfold aX6_wrong_28
    refine S_bipush (pc := 28) hC dX6_wrong_28 (by decide) ?_
    exact S_ireturn (pc := 30) hC hr dX6_wrong_30
  have hB75 : zin 5 [] (aX6_wrong_75 mc ms X Q) X 75 := by
    intro u v vs st M hb
    rw [hXe]
    refine fun lv hp => S_block (L := 75) (live := []) ?_ u v lv vs st M hp hb
    unfold aX6_wrong_75
    refine S_bipush (pc := 75) hC dX6_wrong_75 (by decide) ?_
    exact S_ireturn (pc := 77) hC hr dX6_wrong_77
  have hB108 : zin 5 [1] (aX6_wrong_108 mc ms X Q) X 108 := by
    intro u v vs st M hb
    rw [hXe]
    refine fun lv hp => S_block (L := 108) (live := [1]) ?_ u v lv vs st M hp hb
    unfold aX6_wrong_108
    refine S_iconst (pc := 108) hC dX6_wrong_108 (by decide) ?_
    refine S_aload_n (pc := 109) hC dX6_wrong_109 rfl ?_
    refine S_geti (pc := 110) hC cfX0 (by decide) (Or.inl rfl) wd_235 dX6_wrong_110 ?_
    refine S_isub (pc := 113) hC dX6_wrong_113 ?_
    refine S_istore_N (pc := 114) hC dX6_wrong_114 (by decide) ?_
    unfold kX6_wrong_116
    refine S_aload_n (pc := 116) hC dX6_wrong_116 rfl ?_
    refine S_aload_n (pc := 117) hC dX6_wrong_117 rfl ?_
    refine S_iload (pc := 118) hC dX6_wrong_118 ?_
    refine S_callV (pc := 120) hC (sX0_kingOf l G) rfl wd_800 wd_431 wd_432 wd_10 wd_433 (by decide +kernel) ⟨by rw [hRf]; decide, by rw [hRl]; decide⟩ dX6_wrong_120 ?_
    unfold kX6_wrong_123
    refine S_aload_n (pc := 123) hC dX6_wrong_123 rfl ?_
    refine S_geti (pc := 124) hC cfX0 (by decide) (Or.inl rfl) wd_235 dX6_wrong_124 ?_
    refine S_aload_n (pc := 127) hC dX6_wrong_127 rfl ?_
    refine S_callV (pc := 128) hC (sX0_occupied l G) rfl wd_801 wd_444 wd_445 wd_10 wd_446 (by decide +kernel) ⟨by rw [hRf]; decide, by rw [hRl]; decide⟩ dX6_wrong_128 ?_
    unfold kX6_wrong_131
    refine S_lconst (pc := 131) hC dX6_wrong_131 (by decide) ?_
    refine S_callV (pc := 132) hC (sX0_attacked l G) rfl wd_802 wd_448 wd_449 wd_10 wd_450 (by decide +kernel) ⟨by rw [hRf]; decide, by rw [hRl]; decide⟩ dX6_wrong_132 ?_
    unfold kX6_wrong_135
    refine S_if_eq (pc := 135) (tgt := 143) hC dX6_wrong_135 (by decide) ?_ ?_
    · refine S_iconst (pc := 143) hC dX6_wrong_143 (by decide) ?_
      exact hJ 144
    · refine S_bipush (pc := 138) hC dX6_wrong_138 (by decide) ?_
      refine S_goto (pc := 140) (tgt := 144) hC dX6_wrong_140 (by decide) ?_
      exact hJ 144
  have hB144 : zin 5 [] (aX6_wrong_144 mc ms X Q) X 144 := by
    intro u v vs st M hb
    rw [hXe]
    refine fun lv hp => S_block (L := 144) (live := []) ?_ u v lv vs st M hp hb
    unfold aX6_wrong_144
    exact S_ireturn (pc := 144) hC hr dX6_wrong_144
  have := h.2 X hB0 hB28 hB75 hB108 hB144
  rw [hXe] at this
  exact this lv hlv
theorem vX6_wrong_0 {mc ms : Nat} {X : Nat → zV} {Q : zQt} {M : zM} {g : Nat}  (hW : zWd M g)  (h : wJ13_bitCount_95d88 0 0 [.long ((M : zM).2.1 ((g + 3)) (6 : Int32).toNatClampNeg)] M (fun r M1 => kX6_wrong_10 mc ms X Q 0 0 [some (.ref 27), some (.ref (g + 1)), none, none, none] (r.toList ++ []) M1)) : aX6_wrong_0 mc ms X Q 0 0 [some (.ref 27), some (.ref (g + 1)), none, none, none] [] M := ⟨(fgs_1 hW), (g + 3), (fgr_1_2 hW), ⟨13, (fgs_3 hW), by unfold vp_in; decide, ⟨Nat.le_of_ble_eq_true rfl, rfl, 0, 0, Nat.zero_le _, Nat.zero_le _, h⟩⟩⟩
theorem vX6_wrong_28 {mc ms : Nat} {X : Nat → zV} {Q : zQt} {M : zM} {g : Nat}  (hW : zWd M g)  (h : Q (some (.int 7)) M) : aX6_wrong_28 mc ms X Q 0 0 [none, none, none, none, none] [] M := h
theorem vX6_wrong_75 {mc ms : Nat} {X : Nat → zV} {Q : zQt} {M : zM} {g : Nat}  (hW : zWd M g)  (h : Q (some (.int 8)) M) : aX6_wrong_75 mc ms X Q 0 0 [none, none, none, none, none] [] M := h
theorem vcX6_wrong_116 {mc ms : Nat} {X : Nat → zV} {Q : zQt} {M : zM} {g : Nat} {x4 : Int32} (hW : zWd M g)  (h : wX0_kingOf 0 0 [.ref (g + 1), .int x4] M (fun r M1 => kX6_wrong_123 mc ms X Q 0 0 [none, some (.ref (g + 1)), none, none, some (.int x4)] (r.toList ++ [.ref (g + 1)]) M1)) : kX6_wrong_116 mc ms X Q 0 0 [none, some (.ref (g + 1)), none, none, some (.int x4)] [] M := ⟨Nat.le_of_ble_eq_true rfl, rfl, (fgs_1 hW), 0, 0, Nat.zero_le _, Nat.zero_le _, h⟩
theorem vX6_wrong_108 {mc ms : Nat} {X : Nat → zV} {Q : zQt} {M : zM} {g : Nat}  (hW : zWd M g)  (h : ∀ y114 : Int32, y114 = ((1 : Int32) - (M.1 ((g + 1)) 4)) → wX0_kingOf 0 0 [.ref (g + 1), .int y114] M (fun r M1 => kX6_wrong_123 mc ms X Q 0 0 [none, some (.ref (g + 1)), none, none, some (.int y114)] (r.toList ++ [.ref (g + 1)]) M1)) : aX6_wrong_108 mc ms X Q 0 0 [none, some (.ref (g + 1)), none, none, none] [] M := ⟨(fgs_1 hW), (fun y114 e114 => have h114 := h y114 e114; (vcX6_wrong_116 hW  h114))⟩
theorem vX6_wrong_144 {mc ms : Nat} {X : Nat → zV} {Q : zQt} {M : zM} {g : Nat} {s0 : Int32} (hW : zWd M g)  (h : Q (some (.int s0)) M) : aX6_wrong_144 mc ms X Q 0 0 [none, none, none, none, none] [.int s0] M := h
theorem vkX6_wrong_10 {mc ms : Nat} {X : Nat → zV} {Q : zQt} {M : zM} {g : Nat} {s0 : Int32} (hW : zWd M g)  (h : (s0 = (1 : Int32) → wJ13_bitCount_95d88 0 0 [.long ((M : zM).2.1 ((g + 3)) (12 : Int32).toNatClampNeg)] M (fun r M1 => kX6_wrong_24 mc ms X Q 0 0 [some (.ref 27), some (.ref (g + 1)), none, none, none] (r.toList ++ []) M1)) ∧ (¬ s0 = (1 : Int32) → X 28 0 0 [] [] M)) : kX6_wrong_10 mc ms X Q 0 0 [some (.ref 27), some (.ref (g + 1)), none, none, none] [.int s0] M := ⟨fun c11 => ⟨(fgs_1 hW), (g + 3), (fgr_1_2 hW), ⟨13, (fgs_3 hW), by unfold vp_in; decide, ⟨Nat.le_of_ble_eq_true rfl, rfl, 0, 0, Nat.zero_le _, Nat.zero_le _, (h.1 c11)⟩⟩⟩, fun c11 => (h.2 c11)⟩
theorem vcX6_wrong_46 {mc ms : Nat} {X : Nat → zV} {Q : zQt} {M : zM} {g : Nat} {x2 : Int64} (hW : zWd M g)  (h : ((lg_cmp ((x2 &&& ((-72057594037927681) : Int64))) ((0 : Int64))) = 0 → wX6_tooMany 0 0 [.ref 27, .ref (g + 1), .int 0] M (fun r M1 => kX6_wrong_62 mc ms X Q 0 0 [some (.ref 27), some (.ref (g + 1)), some (.long x2), none, none] (r.toList ++ []) M1)) ∧ (¬ (lg_cmp ((x2 &&& ((-72057594037927681) : Int64))) ((0 : Int64))) = 0 → X 75 0 0 [] [] M)) : kX6_wrong_46 mc ms X Q 0 0 [some (.ref 27), some (.ref (g + 1)), some (.long x2), none, none] [] M := ⟨fun c53 => ⟨Nat.le_of_ble_eq_true rfl, rfl, (fxs_27 hW.1), 0, 0, Nat.zero_le _, Nat.zero_le _, (h.1 c53)⟩, fun c53 => (h.2 c53)⟩
theorem vkX6_wrong_24 {mc ms : Nat} {X : Nat → zV} {Q : zQt} {M : zM} {g : Nat} {s0 : Int32} (hW : zWd M g)  (h : (s0 = (1 : Int32) → ∀ y45 : Int64, y45 = (((M : zM).2.1 ((g + 3)) (1 : Int32).toNatClampNeg) ||| ((M : zM).2.1 ((g + 3)) (7 : Int32).toNatClampNeg)) → ((lg_cmp ((y45 &&& ((-72057594037927681) : Int64))) ((0 : Int64))) = 0 → wX6_tooMany 0 0 [.ref 27, .ref (g + 1), .int 0] M (fun r M1 => kX6_wrong_62 mc ms X Q 0 0 [some (.ref 27), some (.ref (g + 1)), some (.long y45), none, none] (r.toList ++ []) M1)) ∧ (¬ (lg_cmp ((y45 &&& ((-72057594037927681) : Int64))) ((0 : Int64))) = 0 → X 75 0 0 [] [] M)) ∧ (¬ s0 = (1 : Int32) → X 28 0 0 [] [] M)) : kX6_wrong_24 mc ms X Q 0 0 [some (.ref 27), some (.ref (g + 1)), none, none, none] [.int s0] M := ⟨fun c25 => ⟨(fgs_1 hW), (g + 3), (fgr_1_2 hW), ⟨13, (fgs_3 hW), by unfold vp_in; decide, ⟨(fgs_1 hW), (g + 3), (fgr_1_2 hW), ⟨13, (fgs_3 hW), by unfold vp_in; decide, (fun y45 e45 => have h45 := (h.1 c25) y45 e45; (vcX6_wrong_46 hW  h45))⟩⟩⟩⟩, fun c25 => (h.2 c25)⟩
theorem vkX6_wrong_62 {mc ms : Nat} {X : Nat → zV} {Q : zQt} {M : zM} {g : Nat} {x2 : Int64} {s0 : Int32} (hW : zWd M g)  (h : (s0 = 0 → wX6_tooMany 0 0 [.ref 27, .ref (g + 1), .int 6] M (fun r M1 => kX6_wrong_72 mc ms X Q 0 0 [some (.ref 27), some (.ref (g + 1)), some (.long x2), none, none] (r.toList ++ []) M1)) ∧ (¬ s0 = 0 → X 75 0 0 [] [] M)) : kX6_wrong_62 mc ms X Q 0 0 [some (.ref 27), some (.ref (g + 1)), some (.long x2), none, none] [.int s0] M := ⟨fun c62 => ⟨Nat.le_of_ble_eq_true rfl, rfl, (fxs_27 hW.1), 0, 0, Nat.zero_le _, Nat.zero_le _, (h.1 c62)⟩, fun c62 => (h.2 c62)⟩
theorem vkX6_wrong_72 {mc ms : Nat} {X : Nat → zV} {Q : zQt} {M : zM} {g : Nat} {x2 : Int64} {s0 : Int32} (hW : zWd M g)  (h : (s0 = 0 → wX6_rightsStand 0 0 [.ref 27, .ref (g + 1)] M (fun r M1 => kX6_wrong_83 mc ms X Q 0 0 [some (.ref 27), some (.ref (g + 1)), some (.long x2), none, none] (r.toList ++ []) M1)) ∧ (¬ s0 = 0 → X 75 0 0 [] [] M)) : kX6_wrong_72 mc ms X Q 0 0 [some (.ref 27), some (.ref (g + 1)), some (.long x2), none, none] [.int s0] M := ⟨fun c72 => ⟨Nat.le_of_ble_eq_true rfl, rfl, (fxs_27 hW.1), 0, 0, Nat.zero_le _, Nat.zero_le _, (h.1 c72)⟩, fun c72 => (h.2 c72)⟩
theorem vkX6_wrong_83 {mc ms : Nat} {X : Nat → zV} {Q : zQt} {M : zM} {g : Nat} {x2 : Int64} {s0 : Int32} (hW : zWd M g)  (h : (s0 = 0 → Q (some (.int 9)) M) ∧ (¬ s0 = 0 → ((M.1 ((g + 1)) 6) = ((-1) : Int32) → X 108 0 0 [.ref (g + 1)] [] M) ∧ (¬ (M.1 ((g + 1)) 6) = ((-1) : Int32) → wX6_passantStands 0 0 [.ref 27, .ref (g + 1)] M (fun r M1 => kX6_wrong_102 mc ms X Q 0 0 [some (.ref 27), some (.ref (g + 1)), some (.long x2), none, none] (r.toList ++ []) M1)))) : kX6_wrong_83 mc ms X Q 0 0 [some (.ref 27), some (.ref (g + 1)), some (.long x2), none, none] [.int s0] M := ⟨fun c83 => (h.1 c83), fun c83 => ⟨(fgs_1 hW), ⟨fun c94 => ((h.2 c83).1 c94), fun c94 => ⟨Nat.le_of_ble_eq_true rfl, rfl, (fxs_27 hW.1), 0, 0, Nat.zero_le _, Nat.zero_le _, ((h.2 c83).2 c94)⟩⟩⟩⟩
theorem vkX6_wrong_102 {mc ms : Nat} {X : Nat → zV} {Q : zQt} {M : zM} {g : Nat} {x2 : Int64} {s0 : Int32} (hW : zWd M g)  (h : (s0 = 0 → Q (some (.int 10)) M) ∧ (¬ s0 = 0 → X 108 0 0 [.ref (g + 1)] [] M)) : kX6_wrong_102 mc ms X Q 0 0 [some (.ref 27), some (.ref (g + 1)), some (.long x2), none, none] [.int s0] M := ⟨fun c102 => (h.1 c102), fun c102 => (h.2 c102)⟩
theorem vkX6_wrong_123 {mc ms : Nat} {X : Nat → zV} {Q : zQt} {M : zM} {g : Nat} {x4 : Int32} {s0 : Int32} (hW : zWd M g)  (h : wX0_occupied 0 0 [.ref (g + 1)] M (fun r M1 => kX6_wrong_131 mc ms X Q 0 0 [none, some (.ref (g + 1)), none, none, some (.int x4)] (r.toList ++ [.int (M.1 ((g + 1)) 4), .int s0, .ref (g + 1)]) M1)) : kX6_wrong_123 mc ms X Q 0 0 [none, some (.ref (g + 1)), none, none, some (.int x4)] [.int s0, .ref (g + 1)] M := ⟨(fgs_1 hW), ⟨Nat.le_of_ble_eq_true rfl, rfl, (fgs_1 hW), 0, 0, Nat.zero_le _, Nat.zero_le _, h⟩⟩
theorem vkX6_wrong_131 {mc ms : Nat} {X : Nat → zV} {Q : zQt} {M : zM} {g : Nat} {x4 : Int32} {s0 : Int64} {s1 : Int32} {s2 : Int32} (hW : zWd M g)  (h : wX0_attacked 0 0 [.ref (g + 1), .int s2, .int s1, .long s0, .long 0] M (fun r M1 => kX6_wrong_135 mc ms X Q 0 0 [none, some (.ref (g + 1)), none, none, some (.int x4)] (r.toList ++ []) M1)) : kX6_wrong_131 mc ms X Q 0 0 [none, some (.ref (g + 1)), none, none, some (.int x4)] [.long s0, .int s1, .int s2, .ref (g + 1)] M := ⟨Nat.le_of_ble_eq_true rfl, rfl, (fgs_1 hW), 0, 0, Nat.zero_le _, Nat.zero_le _, h⟩
theorem vkX6_wrong_135 {mc ms : Nat} {X : Nat → zV} {Q : zQt} {M : zM} {g : Nat} {x4 : Int32} {s0 : Int32} (hW : zWd M g)  (h : (s0 = 0 → X 144 0 0 [] [.int 0] M) ∧ (¬ s0 = 0 → X 144 0 0 [] [.int 11] M)) : kX6_wrong_135 mc ms X Q 0 0 [none, some (.ref (g + 1)), none, none, some (.int x4)] [.int s0] M := ⟨fun c135 => (h.1 c135), fun c135 => (h.2 c135)⟩
theorem dX7_putEmpty_0 : decode cX7_putEmpty 0 = .ok (.iload_n 1, 1) := by decide +kernel
theorem dX7_putEmpty_1 : decode cX7_putEmpty 1 = .ok (.ifCond .le 12, 3) := by decide +kernel
theorem dX7_putEmpty_4 : decode cX7_putEmpty 4 = .ok (.aload_n 0, 1) := by decide +kernel
theorem dX7_putEmpty_5 : decode cX7_putEmpty 5 = .ok (.bipush 48, 2) := by decide +kernel
theorem dX7_putEmpty_7 : decode cX7_putEmpty 7 = .ok (.iload_n 1, 1) := by decide +kernel
theorem dX7_putEmpty_8 : decode cX7_putEmpty 8 = .ok (.iadd, 1) := by decide +kernel
theorem dX7_putEmpty_9 : decode cX7_putEmpty 9 = .ok (.i2c, 1) := by decide +kernel
theorem dX7_putEmpty_10 : decode cX7_putEmpty 10 = .ok (.invokevirtual 27, 3) := by decide +kernel
theorem dX7_putEmpty_13 : decode cX7_putEmpty 13 = .ok (.return_, 1) := by decide +kernel
def kX7_putEmpty_13 (mc ms : Nat) (X : Nat → zV) (Q : zQt) : zT :=
  zj X 13 []
def aX7_putEmpty_0 (mc ms : Nat) (X : Nat → zV) (Q : zQt) : zT :=
  zli 1 <| zif (fun x => x ≤ 0) (zj X 13 []) <| zla 0 <| zc (.int 48) <| zli 1 <| zii (fun x y => x + y) <| zi1 (fun x => (x.toUInt32 % 65536).toInt32) <| zcv mc ms 7 1 wX7_put <| kX7_putEmpty_13 mc ms X Q
def aX7_putEmpty_13 (mc ms : Nat) (X : Nat → zV) (Q : zQt) : zT :=
  zrv Q
def lvX7_putEmpty : Nat → List Nat := fun L => match L with
  | 0 => [0, 1]
  | 13 => []
  | _ => []
def wX7_putEmpty : zSp := fun mc ms av M Q => ((zlay av).length ≤ 2 ∧ zpick (zlay av) [0, 1] = some av) ∧ ∀ X : Nat → zV, zin 2 [0, 1] (aX7_putEmpty_0 mc ms X Q) X 0 → zin 2 [] (aX7_putEmpty_13 mc ms X Q) X 13 → X 0 0 0 av [] M
set_option maxRecDepth 100000 in
set_option maxHeartbeats 4000000 in
theorem sX7_putEmpty (l : Launch) (G : zG) : zSnd l G yX7_putEmpty cX7_putEmpty 2 none 1 21 wX7_putEmpty := by
  refine zmk [0, 1] (by decide) (fun mc ms av M Q h => h.1) ?_
  intro p e R s m args below meth c mc ms av M Q hC hRf hRl hr hnm h lv hlv
  obtain ⟨X, hXe⟩ : ∃ X : Nat → zV, X = fun L u v vs st M => ∀ lv, zpick lv (lvX7_putEmpty L) = some vs → zAt p l e R s m args below meth c (MQ below (zQ G Q) args s mc ms (zA G)) G 2 L u v lv st M := ⟨_, rfl⟩
  have hJ : ∀ L, zOk p l e R s m args below meth c (MQ below (zQ G Q) args s mc ms (zA G)) G 2 L (zj X L (lvX7_putEmpty L)) := fun L => S_jump (fun u v lv vs st M hp hx => by rw [hXe] at hx; exact hx lv hp)
  have hB0 : zin 2 [0, 1] (aX7_putEmpty_0 mc ms X Q) X 0 := by
    intro u v vs st M hb
    rw [hXe]
    refine fun lv hp => S_block (L := 0) (live := [0, 1]) ?_ u v lv vs st M hp hb
    unfold aX7_putEmpty_0
    refine S_iload_n (pc := 0) hC dX7_putEmpty_0 rfl ?_
    refine S_if_le (pc := 1) (tgt := 13) hC dX7_putEmpty_1 (by decide) ?_ ?_
    · exact hJ 13
    · refine S_aload_n (pc := 4) hC dX7_putEmpty_4 rfl ?_
      refine S_bipush (pc := 5) hC dX7_putEmpty_5 (by decide) ?_
      refine S_iload_n (pc := 7) hC dX7_putEmpty_7 rfl ?_
      refine S_iadd (pc := 8) hC dX7_putEmpty_8 ?_
      refine S_i2c (pc := 9) hC dX7_putEmpty_9 ?_
      refine S_callV (pc := 10) hC (sX7_put l G) rfl wd_511 wd_513 ws_10 wd_6 wd_514 (by decide +kernel) ⟨by rw [hRf]; decide, by rw [hRl]; decide⟩ dX7_putEmpty_10 ?_
      unfold kX7_putEmpty_13
      exact hJ 13
  have hB13 : zin 2 [] (aX7_putEmpty_13 mc ms X Q) X 13 := by
    intro u v vs st M hb
    rw [hXe]
    refine fun lv hp => S_block (L := 13) (live := []) ?_ u v lv vs st M hp hb
    unfold aX7_putEmpty_13
    exact S_vreturn (pc := 13) hC hr dX7_putEmpty_13
  have := h.2 X hB0 hB13
  rw [hXe] at this
  exact this lv hlv
theorem vX7_putEmpty_0 {mc ms : Nat} {X : Nat → zV} {Q : zQt} {M : zM} {g : Nat} {x1 : Int32} (hW : zWd M g)  (h : (x1 ≤ 0 → X 13 0 0 [] [] M) ∧ (¬ x1 ≤ 0 → wX7_put 0 0 [.ref 29, .int ((((48 : Int32) + x1).toUInt32 % 65536).toInt32)] M (fun r M1 => kX7_putEmpty_13 mc ms X Q 0 0 [some (.ref 29), some (.int x1)] (r.toList ++ []) M1))) : aX7_putEmpty_0 mc ms X Q 0 0 [some (.ref 29), some (.int x1)] [] M := ⟨fun c1 => (h.1 c1), fun c1 => ⟨Nat.le_of_ble_eq_true rfl, rfl, (fxs_29 hW.1), 0, 0, Nat.zero_le _, Nat.zero_le _, (h.2 c1)⟩⟩
theorem vX7_putEmpty_13 {mc ms : Nat} {X : Nat → zV} {Q : zQt} {M : zM} {g : Nat}  (hW : zWd M g)  (h : Q none M) : aX7_putEmpty_13 mc ms X Q 0 0 [none, none] [] M := h
theorem vkX7_putEmpty_13 {mc ms : Nat} {X : Nat → zV} {Q : zQt} {M : zM} {g : Nat} {x1 : Int32} (hW : zWd M g)  (h : X 13 0 0 [] [] M) : kX7_putEmpty_13 mc ms X Q 0 0 [some (.ref 29), some (.int x1)] [] M := h
theorem dX10_readTarget_0 : decode cX10_readTarget 0 = .ok (.iload_n 3, 1) := by decide +kernel
theorem dX10_readTarget_1 : decode cX10_readTarget 1 = .ok (.iload_n 2, 1) := by decide +kernel
theorem dX10_readTarget_2 : decode cX10_readTarget 2 = .ok (.isub, 1) := by decide +kernel
theorem dX10_readTarget_3 : decode cX10_readTarget 3 = .ok (.iconst 2, 1) := by decide +kernel
theorem dX10_readTarget_4 : decode cX10_readTarget 4 = .ok (.if_icmp .lt 25, 3) := by decide +kernel
theorem dX10_readTarget_7 : decode cX10_readTarget 7 = .ok (.aload_n 1, 1) := by decide +kernel
theorem dX10_readTarget_8 : decode cX10_readTarget 8 = .ok (.iload_n 3, 1) := by decide +kernel
theorem dX10_readTarget_9 : decode cX10_readTarget 9 = .ok (.iconst 2, 1) := by decide +kernel
theorem dX10_readTarget_10 : decode cX10_readTarget 10 = .ok (.isub, 1) := by decide +kernel
theorem dX10_readTarget_11 : decode cX10_readTarget 11 = .ok (.caload, 1) := by decide +kernel
theorem dX10_readTarget_12 : decode cX10_readTarget 12 = .ok (.invokestatic 50, 3) := by decide +kernel
theorem dX10_readTarget_15 : decode cX10_readTarget 15 = .ok (.ifCond .eq 14, 3) := by decide +kernel
theorem dX10_readTarget_18 : decode cX10_readTarget 18 = .ok (.aload_n 1, 1) := by decide +kernel
theorem dX10_readTarget_19 : decode cX10_readTarget 19 = .ok (.iload_n 3, 1) := by decide +kernel
theorem dX10_readTarget_20 : decode cX10_readTarget 20 = .ok (.iconst 1, 1) := by decide +kernel
theorem dX10_readTarget_21 : decode cX10_readTarget 21 = .ok (.isub, 1) := by decide +kernel
theorem dX10_readTarget_22 : decode cX10_readTarget 22 = .ok (.caload, 1) := by decide +kernel
theorem dX10_readTarget_23 : decode cX10_readTarget 23 = .ok (.invokestatic 54, 3) := by decide +kernel
theorem dX10_readTarget_26 : decode cX10_readTarget 26 = .ok (.ifCond .ne 5, 3) := by decide +kernel
theorem dX10_readTarget_29 : decode cX10_readTarget 29 = .ok (.iconst 0, 1) := by decide +kernel
theorem dX10_readTarget_30 : decode cX10_readTarget 30 = .ok (.ireturn, 1) := by decide +kernel
theorem dX10_readTarget_31 : decode cX10_readTarget 31 = .ok (.aload_n 0, 1) := by decide +kernel
theorem dX10_readTarget_32 : decode cX10_readTarget 32 = .ok (.aload_n 1, 1) := by decide +kernel
theorem dX10_readTarget_33 : decode cX10_readTarget 33 = .ok (.iload_n 3, 1) := by decide +kernel
theorem dX10_readTarget_34 : decode cX10_readTarget 34 = .ok (.iconst 1, 1) := by decide +kernel
theorem dX10_readTarget_35 : decode cX10_readTarget 35 = .ok (.isub, 1) := by decide +kernel
theorem dX10_readTarget_36 : decode cX10_readTarget 36 = .ok (.caload, 1) := by decide +kernel
theorem dX10_readTarget_37 : decode cX10_readTarget 37 = .ok (.bipush 49, 2) := by decide +kernel
theorem dX10_readTarget_39 : decode cX10_readTarget 39 = .ok (.isub, 1) := by decide +kernel
theorem dX10_readTarget_40 : decode cX10_readTarget 40 = .ok (.bipush 8, 2) := by decide +kernel
theorem dX10_readTarget_42 : decode cX10_readTarget 42 = .ok (.imul, 1) := by decide +kernel
theorem dX10_readTarget_43 : decode cX10_readTarget 43 = .ok (.aload_n 1, 1) := by decide +kernel
theorem dX10_readTarget_44 : decode cX10_readTarget 44 = .ok (.iload_n 3, 1) := by decide +kernel
theorem dX10_readTarget_45 : decode cX10_readTarget 45 = .ok (.iconst 2, 1) := by decide +kernel
theorem dX10_readTarget_46 : decode cX10_readTarget 46 = .ok (.isub, 1) := by decide +kernel
theorem dX10_readTarget_47 : decode cX10_readTarget 47 = .ok (.caload, 1) := by decide +kernel
theorem dX10_readTarget_48 : decode cX10_readTarget 48 = .ok (.bipush 97, 2) := by decide +kernel
theorem dX10_readTarget_50 : decode cX10_readTarget 50 = .ok (.isub, 1) := by decide +kernel
theorem dX10_readTarget_51 : decode cX10_readTarget 51 = .ok (.iadd, 1) := by decide +kernel
theorem dX10_readTarget_52 : decode cX10_readTarget 52 = .ok (.putfield 57, 3) := by decide +kernel
theorem dX10_readTarget_55 : decode cX10_readTarget 55 = .ok (.iconst 1, 1) := by decide +kernel
theorem dX10_readTarget_56 : decode cX10_readTarget 56 = .ok (.ireturn, 1) := by decide +kernel
def kX10_readTarget_26 (mc ms : Nat) (X : Nat → zV) (Q : zQt) : zT :=
  zif (fun x => x = 0) (zj X 29 []) <| zla 0 <| zla 1 <| zli 3 <| zc (.int 1) <| zii (fun x y => x - y) <| zal 4 <| zc (.int 49) <| zii (fun x y => x - y) <| zc (.int 8) <| zii (fun x y => x * y) <| zla 1 <| zli 3 <| zc (.int 2) <| zii (fun x y => x - y) <| zal 4 <| zc (.int 97) <| zii (fun x y => x - y) <| zii (fun x y => x + y) <| zpi 10 1 <| zc (.int 1) <| zrz .boolean Q
def kX10_readTarget_15 (mc ms : Nat) (X : Nat → zV) (Q : zQt) : zT :=
  zif (fun x => x = 0) (zj X 29 []) <| zla 1 <| zli 3 <| zc (.int 1) <| zii (fun x y => x - y) <| zal 4 <| zcs mc ms 1 wX10_isRank <| kX10_readTarget_26 mc ms X Q
def aX10_readTarget_0 (mc ms : Nat) (X : Nat → zV) (Q : zQt) : zT :=
  zli 3 <| zli 2 <| zii (fun x y => x - y) <| zc (.int 2) <| zic (fun x y => x < y) (zj X 29 []) <| zla 1 <| zli 3 <| zc (.int 2) <| zii (fun x y => x - y) <| zal 4 <| zcs mc ms 1 wX10_isFile <| kX10_readTarget_15 mc ms X Q
def aX10_readTarget_29 (mc ms : Nat) (X : Nat → zV) (Q : zQt) : zT :=
  zc (.int 0) <| zrz .boolean Q
def lvX10_readTarget : Nat → List Nat := fun L => match L with
  | 0 => [0, 1, 2, 3]
  | 29 => []
  | _ => []
def wX10_readTarget : zSp := fun mc ms av M Q => ((zlay av).length ≤ 4 ∧ zpick (zlay av) [0, 1, 2, 3] = some av) ∧ ∀ X : Nat → zV, zin 4 [0, 1, 2, 3] (aX10_readTarget_0 mc ms X Q) X 0 → zin 4 [] (aX10_readTarget_29 mc ms X Q) X 29 → X 0 0 0 av [] M
set_option maxRecDepth 100000 in
set_option maxHeartbeats 4000000 in
theorem sX10_readTarget (l : Launch) (G : zG) : zSnd l G yX10_readTarget cX10_readTarget 4 (some .boolean) 1 20 wX10_readTarget := by
  refine zmk [0, 1, 2, 3] (by decide) (fun mc ms av M Q h => h.1) ?_
  intro p e R s m args below meth c mc ms av M Q hC hRf hRl hr hnm h lv hlv
  obtain ⟨X, hXe⟩ : ∃ X : Nat → zV, X = fun L u v vs st M => ∀ lv, zpick lv (lvX10_readTarget L) = some vs → zAt p l e R s m args below meth c (MQ below (zQ G Q) args s mc ms (zA G)) G 4 L u v lv st M := ⟨_, rfl⟩
  have hJ : ∀ L, zOk p l e R s m args below meth c (MQ below (zQ G Q) args s mc ms (zA G)) G 4 L (zj X L (lvX10_readTarget L)) := fun L => S_jump (fun u v lv vs st M hp hx => by rw [hXe] at hx; exact hx lv hp)
  have hB0 : zin 4 [0, 1, 2, 3] (aX10_readTarget_0 mc ms X Q) X 0 := by
    intro u v vs st M hb
    rw [hXe]
    refine fun lv hp => S_block (L := 0) (live := [0, 1, 2, 3]) ?_ u v lv vs st M hp hb
    unfold aX10_readTarget_0
    refine S_iload_n (pc := 0) hC dX10_readTarget_0 rfl ?_
    refine S_iload_n (pc := 1) hC dX10_readTarget_1 rfl ?_
    refine S_isub (pc := 2) hC dX10_readTarget_2 ?_
    refine S_iconst (pc := 3) hC dX10_readTarget_3 (by decide) ?_
    refine S_icmp_lt (pc := 4) (tgt := 29) hC dX10_readTarget_4 (by decide) ?_ ?_
    · exact hJ 29
    · refine S_aload_n (pc := 7) hC dX10_readTarget_7 rfl ?_
      refine S_iload_n (pc := 8) hC dX10_readTarget_8 rfl ?_
      refine S_iconst (pc := 9) hC dX10_readTarget_9 (by decide) ?_
      refine S_isub (pc := 10) hC dX10_readTarget_10 ?_
      refine S_caload (pc := 11) hC dX10_readTarget_11 ?_
      refine S_callS (pc := 12) hC (sX10_isFile l G) wd_895 wd_896 wd_5 wd_897 (by decide +kernel) ⟨by rw [hRf]; decide, by rw [hRl]; decide⟩ dX10_readTarget_12 ?_
      unfold kX10_readTarget_15
      refine S_if_eq (pc := 15) (tgt := 29) hC dX10_readTarget_15 (by decide) ?_ ?_
      · exact hJ 29
      · refine S_aload_n (pc := 18) hC dX10_readTarget_18 rfl ?_
        refine S_iload_n (pc := 19) hC dX10_readTarget_19 rfl ?_
        refine S_iconst (pc := 20) hC dX10_readTarget_20 (by decide) ?_
        refine S_isub (pc := 21) hC dX10_readTarget_21 ?_
        refine S_caload (pc := 22) hC dX10_readTarget_22 ?_
        refine S_callS (pc := 23) hC (sX10_isRank l G) wd_898 wd_899 wd_5 wd_900 (by decide +kernel) ⟨by rw [hRf]; decide, by rw [hRl]; decide⟩ dX10_readTarget_23 ?_
        unfold kX10_readTarget_26
        refine S_if_ne (pc := 26) (tgt := 31) hC dX10_readTarget_26 (by decide) ?_ ?_
        · refine S_aload_n (pc := 31) hC dX10_readTarget_31 rfl ?_
          refine S_aload_n (pc := 32) hC dX10_readTarget_32 rfl ?_
          refine S_iload_n (pc := 33) hC dX10_readTarget_33 rfl ?_
          refine S_iconst (pc := 34) hC dX10_readTarget_34 (by decide) ?_
          refine S_isub (pc := 35) hC dX10_readTarget_35 ?_
          refine S_caload (pc := 36) hC dX10_readTarget_36 ?_
          refine S_bipush (pc := 37) hC dX10_readTarget_37 (by decide) ?_
          refine S_isub (pc := 39) hC dX10_readTarget_39 ?_
          refine S_bipush (pc := 40) hC dX10_readTarget_40 (by decide) ?_
          refine S_imul (pc := 42) hC dX10_readTarget_42 ?_
          refine S_aload_n (pc := 43) hC dX10_readTarget_43 rfl ?_
          refine S_iload_n (pc := 44) hC dX10_readTarget_44 rfl ?_
          refine S_iconst (pc := 45) hC dX10_readTarget_45 (by decide) ?_
          refine S_isub (pc := 46) hC dX10_readTarget_46 ?_
          refine S_caload (pc := 47) hC dX10_readTarget_47 ?_
          refine S_bipush (pc := 48) hC dX10_readTarget_48 (by decide) ?_
          refine S_isub (pc := 50) hC dX10_readTarget_50 ?_
          refine S_iadd (pc := 51) hC dX10_readTarget_51 ?_
          refine S_puti (pc := 52) hC cfX10 (by decide) rfl (Or.inl rfl) wd_115 dX10_readTarget_52 ?_
          refine S_iconst (pc := 55) hC dX10_readTarget_55 (by decide) ?_
          exact S_zreturn (pc := 56) hC hr dX10_readTarget_56
        · exact hJ 29
  have hB29 : zin 4 [] (aX10_readTarget_29 mc ms X Q) X 29 := by
    intro u v vs st M hb
    rw [hXe]
    refine fun lv hp => S_block (L := 29) (live := []) ?_ u v lv vs st M hp hb
    unfold aX10_readTarget_29
    refine S_iconst (pc := 29) hC dX10_readTarget_29 (by decide) ?_
    exact S_zreturn (pc := 30) hC hr dX10_readTarget_30
  have := h.2 X hB0 hB29
  rw [hXe] at this
  exact this lv hlv
theorem vX10_readTarget_0 {mc ms : Nat} {X : Nat → zV} {Q : zQt} {M : zM} {g : Nat} {x2 : Int32} {x3 : Int32} (hW : zWd M g)  (h : ((x3 - x2) < (2 : Int32) → X 29 0 0 [] [] M) ∧ (¬ (x3 - x2) < (2 : Int32) → vp_in ((x3 - (2 : Int32))) 8180 ∧ wX10_isFile 0 0 [.int ((M : zM).1 24 ((x3 - (2 : Int32)) : Int32).toNatClampNeg)] M (fun r M1 => kX10_readTarget_15 mc ms X Q 0 0 [some (.ref 28), some (.ref 24), some (.int x2), some (.int x3)] (r.toList ++ []) M1))) : aX10_readTarget_0 mc ms X Q 0 0 [some (.ref 28), some (.ref 24), some (.int x2), some (.int x3)] [] M := ⟨fun c4 => (h.1 c4), fun c4 => ⟨8180, (fxs_24 hW.1), (h.2 c4).1, ⟨Nat.le_of_ble_eq_true rfl, rfl, 0, 0, Nat.zero_le _, Nat.zero_le _, (h.2 c4).2⟩⟩⟩
theorem vX10_readTarget_29 {mc ms : Nat} {X : Nat → zV} {Q : zQt} {M : zM} {g : Nat}  (hW : zWd M g)  (h : Q (some (.int 0)) M) : aX10_readTarget_29 mc ms X Q 0 0 [none, none, none, none] [] M := ⟨rfl, h⟩
theorem vkX10_readTarget_15 {mc ms : Nat} {X : Nat → zV} {Q : zQt} {M : zM} {g : Nat} {x2 : Int32} {x3 : Int32} {s0 : Int32} (hW : zWd M g)  (h : (s0 = 0 → X 29 0 0 [] [] M) ∧ (¬ s0 = 0 → vp_in ((x3 - (1 : Int32))) 8180 ∧ wX10_isRank 0 0 [.int ((M : zM).1 24 ((x3 - (1 : Int32)) : Int32).toNatClampNeg)] M (fun r M1 => kX10_readTarget_26 mc ms X Q 0 0 [some (.ref 28), some (.ref 24), some (.int x2), some (.int x3)] (r.toList ++ []) M1))) : kX10_readTarget_15 mc ms X Q 0 0 [some (.ref 28), some (.ref 24), some (.int x2), some (.int x3)] [.int s0] M := ⟨fun c15 => (h.1 c15), fun c15 => ⟨8180, (fxs_24 hW.1), (h.2 c15).1, ⟨Nat.le_of_ble_eq_true rfl, rfl, 0, 0, Nat.zero_le _, Nat.zero_le _, (h.2 c15).2⟩⟩⟩
theorem vkX10_readTarget_26 {mc ms : Nat} {X : Nat → zV} {Q : zQt} {M : zM} {g : Nat} {x2 : Int32} {x3 : Int32} {s0 : Int32} (hW : zWd M g)  (h : (s0 = 0 → X 29 0 0 [] [] M) ∧ (¬ s0 = 0 → vp_in ((x3 - (1 : Int32))) 8180 ∧ vp_in ((x3 - (2 : Int32))) 8180 ∧ ∀ M52 : zM, M52 = (zsI M 28 1 ((((((M : zM).1 24 ((x3 - (1 : Int32)) : Int32).toNatClampNeg) - (49 : Int32)) * (8 : Int32)) + (((M : zM).1 24 ((x3 - (2 : Int32)) : Int32).toNatClampNeg) - (97 : Int32))))) → Q (some (.int 1)) M52)) : kX10_readTarget_26 mc ms X Q 0 0 [some (.ref 28), some (.ref 24), some (.int x2), some (.int x3)] [.int s0] M := ⟨fun c26 => (h.1 c26), fun c26 => ⟨8180, (fxs_24 hW.1), (h.2 c26).1, ⟨8180, (fxs_24 hW.1), (h.2 c26).2.1, ⟨(fxs_28 hW.1), (have h52 := (h.2 c26).2.2 _ rfl; ⟨rfl, h52⟩)⟩⟩⟩⟩
