theorem dX12_rowOf_0 : decode cX12_rowOf 0 = .ok (.iload_n 1, 1) := by decide +kernel
theorem dX12_rowOf_1 : decode cX12_rowOf 1 = .ok (.iconst 1, 1) := by decide +kernel
theorem dX12_rowOf_2 : decode cX12_rowOf 2 = .ok (.if_icmp .ne 10, 3) := by decide +kernel
theorem dX12_rowOf_5 : decode cX12_rowOf 5 = .ok (.aload_n 0, 1) := by decide +kernel
theorem dX12_rowOf_6 : decode cX12_rowOf 6 = .ok (.getfield 95, 3) := by decide +kernel
theorem dX12_rowOf_9 : decode cX12_rowOf 9 = .ok (.goto 43, 3) := by decide +kernel
theorem dX12_rowOf_12 : decode cX12_rowOf 12 = .ok (.iload_n 1, 1) := by decide +kernel
theorem dX12_rowOf_13 : decode cX12_rowOf 13 = .ok (.iconst 2, 1) := by decide +kernel
theorem dX12_rowOf_14 : decode cX12_rowOf 14 = .ok (.if_icmp .ne 10, 3) := by decide +kernel
theorem dX12_rowOf_17 : decode cX12_rowOf 17 = .ok (.aload_n 0, 1) := by decide +kernel
theorem dX12_rowOf_18 : decode cX12_rowOf 18 = .ok (.getfield 99, 3) := by decide +kernel
theorem dX12_rowOf_21 : decode cX12_rowOf 21 = .ok (.goto 31, 3) := by decide +kernel
theorem dX12_rowOf_24 : decode cX12_rowOf 24 = .ok (.iload_n 1, 1) := by decide +kernel
theorem dX12_rowOf_25 : decode cX12_rowOf 25 = .ok (.iconst 3, 1) := by decide +kernel
theorem dX12_rowOf_26 : decode cX12_rowOf 26 = .ok (.if_icmp .ne 10, 3) := by decide +kernel
theorem dX12_rowOf_29 : decode cX12_rowOf 29 = .ok (.aload_n 0, 1) := by decide +kernel
theorem dX12_rowOf_30 : decode cX12_rowOf 30 = .ok (.getfield 102, 3) := by decide +kernel
theorem dX12_rowOf_33 : decode cX12_rowOf 33 = .ok (.goto 19, 3) := by decide +kernel
theorem dX12_rowOf_36 : decode cX12_rowOf 36 = .ok (.iload_n 1, 1) := by decide +kernel
theorem dX12_rowOf_37 : decode cX12_rowOf 37 = .ok (.iconst 4, 1) := by decide +kernel
theorem dX12_rowOf_38 : decode cX12_rowOf 38 = .ok (.if_icmp .ne 10, 3) := by decide +kernel
theorem dX12_rowOf_41 : decode cX12_rowOf 41 = .ok (.aload_n 0, 1) := by decide +kernel
theorem dX12_rowOf_42 : decode cX12_rowOf 42 = .ok (.getfield 105, 3) := by decide +kernel
theorem dX12_rowOf_45 : decode cX12_rowOf 45 = .ok (.goto 7, 3) := by decide +kernel
theorem dX12_rowOf_48 : decode cX12_rowOf 48 = .ok (.aload_n 0, 1) := by decide +kernel
theorem dX12_rowOf_49 : decode cX12_rowOf 49 = .ok (.getfield 108, 3) := by decide +kernel
theorem dX12_rowOf_52 : decode cX12_rowOf 52 = .ok (.areturn, 1) := by decide +kernel
def aX12_rowOf_0 (mc ms : Nat) (X : Nat → zV) (Q : zQt) : zT :=
  zli 1 <| zc (.int 1) <| zic (fun x y => x = y) (zla 0 <| zgr 12 4 <| zj X 52 []) <| zli 1 <| zc (.int 2) <| zic (fun x y => x = y) (zla 0 <| zgr 12 7 <| zj X 52 []) <| zli 1 <| zc (.int 3) <| zic (fun x y => x = y) (zla 0 <| zgr 12 8 <| zj X 52 []) <| zli 1 <| zc (.int 4) <| zic (fun x y => x = y) (zla 0 <| zgr 12 5 <| zj X 52 []) <| zla 0 <| zgr 12 6 <| zj X 52 []
def aX12_rowOf_52 (mc ms : Nat) (X : Nat → zV) (Q : zQt) : zT :=
  zra Q
def lvX12_rowOf : Nat → List Nat := fun L => match L with
  | 0 => [0, 1]
  | 52 => []
  | _ => []
def wX12_rowOf : zSp := fun mc ms av M Q => ((zlay av).length ≤ 2 ∧ zpick (zlay av) [0, 1] = some av) ∧ ∀ X : Nat → zV, zin 2 [0, 1] (aX12_rowOf_0 mc ms X Q) X 0 → zin 2 [] (aX12_rowOf_52 mc ms X Q) X 52 → X 0 0 0 av [] M
set_option maxRecDepth 100000 in
set_option maxHeartbeats 4000000 in
theorem sX12_rowOf (l : Launch) (G : zG) : zSnd l G yX12_rowOf cX12_rowOf 2 (some (.array .byte)) 0 0 wX12_rowOf := by
  refine zmk [0, 1] (by decide) (fun mc ms av M Q h => h.1) ?_
  intro p e R s m args below meth c mc ms av M Q hC hRf hRl hr hnm h lv hlv
  obtain ⟨X, hXe⟩ : ∃ X : Nat → zV, X = fun L u v vs st M => ∀ lv, zpick lv (lvX12_rowOf L) = some vs → zAt p l e R s m args below meth c (MQ below (zQ G Q) args s mc ms (zA G)) G 2 L u v lv st M := ⟨_, rfl⟩
  have hJ : ∀ L, zOk p l e R s m args below meth c (MQ below (zQ G Q) args s mc ms (zA G)) G 2 L (zj X L (lvX12_rowOf L)) := fun L => S_jump (fun u v lv vs st M hp hx => by rw [hXe] at hx; exact hx lv hp)
  have hB0 : zin 2 [0, 1] (aX12_rowOf_0 mc ms X Q) X 0 := by
    intro u v vs st M hb
    rw [hXe]
    refine fun lv hp => S_block (L := 0) (live := [0, 1]) ?_ u v lv vs st M hp hb
    unfold aX12_rowOf_0
    refine S_iload_n (pc := 0) hC dX12_rowOf_0 rfl ?_
    refine S_iconst (pc := 1) hC dX12_rowOf_1 (by decide) ?_
    refine S_icmp_ne (pc := 2) (tgt := 12) hC dX12_rowOf_2 (by decide) ?_ ?_
    · refine S_iload_n (pc := 12) hC dX12_rowOf_12 rfl ?_
      refine S_iconst (pc := 13) hC dX12_rowOf_13 (by decide) ?_
      refine S_icmp_ne (pc := 14) (tgt := 24) hC dX12_rowOf_14 (by decide) ?_ ?_
      · refine S_iload_n (pc := 24) hC dX12_rowOf_24 rfl ?_
        refine S_iconst (pc := 25) hC dX12_rowOf_25 (by decide) ?_
        refine S_icmp_ne (pc := 26) (tgt := 36) hC dX12_rowOf_26 (by decide) ?_ ?_
        · refine S_iload_n (pc := 36) hC dX12_rowOf_36 rfl ?_
          refine S_iconst (pc := 37) hC dX12_rowOf_37 (by decide) ?_
          refine S_icmp_ne (pc := 38) (tgt := 48) hC dX12_rowOf_38 (by decide) ?_ ?_
          · refine S_aload_n (pc := 48) hC dX12_rowOf_48 rfl ?_
            refine S_getr (pc := 49) hC cfX12 (by decide) (Or.inr ⟨_, rfl⟩) wd_1208 dX12_rowOf_49 ?_
            exact hJ 52
          · refine S_aload_n (pc := 41) hC dX12_rowOf_41 rfl ?_
            refine S_getr (pc := 42) hC cfX12 (by decide) (Or.inr ⟨_, rfl⟩) wd_1207 dX12_rowOf_42 ?_
            refine S_goto (pc := 45) (tgt := 52) hC dX12_rowOf_45 (by decide) ?_
            exact hJ 52
        · refine S_aload_n (pc := 29) hC dX12_rowOf_29 rfl ?_
          refine S_getr (pc := 30) hC cfX12 (by decide) (Or.inr ⟨_, rfl⟩) wd_1210 dX12_rowOf_30 ?_
          refine S_goto (pc := 33) (tgt := 52) hC dX12_rowOf_33 (by decide) ?_
          exact hJ 52
      · refine S_aload_n (pc := 17) hC dX12_rowOf_17 rfl ?_
        refine S_getr (pc := 18) hC cfX12 (by decide) (Or.inr ⟨_, rfl⟩) wd_1209 dX12_rowOf_18 ?_
        refine S_goto (pc := 21) (tgt := 52) hC dX12_rowOf_21 (by decide) ?_
        exact hJ 52
    · refine S_aload_n (pc := 5) hC dX12_rowOf_5 rfl ?_
      refine S_getr (pc := 6) hC cfX12 (by decide) (Or.inr ⟨_, rfl⟩) wd_1206 dX12_rowOf_6 ?_
      refine S_goto (pc := 9) (tgt := 52) hC dX12_rowOf_9 (by decide) ?_
      exact hJ 52
  have hB52 : zin 2 [] (aX12_rowOf_52 mc ms X Q) X 52 := by
    intro u v vs st M hb
    rw [hXe]
    refine fun lv hp => S_block (L := 52) (live := []) ?_ u v lv vs st M hp hb
    unfold aX12_rowOf_52
    exact S_areturn (pc := 52) hC (Or.inr ⟨_, rfl⟩) hr dX12_rowOf_52
  have := h.2 X hB0 hB52
  rw [hXe] at this
  exact this lv hlv
theorem vX12_rowOf_0 {mc ms : Nat} {X : Nat → zV} {Q : zQt} {M : zM} {x1 : Int32} (hW : zFix M) (h : (x1 = (1 : Int32) → X 52 0 0 [] [zrf ((M : zM).2.2.1 71 4)] M) ∧ (¬ x1 = (1 : Int32) → (x1 = (2 : Int32) → X 52 0 0 [] [zrf ((M : zM).2.2.1 71 7)] M) ∧ (¬ x1 = (2 : Int32) → (x1 = (3 : Int32) → X 52 0 0 [] [zrf ((M : zM).2.2.1 71 8)] M) ∧ (¬ x1 = (3 : Int32) → (x1 = (4 : Int32) → X 52 0 0 [] [zrf ((M : zM).2.2.1 71 5)] M) ∧ (¬ x1 = (4 : Int32) → X 52 0 0 [] [zrf ((M : zM).2.2.1 71 6)] M))))) : aX12_rowOf_0 mc ms X Q 0 0 [some (.ref 71), some (.int x1)] [] M := ⟨fun a => ⟨fxs_71 hW, h.1 a⟩, fun a => ⟨fun b => ⟨fxs_71 hW, (h.2 a).1 b⟩, fun b => ⟨fun c => ⟨fxs_71 hW, ((h.2 a).2 b).1 c⟩, fun c => ⟨fun d => ⟨fxs_71 hW, (((h.2 a).2 b).2 c).1 d⟩, fun d => ⟨fxs_71 hW, (((h.2 a).2 b).2 c).2 d⟩⟩⟩⟩⟩
theorem vX12_rowOf_52 {mc ms : Nat} {X : Nat → zV} {Q : zQt} {M : zM} {s0 : Nat} {s0n : Nat} (hW : zFix M) (hs0 : zsh M s0 = some (3, s0n)) (h : Q (some (.ref s0)) M) : aX12_rowOf_52 mc ms X Q 0 0 [none, none] [.ref s0] M := h
theorem dX12_reached_0 : decode cX12_reached 0 = .ok (.aload_n 0, 1) := by decide +kernel
theorem dX12_reached_1 : decode cX12_reached 1 = .ok (.getfield 35, 3) := by decide +kernel
theorem dX12_reached_4 : decode cX12_reached 4 = .ok (.iload_n 1, 1) := by decide +kernel
theorem dX12_reached_5 : decode cX12_reached 5 = .ok (.iaload, 1) := by decide +kernel
theorem dX12_reached_6 : decode cX12_reached 6 = .ok (.ifCond .ne 7, 3) := by decide +kernel
theorem dX12_reached_9 : decode cX12_reached 9 = .ok (.aconst_null, 1) := by decide +kernel
theorem dX12_reached_10 : decode cX12_reached 10 = .ok (.goto 13, 3) := by decide +kernel
theorem dX12_reached_13 : decode cX12_reached 13 = .ok (.aload_n 0, 1) := by decide +kernel
theorem dX12_reached_14 : decode cX12_reached 14 = .ok (.aload_n 0, 1) := by decide +kernel
theorem dX12_reached_15 : decode cX12_reached 15 = .ok (.getfield 35, 3) := by decide +kernel
theorem dX12_reached_18 : decode cX12_reached 18 = .ok (.iload_n 1, 1) := by decide +kernel
theorem dX12_reached_19 : decode cX12_reached 19 = .ok (.iaload, 1) := by decide +kernel
theorem dX12_reached_20 : decode cX12_reached 20 = .ok (.invokevirtual 111, 3) := by decide +kernel
theorem dX12_reached_23 : decode cX12_reached 23 = .ok (.astore_n 3, 1) := by decide +kernel
theorem dX12_reached_24 : decode cX12_reached 24 = .ok (.aload_n 3, 1) := by decide +kernel
theorem dX12_reached_25 : decode cX12_reached 25 = .ok (.ifnonnull 7, 3) := by decide +kernel
theorem dX12_reached_28 : decode cX12_reached 28 = .ok (.iconst (-1), 1) := by decide +kernel
theorem dX12_reached_29 : decode cX12_reached 29 = .ok (.goto 34, 3) := by decide +kernel
theorem dX12_reached_32 : decode cX12_reached 32 = .ok (.aload_n 3, 1) := by decide +kernel
theorem dX12_reached_33 : decode cX12_reached 33 = .ok (.aload_n 0, 1) := by decide +kernel
theorem dX12_reached_34 : decode cX12_reached 34 = .ok (.aload_n 0, 1) := by decide +kernel
theorem dX12_reached_35 : decode cX12_reached 35 = .ok (.getfield 35, 3) := by decide +kernel
theorem dX12_reached_38 : decode cX12_reached 38 = .ok (.iload_n 1, 1) := by decide +kernel
theorem dX12_reached_39 : decode cX12_reached 39 = .ok (.iaload, 1) := by decide +kernel
theorem dX12_reached_40 : decode cX12_reached 40 = .ok (.aload_n 0, 1) := by decide +kernel
theorem dX12_reached_41 : decode cX12_reached 41 = .ok (.getfield 38, 3) := by decide +kernel
theorem dX12_reached_44 : decode cX12_reached 44 = .ok (.iload_n 1, 1) := by decide +kernel
theorem dX12_reached_45 : decode cX12_reached 45 = .ok (.iaload, 1) := by decide +kernel
theorem dX12_reached_46 : decode cX12_reached 46 = .ok (.aload_n 0, 1) := by decide +kernel
theorem dX12_reached_47 : decode cX12_reached 47 = .ok (.getfield 41, 3) := by decide +kernel
theorem dX12_reached_50 : decode cX12_reached 50 = .ok (.iload_n 1, 1) := by decide +kernel
theorem dX12_reached_51 : decode cX12_reached 51 = .ok (.iaload, 1) := by decide +kernel
theorem dX12_reached_52 : decode cX12_reached 52 = .ok (.aload_n 0, 1) := by decide +kernel
theorem dX12_reached_53 : decode cX12_reached 53 = .ok (.getfield 44, 3) := by decide +kernel
theorem dX12_reached_56 : decode cX12_reached 56 = .ok (.iload_n 1, 1) := by decide +kernel
theorem dX12_reached_57 : decode cX12_reached 57 = .ok (.iaload, 1) := by decide +kernel
theorem dX12_reached_58 : decode cX12_reached 58 = .ok (.iload_n 2, 1) := by decide +kernel
theorem dX12_reached_59 : decode cX12_reached 59 = .ok (.invokevirtual 115, 3) := by decide +kernel
theorem dX12_reached_62 : decode cX12_reached 62 = .ok (.baload, 1) := by decide +kernel
theorem dX12_reached_63 : decode cX12_reached 63 = .ok (.ireturn, 1) := by decide +kernel
def kX12_reached_23 (mc ms : Nat) (X : Nat → zV) (Q : zQt) : zT :=
  zj X 23 [0, 1, 2]
def kX12_reached_62 (mc ms : Nat) (X : Nat → zV) (Q : zQt) : zT :=
  zal 3 <| zj X 63 []
def aX12_reached_0 (mc ms : Nat) (X : Nat → zV) (Q : zQt) : zT :=
  zla 0 <| zgR 12 13 <| zli 1 <| zal 1 <| zif (fun x => x = 0) (zc .null <| zj X 23 [0, 1, 2]) <| zla 0 <| zla 0 <| zgR 12 13 <| zli 1 <| zal 1 <| zcv mc ms 12 1 wX12_rowOf <| kX12_reached_23 mc ms X Q
def aX12_reached_23 (mc ms : Nat) (X : Nat → zV) (Q : zQt) : zT :=
  zsa 3 <| zla 3 <| znl (zc (.int (-1)) <| zj X 63 []) <| zla 3 <| zla 0 <| zla 0 <| zgR 12 13 <| zli 1 <| zal 1 <| zla 0 <| zgR 12 14 <| zli 1 <| zal 1 <| zla 0 <| zgR 12 15 <| zli 1 <| zal 1 <| zla 0 <| zgR 12 16 <| zli 1 <| zal 1 <| zli 2 <| zcv mc ms 12 5 wX12_place <| kX12_reached_62 mc ms X Q
def aX12_reached_63 (mc ms : Nat) (X : Nat → zV) (Q : zQt) : zT :=
  zri Q
def lvX12_reached : Nat → List Nat := fun L => match L with
  | 0 => [0, 1, 2]
  | 23 => [0, 1, 2]
  | 63 => []
  | _ => []
def wX12_reached : zSp := fun mc ms av M Q => ((zlay av).length ≤ 4 ∧ zpick (zlay av) [0, 1, 2] = some av) ∧ ∀ X : Nat → zV, zin 4 [0, 1, 2] (aX12_reached_0 mc ms X Q) X 0 → zin 4 [0, 1, 2] (aX12_reached_23 mc ms X Q) X 23 → zin 4 [] (aX12_reached_63 mc ms X Q) X 63 → X 0 0 0 av [] M
set_option maxRecDepth 100000 in
set_option maxHeartbeats 4000000 in
theorem sX12_reached (l : Launch) (G : zG) : zSnd l G yX12_reached cX12_reached 4 (some .int) 1 28 wX12_reached := by
  refine zmk [0, 1, 2] (by decide) (fun mc ms av M Q h => h.1) ?_
  intro p e R s m args below meth c mc ms av M Q hC hRf hRl hr hnm h lv hlv
  obtain ⟨X, hXe⟩ : ∃ X : Nat → zV, X = fun L u v vs st M => ∀ lv, zpick lv (lvX12_reached L) = some vs → zAt p l e R s m args below meth c (MQ below (zQ G Q) args s mc ms (zA G)) G 4 L u v lv st M := ⟨_, rfl⟩
  have hJ : ∀ L, zOk p l e R s m args below meth c (MQ below (zQ G Q) args s mc ms (zA G)) G 4 L (zj X L (lvX12_reached L)) := fun L => S_jump (fun u v lv vs st M hp hx => by rw [hXe] at hx; exact hx lv hp)
  have hB0 : zin 4 [0, 1, 2] (aX12_reached_0 mc ms X Q) X 0 := by
    intro u v vs st M hb
    rw [hXe]
    refine fun lv hp => S_block (L := 0) (live := [0, 1, 2]) ?_ u v lv vs st M hp hb
    unfold aX12_reached_0
    refine S_aload_n (pc := 0) hC dX12_reached_0 rfl ?_
    refine S_getR (pc := 1) hC cfX12 (by decide) (Or.inr ⟨_, rfl⟩) wd_1215 dX12_reached_1 ?_
    refine S_iload_n (pc := 4) hC dX12_reached_4 rfl ?_
    refine S_iaload (pc := 5) hC dX12_reached_5 ?_
    refine S_if_ne (pc := 6) (tgt := 13) hC dX12_reached_6 (by decide) ?_ ?_
    · refine S_aload_n (pc := 13) hC dX12_reached_13 rfl ?_
      refine S_aload_n (pc := 14) hC dX12_reached_14 rfl ?_
      refine S_getR (pc := 15) hC cfX12 (by decide) (Or.inr ⟨_, rfl⟩) wd_1215 dX12_reached_15 ?_
      refine S_iload_n (pc := 18) hC dX12_reached_18 rfl ?_
      refine S_iaload (pc := 19) hC dX12_reached_19 ?_
      refine S_callV (pc := 20) hC (sX12_rowOf l G) rfl wd_1767 wd_1769 ws_135 wd_13 wd_1770 (by decide +kernel) ⟨by rw [hRf]; decide, by rw [hRl]; decide⟩ dX12_reached_20 ?_
      unfold kX12_reached_23
      exact hJ 23
    · refine S_null (pc := 9) hC dX12_reached_9 ?_
      refine S_goto (pc := 10) (tgt := 23) hC dX12_reached_10 (by decide) ?_
      exact hJ 23
  have hB23 : zin 4 [0, 1, 2] (aX12_reached_23 mc ms X Q) X 23 := by
    intro u v vs st M hb
    rw [hXe]
    refine fun lv hp => S_block (L := 23) (live := [0, 1, 2]) ?_ u v lv vs st M hp hb
    unfold aX12_reached_23
    refine S_astore_n (pc := 23) hC dX12_reached_23 rfl (by decide) ?_
    refine S_aload_n (pc := 24) hC dX12_reached_24 rfl ?_
    refine S_ifnonnull (pc := 25) (tgt := 32) hC dX12_reached_25 (by decide) ?_ ?_
    · refine S_aload_n (pc := 32) hC dX12_reached_32 rfl ?_
      refine S_aload_n (pc := 33) hC dX12_reached_33 rfl ?_
      refine S_aload_n (pc := 34) hC dX12_reached_34 rfl ?_
      refine S_getR (pc := 35) hC cfX12 (by decide) (Or.inr ⟨_, rfl⟩) wd_1215 dX12_reached_35 ?_
      refine S_iload_n (pc := 38) hC dX12_reached_38 rfl ?_
      refine S_iaload (pc := 39) hC dX12_reached_39 ?_
      refine S_aload_n (pc := 40) hC dX12_reached_40 rfl ?_
      refine S_getR (pc := 41) hC cfX12 (by decide) (Or.inr ⟨_, rfl⟩) wd_1216 dX12_reached_41 ?_
      refine S_iload_n (pc := 44) hC dX12_reached_44 rfl ?_
      refine S_iaload (pc := 45) hC dX12_reached_45 ?_
      refine S_aload_n (pc := 46) hC dX12_reached_46 rfl ?_
      refine S_getR (pc := 47) hC cfX12 (by decide) (Or.inr ⟨_, rfl⟩) wd_1217 dX12_reached_47 ?_
      refine S_iload_n (pc := 50) hC dX12_reached_50 rfl ?_
      refine S_iaload (pc := 51) hC dX12_reached_51 ?_
      refine S_aload_n (pc := 52) hC dX12_reached_52 rfl ?_
      refine S_getR (pc := 53) hC cfX12 (by decide) (Or.inr ⟨_, rfl⟩) wd_1218 dX12_reached_53 ?_
      refine S_iload_n (pc := 56) hC dX12_reached_56 rfl ?_
      refine S_iaload (pc := 57) hC dX12_reached_57 ?_
      refine S_iload_n (pc := 58) hC dX12_reached_58 rfl ?_
      refine S_callV (pc := 59) hC (sX12_place l G) rfl wd_1704 wd_1706 ws_120 wd_13 wd_1707 (by decide +kernel) ⟨by rw [hRf]; decide, by rw [hRl]; decide⟩ dX12_reached_59 ?_
      unfold kX12_reached_62
      refine S_baload (pc := 62) hC dX12_reached_62 ?_
      exact hJ 63
    · refine S_iconst (pc := 28) hC dX12_reached_28 (by decide) ?_
      refine S_goto (pc := 29) (tgt := 63) hC dX12_reached_29 (by decide) ?_
      exact hJ 63
  have hB63 : zin 4 [] (aX12_reached_63 mc ms X Q) X 63 := by
    intro u v vs st M hb
    rw [hXe]
    refine fun lv hp => S_block (L := 63) (live := []) ?_ u v lv vs st M hp hb
    unfold aX12_reached_63
    exact S_ireturn (pc := 63) hC hr dX12_reached_63
  have := h.2 X hB0 hB23 hB63
  rw [hXe] at this
  exact this lv hlv
theorem vX12_reached_0 {mc ms : Nat} {X : Nat → zV} {Q : zQt} {M : zM} {x1 : Int32} {x2 : Int32} (hW : zFix M)  (h : vp_in x1 64 ∧ (((M : zM).1 77 (x1 : Int32).toNatClampNeg) = 0 → X 23 0 0 [.ref 71, .int x1, .int x2] [.null] M) ∧ (¬ ((M : zM).1 77 (x1 : Int32).toNatClampNeg) = 0 → vp_in x1 64 ∧ wX12_rowOf 0 0 [.ref 71, .int ((M : zM).1 77 (x1 : Int32).toNatClampNeg)] M (fun r M1 => kX12_reached_23 mc ms X Q 0 0 [some (.ref 71), some (.int x1), some (.int x2), none] (r.toList ++ []) M1))) : aX12_reached_0 mc ms X Q 0 0 [some (.ref 71), some (.int x1), some (.int x2), none] [] M := ⟨(fxs_71 hW), 77, (fxr_71_13 hW), ⟨64, (fxs_77 hW), h.1, ⟨fun c6 => (h.2.1 c6), fun c6 => ⟨(fxs_71 hW), 77, (fxr_71_13 hW), ⟨64, (fxs_77 hW), (h.2.2 c6).1, ⟨Nat.le_of_ble_eq_true rfl, rfl, (fxs_71 hW), 0, 0, Nat.zero_le _, Nat.zero_le _, (h.2.2 c6).2⟩⟩⟩⟩⟩⟩
theorem vX12_reached_23 {mc ms : Nat} {X : Nat → zV} {Q : zQt} {M : zM} {x1 : Int32} {x2 : Int32} {s0 : Nat} {s0n : Nat} (hW : zFix M) (hs0 : zsh M s0 = some (3, s0n)) (h : vp_in x1 64 ∧ vp_in x1 64 ∧ vp_in x1 64 ∧ vp_in x1 64 ∧ wX12_place 0 0 [.ref 71, .int ((M : zM).1 77 (x1 : Int32).toNatClampNeg), .int ((M : zM).1 78 (x1 : Int32).toNatClampNeg), .int ((M : zM).1 79 (x1 : Int32).toNatClampNeg), .int ((M : zM).1 80 (x1 : Int32).toNatClampNeg), .int x2] M (fun r M1 => kX12_reached_62 mc ms X Q 0 0 [some (.ref 71), some (.int x1), some (.int x2), some (.ref s0)] (r.toList ++ [.ref s0]) M1)) : aX12_reached_23 mc ms X Q 0 0 [some (.ref 71), some (.int x1), some (.int x2), none] [.ref s0] M := ⟨(fxs_71 hW), 77, (fxr_71_13 hW), ⟨64, (fxs_77 hW), h.1, ⟨(fxs_71 hW), 78, (fxr_71_14 hW), ⟨64, (fxs_78 hW), h.2.1, ⟨(fxs_71 hW), 79, (fxr_71_15 hW), ⟨64, (fxs_79 hW), h.2.2.1, ⟨(fxs_71 hW), 80, (fxr_71_16 hW), ⟨64, (fxs_80 hW), h.2.2.2.1, ⟨Nat.le_of_ble_eq_true rfl, rfl, (fxs_71 hW), 0, 0, Nat.zero_le _, Nat.zero_le _, h.2.2.2.2⟩⟩⟩⟩⟩⟩⟩⟩⟩
theorem vX12_reached_63 {mc ms : Nat} {X : Nat → zV} {Q : zQt} {M : zM} {s0 : Int32} (hW : zFix M)  (h : Q (some (.int s0)) M) : aX12_reached_63 mc ms X Q 0 0 [none, none, none, none] [.int s0] M := h
theorem vkX12_reached_23 {mc ms : Nat} {X : Nat → zV} {Q : zQt} {M : zM} {x1 : Int32} {x2 : Int32} {s0 : Nat} {s0n : Nat} (hW : zFix M) (hs0 : zsh M s0 = some (3, s0n)) (h : X 23 0 0 [.ref 71, .int x1, .int x2] [.ref s0] M) : kX12_reached_23 mc ms X Q 0 0 [some (.ref 71), some (.int x1), some (.int x2), none] [.ref s0] M := h
theorem vkX12_reached_62 {mc ms : Nat} {X : Nat → zV} {Q : zQt} {M : zM} {x1 : Int32} {x2 : Int32} {x3 : Nat} {x3n : Nat} {s0 : Int32} {s1 : Nat} {s1n : Nat} (hW : zFix M) (hx3 : zsh M x3 = some (3, x3n)) (hs1 : zsh M s1 = some (3, s1n)) (h : vp_in s0 s1n ∧ X 63 0 0 [] [.int ((M : zM).1 s1 (s0 : Int32).toNatClampNeg)] M) : kX12_reached_62 mc ms X Q 0 0 [some (.ref 71), some (.int x1), some (.int x2), some (.ref x3)] [.int s0, .ref s1] M := ⟨s1n, hs1, h.1, h.2⟩
theorem dX12_keep_0 : decode cX12_keep 0 = .ok (.aload_n 0, 1) := by decide +kernel
theorem dX12_keep_1 : decode cX12_keep 1 = .ok (.iload_n 1, 1) := by decide +kernel
theorem dX12_keep_2 : decode cX12_keep 2 = .ok (.iconst 1, 1) := by decide +kernel
theorem dX12_keep_3 : decode cX12_keep 3 = .ok (.if_icmp .ne 7, 3) := by decide +kernel
theorem dX12_keep_6 : decode cX12_keep 6 = .ok (.aload_n 2, 1) := by decide +kernel
theorem dX12_keep_7 : decode cX12_keep 7 = .ok (.goto 7, 3) := by decide +kernel
theorem dX12_keep_10 : decode cX12_keep 10 = .ok (.aload_n 0, 1) := by decide +kernel
theorem dX12_keep_11 : decode cX12_keep 11 = .ok (.getfield 95, 3) := by decide +kernel
theorem dX12_keep_14 : decode cX12_keep 14 = .ok (.putfield 95, 3) := by decide +kernel
theorem dX12_keep_17 : decode cX12_keep 17 = .ok (.aload_n 0, 1) := by decide +kernel
theorem dX12_keep_18 : decode cX12_keep 18 = .ok (.iload_n 1, 1) := by decide +kernel
theorem dX12_keep_19 : decode cX12_keep 19 = .ok (.iconst 2, 1) := by decide +kernel
theorem dX12_keep_20 : decode cX12_keep 20 = .ok (.if_icmp .ne 7, 3) := by decide +kernel
theorem dX12_keep_23 : decode cX12_keep 23 = .ok (.aload_n 2, 1) := by decide +kernel
theorem dX12_keep_24 : decode cX12_keep 24 = .ok (.goto 7, 3) := by decide +kernel
theorem dX12_keep_27 : decode cX12_keep 27 = .ok (.aload_n 0, 1) := by decide +kernel
theorem dX12_keep_28 : decode cX12_keep 28 = .ok (.getfield 99, 3) := by decide +kernel
theorem dX12_keep_31 : decode cX12_keep 31 = .ok (.putfield 99, 3) := by decide +kernel
theorem dX12_keep_34 : decode cX12_keep 34 = .ok (.aload_n 0, 1) := by decide +kernel
theorem dX12_keep_35 : decode cX12_keep 35 = .ok (.iload_n 1, 1) := by decide +kernel
theorem dX12_keep_36 : decode cX12_keep 36 = .ok (.iconst 3, 1) := by decide +kernel
theorem dX12_keep_37 : decode cX12_keep 37 = .ok (.if_icmp .ne 7, 3) := by decide +kernel
theorem dX12_keep_40 : decode cX12_keep 40 = .ok (.aload_n 2, 1) := by decide +kernel
theorem dX12_keep_41 : decode cX12_keep 41 = .ok (.goto 7, 3) := by decide +kernel
theorem dX12_keep_44 : decode cX12_keep 44 = .ok (.aload_n 0, 1) := by decide +kernel
theorem dX12_keep_45 : decode cX12_keep 45 = .ok (.getfield 102, 3) := by decide +kernel
theorem dX12_keep_48 : decode cX12_keep 48 = .ok (.putfield 102, 3) := by decide +kernel
theorem dX12_keep_51 : decode cX12_keep 51 = .ok (.aload_n 0, 1) := by decide +kernel
theorem dX12_keep_52 : decode cX12_keep 52 = .ok (.iload_n 1, 1) := by decide +kernel
theorem dX12_keep_53 : decode cX12_keep 53 = .ok (.iconst 4, 1) := by decide +kernel
theorem dX12_keep_54 : decode cX12_keep 54 = .ok (.if_icmp .ne 7, 3) := by decide +kernel
theorem dX12_keep_57 : decode cX12_keep 57 = .ok (.aload_n 2, 1) := by decide +kernel
theorem dX12_keep_58 : decode cX12_keep 58 = .ok (.goto 7, 3) := by decide +kernel
theorem dX12_keep_61 : decode cX12_keep 61 = .ok (.aload_n 0, 1) := by decide +kernel
theorem dX12_keep_62 : decode cX12_keep 62 = .ok (.getfield 105, 3) := by decide +kernel
theorem dX12_keep_65 : decode cX12_keep 65 = .ok (.putfield 105, 3) := by decide +kernel
theorem dX12_keep_68 : decode cX12_keep 68 = .ok (.aload_n 0, 1) := by decide +kernel
theorem dX12_keep_69 : decode cX12_keep 69 = .ok (.iload_n 1, 1) := by decide +kernel
theorem dX12_keep_70 : decode cX12_keep 70 = .ok (.iconst 5, 1) := by decide +kernel
theorem dX12_keep_71 : decode cX12_keep 71 = .ok (.if_icmp .ne 7, 3) := by decide +kernel
theorem dX12_keep_74 : decode cX12_keep 74 = .ok (.aload_n 2, 1) := by decide +kernel
theorem dX12_keep_75 : decode cX12_keep 75 = .ok (.goto 7, 3) := by decide +kernel
theorem dX12_keep_78 : decode cX12_keep 78 = .ok (.aload_n 0, 1) := by decide +kernel
theorem dX12_keep_79 : decode cX12_keep 79 = .ok (.getfield 108, 3) := by decide +kernel
theorem dX12_keep_82 : decode cX12_keep 82 = .ok (.putfield 108, 3) := by decide +kernel
theorem dX12_keep_85 : decode cX12_keep 85 = .ok (.return_, 1) := by decide +kernel
def aX12_keep_0 (mc ms : Nat) (X : Nat → zV) (Q : zQt) : zT :=
  zla 0 <| zli 1 <| zc (.int 1) <| zic (fun x y => x = y) (zla 2 <| zj X 14 [0, 1, 2]) <| zla 0 <| zgr 12 4 <| zj X 14 [0, 1, 2]
def aX12_keep_14 (mc ms : Nat) (X : Nat → zV) (Q : zQt) : zT :=
  zpr 12 4 <| zla 0 <| zli 1 <| zc (.int 2) <| zic (fun x y => x = y) (zla 2 <| zj X 31 [0, 1, 2]) <| zla 0 <| zgr 12 7 <| zj X 31 [0, 1, 2]
def aX12_keep_31 (mc ms : Nat) (X : Nat → zV) (Q : zQt) : zT :=
  zpr 12 7 <| zla 0 <| zli 1 <| zc (.int 3) <| zic (fun x y => x = y) (zla 2 <| zj X 48 [0, 1, 2]) <| zla 0 <| zgr 12 8 <| zj X 48 [0, 1, 2]
def aX12_keep_48 (mc ms : Nat) (X : Nat → zV) (Q : zQt) : zT :=
  zpr 12 8 <| zla 0 <| zli 1 <| zc (.int 4) <| zic (fun x y => x = y) (zla 2 <| zj X 65 [0, 1, 2]) <| zla 0 <| zgr 12 5 <| zj X 65 [0, 1, 2]
def aX12_keep_65 (mc ms : Nat) (X : Nat → zV) (Q : zQt) : zT :=
  zpr 12 5 <| zla 0 <| zli 1 <| zc (.int 5) <| zic (fun x y => x = y) (zla 2 <| zj X 82 []) <| zla 0 <| zgr 12 6 <| zj X 82 []
def aX12_keep_82 (mc ms : Nat) (X : Nat → zV) (Q : zQt) : zT :=
  zpr 12 6 <| zrv Q
def lvX12_keep : Nat → List Nat := fun L => match L with
  | 0 => [0, 1, 2]
  | 14 => [0, 1, 2]
  | 31 => [0, 1, 2]
  | 48 => [0, 1, 2]
  | 65 => [0, 1, 2]
  | 82 => []
  | _ => []
def wX12_keep : zSp := fun mc ms av M Q => ((zlay av).length ≤ 3 ∧ zpick (zlay av) [0, 1, 2] = some av) ∧ ∀ X : Nat → zV, zin 3 [0, 1, 2] (aX12_keep_0 mc ms X Q) X 0 → zin 3 [0, 1, 2] (aX12_keep_14 mc ms X Q) X 14 → zin 3 [0, 1, 2] (aX12_keep_31 mc ms X Q) X 31 → zin 3 [0, 1, 2] (aX12_keep_48 mc ms X Q) X 48 → zin 3 [0, 1, 2] (aX12_keep_65 mc ms X Q) X 65 → zin 3 [] (aX12_keep_82 mc ms X Q) X 82 → X 0 0 0 av [] M
set_option maxRecDepth 100000 in
set_option maxHeartbeats 4000000 in
theorem sX12_keep (l : Launch) (G : zG) : zSnd l G yX12_keep cX12_keep 3 none 0 0 wX12_keep := by
  refine zmk [0, 1, 2] (by decide) (fun mc ms av M Q h => h.1) ?_
  intro p e R s m args below meth c mc ms av M Q hC hRf hRl hr hnm h lv hlv
  obtain ⟨X, hXe⟩ : ∃ X : Nat → zV, X = fun L u v vs st M => ∀ lv, zpick lv (lvX12_keep L) = some vs → zAt p l e R s m args below meth c (MQ below (zQ G Q) args s mc ms (zA G)) G 3 L u v lv st M := ⟨_, rfl⟩
  have hJ : ∀ L, zOk p l e R s m args below meth c (MQ below (zQ G Q) args s mc ms (zA G)) G 3 L (zj X L (lvX12_keep L)) := fun L => S_jump (fun u v lv vs st M hp hx => by rw [hXe] at hx; exact hx lv hp)
  have hB0 : zin 3 [0, 1, 2] (aX12_keep_0 mc ms X Q) X 0 := by
    intro u v vs st M hb
    rw [hXe]
    refine fun lv hp => S_block (L := 0) (live := [0, 1, 2]) ?_ u v lv vs st M hp hb
    unfold aX12_keep_0
    refine S_aload_n (pc := 0) hC dX12_keep_0 rfl ?_
    refine S_iload_n (pc := 1) hC dX12_keep_1 rfl ?_
    refine S_iconst (pc := 2) hC dX12_keep_2 (by decide) ?_
    refine S_icmp_ne (pc := 3) (tgt := 10) hC dX12_keep_3 (by decide) ?_ ?_
    · refine S_aload_n (pc := 10) hC dX12_keep_10 rfl ?_
      refine S_getr (pc := 11) hC cfX12 (by decide) (Or.inr ⟨_, rfl⟩) wd_1206 dX12_keep_11 ?_
      exact hJ 14
    · refine S_aload_n (pc := 6) hC dX12_keep_6 rfl ?_
      refine S_goto (pc := 7) (tgt := 14) hC dX12_keep_7 (by decide) ?_
      exact hJ 14
  have hB14 : zin 3 [0, 1, 2] (aX12_keep_14 mc ms X Q) X 14 := by
    intro u v vs st M hb
    rw [hXe]
    refine fun lv hp => S_block (L := 14) (live := [0, 1, 2]) ?_ u v lv vs st M hp hb
    unfold aX12_keep_14
    refine S_putr (pc := 14) hC cfX12 (by decide) (Or.inr ⟨_, rfl⟩) (Or.inl rfl) wd_1206 dX12_keep_14 ?_
    refine S_aload_n (pc := 17) hC dX12_keep_17 rfl ?_
    refine S_iload_n (pc := 18) hC dX12_keep_18 rfl ?_
    refine S_iconst (pc := 19) hC dX12_keep_19 (by decide) ?_
    refine S_icmp_ne (pc := 20) (tgt := 27) hC dX12_keep_20 (by decide) ?_ ?_
    · refine S_aload_n (pc := 27) hC dX12_keep_27 rfl ?_
      refine S_getr (pc := 28) hC cfX12 (by decide) (Or.inr ⟨_, rfl⟩) wd_1209 dX12_keep_28 ?_
      exact hJ 31
    · refine S_aload_n (pc := 23) hC dX12_keep_23 rfl ?_
      refine S_goto (pc := 24) (tgt := 31) hC dX12_keep_24 (by decide) ?_
      exact hJ 31
  have hB31 : zin 3 [0, 1, 2] (aX12_keep_31 mc ms X Q) X 31 := by
    intro u v vs st M hb
    rw [hXe]
    refine fun lv hp => S_block (L := 31) (live := [0, 1, 2]) ?_ u v lv vs st M hp hb
    unfold aX12_keep_31
    refine S_putr (pc := 31) hC cfX12 (by decide) (Or.inr ⟨_, rfl⟩) (Or.inl rfl) wd_1209 dX12_keep_31 ?_
    refine S_aload_n (pc := 34) hC dX12_keep_34 rfl ?_
    refine S_iload_n (pc := 35) hC dX12_keep_35 rfl ?_
    refine S_iconst (pc := 36) hC dX12_keep_36 (by decide) ?_
    refine S_icmp_ne (pc := 37) (tgt := 44) hC dX12_keep_37 (by decide) ?_ ?_
    · refine S_aload_n (pc := 44) hC dX12_keep_44 rfl ?_
      refine S_getr (pc := 45) hC cfX12 (by decide) (Or.inr ⟨_, rfl⟩) wd_1210 dX12_keep_45 ?_
      exact hJ 48
    · refine S_aload_n (pc := 40) hC dX12_keep_40 rfl ?_
      refine S_goto (pc := 41) (tgt := 48) hC dX12_keep_41 (by decide) ?_
      exact hJ 48
  have hB48 : zin 3 [0, 1, 2] (aX12_keep_48 mc ms X Q) X 48 := by
    intro u v vs st M hb
    rw [hXe]
    refine fun lv hp => S_block (L := 48) (live := [0, 1, 2]) ?_ u v lv vs st M hp hb
    unfold aX12_keep_48
    refine S_putr (pc := 48) hC cfX12 (by decide) (Or.inr ⟨_, rfl⟩) (Or.inl rfl) wd_1210 dX12_keep_48 ?_
    refine S_aload_n (pc := 51) hC dX12_keep_51 rfl ?_
    refine S_iload_n (pc := 52) hC dX12_keep_52 rfl ?_
    refine S_iconst (pc := 53) hC dX12_keep_53 (by decide) ?_
    refine S_icmp_ne (pc := 54) (tgt := 61) hC dX12_keep_54 (by decide) ?_ ?_
    · refine S_aload_n (pc := 61) hC dX12_keep_61 rfl ?_
      refine S_getr (pc := 62) hC cfX12 (by decide) (Or.inr ⟨_, rfl⟩) wd_1207 dX12_keep_62 ?_
      exact hJ 65
    · refine S_aload_n (pc := 57) hC dX12_keep_57 rfl ?_
      refine S_goto (pc := 58) (tgt := 65) hC dX12_keep_58 (by decide) ?_
      exact hJ 65
  have hB65 : zin 3 [0, 1, 2] (aX12_keep_65 mc ms X Q) X 65 := by
    intro u v vs st M hb
    rw [hXe]
    refine fun lv hp => S_block (L := 65) (live := [0, 1, 2]) ?_ u v lv vs st M hp hb
    unfold aX12_keep_65
    refine S_putr (pc := 65) hC cfX12 (by decide) (Or.inr ⟨_, rfl⟩) (Or.inl rfl) wd_1207 dX12_keep_65 ?_
    refine S_aload_n (pc := 68) hC dX12_keep_68 rfl ?_
    refine S_iload_n (pc := 69) hC dX12_keep_69 rfl ?_
    refine S_iconst (pc := 70) hC dX12_keep_70 (by decide) ?_
    refine S_icmp_ne (pc := 71) (tgt := 78) hC dX12_keep_71 (by decide) ?_ ?_
    · refine S_aload_n (pc := 78) hC dX12_keep_78 rfl ?_
      refine S_getr (pc := 79) hC cfX12 (by decide) (Or.inr ⟨_, rfl⟩) wd_1208 dX12_keep_79 ?_
      exact hJ 82
    · refine S_aload_n (pc := 74) hC dX12_keep_74 rfl ?_
      refine S_goto (pc := 75) (tgt := 82) hC dX12_keep_75 (by decide) ?_
      exact hJ 82
  have hB82 : zin 3 [] (aX12_keep_82 mc ms X Q) X 82 := by
    intro u v vs st M hb
    rw [hXe]
    refine fun lv hp => S_block (L := 82) (live := []) ?_ u v lv vs st M hp hb
    unfold aX12_keep_82
    refine S_putr (pc := 82) hC cfX12 (by decide) (Or.inr ⟨_, rfl⟩) (Or.inl rfl) wd_1208 dX12_keep_82 ?_
    exact S_vreturn (pc := 85) hC hr dX12_keep_85
  have := h.2 X hB0 hB14 hB31 hB48 hB65 hB82
  rw [hXe] at this
  exact this lv hlv
theorem dX12_distanceOf_0 : decode cX12_distanceOf 0 = .ok (.aload_n 0, 1) := by decide +kernel
theorem dX12_distanceOf_1 : decode cX12_distanceOf 1 = .ok (.iload_n 1, 1) := by decide +kernel
theorem dX12_distanceOf_2 : decode cX12_distanceOf 2 = .ok (.invokevirtual 111, 3) := by decide +kernel
theorem dX12_distanceOf_5 : decode cX12_distanceOf 5 = .ok (.astore 6, 2) := by decide +kernel
theorem dX12_distanceOf_7 : decode cX12_distanceOf 7 = .ok (.aload 6, 2) := by decide +kernel
theorem dX12_distanceOf_9 : decode cX12_distanceOf 9 = .ok (.ifnonnull 7, 3) := by decide +kernel
theorem dX12_distanceOf_12 : decode cX12_distanceOf 12 = .ok (.iconst (-1), 1) := by decide +kernel
theorem dX12_distanceOf_13 : decode cX12_distanceOf 13 = .ok (.goto 17, 3) := by decide +kernel
theorem dX12_distanceOf_16 : decode cX12_distanceOf 16 = .ok (.aload 6, 2) := by decide +kernel
theorem dX12_distanceOf_18 : decode cX12_distanceOf 18 = .ok (.aload_n 0, 1) := by decide +kernel
theorem dX12_distanceOf_19 : decode cX12_distanceOf 19 = .ok (.iload_n 1, 1) := by decide +kernel
theorem dX12_distanceOf_20 : decode cX12_distanceOf 20 = .ok (.iload_n 2, 1) := by decide +kernel
theorem dX12_distanceOf_21 : decode cX12_distanceOf 21 = .ok (.iload_n 3, 1) := by decide +kernel
theorem dX12_distanceOf_22 : decode cX12_distanceOf 22 = .ok (.iload 4, 2) := by decide +kernel
theorem dX12_distanceOf_24 : decode cX12_distanceOf 24 = .ok (.iload 5, 2) := by decide +kernel
theorem dX12_distanceOf_26 : decode cX12_distanceOf 26 = .ok (.invokevirtual 115, 3) := by decide +kernel
theorem dX12_distanceOf_29 : decode cX12_distanceOf 29 = .ok (.baload, 1) := by decide +kernel
theorem dX12_distanceOf_30 : decode cX12_distanceOf 30 = .ok (.ireturn, 1) := by decide +kernel
def kX12_distanceOf_29 (mc ms : Nat) (X : Nat → zV) (Q : zQt) : zT :=
  zal 3 <| zj X 30 []
def kX12_distanceOf_5 (mc ms : Nat) (X : Nat → zV) (Q : zQt) : zT :=
  zsa 6 <| zla 6 <| znl (zc (.int (-1)) <| zj X 30 []) <| zla 6 <| zla 0 <| zli 1 <| zli 2 <| zli 3 <| zli 4 <| zli 5 <| zcv mc ms 12 5 wX12_place <| kX12_distanceOf_29 mc ms X Q
def aX12_distanceOf_0 (mc ms : Nat) (X : Nat → zV) (Q : zQt) : zT :=
  zla 0 <| zli 1 <| zcv mc ms 12 1 wX12_rowOf <| kX12_distanceOf_5 mc ms X Q
def aX12_distanceOf_30 (mc ms : Nat) (X : Nat → zV) (Q : zQt) : zT :=
  zri Q
def lvX12_distanceOf : Nat → List Nat := fun L => match L with
  | 0 => [0, 1, 2, 3, 4, 5]
  | 30 => []
  | _ => []
def wX12_distanceOf : zSp := fun mc ms av M Q => ((zlay av).length ≤ 7 ∧ zpick (zlay av) [0, 1, 2, 3, 4, 5] = some av) ∧ ∀ X : Nat → zV, zin 7 [0, 1, 2, 3, 4, 5] (aX12_distanceOf_0 mc ms X Q) X 0 → zin 7 [] (aX12_distanceOf_30 mc ms X Q) X 30 → X 0 0 0 av [] M
set_option maxRecDepth 100000 in
set_option maxHeartbeats 4000000 in
theorem sX12_distanceOf (l : Launch) (G : zG) : zSnd l G yX12_distanceOf cX12_distanceOf 7 (some .int) 1 28 wX12_distanceOf := by
  refine zmk [0, 1, 2, 3, 4, 5] (by decide) (fun mc ms av M Q h => h.1) ?_
  intro p e R s m args below meth c mc ms av M Q hC hRf hRl hr hnm h lv hlv
  obtain ⟨X, hXe⟩ : ∃ X : Nat → zV, X = fun L u v vs st M => ∀ lv, zpick lv (lvX12_distanceOf L) = some vs → zAt p l e R s m args below meth c (MQ below (zQ G Q) args s mc ms (zA G)) G 7 L u v lv st M := ⟨_, rfl⟩
  have hJ : ∀ L, zOk p l e R s m args below meth c (MQ below (zQ G Q) args s mc ms (zA G)) G 7 L (zj X L (lvX12_distanceOf L)) := fun L => S_jump (fun u v lv vs st M hp hx => by rw [hXe] at hx; exact hx lv hp)
  have hB0 : zin 7 [0, 1, 2, 3, 4, 5] (aX12_distanceOf_0 mc ms X Q) X 0 := by
    intro u v vs st M hb
    rw [hXe]
    refine fun lv hp => S_block (L := 0) (live := [0, 1, 2, 3, 4, 5]) ?_ u v lv vs st M hp hb
    unfold aX12_distanceOf_0
    refine S_aload_n (pc := 0) hC dX12_distanceOf_0 rfl ?_
    refine S_iload_n (pc := 1) hC dX12_distanceOf_1 rfl ?_
    refine S_callV (pc := 2) hC (sX12_rowOf l G) rfl wd_1767 wd_1769 ws_135 wd_13 wd_1770 (by decide +kernel) ⟨by rw [hRf]; decide, by rw [hRl]; decide⟩ dX12_distanceOf_2 ?_
    unfold kX12_distanceOf_5
    refine S_astore (pc := 5) hC dX12_distanceOf_5 (by decide) ?_
    refine S_aload (pc := 7) hC dX12_distanceOf_7 ?_
    refine S_ifnonnull (pc := 9) (tgt := 16) hC dX12_distanceOf_9 (by decide) ?_ ?_
    · refine S_aload (pc := 16) hC dX12_distanceOf_16 ?_
      refine S_aload_n (pc := 18) hC dX12_distanceOf_18 rfl ?_
      refine S_iload_n (pc := 19) hC dX12_distanceOf_19 rfl ?_
      refine S_iload_n (pc := 20) hC dX12_distanceOf_20 rfl ?_
      refine S_iload_n (pc := 21) hC dX12_distanceOf_21 rfl ?_
      refine S_iload (pc := 22) hC dX12_distanceOf_22 ?_
      refine S_iload (pc := 24) hC dX12_distanceOf_24 ?_
      refine S_callV (pc := 26) hC (sX12_place l G) rfl wd_1704 wd_1706 ws_120 wd_13 wd_1707 (by decide +kernel) ⟨by rw [hRf]; decide, by rw [hRl]; decide⟩ dX12_distanceOf_26 ?_
      unfold kX12_distanceOf_29
      refine S_baload (pc := 29) hC dX12_distanceOf_29 ?_
      exact hJ 30
    · refine S_iconst (pc := 12) hC dX12_distanceOf_12 (by decide) ?_
      refine S_goto (pc := 13) (tgt := 30) hC dX12_distanceOf_13 (by decide) ?_
      exact hJ 30
  have hB30 : zin 7 [] (aX12_distanceOf_30 mc ms X Q) X 30 := by
    intro u v vs st M hb
    rw [hXe]
    refine fun lv hp => S_block (L := 30) (live := []) ?_ u v lv vs st M hp hb
    unfold aX12_distanceOf_30
    exact S_ireturn (pc := 30) hC hr dX12_distanceOf_30
  have := h.2 X hB0 hB30
  rw [hXe] at this
  exact this lv hlv
theorem vX12_distanceOf_0 {mc ms : Nat} {X : Nat → zV} {Q : zQt} {M : zM} {x1 : Int32} {x2 : Int32} {x3 : Int32} {x4 : Int32} {x5 : Int32} (hW : zFix M)  (h : wX12_rowOf 0 0 [.ref 71, .int x1] M (fun r M1 => kX12_distanceOf_5 mc ms X Q 0 0 [some (.ref 71), some (.int x1), some (.int x2), some (.int x3), some (.int x4), some (.int x5), none] (r.toList ++ []) M1)) : aX12_distanceOf_0 mc ms X Q 0 0 [some (.ref 71), some (.int x1), some (.int x2), some (.int x3), some (.int x4), some (.int x5), none] [] M := ⟨Nat.le_of_ble_eq_true rfl, rfl, (fxs_71 hW), 0, 0, Nat.zero_le _, Nat.zero_le _, h⟩
theorem vX12_distanceOf_30 {mc ms : Nat} {X : Nat → zV} {Q : zQt} {M : zM} {s0 : Int32} (hW : zFix M)  (h : Q (some (.int s0)) M) : aX12_distanceOf_30 mc ms X Q 0 0 [none, none, none, none, none, none, none] [.int s0] M := h
theorem vkX12_distanceOf_5 {mc ms : Nat} {X : Nat → zV} {Q : zQt} {M : zM} {x1 : Int32} {x2 : Int32} {x3 : Int32} {x4 : Int32} {x5 : Int32} {s0 : Nat} {s0n : Nat} (hW : zFix M) (hs0 : zsh M s0 = some (3, s0n)) (h : wX12_place 0 0 [.ref 71, .int x1, .int x2, .int x3, .int x4, .int x5] M (fun r M1 => kX12_distanceOf_29 mc ms X Q 0 0 [some (.ref 71), some (.int x1), some (.int x2), some (.int x3), some (.int x4), some (.int x5), some (.ref s0)] (r.toList ++ [.ref s0]) M1)) : kX12_distanceOf_5 mc ms X Q 0 0 [some (.ref 71), some (.int x1), some (.int x2), some (.int x3), some (.int x4), some (.int x5), none] [.ref s0] M := ⟨Nat.le_of_ble_eq_true rfl, rfl, (fxs_71 hW), 0, 0, Nat.zero_le _, Nat.zero_le _, h⟩
theorem vkX12_distanceOf_29 {mc ms : Nat} {X : Nat → zV} {Q : zQt} {M : zM} {x1 : Int32} {x2 : Int32} {x3 : Int32} {x4 : Int32} {x5 : Int32} {x6 : Nat} {x6n : Nat} {s0 : Int32} {s1 : Nat} {s1n : Nat} (hW : zFix M) (hx6 : zsh M x6 = some (3, x6n)) (hs1 : zsh M s1 = some (3, s1n)) (h : vp_in s0 s1n ∧ X 30 0 0 [] [.int ((M : zM).1 s1 (s0 : Int32).toNatClampNeg)] M) : kX12_distanceOf_29 mc ms X Q 0 0 [some (.ref 71), some (.int x1), some (.int x2), some (.int x3), some (.int x4), some (.int x5), some (.ref x6)] [.int s0, .ref s1] M := ⟨s1n, hs1, h.1, h.2⟩
theorem dX13_thrown_0 : decode cX13_thrown 0 = .ok (.aload_n 0, 1) := by decide +kernel
theorem dX13_thrown_1 : decode cX13_thrown 1 = .ok (.getfield 68, 3) := by decide +kernel
theorem dX13_thrown_4 : decode cX13_thrown 4 = .ok (.ireturn, 1) := by decide +kernel
def aX13_thrown_0 (mc ms : Nat) (X : Nat → zV) (Q : zQt) : zT :=
  zla 0 <| zgi 13 0 <| zri Q
def lvX13_thrown : Nat → List Nat := fun L => match L with
  | 0 => [0]
  | _ => []
def wX13_thrown : zSp := fun mc ms av M Q => ((zlay av).length ≤ 1 ∧ zpick (zlay av) [0] = some av) ∧ ∀ X : Nat → zV, zin 1 [0] (aX13_thrown_0 mc ms X Q) X 0 → X 0 0 0 av [] M
set_option maxRecDepth 100000 in
set_option maxHeartbeats 4000000 in
theorem sX13_thrown (l : Launch) (G : zG) : zSnd l G yX13_thrown cX13_thrown 1 (some .int) 0 0 wX13_thrown := by
  refine zmk [0] (by decide) (fun mc ms av M Q h => h.1) ?_
  intro p e R s m args below meth c mc ms av M Q hC hRf hRl hr hnm h lv hlv
  obtain ⟨X, hXe⟩ : ∃ X : Nat → zV, X = fun L u v vs st M => ∀ lv, zpick lv (lvX13_thrown L) = some vs → zAt p l e R s m args below meth c (MQ below (zQ G Q) args s mc ms (zA G)) G 1 L u v lv st M := ⟨_, rfl⟩
  have hJ : ∀ L, zOk p l e R s m args below meth c (MQ below (zQ G Q) args s mc ms (zA G)) G 1 L (zj X L (lvX13_thrown L)) := fun L => S_jump (fun u v lv vs st M hp hx => by rw [hXe] at hx; exact hx lv hp)
  have hB0 : zin 1 [0] (aX13_thrown_0 mc ms X Q) X 0 := by
    intro u v vs st M hb
    rw [hXe]
    refine fun lv hp => S_block (L := 0) (live := [0]) ?_ u v lv vs st M hp hb
    unfold aX13_thrown_0
    refine S_aload_n (pc := 0) hC dX13_thrown_0 rfl ?_
    refine S_geti (pc := 1) hC cfX13 (by decide) (Or.inl rfl) wd_1255 dX13_thrown_1 ?_
    exact S_ireturn (pc := 4) hC hr dX13_thrown_4
  have := h.2 X hB0
  rw [hXe] at this
  exact this lv hlv
theorem vX13_thrown_0 {mc ms : Nat} {X : Nat → zV} {Q : zQt} {M : zM}  (hW : zFix M)  (h : Q (some (.int ((M.1 55 0)))) M) : aX13_thrown_0 mc ms X Q 0 0 [some (.ref 55)] [] M := ⟨(fxs_55 hW), h⟩
theorem dX13_sideOf_0 : decode cX13_sideOf 0 = .ok (.iload_n 0, 1) := by decide +kernel
theorem dX13_sideOf_1 : decode cX13_sideOf 1 = .ok (.ifCond .ne 7, 3) := by decide +kernel
theorem dX13_sideOf_4 : decode cX13_sideOf 4 = .ok (.iconst (-1), 1) := by decide +kernel
theorem dX13_sideOf_5 : decode cX13_sideOf 5 = .ok (.goto 14, 3) := by decide +kernel
theorem dX13_sideOf_8 : decode cX13_sideOf 8 = .ok (.iload_n 0, 1) := by decide +kernel
theorem dX13_sideOf_9 : decode cX13_sideOf 9 = .ok (.bipush 7, 2) := by decide +kernel
theorem dX13_sideOf_11 : decode cX13_sideOf 11 = .ok (.if_icmp .ge 7, 3) := by decide +kernel
theorem dX13_sideOf_14 : decode cX13_sideOf 14 = .ok (.iconst 0, 1) := by decide +kernel
theorem dX13_sideOf_15 : decode cX13_sideOf 15 = .ok (.goto 4, 3) := by decide +kernel
theorem dX13_sideOf_18 : decode cX13_sideOf 18 = .ok (.iconst 1, 1) := by decide +kernel
theorem dX13_sideOf_19 : decode cX13_sideOf 19 = .ok (.ireturn, 1) := by decide +kernel
def aX13_sideOf_0 (mc ms : Nat) (X : Nat → zV) (Q : zQt) : zT :=
  zli 0 <| zif (fun x => x = 0) (zc (.int (-1)) <| zj X 19 []) <| zli 0 <| zc (.int 7) <| zic (fun x y => y ≤ x) (zc (.int 1) <| zj X 19 []) <| zc (.int 0) <| zj X 19 []
def aX13_sideOf_19 (mc ms : Nat) (X : Nat → zV) (Q : zQt) : zT :=
  zri Q
def lvX13_sideOf : Nat → List Nat := fun L => match L with
  | 0 => [0]
  | 19 => []
  | _ => []
def wX13_sideOf : zSp := fun mc ms av M Q => ((zlay av).length ≤ 1 ∧ zpick (zlay av) [0] = some av) ∧ ∀ X : Nat → zV, zin 1 [0] (aX13_sideOf_0 mc ms X Q) X 0 → zin 1 [] (aX13_sideOf_19 mc ms X Q) X 19 → X 0 0 0 av [] M
set_option maxRecDepth 100000 in
set_option maxHeartbeats 4000000 in
theorem sX13_sideOf (l : Launch) (G : zG) : zSnd l G yX13_sideOf cX13_sideOf 1 (some .int) 0 0 wX13_sideOf := by
  refine zmk [0] (by decide) (fun mc ms av M Q h => h.1) ?_
  intro p e R s m args below meth c mc ms av M Q hC hRf hRl hr hnm h lv hlv
  obtain ⟨X, hXe⟩ : ∃ X : Nat → zV, X = fun L u v vs st M => ∀ lv, zpick lv (lvX13_sideOf L) = some vs → zAt p l e R s m args below meth c (MQ below (zQ G Q) args s mc ms (zA G)) G 1 L u v lv st M := ⟨_, rfl⟩
  have hJ : ∀ L, zOk p l e R s m args below meth c (MQ below (zQ G Q) args s mc ms (zA G)) G 1 L (zj X L (lvX13_sideOf L)) := fun L => S_jump (fun u v lv vs st M hp hx => by rw [hXe] at hx; exact hx lv hp)
  have hB0 : zin 1 [0] (aX13_sideOf_0 mc ms X Q) X 0 := by
    intro u v vs st M hb
    rw [hXe]
    refine fun lv hp => S_block (L := 0) (live := [0]) ?_ u v lv vs st M hp hb
    unfold aX13_sideOf_0
    refine S_iload_n (pc := 0) hC dX13_sideOf_0 rfl ?_
    refine S_if_ne (pc := 1) (tgt := 8) hC dX13_sideOf_1 (by decide) ?_ ?_
    · refine S_iload_n (pc := 8) hC dX13_sideOf_8 rfl ?_
      refine S_bipush (pc := 9) hC dX13_sideOf_9 (by decide) ?_
      refine S_icmp_ge (pc := 11) (tgt := 18) hC dX13_sideOf_11 (by decide) ?_ ?_
      · refine S_iconst (pc := 18) hC dX13_sideOf_18 (by decide) ?_
        exact hJ 19
      · refine S_iconst (pc := 14) hC dX13_sideOf_14 (by decide) ?_
        refine S_goto (pc := 15) (tgt := 19) hC dX13_sideOf_15 (by decide) ?_
        exact hJ 19
    · refine S_iconst (pc := 4) hC dX13_sideOf_4 (by decide) ?_
      refine S_goto (pc := 5) (tgt := 19) hC dX13_sideOf_5 (by decide) ?_
      exact hJ 19
  have hB19 : zin 1 [] (aX13_sideOf_19 mc ms X Q) X 19 := by
    intro u v vs st M hb
    rw [hXe]
    refine fun lv hp => S_block (L := 19) (live := []) ?_ u v lv vs st M hp hb
    unfold aX13_sideOf_19
    exact S_ireturn (pc := 19) hC hr dX13_sideOf_19
  have := h.2 X hB0 hB19
  rw [hXe] at this
  exact this lv hlv
theorem vX13_sideOf_0 {mc ms : Nat} {X : Nat → zV} {Q : zQt} {M : zM} {x0 : Int32} (hW : zFix M)  (h : (x0 = 0 → X 19 0 0 [] [.int (-1)] M) ∧ (¬ x0 = 0 → ((7 : Int32) ≤ x0 → X 19 0 0 [] [.int 1] M) ∧ (¬ (7 : Int32) ≤ x0 → X 19 0 0 [] [.int 0] M))) : aX13_sideOf_0 mc ms X Q 0 0 [some (.int x0)] [] M := ⟨fun c1 => (h.1 c1), fun c1 => ⟨fun c11 => ((h.2 c1).1 c11), fun c11 => ((h.2 c1).2 c11)⟩⟩
theorem vX13_sideOf_19 {mc ms : Nat} {X : Nat → zV} {Q : zQt} {M : zM} {s0 : Int32} (hW : zFix M)  (h : Q (some (.int s0)) M) : aX13_sideOf_19 mc ms X Q 0 0 [none] [.int s0] M := h
theorem dX13_kindOf_0 : decode cX13_kindOf 0 = .ok (.iload_n 0, 1) := by decide +kernel
theorem dX13_kindOf_1 : decode cX13_kindOf 1 = .ok (.bipush 6, 2) := by decide +kernel
theorem dX13_kindOf_3 : decode cX13_kindOf 3 = .ok (.if_icmp .le 10, 3) := by decide +kernel
theorem dX13_kindOf_6 : decode cX13_kindOf 6 = .ok (.iload_n 0, 1) := by decide +kernel
theorem dX13_kindOf_7 : decode cX13_kindOf 7 = .ok (.bipush 6, 2) := by decide +kernel
theorem dX13_kindOf_9 : decode cX13_kindOf 9 = .ok (.isub, 1) := by decide +kernel
theorem dX13_kindOf_10 : decode cX13_kindOf 10 = .ok (.goto 4, 3) := by decide +kernel
theorem dX13_kindOf_13 : decode cX13_kindOf 13 = .ok (.iload_n 0, 1) := by decide +kernel
theorem dX13_kindOf_14 : decode cX13_kindOf 14 = .ok (.ireturn, 1) := by decide +kernel
def aX13_kindOf_0 (mc ms : Nat) (X : Nat → zV) (Q : zQt) : zT :=
  zli 0 <| zc (.int 6) <| zic (fun x y => x ≤ y) (zli 0 <| zj X 14 []) <| zli 0 <| zc (.int 6) <| zii (fun x y => x - y) <| zj X 14 []
def aX13_kindOf_14 (mc ms : Nat) (X : Nat → zV) (Q : zQt) : zT :=
  zri Q
def lvX13_kindOf : Nat → List Nat := fun L => match L with
  | 0 => [0]
  | 14 => []
  | _ => []
def wX13_kindOf : zSp := fun mc ms av M Q => ((zlay av).length ≤ 1 ∧ zpick (zlay av) [0] = some av) ∧ ∀ X : Nat → zV, zin 1 [0] (aX13_kindOf_0 mc ms X Q) X 0 → zin 1 [] (aX13_kindOf_14 mc ms X Q) X 14 → X 0 0 0 av [] M
set_option maxRecDepth 100000 in
set_option maxHeartbeats 4000000 in
theorem sX13_kindOf (l : Launch) (G : zG) : zSnd l G yX13_kindOf cX13_kindOf 1 (some .int) 0 0 wX13_kindOf := by
  refine zmk [0] (by decide) (fun mc ms av M Q h => h.1) ?_
  intro p e R s m args below meth c mc ms av M Q hC hRf hRl hr hnm h lv hlv
  obtain ⟨X, hXe⟩ : ∃ X : Nat → zV, X = fun L u v vs st M => ∀ lv, zpick lv (lvX13_kindOf L) = some vs → zAt p l e R s m args below meth c (MQ below (zQ G Q) args s mc ms (zA G)) G 1 L u v lv st M := ⟨_, rfl⟩
  have hJ : ∀ L, zOk p l e R s m args below meth c (MQ below (zQ G Q) args s mc ms (zA G)) G 1 L (zj X L (lvX13_kindOf L)) := fun L => S_jump (fun u v lv vs st M hp hx => by rw [hXe] at hx; exact hx lv hp)
  have hB0 : zin 1 [0] (aX13_kindOf_0 mc ms X Q) X 0 := by
    intro u v vs st M hb
    rw [hXe]
    refine fun lv hp => S_block (L := 0) (live := [0]) ?_ u v lv vs st M hp hb
    unfold aX13_kindOf_0
    refine S_iload_n (pc := 0) hC dX13_kindOf_0 rfl ?_
    refine S_bipush (pc := 1) hC dX13_kindOf_1 (by decide) ?_
    refine S_icmp_le (pc := 3) (tgt := 13) hC dX13_kindOf_3 (by decide) ?_ ?_
    · refine S_iload_n (pc := 13) hC dX13_kindOf_13 rfl ?_
      exact hJ 14
    · refine S_iload_n (pc := 6) hC dX13_kindOf_6 rfl ?_
      refine S_bipush (pc := 7) hC dX13_kindOf_7 (by decide) ?_
      refine S_isub (pc := 9) hC dX13_kindOf_9 ?_
      refine S_goto (pc := 10) (tgt := 14) hC dX13_kindOf_10 (by decide) ?_
      exact hJ 14
  have hB14 : zin 1 [] (aX13_kindOf_14 mc ms X Q) X 14 := by
    intro u v vs st M hb
    rw [hXe]
    refine fun lv hp => S_block (L := 14) (live := []) ?_ u v lv vs st M hp hb
    unfold aX13_kindOf_14
    exact S_ireturn (pc := 14) hC hr dX13_kindOf_14
  have := h.2 X hB0 hB14
  rw [hXe] at this
  exact this lv hlv
theorem vX13_kindOf_0 {mc ms : Nat} {X : Nat → zV} {Q : zQt} {M : zM} {x0 : Int32} (hW : zFix M)  (h : (x0 ≤ (6 : Int32) → X 14 0 0 [] [.int x0] M) ∧ (¬ x0 ≤ (6 : Int32) → X 14 0 0 [] [.int (x0 - (6 : Int32))] M)) : aX13_kindOf_0 mc ms X Q 0 0 [some (.int x0)] [] M := ⟨fun c3 => (h.1 c3), fun c3 => (h.2 c3)⟩
theorem vX13_kindOf_14 {mc ms : Nat} {X : Nat → zV} {Q : zQt} {M : zM} {s0 : Int32} (hW : zFix M)  (h : Q (some (.int s0)) M) : aX13_kindOf_14 mc ms X Q 0 0 [none] [.int s0] M := h
theorem dX13_amount_0 : decode cX13_amount 0 = .ok (.iload_n 0, 1) := by decide +kernel
theorem dX13_amount_1 : decode cX13_amount 1 = .ok (.ifCond .ge 8, 3) := by decide +kernel
theorem dX13_amount_4 : decode cX13_amount 4 = .ok (.iload_n 0, 1) := by decide +kernel
theorem dX13_amount_5 : decode cX13_amount 5 = .ok (.ineg, 1) := by decide +kernel
theorem dX13_amount_6 : decode cX13_amount 6 = .ok (.goto 4, 3) := by decide +kernel
theorem dX13_amount_9 : decode cX13_amount 9 = .ok (.iload_n 0, 1) := by decide +kernel
theorem dX13_amount_10 : decode cX13_amount 10 = .ok (.ireturn, 1) := by decide +kernel
def aX13_amount_0 (mc ms : Nat) (X : Nat → zV) (Q : zQt) : zT :=
  zli 0 <| zif (fun x => 0 ≤ x) (zli 0 <| zj X 10 []) <| zli 0 <| zi1 (fun x => -x) <| zj X 10 []
def aX13_amount_10 (mc ms : Nat) (X : Nat → zV) (Q : zQt) : zT :=
  zri Q
def lvX13_amount : Nat → List Nat := fun L => match L with
  | 0 => [0]
  | 10 => []
  | _ => []
def wX13_amount : zSp := fun mc ms av M Q => ((zlay av).length ≤ 1 ∧ zpick (zlay av) [0] = some av) ∧ ∀ X : Nat → zV, zin 1 [0] (aX13_amount_0 mc ms X Q) X 0 → zin 1 [] (aX13_amount_10 mc ms X Q) X 10 → X 0 0 0 av [] M
set_option maxRecDepth 100000 in
set_option maxHeartbeats 4000000 in
theorem sX13_amount (l : Launch) (G : zG) : zSnd l G yX13_amount cX13_amount 1 (some .int) 0 0 wX13_amount := by
  refine zmk [0] (by decide) (fun mc ms av M Q h => h.1) ?_
  intro p e R s m args below meth c mc ms av M Q hC hRf hRl hr hnm h lv hlv
  obtain ⟨X, hXe⟩ : ∃ X : Nat → zV, X = fun L u v vs st M => ∀ lv, zpick lv (lvX13_amount L) = some vs → zAt p l e R s m args below meth c (MQ below (zQ G Q) args s mc ms (zA G)) G 1 L u v lv st M := ⟨_, rfl⟩
  have hJ : ∀ L, zOk p l e R s m args below meth c (MQ below (zQ G Q) args s mc ms (zA G)) G 1 L (zj X L (lvX13_amount L)) := fun L => S_jump (fun u v lv vs st M hp hx => by rw [hXe] at hx; exact hx lv hp)
  have hB0 : zin 1 [0] (aX13_amount_0 mc ms X Q) X 0 := by
    intro u v vs st M hb
    rw [hXe]
    refine fun lv hp => S_block (L := 0) (live := [0]) ?_ u v lv vs st M hp hb
    unfold aX13_amount_0
    refine S_iload_n (pc := 0) hC dX13_amount_0 rfl ?_
    refine S_if_ge (pc := 1) (tgt := 9) hC dX13_amount_1 (by decide) ?_ ?_
    · refine S_iload_n (pc := 9) hC dX13_amount_9 rfl ?_
      exact hJ 10
    · refine S_iload_n (pc := 4) hC dX13_amount_4 rfl ?_
      refine S_ineg (pc := 5) hC dX13_amount_5 ?_
      refine S_goto (pc := 6) (tgt := 10) hC dX13_amount_6 (by decide) ?_
      exact hJ 10
  have hB10 : zin 1 [] (aX13_amount_10 mc ms X Q) X 10 := by
    intro u v vs st M hb
    rw [hXe]
    refine fun lv hp => S_block (L := 10) (live := []) ?_ u v lv vs st M hp hb
    unfold aX13_amount_10
    exact S_ireturn (pc := 10) hC hr dX13_amount_10
  have := h.2 X hB0 hB10
  rw [hXe] at this
  exact this lv hlv
theorem vX13_amount_0 {mc ms : Nat} {X : Nat → zV} {Q : zQt} {M : zM} {x0 : Int32} (hW : zFix M)  (h : (0 ≤ x0 → X 10 0 0 [] [.int x0] M) ∧ (¬ 0 ≤ x0 → X 10 0 0 [] [.int (-x0)] M)) : aX13_amount_0 mc ms X Q 0 0 [some (.int x0)] [] M := ⟨fun c1 => (h.1 c1), fun c1 => (h.2 c1)⟩
theorem vX13_amount_10 {mc ms : Nat} {X : Nat → zV} {Q : zQt} {M : zM} {s0 : Int32} (hW : zFix M)  (h : Q (some (.int s0)) M) : aX13_amount_10 mc ms X Q 0 0 [none] [.int s0] M := h
theorem dX13_attacks_0 : decode cX13_attacks 0 = .ok (.aload_n 0, 1) := by decide +kernel
theorem dX13_attacks_1 : decode cX13_attacks 1 = .ok (.getfield 43, 3) := by decide +kernel
theorem dX13_attacks_4 : decode cX13_attacks 4 = .ok (.iload_n 1, 1) := by decide +kernel
theorem dX13_attacks_5 : decode cX13_attacks 5 = .ok (.iload_n 2, 1) := by decide +kernel
theorem dX13_attacks_6 : decode cX13_attacks 6 = .ok (.iadd, 1) := by decide +kernel
theorem dX13_attacks_7 : decode cX13_attacks 7 = .ok (.iaload, 1) := by decide +kernel
theorem dX13_attacks_8 : decode cX13_attacks 8 = .ok (.istore 4, 2) := by decide +kernel
theorem dX13_attacks_10 : decode cX13_attacks 10 = .ok (.iload 4, 2) := by decide +kernel
theorem dX13_attacks_12 : decode cX13_attacks 12 = .ok (.invokestatic 71, 3) := by decide +kernel
theorem dX13_attacks_15 : decode cX13_attacks 15 = .ok (.istore 5, 2) := by decide +kernel
theorem dX13_attacks_17 : decode cX13_attacks 17 = .ok (.iload_n 3, 1) := by decide +kernel
theorem dX13_attacks_18 : decode cX13_attacks 18 = .ok (.bipush 8, 2) := by decide +kernel
theorem dX13_attacks_20 : decode cX13_attacks 20 = .ok (.irem, 1) := by decide +kernel
theorem dX13_attacks_21 : decode cX13_attacks 21 = .ok (.iload_n 2, 1) := by decide +kernel
theorem dX13_attacks_22 : decode cX13_attacks 22 = .ok (.bipush 8, 2) := by decide +kernel
theorem dX13_attacks_24 : decode cX13_attacks 24 = .ok (.irem, 1) := by decide +kernel
theorem dX13_attacks_25 : decode cX13_attacks 25 = .ok (.isub, 1) := by decide +kernel
theorem dX13_attacks_26 : decode cX13_attacks 26 = .ok (.istore 6, 2) := by decide +kernel
theorem dX13_attacks_28 : decode cX13_attacks 28 = .ok (.iload_n 3, 1) := by decide +kernel
theorem dX13_attacks_29 : decode cX13_attacks 29 = .ok (.bipush 8, 2) := by decide +kernel
theorem dX13_attacks_31 : decode cX13_attacks 31 = .ok (.idiv, 1) := by decide +kernel
theorem dX13_attacks_32 : decode cX13_attacks 32 = .ok (.iload_n 2, 1) := by decide +kernel
theorem dX13_attacks_33 : decode cX13_attacks 33 = .ok (.bipush 8, 2) := by decide +kernel
theorem dX13_attacks_35 : decode cX13_attacks 35 = .ok (.idiv, 1) := by decide +kernel
theorem dX13_attacks_36 : decode cX13_attacks 36 = .ok (.isub, 1) := by decide +kernel
theorem dX13_attacks_37 : decode cX13_attacks 37 = .ok (.istore 7, 2) := by decide +kernel
theorem dX13_attacks_39 : decode cX13_attacks 39 = .ok (.iload 6, 2) := by decide +kernel
theorem dX13_attacks_41 : decode cX13_attacks 41 = .ok (.invokestatic 75, 3) := by decide +kernel
theorem dX13_attacks_44 : decode cX13_attacks 44 = .ok (.istore 8, 2) := by decide +kernel
theorem dX13_attacks_46 : decode cX13_attacks 46 = .ok (.iload 7, 2) := by decide +kernel
theorem dX13_attacks_48 : decode cX13_attacks 48 = .ok (.invokestatic 75, 3) := by decide +kernel
theorem dX13_attacks_51 : decode cX13_attacks 51 = .ok (.istore 9, 2) := by decide +kernel
theorem dX13_attacks_53 : decode cX13_attacks 53 = .ok (.iload 5, 2) := by decide +kernel
theorem dX13_attacks_55 : decode cX13_attacks 55 = .ok (.ifCond .eq 8, 3) := by decide +kernel
theorem dX13_attacks_58 : decode cX13_attacks 58 = .ok (.iload_n 2, 1) := by decide +kernel
theorem dX13_attacks_59 : decode cX13_attacks 59 = .ok (.iload_n 3, 1) := by decide +kernel
theorem dX13_attacks_60 : decode cX13_attacks 60 = .ok (.if_icmp .ne 5, 3) := by decide +kernel
theorem dX13_attacks_63 : decode cX13_attacks 63 = .ok (.iconst 0, 1) := by decide +kernel
theorem dX13_attacks_64 : decode cX13_attacks 64 = .ok (.ireturn, 1) := by decide +kernel
theorem dX13_attacks_65 : decode cX13_attacks 65 = .ok (.iload 5, 2) := by decide +kernel
theorem dX13_attacks_67 : decode cX13_attacks 67 = .ok (.iconst 1, 1) := by decide +kernel
theorem dX13_attacks_68 : decode cX13_attacks 68 = .ok (.if_icmp .ne 31, 3) := by decide +kernel
theorem dX13_attacks_71 : decode cX13_attacks 71 = .ok (.iload 8, 2) := by decide +kernel
theorem dX13_attacks_73 : decode cX13_attacks 73 = .ok (.iconst 1, 1) := by decide +kernel
theorem dX13_attacks_74 : decode cX13_attacks 74 = .ok (.if_icmp .ne 23, 3) := by decide +kernel
theorem dX13_attacks_77 : decode cX13_attacks 77 = .ok (.iload 7, 2) := by decide +kernel
theorem dX13_attacks_79 : decode cX13_attacks 79 = .ok (.iload 4, 2) := by decide +kernel
theorem dX13_attacks_81 : decode cX13_attacks 81 = .ok (.iconst 1, 1) := by decide +kernel
theorem dX13_attacks_82 : decode cX13_attacks 82 = .ok (.if_icmp .ne 7, 3) := by decide +kernel
theorem dX13_attacks_85 : decode cX13_attacks 85 = .ok (.iconst 1, 1) := by decide +kernel
theorem dX13_attacks_86 : decode cX13_attacks 86 = .ok (.goto 4, 3) := by decide +kernel
theorem dX13_attacks_89 : decode cX13_attacks 89 = .ok (.iconst (-1), 1) := by decide +kernel
theorem dX13_attacks_90 : decode cX13_attacks 90 = .ok (.if_icmp .ne 7, 3) := by decide +kernel
theorem dX13_attacks_93 : decode cX13_attacks 93 = .ok (.iconst 1, 1) := by decide +kernel
theorem dX13_attacks_94 : decode cX13_attacks 94 = .ok (.goto 4, 3) := by decide +kernel
theorem dX13_attacks_97 : decode cX13_attacks 97 = .ok (.iconst 0, 1) := by decide +kernel
theorem dX13_attacks_98 : decode cX13_attacks 98 = .ok (.ireturn, 1) := by decide +kernel
theorem dX13_attacks_99 : decode cX13_attacks 99 = .ok (.iload 5, 2) := by decide +kernel
theorem dX13_attacks_101 : decode cX13_attacks 101 = .ok (.iconst 2, 1) := by decide +kernel
theorem dX13_attacks_102 : decode cX13_attacks 102 = .ok (.if_icmp .ne 18, 3) := by decide +kernel
theorem dX13_attacks_105 : decode cX13_attacks 105 = .ok (.iload 8, 2) := by decide +kernel
theorem dX13_attacks_107 : decode cX13_attacks 107 = .ok (.iload 9, 2) := by decide +kernel
theorem dX13_attacks_109 : decode cX13_attacks 109 = .ok (.imul, 1) := by decide +kernel
theorem dX13_attacks_110 : decode cX13_attacks 110 = .ok (.iconst 2, 1) := by decide +kernel
theorem dX13_attacks_111 : decode cX13_attacks 111 = .ok (.if_icmp .ne 7, 3) := by decide +kernel
theorem dX13_attacks_114 : decode cX13_attacks 114 = .ok (.iconst 1, 1) := by decide +kernel
theorem dX13_attacks_115 : decode cX13_attacks 115 = .ok (.goto 4, 3) := by decide +kernel
theorem dX13_attacks_118 : decode cX13_attacks 118 = .ok (.iconst 0, 1) := by decide +kernel
theorem dX13_attacks_119 : decode cX13_attacks 119 = .ok (.ireturn, 1) := by decide +kernel
theorem dX13_attacks_120 : decode cX13_attacks 120 = .ok (.iload 5, 2) := by decide +kernel
theorem dX13_attacks_122 : decode cX13_attacks 122 = .ok (.bipush 6, 2) := by decide +kernel
theorem dX13_attacks_124 : decode cX13_attacks 124 = .ok (.if_icmp .ne 21, 3) := by decide +kernel
theorem dX13_attacks_127 : decode cX13_attacks 127 = .ok (.iload 8, 2) := by decide +kernel
theorem dX13_attacks_129 : decode cX13_attacks 129 = .ok (.iconst 2, 1) := by decide +kernel
theorem dX13_attacks_130 : decode cX13_attacks 130 = .ok (.if_icmp .ge 13, 3) := by decide +kernel
theorem dX13_attacks_133 : decode cX13_attacks 133 = .ok (.iload 9, 2) := by decide +kernel
theorem dX13_attacks_135 : decode cX13_attacks 135 = .ok (.iconst 2, 1) := by decide +kernel
theorem dX13_attacks_136 : decode cX13_attacks 136 = .ok (.if_icmp .ge 7, 3) := by decide +kernel
theorem dX13_attacks_139 : decode cX13_attacks 139 = .ok (.iconst 1, 1) := by decide +kernel
theorem dX13_attacks_140 : decode cX13_attacks 140 = .ok (.goto 4, 3) := by decide +kernel
theorem dX13_attacks_143 : decode cX13_attacks 143 = .ok (.iconst 0, 1) := by decide +kernel
theorem dX13_attacks_144 : decode cX13_attacks 144 = .ok (.ireturn, 1) := by decide +kernel
theorem dX13_attacks_145 : decode cX13_attacks 145 = .ok (.iload 8, 2) := by decide +kernel
theorem dX13_attacks_147 : decode cX13_attacks 147 = .ok (.ifCond .eq 8, 3) := by decide +kernel
theorem dX13_attacks_150 : decode cX13_attacks 150 = .ok (.iload 9, 2) := by decide +kernel
theorem dX13_attacks_152 : decode cX13_attacks 152 = .ok (.ifCond .ne 7, 3) := by decide +kernel
theorem dX13_attacks_155 : decode cX13_attacks 155 = .ok (.iconst 1, 1) := by decide +kernel
theorem dX13_attacks_156 : decode cX13_attacks 156 = .ok (.goto 4, 3) := by decide +kernel
theorem dX13_attacks_159 : decode cX13_attacks 159 = .ok (.iconst 0, 1) := by decide +kernel
theorem dX13_attacks_160 : decode cX13_attacks 160 = .ok (.istore 10, 2) := by decide +kernel
theorem dX13_attacks_162 : decode cX13_attacks 162 = .ok (.iload 10, 2) := by decide +kernel
theorem dX13_attacks_164 : decode cX13_attacks 164 = .ok (.ifCond .eq 9, 3) := by decide +kernel
theorem dX13_attacks_167 : decode cX13_attacks 167 = .ok (.iload 5, 2) := by decide +kernel
theorem dX13_attacks_169 : decode cX13_attacks 169 = .ok (.iconst 3, 1) := by decide +kernel
theorem dX13_attacks_170 : decode cX13_attacks 170 = .ok (.if_icmp .ne 16, 3) := by decide +kernel
theorem dX13_attacks_173 : decode cX13_attacks 173 = .ok (.iload 8, 2) := by decide +kernel
theorem dX13_attacks_175 : decode cX13_attacks 175 = .ok (.iload 9, 2) := by decide +kernel
theorem dX13_attacks_177 : decode cX13_attacks 177 = .ok (.if_icmp .ne 13, 3) := by decide +kernel
theorem dX13_attacks_180 : decode cX13_attacks 180 = .ok (.iload 5, 2) := by decide +kernel
theorem dX13_attacks_182 : decode cX13_attacks 182 = .ok (.iconst 4, 1) := by decide +kernel
theorem dX13_attacks_183 : decode cX13_attacks 183 = .ok (.if_icmp .eq 7, 3) := by decide +kernel
theorem dX13_attacks_186 : decode cX13_attacks 186 = .ok (.iconst 1, 1) := by decide +kernel
theorem dX13_attacks_187 : decode cX13_attacks 187 = .ok (.goto 4, 3) := by decide +kernel
theorem dX13_attacks_190 : decode cX13_attacks 190 = .ok (.iconst 0, 1) := by decide +kernel
theorem dX13_attacks_191 : decode cX13_attacks 191 = .ok (.istore 11, 2) := by decide +kernel
theorem dX13_attacks_193 : decode cX13_attacks 193 = .ok (.iload 7, 2) := by decide +kernel
theorem dX13_attacks_195 : decode cX13_attacks 195 = .ok (.ifCond .le 8, 3) := by decide +kernel
theorem dX13_attacks_198 : decode cX13_attacks 198 = .ok (.bipush 8, 2) := by decide +kernel
theorem dX13_attacks_200 : decode cX13_attacks 200 = .ok (.goto 14, 3) := by decide +kernel
theorem dX13_attacks_203 : decode cX13_attacks 203 = .ok (.iload 7, 2) := by decide +kernel
theorem dX13_attacks_205 : decode cX13_attacks 205 = .ok (.ifCond .ge 8, 3) := by decide +kernel
theorem dX13_attacks_208 : decode cX13_attacks 208 = .ok (.bipush (-8), 2) := by decide +kernel
theorem dX13_attacks_210 : decode cX13_attacks 210 = .ok (.goto 4, 3) := by decide +kernel
theorem dX13_attacks_213 : decode cX13_attacks 213 = .ok (.iconst 0, 1) := by decide +kernel
theorem dX13_attacks_214 : decode cX13_attacks 214 = .ok (.iload 6, 2) := by decide +kernel
theorem dX13_attacks_216 : decode cX13_attacks 216 = .ok (.ifCond .le 7, 3) := by decide +kernel
theorem dX13_attacks_219 : decode cX13_attacks 219 = .ok (.iconst 1, 1) := by decide +kernel
theorem dX13_attacks_220 : decode cX13_attacks 220 = .ok (.goto 13, 3) := by decide +kernel
theorem dX13_attacks_223 : decode cX13_attacks 223 = .ok (.iload 6, 2) := by decide +kernel
theorem dX13_attacks_225 : decode cX13_attacks 225 = .ok (.ifCond .ge 7, 3) := by decide +kernel
theorem dX13_attacks_228 : decode cX13_attacks 228 = .ok (.iconst (-1), 1) := by decide +kernel
theorem dX13_attacks_229 : decode cX13_attacks 229 = .ok (.goto 4, 3) := by decide +kernel
theorem dX13_attacks_232 : decode cX13_attacks 232 = .ok (.iconst 0, 1) := by decide +kernel
theorem dX13_attacks_233 : decode cX13_attacks 233 = .ok (.iadd, 1) := by decide +kernel
theorem dX13_attacks_234 : decode cX13_attacks 234 = .ok (.istore 12, 2) := by decide +kernel
theorem dX13_attacks_236 : decode cX13_attacks 236 = .ok (.iload_n 2, 1) := by decide +kernel
theorem dX13_attacks_237 : decode cX13_attacks 237 = .ok (.iload 12, 2) := by decide +kernel
theorem dX13_attacks_239 : decode cX13_attacks 239 = .ok (.iadd, 1) := by decide +kernel
theorem dX13_attacks_240 : decode cX13_attacks 240 = .ok (.istore 13, 2) := by decide +kernel
theorem dX13_attacks_242 : decode cX13_attacks 242 = .ok (.iload 11, 2) := by decide +kernel
theorem dX13_attacks_244 : decode cX13_attacks 244 = .ok (.ifCond .eq 38, 3) := by decide +kernel
theorem dX13_attacks_247 : decode cX13_attacks 247 = .ok (.iload 13, 2) := by decide +kernel
theorem dX13_attacks_249 : decode cX13_attacks 249 = .ok (.iload_n 3, 1) := by decide +kernel
theorem dX13_attacks_250 : decode cX13_attacks 250 = .ok (.if_icmp .eq 32, 3) := by decide +kernel
theorem dX13_attacks_253 : decode cX13_attacks 253 = .ok (.aload_n 0, 1) := by decide +kernel
theorem dX13_attacks_254 : decode cX13_attacks 254 = .ok (.getfield 43, 3) := by decide +kernel
theorem dX13_attacks_257 : decode cX13_attacks 257 = .ok (.iload_n 1, 1) := by decide +kernel
theorem dX13_attacks_258 : decode cX13_attacks 258 = .ok (.iload 13, 2) := by decide +kernel
theorem dX13_attacks_260 : decode cX13_attacks 260 = .ok (.iadd, 1) := by decide +kernel
theorem dX13_attacks_261 : decode cX13_attacks 261 = .ok (.iaload, 1) := by decide +kernel
theorem dX13_attacks_262 : decode cX13_attacks 262 = .ok (.ifCond .ne 7, 3) := by decide +kernel
theorem dX13_attacks_265 : decode cX13_attacks 265 = .ok (.iconst 1, 1) := by decide +kernel
theorem dX13_attacks_266 : decode cX13_attacks 266 = .ok (.goto 4, 3) := by decide +kernel
theorem dX13_attacks_269 : decode cX13_attacks 269 = .ok (.iconst 0, 1) := by decide +kernel
theorem dX13_attacks_270 : decode cX13_attacks 270 = .ok (.istore 11, 2) := by decide +kernel
theorem dX13_attacks_272 : decode cX13_attacks 272 = .ok (.iload 13, 2) := by decide +kernel
theorem dX13_attacks_274 : decode cX13_attacks 274 = .ok (.iload 12, 2) := by decide +kernel
theorem dX13_attacks_276 : decode cX13_attacks 276 = .ok (.iadd, 1) := by decide +kernel
theorem dX13_attacks_277 : decode cX13_attacks 277 = .ok (.istore 13, 2) := by decide +kernel
theorem dX13_attacks_279 : decode cX13_attacks 279 = .ok (.goto (-37), 3) := by decide +kernel
theorem dX13_attacks_282 : decode cX13_attacks 282 = .ok (.iload 11, 2) := by decide +kernel
theorem dX13_attacks_284 : decode cX13_attacks 284 = .ok (.ireturn, 1) := by decide +kernel
def kX13_attacks_51 (mc ms : Nat) (X : Nat → zV) (Q : zQt) : zT :=
  zsi 9 <| zli 5 <| zif (fun x => x = 0) (zj X 63 []) <| zli 2 <| zli 3 <| zic (fun x y => x = y) (zj X 63 []) <| zli 5 <| zc (.int 1) <| zic (fun x y => x = y) (zli 8 <| zc (.int 1) <| zic (fun x y => x = y) (zli 7 <| zli 4 <| zc (.int 1) <| zic (fun x y => x = y) (zc (.int 1) <| zj X 90 []) <| zc (.int (-1)) <| zj X 90 []) <| zj X 97 []) <| zli 5 <| zc (.int 2) <| zic (fun x y => x = y) (zli 8 <| zli 9 <| zii (fun x y => x * y) <| zc (.int 2) <| zic (fun x y => x = y) (zc (.int 1) <| zj X 119 []) <| zc (.int 0) <| zj X 119 []) <| zli 5 <| zc (.int 6) <| zic (fun x y => x = y) (zli 8 <| zc (.int 2) <| zic (fun x y => y ≤ x) (zj X 143 []) <| zli 9 <| zc (.int 2) <| zic (fun x y => y ≤ x) (zj X 143 []) <| zc (.int 1) <| zj X 144 []) <| zli 8 <| zif (fun x => x = 0) (zj X 155 [0, 1, 2, 3, 5, 6, 7, 8, 9]) <| zli 9 <| zif (fun x => x = 0) (zj X 155 [0, 1, 2, 3, 5, 6, 7, 8, 9]) <| zc (.int 0) <| zj X 160 [0, 1, 2, 3, 5, 6, 7, 8, 9]
def kX13_attacks_44 (mc ms : Nat) (X : Nat → zV) (Q : zQt) : zT :=
  zsi 8 <| zli 7 <| zcs mc ms 1 wX13_amount <| kX13_attacks_51 mc ms X Q
def kX13_attacks_39 (mc ms : Nat) (X : Nat → zV) (Q : zQt) : zT :=
  zli 6 <| zcs mc ms 1 wX13_amount <| kX13_attacks_44 mc ms X Q
def kX13_attacks_28 (mc ms : Nat) (X : Nat → zV) (Q : zQt) : zT :=
  zli 3 <| zc (.int 8) <| zid (fun x y => x / y) <| zli 2 <| zc (.int 8) <| zid (fun x y => x / y) <| zii (fun x y => x - y) <| zsiN 7 <| kX13_attacks_39 mc ms X Q
def kX13_attacks_15 (mc ms : Nat) (X : Nat → zV) (Q : zQt) : zT :=
  zsi 5 <| zli 3 <| zc (.int 8) <| zid (fun x y => x - x / y * y) <| zli 2 <| zc (.int 8) <| zid (fun x y => x - x / y * y) <| zii (fun x y => x - y) <| zsiN 6 <| kX13_attacks_28 mc ms X Q
def kX13_attacks_10 (mc ms : Nat) (X : Nat → zV) (Q : zQt) : zT :=
  zli 4 <| zcs mc ms 1 wX13_kindOf <| kX13_attacks_15 mc ms X Q
def aX13_attacks_0 (mc ms : Nat) (X : Nat → zV) (Q : zQt) : zT :=
  zla 0 <| zgR 13 16 <| zli 1 <| zli 2 <| zii (fun x y => x + y) <| zal 1 <| zsiN 4 <| kX13_attacks_10 mc ms X Q
def aX13_attacks_63 (mc ms : Nat) (X : Nat → zV) (Q : zQt) : zT :=
  zc (.int 0) <| zrz .boolean Q
def aX13_attacks_90 (mc ms : Nat) (X : Nat → zV) (Q : zQt) : zT :=
  zic (fun x y => x = y) (zc (.int 1) <| zj X 98 []) <| zj X 97 []
def aX13_attacks_97 (mc ms : Nat) (X : Nat → zV) (Q : zQt) : zT :=
  zc (.int 0) <| zj X 98 []
def aX13_attacks_98 (mc ms : Nat) (X : Nat → zV) (Q : zQt) : zT :=
  zrz .boolean Q
def aX13_attacks_119 (mc ms : Nat) (X : Nat → zV) (Q : zQt) : zT :=
  zrz .boolean Q
def aX13_attacks_143 (mc ms : Nat) (X : Nat → zV) (Q : zQt) : zT :=
  zc (.int 0) <| zj X 144 []
def aX13_attacks_144 (mc ms : Nat) (X : Nat → zV) (Q : zQt) : zT :=
  zrz .boolean Q
def aX13_attacks_155 (mc ms : Nat) (X : Nat → zV) (Q : zQt) : zT :=
  zc (.int 1) <| zj X 160 [0, 1, 2, 3, 5, 6, 7, 8, 9]
def aX13_attacks_160 (mc ms : Nat) (X : Nat → zV) (Q : zQt) : zT :=
  zsi 10 <| zli 10 <| zif (fun x => x = 0) (zj X 173 [0, 1, 2, 3, 5, 6, 7, 8, 9]) <| zli 5 <| zc (.int 3) <| zic (fun x y => x = y) (zj X 173 [0, 1, 2, 3, 5, 6, 7, 8, 9]) <| zj X 186 [0, 1, 2, 3, 6, 7]
def aX13_attacks_173 (mc ms : Nat) (X : Nat → zV) (Q : zQt) : zT :=
  zli 8 <| zli 9 <| zic (fun x y => x = y) (zli 5 <| zc (.int 4) <| zic (fun x y => x = y) (zj X 190 [0, 1, 2, 3, 6, 7]) <| zj X 186 [0, 1, 2, 3, 6, 7]) <| zj X 190 [0, 1, 2, 3, 6, 7]
def aX13_attacks_186 (mc ms : Nat) (X : Nat → zV) (Q : zQt) : zT :=
  zc (.int 1) <| zj X 191 [0, 1, 2, 3, 6, 7]
def aX13_attacks_190 (mc ms : Nat) (X : Nat → zV) (Q : zQt) : zT :=
  zc (.int 0) <| zj X 191 [0, 1, 2, 3, 6, 7]
def aX13_attacks_191 (mc ms : Nat) (X : Nat → zV) (Q : zQt) : zT :=
  zsi 11 <| zli 7 <| zif (fun x => x ≤ 0) (zli 7 <| zif (fun x => 0 ≤ x) (zc (.int 0) <| zj X 214 [0, 1, 2, 3, 6, 11]) <| zc (.int (-8)) <| zj X 214 [0, 1, 2, 3, 6, 11]) <| zc (.int 8) <| zj X 214 [0, 1, 2, 3, 6, 11]
def aX13_attacks_214 (mc ms : Nat) (X : Nat → zV) (Q : zQt) : zT :=
  zli 6 <| zif (fun x => x ≤ 0) (zli 6 <| zif (fun x => 0 ≤ x) (zc (.int 0) <| zj X 233 [0, 1, 2, 3, 11]) <| zc (.int (-1)) <| zj X 233 [0, 1, 2, 3, 11]) <| zc (.int 1) <| zj X 233 [0, 1, 2, 3, 11]
def aX13_attacks_233 (mc ms : Nat) (X : Nat → zV) (Q : zQt) : zT :=
  zii (fun x y => x + y) <| zsi 12 <| zli 2 <| zli 12 <| zii (fun x y => x + y) <| zsi 13 <| zj X 242 [0, 1, 3, 11, 12, 13]
def aX13_attacks_242 (mc ms : Nat) (X : Nat → zV) (Q : zQt) : zT :=
  zli 11 <| zif (fun x => x = 0) (zj X 282 [11]) <| zli 13 <| zli 3 <| zic (fun x y => x = y) (zj X 282 [11]) <| zla 0 <| zgR 13 16 <| zli 1 <| zli 13 <| zii (fun x y => x + y) <| zal 1 <| zif (fun x => x = 0) (zc (.int 1) <| zj X 270 [0, 1, 3, 12, 13]) <| zc (.int 0) <| zj X 270 [0, 1, 3, 12, 13]
def aX13_attacks_270 (mc ms : Nat) (X : Nat → zV) (Q : zQt) : zT :=
  zsi 11 <| zli 13 <| zli 12 <| zii (fun x y => x + y) <| zsi 13 <| zj X 242 [0, 1, 3, 11, 12, 13]
def aX13_attacks_282 (mc ms : Nat) (X : Nat → zV) (Q : zQt) : zT :=
  zli 11 <| zrz .boolean Q
def lvX13_attacks : Nat → List Nat := fun L => match L with
  | 0 => [0, 1, 2, 3]
  | 63 => []
  | 90 => []
  | 97 => []
  | 98 => []
  | 119 => []
  | 143 => []
  | 144 => []
  | 155 => [0, 1, 2, 3, 5, 6, 7, 8, 9]
  | 160 => [0, 1, 2, 3, 5, 6, 7, 8, 9]
  | 173 => [0, 1, 2, 3, 5, 6, 7, 8, 9]
  | 186 => [0, 1, 2, 3, 6, 7]
  | 190 => [0, 1, 2, 3, 6, 7]
  | 191 => [0, 1, 2, 3, 6, 7]
  | 214 => [0, 1, 2, 3, 6, 11]
  | 233 => [0, 1, 2, 3, 11]
  | 242 => [0, 1, 3, 11, 12, 13]
  | 270 => [0, 1, 3, 12, 13]
  | 282 => [11]
  | _ => []
def wX13_attacks : zSp := fun mc ms av M Q => ((zlay av).length ≤ 14 ∧ zpick (zlay av) [0, 1, 2, 3] = some av) ∧ ∀ X : Nat → zV, zin 14 [0, 1, 2, 3] (aX13_attacks_0 mc ms X Q) X 0 → zin 14 [] (aX13_attacks_63 mc ms X Q) X 63 → zin 14 [] (aX13_attacks_90 mc ms X Q) X 90 → zin 14 [] (aX13_attacks_97 mc ms X Q) X 97 → zin 14 [] (aX13_attacks_98 mc ms X Q) X 98 → zin 14 [] (aX13_attacks_119 mc ms X Q) X 119 → zin 14 [] (aX13_attacks_143 mc ms X Q) X 143 → zin 14 [] (aX13_attacks_144 mc ms X Q) X 144 → zin 14 [0, 1, 2, 3, 5, 6, 7, 8, 9] (aX13_attacks_155 mc ms X Q) X 155 → zin 14 [0, 1, 2, 3, 5, 6, 7, 8, 9] (aX13_attacks_160 mc ms X Q) X 160 → zin 14 [0, 1, 2, 3, 5, 6, 7, 8, 9] (aX13_attacks_173 mc ms X Q) X 173 → zin 14 [0, 1, 2, 3, 6, 7] (aX13_attacks_186 mc ms X Q) X 186 → zin 14 [0, 1, 2, 3, 6, 7] (aX13_attacks_190 mc ms X Q) X 190 → zin 14 [0, 1, 2, 3, 6, 7] (aX13_attacks_191 mc ms X Q) X 191 → zin 14 [0, 1, 2, 3, 6, 11] (aX13_attacks_214 mc ms X Q) X 214 → zin 14 [0, 1, 2, 3, 11] (aX13_attacks_233 mc ms X Q) X 233 → zin 14 [0, 1, 3, 11, 12, 13] (aX13_attacks_242 mc ms X Q) X 242 → zin 14 [0, 1, 3, 12, 13] (aX13_attacks_270 mc ms X Q) X 270 → zin 14 [11] (aX13_attacks_282 mc ms X Q) X 282 → X 0 0 0 av [] M
set_option maxRecDepth 100000 in
set_option maxHeartbeats 4000000 in
theorem sX13_attacks (l : Launch) (G : zG) : zSnd l G yX13_attacks cX13_attacks 14 (some .boolean) 1 20 wX13_attacks := by
  refine zmk [0, 1, 2, 3] (by decide) (fun mc ms av M Q h => h.1) ?_
  intro p e R s m args below meth c mc ms av M Q hC hRf hRl hr hnm h lv hlv
  obtain ⟨X, hXe⟩ : ∃ X : Nat → zV, X = fun L u v vs st M => ∀ lv, zpick lv (lvX13_attacks L) = some vs → zAt p l e R s m args below meth c (MQ below (zQ G Q) args s mc ms (zA G)) G 14 L u v lv st M := ⟨_, rfl⟩
  have hJ : ∀ L, zOk p l e R s m args below meth c (MQ below (zQ G Q) args s mc ms (zA G)) G 14 L (zj X L (lvX13_attacks L)) := fun L => S_jump (fun u v lv vs st M hp hx => by rw [hXe] at hx; exact hx lv hp)
  have hB0 : zin 14 [0, 1, 2, 3] (aX13_attacks_0 mc ms X Q) X 0 := by
    intro u v vs st M hb
    rw [hXe]
    refine fun lv hp => S_block (L := 0) (live := [0, 1, 2, 3]) ?_ u v lv vs st M hp hb
    unfold aX13_attacks_0
    refine S_aload_n (pc := 0) hC dX13_attacks_0 rfl ?_
    refine S_getR (pc := 1) hC cfX13 (by decide) (Or.inr ⟨_, rfl⟩) wd_1271 dX13_attacks_1 ?_
    refine S_iload_n (pc := 4) hC dX13_attacks_4 rfl ?_
    refine S_iload_n (pc := 5) hC dX13_attacks_5 rfl ?_
    refine S_iadd (pc := 6) hC dX13_attacks_6 ?_
    refine S_iaload (pc := 7) hC dX13_attacks_7 ?_
    refine S_istore_N (pc := 8) hC dX13_attacks_8 (by decide) ?_
    unfold kX13_attacks_10
    refine S_iload (pc := 10) hC dX13_attacks_10 ?_
    refine S_callS (pc := 12) hC (sX13_kindOf l G) wd_1376 wd_1377 wd_12 wd_1378 (by decide +kernel) ⟨by rw [hRf]; decide, by rw [hRl]; decide⟩ dX13_attacks_12 ?_
    unfold kX13_attacks_15
    refine S_istore (pc := 15) hC dX13_attacks_15 (by decide) ?_
    refine S_iload_n (pc := 17) hC dX13_attacks_17 rfl ?_
    refine S_bipush (pc := 18) hC dX13_attacks_18 (by decide) ?_
    refine S_irem (pc := 20) hC dX13_attacks_20 ?_
    refine S_iload_n (pc := 21) hC dX13_attacks_21 rfl ?_
    refine S_bipush (pc := 22) hC dX13_attacks_22 (by decide) ?_
    refine S_irem (pc := 24) hC dX13_attacks_24 ?_
    refine S_isub (pc := 25) hC dX13_attacks_25 ?_
    refine S_istore_N (pc := 26) hC dX13_attacks_26 (by decide) ?_
    unfold kX13_attacks_28
    refine S_iload_n (pc := 28) hC dX13_attacks_28 rfl ?_
    refine S_bipush (pc := 29) hC dX13_attacks_29 (by decide) ?_
    refine S_idiv (pc := 31) hC dX13_attacks_31 ?_
    refine S_iload_n (pc := 32) hC dX13_attacks_32 rfl ?_
    refine S_bipush (pc := 33) hC dX13_attacks_33 (by decide) ?_
    refine S_idiv (pc := 35) hC dX13_attacks_35 ?_
    refine S_isub (pc := 36) hC dX13_attacks_36 ?_
    refine S_istore_N (pc := 37) hC dX13_attacks_37 (by decide) ?_
    unfold kX13_attacks_39
    refine S_iload (pc := 39) hC dX13_attacks_39 ?_
    refine S_callS (pc := 41) hC (sX13_amount l G) wd_1432 wd_1433 wd_12 wd_1434 (by decide +kernel) ⟨by rw [hRf]; decide, by rw [hRl]; decide⟩ dX13_attacks_41 ?_
    unfold kX13_attacks_44
    refine S_istore (pc := 44) hC dX13_attacks_44 (by decide) ?_
    refine S_iload (pc := 46) hC dX13_attacks_46 ?_
    refine S_callS (pc := 48) hC (sX13_amount l G) wd_1432 wd_1433 wd_12 wd_1434 (by decide +kernel) ⟨by rw [hRf]; decide, by rw [hRl]; decide⟩ dX13_attacks_48 ?_
    unfold kX13_attacks_51
    refine S_istore (pc := 51) hC dX13_attacks_51 (by decide) ?_
    refine S_iload (pc := 53) hC dX13_attacks_53 ?_
    refine S_if_eq (pc := 55) (tgt := 63) hC dX13_attacks_55 (by decide) ?_ ?_
    · exact hJ 63
    · refine S_iload_n (pc := 58) hC dX13_attacks_58 rfl ?_
      refine S_iload_n (pc := 59) hC dX13_attacks_59 rfl ?_
      refine S_icmp_ne (pc := 60) (tgt := 65) hC dX13_attacks_60 (by decide) ?_ ?_
      · refine S_iload (pc := 65) hC dX13_attacks_65 ?_
        refine S_iconst (pc := 67) hC dX13_attacks_67 (by decide) ?_
        refine S_icmp_ne (pc := 68) (tgt := 99) hC dX13_attacks_68 (by decide) ?_ ?_
        · refine S_iload (pc := 99) hC dX13_attacks_99 ?_
          refine S_iconst (pc := 101) hC dX13_attacks_101 (by decide) ?_
          refine S_icmp_ne (pc := 102) (tgt := 120) hC dX13_attacks_102 (by decide) ?_ ?_
          · refine S_iload (pc := 120) hC dX13_attacks_120 ?_
            refine S_bipush (pc := 122) hC dX13_attacks_122 (by decide) ?_
            refine S_icmp_ne (pc := 124) (tgt := 145) hC dX13_attacks_124 (by decide) ?_ ?_
            · refine S_iload (pc := 145) hC dX13_attacks_145 ?_
              refine S_if_eq (pc := 147) (tgt := 155) hC dX13_attacks_147 (by decide) ?_ ?_
              · exact hJ 155
              · refine S_iload (pc := 150) hC dX13_attacks_150 ?_
                refine S_if_ne (pc := 152) (tgt := 159) hC dX13_attacks_152 (by decide) ?_ ?_
                · refine S_iconst (pc := 159) hC dX13_attacks_159 (by decide) ?_
                  exact hJ 160
                · exact hJ 155
            · refine S_iload (pc := 127) hC dX13_attacks_127 ?_
              refine S_iconst (pc := 129) hC dX13_attacks_129 (by decide) ?_
              refine S_icmp_ge (pc := 130) (tgt := 143) hC dX13_attacks_130 (by decide) ?_ ?_
              · exact hJ 143
              · refine S_iload (pc := 133) hC dX13_attacks_133 ?_
                refine S_iconst (pc := 135) hC dX13_attacks_135 (by decide) ?_
                refine S_icmp_ge (pc := 136) (tgt := 143) hC dX13_attacks_136 (by decide) ?_ ?_
                · exact hJ 143
                · refine S_iconst (pc := 139) hC dX13_attacks_139 (by decide) ?_
                  refine S_goto (pc := 140) (tgt := 144) hC dX13_attacks_140 (by decide) ?_
                  exact hJ 144
          · refine S_iload (pc := 105) hC dX13_attacks_105 ?_
            refine S_iload (pc := 107) hC dX13_attacks_107 ?_
            refine S_imul (pc := 109) hC dX13_attacks_109 ?_
            refine S_iconst (pc := 110) hC dX13_attacks_110 (by decide) ?_
            refine S_icmp_ne (pc := 111) (tgt := 118) hC dX13_attacks_111 (by decide) ?_ ?_
            · refine S_iconst (pc := 118) hC dX13_attacks_118 (by decide) ?_
              exact hJ 119
            · refine S_iconst (pc := 114) hC dX13_attacks_114 (by decide) ?_
              refine S_goto (pc := 115) (tgt := 119) hC dX13_attacks_115 (by decide) ?_
              exact hJ 119
        · refine S_iload (pc := 71) hC dX13_attacks_71 ?_
          refine S_iconst (pc := 73) hC dX13_attacks_73 (by decide) ?_
          refine S_icmp_ne (pc := 74) (tgt := 97) hC dX13_attacks_74 (by decide) ?_ ?_
          · exact hJ 97
          · refine S_iload (pc := 77) hC dX13_attacks_77 ?_
            refine S_iload (pc := 79) hC dX13_attacks_79 ?_
            refine S_iconst (pc := 81) hC dX13_attacks_81 (by decide) ?_
            refine S_icmp_ne (pc := 82) (tgt := 89) hC dX13_attacks_82 (by decide) ?_ ?_
            · refine S_iconst (pc := 89) hC dX13_attacks_89 (by decide) ?_
              exact hJ 90
            · refine S_iconst (pc := 85) hC dX13_attacks_85 (by decide) ?_
              refine S_goto (pc := 86) (tgt := 90) hC dX13_attacks_86 (by decide) ?_
              exact hJ 90
      · exact hJ 63
  have hB63 : zin 14 [] (aX13_attacks_63 mc ms X Q) X 63 := by
    intro u v vs st M hb
    rw [hXe]
    refine fun lv hp => S_block (L := 63) (live := []) ?_ u v lv vs st M hp hb
    unfold aX13_attacks_63
    refine S_iconst (pc := 63) hC dX13_attacks_63 (by decide) ?_
    exact S_zreturn (pc := 64) hC hr dX13_attacks_64
  have hB90 : zin 14 [] (aX13_attacks_90 mc ms X Q) X 90 := by
    intro u v vs st M hb
    rw [hXe]
    refine fun lv hp => S_block (L := 90) (live := []) ?_ u v lv vs st M hp hb
    unfold aX13_attacks_90
    refine S_icmp_ne (pc := 90) (tgt := 97) hC dX13_attacks_90 (by decide) ?_ ?_
    · exact hJ 97
    · refine S_iconst (pc := 93) hC dX13_attacks_93 (by decide) ?_
      refine S_goto (pc := 94) (tgt := 98) hC dX13_attacks_94 (by decide) ?_
      exact hJ 98
  have hB97 : zin 14 [] (aX13_attacks_97 mc ms X Q) X 97 := by
    intro u v vs st M hb
    rw [hXe]
    refine fun lv hp => S_block (L := 97) (live := []) ?_ u v lv vs st M hp hb
    unfold aX13_attacks_97
    refine S_iconst (pc := 97) hC dX13_attacks_97 (by decide) ?_
    exact hJ 98
  have hB98 : zin 14 [] (aX13_attacks_98 mc ms X Q) X 98 := by
    intro u v vs st M hb
    rw [hXe]
    refine fun lv hp => S_block (L := 98) (live := []) ?_ u v lv vs st M hp hb
    unfold aX13_attacks_98
    exact S_zreturn (pc := 98) hC hr dX13_attacks_98
  have hB119 : zin 14 [] (aX13_attacks_119 mc ms X Q) X 119 := by
    intro u v vs st M hb
    rw [hXe]
    refine fun lv hp => S_block (L := 119) (live := []) ?_ u v lv vs st M hp hb
    unfold aX13_attacks_119
    exact S_zreturn (pc := 119) hC hr dX13_attacks_119
  have hB143 : zin 14 [] (aX13_attacks_143 mc ms X Q) X 143 := by
    intro u v vs st M hb
    rw [hXe]
    refine fun lv hp => S_block (L := 143) (live := []) ?_ u v lv vs st M hp hb
    unfold aX13_attacks_143
    refine S_iconst (pc := 143) hC dX13_attacks_143 (by decide) ?_
    exact hJ 144
  have hB144 : zin 14 [] (aX13_attacks_144 mc ms X Q) X 144 := by
    intro u v vs st M hb
    rw [hXe]
    refine fun lv hp => S_block (L := 144) (live := []) ?_ u v lv vs st M hp hb
    unfold aX13_attacks_144
    exact S_zreturn (pc := 144) hC hr dX13_attacks_144
  have hB155 : zin 14 [0, 1, 2, 3, 5, 6, 7, 8, 9] (aX13_attacks_155 mc ms X Q) X 155 := by
    intro u v vs st M hb
    rw [hXe]
    refine fun lv hp => S_block (L := 155) (live := [0, 1, 2, 3, 5, 6, 7, 8, 9]) ?_ u v lv vs st M hp hb
    unfold aX13_attacks_155
    refine S_iconst (pc := 155) hC dX13_attacks_155 (by decide) ?_
    refine S_goto (pc := 156) (tgt := 160) hC dX13_attacks_156 (by decide) ?_
    exact hJ 160
  have hB160 : zin 14 [0, 1, 2, 3, 5, 6, 7, 8, 9] (aX13_attacks_160 mc ms X Q) X 160 := by
    intro u v vs st M hb
    rw [hXe]
    refine fun lv hp => S_block (L := 160) (live := [0, 1, 2, 3, 5, 6, 7, 8, 9]) ?_ u v lv vs st M hp hb
    unfold aX13_attacks_160
    refine S_istore (pc := 160) hC dX13_attacks_160 (by decide) ?_
    refine S_iload (pc := 162) hC dX13_attacks_162 ?_
    refine S_if_eq (pc := 164) (tgt := 173) hC dX13_attacks_164 (by decide) ?_ ?_
    · exact hJ 173
    · refine S_iload (pc := 167) hC dX13_attacks_167 ?_
      refine S_iconst (pc := 169) hC dX13_attacks_169 (by decide) ?_
      refine S_icmp_ne (pc := 170) (tgt := 186) hC dX13_attacks_170 (by decide) ?_ ?_
      · exact hJ 186
      · exact hJ 173
  have hB173 : zin 14 [0, 1, 2, 3, 5, 6, 7, 8, 9] (aX13_attacks_173 mc ms X Q) X 173 := by
    intro u v vs st M hb
    rw [hXe]
    refine fun lv hp => S_block (L := 173) (live := [0, 1, 2, 3, 5, 6, 7, 8, 9]) ?_ u v lv vs st M hp hb
    unfold aX13_attacks_173
    refine S_iload (pc := 173) hC dX13_attacks_173 ?_
    refine S_iload (pc := 175) hC dX13_attacks_175 ?_
    refine S_icmp_ne (pc := 177) (tgt := 190) hC dX13_attacks_177 (by decide) ?_ ?_
    · exact hJ 190
    · refine S_iload (pc := 180) hC dX13_attacks_180 ?_
      refine S_iconst (pc := 182) hC dX13_attacks_182 (by decide) ?_
      refine S_icmp_eq (pc := 183) (tgt := 190) hC dX13_attacks_183 (by decide) ?_ ?_
      · exact hJ 190
      · exact hJ 186
  have hB186 : zin 14 [0, 1, 2, 3, 6, 7] (aX13_attacks_186 mc ms X Q) X 186 := by
    intro u v vs st M hb
    rw [hXe]
    refine fun lv hp => S_block (L := 186) (live := [0, 1, 2, 3, 6, 7]) ?_ u v lv vs st M hp hb
    unfold aX13_attacks_186
    refine S_iconst (pc := 186) hC dX13_attacks_186 (by decide) ?_
    refine S_goto (pc := 187) (tgt := 191) hC dX13_attacks_187 (by decide) ?_
    exact hJ 191
  have hB190 : zin 14 [0, 1, 2, 3, 6, 7] (aX13_attacks_190 mc ms X Q) X 190 := by
    intro u v vs st M hb
    rw [hXe]
    refine fun lv hp => S_block (L := 190) (live := [0, 1, 2, 3, 6, 7]) ?_ u v lv vs st M hp hb
    unfold aX13_attacks_190
    refine S_iconst (pc := 190) hC dX13_attacks_190 (by decide) ?_
    exact hJ 191
  have hB191 : zin 14 [0, 1, 2, 3, 6, 7] (aX13_attacks_191 mc ms X Q) X 191 := by
    intro u v vs st M hb
    rw [hXe]
    refine fun lv hp => S_block (L := 191) (live := [0, 1, 2, 3, 6, 7]) ?_ u v lv vs st M hp hb
    unfold aX13_attacks_191
    refine S_istore (pc := 191) hC dX13_attacks_191 (by decide) ?_
    refine S_iload (pc := 193) hC dX13_attacks_193 ?_
    refine S_if_le (pc := 195) (tgt := 203) hC dX13_attacks_195 (by decide) ?_ ?_
    · refine S_iload (pc := 203) hC dX13_attacks_203 ?_
      refine S_if_ge (pc := 205) (tgt := 213) hC dX13_attacks_205 (by decide) ?_ ?_
      · refine S_iconst (pc := 213) hC dX13_attacks_213 (by decide) ?_
        exact hJ 214
      · refine S_bipush (pc := 208) hC dX13_attacks_208 (by decide) ?_
        refine S_goto (pc := 210) (tgt := 214) hC dX13_attacks_210 (by decide) ?_
        exact hJ 214
    · refine S_bipush (pc := 198) hC dX13_attacks_198 (by decide) ?_
      refine S_goto (pc := 200) (tgt := 214) hC dX13_attacks_200 (by decide) ?_
      exact hJ 214
  have hB214 : zin 14 [0, 1, 2, 3, 6, 11] (aX13_attacks_214 mc ms X Q) X 214 := by
    intro u v vs st M hb
    rw [hXe]
    refine fun lv hp => S_block (L := 214) (live := [0, 1, 2, 3, 6, 11]) ?_ u v lv vs st M hp hb
    unfold aX13_attacks_214
    refine S_iload (pc := 214) hC dX13_attacks_214 ?_
    refine S_if_le (pc := 216) (tgt := 223) hC dX13_attacks_216 (by decide) ?_ ?_
    · refine S_iload (pc := 223) hC dX13_attacks_223 ?_
      refine S_if_ge (pc := 225) (tgt := 232) hC dX13_attacks_225 (by decide) ?_ ?_
      · refine S_iconst (pc := 232) hC dX13_attacks_232 (by decide) ?_
        exact hJ 233
      · refine S_iconst (pc := 228) hC dX13_attacks_228 (by decide) ?_
        refine S_goto (pc := 229) (tgt := 233) hC dX13_attacks_229 (by decide) ?_
        exact hJ 233
    · refine S_iconst (pc := 219) hC dX13_attacks_219 (by decide) ?_
      refine S_goto (pc := 220) (tgt := 233) hC dX13_attacks_220 (by decide) ?_
      exact hJ 233
  have hB233 : zin 14 [0, 1, 2, 3, 11] (aX13_attacks_233 mc ms X Q) X 233 := by
    intro u v vs st M hb
    rw [hXe]
    refine fun lv hp => S_block (L := 233) (live := [0, 1, 2, 3, 11]) ?_ u v lv vs st M hp hb
    unfold aX13_attacks_233
    refine S_iadd (pc := 233) hC dX13_attacks_233 ?_
    refine S_istore (pc := 234) hC dX13_attacks_234 (by decide) ?_
    refine S_iload_n (pc := 236) hC dX13_attacks_236 rfl ?_
    refine S_iload (pc := 237) hC dX13_attacks_237 ?_
    refine S_iadd (pc := 239) hC dX13_attacks_239 ?_
    refine S_istore (pc := 240) hC dX13_attacks_240 (by decide) ?_
    exact hJ 242
  have hB242 : zin 14 [0, 1, 3, 11, 12, 13] (aX13_attacks_242 mc ms X Q) X 242 := by
    intro u v vs st M hb
    rw [hXe]
    refine fun lv hp => S_block (L := 242) (live := [0, 1, 3, 11, 12, 13]) ?_ u v lv vs st M hp hb
    unfold aX13_attacks_242
    refine S_iload (pc := 242) hC dX13_attacks_242 ?_
    refine S_if_eq (pc := 244) (tgt := 282) hC dX13_attacks_244 (by decide) ?_ ?_
    · exact hJ 282
    · refine S_iload (pc := 247) hC dX13_attacks_247 ?_
      refine S_iload_n (pc := 249) hC dX13_attacks_249 rfl ?_
      refine S_icmp_eq (pc := 250) (tgt := 282) hC dX13_attacks_250 (by decide) ?_ ?_
      · exact hJ 282
      · refine S_aload_n (pc := 253) hC dX13_attacks_253 rfl ?_
        refine S_getR (pc := 254) hC cfX13 (by decide) (Or.inr ⟨_, rfl⟩) wd_1271 dX13_attacks_254 ?_
        refine S_iload_n (pc := 257) hC dX13_attacks_257 rfl ?_
        refine S_iload (pc := 258) hC dX13_attacks_258 ?_
        refine S_iadd (pc := 260) hC dX13_attacks_260 ?_
        refine S_iaload (pc := 261) hC dX13_attacks_261 ?_
        refine S_if_ne (pc := 262) (tgt := 269) hC dX13_attacks_262 (by decide) ?_ ?_
        · refine S_iconst (pc := 269) hC dX13_attacks_269 (by decide) ?_
          exact hJ 270
        · refine S_iconst (pc := 265) hC dX13_attacks_265 (by decide) ?_
          refine S_goto (pc := 266) (tgt := 270) hC dX13_attacks_266 (by decide) ?_
          exact hJ 270
  have hB270 : zin 14 [0, 1, 3, 12, 13] (aX13_attacks_270 mc ms X Q) X 270 := by
    intro u v vs st M hb
    rw [hXe]
    refine fun lv hp => S_block (L := 270) (live := [0, 1, 3, 12, 13]) ?_ u v lv vs st M hp hb
    unfold aX13_attacks_270
    refine S_istore (pc := 270) hC dX13_attacks_270 (by decide) ?_
    refine S_iload (pc := 272) hC dX13_attacks_272 ?_
    refine S_iload (pc := 274) hC dX13_attacks_274 ?_
    refine S_iadd (pc := 276) hC dX13_attacks_276 ?_
    refine S_istore (pc := 277) hC dX13_attacks_277 (by decide) ?_
    refine S_goto (pc := 279) (tgt := 242) hC dX13_attacks_279 (by decide) ?_
    exact hJ 242
  have hB282 : zin 14 [11] (aX13_attacks_282 mc ms X Q) X 282 := by
    intro u v vs st M hb
    rw [hXe]
    refine fun lv hp => S_block (L := 282) (live := [11]) ?_ u v lv vs st M hp hb
    unfold aX13_attacks_282
    refine S_iload (pc := 282) hC dX13_attacks_282 ?_
    exact S_zreturn (pc := 284) hC hr dX13_attacks_284
  have := h.2 X hB0 hB63 hB90 hB97 hB98 hB119 hB143 hB144 hB155 hB160 hB173 hB186 hB190 hB191 hB214 hB233 hB242 hB270 hB282
  rw [hXe] at this
  exact this lv hlv
theorem vcX13_attacks_10 {mc ms : Nat} {X : Nat → zV} {Q : zQt} {M : zM} {x1 : Int32} {x2 : Int32} {x3 : Int32} {x4 : Int32} (hW : zFix M)  (h : wX13_kindOf 0 0 [.int x4] M (fun r M1 => kX13_attacks_15 mc ms X Q 0 0 [some (.ref 55), some (.int x1), some (.int x2), some (.int x3), some (.int x4), none, none, none, none, none, none, none, none, none] (r.toList ++ []) M1)) : kX13_attacks_10 mc ms X Q 0 0 [some (.ref 55), some (.int x1), some (.int x2), some (.int x3), some (.int x4), none, none, none, none, none, none, none, none, none] [] M := ⟨Nat.le_of_ble_eq_true rfl, rfl, 0, 0, Nat.zero_le _, Nat.zero_le _, h⟩
theorem vX13_attacks_0 {mc ms : Nat} {X : Nat → zV} {Q : zQt} {M : zM} {x1 : Int32} {x2 : Int32} {x3 : Int32} (hW : zFix M)  (h : vp_in ((x1 + x2)) 414 ∧ ∀ y8 : Int32, y8 = ((M : zM).1 65 ((x1 + x2) : Int32).toNatClampNeg) → wX13_kindOf 0 0 [.int y8] M (fun r M1 => kX13_attacks_15 mc ms X Q 0 0 [some (.ref 55), some (.int x1), some (.int x2), some (.int x3), some (.int y8), none, none, none, none, none, none, none, none, none] (r.toList ++ []) M1)) : aX13_attacks_0 mc ms X Q 0 0 [some (.ref 55), some (.int x1), some (.int x2), some (.int x3), none, none, none, none, none, none, none, none, none, none] [] M := ⟨(fxs_55 hW), 65, (fxr_55_16 hW), ⟨414, (fxs_65 hW), h.1, (fun y8 e8 => have h8 := h.2 y8 e8; (vcX13_attacks_10 hW  h8))⟩⟩
theorem vX13_attacks_63 {mc ms : Nat} {X : Nat → zV} {Q : zQt} {M : zM}  (hW : zFix M)  (h : Q (some (.int 0)) M) : aX13_attacks_63 mc ms X Q 0 0 [none, none, none, none, none, none, none, none, none, none, none, none, none, none] [] M := ⟨rfl, h⟩
theorem vX13_attacks_90 {mc ms : Nat} {X : Nat → zV} {Q : zQt} {M : zM} {s0 : Int32} {s1 : Int32} (hW : zFix M)  (h : (s1 = s0 → X 98 0 0 [] [.int 1] M) ∧ (¬ s1 = s0 → X 97 0 0 [] [] M)) : aX13_attacks_90 mc ms X Q 0 0 [none, none, none, none, none, none, none, none, none, none, none, none, none, none] [.int s0, .int s1] M := ⟨fun c90 => (h.1 c90), fun c90 => (h.2 c90)⟩
theorem vX13_attacks_97 {mc ms : Nat} {X : Nat → zV} {Q : zQt} {M : zM}  (hW : zFix M)  (h : X 98 0 0 [] [.int 0] M) : aX13_attacks_97 mc ms X Q 0 0 [none, none, none, none, none, none, none, none, none, none, none, none, none, none] [] M := h
theorem vX13_attacks_98 {mc ms : Nat} {X : Nat → zV} {Q : zQt} {M : zM} {s0 : Int32} (hW : zFix M)  (h : narrow .boolean (.int s0) = .int s0 ∧ Q (some (.int s0)) M) : aX13_attacks_98 mc ms X Q 0 0 [none, none, none, none, none, none, none, none, none, none, none, none, none, none] [.int s0] M := h
theorem vX13_attacks_119 {mc ms : Nat} {X : Nat → zV} {Q : zQt} {M : zM} {s0 : Int32} (hW : zFix M)  (h : narrow .boolean (.int s0) = .int s0 ∧ Q (some (.int s0)) M) : aX13_attacks_119 mc ms X Q 0 0 [none, none, none, none, none, none, none, none, none, none, none, none, none, none] [.int s0] M := h
theorem vX13_attacks_143 {mc ms : Nat} {X : Nat → zV} {Q : zQt} {M : zM}  (hW : zFix M)  (h : X 144 0 0 [] [.int 0] M) : aX13_attacks_143 mc ms X Q 0 0 [none, none, none, none, none, none, none, none, none, none, none, none, none, none] [] M := h
theorem vX13_attacks_144 {mc ms : Nat} {X : Nat → zV} {Q : zQt} {M : zM} {s0 : Int32} (hW : zFix M)  (h : narrow .boolean (.int s0) = .int s0 ∧ Q (some (.int s0)) M) : aX13_attacks_144 mc ms X Q 0 0 [none, none, none, none, none, none, none, none, none, none, none, none, none, none] [.int s0] M := h
theorem vX13_attacks_155 {mc ms : Nat} {X : Nat → zV} {Q : zQt} {M : zM} {x1 : Int32} {x2 : Int32} {x3 : Int32} {x5 : Int32} {x6 : Int32} {x7 : Int32} {x8 : Int32} {x9 : Int32} (hW : zFix M)  (h : X 160 0 0 [.ref 55, .int x1, .int x2, .int x3, .int x5, .int x6, .int x7, .int x8, .int x9] [.int 1] M) : aX13_attacks_155 mc ms X Q 0 0 [some (.ref 55), some (.int x1), some (.int x2), some (.int x3), none, some (.int x5), some (.int x6), some (.int x7), some (.int x8), some (.int x9), none, none, none, none] [] M := h
theorem vX13_attacks_160 {mc ms : Nat} {X : Nat → zV} {Q : zQt} {M : zM} {x1 : Int32} {x2 : Int32} {x3 : Int32} {x5 : Int32} {x6 : Int32} {x7 : Int32} {x8 : Int32} {x9 : Int32} {s0 : Int32} (hW : zFix M)  (h : (s0 = 0 → X 173 0 0 [.ref 55, .int x1, .int x2, .int x3, .int x5, .int x6, .int x7, .int x8, .int x9] [] M) ∧ (¬ s0 = 0 → (x5 = (3 : Int32) → X 173 0 0 [.ref 55, .int x1, .int x2, .int x3, .int x5, .int x6, .int x7, .int x8, .int x9] [] M) ∧ (¬ x5 = (3 : Int32) → X 186 0 0 [.ref 55, .int x1, .int x2, .int x3, .int x6, .int x7] [] M))) : aX13_attacks_160 mc ms X Q 0 0 [some (.ref 55), some (.int x1), some (.int x2), some (.int x3), none, some (.int x5), some (.int x6), some (.int x7), some (.int x8), some (.int x9), none, none, none, none] [.int s0] M := ⟨fun c164 => (h.1 c164), fun c164 => ⟨fun c170 => ((h.2 c164).1 c170), fun c170 => ((h.2 c164).2 c170)⟩⟩
theorem vX13_attacks_173 {mc ms : Nat} {X : Nat → zV} {Q : zQt} {M : zM} {x1 : Int32} {x2 : Int32} {x3 : Int32} {x5 : Int32} {x6 : Int32} {x7 : Int32} {x8 : Int32} {x9 : Int32} (hW : zFix M)  (h : (x8 = x9 → (x5 = (4 : Int32) → X 190 0 0 [.ref 55, .int x1, .int x2, .int x3, .int x6, .int x7] [] M) ∧ (¬ x5 = (4 : Int32) → X 186 0 0 [.ref 55, .int x1, .int x2, .int x3, .int x6, .int x7] [] M)) ∧ (¬ x8 = x9 → X 190 0 0 [.ref 55, .int x1, .int x2, .int x3, .int x6, .int x7] [] M)) : aX13_attacks_173 mc ms X Q 0 0 [some (.ref 55), some (.int x1), some (.int x2), some (.int x3), none, some (.int x5), some (.int x6), some (.int x7), some (.int x8), some (.int x9), none, none, none, none] [] M := ⟨fun c177 => ⟨fun c183 => ((h.1 c177).1 c183), fun c183 => ((h.1 c177).2 c183)⟩, fun c177 => (h.2 c177)⟩
theorem vX13_attacks_186 {mc ms : Nat} {X : Nat → zV} {Q : zQt} {M : zM} {x1 : Int32} {x2 : Int32} {x3 : Int32} {x6 : Int32} {x7 : Int32} (hW : zFix M)  (h : X 191 0 0 [.ref 55, .int x1, .int x2, .int x3, .int x6, .int x7] [.int 1] M) : aX13_attacks_186 mc ms X Q 0 0 [some (.ref 55), some (.int x1), some (.int x2), some (.int x3), none, none, some (.int x6), some (.int x7), none, none, none, none, none, none] [] M := h
theorem vX13_attacks_190 {mc ms : Nat} {X : Nat → zV} {Q : zQt} {M : zM} {x1 : Int32} {x2 : Int32} {x3 : Int32} {x6 : Int32} {x7 : Int32} (hW : zFix M)  (h : X 191 0 0 [.ref 55, .int x1, .int x2, .int x3, .int x6, .int x7] [.int 0] M) : aX13_attacks_190 mc ms X Q 0 0 [some (.ref 55), some (.int x1), some (.int x2), some (.int x3), none, none, some (.int x6), some (.int x7), none, none, none, none, none, none] [] M := h
theorem vX13_attacks_191 {mc ms : Nat} {X : Nat → zV} {Q : zQt} {M : zM} {x1 : Int32} {x2 : Int32} {x3 : Int32} {x6 : Int32} {x7 : Int32} {s0 : Int32} (hW : zFix M)  (h : (x7 ≤ 0 → (0 ≤ x7 → X 214 0 0 [.ref 55, .int x1, .int x2, .int x3, .int x6, .int s0] [.int 0] M) ∧ (¬ 0 ≤ x7 → X 214 0 0 [.ref 55, .int x1, .int x2, .int x3, .int x6, .int s0] [.int (-8)] M)) ∧ (¬ x7 ≤ 0 → X 214 0 0 [.ref 55, .int x1, .int x2, .int x3, .int x6, .int s0] [.int 8] M)) : aX13_attacks_191 mc ms X Q 0 0 [some (.ref 55), some (.int x1), some (.int x2), some (.int x3), none, none, some (.int x6), some (.int x7), none, none, none, none, none, none] [.int s0] M := ⟨fun c195 => ⟨fun c205 => ((h.1 c195).1 c205), fun c205 => ((h.1 c195).2 c205)⟩, fun c195 => (h.2 c195)⟩
theorem vX13_attacks_214 {mc ms : Nat} {X : Nat → zV} {Q : zQt} {M : zM} {x1 : Int32} {x2 : Int32} {x3 : Int32} {x6 : Int32} {x11 : Int32} {s0 : Int32} (hW : zFix M)  (h : (x6 ≤ 0 → (0 ≤ x6 → X 233 0 0 [.ref 55, .int x1, .int x2, .int x3, .int x11] [.int 0, .int s0] M) ∧ (¬ 0 ≤ x6 → X 233 0 0 [.ref 55, .int x1, .int x2, .int x3, .int x11] [.int (-1), .int s0] M)) ∧ (¬ x6 ≤ 0 → X 233 0 0 [.ref 55, .int x1, .int x2, .int x3, .int x11] [.int 1, .int s0] M)) : aX13_attacks_214 mc ms X Q 0 0 [some (.ref 55), some (.int x1), some (.int x2), some (.int x3), none, none, some (.int x6), none, none, none, none, some (.int x11), none, none] [.int s0] M := ⟨fun c216 => ⟨fun c225 => ((h.1 c216).1 c225), fun c225 => ((h.1 c216).2 c225)⟩, fun c216 => (h.2 c216)⟩
theorem vX13_attacks_233 {mc ms : Nat} {X : Nat → zV} {Q : zQt} {M : zM} {x1 : Int32} {x2 : Int32} {x3 : Int32} {x11 : Int32} {s0 : Int32} {s1 : Int32} (hW : zFix M)  (h : X 242 0 0 [.ref 55, .int x1, .int x3, .int x11, .int (s1 + s0), .int (x2 + (s1 + s0))] [] M) : aX13_attacks_233 mc ms X Q 0 0 [some (.ref 55), some (.int x1), some (.int x2), some (.int x3), none, none, none, none, none, none, none, some (.int x11), none, none] [.int s0, .int s1] M := h
theorem vX13_attacks_242 {mc ms : Nat} {X : Nat → zV} {Q : zQt} {M : zM} {x1 : Int32} {x3 : Int32} {x11 : Int32} {x12 : Int32} {x13 : Int32} (hW : zFix M)  (h : (x11 = 0 → X 282 0 0 [.int x11] [] M) ∧ (¬ x11 = 0 → (x13 = x3 → X 282 0 0 [.int x11] [] M) ∧ (¬ x13 = x3 → vp_in ((x1 + x13)) 414 ∧ (((M : zM).1 65 ((x1 + x13) : Int32).toNatClampNeg) = 0 → X 270 0 0 [.ref 55, .int x1, .int x3, .int x12, .int x13] [.int 1] M) ∧ (¬ ((M : zM).1 65 ((x1 + x13) : Int32).toNatClampNeg) = 0 → X 270 0 0 [.ref 55, .int x1, .int x3, .int x12, .int x13] [.int 0] M)))) : aX13_attacks_242 mc ms X Q 0 0 [some (.ref 55), some (.int x1), none, some (.int x3), none, none, none, none, none, none, none, some (.int x11), some (.int x12), some (.int x13)] [] M := ⟨fun c244 => (h.1 c244), fun c244 => ⟨fun c250 => ((h.2 c244).1 c250), fun c250 => ⟨(fxs_55 hW), 65, (fxr_55_16 hW), ⟨414, (fxs_65 hW), ((h.2 c244).2 c250).1, ⟨fun c262 => (((h.2 c244).2 c250).2.1 c262), fun c262 => (((h.2 c244).2 c250).2.2 c262)⟩⟩⟩⟩⟩
theorem vX13_attacks_270 {mc ms : Nat} {X : Nat → zV} {Q : zQt} {M : zM} {x1 : Int32} {x3 : Int32} {x12 : Int32} {x13 : Int32} {s0 : Int32} (hW : zFix M)  (h : X 242 0 0 [.ref 55, .int x1, .int x3, .int s0, .int x12, .int (x13 + x12)] [] M) : aX13_attacks_270 mc ms X Q 0 0 [some (.ref 55), some (.int x1), none, some (.int x3), none, none, none, none, none, none, none, none, some (.int x12), some (.int x13)] [.int s0] M := h
theorem vX13_attacks_282 {mc ms : Nat} {X : Nat → zV} {Q : zQt} {M : zM} {x11 : Int32} (hW : zFix M)  (h : narrow .boolean (.int x11) = .int x11 ∧ Q (some (.int x11)) M) : aX13_attacks_282 mc ms X Q 0 0 [none, none, none, none, none, none, none, none, none, none, none, some (.int x11), none, none] [] M := h
theorem vcX13_attacks_39 {mc ms : Nat} {X : Nat → zV} {Q : zQt} {M : zM} {x1 : Int32} {x2 : Int32} {x3 : Int32} {x4 : Int32} {x5 : Int32} {x6 : Int32} {x7 : Int32} (hW : zFix M)  (h : wX13_amount 0 0 [.int x6] M (fun r M1 => kX13_attacks_44 mc ms X Q 0 0 [some (.ref 55), some (.int x1), some (.int x2), some (.int x3), some (.int x4), some (.int x5), some (.int x6), some (.int x7), none, none, none, none, none, none] (r.toList ++ []) M1)) : kX13_attacks_39 mc ms X Q 0 0 [some (.ref 55), some (.int x1), some (.int x2), some (.int x3), some (.int x4), some (.int x5), some (.int x6), some (.int x7), none, none, none, none, none, none] [] M := ⟨Nat.le_of_ble_eq_true rfl, rfl, 0, 0, Nat.zero_le _, Nat.zero_le _, h⟩
theorem vcX13_attacks_28 {mc ms : Nat} {X : Nat → zV} {Q : zQt} {M : zM} {x1 : Int32} {x2 : Int32} {x3 : Int32} {x4 : Int32} {x5 : Int32} {x6 : Int32} (hW : zFix M)  (h : ∀ y37 : Int32, y37 = ((x3 / (8 : Int32)) - (x2 / (8 : Int32))) → wX13_amount 0 0 [.int x6] M (fun r M1 => kX13_attacks_44 mc ms X Q 0 0 [some (.ref 55), some (.int x1), some (.int x2), some (.int x3), some (.int x4), some (.int x5), some (.int x6), some (.int y37), none, none, none, none, none, none] (r.toList ++ []) M1)) : kX13_attacks_28 mc ms X Q 0 0 [some (.ref 55), some (.int x1), some (.int x2), some (.int x3), some (.int x4), some (.int x5), some (.int x6), none, none, none, none, none, none, none] [] M := ⟨by decide, ⟨by decide, (fun y37 e37 => have h37 := h y37 e37; (vcX13_attacks_39 hW  h37))⟩⟩
theorem vkX13_attacks_15 {mc ms : Nat} {X : Nat → zV} {Q : zQt} {M : zM} {x1 : Int32} {x2 : Int32} {x3 : Int32} {x4 : Int32} {s0 : Int32} (hW : zFix M)  (h : ∀ y26 : Int32, y26 = ((x3 - x3 / (8 : Int32) * (8 : Int32)) - (x2 - x2 / (8 : Int32) * (8 : Int32))) → ∀ y37 : Int32, y37 = ((x3 / (8 : Int32)) - (x2 / (8 : Int32))) → wX13_amount 0 0 [.int y26] M (fun r M1 => kX13_attacks_44 mc ms X Q 0 0 [some (.ref 55), some (.int x1), some (.int x2), some (.int x3), some (.int x4), some (.int s0), some (.int y26), some (.int y37), none, none, none, none, none, none] (r.toList ++ []) M1)) : kX13_attacks_15 mc ms X Q 0 0 [some (.ref 55), some (.int x1), some (.int x2), some (.int x3), some (.int x4), none, none, none, none, none, none, none, none, none] [.int s0] M := ⟨by decide, ⟨by decide, (fun y26 e26 => have h26 := h y26 e26; (vcX13_attacks_28 hW  h26))⟩⟩
theorem vkX13_attacks_44 {mc ms : Nat} {X : Nat → zV} {Q : zQt} {M : zM} {x1 : Int32} {x2 : Int32} {x3 : Int32} {x4 : Int32} {x5 : Int32} {x6 : Int32} {x7 : Int32} {s0 : Int32} (hW : zFix M)  (h : wX13_amount 0 0 [.int x7] M (fun r M1 => kX13_attacks_51 mc ms X Q 0 0 [some (.ref 55), some (.int x1), some (.int x2), some (.int x3), some (.int x4), some (.int x5), some (.int x6), some (.int x7), some (.int s0), none, none, none, none, none] (r.toList ++ []) M1)) : kX13_attacks_44 mc ms X Q 0 0 [some (.ref 55), some (.int x1), some (.int x2), some (.int x3), some (.int x4), some (.int x5), some (.int x6), some (.int x7), none, none, none, none, none, none] [.int s0] M := ⟨Nat.le_of_ble_eq_true rfl, rfl, 0, 0, Nat.zero_le _, Nat.zero_le _, h⟩
theorem vkX13_attacks_51 {mc ms : Nat} {X : Nat → zV} {Q : zQt} {M : zM} {x1 : Int32} {x2 : Int32} {x3 : Int32} {x4 : Int32} {x5 : Int32} {x6 : Int32} {x7 : Int32} {x8 : Int32} {s0 : Int32} (hW : zFix M)  (h : (x5 = 0 → X 63 0 0 [] [] M) ∧ (¬ x5 = 0 → (x2 = x3 → X 63 0 0 [] [] M) ∧ (¬ x2 = x3 → (x5 = (1 : Int32) → (x8 = (1 : Int32) → (x4 = (1 : Int32) → X 90 0 0 [] [.int 1, .int x7] M) ∧ (¬ x4 = (1 : Int32) → X 90 0 0 [] [.int (-1), .int x7] M)) ∧ (¬ x8 = (1 : Int32) → X 97 0 0 [] [] M)) ∧ (¬ x5 = (1 : Int32) → (x5 = (2 : Int32) → ((x8 * s0) = (2 : Int32) → X 119 0 0 [] [.int 1] M) ∧ (¬ (x8 * s0) = (2 : Int32) → X 119 0 0 [] [.int 0] M)) ∧ (¬ x5 = (2 : Int32) → (x5 = (6 : Int32) → ((2 : Int32) ≤ x8 → X 143 0 0 [] [] M) ∧ (¬ (2 : Int32) ≤ x8 → ((2 : Int32) ≤ s0 → X 143 0 0 [] [] M) ∧ (¬ (2 : Int32) ≤ s0 → X 144 0 0 [] [.int 1] M))) ∧ (¬ x5 = (6 : Int32) → (x8 = 0 → X 155 0 0 [.ref 55, .int x1, .int x2, .int x3, .int x5, .int x6, .int x7, .int x8, .int s0] [] M) ∧ (¬ x8 = 0 → (s0 = 0 → X 155 0 0 [.ref 55, .int x1, .int x2, .int x3, .int x5, .int x6, .int x7, .int x8, .int s0] [] M) ∧ (¬ s0 = 0 → X 160 0 0 [.ref 55, .int x1, .int x2, .int x3, .int x5, .int x6, .int x7, .int x8, .int s0] [.int 0] M)))))))) : kX13_attacks_51 mc ms X Q 0 0 [some (.ref 55), some (.int x1), some (.int x2), some (.int x3), some (.int x4), some (.int x5), some (.int x6), some (.int x7), some (.int x8), none, none, none, none, none] [.int s0] M := ⟨fun c55 => (h.1 c55), fun c55 => ⟨fun c60 => ((h.2 c55).1 c60), fun c60 => ⟨fun c68 => ⟨fun c74 => ⟨fun c82 => (((((h.2 c55).2 c60).1 c68).1 c74).1 c82), fun c82 => (((((h.2 c55).2 c60).1 c68).1 c74).2 c82)⟩, fun c74 => ((((h.2 c55).2 c60).1 c68).2 c74)⟩, fun c68 => ⟨fun c102 => ⟨fun c111 => (((((h.2 c55).2 c60).2 c68).1 c102).1 c111), fun c111 => (((((h.2 c55).2 c60).2 c68).1 c102).2 c111)⟩, fun c102 => ⟨fun c124 => ⟨fun c130 => ((((((h.2 c55).2 c60).2 c68).2 c102).1 c124).1 c130), fun c130 => ⟨fun c136 => (((((((h.2 c55).2 c60).2 c68).2 c102).1 c124).2 c130).1 c136), fun c136 => (((((((h.2 c55).2 c60).2 c68).2 c102).1 c124).2 c130).2 c136)⟩⟩, fun c124 => ⟨fun c147 => ((((((h.2 c55).2 c60).2 c68).2 c102).2 c124).1 c147), fun c147 => ⟨fun c152 => (((((((h.2 c55).2 c60).2 c68).2 c102).2 c124).2 c147).1 c152), fun c152 => (((((((h.2 c55).2 c60).2 c68).2 c102).2 c124).2 c147).2 c152)⟩⟩⟩⟩⟩⟩⟩
theorem dX13_isAttacked_0 : decode cX13_isAttacked 0 = .ok (.iconst 0, 1) := by decide +kernel
theorem dX13_isAttacked_1 : decode cX13_isAttacked 1 = .ok (.istore 4, 2) := by decide +kernel
theorem dX13_isAttacked_3 : decode cX13_isAttacked 3 = .ok (.iload 4, 2) := by decide +kernel
theorem dX13_isAttacked_5 : decode cX13_isAttacked 5 = .ok (.bipush 64, 2) := by decide +kernel
theorem dX13_isAttacked_7 : decode cX13_isAttacked 7 = .ok (.if_icmp .ge 38, 3) := by decide +kernel
theorem dX13_isAttacked_10 : decode cX13_isAttacked 10 = .ok (.aload_n 0, 1) := by decide +kernel
theorem dX13_isAttacked_11 : decode cX13_isAttacked 11 = .ok (.getfield 43, 3) := by decide +kernel
theorem dX13_isAttacked_14 : decode cX13_isAttacked 14 = .ok (.iload_n 1, 1) := by decide +kernel
theorem dX13_isAttacked_15 : decode cX13_isAttacked 15 = .ok (.iload 4, 2) := by decide +kernel
theorem dX13_isAttacked_17 : decode cX13_isAttacked 17 = .ok (.iadd, 1) := by decide +kernel
theorem dX13_isAttacked_18 : decode cX13_isAttacked 18 = .ok (.iaload, 1) := by decide +kernel
theorem dX13_isAttacked_19 : decode cX13_isAttacked 19 = .ok (.invokestatic 78, 3) := by decide +kernel
theorem dX13_isAttacked_22 : decode cX13_isAttacked 22 = .ok (.iload_n 3, 1) := by decide +kernel
theorem dX13_isAttacked_23 : decode cX13_isAttacked 23 = .ok (.if_icmp .ne 16, 3) := by decide +kernel
theorem dX13_isAttacked_26 : decode cX13_isAttacked 26 = .ok (.aload_n 0, 1) := by decide +kernel
theorem dX13_isAttacked_27 : decode cX13_isAttacked 27 = .ok (.iload_n 1, 1) := by decide +kernel
theorem dX13_isAttacked_28 : decode cX13_isAttacked 28 = .ok (.iload 4, 2) := by decide +kernel
theorem dX13_isAttacked_30 : decode cX13_isAttacked 30 = .ok (.iload_n 2, 1) := by decide +kernel
theorem dX13_isAttacked_31 : decode cX13_isAttacked 31 = .ok (.invokevirtual 81, 3) := by decide +kernel
theorem dX13_isAttacked_34 : decode cX13_isAttacked 34 = .ok (.ifCond .eq 5, 3) := by decide +kernel
theorem dX13_isAttacked_37 : decode cX13_isAttacked 37 = .ok (.iconst 1, 1) := by decide +kernel
theorem dX13_isAttacked_38 : decode cX13_isAttacked 38 = .ok (.ireturn, 1) := by decide +kernel
theorem dX13_isAttacked_39 : decode cX13_isAttacked 39 = .ok (.iinc 4 1, 3) := by decide +kernel
theorem dX13_isAttacked_42 : decode cX13_isAttacked 42 = .ok (.goto (-39), 3) := by decide +kernel
theorem dX13_isAttacked_45 : decode cX13_isAttacked 45 = .ok (.iconst 0, 1) := by decide +kernel
theorem dX13_isAttacked_46 : decode cX13_isAttacked 46 = .ok (.ireturn, 1) := by decide +kernel
def kX13_isAttacked_34 (mc ms : Nat) (X : Nat → zV) (Q : zQt) : zT :=
  zif (fun x => x = 0) (zj X 39 [0, 1, 2, 3, 4]) <| zc (.int 1) <| zrz .boolean Q
def kX13_isAttacked_22 (mc ms : Nat) (X : Nat → zV) (Q : zQt) : zT :=
  zli 3 <| zic (fun x y => x = y) (zla 0 <| zli 1 <| zli 4 <| zli 2 <| zcv mc ms 13 3 wX13_attacks <| kX13_isAttacked_34 mc ms X Q) <| zj X 39 [0, 1, 2, 3, 4]
def aX13_isAttacked_0 (mc ms : Nat) (X : Nat → zV) (Q : zQt) : zT :=
  zc (.int 0) <| zsi 4 <| zj X 3 [0, 1, 2, 3, 4]
def aX13_isAttacked_3 (mc ms : Nat) (X : Nat → zV) (Q : zQt) : zT :=
  zli 4 <| zc (.int 64) <| zic (fun x y => y ≤ x) (zc (.int 0) <| zrz .boolean Q) <| zla 0 <| zgR 13 16 <| zli 1 <| zli 4 <| zii (fun x y => x + y) <| zal 1 <| zcs mc ms 1 wX13_sideOf <| kX13_isAttacked_22 mc ms X Q
def aX13_isAttacked_39 (mc ms : Nat) (X : Nat → zV) (Q : zQt) : zT :=
  zinc 4 1 <| zj X 3 [0, 1, 2, 3, 4]
def lvX13_isAttacked : Nat → List Nat := fun L => match L with
  | 0 => [0, 1, 2, 3]
  | 3 => [0, 1, 2, 3, 4]
  | 39 => [0, 1, 2, 3, 4]
  | _ => []
def wX13_isAttacked : zSp := fun mc ms av M Q => ((zlay av).length ≤ 5 ∧ zpick (zlay av) [0, 1, 2, 3] = some av) ∧ ∀ X : Nat → zV, zin 5 [0, 1, 2, 3] (aX13_isAttacked_0 mc ms X Q) X 0 → zin 5 [0, 1, 2, 3, 4] (aX13_isAttacked_3 mc ms X Q) X 3 → zin 5 [0, 1, 2, 3, 4] (aX13_isAttacked_39 mc ms X Q) X 39 → X 0 0 0 av [] M
set_option maxRecDepth 100000 in
set_option maxHeartbeats 4000000 in
theorem sX13_isAttacked (l : Launch) (G : zG) : zSnd l G yX13_isAttacked cX13_isAttacked 5 (some .boolean) 2 53 wX13_isAttacked := by
  refine zmk [0, 1, 2, 3] (by decide) (fun mc ms av M Q h => h.1) ?_
  intro p e R s m args below meth c mc ms av M Q hC hRf hRl hr hnm h lv hlv
  obtain ⟨X, hXe⟩ : ∃ X : Nat → zV, X = fun L u v vs st M => ∀ lv, zpick lv (lvX13_isAttacked L) = some vs → zAt p l e R s m args below meth c (MQ below (zQ G Q) args s mc ms (zA G)) G 5 L u v lv st M := ⟨_, rfl⟩
  have hJ : ∀ L, zOk p l e R s m args below meth c (MQ below (zQ G Q) args s mc ms (zA G)) G 5 L (zj X L (lvX13_isAttacked L)) := fun L => S_jump (fun u v lv vs st M hp hx => by rw [hXe] at hx; exact hx lv hp)
  have hB0 : zin 5 [0, 1, 2, 3] (aX13_isAttacked_0 mc ms X Q) X 0 := by
    intro u v vs st M hb
    rw [hXe]
    refine fun lv hp => S_block (L := 0) (live := [0, 1, 2, 3]) ?_ u v lv vs st M hp hb
    unfold aX13_isAttacked_0
    refine S_iconst (pc := 0) hC dX13_isAttacked_0 (by decide) ?_
    refine S_istore (pc := 1) hC dX13_isAttacked_1 (by decide) ?_
    exact hJ 3
  have hB3 : zin 5 [0, 1, 2, 3, 4] (aX13_isAttacked_3 mc ms X Q) X 3 := by
    intro u v vs st M hb
    rw [hXe]
    refine fun lv hp => S_block (L := 3) (live := [0, 1, 2, 3, 4]) ?_ u v lv vs st M hp hb
    unfold aX13_isAttacked_3
    refine S_iload (pc := 3) hC dX13_isAttacked_3 ?_
    refine S_bipush (pc := 5) hC dX13_isAttacked_5 (by decide) ?_
    refine S_icmp_ge (pc := 7) (tgt := 45) hC dX13_isAttacked_7 (by decide) ?_ ?_
    · refine S_iconst (pc := 45) hC dX13_isAttacked_45 (by decide) ?_
      exact S_zreturn (pc := 46) hC hr dX13_isAttacked_46
    · refine S_aload_n (pc := 10) hC dX13_isAttacked_10 rfl ?_
      refine S_getR (pc := 11) hC cfX13 (by decide) (Or.inr ⟨_, rfl⟩) wd_1271 dX13_isAttacked_11 ?_
      refine S_iload_n (pc := 14) hC dX13_isAttacked_14 rfl ?_
      refine S_iload (pc := 15) hC dX13_isAttacked_15 ?_
      refine S_iadd (pc := 17) hC dX13_isAttacked_17 ?_
      refine S_iaload (pc := 18) hC dX13_isAttacked_18 ?_
      refine S_callS (pc := 19) hC (sX13_sideOf l G) wd_1425 wd_1426 wd_12 wd_1427 (by decide +kernel) ⟨by rw [hRf]; decide, by rw [hRl]; decide⟩ dX13_isAttacked_19 ?_
      unfold kX13_isAttacked_22
      refine S_iload_n (pc := 22) hC dX13_isAttacked_22 rfl ?_
      refine S_icmp_ne (pc := 23) (tgt := 39) hC dX13_isAttacked_23 (by decide) ?_ ?_
      · exact hJ 39
      · refine S_aload_n (pc := 26) hC dX13_isAttacked_26 rfl ?_
        refine S_iload_n (pc := 27) hC dX13_isAttacked_27 rfl ?_
        refine S_iload (pc := 28) hC dX13_isAttacked_28 ?_
        refine S_iload_n (pc := 30) hC dX13_isAttacked_30 rfl ?_
        refine S_callV (pc := 31) hC (sX13_attacks l G) rfl wd_1428 wd_1430 ws_69 wd_12 wd_1431 (by decide +kernel) ⟨by rw [hRf]; decide, by rw [hRl]; decide⟩ dX13_isAttacked_31 ?_
        unfold kX13_isAttacked_34
        refine S_if_eq (pc := 34) (tgt := 39) hC dX13_isAttacked_34 (by decide) ?_ ?_
        · exact hJ 39
        · refine S_iconst (pc := 37) hC dX13_isAttacked_37 (by decide) ?_
          exact S_zreturn (pc := 38) hC hr dX13_isAttacked_38
  have hB39 : zin 5 [0, 1, 2, 3, 4] (aX13_isAttacked_39 mc ms X Q) X 39 := by
    intro u v vs st M hb
    rw [hXe]
    refine fun lv hp => S_block (L := 39) (live := [0, 1, 2, 3, 4]) ?_ u v lv vs st M hp hb
    unfold aX13_isAttacked_39
    refine S_iinc (pc := 39) hC dX13_isAttacked_39 (by decide) (by decide) ?_
    refine S_goto (pc := 42) (tgt := 3) hC dX13_isAttacked_42 (by decide) ?_
    exact hJ 3
  have := h.2 X hB0 hB3 hB39
  rw [hXe] at this
  exact this lv hlv
theorem vX13_isAttacked_0 {mc ms : Nat} {X : Nat → zV} {Q : zQt} {M : zM} {x1 : Int32} {x2 : Int32} {x3 : Int32} (hW : zFix M)  (h : X 3 0 0 [.ref 55, .int x1, .int x2, .int x3, .int 0] [] M) : aX13_isAttacked_0 mc ms X Q 0 0 [some (.ref 55), some (.int x1), some (.int x2), some (.int x3), none] [] M := h
theorem vX13_isAttacked_3 {mc ms : Nat} {X : Nat → zV} {Q : zQt} {M : zM} {x1 : Int32} {x2 : Int32} {x3 : Int32} {x4 : Int32} (hW : zFix M)  (h : ((64 : Int32) ≤ x4 → Q (some (.int 0)) M) ∧ (¬ (64 : Int32) ≤ x4 → vp_in ((x1 + x4)) 414 ∧ wX13_sideOf 0 0 [.int ((M : zM).1 65 ((x1 + x4) : Int32).toNatClampNeg)] M (fun r M1 => kX13_isAttacked_22 mc ms X Q 0 0 [some (.ref 55), some (.int x1), some (.int x2), some (.int x3), some (.int x4)] (r.toList ++ []) M1))) : aX13_isAttacked_3 mc ms X Q 0 0 [some (.ref 55), some (.int x1), some (.int x2), some (.int x3), some (.int x4)] [] M := ⟨fun c7 => ⟨rfl, (h.1 c7)⟩, fun c7 => ⟨(fxs_55 hW), 65, (fxr_55_16 hW), ⟨414, (fxs_65 hW), (h.2 c7).1, ⟨Nat.le_of_ble_eq_true rfl, rfl, 0, 0, Nat.zero_le _, Nat.zero_le _, (h.2 c7).2⟩⟩⟩⟩
theorem vX13_isAttacked_39 {mc ms : Nat} {X : Nat → zV} {Q : zQt} {M : zM} {x1 : Int32} {x2 : Int32} {x3 : Int32} {x4 : Int32} (hW : zFix M)  (h : X 3 0 0 [.ref 55, .int x1, .int x2, .int x3, .int (x4 + 1)] [] M) : aX13_isAttacked_39 mc ms X Q 0 0 [some (.ref 55), some (.int x1), some (.int x2), some (.int x3), some (.int x4)] [] M := h
theorem vkX13_isAttacked_22 {mc ms : Nat} {X : Nat → zV} {Q : zQt} {M : zM} {x1 : Int32} {x2 : Int32} {x3 : Int32} {x4 : Int32} {s0 : Int32} (hW : zFix M)  (h : (s0 = x3 → wX13_attacks 0 0 [.ref 55, .int x1, .int x4, .int x2] M (fun r M1 => kX13_isAttacked_34 mc ms X Q 0 0 [some (.ref 55), some (.int x1), some (.int x2), some (.int x3), some (.int x4)] (r.toList ++ []) M1)) ∧ (¬ s0 = x3 → X 39 0 0 [.ref 55, .int x1, .int x2, .int x3, .int x4] [] M)) : kX13_isAttacked_22 mc ms X Q 0 0 [some (.ref 55), some (.int x1), some (.int x2), some (.int x3), some (.int x4)] [.int s0] M := ⟨fun c23 => ⟨Nat.le_of_ble_eq_true rfl, rfl, (fxs_55 hW), 0, 0, Nat.zero_le _, Nat.zero_le _, (h.1 c23)⟩, fun c23 => (h.2 c23)⟩
theorem vkX13_isAttacked_34 {mc ms : Nat} {X : Nat → zV} {Q : zQt} {M : zM} {x1 : Int32} {x2 : Int32} {x3 : Int32} {x4 : Int32} {s0 : Int32} (hW : zFix M)  (h : (s0 = 0 → X 39 0 0 [.ref 55, .int x1, .int x2, .int x3, .int x4] [] M) ∧ (¬ s0 = 0 → Q (some (.int 1)) M)) : kX13_isAttacked_34 mc ms X Q 0 0 [some (.ref 55), some (.int x1), some (.int x2), some (.int x3), some (.int x4)] [.int s0] M := ⟨fun c34 => (h.1 c34), fun c34 => ⟨rfl, (h.2 c34)⟩⟩
theorem dX13_isChecked_0 : decode cX13_isChecked 0 = .ok (.iconst 0, 1) := by decide +kernel
theorem dX13_isChecked_1 : decode cX13_isChecked 1 = .ok (.istore_n 3, 1) := by decide +kernel
theorem dX13_isChecked_2 : decode cX13_isChecked 2 = .ok (.iconst 0, 1) := by decide +kernel
theorem dX13_isChecked_3 : decode cX13_isChecked 3 = .ok (.istore 4, 2) := by decide +kernel
theorem dX13_isChecked_5 : decode cX13_isChecked 5 = .ok (.iload 4, 2) := by decide +kernel
theorem dX13_isChecked_7 : decode cX13_isChecked 7 = .ok (.bipush 64, 2) := by decide +kernel
theorem dX13_isChecked_9 : decode cX13_isChecked 9 = .ok (.if_icmp .ge 35, 3) := by decide +kernel
theorem dX13_isChecked_12 : decode cX13_isChecked 12 = .ok (.aload_n 0, 1) := by decide +kernel
theorem dX13_isChecked_13 : decode cX13_isChecked 13 = .ok (.getfield 43, 3) := by decide +kernel
theorem dX13_isChecked_16 : decode cX13_isChecked 16 = .ok (.iload_n 1, 1) := by decide +kernel
theorem dX13_isChecked_17 : decode cX13_isChecked 17 = .ok (.iload 4, 2) := by decide +kernel
theorem dX13_isChecked_19 : decode cX13_isChecked 19 = .ok (.iadd, 1) := by decide +kernel
theorem dX13_isChecked_20 : decode cX13_isChecked 20 = .ok (.iaload, 1) := by decide +kernel
theorem dX13_isChecked_21 : decode cX13_isChecked 21 = .ok (.bipush 6, 2) := by decide +kernel
theorem dX13_isChecked_23 : decode cX13_isChecked 23 = .ok (.bipush 6, 2) := by decide +kernel
theorem dX13_isChecked_25 : decode cX13_isChecked 25 = .ok (.iload_n 2, 1) := by decide +kernel
theorem dX13_isChecked_26 : decode cX13_isChecked 26 = .ok (.imul, 1) := by decide +kernel
theorem dX13_isChecked_27 : decode cX13_isChecked 27 = .ok (.iadd, 1) := by decide +kernel
theorem dX13_isChecked_28 : decode cX13_isChecked 28 = .ok (.if_icmp .ne 8, 3) := by decide +kernel
theorem dX13_isChecked_31 : decode cX13_isChecked 31 = .ok (.iload 4, 2) := by decide +kernel
theorem dX13_isChecked_33 : decode cX13_isChecked 33 = .ok (.goto 4, 3) := by decide +kernel
theorem dX13_isChecked_36 : decode cX13_isChecked 36 = .ok (.iload_n 3, 1) := by decide +kernel
theorem dX13_isChecked_37 : decode cX13_isChecked 37 = .ok (.istore_n 3, 1) := by decide +kernel
theorem dX13_isChecked_38 : decode cX13_isChecked 38 = .ok (.iinc 4 1, 3) := by decide +kernel
theorem dX13_isChecked_41 : decode cX13_isChecked 41 = .ok (.goto (-36), 3) := by decide +kernel
theorem dX13_isChecked_44 : decode cX13_isChecked 44 = .ok (.aload_n 0, 1) := by decide +kernel
theorem dX13_isChecked_45 : decode cX13_isChecked 45 = .ok (.iload_n 1, 1) := by decide +kernel
theorem dX13_isChecked_46 : decode cX13_isChecked 46 = .ok (.iload_n 3, 1) := by decide +kernel
theorem dX13_isChecked_47 : decode cX13_isChecked 47 = .ok (.iconst 1, 1) := by decide +kernel
theorem dX13_isChecked_48 : decode cX13_isChecked 48 = .ok (.iload_n 2, 1) := by decide +kernel
theorem dX13_isChecked_49 : decode cX13_isChecked 49 = .ok (.isub, 1) := by decide +kernel
theorem dX13_isChecked_50 : decode cX13_isChecked 50 = .ok (.invokevirtual 85, 3) := by decide +kernel
theorem dX13_isChecked_53 : decode cX13_isChecked 53 = .ok (.ireturn, 1) := by decide +kernel
def kX13_isChecked_53 (mc ms : Nat) (X : Nat → zV) (Q : zQt) : zT :=
  zrz .boolean Q
def aX13_isChecked_0 (mc ms : Nat) (X : Nat → zV) (Q : zQt) : zT :=
  zc (.int 0) <| zsi 3 <| zc (.int 0) <| zsi 4 <| zj X 5 [0, 1, 2, 3, 4]
def aX13_isChecked_5 (mc ms : Nat) (X : Nat → zV) (Q : zQt) : zT :=
  zli 4 <| zc (.int 64) <| zic (fun x y => y ≤ x) (zla 0 <| zli 1 <| zli 3 <| zc (.int 1) <| zli 2 <| zii (fun x y => x - y) <| zcv mc ms 13 3 wX13_isAttacked <| kX13_isChecked_53 mc ms X Q) <| zla 0 <| zgR 13 16 <| zli 1 <| zli 4 <| zii (fun x y => x + y) <| zal 1 <| zc (.int 6) <| zc (.int 6) <| zli 2 <| zii (fun x y => x * y) <| zii (fun x y => x + y) <| zic (fun x y => x = y) (zli 4 <| zj X 37 [0, 1, 2, 4]) <| zli 3 <| zj X 37 [0, 1, 2, 4]
def aX13_isChecked_37 (mc ms : Nat) (X : Nat → zV) (Q : zQt) : zT :=
  zsi 3 <| zinc 4 1 <| zj X 5 [0, 1, 2, 3, 4]
def lvX13_isChecked : Nat → List Nat := fun L => match L with
  | 0 => [0, 1, 2]
  | 5 => [0, 1, 2, 3, 4]
  | 37 => [0, 1, 2, 4]
  | _ => []
def wX13_isChecked : zSp := fun mc ms av M Q => ((zlay av).length ≤ 5 ∧ zpick (zlay av) [0, 1, 2] = some av) ∧ ∀ X : Nat → zV, zin 5 [0, 1, 2] (aX13_isChecked_0 mc ms X Q) X 0 → zin 5 [0, 1, 2, 3, 4] (aX13_isChecked_5 mc ms X Q) X 5 → zin 5 [0, 1, 2, 4] (aX13_isChecked_37 mc ms X Q) X 37 → X 0 0 0 av [] M
set_option maxRecDepth 100000 in
set_option maxHeartbeats 4000000 in
theorem sX13_isChecked (l : Launch) (G : zG) : zSnd l G yX13_isChecked cX13_isChecked 5 (some .boolean) 3 77 wX13_isChecked := by
  refine zmk [0, 1, 2] (by decide) (fun mc ms av M Q h => h.1) ?_
  intro p e R s m args below meth c mc ms av M Q hC hRf hRl hr hnm h lv hlv
  obtain ⟨X, hXe⟩ : ∃ X : Nat → zV, X = fun L u v vs st M => ∀ lv, zpick lv (lvX13_isChecked L) = some vs → zAt p l e R s m args below meth c (MQ below (zQ G Q) args s mc ms (zA G)) G 5 L u v lv st M := ⟨_, rfl⟩
  have hJ : ∀ L, zOk p l e R s m args below meth c (MQ below (zQ G Q) args s mc ms (zA G)) G 5 L (zj X L (lvX13_isChecked L)) := fun L => S_jump (fun u v lv vs st M hp hx => by rw [hXe] at hx; exact hx lv hp)
  have hB0 : zin 5 [0, 1, 2] (aX13_isChecked_0 mc ms X Q) X 0 := by
    intro u v vs st M hb
    rw [hXe]
    refine fun lv hp => S_block (L := 0) (live := [0, 1, 2]) ?_ u v lv vs st M hp hb
    unfold aX13_isChecked_0
    refine S_iconst (pc := 0) hC dX13_isChecked_0 (by decide) ?_
    refine S_istore_n (pc := 1) hC dX13_isChecked_1 rfl (by decide) ?_
    refine S_iconst (pc := 2) hC dX13_isChecked_2 (by decide) ?_
    refine S_istore (pc := 3) hC dX13_isChecked_3 (by decide) ?_
    exact hJ 5
  have hB5 : zin 5 [0, 1, 2, 3, 4] (aX13_isChecked_5 mc ms X Q) X 5 := by
    intro u v vs st M hb
    rw [hXe]
    refine fun lv hp => S_block (L := 5) (live := [0, 1, 2, 3, 4]) ?_ u v lv vs st M hp hb
    unfold aX13_isChecked_5
    refine S_iload (pc := 5) hC dX13_isChecked_5 ?_
    refine S_bipush (pc := 7) hC dX13_isChecked_7 (by decide) ?_
    refine S_icmp_ge (pc := 9) (tgt := 44) hC dX13_isChecked_9 (by decide) ?_ ?_
    · refine S_aload_n (pc := 44) hC dX13_isChecked_44 rfl ?_
      refine S_iload_n (pc := 45) hC dX13_isChecked_45 rfl ?_
      refine S_iload_n (pc := 46) hC dX13_isChecked_46 rfl ?_
      refine S_iconst (pc := 47) hC dX13_isChecked_47 (by decide) ?_
      refine S_iload_n (pc := 48) hC dX13_isChecked_48 rfl ?_
      refine S_isub (pc := 49) hC dX13_isChecked_49 ?_
      refine S_callV (pc := 50) hC (sX13_isAttacked l G) rfl wd_1421 wd_1423 ws_68 wd_12 wd_1424 (by decide +kernel) ⟨by rw [hRf]; decide, by rw [hRl]; decide⟩ dX13_isChecked_50 ?_
      unfold kX13_isChecked_53
      exact S_zreturn (pc := 53) hC hr dX13_isChecked_53
    · refine S_aload_n (pc := 12) hC dX13_isChecked_12 rfl ?_
      refine S_getR (pc := 13) hC cfX13 (by decide) (Or.inr ⟨_, rfl⟩) wd_1271 dX13_isChecked_13 ?_
      refine S_iload_n (pc := 16) hC dX13_isChecked_16 rfl ?_
      refine S_iload (pc := 17) hC dX13_isChecked_17 ?_
      refine S_iadd (pc := 19) hC dX13_isChecked_19 ?_
      refine S_iaload (pc := 20) hC dX13_isChecked_20 ?_
      refine S_bipush (pc := 21) hC dX13_isChecked_21 (by decide) ?_
      refine S_bipush (pc := 23) hC dX13_isChecked_23 (by decide) ?_
      refine S_iload_n (pc := 25) hC dX13_isChecked_25 rfl ?_
      refine S_imul (pc := 26) hC dX13_isChecked_26 ?_
      refine S_iadd (pc := 27) hC dX13_isChecked_27 ?_
      refine S_icmp_ne (pc := 28) (tgt := 36) hC dX13_isChecked_28 (by decide) ?_ ?_
      · refine S_iload_n (pc := 36) hC dX13_isChecked_36 rfl ?_
        exact hJ 37
      · refine S_iload (pc := 31) hC dX13_isChecked_31 ?_
        refine S_goto (pc := 33) (tgt := 37) hC dX13_isChecked_33 (by decide) ?_
        exact hJ 37
  have hB37 : zin 5 [0, 1, 2, 4] (aX13_isChecked_37 mc ms X Q) X 37 := by
    intro u v vs st M hb
    rw [hXe]
    refine fun lv hp => S_block (L := 37) (live := [0, 1, 2, 4]) ?_ u v lv vs st M hp hb
    unfold aX13_isChecked_37
    refine S_istore_n (pc := 37) hC dX13_isChecked_37 rfl (by decide) ?_
    refine S_iinc (pc := 38) hC dX13_isChecked_38 (by decide) (by decide) ?_
    refine S_goto (pc := 41) (tgt := 5) hC dX13_isChecked_41 (by decide) ?_
    exact hJ 5
  have := h.2 X hB0 hB5 hB37
  rw [hXe] at this
  exact this lv hlv
theorem vX13_isChecked_0 {mc ms : Nat} {X : Nat → zV} {Q : zQt} {M : zM} {x1 : Int32} {x2 : Int32} (hW : zFix M)  (h : X 5 0 0 [.ref 55, .int x1, .int x2, .int 0, .int 0] [] M) : aX13_isChecked_0 mc ms X Q 0 0 [some (.ref 55), some (.int x1), some (.int x2), none, none] [] M := h
theorem vX13_isChecked_5 {mc ms : Nat} {X : Nat → zV} {Q : zQt} {M : zM} {x1 : Int32} {x2 : Int32} {x3 : Int32} {x4 : Int32} (hW : zFix M)  (h : ((64 : Int32) ≤ x4 → wX13_isAttacked 0 0 [.ref 55, .int x1, .int x3, .int ((1 : Int32) - x2)] M (fun r M1 => kX13_isChecked_53 mc ms X Q 0 0 [some (.ref 55), some (.int x1), some (.int x2), some (.int x3), some (.int x4)] (r.toList ++ []) M1)) ∧ (¬ (64 : Int32) ≤ x4 → vp_in ((x1 + x4)) 414 ∧ (((M : zM).1 65 ((x1 + x4) : Int32).toNatClampNeg) = ((6 : Int32) + ((6 : Int32) * x2)) → X 37 0 0 [.ref 55, .int x1, .int x2, .int x4] [.int x4] M) ∧ (¬ ((M : zM).1 65 ((x1 + x4) : Int32).toNatClampNeg) = ((6 : Int32) + ((6 : Int32) * x2)) → X 37 0 0 [.ref 55, .int x1, .int x2, .int x4] [.int x3] M))) : aX13_isChecked_5 mc ms X Q 0 0 [some (.ref 55), some (.int x1), some (.int x2), some (.int x3), some (.int x4)] [] M := ⟨fun c9 => ⟨Nat.le_of_ble_eq_true rfl, rfl, (fxs_55 hW), 0, 0, Nat.zero_le _, Nat.zero_le _, (h.1 c9)⟩, fun c9 => ⟨(fxs_55 hW), 65, (fxr_55_16 hW), ⟨414, (fxs_65 hW), (h.2 c9).1, ⟨fun c28 => ((h.2 c9).2.1 c28), fun c28 => ((h.2 c9).2.2 c28)⟩⟩⟩⟩
theorem vX13_isChecked_37 {mc ms : Nat} {X : Nat → zV} {Q : zQt} {M : zM} {x1 : Int32} {x2 : Int32} {x4 : Int32} {s0 : Int32} (hW : zFix M)  (h : X 5 0 0 [.ref 55, .int x1, .int x2, .int s0, .int (x4 + 1)] [] M) : aX13_isChecked_37 mc ms X Q 0 0 [some (.ref 55), some (.int x1), some (.int x2), none, some (.int x4)] [.int s0] M := h
theorem vkX13_isChecked_53 {mc ms : Nat} {X : Nat → zV} {Q : zQt} {M : zM} {x1 : Int32} {x2 : Int32} {x3 : Int32} {x4 : Int32} {s0 : Int32} (hW : zFix M)  (h : narrow .boolean (.int s0) = .int s0 ∧ Q (some (.int s0)) M) : kX13_isChecked_53 mc ms X Q 0 0 [some (.ref 55), some (.int x1), some (.int x2), some (.int x3), some (.int x4)] [.int s0] M := h
theorem dX13_fromOf_0 : decode cX13_fromOf 0 = .ok (.iload_n 0, 1) := by decide +kernel
theorem dX13_fromOf_1 : decode cX13_fromOf 1 = .ok (.bipush 64, 2) := by decide +kernel
theorem dX13_fromOf_3 : decode cX13_fromOf 3 = .ok (.irem, 1) := by decide +kernel
theorem dX13_fromOf_4 : decode cX13_fromOf 4 = .ok (.ireturn, 1) := by decide +kernel
def aX13_fromOf_0 (mc ms : Nat) (X : Nat → zV) (Q : zQt) : zT :=
  zli 0 <| zc (.int 64) <| zid (fun x y => x - x / y * y) <| zri Q
def lvX13_fromOf : Nat → List Nat := fun L => match L with
  | 0 => [0]
  | _ => []
def wX13_fromOf : zSp := fun mc ms av M Q => ((zlay av).length ≤ 1 ∧ zpick (zlay av) [0] = some av) ∧ ∀ X : Nat → zV, zin 1 [0] (aX13_fromOf_0 mc ms X Q) X 0 → X 0 0 0 av [] M
set_option maxRecDepth 100000 in
set_option maxHeartbeats 4000000 in
theorem sX13_fromOf (l : Launch) (G : zG) : zSnd l G yX13_fromOf cX13_fromOf 1 (some .int) 0 0 wX13_fromOf := by
  refine zmk [0] (by decide) (fun mc ms av M Q h => h.1) ?_
  intro p e R s m args below meth c mc ms av M Q hC hRf hRl hr hnm h lv hlv
  obtain ⟨X, hXe⟩ : ∃ X : Nat → zV, X = fun L u v vs st M => ∀ lv, zpick lv (lvX13_fromOf L) = some vs → zAt p l e R s m args below meth c (MQ below (zQ G Q) args s mc ms (zA G)) G 1 L u v lv st M := ⟨_, rfl⟩
  have hJ : ∀ L, zOk p l e R s m args below meth c (MQ below (zQ G Q) args s mc ms (zA G)) G 1 L (zj X L (lvX13_fromOf L)) := fun L => S_jump (fun u v lv vs st M hp hx => by rw [hXe] at hx; exact hx lv hp)
  have hB0 : zin 1 [0] (aX13_fromOf_0 mc ms X Q) X 0 := by
    intro u v vs st M hb
    rw [hXe]
    refine fun lv hp => S_block (L := 0) (live := [0]) ?_ u v lv vs st M hp hb
    unfold aX13_fromOf_0
    refine S_iload_n (pc := 0) hC dX13_fromOf_0 rfl ?_
    refine S_bipush (pc := 1) hC dX13_fromOf_1 (by decide) ?_
    refine S_irem (pc := 3) hC dX13_fromOf_3 ?_
    exact S_ireturn (pc := 4) hC hr dX13_fromOf_4
  have := h.2 X hB0
  rw [hXe] at this
  exact this lv hlv
theorem vX13_fromOf_0 {mc ms : Nat} {X : Nat → zV} {Q : zQt} {M : zM} {x0 : Int32} (hW : zFix M)  (h : Q (some (.int ((x0 - x0 / (64 : Int32) * (64 : Int32))))) M) : aX13_fromOf_0 mc ms X Q 0 0 [some (.int x0)] [] M := ⟨by decide, h⟩
theorem dX13_toOf_0 : decode cX13_toOf 0 = .ok (.iload_n 0, 1) := by decide +kernel
theorem dX13_toOf_1 : decode cX13_toOf 1 = .ok (.bipush 64, 2) := by decide +kernel
theorem dX13_toOf_3 : decode cX13_toOf 3 = .ok (.idiv, 1) := by decide +kernel
theorem dX13_toOf_4 : decode cX13_toOf 4 = .ok (.bipush 64, 2) := by decide +kernel
theorem dX13_toOf_6 : decode cX13_toOf 6 = .ok (.irem, 1) := by decide +kernel
theorem dX13_toOf_7 : decode cX13_toOf 7 = .ok (.ireturn, 1) := by decide +kernel
def aX13_toOf_0 (mc ms : Nat) (X : Nat → zV) (Q : zQt) : zT :=
  zli 0 <| zc (.int 64) <| zid (fun x y => x / y) <| zc (.int 64) <| zid (fun x y => x - x / y * y) <| zri Q
def lvX13_toOf : Nat → List Nat := fun L => match L with
  | 0 => [0]
  | _ => []
def wX13_toOf : zSp := fun mc ms av M Q => ((zlay av).length ≤ 1 ∧ zpick (zlay av) [0] = some av) ∧ ∀ X : Nat → zV, zin 1 [0] (aX13_toOf_0 mc ms X Q) X 0 → X 0 0 0 av [] M
set_option maxRecDepth 100000 in
set_option maxHeartbeats 4000000 in
theorem sX13_toOf (l : Launch) (G : zG) : zSnd l G yX13_toOf cX13_toOf 1 (some .int) 0 0 wX13_toOf := by
  refine zmk [0] (by decide) (fun mc ms av M Q h => h.1) ?_
  intro p e R s m args below meth c mc ms av M Q hC hRf hRl hr hnm h lv hlv
  obtain ⟨X, hXe⟩ : ∃ X : Nat → zV, X = fun L u v vs st M => ∀ lv, zpick lv (lvX13_toOf L) = some vs → zAt p l e R s m args below meth c (MQ below (zQ G Q) args s mc ms (zA G)) G 1 L u v lv st M := ⟨_, rfl⟩
  have hJ : ∀ L, zOk p l e R s m args below meth c (MQ below (zQ G Q) args s mc ms (zA G)) G 1 L (zj X L (lvX13_toOf L)) := fun L => S_jump (fun u v lv vs st M hp hx => by rw [hXe] at hx; exact hx lv hp)
  have hB0 : zin 1 [0] (aX13_toOf_0 mc ms X Q) X 0 := by
    intro u v vs st M hb
    rw [hXe]
    refine fun lv hp => S_block (L := 0) (live := [0]) ?_ u v lv vs st M hp hb
    unfold aX13_toOf_0
    refine S_iload_n (pc := 0) hC dX13_toOf_0 rfl ?_
    refine S_bipush (pc := 1) hC dX13_toOf_1 (by decide) ?_
    refine S_idiv (pc := 3) hC dX13_toOf_3 ?_
    refine S_bipush (pc := 4) hC dX13_toOf_4 (by decide) ?_
    refine S_irem (pc := 6) hC dX13_toOf_6 ?_
    exact S_ireturn (pc := 7) hC hr dX13_toOf_7
  have := h.2 X hB0
  rw [hXe] at this
  exact this lv hlv
theorem vX13_toOf_0 {mc ms : Nat} {X : Nat → zV} {Q : zQt} {M : zM} {x0 : Int32} (hW : zFix M)  (h : Q (some (.int (((x0 / (64 : Int32)) - (x0 / (64 : Int32)) / (64 : Int32) * (64 : Int32))))) M) : aX13_toOf_0 mc ms X Q 0 0 [some (.int x0)] [] M := ⟨by decide, ⟨by decide, h⟩⟩
theorem dX13_passed_0 : decode cX13_passed 0 = .ok (.aload_n 0, 1) := by decide +kernel
theorem dX13_passed_1 : decode cX13_passed 1 = .ok (.getfield 43, 3) := by decide +kernel
theorem dX13_passed_4 : decode cX13_passed 4 = .ok (.iload_n 1, 1) := by decide +kernel
theorem dX13_passed_5 : decode cX13_passed 5 = .ok (.bipush 66, 2) := by decide +kernel
theorem dX13_passed_7 : decode cX13_passed 7 = .ok (.iadd, 1) := by decide +kernel
theorem dX13_passed_8 : decode cX13_passed 8 = .ok (.iaload, 1) := by decide +kernel
theorem dX13_passed_9 : decode cX13_passed 9 = .ok (.istore_n 2, 1) := by decide +kernel
theorem dX13_passed_10 : decode cX13_passed 10 = .ok (.iload_n 2, 1) := by decide +kernel
theorem dX13_passed_11 : decode cX13_passed 11 = .ok (.ifCond .ge 7, 3) := by decide +kernel
theorem dX13_passed_14 : decode cX13_passed 14 = .ok (.iconst (-1), 1) := by decide +kernel
theorem dX13_passed_15 : decode cX13_passed 15 = .ok (.goto 24, 3) := by decide +kernel
theorem dX13_passed_18 : decode cX13_passed 18 = .ok (.aload_n 0, 1) := by decide +kernel
theorem dX13_passed_19 : decode cX13_passed 19 = .ok (.getfield 43, 3) := by decide +kernel
theorem dX13_passed_22 : decode cX13_passed 22 = .ok (.iload_n 1, 1) := by decide +kernel
theorem dX13_passed_23 : decode cX13_passed 23 = .ok (.bipush 64, 2) := by decide +kernel
theorem dX13_passed_25 : decode cX13_passed 25 = .ok (.iadd, 1) := by decide +kernel
theorem dX13_passed_26 : decode cX13_passed 26 = .ok (.iaload, 1) := by decide +kernel
theorem dX13_passed_27 : decode cX13_passed 27 = .ok (.ifCond .ne 8, 3) := by decide +kernel
theorem dX13_passed_30 : decode cX13_passed 30 = .ok (.bipush 40, 2) := by decide +kernel
theorem dX13_passed_32 : decode cX13_passed 32 = .ok (.goto 5, 3) := by decide +kernel
theorem dX13_passed_35 : decode cX13_passed 35 = .ok (.bipush 16, 2) := by decide +kernel
theorem dX13_passed_37 : decode cX13_passed 37 = .ok (.iload_n 2, 1) := by decide +kernel
theorem dX13_passed_38 : decode cX13_passed 38 = .ok (.iadd, 1) := by decide +kernel
theorem dX13_passed_39 : decode cX13_passed 39 = .ok (.ireturn, 1) := by decide +kernel
def kX13_passed_10 (mc ms : Nat) (X : Nat → zV) (Q : zQt) : zT :=
  zli 2 <| zif (fun x => 0 ≤ x) (zla 0 <| zgR 13 16 <| zli 1 <| zc (.int 64) <| zii (fun x y => x + y) <| zal 1 <| zif (fun x => x = 0) (zc (.int 40) <| zj X 37 [2]) <| zc (.int 16) <| zj X 37 [2]) <| zc (.int (-1)) <| zj X 39 []
def aX13_passed_0 (mc ms : Nat) (X : Nat → zV) (Q : zQt) : zT :=
  zla 0 <| zgR 13 16 <| zli 1 <| zc (.int 66) <| zii (fun x y => x + y) <| zal 1 <| zsiN 2 <| kX13_passed_10 mc ms X Q
def aX13_passed_37 (mc ms : Nat) (X : Nat → zV) (Q : zQt) : zT :=
  zli 2 <| zii (fun x y => x + y) <| zj X 39 []
def aX13_passed_39 (mc ms : Nat) (X : Nat → zV) (Q : zQt) : zT :=
  zri Q
def lvX13_passed : Nat → List Nat := fun L => match L with
  | 0 => [0, 1]
  | 37 => [2]
  | 39 => []
  | _ => []
def wX13_passed : zSp := fun mc ms av M Q => ((zlay av).length ≤ 3 ∧ zpick (zlay av) [0, 1] = some av) ∧ ∀ X : Nat → zV, zin 3 [0, 1] (aX13_passed_0 mc ms X Q) X 0 → zin 3 [2] (aX13_passed_37 mc ms X Q) X 37 → zin 3 [] (aX13_passed_39 mc ms X Q) X 39 → X 0 0 0 av [] M
set_option maxRecDepth 100000 in
set_option maxHeartbeats 4000000 in
theorem sX13_passed (l : Launch) (G : zG) : zSnd l G yX13_passed cX13_passed 3 (some .int) 0 0 wX13_passed := by
  refine zmk [0, 1] (by decide) (fun mc ms av M Q h => h.1) ?_
  intro p e R s m args below meth c mc ms av M Q hC hRf hRl hr hnm h lv hlv
  obtain ⟨X, hXe⟩ : ∃ X : Nat → zV, X = fun L u v vs st M => ∀ lv, zpick lv (lvX13_passed L) = some vs → zAt p l e R s m args below meth c (MQ below (zQ G Q) args s mc ms (zA G)) G 3 L u v lv st M := ⟨_, rfl⟩
  have hJ : ∀ L, zOk p l e R s m args below meth c (MQ below (zQ G Q) args s mc ms (zA G)) G 3 L (zj X L (lvX13_passed L)) := fun L => S_jump (fun u v lv vs st M hp hx => by rw [hXe] at hx; exact hx lv hp)
  have hB0 : zin 3 [0, 1] (aX13_passed_0 mc ms X Q) X 0 := by
    intro u v vs st M hb
    rw [hXe]
    refine fun lv hp => S_block (L := 0) (live := [0, 1]) ?_ u v lv vs st M hp hb
    unfold aX13_passed_0
    refine S_aload_n (pc := 0) hC dX13_passed_0 rfl ?_
    refine S_getR (pc := 1) hC cfX13 (by decide) (Or.inr ⟨_, rfl⟩) wd_1271 dX13_passed_1 ?_
    refine S_iload_n (pc := 4) hC dX13_passed_4 rfl ?_
    refine S_bipush (pc := 5) hC dX13_passed_5 (by decide) ?_
    refine S_iadd (pc := 7) hC dX13_passed_7 ?_
    refine S_iaload (pc := 8) hC dX13_passed_8 ?_
    refine S_istore_n_N (pc := 9) hC dX13_passed_9 rfl (by decide) ?_
    unfold kX13_passed_10
    refine S_iload_n (pc := 10) hC dX13_passed_10 rfl ?_
    refine S_if_ge (pc := 11) (tgt := 18) hC dX13_passed_11 (by decide) ?_ ?_
    · refine S_aload_n (pc := 18) hC dX13_passed_18 rfl ?_
      refine S_getR (pc := 19) hC cfX13 (by decide) (Or.inr ⟨_, rfl⟩) wd_1271 dX13_passed_19 ?_
      refine S_iload_n (pc := 22) hC dX13_passed_22 rfl ?_
      refine S_bipush (pc := 23) hC dX13_passed_23 (by decide) ?_
      refine S_iadd (pc := 25) hC dX13_passed_25 ?_
      refine S_iaload (pc := 26) hC dX13_passed_26 ?_
      refine S_if_ne (pc := 27) (tgt := 35) hC dX13_passed_27 (by decide) ?_ ?_
      · refine S_bipush (pc := 35) hC dX13_passed_35 (by decide) ?_
        exact hJ 37
      · refine S_bipush (pc := 30) hC dX13_passed_30 (by decide) ?_
        refine S_goto (pc := 32) (tgt := 37) hC dX13_passed_32 (by decide) ?_
        exact hJ 37
    · refine S_iconst (pc := 14) hC dX13_passed_14 (by decide) ?_
      refine S_goto (pc := 15) (tgt := 39) hC dX13_passed_15 (by decide) ?_
      exact hJ 39
  have hB37 : zin 3 [2] (aX13_passed_37 mc ms X Q) X 37 := by
    intro u v vs st M hb
    rw [hXe]
    refine fun lv hp => S_block (L := 37) (live := [2]) ?_ u v lv vs st M hp hb
    unfold aX13_passed_37
    refine S_iload_n (pc := 37) hC dX13_passed_37 rfl ?_
    refine S_iadd (pc := 38) hC dX13_passed_38 ?_
    exact hJ 39
  have hB39 : zin 3 [] (aX13_passed_39 mc ms X Q) X 39 := by
    intro u v vs st M hb
    rw [hXe]
    refine fun lv hp => S_block (L := 39) (live := []) ?_ u v lv vs st M hp hb
    unfold aX13_passed_39
    exact S_ireturn (pc := 39) hC hr dX13_passed_39
  have := h.2 X hB0 hB37 hB39
  rw [hXe] at this
  exact this lv hlv
theorem vcX13_passed_10 {mc ms : Nat} {X : Nat → zV} {Q : zQt} {M : zM} {x1 : Int32} {x2 : Int32} (hW : zFix M)  (h : (0 ≤ x2 → vp_in ((x1 + (64 : Int32))) 414 ∧ (((M : zM).1 65 ((x1 + (64 : Int32)) : Int32).toNatClampNeg) = 0 → X 37 0 0 [.int x2] [.int 40] M) ∧ (¬ ((M : zM).1 65 ((x1 + (64 : Int32)) : Int32).toNatClampNeg) = 0 → X 37 0 0 [.int x2] [.int 16] M)) ∧ (¬ 0 ≤ x2 → X 39 0 0 [] [.int (-1)] M)) : kX13_passed_10 mc ms X Q 0 0 [some (.ref 55), some (.int x1), some (.int x2)] [] M := ⟨fun c11 => ⟨(fxs_55 hW), 65, (fxr_55_16 hW), ⟨414, (fxs_65 hW), (h.1 c11).1, ⟨fun c27 => ((h.1 c11).2.1 c27), fun c27 => ((h.1 c11).2.2 c27)⟩⟩⟩, fun c11 => (h.2 c11)⟩
theorem vX13_passed_0 {mc ms : Nat} {X : Nat → zV} {Q : zQt} {M : zM} {x1 : Int32} (hW : zFix M)  (h : vp_in ((x1 + (66 : Int32))) 414 ∧ ∀ y9 : Int32, y9 = ((M : zM).1 65 ((x1 + (66 : Int32)) : Int32).toNatClampNeg) → (0 ≤ y9 → vp_in ((x1 + (64 : Int32))) 414 ∧ (((M : zM).1 65 ((x1 + (64 : Int32)) : Int32).toNatClampNeg) = 0 → X 37 0 0 [.int y9] [.int 40] M) ∧ (¬ ((M : zM).1 65 ((x1 + (64 : Int32)) : Int32).toNatClampNeg) = 0 → X 37 0 0 [.int y9] [.int 16] M)) ∧ (¬ 0 ≤ y9 → X 39 0 0 [] [.int (-1)] M)) : aX13_passed_0 mc ms X Q 0 0 [some (.ref 55), some (.int x1), none] [] M := ⟨(fxs_55 hW), 65, (fxr_55_16 hW), ⟨414, (fxs_65 hW), h.1, (fun y9 e9 => have h9 := h.2 y9 e9; (vcX13_passed_10 hW  h9))⟩⟩
theorem vX13_passed_37 {mc ms : Nat} {X : Nat → zV} {Q : zQt} {M : zM} {x2 : Int32} {s0 : Int32} (hW : zFix M)  (h : X 39 0 0 [] [.int (s0 + x2)] M) : aX13_passed_37 mc ms X Q 0 0 [none, none, some (.int x2)] [.int s0] M := h
theorem vX13_passed_39 {mc ms : Nat} {X : Nat → zV} {Q : zQt} {M : zM} {s0 : Int32} (hW : zFix M)  (h : Q (some (.int s0)) M) : aX13_passed_39 mc ms X Q 0 0 [none, none, none] [.int s0] M := h
theorem dX13_takesInPassing_0 : decode cX13_takesInPassing 0 = .ok (.aload_n 0, 1) := by decide +kernel
theorem dX13_takesInPassing_1 : decode cX13_takesInPassing 1 = .ok (.getfield 43, 3) := by decide +kernel
theorem dX13_takesInPassing_4 : decode cX13_takesInPassing 4 = .ok (.iload_n 1, 1) := by decide +kernel
theorem dX13_takesInPassing_5 : decode cX13_takesInPassing 5 = .ok (.bipush 64, 2) := by decide +kernel
theorem dX13_takesInPassing_7 : decode cX13_takesInPassing 7 = .ok (.iadd, 1) := by decide +kernel
theorem dX13_takesInPassing_8 : decode cX13_takesInPassing 8 = .ok (.iaload, 1) := by decide +kernel
theorem dX13_takesInPassing_9 : decode cX13_takesInPassing 9 = .ok (.istore 4, 2) := by decide +kernel
theorem dX13_takesInPassing_11 : decode cX13_takesInPassing 11 = .ok (.aload_n 0, 1) := by decide +kernel
theorem dX13_takesInPassing_12 : decode cX13_takesInPassing 12 = .ok (.getfield 43, 3) := by decide +kernel
theorem dX13_takesInPassing_15 : decode cX13_takesInPassing 15 = .ok (.iload_n 1, 1) := by decide +kernel
theorem dX13_takesInPassing_16 : decode cX13_takesInPassing 16 = .ok (.iload_n 2, 1) := by decide +kernel
theorem dX13_takesInPassing_17 : decode cX13_takesInPassing 17 = .ok (.iadd, 1) := by decide +kernel
theorem dX13_takesInPassing_18 : decode cX13_takesInPassing 18 = .ok (.iaload, 1) := by decide +kernel
theorem dX13_takesInPassing_19 : decode cX13_takesInPassing 19 = .ok (.iconst 1, 1) := by decide +kernel
theorem dX13_takesInPassing_20 : decode cX13_takesInPassing 20 = .ok (.bipush 6, 2) := by decide +kernel
theorem dX13_takesInPassing_22 : decode cX13_takesInPassing 22 = .ok (.iload 4, 2) := by decide +kernel
theorem dX13_takesInPassing_24 : decode cX13_takesInPassing 24 = .ok (.imul, 1) := by decide +kernel
theorem dX13_takesInPassing_25 : decode cX13_takesInPassing 25 = .ok (.iadd, 1) := by decide +kernel
theorem dX13_takesInPassing_26 : decode cX13_takesInPassing 26 = .ok (.if_icmp .ne 17, 3) := by decide +kernel
theorem dX13_takesInPassing_29 : decode cX13_takesInPassing 29 = .ok (.aload_n 0, 1) := by decide +kernel
theorem dX13_takesInPassing_30 : decode cX13_takesInPassing 30 = .ok (.iload_n 1, 1) := by decide +kernel
theorem dX13_takesInPassing_31 : decode cX13_takesInPassing 31 = .ok (.iload_n 2, 1) := by decide +kernel
theorem dX13_takesInPassing_32 : decode cX13_takesInPassing 32 = .ok (.iload_n 3, 1) := by decide +kernel
theorem dX13_takesInPassing_33 : decode cX13_takesInPassing 33 = .ok (.invokevirtual 81, 3) := by decide +kernel
theorem dX13_takesInPassing_36 : decode cX13_takesInPassing 36 = .ok (.ifCond .eq 7, 3) := by decide +kernel
theorem dX13_takesInPassing_39 : decode cX13_takesInPassing 39 = .ok (.iconst 1, 1) := by decide +kernel
theorem dX13_takesInPassing_40 : decode cX13_takesInPassing 40 = .ok (.goto 4, 3) := by decide +kernel
theorem dX13_takesInPassing_43 : decode cX13_takesInPassing 43 = .ok (.iconst 0, 1) := by decide +kernel
theorem dX13_takesInPassing_44 : decode cX13_takesInPassing 44 = .ok (.istore 5, 2) := by decide +kernel
theorem dX13_takesInPassing_46 : decode cX13_takesInPassing 46 = .ok (.iload 5, 2) := by decide +kernel
theorem dX13_takesInPassing_48 : decode cX13_takesInPassing 48 = .ok (.ifCond .eq 61, 3) := by decide +kernel
theorem dX13_takesInPassing_51 : decode cX13_takesInPassing 51 = .ok (.iload_n 3, 1) := by decide +kernel
theorem dX13_takesInPassing_52 : decode cX13_takesInPassing 52 = .ok (.aload_n 0, 1) := by decide +kernel
theorem dX13_takesInPassing_53 : decode cX13_takesInPassing 53 = .ok (.iload_n 1, 1) := by decide +kernel
theorem dX13_takesInPassing_54 : decode cX13_takesInPassing 54 = .ok (.invokevirtual 88, 3) := by decide +kernel
theorem dX13_takesInPassing_57 : decode cX13_takesInPassing 57 = .ok (.if_icmp .ne 52, 3) := by decide +kernel
theorem dX13_takesInPassing_60 : decode cX13_takesInPassing 60 = .ok (.aload_n 0, 1) := by decide +kernel
theorem dX13_takesInPassing_61 : decode cX13_takesInPassing 61 = .ok (.getfield 43, 3) := by decide +kernel
theorem dX13_takesInPassing_64 : decode cX13_takesInPassing 64 = .ok (.iload_n 1, 1) := by decide +kernel
theorem dX13_takesInPassing_65 : decode cX13_takesInPassing 65 = .ok (.iload_n 3, 1) := by decide +kernel
theorem dX13_takesInPassing_66 : decode cX13_takesInPassing 66 = .ok (.iadd, 1) := by decide +kernel
theorem dX13_takesInPassing_67 : decode cX13_takesInPassing 67 = .ok (.iaload, 1) := by decide +kernel
theorem dX13_takesInPassing_68 : decode cX13_takesInPassing 68 = .ok (.ifCond .ne 41, 3) := by decide +kernel
theorem dX13_takesInPassing_71 : decode cX13_takesInPassing 71 = .ok (.aload_n 0, 1) := by decide +kernel
theorem dX13_takesInPassing_72 : decode cX13_takesInPassing 72 = .ok (.getfield 43, 3) := by decide +kernel
theorem dX13_takesInPassing_75 : decode cX13_takesInPassing 75 = .ok (.iload_n 1, 1) := by decide +kernel
theorem dX13_takesInPassing_76 : decode cX13_takesInPassing 76 = .ok (.iload 4, 2) := by decide +kernel
theorem dX13_takesInPassing_78 : decode cX13_takesInPassing 78 = .ok (.ifCond .ne 10, 3) := by decide +kernel
theorem dX13_takesInPassing_81 : decode cX13_takesInPassing 81 = .ok (.iload_n 3, 1) := by decide +kernel
theorem dX13_takesInPassing_82 : decode cX13_takesInPassing 82 = .ok (.bipush 8, 2) := by decide +kernel
theorem dX13_takesInPassing_84 : decode cX13_takesInPassing 84 = .ok (.isub, 1) := by decide +kernel
theorem dX13_takesInPassing_85 : decode cX13_takesInPassing 85 = .ok (.goto 7, 3) := by decide +kernel
theorem dX13_takesInPassing_88 : decode cX13_takesInPassing 88 = .ok (.iload_n 3, 1) := by decide +kernel
theorem dX13_takesInPassing_89 : decode cX13_takesInPassing 89 = .ok (.bipush 8, 2) := by decide +kernel
theorem dX13_takesInPassing_91 : decode cX13_takesInPassing 91 = .ok (.iadd, 1) := by decide +kernel
theorem dX13_takesInPassing_92 : decode cX13_takesInPassing 92 = .ok (.iadd, 1) := by decide +kernel
theorem dX13_takesInPassing_93 : decode cX13_takesInPassing 93 = .ok (.iaload, 1) := by decide +kernel
theorem dX13_takesInPassing_94 : decode cX13_takesInPassing 94 = .ok (.bipush 7, 2) := by decide +kernel
theorem dX13_takesInPassing_96 : decode cX13_takesInPassing 96 = .ok (.bipush 6, 2) := by decide +kernel
theorem dX13_takesInPassing_98 : decode cX13_takesInPassing 98 = .ok (.iload 4, 2) := by decide +kernel
theorem dX13_takesInPassing_100 : decode cX13_takesInPassing 100 = .ok (.imul, 1) := by decide +kernel
theorem dX13_takesInPassing_101 : decode cX13_takesInPassing 101 = .ok (.isub, 1) := by decide +kernel
theorem dX13_takesInPassing_102 : decode cX13_takesInPassing 102 = .ok (.if_icmp .ne 7, 3) := by decide +kernel
theorem dX13_takesInPassing_105 : decode cX13_takesInPassing 105 = .ok (.iconst 1, 1) := by decide +kernel
theorem dX13_takesInPassing_106 : decode cX13_takesInPassing 106 = .ok (.goto 4, 3) := by decide +kernel
theorem dX13_takesInPassing_109 : decode cX13_takesInPassing 109 = .ok (.iconst 0, 1) := by decide +kernel
theorem dX13_takesInPassing_110 : decode cX13_takesInPassing 110 = .ok (.ireturn, 1) := by decide +kernel
def kX13_takesInPassing_36 (mc ms : Nat) (X : Nat → zV) (Q : zQt) : zT :=
  zif (fun x => x = 0) (zj X 43 [0, 1, 3, 4]) <| zc (.int 1) <| zj X 44 [0, 1, 3, 4]
def kX13_takesInPassing_11 (mc ms : Nat) (X : Nat → zV) (Q : zQt) : zT :=
  zla 0 <| zgR 13 16 <| zli 1 <| zli 2 <| zii (fun x y => x + y) <| zal 1 <| zc (.int 1) <| zc (.int 6) <| zli 4 <| zii (fun x y => x * y) <| zii (fun x y => x + y) <| zic (fun x y => x = y) (zla 0 <| zli 1 <| zli 2 <| zli 3 <| zcv mc ms 13 3 wX13_attacks <| kX13_takesInPassing_36 mc ms X Q) <| zj X 43 [0, 1, 3, 4]
def kX13_takesInPassing_57 (mc ms : Nat) (X : Nat → zV) (Q : zQt) : zT :=
  zic (fun x y => x = y) (zla 0 <| zgR 13 16 <| zli 1 <| zli 3 <| zii (fun x y => x + y) <| zal 1 <| zif (fun x => x = 0) (zla 0 <| zgR 13 16 <| zli 1 <| zli 4 <| zif (fun x => x = 0) (zli 3 <| zc (.int 8) <| zii (fun x y => x - y) <| zj X 92 [4]) <| zli 3 <| zc (.int 8) <| zii (fun x y => x + y) <| zj X 92 [4]) <| zj X 109 []) <| zj X 109 []
def aX13_takesInPassing_0 (mc ms : Nat) (X : Nat → zV) (Q : zQt) : zT :=
  zla 0 <| zgR 13 16 <| zli 1 <| zc (.int 64) <| zii (fun x y => x + y) <| zal 1 <| zsiN 4 <| kX13_takesInPassing_11 mc ms X Q
def aX13_takesInPassing_43 (mc ms : Nat) (X : Nat → zV) (Q : zQt) : zT :=
  zc (.int 0) <| zj X 44 [0, 1, 3, 4]
def aX13_takesInPassing_44 (mc ms : Nat) (X : Nat → zV) (Q : zQt) : zT :=
  zsi 5 <| zli 5 <| zif (fun x => x = 0) (zj X 109 []) <| zli 3 <| zla 0 <| zli 1 <| zcv mc ms 13 1 wX13_passed <| kX13_takesInPassing_57 mc ms X Q
def aX13_takesInPassing_92 (mc ms : Nat) (X : Nat → zV) (Q : zQt) : zT :=
  zii (fun x y => x + y) <| zal 1 <| zc (.int 7) <| zc (.int 6) <| zli 4 <| zii (fun x y => x * y) <| zii (fun x y => x - y) <| zic (fun x y => x = y) (zc (.int 1) <| zj X 110 []) <| zj X 109 []
def aX13_takesInPassing_109 (mc ms : Nat) (X : Nat → zV) (Q : zQt) : zT :=
  zc (.int 0) <| zj X 110 []
def aX13_takesInPassing_110 (mc ms : Nat) (X : Nat → zV) (Q : zQt) : zT :=
  zrz .boolean Q
def lvX13_takesInPassing : Nat → List Nat := fun L => match L with
  | 0 => [0, 1, 2, 3]
  | 43 => [0, 1, 3, 4]
  | 44 => [0, 1, 3, 4]
  | 92 => [4]
  | 109 => []
  | 110 => []
  | _ => []
def wX13_takesInPassing : zSp := fun mc ms av M Q => ((zlay av).length ≤ 6 ∧ zpick (zlay av) [0, 1, 2, 3] = some av) ∧ ∀ X : Nat → zV, zin 6 [0, 1, 2, 3] (aX13_takesInPassing_0 mc ms X Q) X 0 → zin 6 [0, 1, 3, 4] (aX13_takesInPassing_43 mc ms X Q) X 43 → zin 6 [0, 1, 3, 4] (aX13_takesInPassing_44 mc ms X Q) X 44 → zin 6 [4] (aX13_takesInPassing_92 mc ms X Q) X 92 → zin 6 [] (aX13_takesInPassing_109 mc ms X Q) X 109 → zin 6 [] (aX13_takesInPassing_110 mc ms X Q) X 110 → X 0 0 0 av [] M
set_option maxRecDepth 100000 in
set_option maxHeartbeats 4000000 in
theorem sX13_takesInPassing (l : Launch) (G : zG) : zSnd l G yX13_takesInPassing cX13_takesInPassing 6 (some .boolean) 2 53 wX13_takesInPassing := by
  refine zmk [0, 1, 2, 3] (by decide) (fun mc ms av M Q h => h.1) ?_
  intro p e R s m args below meth c mc ms av M Q hC hRf hRl hr hnm h lv hlv
  obtain ⟨X, hXe⟩ : ∃ X : Nat → zV, X = fun L u v vs st M => ∀ lv, zpick lv (lvX13_takesInPassing L) = some vs → zAt p l e R s m args below meth c (MQ below (zQ G Q) args s mc ms (zA G)) G 6 L u v lv st M := ⟨_, rfl⟩
  have hJ : ∀ L, zOk p l e R s m args below meth c (MQ below (zQ G Q) args s mc ms (zA G)) G 6 L (zj X L (lvX13_takesInPassing L)) := fun L => S_jump (fun u v lv vs st M hp hx => by rw [hXe] at hx; exact hx lv hp)
  have hB0 : zin 6 [0, 1, 2, 3] (aX13_takesInPassing_0 mc ms X Q) X 0 := by
    intro u v vs st M hb
    rw [hXe]
    refine fun lv hp => S_block (L := 0) (live := [0, 1, 2, 3]) ?_ u v lv vs st M hp hb
    unfold aX13_takesInPassing_0
    refine S_aload_n (pc := 0) hC dX13_takesInPassing_0 rfl ?_
    refine S_getR (pc := 1) hC cfX13 (by decide) (Or.inr ⟨_, rfl⟩) wd_1271 dX13_takesInPassing_1 ?_
    refine S_iload_n (pc := 4) hC dX13_takesInPassing_4 rfl ?_
    refine S_bipush (pc := 5) hC dX13_takesInPassing_5 (by decide) ?_
    refine S_iadd (pc := 7) hC dX13_takesInPassing_7 ?_
    refine S_iaload (pc := 8) hC dX13_takesInPassing_8 ?_
    refine S_istore_N (pc := 9) hC dX13_takesInPassing_9 (by decide) ?_
    unfold kX13_takesInPassing_11
    refine S_aload_n (pc := 11) hC dX13_takesInPassing_11 rfl ?_
    refine S_getR (pc := 12) hC cfX13 (by decide) (Or.inr ⟨_, rfl⟩) wd_1271 dX13_takesInPassing_12 ?_
    refine S_iload_n (pc := 15) hC dX13_takesInPassing_15 rfl ?_
    refine S_iload_n (pc := 16) hC dX13_takesInPassing_16 rfl ?_
    refine S_iadd (pc := 17) hC dX13_takesInPassing_17 ?_
    refine S_iaload (pc := 18) hC dX13_takesInPassing_18 ?_
    refine S_iconst (pc := 19) hC dX13_takesInPassing_19 (by decide) ?_
    refine S_bipush (pc := 20) hC dX13_takesInPassing_20 (by decide) ?_
    refine S_iload (pc := 22) hC dX13_takesInPassing_22 ?_
    refine S_imul (pc := 24) hC dX13_takesInPassing_24 ?_
    refine S_iadd (pc := 25) hC dX13_takesInPassing_25 ?_
    refine S_icmp_ne (pc := 26) (tgt := 43) hC dX13_takesInPassing_26 (by decide) ?_ ?_
    · exact hJ 43
    · refine S_aload_n (pc := 29) hC dX13_takesInPassing_29 rfl ?_
      refine S_iload_n (pc := 30) hC dX13_takesInPassing_30 rfl ?_
      refine S_iload_n (pc := 31) hC dX13_takesInPassing_31 rfl ?_
      refine S_iload_n (pc := 32) hC dX13_takesInPassing_32 rfl ?_
      refine S_callV (pc := 33) hC (sX13_attacks l G) rfl wd_1428 wd_1430 ws_69 wd_12 wd_1431 (by decide +kernel) ⟨by rw [hRf]; decide, by rw [hRl]; decide⟩ dX13_takesInPassing_33 ?_
      unfold kX13_takesInPassing_36
      refine S_if_eq (pc := 36) (tgt := 43) hC dX13_takesInPassing_36 (by decide) ?_ ?_
      · exact hJ 43
      · refine S_iconst (pc := 39) hC dX13_takesInPassing_39 (by decide) ?_
        refine S_goto (pc := 40) (tgt := 44) hC dX13_takesInPassing_40 (by decide) ?_
        exact hJ 44
  have hB43 : zin 6 [0, 1, 3, 4] (aX13_takesInPassing_43 mc ms X Q) X 43 := by
    intro u v vs st M hb
    rw [hXe]
    refine fun lv hp => S_block (L := 43) (live := [0, 1, 3, 4]) ?_ u v lv vs st M hp hb
    unfold aX13_takesInPassing_43
    refine S_iconst (pc := 43) hC dX13_takesInPassing_43 (by decide) ?_
    exact hJ 44
  have hB44 : zin 6 [0, 1, 3, 4] (aX13_takesInPassing_44 mc ms X Q) X 44 := by
    intro u v vs st M hb
    rw [hXe]
    refine fun lv hp => S_block (L := 44) (live := [0, 1, 3, 4]) ?_ u v lv vs st M hp hb
    unfold aX13_takesInPassing_44
    refine S_istore (pc := 44) hC dX13_takesInPassing_44 (by decide) ?_
    refine S_iload (pc := 46) hC dX13_takesInPassing_46 ?_
    refine S_if_eq (pc := 48) (tgt := 109) hC dX13_takesInPassing_48 (by decide) ?_ ?_
    · exact hJ 109
    · refine S_iload_n (pc := 51) hC dX13_takesInPassing_51 rfl ?_
      refine S_aload_n (pc := 52) hC dX13_takesInPassing_52 rfl ?_
      refine S_iload_n (pc := 53) hC dX13_takesInPassing_53 rfl ?_
      refine S_callV (pc := 54) hC (sX13_passed l G) rfl wd_1463 wd_1465 ws_77 wd_12 wd_1466 (by decide +kernel) ⟨by rw [hRf]; decide, by rw [hRl]; decide⟩ dX13_takesInPassing_54 ?_
      unfold kX13_takesInPassing_57
      refine S_icmp_ne (pc := 57) (tgt := 109) hC dX13_takesInPassing_57 (by decide) ?_ ?_
      · exact hJ 109
      · refine S_aload_n (pc := 60) hC dX13_takesInPassing_60 rfl ?_
        refine S_getR (pc := 61) hC cfX13 (by decide) (Or.inr ⟨_, rfl⟩) wd_1271 dX13_takesInPassing_61 ?_
        refine S_iload_n (pc := 64) hC dX13_takesInPassing_64 rfl ?_
        refine S_iload_n (pc := 65) hC dX13_takesInPassing_65 rfl ?_
        refine S_iadd (pc := 66) hC dX13_takesInPassing_66 ?_
        refine S_iaload (pc := 67) hC dX13_takesInPassing_67 ?_
        refine S_if_ne (pc := 68) (tgt := 109) hC dX13_takesInPassing_68 (by decide) ?_ ?_
        · exact hJ 109
        · refine S_aload_n (pc := 71) hC dX13_takesInPassing_71 rfl ?_
          refine S_getR (pc := 72) hC cfX13 (by decide) (Or.inr ⟨_, rfl⟩) wd_1271 dX13_takesInPassing_72 ?_
          refine S_iload_n (pc := 75) hC dX13_takesInPassing_75 rfl ?_
          refine S_iload (pc := 76) hC dX13_takesInPassing_76 ?_
          refine S_if_ne (pc := 78) (tgt := 88) hC dX13_takesInPassing_78 (by decide) ?_ ?_
          · refine S_iload_n (pc := 88) hC dX13_takesInPassing_88 rfl ?_
            refine S_bipush (pc := 89) hC dX13_takesInPassing_89 (by decide) ?_
            refine S_iadd (pc := 91) hC dX13_takesInPassing_91 ?_
            exact hJ 92
          · refine S_iload_n (pc := 81) hC dX13_takesInPassing_81 rfl ?_
            refine S_bipush (pc := 82) hC dX13_takesInPassing_82 (by decide) ?_
            refine S_isub (pc := 84) hC dX13_takesInPassing_84 ?_
            refine S_goto (pc := 85) (tgt := 92) hC dX13_takesInPassing_85 (by decide) ?_
            exact hJ 92
  have hB92 : zin 6 [4] (aX13_takesInPassing_92 mc ms X Q) X 92 := by
    intro u v vs st M hb
    rw [hXe]
    refine fun lv hp => S_block (L := 92) (live := [4]) ?_ u v lv vs st M hp hb
    unfold aX13_takesInPassing_92
    refine S_iadd (pc := 92) hC dX13_takesInPassing_92 ?_
    refine S_iaload (pc := 93) hC dX13_takesInPassing_93 ?_
    refine S_bipush (pc := 94) hC dX13_takesInPassing_94 (by decide) ?_
    refine S_bipush (pc := 96) hC dX13_takesInPassing_96 (by decide) ?_
    refine S_iload (pc := 98) hC dX13_takesInPassing_98 ?_
    refine S_imul (pc := 100) hC dX13_takesInPassing_100 ?_
    refine S_isub (pc := 101) hC dX13_takesInPassing_101 ?_
    refine S_icmp_ne (pc := 102) (tgt := 109) hC dX13_takesInPassing_102 (by decide) ?_ ?_
    · exact hJ 109
    · refine S_iconst (pc := 105) hC dX13_takesInPassing_105 (by decide) ?_
      refine S_goto (pc := 106) (tgt := 110) hC dX13_takesInPassing_106 (by decide) ?_
      exact hJ 110
  have hB109 : zin 6 [] (aX13_takesInPassing_109 mc ms X Q) X 109 := by
    intro u v vs st M hb
    rw [hXe]
    refine fun lv hp => S_block (L := 109) (live := []) ?_ u v lv vs st M hp hb
    unfold aX13_takesInPassing_109
    refine S_iconst (pc := 109) hC dX13_takesInPassing_109 (by decide) ?_
    exact hJ 110
  have hB110 : zin 6 [] (aX13_takesInPassing_110 mc ms X Q) X 110 := by
    intro u v vs st M hb
    rw [hXe]
    refine fun lv hp => S_block (L := 110) (live := []) ?_ u v lv vs st M hp hb
    unfold aX13_takesInPassing_110
    exact S_zreturn (pc := 110) hC hr dX13_takesInPassing_110
  have := h.2 X hB0 hB43 hB44 hB92 hB109 hB110
  rw [hXe] at this
  exact this lv hlv
theorem vcX13_takesInPassing_11 {mc ms : Nat} {X : Nat → zV} {Q : zQt} {M : zM} {x1 : Int32} {x2 : Int32} {x3 : Int32} {x4 : Int32} (hW : zFix M)  (h : vp_in ((x1 + x2)) 414 ∧ (((M : zM).1 65 ((x1 + x2) : Int32).toNatClampNeg) = ((1 : Int32) + ((6 : Int32) * x4)) → wX13_attacks 0 0 [.ref 55, .int x1, .int x2, .int x3] M (fun r M1 => kX13_takesInPassing_36 mc ms X Q 0 0 [some (.ref 55), some (.int x1), some (.int x2), some (.int x3), some (.int x4), none] (r.toList ++ []) M1)) ∧ (¬ ((M : zM).1 65 ((x1 + x2) : Int32).toNatClampNeg) = ((1 : Int32) + ((6 : Int32) * x4)) → X 43 0 0 [.ref 55, .int x1, .int x3, .int x4] [] M)) : kX13_takesInPassing_11 mc ms X Q 0 0 [some (.ref 55), some (.int x1), some (.int x2), some (.int x3), some (.int x4), none] [] M := ⟨(fxs_55 hW), 65, (fxr_55_16 hW), ⟨414, (fxs_65 hW), h.1, ⟨fun c26 => ⟨Nat.le_of_ble_eq_true rfl, rfl, (fxs_55 hW), 0, 0, Nat.zero_le _, Nat.zero_le _, (h.2.1 c26)⟩, fun c26 => (h.2.2 c26)⟩⟩⟩
theorem vX13_takesInPassing_0 {mc ms : Nat} {X : Nat → zV} {Q : zQt} {M : zM} {x1 : Int32} {x2 : Int32} {x3 : Int32} (hW : zFix M)  (h : vp_in ((x1 + (64 : Int32))) 414 ∧ ∀ y9 : Int32, y9 = ((M : zM).1 65 ((x1 + (64 : Int32)) : Int32).toNatClampNeg) → vp_in ((x1 + x2)) 414 ∧ (((M : zM).1 65 ((x1 + x2) : Int32).toNatClampNeg) = ((1 : Int32) + ((6 : Int32) * y9)) → wX13_attacks 0 0 [.ref 55, .int x1, .int x2, .int x3] M (fun r M1 => kX13_takesInPassing_36 mc ms X Q 0 0 [some (.ref 55), some (.int x1), some (.int x2), some (.int x3), some (.int y9), none] (r.toList ++ []) M1)) ∧ (¬ ((M : zM).1 65 ((x1 + x2) : Int32).toNatClampNeg) = ((1 : Int32) + ((6 : Int32) * y9)) → X 43 0 0 [.ref 55, .int x1, .int x3, .int y9] [] M)) : aX13_takesInPassing_0 mc ms X Q 0 0 [some (.ref 55), some (.int x1), some (.int x2), some (.int x3), none, none] [] M := ⟨(fxs_55 hW), 65, (fxr_55_16 hW), ⟨414, (fxs_65 hW), h.1, (fun y9 e9 => have h9 := h.2 y9 e9; (vcX13_takesInPassing_11 hW  h9))⟩⟩
theorem vX13_takesInPassing_43 {mc ms : Nat} {X : Nat → zV} {Q : zQt} {M : zM} {x1 : Int32} {x3 : Int32} {x4 : Int32} (hW : zFix M)  (h : X 44 0 0 [.ref 55, .int x1, .int x3, .int x4] [.int 0] M) : aX13_takesInPassing_43 mc ms X Q 0 0 [some (.ref 55), some (.int x1), none, some (.int x3), some (.int x4), none] [] M := h
theorem vX13_takesInPassing_44 {mc ms : Nat} {X : Nat → zV} {Q : zQt} {M : zM} {x1 : Int32} {x3 : Int32} {x4 : Int32} {s0 : Int32} (hW : zFix M)  (h : (s0 = 0 → X 109 0 0 [] [] M) ∧ (¬ s0 = 0 → wX13_passed 0 0 [.ref 55, .int x1] M (fun r M1 => kX13_takesInPassing_57 mc ms X Q 0 0 [some (.ref 55), some (.int x1), none, some (.int x3), some (.int x4), some (.int s0)] (r.toList ++ [.int x3]) M1))) : aX13_takesInPassing_44 mc ms X Q 0 0 [some (.ref 55), some (.int x1), none, some (.int x3), some (.int x4), none] [.int s0] M := ⟨fun c48 => (h.1 c48), fun c48 => ⟨Nat.le_of_ble_eq_true rfl, rfl, (fxs_55 hW), 0, 0, Nat.zero_le _, Nat.zero_le _, (h.2 c48)⟩⟩
theorem vX13_takesInPassing_92 {mc ms : Nat} {X : Nat → zV} {Q : zQt} {M : zM} {x4 : Int32} {s0 : Int32} {s1 : Int32} (hW : zFix M)  (h : vp_in ((s1 + s0)) 414 ∧ (((M : zM).1 65 ((s1 + s0) : Int32).toNatClampNeg) = ((7 : Int32) - ((6 : Int32) * x4)) → X 110 0 0 [] [.int 1] M) ∧ (¬ ((M : zM).1 65 ((s1 + s0) : Int32).toNatClampNeg) = ((7 : Int32) - ((6 : Int32) * x4)) → X 109 0 0 [] [] M)) : aX13_takesInPassing_92 mc ms X Q 0 0 [none, none, none, none, some (.int x4), none] [.int s0, .int s1, .ref 65] M := ⟨414, (fxs_65 hW), h.1, ⟨fun c102 => (h.2.1 c102), fun c102 => (h.2.2 c102)⟩⟩
theorem vX13_takesInPassing_109 {mc ms : Nat} {X : Nat → zV} {Q : zQt} {M : zM}  (hW : zFix M)  (h : X 110 0 0 [] [.int 0] M) : aX13_takesInPassing_109 mc ms X Q 0 0 [none, none, none, none, none, none] [] M := h
theorem vX13_takesInPassing_110 {mc ms : Nat} {X : Nat → zV} {Q : zQt} {M : zM} {s0 : Int32} (hW : zFix M)  (h : narrow .boolean (.int s0) = .int s0 ∧ Q (some (.int s0)) M) : aX13_takesInPassing_110 mc ms X Q 0 0 [none, none, none, none, none, none] [.int s0] M := h
theorem vkX13_takesInPassing_36 {mc ms : Nat} {X : Nat → zV} {Q : zQt} {M : zM} {x1 : Int32} {x2 : Int32} {x3 : Int32} {x4 : Int32} {s0 : Int32} (hW : zFix M)  (h : (s0 = 0 → X 43 0 0 [.ref 55, .int x1, .int x3, .int x4] [] M) ∧ (¬ s0 = 0 → X 44 0 0 [.ref 55, .int x1, .int x3, .int x4] [.int 1] M)) : kX13_takesInPassing_36 mc ms X Q 0 0 [some (.ref 55), some (.int x1), some (.int x2), some (.int x3), some (.int x4), none] [.int s0] M := ⟨fun c36 => (h.1 c36), fun c36 => (h.2 c36)⟩
theorem vkX13_takesInPassing_57 {mc ms : Nat} {X : Nat → zV} {Q : zQt} {M : zM} {x1 : Int32} {x3 : Int32} {x4 : Int32} {x5 : Int32} {s0 : Int32} {s1 : Int32} (hW : zFix M)  (h : (s1 = s0 → vp_in ((x1 + x3)) 414 ∧ (((M : zM).1 65 ((x1 + x3) : Int32).toNatClampNeg) = 0 → (x4 = 0 → X 92 0 0 [.int x4] [.int (x3 - (8 : Int32)), .int x1, .ref 65] M) ∧ (¬ x4 = 0 → X 92 0 0 [.int x4] [.int (x3 + (8 : Int32)), .int x1, .ref 65] M)) ∧ (¬ ((M : zM).1 65 ((x1 + x3) : Int32).toNatClampNeg) = 0 → X 109 0 0 [] [] M)) ∧ (¬ s1 = s0 → X 109 0 0 [] [] M)) : kX13_takesInPassing_57 mc ms X Q 0 0 [some (.ref 55), some (.int x1), none, some (.int x3), some (.int x4), some (.int x5)] [.int s0, .int s1] M := ⟨fun c57 => ⟨(fxs_55 hW), 65, (fxr_55_16 hW), ⟨414, (fxs_65 hW), (h.1 c57).1, ⟨fun c68 => ⟨(fxs_55 hW), 65, (fxr_55_16 hW), ⟨fun c78 => (((h.1 c57).2.1 c68).1 c78), fun c78 => (((h.1 c57).2.1 c68).2 c78)⟩⟩, fun c68 => ((h.1 c57).2.2 c68)⟩⟩⟩, fun c57 => (h.2 c57)⟩
theorem dX13_pawnGoes_0 : decode cX13_pawnGoes 0 = .ok (.aload_n 0, 1) := by decide +kernel
theorem dX13_pawnGoes_1 : decode cX13_pawnGoes 1 = .ok (.getfield 43, 3) := by decide +kernel
theorem dX13_pawnGoes_4 : decode cX13_pawnGoes 4 = .ok (.iload_n 1, 1) := by decide +kernel
theorem dX13_pawnGoes_5 : decode cX13_pawnGoes 5 = .ok (.bipush 64, 2) := by decide +kernel
theorem dX13_pawnGoes_7 : decode cX13_pawnGoes 7 = .ok (.iadd, 1) := by decide +kernel
theorem dX13_pawnGoes_8 : decode cX13_pawnGoes 8 = .ok (.iaload, 1) := by decide +kernel
theorem dX13_pawnGoes_9 : decode cX13_pawnGoes 9 = .ok (.istore 4, 2) := by decide +kernel
theorem dX13_pawnGoes_11 : decode cX13_pawnGoes 11 = .ok (.iload 4, 2) := by decide +kernel
theorem dX13_pawnGoes_13 : decode cX13_pawnGoes 13 = .ok (.ifCond .ne 8, 3) := by decide +kernel
theorem dX13_pawnGoes_16 : decode cX13_pawnGoes 16 = .ok (.bipush 8, 2) := by decide +kernel
theorem dX13_pawnGoes_18 : decode cX13_pawnGoes 18 = .ok (.goto 5, 3) := by decide +kernel
theorem dX13_pawnGoes_21 : decode cX13_pawnGoes 21 = .ok (.bipush (-8), 2) := by decide +kernel
theorem dX13_pawnGoes_23 : decode cX13_pawnGoes 23 = .ok (.istore 5, 2) := by decide +kernel
theorem dX13_pawnGoes_25 : decode cX13_pawnGoes 25 = .ok (.iload_n 3, 1) := by decide +kernel
theorem dX13_pawnGoes_26 : decode cX13_pawnGoes 26 = .ok (.iload_n 2, 1) := by decide +kernel
theorem dX13_pawnGoes_27 : decode cX13_pawnGoes 27 = .ok (.iload 5, 2) := by decide +kernel
theorem dX13_pawnGoes_29 : decode cX13_pawnGoes 29 = .ok (.iadd, 1) := by decide +kernel
theorem dX13_pawnGoes_30 : decode cX13_pawnGoes 30 = .ok (.if_icmp .ne 20, 3) := by decide +kernel
theorem dX13_pawnGoes_33 : decode cX13_pawnGoes 33 = .ok (.aload_n 0, 1) := by decide +kernel
theorem dX13_pawnGoes_34 : decode cX13_pawnGoes 34 = .ok (.getfield 43, 3) := by decide +kernel
theorem dX13_pawnGoes_37 : decode cX13_pawnGoes 37 = .ok (.iload_n 1, 1) := by decide +kernel
theorem dX13_pawnGoes_38 : decode cX13_pawnGoes 38 = .ok (.iload_n 3, 1) := by decide +kernel
theorem dX13_pawnGoes_39 : decode cX13_pawnGoes 39 = .ok (.iadd, 1) := by decide +kernel
theorem dX13_pawnGoes_40 : decode cX13_pawnGoes 40 = .ok (.iaload, 1) := by decide +kernel
theorem dX13_pawnGoes_41 : decode cX13_pawnGoes 41 = .ok (.ifCond .ne 7, 3) := by decide +kernel
theorem dX13_pawnGoes_44 : decode cX13_pawnGoes 44 = .ok (.iconst 1, 1) := by decide +kernel
theorem dX13_pawnGoes_45 : decode cX13_pawnGoes 45 = .ok (.goto 4, 3) := by decide +kernel
theorem dX13_pawnGoes_48 : decode cX13_pawnGoes 48 = .ok (.iconst 0, 1) := by decide +kernel
theorem dX13_pawnGoes_49 : decode cX13_pawnGoes 49 = .ok (.ireturn, 1) := by decide +kernel
theorem dX13_pawnGoes_50 : decode cX13_pawnGoes 50 = .ok (.iload_n 3, 1) := by decide +kernel
theorem dX13_pawnGoes_51 : decode cX13_pawnGoes 51 = .ok (.iload_n 2, 1) := by decide +kernel
theorem dX13_pawnGoes_52 : decode cX13_pawnGoes 52 = .ok (.iconst 2, 1) := by decide +kernel
theorem dX13_pawnGoes_53 : decode cX13_pawnGoes 53 = .ok (.iload 5, 2) := by decide +kernel
theorem dX13_pawnGoes_55 : decode cX13_pawnGoes 55 = .ok (.imul, 1) := by decide +kernel
theorem dX13_pawnGoes_56 : decode cX13_pawnGoes 56 = .ok (.iadd, 1) := by decide +kernel
theorem dX13_pawnGoes_57 : decode cX13_pawnGoes 57 = .ok (.if_icmp .ne 52, 3) := by decide +kernel
theorem dX13_pawnGoes_60 : decode cX13_pawnGoes 60 = .ok (.iload_n 2, 1) := by decide +kernel
theorem dX13_pawnGoes_61 : decode cX13_pawnGoes 61 = .ok (.bipush 8, 2) := by decide +kernel
theorem dX13_pawnGoes_63 : decode cX13_pawnGoes 63 = .ok (.idiv, 1) := by decide +kernel
theorem dX13_pawnGoes_64 : decode cX13_pawnGoes 64 = .ok (.iload 4, 2) := by decide +kernel
theorem dX13_pawnGoes_66 : decode cX13_pawnGoes 66 = .ok (.ifCond .ne 7, 3) := by decide +kernel
theorem dX13_pawnGoes_69 : decode cX13_pawnGoes 69 = .ok (.iconst 1, 1) := by decide +kernel
theorem dX13_pawnGoes_70 : decode cX13_pawnGoes 70 = .ok (.goto 5, 3) := by decide +kernel
theorem dX13_pawnGoes_73 : decode cX13_pawnGoes 73 = .ok (.bipush 6, 2) := by decide +kernel
theorem dX13_pawnGoes_75 : decode cX13_pawnGoes 75 = .ok (.if_icmp .ne 32, 3) := by decide +kernel
theorem dX13_pawnGoes_78 : decode cX13_pawnGoes 78 = .ok (.aload_n 0, 1) := by decide +kernel
theorem dX13_pawnGoes_79 : decode cX13_pawnGoes 79 = .ok (.getfield 43, 3) := by decide +kernel
theorem dX13_pawnGoes_82 : decode cX13_pawnGoes 82 = .ok (.iload_n 1, 1) := by decide +kernel
theorem dX13_pawnGoes_83 : decode cX13_pawnGoes 83 = .ok (.iload_n 2, 1) := by decide +kernel
theorem dX13_pawnGoes_84 : decode cX13_pawnGoes 84 = .ok (.iadd, 1) := by decide +kernel
theorem dX13_pawnGoes_85 : decode cX13_pawnGoes 85 = .ok (.iload 5, 2) := by decide +kernel
theorem dX13_pawnGoes_87 : decode cX13_pawnGoes 87 = .ok (.iadd, 1) := by decide +kernel
theorem dX13_pawnGoes_88 : decode cX13_pawnGoes 88 = .ok (.iaload, 1) := by decide +kernel
theorem dX13_pawnGoes_89 : decode cX13_pawnGoes 89 = .ok (.ifCond .ne 18, 3) := by decide +kernel
theorem dX13_pawnGoes_92 : decode cX13_pawnGoes 92 = .ok (.aload_n 0, 1) := by decide +kernel
theorem dX13_pawnGoes_93 : decode cX13_pawnGoes 93 = .ok (.getfield 43, 3) := by decide +kernel
theorem dX13_pawnGoes_96 : decode cX13_pawnGoes 96 = .ok (.iload_n 1, 1) := by decide +kernel
theorem dX13_pawnGoes_97 : decode cX13_pawnGoes 97 = .ok (.iload_n 3, 1) := by decide +kernel
theorem dX13_pawnGoes_98 : decode cX13_pawnGoes 98 = .ok (.iadd, 1) := by decide +kernel
theorem dX13_pawnGoes_99 : decode cX13_pawnGoes 99 = .ok (.iaload, 1) := by decide +kernel
theorem dX13_pawnGoes_100 : decode cX13_pawnGoes 100 = .ok (.ifCond .ne 7, 3) := by decide +kernel
theorem dX13_pawnGoes_103 : decode cX13_pawnGoes 103 = .ok (.iconst 1, 1) := by decide +kernel
theorem dX13_pawnGoes_104 : decode cX13_pawnGoes 104 = .ok (.goto 4, 3) := by decide +kernel
theorem dX13_pawnGoes_107 : decode cX13_pawnGoes 107 = .ok (.iconst 0, 1) := by decide +kernel
theorem dX13_pawnGoes_108 : decode cX13_pawnGoes 108 = .ok (.ireturn, 1) := by decide +kernel
theorem dX13_pawnGoes_109 : decode cX13_pawnGoes 109 = .ok (.aload_n 0, 1) := by decide +kernel
theorem dX13_pawnGoes_110 : decode cX13_pawnGoes 110 = .ok (.iload_n 1, 1) := by decide +kernel
theorem dX13_pawnGoes_111 : decode cX13_pawnGoes 111 = .ok (.iload_n 2, 1) := by decide +kernel
theorem dX13_pawnGoes_112 : decode cX13_pawnGoes 112 = .ok (.iload_n 3, 1) := by decide +kernel
theorem dX13_pawnGoes_113 : decode cX13_pawnGoes 113 = .ok (.invokevirtual 81, 3) := by decide +kernel
theorem dX13_pawnGoes_116 : decode cX13_pawnGoes 116 = .ok (.ifCond .eq 14, 3) := by decide +kernel
theorem dX13_pawnGoes_119 : decode cX13_pawnGoes 119 = .ok (.aload_n 0, 1) := by decide +kernel
theorem dX13_pawnGoes_120 : decode cX13_pawnGoes 120 = .ok (.getfield 43, 3) := by decide +kernel
theorem dX13_pawnGoes_123 : decode cX13_pawnGoes 123 = .ok (.iload_n 1, 1) := by decide +kernel
theorem dX13_pawnGoes_124 : decode cX13_pawnGoes 124 = .ok (.iload_n 3, 1) := by decide +kernel
theorem dX13_pawnGoes_125 : decode cX13_pawnGoes 125 = .ok (.iadd, 1) := by decide +kernel
theorem dX13_pawnGoes_126 : decode cX13_pawnGoes 126 = .ok (.iaload, 1) := by decide +kernel
theorem dX13_pawnGoes_127 : decode cX13_pawnGoes 127 = .ok (.ifCond .gt 13, 3) := by decide +kernel
theorem dX13_pawnGoes_130 : decode cX13_pawnGoes 130 = .ok (.aload_n 0, 1) := by decide +kernel
theorem dX13_pawnGoes_131 : decode cX13_pawnGoes 131 = .ok (.iload_n 1, 1) := by decide +kernel
theorem dX13_pawnGoes_132 : decode cX13_pawnGoes 132 = .ok (.iload_n 2, 1) := by decide +kernel
theorem dX13_pawnGoes_133 : decode cX13_pawnGoes 133 = .ok (.iload_n 3, 1) := by decide +kernel
theorem dX13_pawnGoes_134 : decode cX13_pawnGoes 134 = .ok (.invokevirtual 91, 3) := by decide +kernel
theorem dX13_pawnGoes_137 : decode cX13_pawnGoes 137 = .ok (.ifCond .eq 7, 3) := by decide +kernel
theorem dX13_pawnGoes_140 : decode cX13_pawnGoes 140 = .ok (.iconst 1, 1) := by decide +kernel
theorem dX13_pawnGoes_141 : decode cX13_pawnGoes 141 = .ok (.goto 4, 3) := by decide +kernel
theorem dX13_pawnGoes_144 : decode cX13_pawnGoes 144 = .ok (.iconst 0, 1) := by decide +kernel
theorem dX13_pawnGoes_145 : decode cX13_pawnGoes 145 = .ok (.ireturn, 1) := by decide +kernel
def kX13_pawnGoes_11 (mc ms : Nat) (X : Nat → zV) (Q : zQt) : zT :=
  zli 4 <| zif (fun x => x = 0) (zc (.int 8) <| zj X 23 [0, 1, 2, 3, 4]) <| zc (.int (-8)) <| zj X 23 [0, 1, 2, 3, 4]
def kX13_pawnGoes_116 (mc ms : Nat) (X : Nat → zV) (Q : zQt) : zT :=
  zif (fun x => x = 0) (zj X 130 [0, 1, 2, 3]) <| zla 0 <| zgR 13 16 <| zli 1 <| zli 3 <| zii (fun x y => x + y) <| zal 1 <| zif (fun x => 0 < x) (zj X 140 []) <| zj X 130 [0, 1, 2, 3]
def kX13_pawnGoes_137 (mc ms : Nat) (X : Nat → zV) (Q : zQt) : zT :=
  zif (fun x => x = 0) (zc (.int 0) <| zj X 145 []) <| zj X 140 []
def aX13_pawnGoes_0 (mc ms : Nat) (X : Nat → zV) (Q : zQt) : zT :=
  zla 0 <| zgR 13 16 <| zli 1 <| zc (.int 64) <| zii (fun x y => x + y) <| zal 1 <| zsiN 4 <| kX13_pawnGoes_11 mc ms X Q
def aX13_pawnGoes_23 (mc ms : Nat) (X : Nat → zV) (Q : zQt) : zT :=
  zsi 5 <| zli 3 <| zli 2 <| zli 5 <| zii (fun x y => x + y) <| zic (fun x y => x = y) (zla 0 <| zgR 13 16 <| zli 1 <| zli 3 <| zii (fun x y => x + y) <| zal 1 <| zif (fun x => x = 0) (zc (.int 1) <| zj X 49 []) <| zc (.int 0) <| zj X 49 []) <| zli 3 <| zli 2 <| zc (.int 2) <| zli 5 <| zii (fun x y => x * y) <| zii (fun x y => x + y) <| zic (fun x y => x = y) (zli 2 <| zc (.int 8) <| zid (fun x y => x / y) <| zli 4 <| zif (fun x => x = 0) (zc (.int 1) <| zj X 75 [0, 1, 2, 3, 5]) <| zc (.int 6) <| zj X 75 [0, 1, 2, 3, 5]) <| zla 0 <| zli 1 <| zli 2 <| zli 3 <| zcv mc ms 13 3 wX13_attacks <| kX13_pawnGoes_116 mc ms X Q
def aX13_pawnGoes_49 (mc ms : Nat) (X : Nat → zV) (Q : zQt) : zT :=
  zrz .boolean Q
def aX13_pawnGoes_75 (mc ms : Nat) (X : Nat → zV) (Q : zQt) : zT :=
  zic (fun x y => x = y) (zla 0 <| zgR 13 16 <| zli 1 <| zli 2 <| zii (fun x y => x + y) <| zli 5 <| zii (fun x y => x + y) <| zal 1 <| zif (fun x => x = 0) (zla 0 <| zgR 13 16 <| zli 1 <| zli 3 <| zii (fun x y => x + y) <| zal 1 <| zif (fun x => x = 0) (zc (.int 1) <| zj X 108 []) <| zj X 107 []) <| zj X 107 []) <| zj X 107 []
def aX13_pawnGoes_107 (mc ms : Nat) (X : Nat → zV) (Q : zQt) : zT :=
  zc (.int 0) <| zj X 108 []
def aX13_pawnGoes_108 (mc ms : Nat) (X : Nat → zV) (Q : zQt) : zT :=
  zrz .boolean Q
def aX13_pawnGoes_130 (mc ms : Nat) (X : Nat → zV) (Q : zQt) : zT :=
  zla 0 <| zli 1 <| zli 2 <| zli 3 <| zcv mc ms 13 3 wX13_takesInPassing <| kX13_pawnGoes_137 mc ms X Q
def aX13_pawnGoes_140 (mc ms : Nat) (X : Nat → zV) (Q : zQt) : zT :=
  zc (.int 1) <| zj X 145 []
def aX13_pawnGoes_145 (mc ms : Nat) (X : Nat → zV) (Q : zQt) : zT :=
  zrz .boolean Q
def lvX13_pawnGoes : Nat → List Nat := fun L => match L with
  | 0 => [0, 1, 2, 3]
  | 23 => [0, 1, 2, 3, 4]
  | 49 => []
  | 75 => [0, 1, 2, 3, 5]
  | 107 => []
  | 108 => []
  | 130 => [0, 1, 2, 3]
  | 140 => []
  | 145 => []
  | _ => []
def wX13_pawnGoes : zSp := fun mc ms av M Q => ((zlay av).length ≤ 6 ∧ zpick (zlay av) [0, 1, 2, 3] = some av) ∧ ∀ X : Nat → zV, zin 6 [0, 1, 2, 3] (aX13_pawnGoes_0 mc ms X Q) X 0 → zin 6 [0, 1, 2, 3, 4] (aX13_pawnGoes_23 mc ms X Q) X 23 → zin 6 [] (aX13_pawnGoes_49 mc ms X Q) X 49 → zin 6 [0, 1, 2, 3, 5] (aX13_pawnGoes_75 mc ms X Q) X 75 → zin 6 [] (aX13_pawnGoes_107 mc ms X Q) X 107 → zin 6 [] (aX13_pawnGoes_108 mc ms X Q) X 108 → zin 6 [0, 1, 2, 3] (aX13_pawnGoes_130 mc ms X Q) X 130 → zin 6 [] (aX13_pawnGoes_140 mc ms X Q) X 140 → zin 6 [] (aX13_pawnGoes_145 mc ms X Q) X 145 → X 0 0 0 av [] M
set_option maxRecDepth 100000 in
set_option maxHeartbeats 4000000 in
theorem sX13_pawnGoes (l : Launch) (G : zG) : zSnd l G yX13_pawnGoes cX13_pawnGoes 6 (some .boolean) 3 78 wX13_pawnGoes := by
  refine zmk [0, 1, 2, 3] (by decide) (fun mc ms av M Q h => h.1) ?_
  intro p e R s m args below meth c mc ms av M Q hC hRf hRl hr hnm h lv hlv
  obtain ⟨X, hXe⟩ : ∃ X : Nat → zV, X = fun L u v vs st M => ∀ lv, zpick lv (lvX13_pawnGoes L) = some vs → zAt p l e R s m args below meth c (MQ below (zQ G Q) args s mc ms (zA G)) G 6 L u v lv st M := ⟨_, rfl⟩
  have hJ : ∀ L, zOk p l e R s m args below meth c (MQ below (zQ G Q) args s mc ms (zA G)) G 6 L (zj X L (lvX13_pawnGoes L)) := fun L => S_jump (fun u v lv vs st M hp hx => by rw [hXe] at hx; exact hx lv hp)
  have hB0 : zin 6 [0, 1, 2, 3] (aX13_pawnGoes_0 mc ms X Q) X 0 := by
    intro u v vs st M hb
    rw [hXe]
    refine fun lv hp => S_block (L := 0) (live := [0, 1, 2, 3]) ?_ u v lv vs st M hp hb
    unfold aX13_pawnGoes_0
    refine S_aload_n (pc := 0) hC dX13_pawnGoes_0 rfl ?_
    refine S_getR (pc := 1) hC cfX13 (by decide) (Or.inr ⟨_, rfl⟩) wd_1271 dX13_pawnGoes_1 ?_
    refine S_iload_n (pc := 4) hC dX13_pawnGoes_4 rfl ?_
    refine S_bipush (pc := 5) hC dX13_pawnGoes_5 (by decide) ?_
    refine S_iadd (pc := 7) hC dX13_pawnGoes_7 ?_
    refine S_iaload (pc := 8) hC dX13_pawnGoes_8 ?_
    refine S_istore_N (pc := 9) hC dX13_pawnGoes_9 (by decide) ?_
    unfold kX13_pawnGoes_11
    refine S_iload (pc := 11) hC dX13_pawnGoes_11 ?_
    refine S_if_ne (pc := 13) (tgt := 21) hC dX13_pawnGoes_13 (by decide) ?_ ?_
    · refine S_bipush (pc := 21) hC dX13_pawnGoes_21 (by decide) ?_
      exact hJ 23
    · refine S_bipush (pc := 16) hC dX13_pawnGoes_16 (by decide) ?_
      refine S_goto (pc := 18) (tgt := 23) hC dX13_pawnGoes_18 (by decide) ?_
      exact hJ 23
  have hB23 : zin 6 [0, 1, 2, 3, 4] (aX13_pawnGoes_23 mc ms X Q) X 23 := by
    intro u v vs st M hb
    rw [hXe]
    refine fun lv hp => S_block (L := 23) (live := [0, 1, 2, 3, 4]) ?_ u v lv vs st M hp hb
    unfold aX13_pawnGoes_23
    refine S_istore (pc := 23) hC dX13_pawnGoes_23 (by decide) ?_
    refine S_iload_n (pc := 25) hC dX13_pawnGoes_25 rfl ?_
    refine S_iload_n (pc := 26) hC dX13_pawnGoes_26 rfl ?_
    refine S_iload (pc := 27) hC dX13_pawnGoes_27 ?_
    refine S_iadd (pc := 29) hC dX13_pawnGoes_29 ?_
    refine S_icmp_ne (pc := 30) (tgt := 50) hC dX13_pawnGoes_30 (by decide) ?_ ?_
    · refine S_iload_n (pc := 50) hC dX13_pawnGoes_50 rfl ?_
      refine S_iload_n (pc := 51) hC dX13_pawnGoes_51 rfl ?_
      refine S_iconst (pc := 52) hC dX13_pawnGoes_52 (by decide) ?_
      refine S_iload (pc := 53) hC dX13_pawnGoes_53 ?_
      refine S_imul (pc := 55) hC dX13_pawnGoes_55 ?_
      refine S_iadd (pc := 56) hC dX13_pawnGoes_56 ?_
      refine S_icmp_ne (pc := 57) (tgt := 109) hC dX13_pawnGoes_57 (by decide) ?_ ?_
      · refine S_aload_n (pc := 109) hC dX13_pawnGoes_109 rfl ?_
        refine S_iload_n (pc := 110) hC dX13_pawnGoes_110 rfl ?_
        refine S_iload_n (pc := 111) hC dX13_pawnGoes_111 rfl ?_
        refine S_iload_n (pc := 112) hC dX13_pawnGoes_112 rfl ?_
        refine S_callV (pc := 113) hC (sX13_attacks l G) rfl wd_1428 wd_1430 ws_69 wd_12 wd_1431 (by decide +kernel) ⟨by rw [hRf]; decide, by rw [hRl]; decide⟩ dX13_pawnGoes_113 ?_
        unfold kX13_pawnGoes_116
        refine S_if_eq (pc := 116) (tgt := 130) hC dX13_pawnGoes_116 (by decide) ?_ ?_
        · exact hJ 130
        · refine S_aload_n (pc := 119) hC dX13_pawnGoes_119 rfl ?_
          refine S_getR (pc := 120) hC cfX13 (by decide) (Or.inr ⟨_, rfl⟩) wd_1271 dX13_pawnGoes_120 ?_
          refine S_iload_n (pc := 123) hC dX13_pawnGoes_123 rfl ?_
          refine S_iload_n (pc := 124) hC dX13_pawnGoes_124 rfl ?_
          refine S_iadd (pc := 125) hC dX13_pawnGoes_125 ?_
          refine S_iaload (pc := 126) hC dX13_pawnGoes_126 ?_
          refine S_if_gt (pc := 127) (tgt := 140) hC dX13_pawnGoes_127 (by decide) ?_ ?_
          · exact hJ 140
          · exact hJ 130
      · refine S_iload_n (pc := 60) hC dX13_pawnGoes_60 rfl ?_
        refine S_bipush (pc := 61) hC dX13_pawnGoes_61 (by decide) ?_
        refine S_idiv (pc := 63) hC dX13_pawnGoes_63 ?_
        refine S_iload (pc := 64) hC dX13_pawnGoes_64 ?_
        refine S_if_ne (pc := 66) (tgt := 73) hC dX13_pawnGoes_66 (by decide) ?_ ?_
        · refine S_bipush (pc := 73) hC dX13_pawnGoes_73 (by decide) ?_
          exact hJ 75
        · refine S_iconst (pc := 69) hC dX13_pawnGoes_69 (by decide) ?_
          refine S_goto (pc := 70) (tgt := 75) hC dX13_pawnGoes_70 (by decide) ?_
          exact hJ 75
    · refine S_aload_n (pc := 33) hC dX13_pawnGoes_33 rfl ?_
      refine S_getR (pc := 34) hC cfX13 (by decide) (Or.inr ⟨_, rfl⟩) wd_1271 dX13_pawnGoes_34 ?_
      refine S_iload_n (pc := 37) hC dX13_pawnGoes_37 rfl ?_
      refine S_iload_n (pc := 38) hC dX13_pawnGoes_38 rfl ?_
      refine S_iadd (pc := 39) hC dX13_pawnGoes_39 ?_
      refine S_iaload (pc := 40) hC dX13_pawnGoes_40 ?_
      refine S_if_ne (pc := 41) (tgt := 48) hC dX13_pawnGoes_41 (by decide) ?_ ?_
      · refine S_iconst (pc := 48) hC dX13_pawnGoes_48 (by decide) ?_
        exact hJ 49
      · refine S_iconst (pc := 44) hC dX13_pawnGoes_44 (by decide) ?_
        refine S_goto (pc := 45) (tgt := 49) hC dX13_pawnGoes_45 (by decide) ?_
        exact hJ 49
  have hB49 : zin 6 [] (aX13_pawnGoes_49 mc ms X Q) X 49 := by
    intro u v vs st M hb
    rw [hXe]
    refine fun lv hp => S_block (L := 49) (live := []) ?_ u v lv vs st M hp hb
    unfold aX13_pawnGoes_49
    exact S_zreturn (pc := 49) hC hr dX13_pawnGoes_49
  have hB75 : zin 6 [0, 1, 2, 3, 5] (aX13_pawnGoes_75 mc ms X Q) X 75 := by
    intro u v vs st M hb
    rw [hXe]
    refine fun lv hp => S_block (L := 75) (live := [0, 1, 2, 3, 5]) ?_ u v lv vs st M hp hb
    unfold aX13_pawnGoes_75
    refine S_icmp_ne (pc := 75) (tgt := 107) hC dX13_pawnGoes_75 (by decide) ?_ ?_
    · exact hJ 107
    · refine S_aload_n (pc := 78) hC dX13_pawnGoes_78 rfl ?_
      refine S_getR (pc := 79) hC cfX13 (by decide) (Or.inr ⟨_, rfl⟩) wd_1271 dX13_pawnGoes_79 ?_
      refine S_iload_n (pc := 82) hC dX13_pawnGoes_82 rfl ?_
      refine S_iload_n (pc := 83) hC dX13_pawnGoes_83 rfl ?_
      refine S_iadd (pc := 84) hC dX13_pawnGoes_84 ?_
      refine S_iload (pc := 85) hC dX13_pawnGoes_85 ?_
      refine S_iadd (pc := 87) hC dX13_pawnGoes_87 ?_
      refine S_iaload (pc := 88) hC dX13_pawnGoes_88 ?_
      refine S_if_ne (pc := 89) (tgt := 107) hC dX13_pawnGoes_89 (by decide) ?_ ?_
      · exact hJ 107
      · refine S_aload_n (pc := 92) hC dX13_pawnGoes_92 rfl ?_
        refine S_getR (pc := 93) hC cfX13 (by decide) (Or.inr ⟨_, rfl⟩) wd_1271 dX13_pawnGoes_93 ?_
        refine S_iload_n (pc := 96) hC dX13_pawnGoes_96 rfl ?_
        refine S_iload_n (pc := 97) hC dX13_pawnGoes_97 rfl ?_
        refine S_iadd (pc := 98) hC dX13_pawnGoes_98 ?_
        refine S_iaload (pc := 99) hC dX13_pawnGoes_99 ?_
        refine S_if_ne (pc := 100) (tgt := 107) hC dX13_pawnGoes_100 (by decide) ?_ ?_
        · exact hJ 107
        · refine S_iconst (pc := 103) hC dX13_pawnGoes_103 (by decide) ?_
          refine S_goto (pc := 104) (tgt := 108) hC dX13_pawnGoes_104 (by decide) ?_
          exact hJ 108
  have hB107 : zin 6 [] (aX13_pawnGoes_107 mc ms X Q) X 107 := by
    intro u v vs st M hb
    rw [hXe]
    refine fun lv hp => S_block (L := 107) (live := []) ?_ u v lv vs st M hp hb
    unfold aX13_pawnGoes_107
    refine S_iconst (pc := 107) hC dX13_pawnGoes_107 (by decide) ?_
    exact hJ 108
  have hB108 : zin 6 [] (aX13_pawnGoes_108 mc ms X Q) X 108 := by
    intro u v vs st M hb
    rw [hXe]
    refine fun lv hp => S_block (L := 108) (live := []) ?_ u v lv vs st M hp hb
    unfold aX13_pawnGoes_108
    exact S_zreturn (pc := 108) hC hr dX13_pawnGoes_108
  have hB130 : zin 6 [0, 1, 2, 3] (aX13_pawnGoes_130 mc ms X Q) X 130 := by
    intro u v vs st M hb
    rw [hXe]
    refine fun lv hp => S_block (L := 130) (live := [0, 1, 2, 3]) ?_ u v lv vs st M hp hb
    unfold aX13_pawnGoes_130
    refine S_aload_n (pc := 130) hC dX13_pawnGoes_130 rfl ?_
    refine S_iload_n (pc := 131) hC dX13_pawnGoes_131 rfl ?_
    refine S_iload_n (pc := 132) hC dX13_pawnGoes_132 rfl ?_
    refine S_iload_n (pc := 133) hC dX13_pawnGoes_133 rfl ?_
    refine S_callV (pc := 134) hC (sX13_takesInPassing l G) rfl wd_1459 wd_1461 ws_76 wd_12 wd_1462 (by decide +kernel) ⟨by rw [hRf]; decide, by rw [hRl]; decide⟩ dX13_pawnGoes_134 ?_
    unfold kX13_pawnGoes_137
    refine S_if_eq (pc := 137) (tgt := 144) hC dX13_pawnGoes_137 (by decide) ?_ ?_
    · refine S_iconst (pc := 144) hC dX13_pawnGoes_144 (by decide) ?_
      exact hJ 145
    · exact hJ 140
  have hB140 : zin 6 [] (aX13_pawnGoes_140 mc ms X Q) X 140 := by
    intro u v vs st M hb
    rw [hXe]
    refine fun lv hp => S_block (L := 140) (live := []) ?_ u v lv vs st M hp hb
    unfold aX13_pawnGoes_140
    refine S_iconst (pc := 140) hC dX13_pawnGoes_140 (by decide) ?_
    refine S_goto (pc := 141) (tgt := 145) hC dX13_pawnGoes_141 (by decide) ?_
    exact hJ 145
  have hB145 : zin 6 [] (aX13_pawnGoes_145 mc ms X Q) X 145 := by
    intro u v vs st M hb
    rw [hXe]
    refine fun lv hp => S_block (L := 145) (live := []) ?_ u v lv vs st M hp hb
    unfold aX13_pawnGoes_145
    exact S_zreturn (pc := 145) hC hr dX13_pawnGoes_145
  have := h.2 X hB0 hB23 hB49 hB75 hB107 hB108 hB130 hB140 hB145
  rw [hXe] at this
  exact this lv hlv
theorem vcX13_pawnGoes_11 {mc ms : Nat} {X : Nat → zV} {Q : zQt} {M : zM} {x1 : Int32} {x2 : Int32} {x3 : Int32} {x4 : Int32} (hW : zFix M)  (h : (x4 = 0 → X 23 0 0 [.ref 55, .int x1, .int x2, .int x3, .int x4] [.int 8] M) ∧ (¬ x4 = 0 → X 23 0 0 [.ref 55, .int x1, .int x2, .int x3, .int x4] [.int (-8)] M)) : kX13_pawnGoes_11 mc ms X Q 0 0 [some (.ref 55), some (.int x1), some (.int x2), some (.int x3), some (.int x4), none] [] M := ⟨fun c13 => (h.1 c13), fun c13 => (h.2 c13)⟩
theorem vX13_pawnGoes_0 {mc ms : Nat} {X : Nat → zV} {Q : zQt} {M : zM} {x1 : Int32} {x2 : Int32} {x3 : Int32} (hW : zFix M)  (h : vp_in ((x1 + (64 : Int32))) 414 ∧ ∀ y9 : Int32, y9 = ((M : zM).1 65 ((x1 + (64 : Int32)) : Int32).toNatClampNeg) → (y9 = 0 → X 23 0 0 [.ref 55, .int x1, .int x2, .int x3, .int y9] [.int 8] M) ∧ (¬ y9 = 0 → X 23 0 0 [.ref 55, .int x1, .int x2, .int x3, .int y9] [.int (-8)] M)) : aX13_pawnGoes_0 mc ms X Q 0 0 [some (.ref 55), some (.int x1), some (.int x2), some (.int x3), none, none] [] M := ⟨(fxs_55 hW), 65, (fxr_55_16 hW), ⟨414, (fxs_65 hW), h.1, (fun y9 e9 => have h9 := h.2 y9 e9; (vcX13_pawnGoes_11 hW  h9))⟩⟩
theorem vX13_pawnGoes_23 {mc ms : Nat} {X : Nat → zV} {Q : zQt} {M : zM} {x1 : Int32} {x2 : Int32} {x3 : Int32} {x4 : Int32} {s0 : Int32} (hW : zFix M)  (h : (x3 = (x2 + s0) → vp_in ((x1 + x3)) 414 ∧ (((M : zM).1 65 ((x1 + x3) : Int32).toNatClampNeg) = 0 → X 49 0 0 [] [.int 1] M) ∧ (¬ ((M : zM).1 65 ((x1 + x3) : Int32).toNatClampNeg) = 0 → X 49 0 0 [] [.int 0] M)) ∧ (¬ x3 = (x2 + s0) → (x3 = (x2 + ((2 : Int32) * s0)) → (x4 = 0 → X 75 0 0 [.ref 55, .int x1, .int x2, .int x3, .int s0] [.int 1, .int (x2 / (8 : Int32))] M) ∧ (¬ x4 = 0 → X 75 0 0 [.ref 55, .int x1, .int x2, .int x3, .int s0] [.int 6, .int (x2 / (8 : Int32))] M)) ∧ (¬ x3 = (x2 + ((2 : Int32) * s0)) → wX13_attacks 0 0 [.ref 55, .int x1, .int x2, .int x3] M (fun r M1 => kX13_pawnGoes_116 mc ms X Q 0 0 [some (.ref 55), some (.int x1), some (.int x2), some (.int x3), some (.int x4), some (.int s0)] (r.toList ++ []) M1)))) : aX13_pawnGoes_23 mc ms X Q 0 0 [some (.ref 55), some (.int x1), some (.int x2), some (.int x3), some (.int x4), none] [.int s0] M := ⟨fun c30 => ⟨(fxs_55 hW), 65, (fxr_55_16 hW), ⟨414, (fxs_65 hW), (h.1 c30).1, ⟨fun c41 => ((h.1 c30).2.1 c41), fun c41 => ((h.1 c30).2.2 c41)⟩⟩⟩, fun c30 => ⟨fun c57 => ⟨by decide, ⟨fun c66 => (((h.2 c30).1 c57).1 c66), fun c66 => (((h.2 c30).1 c57).2 c66)⟩⟩, fun c57 => ⟨Nat.le_of_ble_eq_true rfl, rfl, (fxs_55 hW), 0, 0, Nat.zero_le _, Nat.zero_le _, ((h.2 c30).2 c57)⟩⟩⟩
theorem vX13_pawnGoes_49 {mc ms : Nat} {X : Nat → zV} {Q : zQt} {M : zM} {s0 : Int32} (hW : zFix M)  (h : narrow .boolean (.int s0) = .int s0 ∧ Q (some (.int s0)) M) : aX13_pawnGoes_49 mc ms X Q 0 0 [none, none, none, none, none, none] [.int s0] M := h
theorem vX13_pawnGoes_75 {mc ms : Nat} {X : Nat → zV} {Q : zQt} {M : zM} {x1 : Int32} {x2 : Int32} {x3 : Int32} {x5 : Int32} {s0 : Int32} {s1 : Int32} (hW : zFix M)  (h : (s1 = s0 → vp_in (((x1 + x2) + x5)) 414 ∧ (((M : zM).1 65 (((x1 + x2) + x5) : Int32).toNatClampNeg) = 0 → vp_in ((x1 + x3)) 414 ∧ (((M : zM).1 65 ((x1 + x3) : Int32).toNatClampNeg) = 0 → X 108 0 0 [] [.int 1] M) ∧ (¬ ((M : zM).1 65 ((x1 + x3) : Int32).toNatClampNeg) = 0 → X 107 0 0 [] [] M)) ∧ (¬ ((M : zM).1 65 (((x1 + x2) + x5) : Int32).toNatClampNeg) = 0 → X 107 0 0 [] [] M)) ∧ (¬ s1 = s0 → X 107 0 0 [] [] M)) : aX13_pawnGoes_75 mc ms X Q 0 0 [some (.ref 55), some (.int x1), some (.int x2), some (.int x3), none, some (.int x5)] [.int s0, .int s1] M := ⟨fun c75 => ⟨(fxs_55 hW), 65, (fxr_55_16 hW), ⟨414, (fxs_65 hW), (h.1 c75).1, ⟨fun c89 => ⟨(fxs_55 hW), 65, (fxr_55_16 hW), ⟨414, (fxs_65 hW), ((h.1 c75).2.1 c89).1, ⟨fun c100 => (((h.1 c75).2.1 c89).2.1 c100), fun c100 => (((h.1 c75).2.1 c89).2.2 c100)⟩⟩⟩, fun c89 => ((h.1 c75).2.2 c89)⟩⟩⟩, fun c75 => (h.2 c75)⟩
theorem vX13_pawnGoes_107 {mc ms : Nat} {X : Nat → zV} {Q : zQt} {M : zM}  (hW : zFix M)  (h : X 108 0 0 [] [.int 0] M) : aX13_pawnGoes_107 mc ms X Q 0 0 [none, none, none, none, none, none] [] M := h
theorem vX13_pawnGoes_108 {mc ms : Nat} {X : Nat → zV} {Q : zQt} {M : zM} {s0 : Int32} (hW : zFix M)  (h : narrow .boolean (.int s0) = .int s0 ∧ Q (some (.int s0)) M) : aX13_pawnGoes_108 mc ms X Q 0 0 [none, none, none, none, none, none] [.int s0] M := h
theorem vX13_pawnGoes_130 {mc ms : Nat} {X : Nat → zV} {Q : zQt} {M : zM} {x1 : Int32} {x2 : Int32} {x3 : Int32} (hW : zFix M)  (h : wX13_takesInPassing 0 0 [.ref 55, .int x1, .int x2, .int x3] M (fun r M1 => kX13_pawnGoes_137 mc ms X Q 0 0 [some (.ref 55), some (.int x1), some (.int x2), some (.int x3), none, none] (r.toList ++ []) M1)) : aX13_pawnGoes_130 mc ms X Q 0 0 [some (.ref 55), some (.int x1), some (.int x2), some (.int x3), none, none] [] M := ⟨Nat.le_of_ble_eq_true rfl, rfl, (fxs_55 hW), 0, 0, Nat.zero_le _, Nat.zero_le _, h⟩
theorem vX13_pawnGoes_140 {mc ms : Nat} {X : Nat → zV} {Q : zQt} {M : zM}  (hW : zFix M)  (h : X 145 0 0 [] [.int 1] M) : aX13_pawnGoes_140 mc ms X Q 0 0 [none, none, none, none, none, none] [] M := h
theorem vX13_pawnGoes_145 {mc ms : Nat} {X : Nat → zV} {Q : zQt} {M : zM} {s0 : Int32} (hW : zFix M)  (h : narrow .boolean (.int s0) = .int s0 ∧ Q (some (.int s0)) M) : aX13_pawnGoes_145 mc ms X Q 0 0 [none, none, none, none, none, none] [.int s0] M := h
theorem vkX13_pawnGoes_116 {mc ms : Nat} {X : Nat → zV} {Q : zQt} {M : zM} {x1 : Int32} {x2 : Int32} {x3 : Int32} {x4 : Int32} {x5 : Int32} {s0 : Int32} (hW : zFix M)  (h : (s0 = 0 → X 130 0 0 [.ref 55, .int x1, .int x2, .int x3] [] M) ∧ (¬ s0 = 0 → vp_in ((x1 + x3)) 414 ∧ (0 < ((M : zM).1 65 ((x1 + x3) : Int32).toNatClampNeg) → X 140 0 0 [] [] M) ∧ (¬ 0 < ((M : zM).1 65 ((x1 + x3) : Int32).toNatClampNeg) → X 130 0 0 [.ref 55, .int x1, .int x2, .int x3] [] M))) : kX13_pawnGoes_116 mc ms X Q 0 0 [some (.ref 55), some (.int x1), some (.int x2), some (.int x3), some (.int x4), some (.int x5)] [.int s0] M := ⟨fun c116 => (h.1 c116), fun c116 => ⟨(fxs_55 hW), 65, (fxr_55_16 hW), ⟨414, (fxs_65 hW), (h.2 c116).1, ⟨fun c127 => ((h.2 c116).2.1 c127), fun c127 => ((h.2 c116).2.2 c127)⟩⟩⟩⟩
theorem vkX13_pawnGoes_137 {mc ms : Nat} {X : Nat → zV} {Q : zQt} {M : zM} {x1 : Int32} {x2 : Int32} {x3 : Int32} {s0 : Int32} (hW : zFix M)  (h : (s0 = 0 → X 145 0 0 [] [.int 0] M) ∧ (¬ s0 = 0 → X 140 0 0 [] [] M)) : kX13_pawnGoes_137 mc ms X Q 0 0 [some (.ref 55), some (.int x1), some (.int x2), some (.int x3), none, none] [.int s0] M := ⟨fun c137 => (h.1 c137), fun c137 => (h.2 c137)⟩
theorem dX13_castles_0 : decode cX13_castles 0 = .ok (.aload_n 0, 1) := by decide +kernel
theorem dX13_castles_1 : decode cX13_castles 1 = .ok (.getfield 43, 3) := by decide +kernel
theorem dX13_castles_4 : decode cX13_castles 4 = .ok (.iload_n 1, 1) := by decide +kernel
theorem dX13_castles_5 : decode cX13_castles 5 = .ok (.bipush 64, 2) := by decide +kernel
theorem dX13_castles_7 : decode cX13_castles 7 = .ok (.iadd, 1) := by decide +kernel
theorem dX13_castles_8 : decode cX13_castles 8 = .ok (.iaload, 1) := by decide +kernel
theorem dX13_castles_9 : decode cX13_castles 9 = .ok (.istore 4, 2) := by decide +kernel
theorem dX13_castles_11 : decode cX13_castles 11 = .ok (.iconst 4, 1) := by decide +kernel
theorem dX13_castles_12 : decode cX13_castles 12 = .ok (.bipush 56, 2) := by decide +kernel
theorem dX13_castles_14 : decode cX13_castles 14 = .ok (.iload 4, 2) := by decide +kernel
theorem dX13_castles_16 : decode cX13_castles 16 = .ok (.imul, 1) := by decide +kernel
theorem dX13_castles_17 : decode cX13_castles 17 = .ok (.iadd, 1) := by decide +kernel
theorem dX13_castles_18 : decode cX13_castles 18 = .ok (.istore 5, 2) := by decide +kernel
theorem dX13_castles_20 : decode cX13_castles 20 = .ok (.iload_n 2, 1) := by decide +kernel
theorem dX13_castles_21 : decode cX13_castles 21 = .ok (.iload 5, 2) := by decide +kernel
theorem dX13_castles_23 : decode cX13_castles 23 = .ok (.if_icmp .ne 19, 3) := by decide +kernel
theorem dX13_castles_26 : decode cX13_castles 26 = .ok (.iload_n 3, 1) := by decide +kernel
theorem dX13_castles_27 : decode cX13_castles 27 = .ok (.iload 5, 2) := by decide +kernel
theorem dX13_castles_29 : decode cX13_castles 29 = .ok (.iconst 2, 1) := by decide +kernel
theorem dX13_castles_30 : decode cX13_castles 30 = .ok (.iadd, 1) := by decide +kernel
theorem dX13_castles_31 : decode cX13_castles 31 = .ok (.if_icmp .eq 13, 3) := by decide +kernel
theorem dX13_castles_34 : decode cX13_castles 34 = .ok (.iload_n 3, 1) := by decide +kernel
theorem dX13_castles_35 : decode cX13_castles 35 = .ok (.iload 5, 2) := by decide +kernel
theorem dX13_castles_37 : decode cX13_castles 37 = .ok (.iconst 2, 1) := by decide +kernel
theorem dX13_castles_38 : decode cX13_castles 38 = .ok (.isub, 1) := by decide +kernel
theorem dX13_castles_39 : decode cX13_castles 39 = .ok (.if_icmp .eq 5, 3) := by decide +kernel
theorem dX13_castles_42 : decode cX13_castles 42 = .ok (.iconst 0, 1) := by decide +kernel
theorem dX13_castles_43 : decode cX13_castles 43 = .ok (.ireturn, 1) := by decide +kernel
theorem dX13_castles_44 : decode cX13_castles 44 = .ok (.iload_n 3, 1) := by decide +kernel
theorem dX13_castles_45 : decode cX13_castles 45 = .ok (.iload 5, 2) := by decide +kernel
theorem dX13_castles_47 : decode cX13_castles 47 = .ok (.if_icmp .le 7, 3) := by decide +kernel
theorem dX13_castles_50 : decode cX13_castles 50 = .ok (.iconst 1, 1) := by decide +kernel
theorem dX13_castles_51 : decode cX13_castles 51 = .ok (.goto 4, 3) := by decide +kernel
theorem dX13_castles_54 : decode cX13_castles 54 = .ok (.iconst 0, 1) := by decide +kernel
theorem dX13_castles_55 : decode cX13_castles 55 = .ok (.istore 6, 2) := by decide +kernel
theorem dX13_castles_57 : decode cX13_castles 57 = .ok (.iload 6, 2) := by decide +kernel
theorem dX13_castles_59 : decode cX13_castles 59 = .ok (.ifCond .eq 7, 3) := by decide +kernel
theorem dX13_castles_62 : decode cX13_castles 62 = .ok (.iconst 1, 1) := by decide +kernel
theorem dX13_castles_63 : decode cX13_castles 63 = .ok (.goto 4, 3) := by decide +kernel
theorem dX13_castles_66 : decode cX13_castles 66 = .ok (.iconst 2, 1) := by decide +kernel
theorem dX13_castles_67 : decode cX13_castles 67 = .ok (.iconst 2, 1) := by decide +kernel
theorem dX13_castles_68 : decode cX13_castles 68 = .ok (.iload 4, 2) := by decide +kernel
theorem dX13_castles_70 : decode cX13_castles 70 = .ok (.imul, 1) := by decide +kernel
theorem dX13_castles_71 : decode cX13_castles 71 = .ok (.ishl, 1) := by decide +kernel
theorem dX13_castles_72 : decode cX13_castles 72 = .ok (.istore 7, 2) := by decide +kernel
theorem dX13_castles_74 : decode cX13_castles 74 = .ok (.iload 6, 2) := by decide +kernel
theorem dX13_castles_76 : decode cX13_castles 76 = .ok (.ifCond .eq 10, 3) := by decide +kernel
theorem dX13_castles_79 : decode cX13_castles 79 = .ok (.iload 5, 2) := by decide +kernel
theorem dX13_castles_81 : decode cX13_castles 81 = .ok (.iconst 3, 1) := by decide +kernel
theorem dX13_castles_82 : decode cX13_castles 82 = .ok (.iadd, 1) := by decide +kernel
theorem dX13_castles_83 : decode cX13_castles 83 = .ok (.goto 7, 3) := by decide +kernel
theorem dX13_castles_86 : decode cX13_castles 86 = .ok (.iload 5, 2) := by decide +kernel
theorem dX13_castles_88 : decode cX13_castles 88 = .ok (.iconst 4, 1) := by decide +kernel
theorem dX13_castles_89 : decode cX13_castles 89 = .ok (.isub, 1) := by decide +kernel
theorem dX13_castles_90 : decode cX13_castles 90 = .ok (.istore 8, 2) := by decide +kernel
theorem dX13_castles_92 : decode cX13_castles 92 = .ok (.aload_n 0, 1) := by decide +kernel
theorem dX13_castles_93 : decode cX13_castles 93 = .ok (.getfield 43, 3) := by decide +kernel
theorem dX13_castles_96 : decode cX13_castles 96 = .ok (.iload_n 1, 1) := by decide +kernel
theorem dX13_castles_97 : decode cX13_castles 97 = .ok (.bipush 65, 2) := by decide +kernel
theorem dX13_castles_99 : decode cX13_castles 99 = .ok (.iadd, 1) := by decide +kernel
theorem dX13_castles_100 : decode cX13_castles 100 = .ok (.iaload, 1) := by decide +kernel
theorem dX13_castles_101 : decode cX13_castles 101 = .ok (.iload 7, 2) := by decide +kernel
theorem dX13_castles_103 : decode cX13_castles 103 = .ok (.iand, 1) := by decide +kernel
theorem dX13_castles_104 : decode cX13_castles 104 = .ok (.ifCond .eq 26, 3) := by decide +kernel
theorem dX13_castles_107 : decode cX13_castles 107 = .ok (.aload_n 0, 1) := by decide +kernel
theorem dX13_castles_108 : decode cX13_castles 108 = .ok (.getfield 43, 3) := by decide +kernel
theorem dX13_castles_111 : decode cX13_castles 111 = .ok (.iload_n 1, 1) := by decide +kernel
theorem dX13_castles_112 : decode cX13_castles 112 = .ok (.iload 8, 2) := by decide +kernel
theorem dX13_castles_114 : decode cX13_castles 114 = .ok (.iadd, 1) := by decide +kernel
theorem dX13_castles_115 : decode cX13_castles 115 = .ok (.iaload, 1) := by decide +kernel
theorem dX13_castles_116 : decode cX13_castles 116 = .ok (.iconst 4, 1) := by decide +kernel
theorem dX13_castles_117 : decode cX13_castles 117 = .ok (.bipush 6, 2) := by decide +kernel
theorem dX13_castles_119 : decode cX13_castles 119 = .ok (.iload 4, 2) := by decide +kernel
theorem dX13_castles_121 : decode cX13_castles 121 = .ok (.imul, 1) := by decide +kernel
theorem dX13_castles_122 : decode cX13_castles 122 = .ok (.iadd, 1) := by decide +kernel
theorem dX13_castles_123 : decode cX13_castles 123 = .ok (.if_icmp .ne 7, 3) := by decide +kernel
theorem dX13_castles_126 : decode cX13_castles 126 = .ok (.iconst 1, 1) := by decide +kernel
theorem dX13_castles_127 : decode cX13_castles 127 = .ok (.goto 4, 3) := by decide +kernel
theorem dX13_castles_130 : decode cX13_castles 130 = .ok (.iconst 0, 1) := by decide +kernel
theorem dX13_castles_131 : decode cX13_castles 131 = .ok (.istore 9, 2) := by decide +kernel
theorem dX13_castles_133 : decode cX13_castles 133 = .ok (.iload 5, 2) := by decide +kernel
theorem dX13_castles_135 : decode cX13_castles 135 = .ok (.iload 8, 2) := by decide +kernel
theorem dX13_castles_137 : decode cX13_castles 137 = .ok (.if_icmp .ge 10, 3) := by decide +kernel
theorem dX13_castles_140 : decode cX13_castles 140 = .ok (.iload 5, 2) := by decide +kernel
theorem dX13_castles_142 : decode cX13_castles 142 = .ok (.iconst 1, 1) := by decide +kernel
theorem dX13_castles_143 : decode cX13_castles 143 = .ok (.iadd, 1) := by decide +kernel
theorem dX13_castles_144 : decode cX13_castles 144 = .ok (.goto 7, 3) := by decide +kernel
theorem dX13_castles_147 : decode cX13_castles 147 = .ok (.iload 8, 2) := by decide +kernel
theorem dX13_castles_149 : decode cX13_castles 149 = .ok (.iconst 1, 1) := by decide +kernel
theorem dX13_castles_150 : decode cX13_castles 150 = .ok (.iadd, 1) := by decide +kernel
theorem dX13_castles_151 : decode cX13_castles 151 = .ok (.istore 10, 2) := by decide +kernel
theorem dX13_castles_153 : decode cX13_castles 153 = .ok (.iload 10, 2) := by decide +kernel
theorem dX13_castles_155 : decode cX13_castles 155 = .ok (.iload 5, 2) := by decide +kernel
theorem dX13_castles_157 : decode cX13_castles 157 = .ok (.if_icmp .lt 10, 3) := by decide +kernel
theorem dX13_castles_160 : decode cX13_castles 160 = .ok (.iload 10, 2) := by decide +kernel
theorem dX13_castles_162 : decode cX13_castles 162 = .ok (.iload 8, 2) := by decide +kernel
theorem dX13_castles_164 : decode cX13_castles 164 = .ok (.if_icmp .ge 33, 3) := by decide +kernel
theorem dX13_castles_167 : decode cX13_castles 167 = .ok (.iload 9, 2) := by decide +kernel
theorem dX13_castles_169 : decode cX13_castles 169 = .ok (.ifCond .eq 19, 3) := by decide +kernel
theorem dX13_castles_172 : decode cX13_castles 172 = .ok (.aload_n 0, 1) := by decide +kernel
theorem dX13_castles_173 : decode cX13_castles 173 = .ok (.getfield 43, 3) := by decide +kernel
theorem dX13_castles_176 : decode cX13_castles 176 = .ok (.iload_n 1, 1) := by decide +kernel
theorem dX13_castles_177 : decode cX13_castles 177 = .ok (.iload 10, 2) := by decide +kernel
theorem dX13_castles_179 : decode cX13_castles 179 = .ok (.iadd, 1) := by decide +kernel
theorem dX13_castles_180 : decode cX13_castles 180 = .ok (.iaload, 1) := by decide +kernel
theorem dX13_castles_181 : decode cX13_castles 181 = .ok (.ifCond .ne 7, 3) := by decide +kernel
theorem dX13_castles_184 : decode cX13_castles 184 = .ok (.iconst 1, 1) := by decide +kernel
theorem dX13_castles_185 : decode cX13_castles 185 = .ok (.goto 4, 3) := by decide +kernel
theorem dX13_castles_188 : decode cX13_castles 188 = .ok (.iconst 0, 1) := by decide +kernel
theorem dX13_castles_189 : decode cX13_castles 189 = .ok (.istore 9, 2) := by decide +kernel
theorem dX13_castles_191 : decode cX13_castles 191 = .ok (.iinc 10 1, 3) := by decide +kernel
theorem dX13_castles_194 : decode cX13_castles 194 = .ok (.goto (-41), 3) := by decide +kernel
theorem dX13_castles_197 : decode cX13_castles 197 = .ok (.iload 9, 2) := by decide +kernel
theorem dX13_castles_199 : decode cX13_castles 199 = .ok (.ifCond .eq 39, 3) := by decide +kernel
theorem dX13_castles_202 : decode cX13_castles 202 = .ok (.aload_n 0, 1) := by decide +kernel
theorem dX13_castles_203 : decode cX13_castles 203 = .ok (.iload_n 1, 1) := by decide +kernel
theorem dX13_castles_204 : decode cX13_castles 204 = .ok (.iload 5, 2) := by decide +kernel
theorem dX13_castles_206 : decode cX13_castles 206 = .ok (.iconst 1, 1) := by decide +kernel
theorem dX13_castles_207 : decode cX13_castles 207 = .ok (.iload 4, 2) := by decide +kernel
theorem dX13_castles_209 : decode cX13_castles 209 = .ok (.isub, 1) := by decide +kernel
theorem dX13_castles_210 : decode cX13_castles 210 = .ok (.invokevirtual 85, 3) := by decide +kernel
theorem dX13_castles_213 : decode cX13_castles 213 = .ok (.ifCond .ne 25, 3) := by decide +kernel
theorem dX13_castles_216 : decode cX13_castles 216 = .ok (.aload_n 0, 1) := by decide +kernel
theorem dX13_castles_217 : decode cX13_castles 217 = .ok (.iload_n 1, 1) := by decide +kernel
theorem dX13_castles_218 : decode cX13_castles 218 = .ok (.iload 5, 2) := by decide +kernel
theorem dX13_castles_220 : decode cX13_castles 220 = .ok (.iload_n 3, 1) := by decide +kernel
theorem dX13_castles_221 : decode cX13_castles 221 = .ok (.iadd, 1) := by decide +kernel
theorem dX13_castles_222 : decode cX13_castles 222 = .ok (.iconst 2, 1) := by decide +kernel
theorem dX13_castles_223 : decode cX13_castles 223 = .ok (.idiv, 1) := by decide +kernel
theorem dX13_castles_224 : decode cX13_castles 224 = .ok (.iconst 1, 1) := by decide +kernel
theorem dX13_castles_225 : decode cX13_castles 225 = .ok (.iload 4, 2) := by decide +kernel
theorem dX13_castles_227 : decode cX13_castles 227 = .ok (.isub, 1) := by decide +kernel
theorem dX13_castles_228 : decode cX13_castles 228 = .ok (.invokevirtual 85, 3) := by decide +kernel
theorem dX13_castles_231 : decode cX13_castles 231 = .ok (.ifCond .ne 7, 3) := by decide +kernel
theorem dX13_castles_234 : decode cX13_castles 234 = .ok (.iconst 1, 1) := by decide +kernel
theorem dX13_castles_235 : decode cX13_castles 235 = .ok (.goto 4, 3) := by decide +kernel
theorem dX13_castles_238 : decode cX13_castles 238 = .ok (.iconst 0, 1) := by decide +kernel
theorem dX13_castles_239 : decode cX13_castles 239 = .ok (.ireturn, 1) := by decide +kernel
def kX13_castles_20 (mc ms : Nat) (X : Nat → zV) (Q : zQt) : zT :=
  zli 2 <| zli 5 <| zic (fun x y => x = y) (zli 3 <| zli 5 <| zc (.int 2) <| zii (fun x y => x + y) <| zic (fun x y => x = y) (zj X 44 [0, 1, 3, 4, 5]) <| zli 3 <| zli 5 <| zc (.int 2) <| zii (fun x y => x - y) <| zic (fun x y => x = y) (zj X 44 [0, 1, 3, 4, 5]) <| zj X 42 []) <| zj X 42 []
def kX13_castles_11 (mc ms : Nat) (X : Nat → zV) (Q : zQt) : zT :=
  zc (.int 4) <| zc (.int 56) <| zli 4 <| zii (fun x y => x * y) <| zii (fun x y => x + y) <| zsiN 5 <| kX13_castles_20 mc ms X Q
def kX13_castles_74 (mc ms : Nat) (X : Nat → zV) (Q : zQt) : zT :=
  zli 6 <| zif (fun x => x = 0) (zli 5 <| zc (.int 4) <| zii (fun x y => x - y) <| zj X 90 [0, 1, 3, 4, 5, 7]) <| zli 5 <| zc (.int 3) <| zii (fun x y => x + y) <| zj X 90 [0, 1, 3, 4, 5, 7]
def kX13_castles_231 (mc ms : Nat) (X : Nat → zV) (Q : zQt) : zT :=
  zif (fun x => x = 0) (zc (.int 1) <| zj X 239 []) <| zj X 238 []
def kX13_castles_213 (mc ms : Nat) (X : Nat → zV) (Q : zQt) : zT :=
  zif (fun x => x = 0) (zla 0 <| zli 1 <| zli 5 <| zli 3 <| zii (fun x y => x + y) <| zc (.int 2) <| zid (fun x y => x / y) <| zc (.int 1) <| zli 4 <| zii (fun x y => x - y) <| zcv mc ms 13 3 wX13_isAttacked <| kX13_castles_231 mc ms X Q) <| zj X 238 []
def aX13_castles_0 (mc ms : Nat) (X : Nat → zV) (Q : zQt) : zT :=
  zla 0 <| zgR 13 16 <| zli 1 <| zc (.int 64) <| zii (fun x y => x + y) <| zal 1 <| zsiN 4 <| kX13_castles_11 mc ms X Q
def aX13_castles_42 (mc ms : Nat) (X : Nat → zV) (Q : zQt) : zT :=
  zc (.int 0) <| zrz .boolean Q
def aX13_castles_44 (mc ms : Nat) (X : Nat → zV) (Q : zQt) : zT :=
  zli 3 <| zli 5 <| zic (fun x y => x ≤ y) (zc (.int 0) <| zj X 55 [0, 1, 3, 4, 5]) <| zc (.int 1) <| zj X 55 [0, 1, 3, 4, 5]
def aX13_castles_55 (mc ms : Nat) (X : Nat → zV) (Q : zQt) : zT :=
  zsi 6 <| zli 6 <| zif (fun x => x = 0) (zc (.int 2) <| zj X 67 [0, 1, 3, 4, 5, 6]) <| zc (.int 1) <| zj X 67 [0, 1, 3, 4, 5, 6]
def aX13_castles_67 (mc ms : Nat) (X : Nat → zV) (Q : zQt) : zT :=
  zc (.int 2) <| zli 4 <| zii (fun x y => x * y) <| zii (fun x y => x <<< (y &&& 31)) <| zsiN 7 <| kX13_castles_74 mc ms X Q
def aX13_castles_90 (mc ms : Nat) (X : Nat → zV) (Q : zQt) : zT :=
  zsi 8 <| zla 0 <| zgR 13 16 <| zli 1 <| zc (.int 65) <| zii (fun x y => x + y) <| zal 1 <| zli 7 <| zii (fun x y => x &&& y) <| zif (fun x => x = 0) (zj X 130 [0, 1, 3, 4, 5, 8]) <| zla 0 <| zgR 13 16 <| zli 1 <| zli 8 <| zii (fun x y => x + y) <| zal 1 <| zc (.int 4) <| zc (.int 6) <| zli 4 <| zii (fun x y => x * y) <| zii (fun x y => x + y) <| zic (fun x y => x = y) (zc (.int 1) <| zj X 131 [0, 1, 3, 4, 5, 8]) <| zj X 130 [0, 1, 3, 4, 5, 8]
def aX13_castles_130 (mc ms : Nat) (X : Nat → zV) (Q : zQt) : zT :=
  zc (.int 0) <| zj X 131 [0, 1, 3, 4, 5, 8]
def aX13_castles_131 (mc ms : Nat) (X : Nat → zV) (Q : zQt) : zT :=
  zsi 9 <| zli 5 <| zli 8 <| zic (fun x y => y ≤ x) (zli 8 <| zc (.int 1) <| zii (fun x y => x + y) <| zj X 151 [0, 1, 3, 4, 5, 8, 9]) <| zli 5 <| zc (.int 1) <| zii (fun x y => x + y) <| zj X 151 [0, 1, 3, 4, 5, 8, 9]
def aX13_castles_151 (mc ms : Nat) (X : Nat → zV) (Q : zQt) : zT :=
  zsi 10 <| zj X 153 [0, 1, 3, 4, 5, 8, 9, 10]
def aX13_castles_153 (mc ms : Nat) (X : Nat → zV) (Q : zQt) : zT :=
  zli 10 <| zli 5 <| zic (fun x y => x < y) (zj X 167 [0, 1, 3, 4, 5, 8, 9, 10]) <| zli 10 <| zli 8 <| zic (fun x y => y ≤ x) (zli 9 <| zif (fun x => x = 0) (zj X 238 []) <| zla 0 <| zli 1 <| zli 5 <| zc (.int 1) <| zli 4 <| zii (fun x y => x - y) <| zcv mc ms 13 3 wX13_isAttacked <| kX13_castles_213 mc ms X Q) <| zj X 167 [0, 1, 3, 4, 5, 8, 9, 10]
def aX13_castles_167 (mc ms : Nat) (X : Nat → zV) (Q : zQt) : zT :=
  zli 9 <| zif (fun x => x = 0) (zj X 188 [0, 1, 3, 4, 5, 8, 10]) <| zla 0 <| zgR 13 16 <| zli 1 <| zli 10 <| zii (fun x y => x + y) <| zal 1 <| zif (fun x => x = 0) (zc (.int 1) <| zj X 189 [0, 1, 3, 4, 5, 8, 10]) <| zj X 188 [0, 1, 3, 4, 5, 8, 10]
def aX13_castles_188 (mc ms : Nat) (X : Nat → zV) (Q : zQt) : zT :=
  zc (.int 0) <| zj X 189 [0, 1, 3, 4, 5, 8, 10]
def aX13_castles_189 (mc ms : Nat) (X : Nat → zV) (Q : zQt) : zT :=
  zsi 9 <| zinc 10 1 <| zj X 153 [0, 1, 3, 4, 5, 8, 9, 10]
def aX13_castles_238 (mc ms : Nat) (X : Nat → zV) (Q : zQt) : zT :=
  zc (.int 0) <| zj X 239 []
def aX13_castles_239 (mc ms : Nat) (X : Nat → zV) (Q : zQt) : zT :=
  zrz .boolean Q
def lvX13_castles : Nat → List Nat := fun L => match L with
  | 0 => [0, 1, 2, 3]
  | 42 => []
  | 44 => [0, 1, 3, 4, 5]
  | 55 => [0, 1, 3, 4, 5]
  | 67 => [0, 1, 3, 4, 5, 6]
  | 90 => [0, 1, 3, 4, 5, 7]
  | 130 => [0, 1, 3, 4, 5, 8]
  | 131 => [0, 1, 3, 4, 5, 8]
  | 151 => [0, 1, 3, 4, 5, 8, 9]
  | 153 => [0, 1, 3, 4, 5, 8, 9, 10]
  | 167 => [0, 1, 3, 4, 5, 8, 9, 10]
  | 188 => [0, 1, 3, 4, 5, 8, 10]
  | 189 => [0, 1, 3, 4, 5, 8, 10]
  | 238 => []
  | 239 => []
  | _ => []
def wX13_castles : zSp := fun mc ms av M Q => ((zlay av).length ≤ 11 ∧ zpick (zlay av) [0, 1, 2, 3] = some av) ∧ ∀ X : Nat → zV, zin 11 [0, 1, 2, 3] (aX13_castles_0 mc ms X Q) X 0 → zin 11 [] (aX13_castles_42 mc ms X Q) X 42 → zin 11 [0, 1, 3, 4, 5] (aX13_castles_44 mc ms X Q) X 44 → zin 11 [0, 1, 3, 4, 5] (aX13_castles_55 mc ms X Q) X 55 → zin 11 [0, 1, 3, 4, 5, 6] (aX13_castles_67 mc ms X Q) X 67 → zin 11 [0, 1, 3, 4, 5, 7] (aX13_castles_90 mc ms X Q) X 90 → zin 11 [0, 1, 3, 4, 5, 8] (aX13_castles_130 mc ms X Q) X 130 → zin 11 [0, 1, 3, 4, 5, 8] (aX13_castles_131 mc ms X Q) X 131 → zin 11 [0, 1, 3, 4, 5, 8, 9] (aX13_castles_151 mc ms X Q) X 151 → zin 11 [0, 1, 3, 4, 5, 8, 9, 10] (aX13_castles_153 mc ms X Q) X 153 → zin 11 [0, 1, 3, 4, 5, 8, 9, 10] (aX13_castles_167 mc ms X Q) X 167 → zin 11 [0, 1, 3, 4, 5, 8, 10] (aX13_castles_188 mc ms X Q) X 188 → zin 11 [0, 1, 3, 4, 5, 8, 10] (aX13_castles_189 mc ms X Q) X 189 → zin 11 [] (aX13_castles_238 mc ms X Q) X 238 → zin 11 [] (aX13_castles_239 mc ms X Q) X 239 → X 0 0 0 av [] M
set_option maxRecDepth 100000 in
set_option maxHeartbeats 4000000 in
theorem sX13_castles (l : Launch) (G : zG) : zSnd l G yX13_castles cX13_castles 11 (some .boolean) 3 77 wX13_castles := by
  refine zmk [0, 1, 2, 3] (by decide) (fun mc ms av M Q h => h.1) ?_
  intro p e R s m args below meth c mc ms av M Q hC hRf hRl hr hnm h lv hlv
  obtain ⟨X, hXe⟩ : ∃ X : Nat → zV, X = fun L u v vs st M => ∀ lv, zpick lv (lvX13_castles L) = some vs → zAt p l e R s m args below meth c (MQ below (zQ G Q) args s mc ms (zA G)) G 11 L u v lv st M := ⟨_, rfl⟩
  have hJ : ∀ L, zOk p l e R s m args below meth c (MQ below (zQ G Q) args s mc ms (zA G)) G 11 L (zj X L (lvX13_castles L)) := fun L => S_jump (fun u v lv vs st M hp hx => by rw [hXe] at hx; exact hx lv hp)
  have hB0 : zin 11 [0, 1, 2, 3] (aX13_castles_0 mc ms X Q) X 0 := by
    intro u v vs st M hb
    rw [hXe]
    refine fun lv hp => S_block (L := 0) (live := [0, 1, 2, 3]) ?_ u v lv vs st M hp hb
    unfold aX13_castles_0
    refine S_aload_n (pc := 0) hC dX13_castles_0 rfl ?_
    refine S_getR (pc := 1) hC cfX13 (by decide) (Or.inr ⟨_, rfl⟩) wd_1271 dX13_castles_1 ?_
    refine S_iload_n (pc := 4) hC dX13_castles_4 rfl ?_
    refine S_bipush (pc := 5) hC dX13_castles_5 (by decide) ?_
    refine S_iadd (pc := 7) hC dX13_castles_7 ?_
    refine S_iaload (pc := 8) hC dX13_castles_8 ?_
    refine S_istore_N (pc := 9) hC dX13_castles_9 (by decide) ?_
    unfold kX13_castles_11
    refine S_iconst (pc := 11) hC dX13_castles_11 (by decide) ?_
    refine S_bipush (pc := 12) hC dX13_castles_12 (by decide) ?_
    refine S_iload (pc := 14) hC dX13_castles_14 ?_
    refine S_imul (pc := 16) hC dX13_castles_16 ?_
    refine S_iadd (pc := 17) hC dX13_castles_17 ?_
    refine S_istore_N (pc := 18) hC dX13_castles_18 (by decide) ?_
    unfold kX13_castles_20
    refine S_iload_n (pc := 20) hC dX13_castles_20 rfl ?_
    refine S_iload (pc := 21) hC dX13_castles_21 ?_
    refine S_icmp_ne (pc := 23) (tgt := 42) hC dX13_castles_23 (by decide) ?_ ?_
    · exact hJ 42
    · refine S_iload_n (pc := 26) hC dX13_castles_26 rfl ?_
      refine S_iload (pc := 27) hC dX13_castles_27 ?_
      refine S_iconst (pc := 29) hC dX13_castles_29 (by decide) ?_
      refine S_iadd (pc := 30) hC dX13_castles_30 ?_
      refine S_icmp_eq (pc := 31) (tgt := 44) hC dX13_castles_31 (by decide) ?_ ?_
      · exact hJ 44
      · refine S_iload_n (pc := 34) hC dX13_castles_34 rfl ?_
        refine S_iload (pc := 35) hC dX13_castles_35 ?_
        refine S_iconst (pc := 37) hC dX13_castles_37 (by decide) ?_
        refine S_isub (pc := 38) hC dX13_castles_38 ?_
        refine S_icmp_eq (pc := 39) (tgt := 44) hC dX13_castles_39 (by decide) ?_ ?_
        · exact hJ 44
        · exact hJ 42
  have hB42 : zin 11 [] (aX13_castles_42 mc ms X Q) X 42 := by
    intro u v vs st M hb
    rw [hXe]
    refine fun lv hp => S_block (L := 42) (live := []) ?_ u v lv vs st M hp hb
    unfold aX13_castles_42
    refine S_iconst (pc := 42) hC dX13_castles_42 (by decide) ?_
    exact S_zreturn (pc := 43) hC hr dX13_castles_43
  have hB44 : zin 11 [0, 1, 3, 4, 5] (aX13_castles_44 mc ms X Q) X 44 := by
    intro u v vs st M hb
    rw [hXe]
    refine fun lv hp => S_block (L := 44) (live := [0, 1, 3, 4, 5]) ?_ u v lv vs st M hp hb
    unfold aX13_castles_44
    refine S_iload_n (pc := 44) hC dX13_castles_44 rfl ?_
    refine S_iload (pc := 45) hC dX13_castles_45 ?_
    refine S_icmp_le (pc := 47) (tgt := 54) hC dX13_castles_47 (by decide) ?_ ?_
    · refine S_iconst (pc := 54) hC dX13_castles_54 (by decide) ?_
      exact hJ 55
    · refine S_iconst (pc := 50) hC dX13_castles_50 (by decide) ?_
      refine S_goto (pc := 51) (tgt := 55) hC dX13_castles_51 (by decide) ?_
      exact hJ 55
  have hB55 : zin 11 [0, 1, 3, 4, 5] (aX13_castles_55 mc ms X Q) X 55 := by
    intro u v vs st M hb
    rw [hXe]
    refine fun lv hp => S_block (L := 55) (live := [0, 1, 3, 4, 5]) ?_ u v lv vs st M hp hb
    unfold aX13_castles_55
    refine S_istore (pc := 55) hC dX13_castles_55 (by decide) ?_
    refine S_iload (pc := 57) hC dX13_castles_57 ?_
    refine S_if_eq (pc := 59) (tgt := 66) hC dX13_castles_59 (by decide) ?_ ?_
    · refine S_iconst (pc := 66) hC dX13_castles_66 (by decide) ?_
      exact hJ 67
    · refine S_iconst (pc := 62) hC dX13_castles_62 (by decide) ?_
      refine S_goto (pc := 63) (tgt := 67) hC dX13_castles_63 (by decide) ?_
      exact hJ 67
  have hB67 : zin 11 [0, 1, 3, 4, 5, 6] (aX13_castles_67 mc ms X Q) X 67 := by
    intro u v vs st M hb
    rw [hXe]
    refine fun lv hp => S_block (L := 67) (live := [0, 1, 3, 4, 5, 6]) ?_ u v lv vs st M hp hb
    unfold aX13_castles_67
    refine S_iconst (pc := 67) hC dX13_castles_67 (by decide) ?_
    refine S_iload (pc := 68) hC dX13_castles_68 ?_
    refine S_imul (pc := 70) hC dX13_castles_70 ?_
    refine S_ishl (pc := 71) hC dX13_castles_71 ?_
    refine S_istore_N (pc := 72) hC dX13_castles_72 (by decide) ?_
    unfold kX13_castles_74
    refine S_iload (pc := 74) hC dX13_castles_74 ?_
    refine S_if_eq (pc := 76) (tgt := 86) hC dX13_castles_76 (by decide) ?_ ?_
    · refine S_iload (pc := 86) hC dX13_castles_86 ?_
      refine S_iconst (pc := 88) hC dX13_castles_88 (by decide) ?_
      refine S_isub (pc := 89) hC dX13_castles_89 ?_
      exact hJ 90
    · refine S_iload (pc := 79) hC dX13_castles_79 ?_
      refine S_iconst (pc := 81) hC dX13_castles_81 (by decide) ?_
      refine S_iadd (pc := 82) hC dX13_castles_82 ?_
      refine S_goto (pc := 83) (tgt := 90) hC dX13_castles_83 (by decide) ?_
      exact hJ 90
  have hB90 : zin 11 [0, 1, 3, 4, 5, 7] (aX13_castles_90 mc ms X Q) X 90 := by
    intro u v vs st M hb
    rw [hXe]
    refine fun lv hp => S_block (L := 90) (live := [0, 1, 3, 4, 5, 7]) ?_ u v lv vs st M hp hb
    unfold aX13_castles_90
    refine S_istore (pc := 90) hC dX13_castles_90 (by decide) ?_
    refine S_aload_n (pc := 92) hC dX13_castles_92 rfl ?_
    refine S_getR (pc := 93) hC cfX13 (by decide) (Or.inr ⟨_, rfl⟩) wd_1271 dX13_castles_93 ?_
    refine S_iload_n (pc := 96) hC dX13_castles_96 rfl ?_
    refine S_bipush (pc := 97) hC dX13_castles_97 (by decide) ?_
    refine S_iadd (pc := 99) hC dX13_castles_99 ?_
    refine S_iaload (pc := 100) hC dX13_castles_100 ?_
    refine S_iload (pc := 101) hC dX13_castles_101 ?_
    refine S_iand (pc := 103) hC dX13_castles_103 ?_
    refine S_if_eq (pc := 104) (tgt := 130) hC dX13_castles_104 (by decide) ?_ ?_
    · exact hJ 130
    · refine S_aload_n (pc := 107) hC dX13_castles_107 rfl ?_
      refine S_getR (pc := 108) hC cfX13 (by decide) (Or.inr ⟨_, rfl⟩) wd_1271 dX13_castles_108 ?_
      refine S_iload_n (pc := 111) hC dX13_castles_111 rfl ?_
      refine S_iload (pc := 112) hC dX13_castles_112 ?_
      refine S_iadd (pc := 114) hC dX13_castles_114 ?_
      refine S_iaload (pc := 115) hC dX13_castles_115 ?_
      refine S_iconst (pc := 116) hC dX13_castles_116 (by decide) ?_
      refine S_bipush (pc := 117) hC dX13_castles_117 (by decide) ?_
      refine S_iload (pc := 119) hC dX13_castles_119 ?_
      refine S_imul (pc := 121) hC dX13_castles_121 ?_
      refine S_iadd (pc := 122) hC dX13_castles_122 ?_
      refine S_icmp_ne (pc := 123) (tgt := 130) hC dX13_castles_123 (by decide) ?_ ?_
      · exact hJ 130
      · refine S_iconst (pc := 126) hC dX13_castles_126 (by decide) ?_
        refine S_goto (pc := 127) (tgt := 131) hC dX13_castles_127 (by decide) ?_
        exact hJ 131
  have hB130 : zin 11 [0, 1, 3, 4, 5, 8] (aX13_castles_130 mc ms X Q) X 130 := by
    intro u v vs st M hb
    rw [hXe]
    refine fun lv hp => S_block (L := 130) (live := [0, 1, 3, 4, 5, 8]) ?_ u v lv vs st M hp hb
    unfold aX13_castles_130
    refine S_iconst (pc := 130) hC dX13_castles_130 (by decide) ?_
    exact hJ 131
  have hB131 : zin 11 [0, 1, 3, 4, 5, 8] (aX13_castles_131 mc ms X Q) X 131 := by
    intro u v vs st M hb
    rw [hXe]
    refine fun lv hp => S_block (L := 131) (live := [0, 1, 3, 4, 5, 8]) ?_ u v lv vs st M hp hb
    unfold aX13_castles_131
    refine S_istore (pc := 131) hC dX13_castles_131 (by decide) ?_
    refine S_iload (pc := 133) hC dX13_castles_133 ?_
    refine S_iload (pc := 135) hC dX13_castles_135 ?_
    refine S_icmp_ge (pc := 137) (tgt := 147) hC dX13_castles_137 (by decide) ?_ ?_
    · refine S_iload (pc := 147) hC dX13_castles_147 ?_
      refine S_iconst (pc := 149) hC dX13_castles_149 (by decide) ?_
      refine S_iadd (pc := 150) hC dX13_castles_150 ?_
      exact hJ 151
    · refine S_iload (pc := 140) hC dX13_castles_140 ?_
      refine S_iconst (pc := 142) hC dX13_castles_142 (by decide) ?_
      refine S_iadd (pc := 143) hC dX13_castles_143 ?_
      refine S_goto (pc := 144) (tgt := 151) hC dX13_castles_144 (by decide) ?_
      exact hJ 151
  have hB151 : zin 11 [0, 1, 3, 4, 5, 8, 9] (aX13_castles_151 mc ms X Q) X 151 := by
    intro u v vs st M hb
    rw [hXe]
    refine fun lv hp => S_block (L := 151) (live := [0, 1, 3, 4, 5, 8, 9]) ?_ u v lv vs st M hp hb
    unfold aX13_castles_151
    refine S_istore (pc := 151) hC dX13_castles_151 (by decide) ?_
    exact hJ 153
  have hB153 : zin 11 [0, 1, 3, 4, 5, 8, 9, 10] (aX13_castles_153 mc ms X Q) X 153 := by
    intro u v vs st M hb
    rw [hXe]
    refine fun lv hp => S_block (L := 153) (live := [0, 1, 3, 4, 5, 8, 9, 10]) ?_ u v lv vs st M hp hb
    unfold aX13_castles_153
    refine S_iload (pc := 153) hC dX13_castles_153 ?_
    refine S_iload (pc := 155) hC dX13_castles_155 ?_
    refine S_icmp_lt (pc := 157) (tgt := 167) hC dX13_castles_157 (by decide) ?_ ?_
    · exact hJ 167
    · refine S_iload (pc := 160) hC dX13_castles_160 ?_
      refine S_iload (pc := 162) hC dX13_castles_162 ?_
      refine S_icmp_ge (pc := 164) (tgt := 197) hC dX13_castles_164 (by decide) ?_ ?_
      · refine S_iload (pc := 197) hC dX13_castles_197 ?_
        refine S_if_eq (pc := 199) (tgt := 238) hC dX13_castles_199 (by decide) ?_ ?_
        · exact hJ 238
        · refine S_aload_n (pc := 202) hC dX13_castles_202 rfl ?_
          refine S_iload_n (pc := 203) hC dX13_castles_203 rfl ?_
          refine S_iload (pc := 204) hC dX13_castles_204 ?_
          refine S_iconst (pc := 206) hC dX13_castles_206 (by decide) ?_
          refine S_iload (pc := 207) hC dX13_castles_207 ?_
          refine S_isub (pc := 209) hC dX13_castles_209 ?_
          refine S_callV (pc := 210) hC (sX13_isAttacked l G) rfl wd_1421 wd_1423 ws_68 wd_12 wd_1424 (by decide +kernel) ⟨by rw [hRf]; decide, by rw [hRl]; decide⟩ dX13_castles_210 ?_
          unfold kX13_castles_213
          refine S_if_ne (pc := 213) (tgt := 238) hC dX13_castles_213 (by decide) ?_ ?_
          · exact hJ 238
          · refine S_aload_n (pc := 216) hC dX13_castles_216 rfl ?_
            refine S_iload_n (pc := 217) hC dX13_castles_217 rfl ?_
            refine S_iload (pc := 218) hC dX13_castles_218 ?_
            refine S_iload_n (pc := 220) hC dX13_castles_220 rfl ?_
            refine S_iadd (pc := 221) hC dX13_castles_221 ?_
            refine S_iconst (pc := 222) hC dX13_castles_222 (by decide) ?_
            refine S_idiv (pc := 223) hC dX13_castles_223 ?_
            refine S_iconst (pc := 224) hC dX13_castles_224 (by decide) ?_
            refine S_iload (pc := 225) hC dX13_castles_225 ?_
            refine S_isub (pc := 227) hC dX13_castles_227 ?_
            refine S_callV (pc := 228) hC (sX13_isAttacked l G) rfl wd_1421 wd_1423 ws_68 wd_12 wd_1424 (by decide +kernel) ⟨by rw [hRf]; decide, by rw [hRl]; decide⟩ dX13_castles_228 ?_
            unfold kX13_castles_231
            refine S_if_ne (pc := 231) (tgt := 238) hC dX13_castles_231 (by decide) ?_ ?_
            · exact hJ 238
            · refine S_iconst (pc := 234) hC dX13_castles_234 (by decide) ?_
              refine S_goto (pc := 235) (tgt := 239) hC dX13_castles_235 (by decide) ?_
              exact hJ 239
      · exact hJ 167
  have hB167 : zin 11 [0, 1, 3, 4, 5, 8, 9, 10] (aX13_castles_167 mc ms X Q) X 167 := by
    intro u v vs st M hb
    rw [hXe]
    refine fun lv hp => S_block (L := 167) (live := [0, 1, 3, 4, 5, 8, 9, 10]) ?_ u v lv vs st M hp hb
    unfold aX13_castles_167
    refine S_iload (pc := 167) hC dX13_castles_167 ?_
    refine S_if_eq (pc := 169) (tgt := 188) hC dX13_castles_169 (by decide) ?_ ?_
    · exact hJ 188
    · refine S_aload_n (pc := 172) hC dX13_castles_172 rfl ?_
      refine S_getR (pc := 173) hC cfX13 (by decide) (Or.inr ⟨_, rfl⟩) wd_1271 dX13_castles_173 ?_
      refine S_iload_n (pc := 176) hC dX13_castles_176 rfl ?_
      refine S_iload (pc := 177) hC dX13_castles_177 ?_
      refine S_iadd (pc := 179) hC dX13_castles_179 ?_
      refine S_iaload (pc := 180) hC dX13_castles_180 ?_
      refine S_if_ne (pc := 181) (tgt := 188) hC dX13_castles_181 (by decide) ?_ ?_
      · exact hJ 188
      · refine S_iconst (pc := 184) hC dX13_castles_184 (by decide) ?_
        refine S_goto (pc := 185) (tgt := 189) hC dX13_castles_185 (by decide) ?_
        exact hJ 189
  have hB188 : zin 11 [0, 1, 3, 4, 5, 8, 10] (aX13_castles_188 mc ms X Q) X 188 := by
    intro u v vs st M hb
    rw [hXe]
    refine fun lv hp => S_block (L := 188) (live := [0, 1, 3, 4, 5, 8, 10]) ?_ u v lv vs st M hp hb
    unfold aX13_castles_188
    refine S_iconst (pc := 188) hC dX13_castles_188 (by decide) ?_
    exact hJ 189
  have hB189 : zin 11 [0, 1, 3, 4, 5, 8, 10] (aX13_castles_189 mc ms X Q) X 189 := by
    intro u v vs st M hb
    rw [hXe]
    refine fun lv hp => S_block (L := 189) (live := [0, 1, 3, 4, 5, 8, 10]) ?_ u v lv vs st M hp hb
    unfold aX13_castles_189
    refine S_istore (pc := 189) hC dX13_castles_189 (by decide) ?_
    refine S_iinc (pc := 191) hC dX13_castles_191 (by decide) (by decide) ?_
    refine S_goto (pc := 194) (tgt := 153) hC dX13_castles_194 (by decide) ?_
    exact hJ 153
  have hB238 : zin 11 [] (aX13_castles_238 mc ms X Q) X 238 := by
    intro u v vs st M hb
    rw [hXe]
    refine fun lv hp => S_block (L := 238) (live := []) ?_ u v lv vs st M hp hb
    unfold aX13_castles_238
    refine S_iconst (pc := 238) hC dX13_castles_238 (by decide) ?_
    exact hJ 239
  have hB239 : zin 11 [] (aX13_castles_239 mc ms X Q) X 239 := by
    intro u v vs st M hb
    rw [hXe]
    refine fun lv hp => S_block (L := 239) (live := []) ?_ u v lv vs st M hp hb
    unfold aX13_castles_239
    exact S_zreturn (pc := 239) hC hr dX13_castles_239
  have := h.2 X hB0 hB42 hB44 hB55 hB67 hB90 hB130 hB131 hB151 hB153 hB167 hB188 hB189 hB238 hB239
  rw [hXe] at this
  exact this lv hlv
theorem vcX13_castles_20 {mc ms : Nat} {X : Nat → zV} {Q : zQt} {M : zM} {x1 : Int32} {x2 : Int32} {x3 : Int32} {x4 : Int32} {x5 : Int32} (hW : zFix M)  (h : (x2 = x5 → (x3 = (x5 + (2 : Int32)) → X 44 0 0 [.ref 55, .int x1, .int x3, .int x4, .int x5] [] M) ∧ (¬ x3 = (x5 + (2 : Int32)) → (x3 = (x5 - (2 : Int32)) → X 44 0 0 [.ref 55, .int x1, .int x3, .int x4, .int x5] [] M) ∧ (¬ x3 = (x5 - (2 : Int32)) → X 42 0 0 [] [] M))) ∧ (¬ x2 = x5 → X 42 0 0 [] [] M)) : kX13_castles_20 mc ms X Q 0 0 [some (.ref 55), some (.int x1), some (.int x2), some (.int x3), some (.int x4), some (.int x5), none, none, none, none, none] [] M := ⟨fun c23 => ⟨fun c31 => ((h.1 c23).1 c31), fun c31 => ⟨fun c39 => (((h.1 c23).2 c31).1 c39), fun c39 => (((h.1 c23).2 c31).2 c39)⟩⟩, fun c23 => (h.2 c23)⟩
theorem vcX13_castles_11 {mc ms : Nat} {X : Nat → zV} {Q : zQt} {M : zM} {x1 : Int32} {x2 : Int32} {x3 : Int32} {x4 : Int32} (hW : zFix M)  (h : ∀ y18 : Int32, y18 = ((4 : Int32) + ((56 : Int32) * x4)) → (x2 = y18 → (x3 = (y18 + (2 : Int32)) → X 44 0 0 [.ref 55, .int x1, .int x3, .int x4, .int y18] [] M) ∧ (¬ x3 = (y18 + (2 : Int32)) → (x3 = (y18 - (2 : Int32)) → X 44 0 0 [.ref 55, .int x1, .int x3, .int x4, .int y18] [] M) ∧ (¬ x3 = (y18 - (2 : Int32)) → X 42 0 0 [] [] M))) ∧ (¬ x2 = y18 → X 42 0 0 [] [] M)) : kX13_castles_11 mc ms X Q 0 0 [some (.ref 55), some (.int x1), some (.int x2), some (.int x3), some (.int x4), none, none, none, none, none, none] [] M := (fun y18 e18 => have h18 := h y18 e18; (vcX13_castles_20 hW  h18))
theorem vX13_castles_0 {mc ms : Nat} {X : Nat → zV} {Q : zQt} {M : zM} {x1 : Int32} {x2 : Int32} {x3 : Int32} (hW : zFix M)  (h : vp_in ((x1 + (64 : Int32))) 414 ∧ ∀ y9 : Int32, y9 = ((M : zM).1 65 ((x1 + (64 : Int32)) : Int32).toNatClampNeg) → ∀ y18 : Int32, y18 = ((4 : Int32) + ((56 : Int32) * y9)) → (x2 = y18 → (x3 = (y18 + (2 : Int32)) → X 44 0 0 [.ref 55, .int x1, .int x3, .int y9, .int y18] [] M) ∧ (¬ x3 = (y18 + (2 : Int32)) → (x3 = (y18 - (2 : Int32)) → X 44 0 0 [.ref 55, .int x1, .int x3, .int y9, .int y18] [] M) ∧ (¬ x3 = (y18 - (2 : Int32)) → X 42 0 0 [] [] M))) ∧ (¬ x2 = y18 → X 42 0 0 [] [] M)) : aX13_castles_0 mc ms X Q 0 0 [some (.ref 55), some (.int x1), some (.int x2), some (.int x3), none, none, none, none, none, none, none] [] M := ⟨(fxs_55 hW), 65, (fxr_55_16 hW), ⟨414, (fxs_65 hW), h.1, (fun y9 e9 => have h9 := h.2 y9 e9; (vcX13_castles_11 hW  h9))⟩⟩
theorem vX13_castles_42 {mc ms : Nat} {X : Nat → zV} {Q : zQt} {M : zM}  (hW : zFix M)  (h : Q (some (.int 0)) M) : aX13_castles_42 mc ms X Q 0 0 [none, none, none, none, none, none, none, none, none, none, none] [] M := ⟨rfl, h⟩
theorem vX13_castles_44 {mc ms : Nat} {X : Nat → zV} {Q : zQt} {M : zM} {x1 : Int32} {x3 : Int32} {x4 : Int32} {x5 : Int32} (hW : zFix M)  (h : (x3 ≤ x5 → X 55 0 0 [.ref 55, .int x1, .int x3, .int x4, .int x5] [.int 0] M) ∧ (¬ x3 ≤ x5 → X 55 0 0 [.ref 55, .int x1, .int x3, .int x4, .int x5] [.int 1] M)) : aX13_castles_44 mc ms X Q 0 0 [some (.ref 55), some (.int x1), none, some (.int x3), some (.int x4), some (.int x5), none, none, none, none, none] [] M := ⟨fun c47 => (h.1 c47), fun c47 => (h.2 c47)⟩
theorem vX13_castles_55 {mc ms : Nat} {X : Nat → zV} {Q : zQt} {M : zM} {x1 : Int32} {x3 : Int32} {x4 : Int32} {x5 : Int32} {s0 : Int32} (hW : zFix M)  (h : (s0 = 0 → X 67 0 0 [.ref 55, .int x1, .int x3, .int x4, .int x5, .int s0] [.int 2] M) ∧ (¬ s0 = 0 → X 67 0 0 [.ref 55, .int x1, .int x3, .int x4, .int x5, .int s0] [.int 1] M)) : aX13_castles_55 mc ms X Q 0 0 [some (.ref 55), some (.int x1), none, some (.int x3), some (.int x4), some (.int x5), none, none, none, none, none] [.int s0] M := ⟨fun c59 => (h.1 c59), fun c59 => (h.2 c59)⟩
theorem vcX13_castles_74 {mc ms : Nat} {X : Nat → zV} {Q : zQt} {M : zM} {x1 : Int32} {x3 : Int32} {x4 : Int32} {x5 : Int32} {x6 : Int32} {x7 : Int32} (hW : zFix M)  (h : (x6 = 0 → X 90 0 0 [.ref 55, .int x1, .int x3, .int x4, .int x5, .int x7] [.int (x5 - (4 : Int32))] M) ∧ (¬ x6 = 0 → X 90 0 0 [.ref 55, .int x1, .int x3, .int x4, .int x5, .int x7] [.int (x5 + (3 : Int32))] M)) : kX13_castles_74 mc ms X Q 0 0 [some (.ref 55), some (.int x1), none, some (.int x3), some (.int x4), some (.int x5), some (.int x6), some (.int x7), none, none, none] [] M := ⟨fun c76 => (h.1 c76), fun c76 => (h.2 c76)⟩
theorem vX13_castles_67 {mc ms : Nat} {X : Nat → zV} {Q : zQt} {M : zM} {x1 : Int32} {x3 : Int32} {x4 : Int32} {x5 : Int32} {x6 : Int32} {s0 : Int32} (hW : zFix M)  (h : ∀ y72 : Int32, y72 = (s0 <<< (((2 : Int32) * x4) &&& 31)) → (x6 = 0 → X 90 0 0 [.ref 55, .int x1, .int x3, .int x4, .int x5, .int y72] [.int (x5 - (4 : Int32))] M) ∧ (¬ x6 = 0 → X 90 0 0 [.ref 55, .int x1, .int x3, .int x4, .int x5, .int y72] [.int (x5 + (3 : Int32))] M)) : aX13_castles_67 mc ms X Q 0 0 [some (.ref 55), some (.int x1), none, some (.int x3), some (.int x4), some (.int x5), some (.int x6), none, none, none, none] [.int s0] M := (fun y72 e72 => have h72 := h y72 e72; (vcX13_castles_74 hW  h72))
theorem vX13_castles_90 {mc ms : Nat} {X : Nat → zV} {Q : zQt} {M : zM} {x1 : Int32} {x3 : Int32} {x4 : Int32} {x5 : Int32} {x7 : Int32} {s0 : Int32} (hW : zFix M)  (h : vp_in ((x1 + (65 : Int32))) 414 ∧ ((((M : zM).1 65 ((x1 + (65 : Int32)) : Int32).toNatClampNeg) &&& x7) = 0 → X 130 0 0 [.ref 55, .int x1, .int x3, .int x4, .int x5, .int s0] [] M) ∧ (¬ (((M : zM).1 65 ((x1 + (65 : Int32)) : Int32).toNatClampNeg) &&& x7) = 0 → vp_in ((x1 + s0)) 414 ∧ (((M : zM).1 65 ((x1 + s0) : Int32).toNatClampNeg) = ((4 : Int32) + ((6 : Int32) * x4)) → X 131 0 0 [.ref 55, .int x1, .int x3, .int x4, .int x5, .int s0] [.int 1] M) ∧ (¬ ((M : zM).1 65 ((x1 + s0) : Int32).toNatClampNeg) = ((4 : Int32) + ((6 : Int32) * x4)) → X 130 0 0 [.ref 55, .int x1, .int x3, .int x4, .int x5, .int s0] [] M))) : aX13_castles_90 mc ms X Q 0 0 [some (.ref 55), some (.int x1), none, some (.int x3), some (.int x4), some (.int x5), none, some (.int x7), none, none, none] [.int s0] M := ⟨(fxs_55 hW), 65, (fxr_55_16 hW), ⟨414, (fxs_65 hW), h.1, ⟨fun c104 => (h.2.1 c104), fun c104 => ⟨(fxs_55 hW), 65, (fxr_55_16 hW), ⟨414, (fxs_65 hW), (h.2.2 c104).1, ⟨fun c123 => ((h.2.2 c104).2.1 c123), fun c123 => ((h.2.2 c104).2.2 c123)⟩⟩⟩⟩⟩⟩
theorem vX13_castles_130 {mc ms : Nat} {X : Nat → zV} {Q : zQt} {M : zM} {x1 : Int32} {x3 : Int32} {x4 : Int32} {x5 : Int32} {x8 : Int32} (hW : zFix M)  (h : X 131 0 0 [.ref 55, .int x1, .int x3, .int x4, .int x5, .int x8] [.int 0] M) : aX13_castles_130 mc ms X Q 0 0 [some (.ref 55), some (.int x1), none, some (.int x3), some (.int x4), some (.int x5), none, none, some (.int x8), none, none] [] M := h
theorem vX13_castles_131 {mc ms : Nat} {X : Nat → zV} {Q : zQt} {M : zM} {x1 : Int32} {x3 : Int32} {x4 : Int32} {x5 : Int32} {x8 : Int32} {s0 : Int32} (hW : zFix M)  (h : (x8 ≤ x5 → X 151 0 0 [.ref 55, .int x1, .int x3, .int x4, .int x5, .int x8, .int s0] [.int (x8 + (1 : Int32))] M) ∧ (¬ x8 ≤ x5 → X 151 0 0 [.ref 55, .int x1, .int x3, .int x4, .int x5, .int x8, .int s0] [.int (x5 + (1 : Int32))] M)) : aX13_castles_131 mc ms X Q 0 0 [some (.ref 55), some (.int x1), none, some (.int x3), some (.int x4), some (.int x5), none, none, some (.int x8), none, none] [.int s0] M := ⟨fun c137 => (h.1 c137), fun c137 => (h.2 c137)⟩
theorem vX13_castles_151 {mc ms : Nat} {X : Nat → zV} {Q : zQt} {M : zM} {x1 : Int32} {x3 : Int32} {x4 : Int32} {x5 : Int32} {x8 : Int32} {x9 : Int32} {s0 : Int32} (hW : zFix M)  (h : X 153 0 0 [.ref 55, .int x1, .int x3, .int x4, .int x5, .int x8, .int x9, .int s0] [] M) : aX13_castles_151 mc ms X Q 0 0 [some (.ref 55), some (.int x1), none, some (.int x3), some (.int x4), some (.int x5), none, none, some (.int x8), some (.int x9), none] [.int s0] M := h
theorem vX13_castles_153 {mc ms : Nat} {X : Nat → zV} {Q : zQt} {M : zM} {x1 : Int32} {x3 : Int32} {x4 : Int32} {x5 : Int32} {x8 : Int32} {x9 : Int32} {x10 : Int32} (hW : zFix M)  (h : (x10 < x5 → X 167 0 0 [.ref 55, .int x1, .int x3, .int x4, .int x5, .int x8, .int x9, .int x10] [] M) ∧ (¬ x10 < x5 → (x8 ≤ x10 → (x9 = 0 → X 238 0 0 [] [] M) ∧ (¬ x9 = 0 → wX13_isAttacked 0 0 [.ref 55, .int x1, .int x5, .int ((1 : Int32) - x4)] M (fun r M1 => kX13_castles_213 mc ms X Q 0 0 [some (.ref 55), some (.int x1), none, some (.int x3), some (.int x4), some (.int x5), none, none, some (.int x8), some (.int x9), some (.int x10)] (r.toList ++ []) M1))) ∧ (¬ x8 ≤ x10 → X 167 0 0 [.ref 55, .int x1, .int x3, .int x4, .int x5, .int x8, .int x9, .int x10] [] M))) : aX13_castles_153 mc ms X Q 0 0 [some (.ref 55), some (.int x1), none, some (.int x3), some (.int x4), some (.int x5), none, none, some (.int x8), some (.int x9), some (.int x10)] [] M := ⟨fun c157 => (h.1 c157), fun c157 => ⟨fun c164 => ⟨fun c199 => (((h.2 c157).1 c164).1 c199), fun c199 => ⟨Nat.le_of_ble_eq_true rfl, rfl, (fxs_55 hW), 0, 0, Nat.zero_le _, Nat.zero_le _, (((h.2 c157).1 c164).2 c199)⟩⟩, fun c164 => ((h.2 c157).2 c164)⟩⟩
theorem vX13_castles_167 {mc ms : Nat} {X : Nat → zV} {Q : zQt} {M : zM} {x1 : Int32} {x3 : Int32} {x4 : Int32} {x5 : Int32} {x8 : Int32} {x9 : Int32} {x10 : Int32} (hW : zFix M)  (h : (x9 = 0 → X 188 0 0 [.ref 55, .int x1, .int x3, .int x4, .int x5, .int x8, .int x10] [] M) ∧ (¬ x9 = 0 → vp_in ((x1 + x10)) 414 ∧ (((M : zM).1 65 ((x1 + x10) : Int32).toNatClampNeg) = 0 → X 189 0 0 [.ref 55, .int x1, .int x3, .int x4, .int x5, .int x8, .int x10] [.int 1] M) ∧ (¬ ((M : zM).1 65 ((x1 + x10) : Int32).toNatClampNeg) = 0 → X 188 0 0 [.ref 55, .int x1, .int x3, .int x4, .int x5, .int x8, .int x10] [] M))) : aX13_castles_167 mc ms X Q 0 0 [some (.ref 55), some (.int x1), none, some (.int x3), some (.int x4), some (.int x5), none, none, some (.int x8), some (.int x9), some (.int x10)] [] M := ⟨fun c169 => (h.1 c169), fun c169 => ⟨(fxs_55 hW), 65, (fxr_55_16 hW), ⟨414, (fxs_65 hW), (h.2 c169).1, ⟨fun c181 => ((h.2 c169).2.1 c181), fun c181 => ((h.2 c169).2.2 c181)⟩⟩⟩⟩
theorem vX13_castles_188 {mc ms : Nat} {X : Nat → zV} {Q : zQt} {M : zM} {x1 : Int32} {x3 : Int32} {x4 : Int32} {x5 : Int32} {x8 : Int32} {x10 : Int32} (hW : zFix M)  (h : X 189 0 0 [.ref 55, .int x1, .int x3, .int x4, .int x5, .int x8, .int x10] [.int 0] M) : aX13_castles_188 mc ms X Q 0 0 [some (.ref 55), some (.int x1), none, some (.int x3), some (.int x4), some (.int x5), none, none, some (.int x8), none, some (.int x10)] [] M := h
theorem vX13_castles_189 {mc ms : Nat} {X : Nat → zV} {Q : zQt} {M : zM} {x1 : Int32} {x3 : Int32} {x4 : Int32} {x5 : Int32} {x8 : Int32} {x10 : Int32} {s0 : Int32} (hW : zFix M)  (h : X 153 0 0 [.ref 55, .int x1, .int x3, .int x4, .int x5, .int x8, .int s0, .int (x10 + 1)] [] M) : aX13_castles_189 mc ms X Q 0 0 [some (.ref 55), some (.int x1), none, some (.int x3), some (.int x4), some (.int x5), none, none, some (.int x8), none, some (.int x10)] [.int s0] M := h
theorem vX13_castles_238 {mc ms : Nat} {X : Nat → zV} {Q : zQt} {M : zM}  (hW : zFix M)  (h : X 239 0 0 [] [.int 0] M) : aX13_castles_238 mc ms X Q 0 0 [none, none, none, none, none, none, none, none, none, none, none] [] M := h
theorem vX13_castles_239 {mc ms : Nat} {X : Nat → zV} {Q : zQt} {M : zM} {s0 : Int32} (hW : zFix M)  (h : narrow .boolean (.int s0) = .int s0 ∧ Q (some (.int s0)) M) : aX13_castles_239 mc ms X Q 0 0 [none, none, none, none, none, none, none, none, none, none, none] [.int s0] M := h
theorem vkX13_castles_213 {mc ms : Nat} {X : Nat → zV} {Q : zQt} {M : zM} {x1 : Int32} {x3 : Int32} {x4 : Int32} {x5 : Int32} {x8 : Int32} {x9 : Int32} {x10 : Int32} {s0 : Int32} (hW : zFix M)  (h : (s0 = 0 → wX13_isAttacked 0 0 [.ref 55, .int x1, .int ((x5 + x3) / (2 : Int32)), .int ((1 : Int32) - x4)] M (fun r M1 => kX13_castles_231 mc ms X Q 0 0 [some (.ref 55), some (.int x1), none, some (.int x3), some (.int x4), some (.int x5), none, none, some (.int x8), some (.int x9), some (.int x10)] (r.toList ++ []) M1)) ∧ (¬ s0 = 0 → X 238 0 0 [] [] M)) : kX13_castles_213 mc ms X Q 0 0 [some (.ref 55), some (.int x1), none, some (.int x3), some (.int x4), some (.int x5), none, none, some (.int x8), some (.int x9), some (.int x10)] [.int s0] M := ⟨fun c213 => ⟨by decide, ⟨Nat.le_of_ble_eq_true rfl, rfl, (fxs_55 hW), 0, 0, Nat.zero_le _, Nat.zero_le _, (h.1 c213)⟩⟩, fun c213 => (h.2 c213)⟩
theorem vkX13_castles_231 {mc ms : Nat} {X : Nat → zV} {Q : zQt} {M : zM} {x1 : Int32} {x3 : Int32} {x4 : Int32} {x5 : Int32} {x8 : Int32} {x9 : Int32} {x10 : Int32} {s0 : Int32} (hW : zFix M)  (h : (s0 = 0 → X 239 0 0 [] [.int 1] M) ∧ (¬ s0 = 0 → X 238 0 0 [] [] M)) : kX13_castles_231 mc ms X Q 0 0 [some (.ref 55), some (.int x1), none, some (.int x3), some (.int x4), some (.int x5), none, none, some (.int x8), some (.int x9), some (.int x10)] [.int s0] M := ⟨fun c231 => (h.1 c231), fun c231 => (h.2 c231)⟩
theorem dX13_goes_0 : decode cX13_goes 0 = .ok (.aload_n 0, 1) := by decide +kernel
theorem dX13_goes_1 : decode cX13_goes 1 = .ok (.getfield 43, 3) := by decide +kernel
theorem dX13_goes_4 : decode cX13_goes 4 = .ok (.iload_n 1, 1) := by decide +kernel
theorem dX13_goes_5 : decode cX13_goes 5 = .ok (.bipush 64, 2) := by decide +kernel
theorem dX13_goes_7 : decode cX13_goes 7 = .ok (.iadd, 1) := by decide +kernel
theorem dX13_goes_8 : decode cX13_goes 8 = .ok (.iaload, 1) := by decide +kernel
theorem dX13_goes_9 : decode cX13_goes 9 = .ok (.istore 4, 2) := by decide +kernel
theorem dX13_goes_11 : decode cX13_goes 11 = .ok (.aload_n 0, 1) := by decide +kernel
theorem dX13_goes_12 : decode cX13_goes 12 = .ok (.getfield 43, 3) := by decide +kernel
theorem dX13_goes_15 : decode cX13_goes 15 = .ok (.iload_n 1, 1) := by decide +kernel
theorem dX13_goes_16 : decode cX13_goes 16 = .ok (.iload_n 2, 1) := by decide +kernel
theorem dX13_goes_17 : decode cX13_goes 17 = .ok (.iadd, 1) := by decide +kernel
theorem dX13_goes_18 : decode cX13_goes 18 = .ok (.iaload, 1) := by decide +kernel
theorem dX13_goes_19 : decode cX13_goes 19 = .ok (.istore 5, 2) := by decide +kernel
theorem dX13_goes_21 : decode cX13_goes 21 = .ok (.aload_n 0, 1) := by decide +kernel
theorem dX13_goes_22 : decode cX13_goes 22 = .ok (.getfield 43, 3) := by decide +kernel
theorem dX13_goes_25 : decode cX13_goes 25 = .ok (.iload_n 1, 1) := by decide +kernel
theorem dX13_goes_26 : decode cX13_goes 26 = .ok (.iload_n 3, 1) := by decide +kernel
theorem dX13_goes_27 : decode cX13_goes 27 = .ok (.iadd, 1) := by decide +kernel
theorem dX13_goes_28 : decode cX13_goes 28 = .ok (.iaload, 1) := by decide +kernel
theorem dX13_goes_29 : decode cX13_goes 29 = .ok (.istore 6, 2) := by decide +kernel
theorem dX13_goes_31 : decode cX13_goes 31 = .ok (.iload 5, 2) := by decide +kernel
theorem dX13_goes_33 : decode cX13_goes 33 = .ok (.invokestatic 78, 3) := by decide +kernel
theorem dX13_goes_36 : decode cX13_goes 36 = .ok (.iload 4, 2) := by decide +kernel
theorem dX13_goes_38 : decode cX13_goes 38 = .ok (.if_icmp .ne 23, 3) := by decide +kernel
theorem dX13_goes_41 : decode cX13_goes 41 = .ok (.iload 6, 2) := by decide +kernel
theorem dX13_goes_43 : decode cX13_goes 43 = .ok (.invokestatic 78, 3) := by decide +kernel
theorem dX13_goes_46 : decode cX13_goes 46 = .ok (.iload 4, 2) := by decide +kernel
theorem dX13_goes_48 : decode cX13_goes 48 = .ok (.if_icmp .eq 13, 3) := by decide +kernel
theorem dX13_goes_51 : decode cX13_goes 51 = .ok (.iload 6, 2) := by decide +kernel
theorem dX13_goes_53 : decode cX13_goes 53 = .ok (.invokestatic 71, 3) := by decide +kernel
theorem dX13_goes_56 : decode cX13_goes 56 = .ok (.bipush 6, 2) := by decide +kernel
theorem dX13_goes_58 : decode cX13_goes 58 = .ok (.if_icmp .ne 5, 3) := by decide +kernel
theorem dX13_goes_61 : decode cX13_goes 61 = .ok (.iconst 0, 1) := by decide +kernel
theorem dX13_goes_62 : decode cX13_goes 62 = .ok (.ireturn, 1) := by decide +kernel
theorem dX13_goes_63 : decode cX13_goes 63 = .ok (.iload 5, 2) := by decide +kernel
theorem dX13_goes_65 : decode cX13_goes 65 = .ok (.invokestatic 71, 3) := by decide +kernel
theorem dX13_goes_68 : decode cX13_goes 68 = .ok (.istore 7, 2) := by decide +kernel
theorem dX13_goes_70 : decode cX13_goes 70 = .ok (.iload 7, 2) := by decide +kernel
theorem dX13_goes_72 : decode cX13_goes 72 = .ok (.iconst 1, 1) := by decide +kernel
theorem dX13_goes_73 : decode cX13_goes 73 = .ok (.if_icmp .ne 13, 3) := by decide +kernel
theorem dX13_goes_76 : decode cX13_goes 76 = .ok (.aload_n 0, 1) := by decide +kernel
theorem dX13_goes_77 : decode cX13_goes 77 = .ok (.iload_n 1, 1) := by decide +kernel
theorem dX13_goes_78 : decode cX13_goes 78 = .ok (.iload_n 2, 1) := by decide +kernel
theorem dX13_goes_79 : decode cX13_goes 79 = .ok (.iload_n 3, 1) := by decide +kernel
theorem dX13_goes_80 : decode cX13_goes 80 = .ok (.invokevirtual 94, 3) := by decide +kernel
theorem dX13_goes_83 : decode cX13_goes 83 = .ok (.goto 35, 3) := by decide +kernel
theorem dX13_goes_86 : decode cX13_goes 86 = .ok (.aload_n 0, 1) := by decide +kernel
theorem dX13_goes_87 : decode cX13_goes 87 = .ok (.iload_n 1, 1) := by decide +kernel
theorem dX13_goes_88 : decode cX13_goes 88 = .ok (.iload_n 2, 1) := by decide +kernel
theorem dX13_goes_89 : decode cX13_goes 89 = .ok (.iload_n 3, 1) := by decide +kernel
theorem dX13_goes_90 : decode cX13_goes 90 = .ok (.invokevirtual 81, 3) := by decide +kernel
theorem dX13_goes_93 : decode cX13_goes 93 = .ok (.ifCond .ne 20, 3) := by decide +kernel
theorem dX13_goes_96 : decode cX13_goes 96 = .ok (.iload 7, 2) := by decide +kernel
theorem dX13_goes_98 : decode cX13_goes 98 = .ok (.bipush 6, 2) := by decide +kernel
theorem dX13_goes_100 : decode cX13_goes 100 = .ok (.if_icmp .ne 17, 3) := by decide +kernel
theorem dX13_goes_103 : decode cX13_goes 103 = .ok (.aload_n 0, 1) := by decide +kernel
theorem dX13_goes_104 : decode cX13_goes 104 = .ok (.iload_n 1, 1) := by decide +kernel
theorem dX13_goes_105 : decode cX13_goes 105 = .ok (.iload_n 2, 1) := by decide +kernel
theorem dX13_goes_106 : decode cX13_goes 106 = .ok (.iload_n 3, 1) := by decide +kernel
theorem dX13_goes_107 : decode cX13_goes 107 = .ok (.invokevirtual 97, 3) := by decide +kernel
theorem dX13_goes_110 : decode cX13_goes 110 = .ok (.ifCond .eq 7, 3) := by decide +kernel
theorem dX13_goes_113 : decode cX13_goes 113 = .ok (.iconst 1, 1) := by decide +kernel
theorem dX13_goes_114 : decode cX13_goes 114 = .ok (.goto 4, 3) := by decide +kernel
theorem dX13_goes_117 : decode cX13_goes 117 = .ok (.iconst 0, 1) := by decide +kernel
theorem dX13_goes_118 : decode cX13_goes 118 = .ok (.ireturn, 1) := by decide +kernel
def kX13_goes_110 (mc ms : Nat) (X : Nat → zV) (Q : zQt) : zT :=
  zif (fun x => x = 0) (zj X 117 []) <| zj X 113 []
def kX13_goes_93 (mc ms : Nat) (X : Nat → zV) (Q : zQt) : zT :=
  zif (fun x => x = 0) (zli 7 <| zc (.int 6) <| zic (fun x y => x = y) (zla 0 <| zli 1 <| zli 2 <| zli 3 <| zcv mc ms 13 3 wX13_castles <| kX13_goes_110 mc ms X Q) <| zj X 117 []) <| zj X 113 []
def kX13_goes_83 (mc ms : Nat) (X : Nat → zV) (Q : zQt) : zT :=
  zj X 118 []
def kX13_goes_68 (mc ms : Nat) (X : Nat → zV) (Q : zQt) : zT :=
  zsi 7 <| zli 7 <| zc (.int 1) <| zic (fun x y => x = y) (zla 0 <| zli 1 <| zli 2 <| zli 3 <| zcv mc ms 13 3 wX13_pawnGoes <| kX13_goes_83 mc ms X Q) <| zla 0 <| zli 1 <| zli 2 <| zli 3 <| zcv mc ms 13 3 wX13_attacks <| kX13_goes_93 mc ms X Q
def kX13_goes_56 (mc ms : Nat) (X : Nat → zV) (Q : zQt) : zT :=
  zc (.int 6) <| zic (fun x y => x = y) (zj X 61 []) <| zli 5 <| zcs mc ms 1 wX13_kindOf <| kX13_goes_68 mc ms X Q
def kX13_goes_46 (mc ms : Nat) (X : Nat → zV) (Q : zQt) : zT :=
  zli 4 <| zic (fun x y => x = y) (zj X 61 []) <| zli 6 <| zcs mc ms 1 wX13_kindOf <| kX13_goes_56 mc ms X Q
def kX13_goes_36 (mc ms : Nat) (X : Nat → zV) (Q : zQt) : zT :=
  zli 4 <| zic (fun x y => x = y) (zli 6 <| zcs mc ms 1 wX13_sideOf <| kX13_goes_46 mc ms X Q) <| zj X 61 []
def kX13_goes_31 (mc ms : Nat) (X : Nat → zV) (Q : zQt) : zT :=
  zli 5 <| zcs mc ms 1 wX13_sideOf <| kX13_goes_36 mc ms X Q
def kX13_goes_21 (mc ms : Nat) (X : Nat → zV) (Q : zQt) : zT :=
  zla 0 <| zgR 13 16 <| zli 1 <| zli 3 <| zii (fun x y => x + y) <| zal 1 <| zsiN 6 <| kX13_goes_31 mc ms X Q
def kX13_goes_11 (mc ms : Nat) (X : Nat → zV) (Q : zQt) : zT :=
  zla 0 <| zgR 13 16 <| zli 1 <| zli 2 <| zii (fun x y => x + y) <| zal 1 <| zsiN 5 <| kX13_goes_21 mc ms X Q
def aX13_goes_0 (mc ms : Nat) (X : Nat → zV) (Q : zQt) : zT :=
  zla 0 <| zgR 13 16 <| zli 1 <| zc (.int 64) <| zii (fun x y => x + y) <| zal 1 <| zsiN 4 <| kX13_goes_11 mc ms X Q
def aX13_goes_61 (mc ms : Nat) (X : Nat → zV) (Q : zQt) : zT :=
  zc (.int 0) <| zrz .boolean Q
def aX13_goes_113 (mc ms : Nat) (X : Nat → zV) (Q : zQt) : zT :=
  zc (.int 1) <| zj X 118 []
def aX13_goes_117 (mc ms : Nat) (X : Nat → zV) (Q : zQt) : zT :=
  zc (.int 0) <| zj X 118 []
def aX13_goes_118 (mc ms : Nat) (X : Nat → zV) (Q : zQt) : zT :=
  zrz .boolean Q
def lvX13_goes : Nat → List Nat := fun L => match L with
  | 0 => [0, 1, 2, 3]
  | 61 => []
  | 113 => []
  | 117 => []
  | 118 => []
  | _ => []
def wX13_goes : zSp := fun mc ms av M Q => ((zlay av).length ≤ 8 ∧ zpick (zlay av) [0, 1, 2, 3] = some av) ∧ ∀ X : Nat → zV, zin 8 [0, 1, 2, 3] (aX13_goes_0 mc ms X Q) X 0 → zin 8 [] (aX13_goes_61 mc ms X Q) X 61 → zin 8 [] (aX13_goes_113 mc ms X Q) X 113 → zin 8 [] (aX13_goes_117 mc ms X Q) X 117 → zin 8 [] (aX13_goes_118 mc ms X Q) X 118 → X 0 0 0 av [] M
set_option maxRecDepth 100000 in
set_option maxHeartbeats 4000000 in
theorem sX13_goes (l : Launch) (G : zG) : zSnd l G yX13_goes cX13_goes 8 (some .boolean) 4 107 wX13_goes := by
  refine zmk [0, 1, 2, 3] (by decide) (fun mc ms av M Q h => h.1) ?_
  intro p e R s m args below meth c mc ms av M Q hC hRf hRl hr hnm h lv hlv
  obtain ⟨X, hXe⟩ : ∃ X : Nat → zV, X = fun L u v vs st M => ∀ lv, zpick lv (lvX13_goes L) = some vs → zAt p l e R s m args below meth c (MQ below (zQ G Q) args s mc ms (zA G)) G 8 L u v lv st M := ⟨_, rfl⟩
  have hJ : ∀ L, zOk p l e R s m args below meth c (MQ below (zQ G Q) args s mc ms (zA G)) G 8 L (zj X L (lvX13_goes L)) := fun L => S_jump (fun u v lv vs st M hp hx => by rw [hXe] at hx; exact hx lv hp)
  have hB0 : zin 8 [0, 1, 2, 3] (aX13_goes_0 mc ms X Q) X 0 := by
    intro u v vs st M hb
    rw [hXe]
    refine fun lv hp => S_block (L := 0) (live := [0, 1, 2, 3]) ?_ u v lv vs st M hp hb
    unfold aX13_goes_0
    refine S_aload_n (pc := 0) hC dX13_goes_0 rfl ?_
    refine S_getR (pc := 1) hC cfX13 (by decide) (Or.inr ⟨_, rfl⟩) wd_1271 dX13_goes_1 ?_
    refine S_iload_n (pc := 4) hC dX13_goes_4 rfl ?_
    refine S_bipush (pc := 5) hC dX13_goes_5 (by decide) ?_
    refine S_iadd (pc := 7) hC dX13_goes_7 ?_
    refine S_iaload (pc := 8) hC dX13_goes_8 ?_
    refine S_istore_N (pc := 9) hC dX13_goes_9 (by decide) ?_
    unfold kX13_goes_11
    refine S_aload_n (pc := 11) hC dX13_goes_11 rfl ?_
    refine S_getR (pc := 12) hC cfX13 (by decide) (Or.inr ⟨_, rfl⟩) wd_1271 dX13_goes_12 ?_
    refine S_iload_n (pc := 15) hC dX13_goes_15 rfl ?_
    refine S_iload_n (pc := 16) hC dX13_goes_16 rfl ?_
    refine S_iadd (pc := 17) hC dX13_goes_17 ?_
    refine S_iaload (pc := 18) hC dX13_goes_18 ?_
    refine S_istore_N (pc := 19) hC dX13_goes_19 (by decide) ?_
    unfold kX13_goes_21
    refine S_aload_n (pc := 21) hC dX13_goes_21 rfl ?_
    refine S_getR (pc := 22) hC cfX13 (by decide) (Or.inr ⟨_, rfl⟩) wd_1271 dX13_goes_22 ?_
    refine S_iload_n (pc := 25) hC dX13_goes_25 rfl ?_
    refine S_iload_n (pc := 26) hC dX13_goes_26 rfl ?_
    refine S_iadd (pc := 27) hC dX13_goes_27 ?_
    refine S_iaload (pc := 28) hC dX13_goes_28 ?_
    refine S_istore_N (pc := 29) hC dX13_goes_29 (by decide) ?_
    unfold kX13_goes_31
    refine S_iload (pc := 31) hC dX13_goes_31 ?_
    refine S_callS (pc := 33) hC (sX13_sideOf l G) wd_1425 wd_1426 wd_12 wd_1427 (by decide +kernel) ⟨by rw [hRf]; decide, by rw [hRl]; decide⟩ dX13_goes_33 ?_
    unfold kX13_goes_36
    refine S_iload (pc := 36) hC dX13_goes_36 ?_
    refine S_icmp_ne (pc := 38) (tgt := 61) hC dX13_goes_38 (by decide) ?_ ?_
    · exact hJ 61
    · refine S_iload (pc := 41) hC dX13_goes_41 ?_
      refine S_callS (pc := 43) hC (sX13_sideOf l G) wd_1425 wd_1426 wd_12 wd_1427 (by decide +kernel) ⟨by rw [hRf]; decide, by rw [hRl]; decide⟩ dX13_goes_43 ?_
      unfold kX13_goes_46
      refine S_iload (pc := 46) hC dX13_goes_46 ?_
      refine S_icmp_eq (pc := 48) (tgt := 61) hC dX13_goes_48 (by decide) ?_ ?_
      · exact hJ 61
      · refine S_iload (pc := 51) hC dX13_goes_51 ?_
        refine S_callS (pc := 53) hC (sX13_kindOf l G) wd_1376 wd_1377 wd_12 wd_1378 (by decide +kernel) ⟨by rw [hRf]; decide, by rw [hRl]; decide⟩ dX13_goes_53 ?_
        unfold kX13_goes_56
        refine S_bipush (pc := 56) hC dX13_goes_56 (by decide) ?_
        refine S_icmp_ne (pc := 58) (tgt := 63) hC dX13_goes_58 (by decide) ?_ ?_
        · refine S_iload (pc := 63) hC dX13_goes_63 ?_
          refine S_callS (pc := 65) hC (sX13_kindOf l G) wd_1376 wd_1377 wd_12 wd_1378 (by decide +kernel) ⟨by rw [hRf]; decide, by rw [hRl]; decide⟩ dX13_goes_65 ?_
          unfold kX13_goes_68
          refine S_istore (pc := 68) hC dX13_goes_68 (by decide) ?_
          refine S_iload (pc := 70) hC dX13_goes_70 ?_
          refine S_iconst (pc := 72) hC dX13_goes_72 (by decide) ?_
          refine S_icmp_ne (pc := 73) (tgt := 86) hC dX13_goes_73 (by decide) ?_ ?_
          · refine S_aload_n (pc := 86) hC dX13_goes_86 rfl ?_
            refine S_iload_n (pc := 87) hC dX13_goes_87 rfl ?_
            refine S_iload_n (pc := 88) hC dX13_goes_88 rfl ?_
            refine S_iload_n (pc := 89) hC dX13_goes_89 rfl ?_
            refine S_callV (pc := 90) hC (sX13_attacks l G) rfl wd_1428 wd_1430 ws_69 wd_12 wd_1431 (by decide +kernel) ⟨by rw [hRf]; decide, by rw [hRl]; decide⟩ dX13_goes_90 ?_
            unfold kX13_goes_93
            refine S_if_ne (pc := 93) (tgt := 113) hC dX13_goes_93 (by decide) ?_ ?_
            · exact hJ 113
            · refine S_iload (pc := 96) hC dX13_goes_96 ?_
              refine S_bipush (pc := 98) hC dX13_goes_98 (by decide) ?_
              refine S_icmp_ne (pc := 100) (tgt := 117) hC dX13_goes_100 (by decide) ?_ ?_
              · exact hJ 117
              · refine S_aload_n (pc := 103) hC dX13_goes_103 rfl ?_
                refine S_iload_n (pc := 104) hC dX13_goes_104 rfl ?_
                refine S_iload_n (pc := 105) hC dX13_goes_105 rfl ?_
                refine S_iload_n (pc := 106) hC dX13_goes_106 rfl ?_
                refine S_callV (pc := 107) hC (sX13_castles l G) rfl wd_1467 wd_1469 ws_78 wd_12 wd_1470 (by decide +kernel) ⟨by rw [hRf]; decide, by rw [hRl]; decide⟩ dX13_goes_107 ?_
                unfold kX13_goes_110
                refine S_if_eq (pc := 110) (tgt := 117) hC dX13_goes_110 (by decide) ?_ ?_
                · exact hJ 117
                · exact hJ 113
          · refine S_aload_n (pc := 76) hC dX13_goes_76 rfl ?_
            refine S_iload_n (pc := 77) hC dX13_goes_77 rfl ?_
            refine S_iload_n (pc := 78) hC dX13_goes_78 rfl ?_
            refine S_iload_n (pc := 79) hC dX13_goes_79 rfl ?_
            refine S_callV (pc := 80) hC (sX13_pawnGoes l G) rfl wd_1455 wd_1457 ws_75 wd_12 wd_1458 (by decide +kernel) ⟨by rw [hRf]; decide, by rw [hRl]; decide⟩ dX13_goes_80 ?_
            unfold kX13_goes_83
            refine S_goto (pc := 83) (tgt := 118) hC dX13_goes_83 (by decide) ?_
            exact hJ 118
        · exact hJ 61
  have hB61 : zin 8 [] (aX13_goes_61 mc ms X Q) X 61 := by
    intro u v vs st M hb
    rw [hXe]
    refine fun lv hp => S_block (L := 61) (live := []) ?_ u v lv vs st M hp hb
    unfold aX13_goes_61
    refine S_iconst (pc := 61) hC dX13_goes_61 (by decide) ?_
    exact S_zreturn (pc := 62) hC hr dX13_goes_62
  have hB113 : zin 8 [] (aX13_goes_113 mc ms X Q) X 113 := by
    intro u v vs st M hb
    rw [hXe]
    refine fun lv hp => S_block (L := 113) (live := []) ?_ u v lv vs st M hp hb
    unfold aX13_goes_113
    refine S_iconst (pc := 113) hC dX13_goes_113 (by decide) ?_
    refine S_goto (pc := 114) (tgt := 118) hC dX13_goes_114 (by decide) ?_
    exact hJ 118
  have hB117 : zin 8 [] (aX13_goes_117 mc ms X Q) X 117 := by
    intro u v vs st M hb
    rw [hXe]
    refine fun lv hp => S_block (L := 117) (live := []) ?_ u v lv vs st M hp hb
    unfold aX13_goes_117
    refine S_iconst (pc := 117) hC dX13_goes_117 (by decide) ?_
    exact hJ 118
  have hB118 : zin 8 [] (aX13_goes_118 mc ms X Q) X 118 := by
    intro u v vs st M hb
    rw [hXe]
    refine fun lv hp => S_block (L := 118) (live := []) ?_ u v lv vs st M hp hb
    unfold aX13_goes_118
    exact S_zreturn (pc := 118) hC hr dX13_goes_118
  have := h.2 X hB0 hB61 hB113 hB117 hB118
  rw [hXe] at this
  exact this lv hlv
theorem vcX13_goes_31 {mc ms : Nat} {X : Nat → zV} {Q : zQt} {M : zM} {x1 : Int32} {x2 : Int32} {x3 : Int32} {x4 : Int32} {x5 : Int32} {x6 : Int32} (hW : zFix M)  (h : wX13_sideOf 0 0 [.int x5] M (fun r M1 => kX13_goes_36 mc ms X Q 0 0 [some (.ref 55), some (.int x1), some (.int x2), some (.int x3), some (.int x4), some (.int x5), some (.int x6), none] (r.toList ++ []) M1)) : kX13_goes_31 mc ms X Q 0 0 [some (.ref 55), some (.int x1), some (.int x2), some (.int x3), some (.int x4), some (.int x5), some (.int x6), none] [] M := ⟨Nat.le_of_ble_eq_true rfl, rfl, 0, 0, Nat.zero_le _, Nat.zero_le _, h⟩
theorem vcX13_goes_21 {mc ms : Nat} {X : Nat → zV} {Q : zQt} {M : zM} {x1 : Int32} {x2 : Int32} {x3 : Int32} {x4 : Int32} {x5 : Int32} (hW : zFix M)  (h : vp_in ((x1 + x3)) 414 ∧ ∀ y29 : Int32, y29 = ((M : zM).1 65 ((x1 + x3) : Int32).toNatClampNeg) → wX13_sideOf 0 0 [.int x5] M (fun r M1 => kX13_goes_36 mc ms X Q 0 0 [some (.ref 55), some (.int x1), some (.int x2), some (.int x3), some (.int x4), some (.int x5), some (.int y29), none] (r.toList ++ []) M1)) : kX13_goes_21 mc ms X Q 0 0 [some (.ref 55), some (.int x1), some (.int x2), some (.int x3), some (.int x4), some (.int x5), none, none] [] M := ⟨(fxs_55 hW), 65, (fxr_55_16 hW), ⟨414, (fxs_65 hW), h.1, (fun y29 e29 => have h29 := h.2 y29 e29; (vcX13_goes_31 hW  h29))⟩⟩
theorem vcX13_goes_11 {mc ms : Nat} {X : Nat → zV} {Q : zQt} {M : zM} {x1 : Int32} {x2 : Int32} {x3 : Int32} {x4 : Int32} (hW : zFix M)  (h : vp_in ((x1 + x2)) 414 ∧ ∀ y19 : Int32, y19 = ((M : zM).1 65 ((x1 + x2) : Int32).toNatClampNeg) → vp_in ((x1 + x3)) 414 ∧ ∀ y29 : Int32, y29 = ((M : zM).1 65 ((x1 + x3) : Int32).toNatClampNeg) → wX13_sideOf 0 0 [.int y19] M (fun r M1 => kX13_goes_36 mc ms X Q 0 0 [some (.ref 55), some (.int x1), some (.int x2), some (.int x3), some (.int x4), some (.int y19), some (.int y29), none] (r.toList ++ []) M1)) : kX13_goes_11 mc ms X Q 0 0 [some (.ref 55), some (.int x1), some (.int x2), some (.int x3), some (.int x4), none, none, none] [] M := ⟨(fxs_55 hW), 65, (fxr_55_16 hW), ⟨414, (fxs_65 hW), h.1, (fun y19 e19 => have h19 := h.2 y19 e19; (vcX13_goes_21 hW  h19))⟩⟩
theorem vX13_goes_0 {mc ms : Nat} {X : Nat → zV} {Q : zQt} {M : zM} {x1 : Int32} {x2 : Int32} {x3 : Int32} (hW : zFix M)  (h : vp_in ((x1 + (64 : Int32))) 414 ∧ ∀ y9 : Int32, y9 = ((M : zM).1 65 ((x1 + (64 : Int32)) : Int32).toNatClampNeg) → vp_in ((x1 + x2)) 414 ∧ ∀ y19 : Int32, y19 = ((M : zM).1 65 ((x1 + x2) : Int32).toNatClampNeg) → vp_in ((x1 + x3)) 414 ∧ ∀ y29 : Int32, y29 = ((M : zM).1 65 ((x1 + x3) : Int32).toNatClampNeg) → wX13_sideOf 0 0 [.int y19] M (fun r M1 => kX13_goes_36 mc ms X Q 0 0 [some (.ref 55), some (.int x1), some (.int x2), some (.int x3), some (.int y9), some (.int y19), some (.int y29), none] (r.toList ++ []) M1)) : aX13_goes_0 mc ms X Q 0 0 [some (.ref 55), some (.int x1), some (.int x2), some (.int x3), none, none, none, none] [] M := ⟨(fxs_55 hW), 65, (fxr_55_16 hW), ⟨414, (fxs_65 hW), h.1, (fun y9 e9 => have h9 := h.2 y9 e9; (vcX13_goes_11 hW  h9))⟩⟩
theorem vX13_goes_61 {mc ms : Nat} {X : Nat → zV} {Q : zQt} {M : zM}  (hW : zFix M)  (h : Q (some (.int 0)) M) : aX13_goes_61 mc ms X Q 0 0 [none, none, none, none, none, none, none, none] [] M := ⟨rfl, h⟩
theorem vX13_goes_113 {mc ms : Nat} {X : Nat → zV} {Q : zQt} {M : zM}  (hW : zFix M)  (h : X 118 0 0 [] [.int 1] M) : aX13_goes_113 mc ms X Q 0 0 [none, none, none, none, none, none, none, none] [] M := h
theorem vX13_goes_117 {mc ms : Nat} {X : Nat → zV} {Q : zQt} {M : zM}  (hW : zFix M)  (h : X 118 0 0 [] [.int 0] M) : aX13_goes_117 mc ms X Q 0 0 [none, none, none, none, none, none, none, none] [] M := h
theorem vX13_goes_118 {mc ms : Nat} {X : Nat → zV} {Q : zQt} {M : zM} {s0 : Int32} (hW : zFix M)  (h : narrow .boolean (.int s0) = .int s0 ∧ Q (some (.int s0)) M) : aX13_goes_118 mc ms X Q 0 0 [none, none, none, none, none, none, none, none] [.int s0] M := h
theorem vkX13_goes_36 {mc ms : Nat} {X : Nat → zV} {Q : zQt} {M : zM} {x1 : Int32} {x2 : Int32} {x3 : Int32} {x4 : Int32} {x5 : Int32} {x6 : Int32} {s0 : Int32} (hW : zFix M)  (h : (s0 = x4 → wX13_sideOf 0 0 [.int x6] M (fun r M1 => kX13_goes_46 mc ms X Q 0 0 [some (.ref 55), some (.int x1), some (.int x2), some (.int x3), some (.int x4), some (.int x5), some (.int x6), none] (r.toList ++ []) M1)) ∧ (¬ s0 = x4 → X 61 0 0 [] [] M)) : kX13_goes_36 mc ms X Q 0 0 [some (.ref 55), some (.int x1), some (.int x2), some (.int x3), some (.int x4), some (.int x5), some (.int x6), none] [.int s0] M := ⟨fun c38 => ⟨Nat.le_of_ble_eq_true rfl, rfl, 0, 0, Nat.zero_le _, Nat.zero_le _, (h.1 c38)⟩, fun c38 => (h.2 c38)⟩
theorem vkX13_goes_46 {mc ms : Nat} {X : Nat → zV} {Q : zQt} {M : zM} {x1 : Int32} {x2 : Int32} {x3 : Int32} {x4 : Int32} {x5 : Int32} {x6 : Int32} {s0 : Int32} (hW : zFix M)  (h : (s0 = x4 → X 61 0 0 [] [] M) ∧ (¬ s0 = x4 → wX13_kindOf 0 0 [.int x6] M (fun r M1 => kX13_goes_56 mc ms X Q 0 0 [some (.ref 55), some (.int x1), some (.int x2), some (.int x3), some (.int x4), some (.int x5), some (.int x6), none] (r.toList ++ []) M1))) : kX13_goes_46 mc ms X Q 0 0 [some (.ref 55), some (.int x1), some (.int x2), some (.int x3), some (.int x4), some (.int x5), some (.int x6), none] [.int s0] M := ⟨fun c48 => (h.1 c48), fun c48 => ⟨Nat.le_of_ble_eq_true rfl, rfl, 0, 0, Nat.zero_le _, Nat.zero_le _, (h.2 c48)⟩⟩
theorem vkX13_goes_56 {mc ms : Nat} {X : Nat → zV} {Q : zQt} {M : zM} {x1 : Int32} {x2 : Int32} {x3 : Int32} {x4 : Int32} {x5 : Int32} {x6 : Int32} {s0 : Int32} (hW : zFix M)  (h : (s0 = (6 : Int32) → X 61 0 0 [] [] M) ∧ (¬ s0 = (6 : Int32) → wX13_kindOf 0 0 [.int x5] M (fun r M1 => kX13_goes_68 mc ms X Q 0 0 [some (.ref 55), some (.int x1), some (.int x2), some (.int x3), some (.int x4), some (.int x5), some (.int x6), none] (r.toList ++ []) M1))) : kX13_goes_56 mc ms X Q 0 0 [some (.ref 55), some (.int x1), some (.int x2), some (.int x3), some (.int x4), some (.int x5), some (.int x6), none] [.int s0] M := ⟨fun c58 => (h.1 c58), fun c58 => ⟨Nat.le_of_ble_eq_true rfl, rfl, 0, 0, Nat.zero_le _, Nat.zero_le _, (h.2 c58)⟩⟩
theorem vkX13_goes_68 {mc ms : Nat} {X : Nat → zV} {Q : zQt} {M : zM} {x1 : Int32} {x2 : Int32} {x3 : Int32} {x4 : Int32} {x5 : Int32} {x6 : Int32} {s0 : Int32} (hW : zFix M)  (h : (s0 = (1 : Int32) → wX13_pawnGoes 0 0 [.ref 55, .int x1, .int x2, .int x3] M (fun r M1 => kX13_goes_83 mc ms X Q 0 0 [some (.ref 55), some (.int x1), some (.int x2), some (.int x3), some (.int x4), some (.int x5), some (.int x6), some (.int s0)] (r.toList ++ []) M1)) ∧ (¬ s0 = (1 : Int32) → wX13_attacks 0 0 [.ref 55, .int x1, .int x2, .int x3] M (fun r M1 => kX13_goes_93 mc ms X Q 0 0 [some (.ref 55), some (.int x1), some (.int x2), some (.int x3), some (.int x4), some (.int x5), some (.int x6), some (.int s0)] (r.toList ++ []) M1))) : kX13_goes_68 mc ms X Q 0 0 [some (.ref 55), some (.int x1), some (.int x2), some (.int x3), some (.int x4), some (.int x5), some (.int x6), none] [.int s0] M := ⟨fun c73 => ⟨Nat.le_of_ble_eq_true rfl, rfl, (fxs_55 hW), 0, 0, Nat.zero_le _, Nat.zero_le _, (h.1 c73)⟩, fun c73 => ⟨Nat.le_of_ble_eq_true rfl, rfl, (fxs_55 hW), 0, 0, Nat.zero_le _, Nat.zero_le _, (h.2 c73)⟩⟩
theorem vkX13_goes_83 {mc ms : Nat} {X : Nat → zV} {Q : zQt} {M : zM} {x1 : Int32} {x2 : Int32} {x3 : Int32} {x4 : Int32} {x5 : Int32} {x6 : Int32} {x7 : Int32} {s0 : Int32} (hW : zFix M)  (h : X 118 0 0 [] [.int s0] M) : kX13_goes_83 mc ms X Q 0 0 [some (.ref 55), some (.int x1), some (.int x2), some (.int x3), some (.int x4), some (.int x5), some (.int x6), some (.int x7)] [.int s0] M := h
theorem vkX13_goes_93 {mc ms : Nat} {X : Nat → zV} {Q : zQt} {M : zM} {x1 : Int32} {x2 : Int32} {x3 : Int32} {x4 : Int32} {x5 : Int32} {x6 : Int32} {x7 : Int32} {s0 : Int32} (hW : zFix M)  (h : (s0 = 0 → (x7 = (6 : Int32) → wX13_castles 0 0 [.ref 55, .int x1, .int x2, .int x3] M (fun r M1 => kX13_goes_110 mc ms X Q 0 0 [some (.ref 55), some (.int x1), some (.int x2), some (.int x3), some (.int x4), some (.int x5), some (.int x6), some (.int x7)] (r.toList ++ []) M1)) ∧ (¬ x7 = (6 : Int32) → X 117 0 0 [] [] M)) ∧ (¬ s0 = 0 → X 113 0 0 [] [] M)) : kX13_goes_93 mc ms X Q 0 0 [some (.ref 55), some (.int x1), some (.int x2), some (.int x3), some (.int x4), some (.int x5), some (.int x6), some (.int x7)] [.int s0] M := ⟨fun c93 => ⟨fun c100 => ⟨Nat.le_of_ble_eq_true rfl, rfl, (fxs_55 hW), 0, 0, Nat.zero_le _, Nat.zero_le _, ((h.1 c93).1 c100)⟩, fun c100 => ((h.1 c93).2 c100)⟩, fun c93 => (h.2 c93)⟩
theorem vkX13_goes_110 {mc ms : Nat} {X : Nat → zV} {Q : zQt} {M : zM} {x1 : Int32} {x2 : Int32} {x3 : Int32} {x4 : Int32} {x5 : Int32} {x6 : Int32} {x7 : Int32} {s0 : Int32} (hW : zFix M)  (h : (s0 = 0 → X 117 0 0 [] [] M) ∧ (¬ s0 = 0 → X 113 0 0 [] [] M)) : kX13_goes_110 mc ms X Q 0 0 [some (.ref 55), some (.int x1), some (.int x2), some (.int x3), some (.int x4), some (.int x5), some (.int x6), some (.int x7)] [.int s0] M := ⟨fun c110 => (h.1 c110), fun c110 => (h.2 c110)⟩
