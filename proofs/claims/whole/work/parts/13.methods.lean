theorem dX6_readNumber_0 : decode cX6_readNumber 0 = .ok (.iconst (-1), 1) := by decide +kernel
theorem dX6_readNumber_1 : decode cX6_readNumber 1 = .ok (.istore_n 2, 1) := by decide +kernel
theorem dX6_readNumber_2 : decode cX6_readNumber 2 = .ok (.iconst 0, 1) := by decide +kernel
theorem dX6_readNumber_3 : decode cX6_readNumber 3 = .ok (.istore_n 3, 1) := by decide +kernel
theorem dX6_readNumber_4 : decode cX6_readNumber 4 = .ok (.iload_n 3, 1) := by decide +kernel
theorem dX6_readNumber_5 : decode cX6_readNumber 5 = .ok (.iconst 5, 1) := by decide +kernel
theorem dX6_readNumber_6 : decode cX6_readNumber 6 = .ok (.if_icmp .ge 61, 3) := by decide +kernel
theorem dX6_readNumber_9 : decode cX6_readNumber 9 = .ok (.iload_n 2, 1) := by decide +kernel
theorem dX6_readNumber_10 : decode cX6_readNumber 10 = .ok (.ifCond .eq 57, 3) := by decide +kernel
theorem dX6_readNumber_13 : decode cX6_readNumber 13 = .ok (.aload_n 0, 1) := by decide +kernel
theorem dX6_readNumber_14 : decode cX6_readNumber 14 = .ok (.invokevirtual 69, 3) := by decide +kernel
theorem dX6_readNumber_17 : decode cX6_readNumber 17 = .ok (.istore 4, 2) := by decide +kernel
theorem dX6_readNumber_19 : decode cX6_readNumber 19 = .ok (.iload 4, 2) := by decide +kernel
theorem dX6_readNumber_21 : decode cX6_readNumber 21 = .ok (.bipush 48, 2) := by decide +kernel
theorem dX6_readNumber_23 : decode cX6_readNumber 23 = .ok (.if_icmp .lt 44, 3) := by decide +kernel
theorem dX6_readNumber_26 : decode cX6_readNumber 26 = .ok (.iload 4, 2) := by decide +kernel
theorem dX6_readNumber_28 : decode cX6_readNumber 28 = .ok (.bipush 57, 2) := by decide +kernel
theorem dX6_readNumber_30 : decode cX6_readNumber 30 = .ok (.if_icmp .le 6, 3) := by decide +kernel
theorem dX6_readNumber_33 : decode cX6_readNumber 33 = .ok (.goto 34, 3) := by decide +kernel
theorem dX6_readNumber_36 : decode cX6_readNumber 36 = .ok (.iload_n 2, 1) := by decide +kernel
theorem dX6_readNumber_37 : decode cX6_readNumber 37 = .ok (.iconst 0, 1) := by decide +kernel
theorem dX6_readNumber_38 : decode cX6_readNumber 38 = .ok (.invokestatic 103, 3) := by decide +kernel
theorem dX6_readNumber_41 : decode cX6_readNumber 41 = .ok (.bipush 10, 2) := by decide +kernel
theorem dX6_readNumber_43 : decode cX6_readNumber 43 = .ok (.imul, 1) := by decide +kernel
theorem dX6_readNumber_44 : decode cX6_readNumber 44 = .ok (.iload 4, 2) := by decide +kernel
theorem dX6_readNumber_46 : decode cX6_readNumber 46 = .ok (.bipush 48, 2) := by decide +kernel
theorem dX6_readNumber_48 : decode cX6_readNumber 48 = .ok (.isub, 1) := by decide +kernel
theorem dX6_readNumber_49 : decode cX6_readNumber 49 = .ok (.iadd, 1) := by decide +kernel
theorem dX6_readNumber_50 : decode cX6_readNumber 50 = .ok (.istore_n 2, 1) := by decide +kernel
theorem dX6_readNumber_51 : decode cX6_readNumber 51 = .ok (.aload_n 0, 1) := by decide +kernel
theorem dX6_readNumber_52 : decode cX6_readNumber 52 = .ok (.dup, 1) := by decide +kernel
theorem dX6_readNumber_53 : decode cX6_readNumber 53 = .ok (.getfield 26, 3) := by decide +kernel
theorem dX6_readNumber_56 : decode cX6_readNumber 56 = .ok (.iconst 1, 1) := by decide +kernel
theorem dX6_readNumber_57 : decode cX6_readNumber 57 = .ok (.iadd, 1) := by decide +kernel
theorem dX6_readNumber_58 : decode cX6_readNumber 58 = .ok (.putfield 26, 3) := by decide +kernel
theorem dX6_readNumber_61 : decode cX6_readNumber 61 = .ok (.iinc 3 1, 3) := by decide +kernel
theorem dX6_readNumber_64 : decode cX6_readNumber 64 = .ok (.goto (-60), 3) := by decide +kernel
theorem dX6_readNumber_67 : decode cX6_readNumber 67 = .ok (.iload_n 2, 1) := by decide +kernel
theorem dX6_readNumber_68 : decode cX6_readNumber 68 = .ok (.iload_n 1, 1) := by decide +kernel
theorem dX6_readNumber_69 : decode cX6_readNumber 69 = .ok (.if_icmp .le 7, 3) := by decide +kernel
theorem dX6_readNumber_72 : decode cX6_readNumber 72 = .ok (.iconst (-1), 1) := by decide +kernel
theorem dX6_readNumber_73 : decode cX6_readNumber 73 = .ok (.goto 4, 3) := by decide +kernel
theorem dX6_readNumber_76 : decode cX6_readNumber 76 = .ok (.iload_n 2, 1) := by decide +kernel
theorem dX6_readNumber_77 : decode cX6_readNumber 77 = .ok (.ireturn, 1) := by decide +kernel
def kX6_readNumber_51 (mc ms : Nat) (X : Nat → zV) (Q : zQt) : zT :=
  zla 0 <| zdup <| zgi 6 3 <| zc (.int 1) <| zii (fun x y => x + y) <| zpi 6 3 <| zinc 3 1 <| zj X 4 [0, 1, 2, 3]
def kX6_readNumber_17 (mc ms : Nat) (X : Nat → zV) (Q : zQt) : zT :=
  zsi 4 <| zli 4 <| zc (.int 48) <| zic (fun x y => x < y) (zj X 67 [1, 2]) <| zli 4 <| zc (.int 57) <| zic (fun x y => x ≤ y) (zli 2 <| zc (.int 0) <| zmx <| zc (.int 10) <| zii (fun x y => x * y) <| zli 4 <| zc (.int 48) <| zii (fun x y => x - y) <| zii (fun x y => x + y) <| zsiN 2 <| kX6_readNumber_51 mc ms X Q) <| zj X 67 [1, 2]
def aX6_readNumber_0 (mc ms : Nat) (X : Nat → zV) (Q : zQt) : zT :=
  zc (.int (-1)) <| zsi 2 <| zc (.int 0) <| zsi 3 <| zj X 4 [0, 1, 2, 3]
def aX6_readNumber_4 (mc ms : Nat) (X : Nat → zV) (Q : zQt) : zT :=
  zli 3 <| zc (.int 5) <| zic (fun x y => y ≤ x) (zj X 67 [1, 2]) <| zli 2 <| zif (fun x => x = 0) (zj X 67 [1, 2]) <| zla 0 <| zcv mc ms 6 0 wX6_sign <| kX6_readNumber_17 mc ms X Q
def aX6_readNumber_67 (mc ms : Nat) (X : Nat → zV) (Q : zQt) : zT :=
  zli 2 <| zli 1 <| zic (fun x y => x ≤ y) (zli 2 <| zj X 77 []) <| zc (.int (-1)) <| zj X 77 []
def aX6_readNumber_77 (mc ms : Nat) (X : Nat → zV) (Q : zQt) : zT :=
  zri Q
def lvX6_readNumber : Nat → List Nat := fun L => match L with
  | 0 => [0, 1]
  | 4 => [0, 1, 2, 3]
  | 67 => [1, 2]
  | 77 => []
  | _ => []
def wX6_readNumber : zSp := fun mc ms av M Q => ((zlay av).length ≤ 5 ∧ zpick (zlay av) [0, 1] = some av) ∧ ∀ X : Nat → zV, zin 5 [0, 1] (aX6_readNumber_0 mc ms X Q) X 0 → zin 5 [0, 1, 2, 3] (aX6_readNumber_4 mc ms X Q) X 4 → zin 5 [1, 2] (aX6_readNumber_67 mc ms X Q) X 67 → zin 5 [] (aX6_readNumber_77 mc ms X Q) X 77 → X 0 0 0 av [] M
set_option maxRecDepth 100000 in
set_option maxHeartbeats 4000000 in
theorem sX6_readNumber (l : Launch) (G : zG) : zSnd l G yX6_readNumber cX6_readNumber 5 (some .int) 1 21 wX6_readNumber := by
  refine zmk [0, 1] (by decide) (fun mc ms av M Q h => h.1) ?_
  intro p e R s m args below meth c mc ms av M Q hC hRf hRl hr hnm h lv hlv
  obtain ⟨X, hXe⟩ : ∃ X : Nat → zV, X = fun L u v vs st M => ∀ lv, zpick lv (lvX6_readNumber L) = some vs → zAt p l e R s m args below meth c (MQ below (zQ G Q) args s mc ms (zA G)) G 5 L u v lv st M := ⟨_, rfl⟩
  have hJ : ∀ L, zOk p l e R s m args below meth c (MQ below (zQ G Q) args s mc ms (zA G)) G 5 L (zj X L (lvX6_readNumber L)) := fun L => S_jump (fun u v lv vs st M hp hx => by rw [hXe] at hx; exact hx lv hp)
  have hB0 : zin 5 [0, 1] (aX6_readNumber_0 mc ms X Q) X 0 := by
    intro u v vs st M hb
    rw [hXe]
    refine fun lv hp => S_block (L := 0) (live := [0, 1]) ?_ u v lv vs st M hp hb
    unfold aX6_readNumber_0
    refine S_iconst (pc := 0) hC dX6_readNumber_0 (by decide) ?_
    refine S_istore_n (pc := 1) hC dX6_readNumber_1 rfl (by decide) ?_
    refine S_iconst (pc := 2) hC dX6_readNumber_2 (by decide) ?_
    refine S_istore_n (pc := 3) hC dX6_readNumber_3 rfl (by decide) ?_
    exact hJ 4
  have hB4 : zin 5 [0, 1, 2, 3] (aX6_readNumber_4 mc ms X Q) X 4 := by
    intro u v vs st M hb
    rw [hXe]
    refine fun lv hp => S_block (L := 4) (live := [0, 1, 2, 3]) ?_ u v lv vs st M hp hb
    unfold aX6_readNumber_4
    refine S_iload_n (pc := 4) hC dX6_readNumber_4 rfl ?_
    refine S_iconst (pc := 5) hC dX6_readNumber_5 (by decide) ?_
    refine S_icmp_ge (pc := 6) (tgt := 67) hC dX6_readNumber_6 (by decide) ?_ ?_
    · exact hJ 67
    · refine S_iload_n (pc := 9) hC dX6_readNumber_9 rfl ?_
      refine S_if_eq (pc := 10) (tgt := 67) hC dX6_readNumber_10 (by decide) ?_ ?_
      · exact hJ 67
      · refine S_aload_n (pc := 13) hC dX6_readNumber_13 rfl ?_
        refine S_callV (pc := 14) hC (sX6_sign l G) rfl wd_689 wd_691 ws_16 wd_4 wd_692 (by decide +kernel) ⟨by rw [hRf]; decide, by rw [hRl]; decide⟩ dX6_readNumber_14 ?_
        unfold kX6_readNumber_17
        refine S_istore (pc := 17) hC dX6_readNumber_17 (by decide) ?_
        refine S_iload (pc := 19) hC dX6_readNumber_19 ?_
        refine S_bipush (pc := 21) hC dX6_readNumber_21 (by decide) ?_
        refine S_icmp_lt (pc := 23) (tgt := 67) hC dX6_readNumber_23 (by decide) ?_ ?_
        · exact hJ 67
        · refine S_iload (pc := 26) hC dX6_readNumber_26 ?_
          refine S_bipush (pc := 28) hC dX6_readNumber_28 (by decide) ?_
          refine S_icmp_le (pc := 30) (tgt := 36) hC dX6_readNumber_30 (by decide) ?_ ?_
          · refine S_iload_n (pc := 36) hC dX6_readNumber_36 rfl ?_
            refine S_iconst (pc := 37) hC dX6_readNumber_37 (by decide) ?_
            refine S_max (pc := 38) hC wd_781 wd_583 wd_21 wd_584 (by rw [hRf]; decide) (by rw [hRl]; decide) dX6_readNumber_38 ?_
            refine S_bipush (pc := 41) hC dX6_readNumber_41 (by decide) ?_
            refine S_imul (pc := 43) hC dX6_readNumber_43 ?_
            refine S_iload (pc := 44) hC dX6_readNumber_44 ?_
            refine S_bipush (pc := 46) hC dX6_readNumber_46 (by decide) ?_
            refine S_isub (pc := 48) hC dX6_readNumber_48 ?_
            refine S_iadd (pc := 49) hC dX6_readNumber_49 ?_
            refine S_istore_n_N (pc := 50) hC dX6_readNumber_50 rfl (by decide) ?_
            unfold kX6_readNumber_51
            refine S_aload_n (pc := 51) hC dX6_readNumber_51 rfl ?_
            refine S_dup (pc := 52) hC dX6_readNumber_52 ?_
            refine S_geti (pc := 53) hC cfX6 (by decide) (Or.inl rfl) wd_141 dX6_readNumber_53 ?_
            refine S_iconst (pc := 56) hC dX6_readNumber_56 (by decide) ?_
            refine S_iadd (pc := 57) hC dX6_readNumber_57 ?_
            refine S_puti (pc := 58) hC cfX6 (by decide) rfl (Or.inl rfl) wd_141 dX6_readNumber_58 ?_
            refine S_iinc (pc := 61) hC dX6_readNumber_61 (by decide) (by decide) ?_
            refine S_goto (pc := 64) (tgt := 4) hC dX6_readNumber_64 (by decide) ?_
            exact hJ 4
          · refine S_goto (pc := 33) (tgt := 67) hC dX6_readNumber_33 (by decide) ?_
            exact hJ 67
  have hB67 : zin 5 [1, 2] (aX6_readNumber_67 mc ms X Q) X 67 := by
    intro u v vs st M hb
    rw [hXe]
    refine fun lv hp => S_block (L := 67) (live := [1, 2]) ?_ u v lv vs st M hp hb
    unfold aX6_readNumber_67
    refine S_iload_n (pc := 67) hC dX6_readNumber_67 rfl ?_
    refine S_iload_n (pc := 68) hC dX6_readNumber_68 rfl ?_
    refine S_icmp_le (pc := 69) (tgt := 76) hC dX6_readNumber_69 (by decide) ?_ ?_
    · refine S_iload_n (pc := 76) hC dX6_readNumber_76 rfl ?_
      exact hJ 77
    · refine S_iconst (pc := 72) hC dX6_readNumber_72 (by decide) ?_
      refine S_goto (pc := 73) (tgt := 77) hC dX6_readNumber_73 (by decide) ?_
      exact hJ 77
  have hB77 : zin 5 [] (aX6_readNumber_77 mc ms X Q) X 77 := by
    intro u v vs st M hb
    rw [hXe]
    refine fun lv hp => S_block (L := 77) (live := []) ?_ u v lv vs st M hp hb
    unfold aX6_readNumber_77
    exact S_ireturn (pc := 77) hC hr dX6_readNumber_77
  have := h.2 X hB0 hB4 hB67 hB77
  rw [hXe] at this
  exact this lv hlv
theorem vX6_readNumber_0 {mc ms : Nat} {X : Nat → zV} {Q : zQt} {M : zM} {g : Nat} {x1 : Int32} (hW : zWd M g)  (h : X 4 0 0 [.ref 27, .int x1, .int (-1), .int 0] [] M) : aX6_readNumber_0 mc ms X Q 0 0 [some (.ref 27), some (.int x1), none, none, none] [] M := h
theorem vX6_readNumber_4 {mc ms : Nat} {X : Nat → zV} {Q : zQt} {M : zM} {g : Nat} {x1 : Int32} {x2 : Int32} {x3 : Int32} (hW : zWd M g)  (h : ((5 : Int32) ≤ x3 → X 67 0 0 [.int x1, .int x2] [] M) ∧ (¬ (5 : Int32) ≤ x3 → (x2 = 0 → X 67 0 0 [.int x1, .int x2] [] M) ∧ (¬ x2 = 0 → wX6_sign 0 0 [.ref 27] M (fun r M1 => kX6_readNumber_17 mc ms X Q 0 0 [some (.ref 27), some (.int x1), some (.int x2), some (.int x3), none] (r.toList ++ []) M1)))) : aX6_readNumber_4 mc ms X Q 0 0 [some (.ref 27), some (.int x1), some (.int x2), some (.int x3), none] [] M := ⟨fun c6 => (h.1 c6), fun c6 => ⟨fun c10 => ((h.2 c6).1 c10), fun c10 => ⟨Nat.le_of_ble_eq_true rfl, rfl, (fxs_27 hW.1), 0, 0, Nat.zero_le _, Nat.zero_le _, ((h.2 c6).2 c10)⟩⟩⟩
theorem vX6_readNumber_67 {mc ms : Nat} {X : Nat → zV} {Q : zQt} {M : zM} {g : Nat} {x1 : Int32} {x2 : Int32} (hW : zWd M g)  (h : (x2 ≤ x1 → X 77 0 0 [] [.int x2] M) ∧ (¬ x2 ≤ x1 → X 77 0 0 [] [.int (-1)] M)) : aX6_readNumber_67 mc ms X Q 0 0 [none, some (.int x1), some (.int x2), none, none] [] M := ⟨fun c69 => (h.1 c69), fun c69 => (h.2 c69)⟩
theorem vX6_readNumber_77 {mc ms : Nat} {X : Nat → zV} {Q : zQt} {M : zM} {g : Nat} {s0 : Int32} (hW : zWd M g)  (h : Q (some (.int s0)) M) : aX6_readNumber_77 mc ms X Q 0 0 [none, none, none, none, none] [.int s0] M := h
theorem vcX6_readNumber_51 {mc ms : Nat} {X : Nat → zV} {Q : zQt} {M : zM} {g : Nat} {x1 : Int32} {x2 : Int32} {x3 : Int32} {x4 : Int32} (hW : zWd M g)  (h : ∀ M58 : zM, M58 = (zsI M 27 3 (((M.1 27 3) + (1 : Int32)))) → X 4 0 0 [.ref 27, .int x1, .int x2, .int (x3 + 1)] [] M58) : kX6_readNumber_51 mc ms X Q 0 0 [some (.ref 27), some (.int x1), some (.int x2), some (.int x3), some (.int x4)] [] M := ⟨(fxs_27 hW.1), ⟨(fxs_27 hW.1), (have h58 := h _ rfl; h58)⟩⟩
theorem vkX6_readNumber_17 {mc ms : Nat} {X : Nat → zV} {Q : zQt} {M : zM} {g : Nat} {x1 : Int32} {x2 : Int32} {x3 : Int32} {s0 : Int32} (hW : zWd M g)  (h : (s0 < (48 : Int32) → X 67 0 0 [.int x1, .int x2] [] M) ∧ (¬ s0 < (48 : Int32) → (s0 ≤ (57 : Int32) → ∀ y50 : Int32, y50 = (((if x2 < 0 then 0 else x2) * (10 : Int32)) + (s0 - (48 : Int32))) → ∀ M58 : zM, M58 = (zsI M 27 3 (((M.1 27 3) + (1 : Int32)))) → X 4 0 0 [.ref 27, .int x1, .int y50, .int (x3 + 1)] [] M58) ∧ (¬ s0 ≤ (57 : Int32) → X 67 0 0 [.int x1, .int x2] [] M))) : kX6_readNumber_17 mc ms X Q 0 0 [some (.ref 27), some (.int x1), some (.int x2), some (.int x3), none] [.int s0] M := ⟨fun c23 => (h.1 c23), fun c23 => ⟨fun c30 => ⟨Nat.le_of_ble_eq_true rfl, (fun y50 e50 => have h50 := ((h.2 c23).1 c30) y50 e50; (vcX6_readNumber_51 hW  h50))⟩, fun c30 => ((h.2 c23).2 c30)⟩⟩
theorem dX6_tooMany_0 : decode cX6_tooMany 0 = .ok (.bipush 8, 2) := by decide +kernel
theorem dX6_tooMany_2 : decode cX6_tooMany 2 = .ok (.aload_n 1, 1) := by decide +kernel
theorem dX6_tooMany_3 : decode cX6_tooMany 3 = .ok (.getfield 109, 3) := by decide +kernel
theorem dX6_tooMany_6 : decode cX6_tooMany 6 = .ok (.iload_n 2, 1) := by decide +kernel
theorem dX6_tooMany_7 : decode cX6_tooMany 7 = .ok (.iconst 1, 1) := by decide +kernel
theorem dX6_tooMany_8 : decode cX6_tooMany 8 = .ok (.iadd, 1) := by decide +kernel
theorem dX6_tooMany_9 : decode cX6_tooMany 9 = .ok (.laload, 1) := by decide +kernel
theorem dX6_tooMany_10 : decode cX6_tooMany 10 = .ok (.invokestatic 113, 3) := by decide +kernel
theorem dX6_tooMany_13 : decode cX6_tooMany 13 = .ok (.isub, 1) := by decide +kernel
theorem dX6_tooMany_14 : decode cX6_tooMany 14 = .ok (.istore_n 3, 1) := by decide +kernel
theorem dX6_tooMany_15 : decode cX6_tooMany 15 = .ok (.iconst 0, 1) := by decide +kernel
theorem dX6_tooMany_16 : decode cX6_tooMany 16 = .ok (.aload_n 1, 1) := by decide +kernel
theorem dX6_tooMany_17 : decode cX6_tooMany 17 = .ok (.getfield 109, 3) := by decide +kernel
theorem dX6_tooMany_20 : decode cX6_tooMany 20 = .ok (.iload_n 2, 1) := by decide +kernel
theorem dX6_tooMany_21 : decode cX6_tooMany 21 = .ok (.iconst 5, 1) := by decide +kernel
theorem dX6_tooMany_22 : decode cX6_tooMany 22 = .ok (.iadd, 1) := by decide +kernel
theorem dX6_tooMany_23 : decode cX6_tooMany 23 = .ok (.laload, 1) := by decide +kernel
theorem dX6_tooMany_24 : decode cX6_tooMany 24 = .ok (.invokestatic 113, 3) := by decide +kernel
theorem dX6_tooMany_27 : decode cX6_tooMany 27 = .ok (.iconst 1, 1) := by decide +kernel
theorem dX6_tooMany_28 : decode cX6_tooMany 28 = .ok (.isub, 1) := by decide +kernel
theorem dX6_tooMany_29 : decode cX6_tooMany 29 = .ok (.invokestatic 103, 3) := by decide +kernel
theorem dX6_tooMany_32 : decode cX6_tooMany 32 = .ok (.istore 4, 2) := by decide +kernel
theorem dX6_tooMany_34 : decode cX6_tooMany 34 = .ok (.iconst 2, 1) := by decide +kernel
theorem dX6_tooMany_35 : decode cX6_tooMany 35 = .ok (.istore 5, 2) := by decide +kernel
theorem dX6_tooMany_37 : decode cX6_tooMany 37 = .ok (.iload 5, 2) := by decide +kernel
theorem dX6_tooMany_39 : decode cX6_tooMany 39 = .ok (.iconst 4, 1) := by decide +kernel
theorem dX6_tooMany_40 : decode cX6_tooMany 40 = .ok (.if_icmp .gt 32, 3) := by decide +kernel
theorem dX6_tooMany_43 : decode cX6_tooMany 43 = .ok (.iload 4, 2) := by decide +kernel
theorem dX6_tooMany_45 : decode cX6_tooMany 45 = .ok (.iconst 0, 1) := by decide +kernel
theorem dX6_tooMany_46 : decode cX6_tooMany 46 = .ok (.aload_n 1, 1) := by decide +kernel
theorem dX6_tooMany_47 : decode cX6_tooMany 47 = .ok (.getfield 109, 3) := by decide +kernel
theorem dX6_tooMany_50 : decode cX6_tooMany 50 = .ok (.iload_n 2, 1) := by decide +kernel
theorem dX6_tooMany_51 : decode cX6_tooMany 51 = .ok (.iload 5, 2) := by decide +kernel
theorem dX6_tooMany_53 : decode cX6_tooMany 53 = .ok (.iadd, 1) := by decide +kernel
theorem dX6_tooMany_54 : decode cX6_tooMany 54 = .ok (.laload, 1) := by decide +kernel
theorem dX6_tooMany_55 : decode cX6_tooMany 55 = .ok (.invokestatic 113, 3) := by decide +kernel
theorem dX6_tooMany_58 : decode cX6_tooMany 58 = .ok (.iconst 2, 1) := by decide +kernel
theorem dX6_tooMany_59 : decode cX6_tooMany 59 = .ok (.isub, 1) := by decide +kernel
theorem dX6_tooMany_60 : decode cX6_tooMany 60 = .ok (.invokestatic 103, 3) := by decide +kernel
theorem dX6_tooMany_63 : decode cX6_tooMany 63 = .ok (.iadd, 1) := by decide +kernel
theorem dX6_tooMany_64 : decode cX6_tooMany 64 = .ok (.istore 4, 2) := by decide +kernel
theorem dX6_tooMany_66 : decode cX6_tooMany 66 = .ok (.iinc 5 1, 3) := by decide +kernel
theorem dX6_tooMany_69 : decode cX6_tooMany 69 = .ok (.goto (-32), 3) := by decide +kernel
theorem dX6_tooMany_72 : decode cX6_tooMany 72 = .ok (.iload 4, 2) := by decide +kernel
theorem dX6_tooMany_74 : decode cX6_tooMany 74 = .ok (.iload_n 3, 1) := by decide +kernel
theorem dX6_tooMany_75 : decode cX6_tooMany 75 = .ok (.if_icmp .le 7, 3) := by decide +kernel
theorem dX6_tooMany_78 : decode cX6_tooMany 78 = .ok (.iconst 1, 1) := by decide +kernel
theorem dX6_tooMany_79 : decode cX6_tooMany 79 = .ok (.goto 4, 3) := by decide +kernel
theorem dX6_tooMany_82 : decode cX6_tooMany 82 = .ok (.iconst 0, 1) := by decide +kernel
theorem dX6_tooMany_83 : decode cX6_tooMany 83 = .ok (.ireturn, 1) := by decide +kernel
def kX6_tooMany_34 (mc ms : Nat) (X : Nat → zV) (Q : zQt) : zT :=
  zc (.int 2) <| zsi 5 <| zj X 37 [1, 2, 3, 4, 5]
def kX6_tooMany_27 (mc ms : Nat) (X : Nat → zV) (Q : zQt) : zT :=
  zc (.int 1) <| zii (fun x y => x - y) <| zmx <| zsiN 4 <| kX6_tooMany_34 mc ms X Q
def kX6_tooMany_13 (mc ms : Nat) (X : Nat → zV) (Q : zQt) : zT :=
  zii (fun x y => x - y) <| zsi 3 <| zc (.int 0) <| zla 1 <| zgR 0 2 <| zli 2 <| zc (.int 5) <| zii (fun x y => x + y) <| zall <| zcs mc ms 1 wJ13_bitCount_95d88 <| kX6_tooMany_27 mc ms X Q
def kX6_tooMany_66 (mc ms : Nat) (X : Nat → zV) (Q : zQt) : zT :=
  zinc 5 1 <| zj X 37 [1, 2, 3, 4, 5]
def kX6_tooMany_58 (mc ms : Nat) (X : Nat → zV) (Q : zQt) : zT :=
  zc (.int 2) <| zii (fun x y => x - y) <| zmx <| zii (fun x y => x + y) <| zsiN 4 <| kX6_tooMany_66 mc ms X Q
def aX6_tooMany_0 (mc ms : Nat) (X : Nat → zV) (Q : zQt) : zT :=
  zc (.int 8) <| zla 1 <| zgR 0 2 <| zli 2 <| zc (.int 1) <| zii (fun x y => x + y) <| zall <| zcs mc ms 1 wJ13_bitCount_95d88 <| kX6_tooMany_13 mc ms X Q
def aX6_tooMany_37 (mc ms : Nat) (X : Nat → zV) (Q : zQt) : zT :=
  zli 5 <| zc (.int 4) <| zic (fun x y => y < x) (zli 4 <| zli 3 <| zic (fun x y => x ≤ y) (zc (.int 0) <| zj X 83 []) <| zc (.int 1) <| zj X 83 []) <| zli 4 <| zc (.int 0) <| zla 1 <| zgR 0 2 <| zli 2 <| zli 5 <| zii (fun x y => x + y) <| zall <| zcs mc ms 1 wJ13_bitCount_95d88 <| kX6_tooMany_58 mc ms X Q
def aX6_tooMany_83 (mc ms : Nat) (X : Nat → zV) (Q : zQt) : zT :=
  zrz .boolean Q
def lvX6_tooMany : Nat → List Nat := fun L => match L with
  | 0 => [0, 1, 2]
  | 37 => [1, 2, 3, 4, 5]
  | 83 => []
  | _ => []
def wX6_tooMany : zSp := fun mc ms av M Q => ((zlay av).length ≤ 6 ∧ zpick (zlay av) [0, 1, 2] = some av) ∧ ∀ X : Nat → zV, zin 6 [0, 1, 2] (aX6_tooMany_0 mc ms X Q) X 0 → zin 6 [1, 2, 3, 4, 5] (aX6_tooMany_37 mc ms X Q) X 37 → zin 6 [] (aX6_tooMany_83 mc ms X Q) X 83 → X 0 0 0 av [] M
set_option maxRecDepth 100000 in
set_option maxHeartbeats 4000000 in
theorem sX6_tooMany (l : Launch) (G : zG) : zSnd l G yX6_tooMany cX6_tooMany 6 (some .boolean) 1 21 wX6_tooMany := by
  refine zmk [0, 1, 2] (by decide) (fun mc ms av M Q h => h.1) ?_
  intro p e R s m args below meth c mc ms av M Q hC hRf hRl hr hnm h lv hlv
  obtain ⟨X, hXe⟩ : ∃ X : Nat → zV, X = fun L u v vs st M => ∀ lv, zpick lv (lvX6_tooMany L) = some vs → zAt p l e R s m args below meth c (MQ below (zQ G Q) args s mc ms (zA G)) G 6 L u v lv st M := ⟨_, rfl⟩
  have hJ : ∀ L, zOk p l e R s m args below meth c (MQ below (zQ G Q) args s mc ms (zA G)) G 6 L (zj X L (lvX6_tooMany L)) := fun L => S_jump (fun u v lv vs st M hp hx => by rw [hXe] at hx; exact hx lv hp)
  have hB0 : zin 6 [0, 1, 2] (aX6_tooMany_0 mc ms X Q) X 0 := by
    intro u v vs st M hb
    rw [hXe]
    refine fun lv hp => S_block (L := 0) (live := [0, 1, 2]) ?_ u v lv vs st M hp hb
    unfold aX6_tooMany_0
    refine S_bipush (pc := 0) hC dX6_tooMany_0 (by decide) ?_
    refine S_aload_n (pc := 2) hC dX6_tooMany_2 rfl ?_
    refine S_getR (pc := 3) hC cfX0 (by decide) (Or.inr ⟨_, rfl⟩) wd_224 dX6_tooMany_3 ?_
    refine S_iload_n (pc := 6) hC dX6_tooMany_6 rfl ?_
    refine S_iconst (pc := 7) hC dX6_tooMany_7 (by decide) ?_
    refine S_iadd (pc := 8) hC dX6_tooMany_8 ?_
    refine S_laload (pc := 9) hC dX6_tooMany_9 ?_
    refine S_callS (pc := 10) hC (sJ13_bitCount_95d88 l G) wd_786 wd_438 wd_25 wd_439 (by decide +kernel) ⟨by rw [hRf]; decide, by rw [hRl]; decide⟩ dX6_tooMany_10 ?_
    unfold kX6_tooMany_13
    refine S_isub (pc := 13) hC dX6_tooMany_13 ?_
    refine S_istore_n (pc := 14) hC dX6_tooMany_14 rfl (by decide) ?_
    refine S_iconst (pc := 15) hC dX6_tooMany_15 (by decide) ?_
    refine S_aload_n (pc := 16) hC dX6_tooMany_16 rfl ?_
    refine S_getR (pc := 17) hC cfX0 (by decide) (Or.inr ⟨_, rfl⟩) wd_224 dX6_tooMany_17 ?_
    refine S_iload_n (pc := 20) hC dX6_tooMany_20 rfl ?_
    refine S_iconst (pc := 21) hC dX6_tooMany_21 (by decide) ?_
    refine S_iadd (pc := 22) hC dX6_tooMany_22 ?_
    refine S_laload (pc := 23) hC dX6_tooMany_23 ?_
    refine S_callS (pc := 24) hC (sJ13_bitCount_95d88 l G) wd_786 wd_438 wd_25 wd_439 (by decide +kernel) ⟨by rw [hRf]; decide, by rw [hRl]; decide⟩ dX6_tooMany_24 ?_
    unfold kX6_tooMany_27
    refine S_iconst (pc := 27) hC dX6_tooMany_27 (by decide) ?_
    refine S_isub (pc := 28) hC dX6_tooMany_28 ?_
    refine S_max (pc := 29) hC wd_781 wd_583 wd_21 wd_584 (by rw [hRf]; decide) (by rw [hRl]; decide) dX6_tooMany_29 ?_
    refine S_istore_N (pc := 32) hC dX6_tooMany_32 (by decide) ?_
    unfold kX6_tooMany_34
    refine S_iconst (pc := 34) hC dX6_tooMany_34 (by decide) ?_
    refine S_istore (pc := 35) hC dX6_tooMany_35 (by decide) ?_
    exact hJ 37
  have hB37 : zin 6 [1, 2, 3, 4, 5] (aX6_tooMany_37 mc ms X Q) X 37 := by
    intro u v vs st M hb
    rw [hXe]
    refine fun lv hp => S_block (L := 37) (live := [1, 2, 3, 4, 5]) ?_ u v lv vs st M hp hb
    unfold aX6_tooMany_37
    refine S_iload (pc := 37) hC dX6_tooMany_37 ?_
    refine S_iconst (pc := 39) hC dX6_tooMany_39 (by decide) ?_
    refine S_icmp_gt (pc := 40) (tgt := 72) hC dX6_tooMany_40 (by decide) ?_ ?_
    · refine S_iload (pc := 72) hC dX6_tooMany_72 ?_
      refine S_iload_n (pc := 74) hC dX6_tooMany_74 rfl ?_
      refine S_icmp_le (pc := 75) (tgt := 82) hC dX6_tooMany_75 (by decide) ?_ ?_
      · refine S_iconst (pc := 82) hC dX6_tooMany_82 (by decide) ?_
        exact hJ 83
      · refine S_iconst (pc := 78) hC dX6_tooMany_78 (by decide) ?_
        refine S_goto (pc := 79) (tgt := 83) hC dX6_tooMany_79 (by decide) ?_
        exact hJ 83
    · refine S_iload (pc := 43) hC dX6_tooMany_43 ?_
      refine S_iconst (pc := 45) hC dX6_tooMany_45 (by decide) ?_
      refine S_aload_n (pc := 46) hC dX6_tooMany_46 rfl ?_
      refine S_getR (pc := 47) hC cfX0 (by decide) (Or.inr ⟨_, rfl⟩) wd_224 dX6_tooMany_47 ?_
      refine S_iload_n (pc := 50) hC dX6_tooMany_50 rfl ?_
      refine S_iload (pc := 51) hC dX6_tooMany_51 ?_
      refine S_iadd (pc := 53) hC dX6_tooMany_53 ?_
      refine S_laload (pc := 54) hC dX6_tooMany_54 ?_
      refine S_callS (pc := 55) hC (sJ13_bitCount_95d88 l G) wd_786 wd_438 wd_25 wd_439 (by decide +kernel) ⟨by rw [hRf]; decide, by rw [hRl]; decide⟩ dX6_tooMany_55 ?_
      unfold kX6_tooMany_58
      refine S_iconst (pc := 58) hC dX6_tooMany_58 (by decide) ?_
      refine S_isub (pc := 59) hC dX6_tooMany_59 ?_
      refine S_max (pc := 60) hC wd_781 wd_583 wd_21 wd_584 (by rw [hRf]; decide) (by rw [hRl]; decide) dX6_tooMany_60 ?_
      refine S_iadd (pc := 63) hC dX6_tooMany_63 ?_
      refine S_istore_N (pc := 64) hC dX6_tooMany_64 (by decide) ?_
      unfold kX6_tooMany_66
      refine S_iinc (pc := 66) hC dX6_tooMany_66 (by decide) (by decide) ?_
      refine S_goto (pc := 69) (tgt := 37) hC dX6_tooMany_69 (by decide) ?_
      exact hJ 37
  have hB83 : zin 6 [] (aX6_tooMany_83 mc ms X Q) X 83 := by
    intro u v vs st M hb
    rw [hXe]
    refine fun lv hp => S_block (L := 83) (live := []) ?_ u v lv vs st M hp hb
    unfold aX6_tooMany_83
    exact S_zreturn (pc := 83) hC hr dX6_tooMany_83
  have := h.2 X hB0 hB37 hB83
  rw [hXe] at this
  exact this lv hlv
theorem vX6_tooMany_0 {mc ms : Nat} {X : Nat → zV} {Q : zQt} {M : zM} {g : Nat} {x2 : Int32} (hW : zWd M g)  (h : vp_in ((x2 + (1 : Int32))) 13 ∧ wJ13_bitCount_95d88 0 0 [.long ((M : zM).2.1 ((g + 3)) ((x2 + (1 : Int32)) : Int32).toNatClampNeg)] M (fun r M1 => kX6_tooMany_13 mc ms X Q 0 0 [some (.ref 27), some (.ref (g + 1)), some (.int x2), none, none, none] (r.toList ++ [.int 8]) M1)) : aX6_tooMany_0 mc ms X Q 0 0 [some (.ref 27), some (.ref (g + 1)), some (.int x2), none, none, none] [] M := ⟨(fgs_1 hW), (g + 3), (fgr_1_2 hW), ⟨13, (fgs_3 hW), h.1, ⟨Nat.le_of_ble_eq_true rfl, rfl, 0, 0, Nat.zero_le _, Nat.zero_le _, h.2⟩⟩⟩
theorem vX6_tooMany_37 {mc ms : Nat} {X : Nat → zV} {Q : zQt} {M : zM} {g : Nat} {x2 : Int32} {x3 : Int32} {x4 : Int32} {x5 : Int32} (hW : zWd M g)  (h : ((4 : Int32) < x5 → (x4 ≤ x3 → X 83 0 0 [] [.int 0] M) ∧ (¬ x4 ≤ x3 → X 83 0 0 [] [.int 1] M)) ∧ (¬ (4 : Int32) < x5 → vp_in ((x2 + x5)) 13 ∧ wJ13_bitCount_95d88 0 0 [.long ((M : zM).2.1 ((g + 3)) ((x2 + x5) : Int32).toNatClampNeg)] M (fun r M1 => kX6_tooMany_58 mc ms X Q 0 0 [none, some (.ref (g + 1)), some (.int x2), some (.int x3), some (.int x4), some (.int x5)] (r.toList ++ [.int 0, .int x4]) M1))) : aX6_tooMany_37 mc ms X Q 0 0 [none, some (.ref (g + 1)), some (.int x2), some (.int x3), some (.int x4), some (.int x5)] [] M := ⟨fun c40 => ⟨fun c75 => ((h.1 c40).1 c75), fun c75 => ((h.1 c40).2 c75)⟩, fun c40 => ⟨(fgs_1 hW), (g + 3), (fgr_1_2 hW), ⟨13, (fgs_3 hW), (h.2 c40).1, ⟨Nat.le_of_ble_eq_true rfl, rfl, 0, 0, Nat.zero_le _, Nat.zero_le _, (h.2 c40).2⟩⟩⟩⟩
theorem vX6_tooMany_83 {mc ms : Nat} {X : Nat → zV} {Q : zQt} {M : zM} {g : Nat} {s0 : Int32} (hW : zWd M g)  (h : narrow .boolean (.int s0) = .int s0 ∧ Q (some (.int s0)) M) : aX6_tooMany_83 mc ms X Q 0 0 [none, none, none, none, none, none] [.int s0] M := h
theorem vkX6_tooMany_13 {mc ms : Nat} {X : Nat → zV} {Q : zQt} {M : zM} {g : Nat} {x2 : Int32} {s0 : Int32} {s1 : Int32} (hW : zWd M g)  (h : vp_in ((x2 + (5 : Int32))) 13 ∧ wJ13_bitCount_95d88 0 0 [.long ((M : zM).2.1 ((g + 3)) ((x2 + (5 : Int32)) : Int32).toNatClampNeg)] M (fun r M1 => kX6_tooMany_27 mc ms X Q 0 0 [some (.ref 27), some (.ref (g + 1)), some (.int x2), some (.int (s1 - s0)), none, none] (r.toList ++ [.int 0]) M1)) : kX6_tooMany_13 mc ms X Q 0 0 [some (.ref 27), some (.ref (g + 1)), some (.int x2), none, none, none] [.int s0, .int s1] M := ⟨(fgs_1 hW), (g + 3), (fgr_1_2 hW), ⟨13, (fgs_3 hW), h.1, ⟨Nat.le_of_ble_eq_true rfl, rfl, 0, 0, Nat.zero_le _, Nat.zero_le _, h.2⟩⟩⟩
theorem vcX6_tooMany_34 {mc ms : Nat} {X : Nat → zV} {Q : zQt} {M : zM} {g : Nat} {x2 : Int32} {x3 : Int32} {x4 : Int32} (hW : zWd M g)  (h : X 37 0 0 [.ref (g + 1), .int x2, .int x3, .int x4, .int 2] [] M) : kX6_tooMany_34 mc ms X Q 0 0 [some (.ref 27), some (.ref (g + 1)), some (.int x2), some (.int x3), some (.int x4), none] [] M := h
theorem vkX6_tooMany_27 {mc ms : Nat} {X : Nat → zV} {Q : zQt} {M : zM} {g : Nat} {x2 : Int32} {x3 : Int32} {s0 : Int32} {s1 : Int32} (hW : zWd M g)  (h : ∀ y32 : Int32, y32 = (if s1 < (s0 - (1 : Int32)) then (s0 - (1 : Int32)) else s1) → X 37 0 0 [.ref (g + 1), .int x2, .int x3, .int y32, .int 2] [] M) : kX6_tooMany_27 mc ms X Q 0 0 [some (.ref 27), some (.ref (g + 1)), some (.int x2), some (.int x3), none, none] [.int s0, .int s1] M := ⟨Nat.le_of_ble_eq_true rfl, (fun y32 e32 => have h32 := h y32 e32; (vcX6_tooMany_34 hW  h32))⟩
theorem vcX6_tooMany_66 {mc ms : Nat} {X : Nat → zV} {Q : zQt} {M : zM} {g : Nat} {x2 : Int32} {x3 : Int32} {x4 : Int32} {x5 : Int32} (hW : zWd M g)  (h : X 37 0 0 [.ref (g + 1), .int x2, .int x3, .int x4, .int (x5 + 1)] [] M) : kX6_tooMany_66 mc ms X Q 0 0 [none, some (.ref (g + 1)), some (.int x2), some (.int x3), some (.int x4), some (.int x5)] [] M := h
theorem vkX6_tooMany_58 {mc ms : Nat} {X : Nat → zV} {Q : zQt} {M : zM} {g : Nat} {x2 : Int32} {x3 : Int32} {x4 : Int32} {x5 : Int32} {s0 : Int32} {s1 : Int32} {s2 : Int32} (hW : zWd M g)  (h : ∀ y64 : Int32, y64 = (s2 + (if s1 < (s0 - (2 : Int32)) then (s0 - (2 : Int32)) else s1)) → X 37 0 0 [.ref (g + 1), .int x2, .int x3, .int y64, .int (x5 + 1)] [] M) : kX6_tooMany_58 mc ms X Q 0 0 [none, some (.ref (g + 1)), some (.int x2), some (.int x3), some (.int x4), some (.int x5)] [.int s0, .int s1, .int s2] M := ⟨Nat.le_of_ble_eq_true rfl, (fun y64 e64 => have h64 := h y64 e64; (vcX6_tooMany_66 hW  h64))⟩
theorem dX6_rightsStand_0 : decode cX6_rightsStand 0 = .ok (.iconst 0, 1) := by decide +kernel
theorem dX6_rightsStand_1 : decode cX6_rightsStand 1 = .ok (.istore_n 2, 1) := by decide +kernel
theorem dX6_rightsStand_2 : decode cX6_rightsStand 2 = .ok (.iload_n 2, 1) := by decide +kernel
theorem dX6_rightsStand_3 : decode cX6_rightsStand 3 = .ok (.iconst 4, 1) := by decide +kernel
theorem dX6_rightsStand_4 : decode cX6_rightsStand 4 = .ok (.if_icmp .ge 100, 3) := by decide +kernel
theorem dX6_rightsStand_7 : decode cX6_rightsStand 7 = .ok (.iload_n 2, 1) := by decide +kernel
theorem dX6_rightsStand_8 : decode cX6_rightsStand 8 = .ok (.iconst 2, 1) := by decide +kernel
theorem dX6_rightsStand_9 : decode cX6_rightsStand 9 = .ok (.idiv, 1) := by decide +kernel
theorem dX6_rightsStand_10 : decode cX6_rightsStand 10 = .ok (.bipush 6, 2) := by decide +kernel
theorem dX6_rightsStand_12 : decode cX6_rightsStand 12 = .ok (.imul, 1) := by decide +kernel
theorem dX6_rightsStand_13 : decode cX6_rightsStand 13 = .ok (.istore_n 3, 1) := by decide +kernel
theorem dX6_rightsStand_14 : decode cX6_rightsStand 14 = .ok (.iload_n 2, 1) := by decide +kernel
theorem dX6_rightsStand_15 : decode cX6_rightsStand 15 = .ok (.iconst 2, 1) := by decide +kernel
theorem dX6_rightsStand_16 : decode cX6_rightsStand 16 = .ok (.if_icmp .ge 7, 3) := by decide +kernel
theorem dX6_rightsStand_19 : decode cX6_rightsStand 19 = .ok (.iconst 4, 1) := by decide +kernel
theorem dX6_rightsStand_20 : decode cX6_rightsStand 20 = .ok (.goto 5, 3) := by decide +kernel
theorem dX6_rightsStand_23 : decode cX6_rightsStand 23 = .ok (.bipush 60, 2) := by decide +kernel
theorem dX6_rightsStand_25 : decode cX6_rightsStand 25 = .ok (.istore 4, 2) := by decide +kernel
theorem dX6_rightsStand_27 : decode cX6_rightsStand 27 = .ok (.iload_n 2, 1) := by decide +kernel
theorem dX6_rightsStand_28 : decode cX6_rightsStand 28 = .ok (.iconst 2, 1) := by decide +kernel
theorem dX6_rightsStand_29 : decode cX6_rightsStand 29 = .ok (.irem, 1) := by decide +kernel
theorem dX6_rightsStand_30 : decode cX6_rightsStand 30 = .ok (.ifCond .ne 10, 3) := by decide +kernel
theorem dX6_rightsStand_33 : decode cX6_rightsStand 33 = .ok (.iload 4, 2) := by decide +kernel
theorem dX6_rightsStand_35 : decode cX6_rightsStand 35 = .ok (.iconst 3, 1) := by decide +kernel
theorem dX6_rightsStand_36 : decode cX6_rightsStand 36 = .ok (.iadd, 1) := by decide +kernel
theorem dX6_rightsStand_37 : decode cX6_rightsStand 37 = .ok (.goto 7, 3) := by decide +kernel
theorem dX6_rightsStand_40 : decode cX6_rightsStand 40 = .ok (.iload 4, 2) := by decide +kernel
theorem dX6_rightsStand_42 : decode cX6_rightsStand 42 = .ok (.iconst 4, 1) := by decide +kernel
theorem dX6_rightsStand_43 : decode cX6_rightsStand 43 = .ok (.isub, 1) := by decide +kernel
theorem dX6_rightsStand_44 : decode cX6_rightsStand 44 = .ok (.istore 5, 2) := by decide +kernel
theorem dX6_rightsStand_46 : decode cX6_rightsStand 46 = .ok (.aload_n 1, 1) := by decide +kernel
theorem dX6_rightsStand_47 : decode cX6_rightsStand 47 = .ok (.getfield 141, 3) := by decide +kernel
theorem dX6_rightsStand_50 : decode cX6_rightsStand 50 = .ok (.iload 4, 2) := by decide +kernel
theorem dX6_rightsStand_52 : decode cX6_rightsStand 52 = .ok (.iaload, 1) := by decide +kernel
theorem dX6_rightsStand_53 : decode cX6_rightsStand 53 = .ok (.bipush 6, 2) := by decide +kernel
theorem dX6_rightsStand_55 : decode cX6_rightsStand 55 = .ok (.iload_n 3, 1) := by decide +kernel
theorem dX6_rightsStand_56 : decode cX6_rightsStand 56 = .ok (.iadd, 1) := by decide +kernel
theorem dX6_rightsStand_57 : decode cX6_rightsStand 57 = .ok (.if_icmp .ne 20, 3) := by decide +kernel
theorem dX6_rightsStand_60 : decode cX6_rightsStand 60 = .ok (.aload_n 1, 1) := by decide +kernel
theorem dX6_rightsStand_61 : decode cX6_rightsStand 61 = .ok (.getfield 141, 3) := by decide +kernel
theorem dX6_rightsStand_64 : decode cX6_rightsStand 64 = .ok (.iload 5, 2) := by decide +kernel
theorem dX6_rightsStand_66 : decode cX6_rightsStand 66 = .ok (.iaload, 1) := by decide +kernel
theorem dX6_rightsStand_67 : decode cX6_rightsStand 67 = .ok (.iconst 4, 1) := by decide +kernel
theorem dX6_rightsStand_68 : decode cX6_rightsStand 68 = .ok (.iload_n 3, 1) := by decide +kernel
theorem dX6_rightsStand_69 : decode cX6_rightsStand 69 = .ok (.iadd, 1) := by decide +kernel
theorem dX6_rightsStand_70 : decode cX6_rightsStand 70 = .ok (.if_icmp .ne 7, 3) := by decide +kernel
theorem dX6_rightsStand_73 : decode cX6_rightsStand 73 = .ok (.iconst 1, 1) := by decide +kernel
theorem dX6_rightsStand_74 : decode cX6_rightsStand 74 = .ok (.goto 4, 3) := by decide +kernel
theorem dX6_rightsStand_77 : decode cX6_rightsStand 77 = .ok (.iconst 0, 1) := by decide +kernel
theorem dX6_rightsStand_78 : decode cX6_rightsStand 78 = .ok (.istore 6, 2) := by decide +kernel
theorem dX6_rightsStand_80 : decode cX6_rightsStand 80 = .ok (.aload_n 1, 1) := by decide +kernel
theorem dX6_rightsStand_81 : decode cX6_rightsStand 81 = .ok (.getfield 97, 3) := by decide +kernel
theorem dX6_rightsStand_84 : decode cX6_rightsStand 84 = .ok (.iload_n 2, 1) := by decide +kernel
theorem dX6_rightsStand_85 : decode cX6_rightsStand 85 = .ok (.ishr, 1) := by decide +kernel
theorem dX6_rightsStand_86 : decode cX6_rightsStand 86 = .ok (.iconst 1, 1) := by decide +kernel
theorem dX6_rightsStand_87 : decode cX6_rightsStand 87 = .ok (.iand, 1) := by decide +kernel
theorem dX6_rightsStand_88 : decode cX6_rightsStand 88 = .ok (.ifCond .eq 10, 3) := by decide +kernel
theorem dX6_rightsStand_91 : decode cX6_rightsStand 91 = .ok (.iload 6, 2) := by decide +kernel
theorem dX6_rightsStand_93 : decode cX6_rightsStand 93 = .ok (.ifCond .ne 5, 3) := by decide +kernel
theorem dX6_rightsStand_96 : decode cX6_rightsStand 96 = .ok (.iconst 0, 1) := by decide +kernel
theorem dX6_rightsStand_97 : decode cX6_rightsStand 97 = .ok (.ireturn, 1) := by decide +kernel
theorem dX6_rightsStand_98 : decode cX6_rightsStand 98 = .ok (.iinc 2 1, 3) := by decide +kernel
theorem dX6_rightsStand_101 : decode cX6_rightsStand 101 = .ok (.goto (-99), 3) := by decide +kernel
theorem dX6_rightsStand_104 : decode cX6_rightsStand 104 = .ok (.iconst 1, 1) := by decide +kernel
theorem dX6_rightsStand_105 : decode cX6_rightsStand 105 = .ok (.ireturn, 1) := by decide +kernel
def kX6_rightsStand_14 (mc ms : Nat) (X : Nat → zV) (Q : zQt) : zT :=
  zli 2 <| zc (.int 2) <| zic (fun x y => y ≤ x) (zc (.int 60) <| zj X 25 [1, 2, 3]) <| zc (.int 4) <| zj X 25 [1, 2, 3]
def aX6_rightsStand_0 (mc ms : Nat) (X : Nat → zV) (Q : zQt) : zT :=
  zc (.int 0) <| zsi 2 <| zj X 2 [1, 2]
def aX6_rightsStand_2 (mc ms : Nat) (X : Nat → zV) (Q : zQt) : zT :=
  zli 2 <| zc (.int 4) <| zic (fun x y => y ≤ x) (zc (.int 1) <| zrz .boolean Q) <| zli 2 <| zc (.int 2) <| zid (fun x y => x / y) <| zc (.int 6) <| zii (fun x y => x * y) <| zsiN 3 <| kX6_rightsStand_14 mc ms X Q
def aX6_rightsStand_25 (mc ms : Nat) (X : Nat → zV) (Q : zQt) : zT :=
  zsi 4 <| zli 2 <| zc (.int 2) <| zid (fun x y => x - x / y * y) <| zif (fun x => x = 0) (zli 4 <| zc (.int 3) <| zii (fun x y => x + y) <| zj X 44 [1, 2, 3, 4]) <| zli 4 <| zc (.int 4) <| zii (fun x y => x - y) <| zj X 44 [1, 2, 3, 4]
def aX6_rightsStand_44 (mc ms : Nat) (X : Nat → zV) (Q : zQt) : zT :=
  zsi 5 <| zla 1 <| zgR 0 1 <| zli 4 <| zal 1 <| zc (.int 6) <| zli 3 <| zii (fun x y => x + y) <| zic (fun x y => x = y) (zla 1 <| zgR 0 1 <| zli 5 <| zal 1 <| zc (.int 4) <| zli 3 <| zii (fun x y => x + y) <| zic (fun x y => x = y) (zc (.int 1) <| zj X 78 [1, 2]) <| zj X 77 [1, 2]) <| zj X 77 [1, 2]
def aX6_rightsStand_77 (mc ms : Nat) (X : Nat → zV) (Q : zQt) : zT :=
  zc (.int 0) <| zj X 78 [1, 2]
def aX6_rightsStand_78 (mc ms : Nat) (X : Nat → zV) (Q : zQt) : zT :=
  zsi 6 <| zla 1 <| zgi 0 5 <| zli 2 <| zii (fun x y => x >>> (y &&& 31)) <| zc (.int 1) <| zii (fun x y => x &&& y) <| zif (fun x => x = 0) (zj X 98 [1, 2]) <| zli 6 <| zif (fun x => x = 0) (zc (.int 0) <| zrz .boolean Q) <| zj X 98 [1, 2]
def aX6_rightsStand_98 (mc ms : Nat) (X : Nat → zV) (Q : zQt) : zT :=
  zinc 2 1 <| zj X 2 [1, 2]
def lvX6_rightsStand : Nat → List Nat := fun L => match L with
  | 0 => [0, 1]
  | 2 => [1, 2]
  | 25 => [1, 2, 3]
  | 44 => [1, 2, 3, 4]
  | 77 => [1, 2]
  | 78 => [1, 2]
  | 98 => [1, 2]
  | _ => []
def wX6_rightsStand : zSp := fun mc ms av M Q => ((zlay av).length ≤ 7 ∧ zpick (zlay av) [0, 1] = some av) ∧ ∀ X : Nat → zV, zin 7 [0, 1] (aX6_rightsStand_0 mc ms X Q) X 0 → zin 7 [1, 2] (aX6_rightsStand_2 mc ms X Q) X 2 → zin 7 [1, 2, 3] (aX6_rightsStand_25 mc ms X Q) X 25 → zin 7 [1, 2, 3, 4] (aX6_rightsStand_44 mc ms X Q) X 44 → zin 7 [1, 2] (aX6_rightsStand_77 mc ms X Q) X 77 → zin 7 [1, 2] (aX6_rightsStand_78 mc ms X Q) X 78 → zin 7 [1, 2] (aX6_rightsStand_98 mc ms X Q) X 98 → X 0 0 0 av [] M
set_option maxRecDepth 100000 in
set_option maxHeartbeats 4000000 in
theorem sX6_rightsStand (l : Launch) (G : zG) : zSnd l G yX6_rightsStand cX6_rightsStand 7 (some .boolean) 0 0 wX6_rightsStand := by
  refine zmk [0, 1] (by decide) (fun mc ms av M Q h => h.1) ?_
  intro p e R s m args below meth c mc ms av M Q hC hRf hRl hr hnm h lv hlv
  obtain ⟨X, hXe⟩ : ∃ X : Nat → zV, X = fun L u v vs st M => ∀ lv, zpick lv (lvX6_rightsStand L) = some vs → zAt p l e R s m args below meth c (MQ below (zQ G Q) args s mc ms (zA G)) G 7 L u v lv st M := ⟨_, rfl⟩
  have hJ : ∀ L, zOk p l e R s m args below meth c (MQ below (zQ G Q) args s mc ms (zA G)) G 7 L (zj X L (lvX6_rightsStand L)) := fun L => S_jump (fun u v lv vs st M hp hx => by rw [hXe] at hx; exact hx lv hp)
  have hB0 : zin 7 [0, 1] (aX6_rightsStand_0 mc ms X Q) X 0 := by
    intro u v vs st M hb
    rw [hXe]
    refine fun lv hp => S_block (L := 0) (live := [0, 1]) ?_ u v lv vs st M hp hb
    unfold aX6_rightsStand_0
    refine S_iconst (pc := 0) hC dX6_rightsStand_0 (by decide) ?_
    refine S_istore_n (pc := 1) hC dX6_rightsStand_1 rfl (by decide) ?_
    exact hJ 2
  have hB2 : zin 7 [1, 2] (aX6_rightsStand_2 mc ms X Q) X 2 := by
    intro u v vs st M hb
    rw [hXe]
    refine fun lv hp => S_block (L := 2) (live := [1, 2]) ?_ u v lv vs st M hp hb
    unfold aX6_rightsStand_2
    refine S_iload_n (pc := 2) hC dX6_rightsStand_2 rfl ?_
    refine S_iconst (pc := 3) hC dX6_rightsStand_3 (by decide) ?_
    refine S_icmp_ge (pc := 4) (tgt := 104) hC dX6_rightsStand_4 (by decide) ?_ ?_
    · refine S_iconst (pc := 104) hC dX6_rightsStand_104 (by decide) ?_
      exact S_zreturn (pc := 105) hC hr dX6_rightsStand_105
    · refine S_iload_n (pc := 7) hC dX6_rightsStand_7 rfl ?_
      refine S_iconst (pc := 8) hC dX6_rightsStand_8 (by decide) ?_
      refine S_idiv (pc := 9) hC dX6_rightsStand_9 ?_
      refine S_bipush (pc := 10) hC dX6_rightsStand_10 (by decide) ?_
      refine S_imul (pc := 12) hC dX6_rightsStand_12 ?_
      refine S_istore_n_N (pc := 13) hC dX6_rightsStand_13 rfl (by decide) ?_
      unfold kX6_rightsStand_14
      refine S_iload_n (pc := 14) hC dX6_rightsStand_14 rfl ?_
      refine S_iconst (pc := 15) hC dX6_rightsStand_15 (by decide) ?_
      refine S_icmp_ge (pc := 16) (tgt := 23) hC dX6_rightsStand_16 (by decide) ?_ ?_
      · refine S_bipush (pc := 23) hC dX6_rightsStand_23 (by decide) ?_
        exact hJ 25
      · refine S_iconst (pc := 19) hC dX6_rightsStand_19 (by decide) ?_
        refine S_goto (pc := 20) (tgt := 25) hC dX6_rightsStand_20 (by decide) ?_
        exact hJ 25
  have hB25 : zin 7 [1, 2, 3] (aX6_rightsStand_25 mc ms X Q) X 25 := by
    intro u v vs st M hb
    rw [hXe]
    refine fun lv hp => S_block (L := 25) (live := [1, 2, 3]) ?_ u v lv vs st M hp hb
    unfold aX6_rightsStand_25
    refine S_istore (pc := 25) hC dX6_rightsStand_25 (by decide) ?_
    refine S_iload_n (pc := 27) hC dX6_rightsStand_27 rfl ?_
    refine S_iconst (pc := 28) hC dX6_rightsStand_28 (by decide) ?_
    refine S_irem (pc := 29) hC dX6_rightsStand_29 ?_
    refine S_if_ne (pc := 30) (tgt := 40) hC dX6_rightsStand_30 (by decide) ?_ ?_
    · refine S_iload (pc := 40) hC dX6_rightsStand_40 ?_
      refine S_iconst (pc := 42) hC dX6_rightsStand_42 (by decide) ?_
      refine S_isub (pc := 43) hC dX6_rightsStand_43 ?_
      exact hJ 44
    · refine S_iload (pc := 33) hC dX6_rightsStand_33 ?_
      refine S_iconst (pc := 35) hC dX6_rightsStand_35 (by decide) ?_
      refine S_iadd (pc := 36) hC dX6_rightsStand_36 ?_
      refine S_goto (pc := 37) (tgt := 44) hC dX6_rightsStand_37 (by decide) ?_
      exact hJ 44
  have hB44 : zin 7 [1, 2, 3, 4] (aX6_rightsStand_44 mc ms X Q) X 44 := by
    intro u v vs st M hb
    rw [hXe]
    refine fun lv hp => S_block (L := 44) (live := [1, 2, 3, 4]) ?_ u v lv vs st M hp hb
    unfold aX6_rightsStand_44
    refine S_istore (pc := 44) hC dX6_rightsStand_44 (by decide) ?_
    refine S_aload_n (pc := 46) hC dX6_rightsStand_46 rfl ?_
    refine S_getR (pc := 47) hC cfX0 (by decide) (Or.inr ⟨_, rfl⟩) wd_219 dX6_rightsStand_47 ?_
    refine S_iload (pc := 50) hC dX6_rightsStand_50 ?_
    refine S_iaload (pc := 52) hC dX6_rightsStand_52 ?_
    refine S_bipush (pc := 53) hC dX6_rightsStand_53 (by decide) ?_
    refine S_iload_n (pc := 55) hC dX6_rightsStand_55 rfl ?_
    refine S_iadd (pc := 56) hC dX6_rightsStand_56 ?_
    refine S_icmp_ne (pc := 57) (tgt := 77) hC dX6_rightsStand_57 (by decide) ?_ ?_
    · exact hJ 77
    · refine S_aload_n (pc := 60) hC dX6_rightsStand_60 rfl ?_
      refine S_getR (pc := 61) hC cfX0 (by decide) (Or.inr ⟨_, rfl⟩) wd_219 dX6_rightsStand_61 ?_
      refine S_iload (pc := 64) hC dX6_rightsStand_64 ?_
      refine S_iaload (pc := 66) hC dX6_rightsStand_66 ?_
      refine S_iconst (pc := 67) hC dX6_rightsStand_67 (by decide) ?_
      refine S_iload_n (pc := 68) hC dX6_rightsStand_68 rfl ?_
      refine S_iadd (pc := 69) hC dX6_rightsStand_69 ?_
      refine S_icmp_ne (pc := 70) (tgt := 77) hC dX6_rightsStand_70 (by decide) ?_ ?_
      · exact hJ 77
      · refine S_iconst (pc := 73) hC dX6_rightsStand_73 (by decide) ?_
        refine S_goto (pc := 74) (tgt := 78) hC dX6_rightsStand_74 (by decide) ?_
        exact hJ 78
  have hB77 : zin 7 [1, 2] (aX6_rightsStand_77 mc ms X Q) X 77 := by
    intro u v vs st M hb
    rw [hXe]
    refine fun lv hp => S_block (L := 77) (live := [1, 2]) ?_ u v lv vs st M hp hb
    unfold aX6_rightsStand_77
    refine S_iconst (pc := 77) hC dX6_rightsStand_77 (by decide) ?_
    exact hJ 78
  have hB78 : zin 7 [1, 2] (aX6_rightsStand_78 mc ms X Q) X 78 := by
    intro u v vs st M hb
    rw [hXe]
    refine fun lv hp => S_block (L := 78) (live := [1, 2]) ?_ u v lv vs st M hp hb
    unfold aX6_rightsStand_78
    refine S_istore (pc := 78) hC dX6_rightsStand_78 (by decide) ?_
    refine S_aload_n (pc := 80) hC dX6_rightsStand_80 rfl ?_
    refine S_geti (pc := 81) hC cfX0 (by decide) (Or.inl rfl) wd_242 dX6_rightsStand_81 ?_
    refine S_iload_n (pc := 84) hC dX6_rightsStand_84 rfl ?_
    refine S_ishr (pc := 85) hC dX6_rightsStand_85 ?_
    refine S_iconst (pc := 86) hC dX6_rightsStand_86 (by decide) ?_
    refine S_iand (pc := 87) hC dX6_rightsStand_87 ?_
    refine S_if_eq (pc := 88) (tgt := 98) hC dX6_rightsStand_88 (by decide) ?_ ?_
    · exact hJ 98
    · refine S_iload (pc := 91) hC dX6_rightsStand_91 ?_
      refine S_if_ne (pc := 93) (tgt := 98) hC dX6_rightsStand_93 (by decide) ?_ ?_
      · exact hJ 98
      · refine S_iconst (pc := 96) hC dX6_rightsStand_96 (by decide) ?_
        exact S_zreturn (pc := 97) hC hr dX6_rightsStand_97
  have hB98 : zin 7 [1, 2] (aX6_rightsStand_98 mc ms X Q) X 98 := by
    intro u v vs st M hb
    rw [hXe]
    refine fun lv hp => S_block (L := 98) (live := [1, 2]) ?_ u v lv vs st M hp hb
    unfold aX6_rightsStand_98
    refine S_iinc (pc := 98) hC dX6_rightsStand_98 (by decide) (by decide) ?_
    refine S_goto (pc := 101) (tgt := 2) hC dX6_rightsStand_101 (by decide) ?_
    exact hJ 2
  have := h.2 X hB0 hB2 hB25 hB44 hB77 hB78 hB98
  rw [hXe] at this
  exact this lv hlv
theorem vX6_rightsStand_0 {mc ms : Nat} {X : Nat → zV} {Q : zQt} {M : zM} {g : Nat}  (hW : zWd M g)  (h : X 2 0 0 [.ref (g + 1), .int 0] [] M) : aX6_rightsStand_0 mc ms X Q 0 0 [some (.ref 27), some (.ref (g + 1)), none, none, none, none, none] [] M := h
theorem vcX6_rightsStand_14 {mc ms : Nat} {X : Nat → zV} {Q : zQt} {M : zM} {g : Nat} {x2 : Int32} {x3 : Int32} (hW : zWd M g)  (h : ((2 : Int32) ≤ x2 → X 25 0 0 [.ref (g + 1), .int x2, .int x3] [.int 60] M) ∧ (¬ (2 : Int32) ≤ x2 → X 25 0 0 [.ref (g + 1), .int x2, .int x3] [.int 4] M)) : kX6_rightsStand_14 mc ms X Q 0 0 [none, some (.ref (g + 1)), some (.int x2), some (.int x3), none, none, none] [] M := ⟨fun c16 => (h.1 c16), fun c16 => (h.2 c16)⟩
theorem vX6_rightsStand_2 {mc ms : Nat} {X : Nat → zV} {Q : zQt} {M : zM} {g : Nat} {x2 : Int32} (hW : zWd M g)  (h : ((4 : Int32) ≤ x2 → Q (some (.int 1)) M) ∧ (¬ (4 : Int32) ≤ x2 → ∀ y13 : Int32, y13 = ((x2 / (2 : Int32)) * (6 : Int32)) → ((2 : Int32) ≤ x2 → X 25 0 0 [.ref (g + 1), .int x2, .int y13] [.int 60] M) ∧ (¬ (2 : Int32) ≤ x2 → X 25 0 0 [.ref (g + 1), .int x2, .int y13] [.int 4] M))) : aX6_rightsStand_2 mc ms X Q 0 0 [none, some (.ref (g + 1)), some (.int x2), none, none, none, none] [] M := ⟨fun c4 => ⟨rfl, (h.1 c4)⟩, fun c4 => ⟨by decide, (fun y13 e13 => have h13 := (h.2 c4) y13 e13; (vcX6_rightsStand_14 hW  h13))⟩⟩
theorem vX6_rightsStand_25 {mc ms : Nat} {X : Nat → zV} {Q : zQt} {M : zM} {g : Nat} {x2 : Int32} {x3 : Int32} {s0 : Int32} (hW : zWd M g)  (h : ((x2 - x2 / (2 : Int32) * (2 : Int32)) = 0 → X 44 0 0 [.ref (g + 1), .int x2, .int x3, .int s0] [.int (s0 + (3 : Int32))] M) ∧ (¬ (x2 - x2 / (2 : Int32) * (2 : Int32)) = 0 → X 44 0 0 [.ref (g + 1), .int x2, .int x3, .int s0] [.int (s0 - (4 : Int32))] M)) : aX6_rightsStand_25 mc ms X Q 0 0 [none, some (.ref (g + 1)), some (.int x2), some (.int x3), none, none, none] [.int s0] M := ⟨by decide, ⟨fun c30 => (h.1 c30), fun c30 => (h.2 c30)⟩⟩
theorem vX6_rightsStand_44 {mc ms : Nat} {X : Nat → zV} {Q : zQt} {M : zM} {g : Nat} {x2 : Int32} {x3 : Int32} {x4 : Int32} {s0 : Int32} (hW : zWd M g)  (h : vp_in x4 64 ∧ (((M : zM).1 ((g + 2)) (x4 : Int32).toNatClampNeg) = ((6 : Int32) + x3) → vp_in s0 64 ∧ (((M : zM).1 ((g + 2)) (s0 : Int32).toNatClampNeg) = ((4 : Int32) + x3) → X 78 0 0 [.ref (g + 1), .int x2] [.int 1] M) ∧ (¬ ((M : zM).1 ((g + 2)) (s0 : Int32).toNatClampNeg) = ((4 : Int32) + x3) → X 77 0 0 [.ref (g + 1), .int x2] [] M)) ∧ (¬ ((M : zM).1 ((g + 2)) (x4 : Int32).toNatClampNeg) = ((6 : Int32) + x3) → X 77 0 0 [.ref (g + 1), .int x2] [] M)) : aX6_rightsStand_44 mc ms X Q 0 0 [none, some (.ref (g + 1)), some (.int x2), some (.int x3), some (.int x4), none, none] [.int s0] M := ⟨(fgs_1 hW), (g + 2), (fgr_1_1 hW), ⟨64, (fgs_2 hW), h.1, ⟨fun c57 => ⟨(fgs_1 hW), (g + 2), (fgr_1_1 hW), ⟨64, (fgs_2 hW), (h.2.1 c57).1, ⟨fun c70 => ((h.2.1 c57).2.1 c70), fun c70 => ((h.2.1 c57).2.2 c70)⟩⟩⟩, fun c57 => (h.2.2 c57)⟩⟩⟩
theorem vX6_rightsStand_77 {mc ms : Nat} {X : Nat → zV} {Q : zQt} {M : zM} {g : Nat} {x2 : Int32} (hW : zWd M g)  (h : X 78 0 0 [.ref (g + 1), .int x2] [.int 0] M) : aX6_rightsStand_77 mc ms X Q 0 0 [none, some (.ref (g + 1)), some (.int x2), none, none, none, none] [] M := h
theorem vX6_rightsStand_78 {mc ms : Nat} {X : Nat → zV} {Q : zQt} {M : zM} {g : Nat} {x2 : Int32} {s0 : Int32} (hW : zWd M g)  (h : ((((M.1 ((g + 1)) 5) >>> (x2 &&& 31)) &&& (1 : Int32)) = 0 → X 98 0 0 [.ref (g + 1), .int x2] [] M) ∧ (¬ (((M.1 ((g + 1)) 5) >>> (x2 &&& 31)) &&& (1 : Int32)) = 0 → (s0 = 0 → Q (some (.int 0)) M) ∧ (¬ s0 = 0 → X 98 0 0 [.ref (g + 1), .int x2] [] M))) : aX6_rightsStand_78 mc ms X Q 0 0 [none, some (.ref (g + 1)), some (.int x2), none, none, none, none] [.int s0] M := ⟨(fgs_1 hW), ⟨fun c88 => (h.1 c88), fun c88 => ⟨fun c93 => ⟨rfl, ((h.2 c88).1 c93)⟩, fun c93 => ((h.2 c88).2 c93)⟩⟩⟩
theorem vX6_rightsStand_98 {mc ms : Nat} {X : Nat → zV} {Q : zQt} {M : zM} {g : Nat} {x2 : Int32} (hW : zWd M g)  (h : X 2 0 0 [.ref (g + 1), .int (x2 + 1)] [] M) : aX6_rightsStand_98 mc ms X Q 0 0 [none, some (.ref (g + 1)), some (.int x2), none, none, none, none] [] M := h
theorem dX6_passantStands_0 : decode cX6_passantStands 0 = .ok (.iconst 1, 1) := by decide +kernel
theorem dX6_passantStands_1 : decode cX6_passantStands 1 = .ok (.aload_n 1, 1) := by decide +kernel
theorem dX6_passantStands_2 : decode cX6_passantStands 2 = .ok (.getfield 88, 3) := by decide +kernel
theorem dX6_passantStands_5 : decode cX6_passantStands 5 = .ok (.isub, 1) := by decide +kernel
theorem dX6_passantStands_6 : decode cX6_passantStands 6 = .ok (.istore_n 2, 1) := by decide +kernel
theorem dX6_passantStands_7 : decode cX6_passantStands 7 = .ok (.iload_n 2, 1) := by decide +kernel
theorem dX6_passantStands_8 : decode cX6_passantStands 8 = .ok (.ifCond .ne 8, 3) := by decide +kernel
theorem dX6_passantStands_11 : decode cX6_passantStands 11 = .ok (.bipush 8, 2) := by decide +kernel
theorem dX6_passantStands_13 : decode cX6_passantStands 13 = .ok (.goto 5, 3) := by decide +kernel
theorem dX6_passantStands_16 : decode cX6_passantStands 16 = .ok (.bipush (-8), 2) := by decide +kernel
theorem dX6_passantStands_18 : decode cX6_passantStands 18 = .ok (.istore_n 3, 1) := by decide +kernel
theorem dX6_passantStands_19 : decode cX6_passantStands 19 = .ok (.iload_n 2, 1) := by decide +kernel
theorem dX6_passantStands_20 : decode cX6_passantStands 20 = .ok (.ifCond .ne 8, 3) := by decide +kernel
theorem dX6_passantStands_23 : decode cX6_passantStands 23 = .ok (.bipush 8, 2) := by decide +kernel
theorem dX6_passantStands_25 : decode cX6_passantStands 25 = .ok (.goto 5, 3) := by decide +kernel
theorem dX6_passantStands_28 : decode cX6_passantStands 28 = .ok (.bipush 48, 2) := by decide +kernel
theorem dX6_passantStands_30 : decode cX6_passantStands 30 = .ok (.aload_n 1, 1) := by decide +kernel
theorem dX6_passantStands_31 : decode cX6_passantStands 31 = .ok (.getfield 100, 3) := by decide +kernel
theorem dX6_passantStands_34 : decode cX6_passantStands 34 = .ok (.iadd, 1) := by decide +kernel
theorem dX6_passantStands_35 : decode cX6_passantStands 35 = .ok (.istore 4, 2) := by decide +kernel
theorem dX6_passantStands_37 : decode cX6_passantStands 37 = .ok (.aload_n 1, 1) := by decide +kernel
theorem dX6_passantStands_38 : decode cX6_passantStands 38 = .ok (.getfield 59, 3) := by decide +kernel
theorem dX6_passantStands_41 : decode cX6_passantStands 41 = .ok (.ifCond .ne 49, 3) := by decide +kernel
theorem dX6_passantStands_44 : decode cX6_passantStands 44 = .ok (.aload_n 1, 1) := by decide +kernel
theorem dX6_passantStands_45 : decode cX6_passantStands 45 = .ok (.getfield 141, 3) := by decide +kernel
theorem dX6_passantStands_48 : decode cX6_passantStands 48 = .ok (.iload 4, 2) := by decide +kernel
theorem dX6_passantStands_50 : decode cX6_passantStands 50 = .ok (.iaload, 1) := by decide +kernel
theorem dX6_passantStands_51 : decode cX6_passantStands 51 = .ok (.ifCond .ne 39, 3) := by decide +kernel
theorem dX6_passantStands_54 : decode cX6_passantStands 54 = .ok (.aload_n 1, 1) := by decide +kernel
theorem dX6_passantStands_55 : decode cX6_passantStands 55 = .ok (.getfield 141, 3) := by decide +kernel
theorem dX6_passantStands_58 : decode cX6_passantStands 58 = .ok (.iload 4, 2) := by decide +kernel
theorem dX6_passantStands_60 : decode cX6_passantStands 60 = .ok (.iload_n 3, 1) := by decide +kernel
theorem dX6_passantStands_61 : decode cX6_passantStands 61 = .ok (.iadd, 1) := by decide +kernel
theorem dX6_passantStands_62 : decode cX6_passantStands 62 = .ok (.iaload, 1) := by decide +kernel
theorem dX6_passantStands_63 : decode cX6_passantStands 63 = .ok (.ifCond .ne 27, 3) := by decide +kernel
theorem dX6_passantStands_66 : decode cX6_passantStands 66 = .ok (.aload_n 1, 1) := by decide +kernel
theorem dX6_passantStands_67 : decode cX6_passantStands 67 = .ok (.getfield 141, 3) := by decide +kernel
theorem dX6_passantStands_70 : decode cX6_passantStands 70 = .ok (.iload 4, 2) := by decide +kernel
theorem dX6_passantStands_72 : decode cX6_passantStands 72 = .ok (.iconst 2, 1) := by decide +kernel
theorem dX6_passantStands_73 : decode cX6_passantStands 73 = .ok (.iload_n 3, 1) := by decide +kernel
theorem dX6_passantStands_74 : decode cX6_passantStands 74 = .ok (.imul, 1) := by decide +kernel
theorem dX6_passantStands_75 : decode cX6_passantStands 75 = .ok (.iadd, 1) := by decide +kernel
theorem dX6_passantStands_76 : decode cX6_passantStands 76 = .ok (.iaload, 1) := by decide +kernel
theorem dX6_passantStands_77 : decode cX6_passantStands 77 = .ok (.iconst 1, 1) := by decide +kernel
theorem dX6_passantStands_78 : decode cX6_passantStands 78 = .ok (.bipush 6, 2) := by decide +kernel
theorem dX6_passantStands_80 : decode cX6_passantStands 80 = .ok (.iload_n 2, 1) := by decide +kernel
theorem dX6_passantStands_81 : decode cX6_passantStands 81 = .ok (.imul, 1) := by decide +kernel
theorem dX6_passantStands_82 : decode cX6_passantStands 82 = .ok (.iadd, 1) := by decide +kernel
theorem dX6_passantStands_83 : decode cX6_passantStands 83 = .ok (.if_icmp .ne 7, 3) := by decide +kernel
theorem dX6_passantStands_86 : decode cX6_passantStands 86 = .ok (.iconst 1, 1) := by decide +kernel
theorem dX6_passantStands_87 : decode cX6_passantStands 87 = .ok (.goto 4, 3) := by decide +kernel
theorem dX6_passantStands_90 : decode cX6_passantStands 90 = .ok (.iconst 0, 1) := by decide +kernel
theorem dX6_passantStands_91 : decode cX6_passantStands 91 = .ok (.ireturn, 1) := by decide +kernel
def kX6_passantStands_7 (mc ms : Nat) (X : Nat → zV) (Q : zQt) : zT :=
  zli 2 <| zif (fun x => x = 0) (zc (.int 8) <| zj X 18 [1, 2]) <| zc (.int (-8)) <| zj X 18 [1, 2]
def aX6_passantStands_0 (mc ms : Nat) (X : Nat → zV) (Q : zQt) : zT :=
  zc (.int 1) <| zla 1 <| zgi 0 4 <| zii (fun x y => x - y) <| zsiN 2 <| kX6_passantStands_7 mc ms X Q
def aX6_passantStands_18 (mc ms : Nat) (X : Nat → zV) (Q : zQt) : zT :=
  zsi 3 <| zli 2 <| zif (fun x => x = 0) (zc (.int 8) <| zj X 30 [1, 2, 3]) <| zc (.int 48) <| zj X 30 [1, 2, 3]
def aX6_passantStands_30 (mc ms : Nat) (X : Nat → zV) (Q : zQt) : zT :=
  zla 1 <| zgi 0 6 <| zii (fun x y => x + y) <| zsi 4 <| zla 1 <| zgi 0 7 <| zif (fun x => x = 0) (zla 1 <| zgR 0 1 <| zli 4 <| zal 1 <| zif (fun x => x = 0) (zla 1 <| zgR 0 1 <| zli 4 <| zli 3 <| zii (fun x y => x + y) <| zal 1 <| zif (fun x => x = 0) (zla 1 <| zgR 0 1 <| zli 4 <| zc (.int 2) <| zli 3 <| zii (fun x y => x * y) <| zii (fun x y => x + y) <| zal 1 <| zc (.int 1) <| zc (.int 6) <| zli 2 <| zii (fun x y => x * y) <| zii (fun x y => x + y) <| zic (fun x y => x = y) (zc (.int 1) <| zj X 91 []) <| zj X 90 []) <| zj X 90 []) <| zj X 90 []) <| zj X 90 []
def aX6_passantStands_90 (mc ms : Nat) (X : Nat → zV) (Q : zQt) : zT :=
  zc (.int 0) <| zj X 91 []
def aX6_passantStands_91 (mc ms : Nat) (X : Nat → zV) (Q : zQt) : zT :=
  zrz .boolean Q
def lvX6_passantStands : Nat → List Nat := fun L => match L with
  | 0 => [0, 1]
  | 18 => [1, 2]
  | 30 => [1, 2, 3]
  | 90 => []
  | 91 => []
  | _ => []
def wX6_passantStands : zSp := fun mc ms av M Q => ((zlay av).length ≤ 5 ∧ zpick (zlay av) [0, 1] = some av) ∧ ∀ X : Nat → zV, zin 5 [0, 1] (aX6_passantStands_0 mc ms X Q) X 0 → zin 5 [1, 2] (aX6_passantStands_18 mc ms X Q) X 18 → zin 5 [1, 2, 3] (aX6_passantStands_30 mc ms X Q) X 30 → zin 5 [] (aX6_passantStands_90 mc ms X Q) X 90 → zin 5 [] (aX6_passantStands_91 mc ms X Q) X 91 → X 0 0 0 av [] M
set_option maxRecDepth 100000 in
set_option maxHeartbeats 4000000 in
theorem sX6_passantStands (l : Launch) (G : zG) : zSnd l G yX6_passantStands cX6_passantStands 5 (some .boolean) 0 0 wX6_passantStands := by
  refine zmk [0, 1] (by decide) (fun mc ms av M Q h => h.1) ?_
  intro p e R s m args below meth c mc ms av M Q hC hRf hRl hr hnm h lv hlv
  obtain ⟨X, hXe⟩ : ∃ X : Nat → zV, X = fun L u v vs st M => ∀ lv, zpick lv (lvX6_passantStands L) = some vs → zAt p l e R s m args below meth c (MQ below (zQ G Q) args s mc ms (zA G)) G 5 L u v lv st M := ⟨_, rfl⟩
  have hJ : ∀ L, zOk p l e R s m args below meth c (MQ below (zQ G Q) args s mc ms (zA G)) G 5 L (zj X L (lvX6_passantStands L)) := fun L => S_jump (fun u v lv vs st M hp hx => by rw [hXe] at hx; exact hx lv hp)
  have hB0 : zin 5 [0, 1] (aX6_passantStands_0 mc ms X Q) X 0 := by
    intro u v vs st M hb
    rw [hXe]
    refine fun lv hp => S_block (L := 0) (live := [0, 1]) ?_ u v lv vs st M hp hb
    unfold aX6_passantStands_0
    refine S_iconst (pc := 0) hC dX6_passantStands_0 (by decide) ?_
    refine S_aload_n (pc := 1) hC dX6_passantStands_1 rfl ?_
    refine S_geti (pc := 2) hC cfX0 (by decide) (Or.inl rfl) wd_235 dX6_passantStands_2 ?_
    refine S_isub (pc := 5) hC dX6_passantStands_5 ?_
    refine S_istore_n_N (pc := 6) hC dX6_passantStands_6 rfl (by decide) ?_
    unfold kX6_passantStands_7
    refine S_iload_n (pc := 7) hC dX6_passantStands_7 rfl ?_
    refine S_if_ne (pc := 8) (tgt := 16) hC dX6_passantStands_8 (by decide) ?_ ?_
    · refine S_bipush (pc := 16) hC dX6_passantStands_16 (by decide) ?_
      exact hJ 18
    · refine S_bipush (pc := 11) hC dX6_passantStands_11 (by decide) ?_
      refine S_goto (pc := 13) (tgt := 18) hC dX6_passantStands_13 (by decide) ?_
      exact hJ 18
  have hB18 : zin 5 [1, 2] (aX6_passantStands_18 mc ms X Q) X 18 := by
    intro u v vs st M hb
    rw [hXe]
    refine fun lv hp => S_block (L := 18) (live := [1, 2]) ?_ u v lv vs st M hp hb
    unfold aX6_passantStands_18
    refine S_istore_n (pc := 18) hC dX6_passantStands_18 rfl (by decide) ?_
    refine S_iload_n (pc := 19) hC dX6_passantStands_19 rfl ?_
    refine S_if_ne (pc := 20) (tgt := 28) hC dX6_passantStands_20 (by decide) ?_ ?_
    · refine S_bipush (pc := 28) hC dX6_passantStands_28 (by decide) ?_
      exact hJ 30
    · refine S_bipush (pc := 23) hC dX6_passantStands_23 (by decide) ?_
      refine S_goto (pc := 25) (tgt := 30) hC dX6_passantStands_25 (by decide) ?_
      exact hJ 30
  have hB30 : zin 5 [1, 2, 3] (aX6_passantStands_30 mc ms X Q) X 30 := by
    intro u v vs st M hb
    rw [hXe]
    refine fun lv hp => S_block (L := 30) (live := [1, 2, 3]) ?_ u v lv vs st M hp hb
    unfold aX6_passantStands_30
    refine S_aload_n (pc := 30) hC dX6_passantStands_30 rfl ?_
    refine S_geti (pc := 31) hC cfX0 (by decide) (Or.inl rfl) wd_248 dX6_passantStands_31 ?_
    refine S_iadd (pc := 34) hC dX6_passantStands_34 ?_
    refine S_istore (pc := 35) hC dX6_passantStands_35 (by decide) ?_
    refine S_aload_n (pc := 37) hC dX6_passantStands_37 rfl ?_
    refine S_geti (pc := 38) hC cfX0 (by decide) (Or.inl rfl) wd_251 dX6_passantStands_38 ?_
    refine S_if_ne (pc := 41) (tgt := 90) hC dX6_passantStands_41 (by decide) ?_ ?_
    · exact hJ 90
    · refine S_aload_n (pc := 44) hC dX6_passantStands_44 rfl ?_
      refine S_getR (pc := 45) hC cfX0 (by decide) (Or.inr ⟨_, rfl⟩) wd_219 dX6_passantStands_45 ?_
      refine S_iload (pc := 48) hC dX6_passantStands_48 ?_
      refine S_iaload (pc := 50) hC dX6_passantStands_50 ?_
      refine S_if_ne (pc := 51) (tgt := 90) hC dX6_passantStands_51 (by decide) ?_ ?_
      · exact hJ 90
      · refine S_aload_n (pc := 54) hC dX6_passantStands_54 rfl ?_
        refine S_getR (pc := 55) hC cfX0 (by decide) (Or.inr ⟨_, rfl⟩) wd_219 dX6_passantStands_55 ?_
        refine S_iload (pc := 58) hC dX6_passantStands_58 ?_
        refine S_iload_n (pc := 60) hC dX6_passantStands_60 rfl ?_
        refine S_iadd (pc := 61) hC dX6_passantStands_61 ?_
        refine S_iaload (pc := 62) hC dX6_passantStands_62 ?_
        refine S_if_ne (pc := 63) (tgt := 90) hC dX6_passantStands_63 (by decide) ?_ ?_
        · exact hJ 90
        · refine S_aload_n (pc := 66) hC dX6_passantStands_66 rfl ?_
          refine S_getR (pc := 67) hC cfX0 (by decide) (Or.inr ⟨_, rfl⟩) wd_219 dX6_passantStands_67 ?_
          refine S_iload (pc := 70) hC dX6_passantStands_70 ?_
          refine S_iconst (pc := 72) hC dX6_passantStands_72 (by decide) ?_
          refine S_iload_n (pc := 73) hC dX6_passantStands_73 rfl ?_
          refine S_imul (pc := 74) hC dX6_passantStands_74 ?_
          refine S_iadd (pc := 75) hC dX6_passantStands_75 ?_
          refine S_iaload (pc := 76) hC dX6_passantStands_76 ?_
          refine S_iconst (pc := 77) hC dX6_passantStands_77 (by decide) ?_
          refine S_bipush (pc := 78) hC dX6_passantStands_78 (by decide) ?_
          refine S_iload_n (pc := 80) hC dX6_passantStands_80 rfl ?_
          refine S_imul (pc := 81) hC dX6_passantStands_81 ?_
          refine S_iadd (pc := 82) hC dX6_passantStands_82 ?_
          refine S_icmp_ne (pc := 83) (tgt := 90) hC dX6_passantStands_83 (by decide) ?_ ?_
          · exact hJ 90
          · refine S_iconst (pc := 86) hC dX6_passantStands_86 (by decide) ?_
            refine S_goto (pc := 87) (tgt := 91) hC dX6_passantStands_87 (by decide) ?_
            exact hJ 91
  have hB90 : zin 5 [] (aX6_passantStands_90 mc ms X Q) X 90 := by
    intro u v vs st M hb
    rw [hXe]
    refine fun lv hp => S_block (L := 90) (live := []) ?_ u v lv vs st M hp hb
    unfold aX6_passantStands_90
    refine S_iconst (pc := 90) hC dX6_passantStands_90 (by decide) ?_
    exact hJ 91
  have hB91 : zin 5 [] (aX6_passantStands_91 mc ms X Q) X 91 := by
    intro u v vs st M hb
    rw [hXe]
    refine fun lv hp => S_block (L := 91) (live := []) ?_ u v lv vs st M hp hb
    unfold aX6_passantStands_91
    exact S_zreturn (pc := 91) hC hr dX6_passantStands_91
  have := h.2 X hB0 hB18 hB30 hB90 hB91
  rw [hXe] at this
  exact this lv hlv
theorem vcX6_passantStands_7 {mc ms : Nat} {X : Nat → zV} {Q : zQt} {M : zM} {g : Nat} {x2 : Int32} (hW : zWd M g)  (h : (x2 = 0 → X 18 0 0 [.ref (g + 1), .int x2] [.int 8] M) ∧ (¬ x2 = 0 → X 18 0 0 [.ref (g + 1), .int x2] [.int (-8)] M)) : kX6_passantStands_7 mc ms X Q 0 0 [some (.ref 27), some (.ref (g + 1)), some (.int x2), none, none] [] M := ⟨fun c8 => (h.1 c8), fun c8 => (h.2 c8)⟩
theorem vX6_passantStands_0 {mc ms : Nat} {X : Nat → zV} {Q : zQt} {M : zM} {g : Nat}  (hW : zWd M g)  (h : ∀ y6 : Int32, y6 = ((1 : Int32) - (M.1 ((g + 1)) 4)) → (y6 = 0 → X 18 0 0 [.ref (g + 1), .int y6] [.int 8] M) ∧ (¬ y6 = 0 → X 18 0 0 [.ref (g + 1), .int y6] [.int (-8)] M)) : aX6_passantStands_0 mc ms X Q 0 0 [some (.ref 27), some (.ref (g + 1)), none, none, none] [] M := ⟨(fgs_1 hW), (fun y6 e6 => have h6 := h y6 e6; (vcX6_passantStands_7 hW  h6))⟩
theorem vX6_passantStands_18 {mc ms : Nat} {X : Nat → zV} {Q : zQt} {M : zM} {g : Nat} {x2 : Int32} {s0 : Int32} (hW : zWd M g)  (h : (x2 = 0 → X 30 0 0 [.ref (g + 1), .int x2, .int s0] [.int 8] M) ∧ (¬ x2 = 0 → X 30 0 0 [.ref (g + 1), .int x2, .int s0] [.int 48] M)) : aX6_passantStands_18 mc ms X Q 0 0 [none, some (.ref (g + 1)), some (.int x2), none, none] [.int s0] M := ⟨fun c20 => (h.1 c20), fun c20 => (h.2 c20)⟩
theorem vX6_passantStands_30 {mc ms : Nat} {X : Nat → zV} {Q : zQt} {M : zM} {g : Nat} {x2 : Int32} {x3 : Int32} {s0 : Int32} (hW : zWd M g)  (h : ((M.1 ((g + 1)) 7) = 0 → vp_in ((s0 + (M.1 ((g + 1)) 6))) 64 ∧ (((M : zM).1 ((g + 2)) ((s0 + (M.1 ((g + 1)) 6)) : Int32).toNatClampNeg) = 0 → vp_in (((s0 + (M.1 ((g + 1)) 6)) + x3)) 64 ∧ (((M : zM).1 ((g + 2)) (((s0 + (M.1 ((g + 1)) 6)) + x3) : Int32).toNatClampNeg) = 0 → vp_in (((s0 + (M.1 ((g + 1)) 6)) + ((2 : Int32) * x3))) 64 ∧ (((M : zM).1 ((g + 2)) (((s0 + (M.1 ((g + 1)) 6)) + ((2 : Int32) * x3)) : Int32).toNatClampNeg) = ((1 : Int32) + ((6 : Int32) * x2)) → X 91 0 0 [] [.int 1] M) ∧ (¬ ((M : zM).1 ((g + 2)) (((s0 + (M.1 ((g + 1)) 6)) + ((2 : Int32) * x3)) : Int32).toNatClampNeg) = ((1 : Int32) + ((6 : Int32) * x2)) → X 90 0 0 [] [] M)) ∧ (¬ ((M : zM).1 ((g + 2)) (((s0 + (M.1 ((g + 1)) 6)) + x3) : Int32).toNatClampNeg) = 0 → X 90 0 0 [] [] M)) ∧ (¬ ((M : zM).1 ((g + 2)) ((s0 + (M.1 ((g + 1)) 6)) : Int32).toNatClampNeg) = 0 → X 90 0 0 [] [] M)) ∧ (¬ (M.1 ((g + 1)) 7) = 0 → X 90 0 0 [] [] M)) : aX6_passantStands_30 mc ms X Q 0 0 [none, some (.ref (g + 1)), some (.int x2), some (.int x3), none] [.int s0] M := ⟨(fgs_1 hW), ⟨(fgs_1 hW), ⟨fun c41 => ⟨(fgs_1 hW), (g + 2), (fgr_1_1 hW), ⟨64, (fgs_2 hW), (h.1 c41).1, ⟨fun c51 => ⟨(fgs_1 hW), (g + 2), (fgr_1_1 hW), ⟨64, (fgs_2 hW), ((h.1 c41).2.1 c51).1, ⟨fun c63 => ⟨(fgs_1 hW), (g + 2), (fgr_1_1 hW), ⟨64, (fgs_2 hW), (((h.1 c41).2.1 c51).2.1 c63).1, ⟨fun c83 => ((((h.1 c41).2.1 c51).2.1 c63).2.1 c83), fun c83 => ((((h.1 c41).2.1 c51).2.1 c63).2.2 c83)⟩⟩⟩, fun c63 => (((h.1 c41).2.1 c51).2.2 c63)⟩⟩⟩, fun c51 => ((h.1 c41).2.2 c51)⟩⟩⟩, fun c41 => (h.2 c41)⟩⟩⟩
theorem vX6_passantStands_90 {mc ms : Nat} {X : Nat → zV} {Q : zQt} {M : zM} {g : Nat}  (hW : zWd M g)  (h : X 91 0 0 [] [.int 0] M) : aX6_passantStands_90 mc ms X Q 0 0 [none, none, none, none, none] [] M := h
theorem vX6_passantStands_91 {mc ms : Nat} {X : Nat → zV} {Q : zQt} {M : zM} {g : Nat} {s0 : Int32} (hW : zWd M g)  (h : narrow .boolean (.int s0) = .int s0 ∧ Q (some (.int s0)) M) : aX6_passantStands_91 mc ms X Q 0 0 [none, none, none, none, none] [.int s0] M := h
theorem dX6_wordEnd_0 : decode cX6_wordEnd 0 = .ok (.iload_n 1, 1) := by decide +kernel
theorem dX6_wordEnd_1 : decode cX6_wordEnd 1 = .ok (.istore_n 2, 1) := by decide +kernel
theorem dX6_wordEnd_2 : decode cX6_wordEnd 2 = .ok (.iload_n 2, 1) := by decide +kernel
theorem dX6_wordEnd_3 : decode cX6_wordEnd 3 = .ok (.aload_n 0, 1) := by decide +kernel
theorem dX6_wordEnd_4 : decode cX6_wordEnd 4 = .ok (.getfield 30, 3) := by decide +kernel
theorem dX6_wordEnd_7 : decode cX6_wordEnd 7 = .ok (.if_icmp .ge 22, 3) := by decide +kernel
theorem dX6_wordEnd_10 : decode cX6_wordEnd 10 = .ok (.aload_n 0, 1) := by decide +kernel
theorem dX6_wordEnd_11 : decode cX6_wordEnd 11 = .ok (.getfield 9, 3) := by decide +kernel
theorem dX6_wordEnd_14 : decode cX6_wordEnd 14 = .ok (.iload_n 2, 1) := by decide +kernel
theorem dX6_wordEnd_15 : decode cX6_wordEnd 15 = .ok (.caload, 1) := by decide +kernel
theorem dX6_wordEnd_16 : decode cX6_wordEnd 16 = .ok (.bipush 32, 2) := by decide +kernel
theorem dX6_wordEnd_18 : decode cX6_wordEnd 18 = .ok (.if_icmp .ne 5, 3) := by decide +kernel
theorem dX6_wordEnd_21 : decode cX6_wordEnd 21 = .ok (.iload_n 2, 1) := by decide +kernel
theorem dX6_wordEnd_22 : decode cX6_wordEnd 22 = .ok (.ireturn, 1) := by decide +kernel
theorem dX6_wordEnd_23 : decode cX6_wordEnd 23 = .ok (.iinc 2 1, 3) := by decide +kernel
theorem dX6_wordEnd_26 : decode cX6_wordEnd 26 = .ok (.goto (-24), 3) := by decide +kernel
theorem dX6_wordEnd_29 : decode cX6_wordEnd 29 = .ok (.aload_n 0, 1) := by decide +kernel
theorem dX6_wordEnd_30 : decode cX6_wordEnd 30 = .ok (.getfield 30, 3) := by decide +kernel
theorem dX6_wordEnd_33 : decode cX6_wordEnd 33 = .ok (.ireturn, 1) := by decide +kernel
def aX6_wordEnd_0 (mc ms : Nat) (X : Nat → zV) (Q : zQt) : zT :=
  zli 1 <| zsi 2 <| zj X 2 [0, 2]
def aX6_wordEnd_2 (mc ms : Nat) (X : Nat → zV) (Q : zQt) : zT :=
  zli 2 <| zla 0 <| zgi 6 4 <| zic (fun x y => y ≤ x) (zla 0 <| zgi 6 4 <| zri Q) <| zla 0 <| zgR 6 0 <| zli 2 <| zal 4 <| zc (.int 32) <| zic (fun x y => x = y) (zli 2 <| zri Q) <| zinc 2 1 <| zj X 2 [0, 2]
def lvX6_wordEnd : Nat → List Nat := fun L => match L with
  | 0 => [0, 1]
  | 2 => [0, 2]
  | _ => []
def wX6_wordEnd : zSp := fun mc ms av M Q => ((zlay av).length ≤ 3 ∧ zpick (zlay av) [0, 1] = some av) ∧ ∀ X : Nat → zV, zin 3 [0, 1] (aX6_wordEnd_0 mc ms X Q) X 0 → zin 3 [0, 2] (aX6_wordEnd_2 mc ms X Q) X 2 → X 0 0 0 av [] M
set_option maxRecDepth 100000 in
set_option maxHeartbeats 4000000 in
theorem sX6_wordEnd (l : Launch) (G : zG) : zSnd l G yX6_wordEnd cX6_wordEnd 3 (some .int) 0 0 wX6_wordEnd := by
  refine zmk [0, 1] (by decide) (fun mc ms av M Q h => h.1) ?_
  intro p e R s m args below meth c mc ms av M Q hC hRf hRl hr hnm h lv hlv
  obtain ⟨X, hXe⟩ : ∃ X : Nat → zV, X = fun L u v vs st M => ∀ lv, zpick lv (lvX6_wordEnd L) = some vs → zAt p l e R s m args below meth c (MQ below (zQ G Q) args s mc ms (zA G)) G 3 L u v lv st M := ⟨_, rfl⟩
  have hJ : ∀ L, zOk p l e R s m args below meth c (MQ below (zQ G Q) args s mc ms (zA G)) G 3 L (zj X L (lvX6_wordEnd L)) := fun L => S_jump (fun u v lv vs st M hp hx => by rw [hXe] at hx; exact hx lv hp)
  have hB0 : zin 3 [0, 1] (aX6_wordEnd_0 mc ms X Q) X 0 := by
    intro u v vs st M hb
    rw [hXe]
    refine fun lv hp => S_block (L := 0) (live := [0, 1]) ?_ u v lv vs st M hp hb
    unfold aX6_wordEnd_0
    refine S_iload_n (pc := 0) hC dX6_wordEnd_0 rfl ?_
    refine S_istore_n (pc := 1) hC dX6_wordEnd_1 rfl (by decide) ?_
    exact hJ 2
  have hB2 : zin 3 [0, 2] (aX6_wordEnd_2 mc ms X Q) X 2 := by
    intro u v vs st M hb
    rw [hXe]
    refine fun lv hp => S_block (L := 2) (live := [0, 2]) ?_ u v lv vs st M hp hb
    unfold aX6_wordEnd_2
    refine S_iload_n (pc := 2) hC dX6_wordEnd_2 rfl ?_
    refine S_aload_n (pc := 3) hC dX6_wordEnd_3 rfl ?_
    refine S_geti (pc := 4) hC cfX6 (by decide) (Or.inl rfl) wd_142 dX6_wordEnd_4 ?_
    refine S_icmp_ge (pc := 7) (tgt := 29) hC dX6_wordEnd_7 (by decide) ?_ ?_
    · refine S_aload_n (pc := 29) hC dX6_wordEnd_29 rfl ?_
      refine S_geti (pc := 30) hC cfX6 (by decide) (Or.inl rfl) wd_142 dX6_wordEnd_30 ?_
      exact S_ireturn (pc := 33) hC hr dX6_wordEnd_33
    · refine S_aload_n (pc := 10) hC dX6_wordEnd_10 rfl ?_
      refine S_getR (pc := 11) hC cfX6 (by decide) (Or.inr ⟨_, rfl⟩) wd_138 dX6_wordEnd_11 ?_
      refine S_iload_n (pc := 14) hC dX6_wordEnd_14 rfl ?_
      refine S_caload (pc := 15) hC dX6_wordEnd_15 ?_
      refine S_bipush (pc := 16) hC dX6_wordEnd_16 (by decide) ?_
      refine S_icmp_ne (pc := 18) (tgt := 23) hC dX6_wordEnd_18 (by decide) ?_ ?_
      · refine S_iinc (pc := 23) hC dX6_wordEnd_23 (by decide) (by decide) ?_
        refine S_goto (pc := 26) (tgt := 2) hC dX6_wordEnd_26 (by decide) ?_
        exact hJ 2
      · refine S_iload_n (pc := 21) hC dX6_wordEnd_21 rfl ?_
        exact S_ireturn (pc := 22) hC hr dX6_wordEnd_22
  have := h.2 X hB0 hB2
  rw [hXe] at this
  exact this lv hlv
theorem vX6_wordEnd_0 {mc ms : Nat} {X : Nat → zV} {Q : zQt} {M : zM} {g : Nat} {x1 : Int32} (hW : zWd M g)  (h : X 2 0 0 [.ref 27, .int x1] [] M) : aX6_wordEnd_0 mc ms X Q 0 0 [some (.ref 27), some (.int x1), none] [] M := h
theorem vX6_wordEnd_2 {mc ms : Nat} {X : Nat → zV} {Q : zQt} {M : zM} {g : Nat} {x2 : Int32} (hW : zWd M g)  (h : ((M.1 27 4) ≤ x2 → Q (some (.int ((M.1 27 4)))) M) ∧ (¬ (M.1 27 4) ≤ x2 → vp_in x2 8180 ∧ (((M : zM).1 24 (x2 : Int32).toNatClampNeg) = (32 : Int32) → Q (some (.int x2)) M) ∧ (¬ ((M : zM).1 24 (x2 : Int32).toNatClampNeg) = (32 : Int32) → X 2 0 0 [.ref 27, .int (x2 + 1)] [] M))) : aX6_wordEnd_2 mc ms X Q 0 0 [some (.ref 27), none, some (.int x2)] [] M := ⟨(fxs_27 hW.1), ⟨fun c7 => ⟨(fxs_27 hW.1), (h.1 c7)⟩, fun c7 => ⟨(fxs_27 hW.1), 24, (fxr_27_0 hW.1), ⟨8180, (fxs_24 hW.1), (h.2 c7).1, ⟨fun c18 => ((h.2 c7).2.1 c18), fun c18 => ((h.2 c7).2.2 c18)⟩⟩⟩⟩⟩
theorem dX7_init_0 : decode cX7_init 0 = .ok (.aload_n 0, 1) := by decide +kernel
theorem dX7_init_1 : decode cX7_init 1 = .ok (.invokespecial 3, 3) := by decide +kernel
theorem dX7_init_4 : decode cX7_init 4 = .ok (.aload_n 0, 1) := by decide +kernel
theorem dX7_init_5 : decode cX7_init 5 = .ok (.bipush 104, 2) := by decide +kernel
theorem dX7_init_7 : decode cX7_init 7 = .ok (.newarray .char, 2) := by decide +kernel
theorem dX7_init_9 : decode cX7_init 9 = .ok (.putfield 11, 3) := by decide +kernel
theorem dX7_init_12 : decode cX7_init 12 = .ok (.return_, 1) := by decide +kernel
def aX7_init_0 (mc ms : Nat) (X : Nat → zV) (Q : zQt) : zT :=
  zla 0 <| zoi <| zla 0 <| zc (.int 104) <| zna mc ms 4 <| zpr 7 0 <| zrv Q
def lvX7_init : Nat → List Nat := fun L => match L with
  | 0 => [0]
  | _ => []
def wX7_init : zSp := fun mc ms av M Q => ((zlay av).length ≤ 1 ∧ zpick (zlay av) [0] = some av) ∧ ∀ X : Nat → zV, zin 1 [0] (aX7_init_0 mc ms X Q) X 0 → X 0 0 0 av [] M
set_option maxRecDepth 100000 in
set_option maxHeartbeats 4000000 in
theorem sX7_init (l : Launch) (G : zG) : zSnd l G yX7_init cX7_init 1 none 1 20 wX7_init := by
  refine zmk [0] (by decide) (fun mc ms av M Q h => h.1) ?_
  intro p e R s m args below meth c mc ms av M Q hC hRf hRl hr hnm h lv hlv
  obtain ⟨X, hXe⟩ : ∃ X : Nat → zV, X = fun L u v vs st M => ∀ lv, zpick lv (lvX7_init L) = some vs → zAt p l e R s m args below meth c (MQ below (zQ G Q) args s mc ms (zA G)) G 1 L u v lv st M := ⟨_, rfl⟩
  have hJ : ∀ L, zOk p l e R s m args below meth c (MQ below (zQ G Q) args s mc ms (zA G)) G 1 L (zj X L (lvX7_init L)) := fun L => S_jump (fun u v lv vs st M hp hx => by rw [hXe] at hx; exact hx lv hp)
  have hB0 : zin 1 [0] (aX7_init_0 mc ms X Q) X 0 := by
    intro u v vs st M hb
    rw [hXe]
    refine fun lv hp => S_block (L := 0) (live := [0]) ?_ u v lv vs st M hp hb
    unfold aX7_init_0
    refine S_aload_n (pc := 0) hC dX7_init_0 rfl ?_
    refine S_objInit (pc := 1) hC wd_159 wd_35 wd_36 (by rw [hRf]; decide) (by rw [hRl]; decide) dX7_init_1 ?_
    refine S_aload_n (pc := 4) hC dX7_init_4 rfl ?_
    refine S_bipush (pc := 5) hC dX7_init_5 (by decide) ?_
    refine S_newa_char (pc := 7) hC wd_99 dX7_init_7 ?_
    refine S_putr (pc := 9) hC cfX7 (by decide) (Or.inr ⟨_, rfl⟩) (Or.inr ⟨rfl, hnm, rfl⟩) wd_160 dX7_init_9 ?_
    exact S_vreturn (pc := 12) hC hr dX7_init_12
  have := h.2 X hB0
  rw [hXe] at this
  exact this lv hlv
theorem dX7_put_0 : decode cX7_put 0 = .ok (.aload_n 0, 1) := by decide +kernel
theorem dX7_put_1 : decode cX7_put 1 = .ok (.getfield 19, 3) := by decide +kernel
theorem dX7_put_4 : decode cX7_put 4 = .ok (.bipush 104, 2) := by decide +kernel
theorem dX7_put_6 : decode cX7_put 6 = .ok (.if_icmp .ge 23, 3) := by decide +kernel
theorem dX7_put_9 : decode cX7_put 9 = .ok (.aload_n 0, 1) := by decide +kernel
theorem dX7_put_10 : decode cX7_put 10 = .ok (.getfield 11, 3) := by decide +kernel
theorem dX7_put_13 : decode cX7_put 13 = .ok (.aload_n 0, 1) := by decide +kernel
theorem dX7_put_14 : decode cX7_put 14 = .ok (.getfield 19, 3) := by decide +kernel
theorem dX7_put_17 : decode cX7_put 17 = .ok (.iload_n 1, 1) := by decide +kernel
theorem dX7_put_18 : decode cX7_put 18 = .ok (.castore, 1) := by decide +kernel
theorem dX7_put_19 : decode cX7_put 19 = .ok (.aload_n 0, 1) := by decide +kernel
theorem dX7_put_20 : decode cX7_put 20 = .ok (.dup, 1) := by decide +kernel
theorem dX7_put_21 : decode cX7_put 21 = .ok (.getfield 19, 3) := by decide +kernel
theorem dX7_put_24 : decode cX7_put 24 = .ok (.iconst 1, 1) := by decide +kernel
theorem dX7_put_25 : decode cX7_put 25 = .ok (.iadd, 1) := by decide +kernel
theorem dX7_put_26 : decode cX7_put 26 = .ok (.putfield 19, 3) := by decide +kernel
theorem dX7_put_29 : decode cX7_put 29 = .ok (.return_, 1) := by decide +kernel
def aX7_put_0 (mc ms : Nat) (X : Nat → zV) (Q : zQt) : zT :=
  zla 0 <| zgi 7 1 <| zc (.int 104) <| zic (fun x y => y ≤ x) (zj X 29 []) <| zla 0 <| zgR 7 0 <| zla 0 <| zgi 7 1 <| zli 1 <| zas 4 (vp_nar .char) <| zla 0 <| zdup <| zgi 7 1 <| zc (.int 1) <| zii (fun x y => x + y) <| zpi 7 1 <| zj X 29 []
def aX7_put_29 (mc ms : Nat) (X : Nat → zV) (Q : zQt) : zT :=
  zrv Q
def lvX7_put : Nat → List Nat := fun L => match L with
  | 0 => [0, 1]
  | 29 => []
  | _ => []
def wX7_put : zSp := fun mc ms av M Q => ((zlay av).length ≤ 2 ∧ zpick (zlay av) [0, 1] = some av) ∧ ∀ X : Nat → zV, zin 2 [0, 1] (aX7_put_0 mc ms X Q) X 0 → zin 2 [] (aX7_put_29 mc ms X Q) X 29 → X 0 0 0 av [] M
set_option maxRecDepth 100000 in
set_option maxHeartbeats 4000000 in
theorem sX7_put (l : Launch) (G : zG) : zSnd l G yX7_put cX7_put 2 none 0 0 wX7_put := by
  refine zmk [0, 1] (by decide) (fun mc ms av M Q h => h.1) ?_
  intro p e R s m args below meth c mc ms av M Q hC hRf hRl hr hnm h lv hlv
  obtain ⟨X, hXe⟩ : ∃ X : Nat → zV, X = fun L u v vs st M => ∀ lv, zpick lv (lvX7_put L) = some vs → zAt p l e R s m args below meth c (MQ below (zQ G Q) args s mc ms (zA G)) G 2 L u v lv st M := ⟨_, rfl⟩
  have hJ : ∀ L, zOk p l e R s m args below meth c (MQ below (zQ G Q) args s mc ms (zA G)) G 2 L (zj X L (lvX7_put L)) := fun L => S_jump (fun u v lv vs st M hp hx => by rw [hXe] at hx; exact hx lv hp)
  have hB0 : zin 2 [0, 1] (aX7_put_0 mc ms X Q) X 0 := by
    intro u v vs st M hb
    rw [hXe]
    refine fun lv hp => S_block (L := 0) (live := [0, 1]) ?_ u v lv vs st M hp hb
    unfold aX7_put_0
    refine S_aload_n (pc := 0) hC dX7_put_0 rfl ?_
    refine S_geti (pc := 1) hC cfX7 (by decide) (Or.inl rfl) wd_161 dX7_put_1 ?_
    refine S_bipush (pc := 4) hC dX7_put_4 (by decide) ?_
    refine S_icmp_ge (pc := 6) (tgt := 29) hC dX7_put_6 (by decide) ?_ ?_
    · exact hJ 29
    · refine S_aload_n (pc := 9) hC dX7_put_9 rfl ?_
      refine S_getR (pc := 10) hC cfX7 (by decide) (Or.inr ⟨_, rfl⟩) wd_160 dX7_put_10 ?_
      refine S_aload_n (pc := 13) hC dX7_put_13 rfl ?_
      refine S_geti (pc := 14) hC cfX7 (by decide) (Or.inl rfl) wd_161 dX7_put_14 ?_
      refine S_iload_n (pc := 17) hC dX7_put_17 rfl ?_
      refine S_castore (pc := 18) hC dX7_put_18 ?_
      refine S_aload_n (pc := 19) hC dX7_put_19 rfl ?_
      refine S_dup (pc := 20) hC dX7_put_20 ?_
      refine S_geti (pc := 21) hC cfX7 (by decide) (Or.inl rfl) wd_161 dX7_put_21 ?_
      refine S_iconst (pc := 24) hC dX7_put_24 (by decide) ?_
      refine S_iadd (pc := 25) hC dX7_put_25 ?_
      refine S_puti (pc := 26) hC cfX7 (by decide) rfl (Or.inl rfl) wd_161 dX7_put_26 ?_
      exact hJ 29
  have hB29 : zin 2 [] (aX7_put_29 mc ms X Q) X 29 := by
    intro u v vs st M hb
    rw [hXe]
    refine fun lv hp => S_block (L := 29) (live := []) ?_ u v lv vs st M hp hb
    unfold aX7_put_29
    exact S_vreturn (pc := 29) hC hr dX7_put_29
  have := h.2 X hB0 hB29
  rw [hXe] at this
  exact this lv hlv
theorem vX7_put_0 {mc ms : Nat} {X : Nat → zV} {Q : zQt} {M : zM} {g : Nat} {x1 : Int32} (hW : zWd M g)  (h : ((104 : Int32) ≤ (M.1 29 1) → X 29 0 0 [] [] M) ∧ (¬ (104 : Int32) ≤ (M.1 29 1) → vp_in ((M.1 29 1)) 104 ∧ ∀ M18 : zM, M18 = (zsI M 30 ((M.1 29 1) : Int32).toNatClampNeg (vp_nar .char x1)) → ∀ M26 : zM, M26 = (zsI M18 29 1 (((M18.1 29 1) + (1 : Int32)))) → X 29 0 0 [] [] M26)) : aX7_put_0 mc ms X Q 0 0 [some (.ref 29), some (.int x1)] [] M := ⟨(fxs_29 hW.1), ⟨fun c6 => (h.1 c6), fun c6 => ⟨(fxs_29 hW.1), 30, (fxr_29_0 hW.1), ⟨(fxs_29 hW.1), ⟨104, (fxs_30 hW.1), (h.2 c6).1, (have h18 := (h.2 c6).2 _ rfl; ⟨(fxs_29 hW.1), ⟨(fxs_29 hW.1), (have h26 := h18 _ rfl; h26)⟩⟩)⟩⟩⟩⟩⟩
theorem vX7_put_29 {mc ms : Nat} {X : Nat → zV} {Q : zQt} {M : zM} {g : Nat}  (hW : zWd M g)  (h : Q none M) : aX7_put_29 mc ms X Q 0 0 [none, none] [] M := h
theorem dX7_putNumber_0 : decode cX7_putNumber 0 = .ok (.iconst 1, 1) := by decide +kernel
theorem dX7_putNumber_1 : decode cX7_putNumber 1 = .ok (.istore_n 2, 1) := by decide +kernel
theorem dX7_putNumber_2 : decode cX7_putNumber 2 = .ok (.sipush 10000, 3) := by decide +kernel
theorem dX7_putNumber_5 : decode cX7_putNumber 5 = .ok (.istore_n 3, 1) := by decide +kernel
theorem dX7_putNumber_6 : decode cX7_putNumber 6 = .ok (.iload_n 3, 1) := by decide +kernel
theorem dX7_putNumber_7 : decode cX7_putNumber 7 = .ok (.ifCond .le 53, 3) := by decide +kernel
theorem dX7_putNumber_10 : decode cX7_putNumber 10 = .ok (.iload_n 1, 1) := by decide +kernel
theorem dX7_putNumber_11 : decode cX7_putNumber 11 = .ok (.iload_n 3, 1) := by decide +kernel
theorem dX7_putNumber_12 : decode cX7_putNumber 12 = .ok (.idiv, 1) := by decide +kernel
theorem dX7_putNumber_13 : decode cX7_putNumber 13 = .ok (.bipush 10, 2) := by decide +kernel
theorem dX7_putNumber_15 : decode cX7_putNumber 15 = .ok (.irem, 1) := by decide +kernel
theorem dX7_putNumber_16 : decode cX7_putNumber 16 = .ok (.istore 4, 2) := by decide +kernel
theorem dX7_putNumber_18 : decode cX7_putNumber 18 = .ok (.iload_n 2, 1) := by decide +kernel
theorem dX7_putNumber_19 : decode cX7_putNumber 19 = .ok (.ifCond .eq 17, 3) := by decide +kernel
theorem dX7_putNumber_22 : decode cX7_putNumber 22 = .ok (.iload 4, 2) := by decide +kernel
theorem dX7_putNumber_24 : decode cX7_putNumber 24 = .ok (.ifCond .ne 12, 3) := by decide +kernel
theorem dX7_putNumber_27 : decode cX7_putNumber 27 = .ok (.iload_n 3, 1) := by decide +kernel
theorem dX7_putNumber_28 : decode cX7_putNumber 28 = .ok (.iconst 1, 1) := by decide +kernel
theorem dX7_putNumber_29 : decode cX7_putNumber 29 = .ok (.if_icmp .le 7, 3) := by decide +kernel
theorem dX7_putNumber_32 : decode cX7_putNumber 32 = .ok (.iconst 1, 1) := by decide +kernel
theorem dX7_putNumber_33 : decode cX7_putNumber 33 = .ok (.goto 4, 3) := by decide +kernel
theorem dX7_putNumber_36 : decode cX7_putNumber 36 = .ok (.iconst 0, 1) := by decide +kernel
theorem dX7_putNumber_37 : decode cX7_putNumber 37 = .ok (.istore_n 2, 1) := by decide +kernel
theorem dX7_putNumber_38 : decode cX7_putNumber 38 = .ok (.iload_n 2, 1) := by decide +kernel
theorem dX7_putNumber_39 : decode cX7_putNumber 39 = .ok (.ifCond .ne 13, 3) := by decide +kernel
theorem dX7_putNumber_42 : decode cX7_putNumber 42 = .ok (.aload_n 0, 1) := by decide +kernel
theorem dX7_putNumber_43 : decode cX7_putNumber 43 = .ok (.bipush 48, 2) := by decide +kernel
theorem dX7_putNumber_45 : decode cX7_putNumber 45 = .ok (.iload 4, 2) := by decide +kernel
theorem dX7_putNumber_47 : decode cX7_putNumber 47 = .ok (.iadd, 1) := by decide +kernel
theorem dX7_putNumber_48 : decode cX7_putNumber 48 = .ok (.i2c, 1) := by decide +kernel
theorem dX7_putNumber_49 : decode cX7_putNumber 49 = .ok (.invokevirtual 27, 3) := by decide +kernel
theorem dX7_putNumber_52 : decode cX7_putNumber 52 = .ok (.iload_n 3, 1) := by decide +kernel
theorem dX7_putNumber_53 : decode cX7_putNumber 53 = .ok (.bipush 10, 2) := by decide +kernel
theorem dX7_putNumber_55 : decode cX7_putNumber 55 = .ok (.idiv, 1) := by decide +kernel
theorem dX7_putNumber_56 : decode cX7_putNumber 56 = .ok (.istore_n 3, 1) := by decide +kernel
theorem dX7_putNumber_57 : decode cX7_putNumber 57 = .ok (.goto (-51), 3) := by decide +kernel
theorem dX7_putNumber_60 : decode cX7_putNumber 60 = .ok (.return_, 1) := by decide +kernel
def kX7_putNumber_18 (mc ms : Nat) (X : Nat → zV) (Q : zQt) : zT :=
  zli 2 <| zif (fun x => x = 0) (zj X 36 [0, 1, 3, 4]) <| zli 4 <| zif (fun x => x = 0) (zli 3 <| zc (.int 1) <| zic (fun x y => x ≤ y) (zj X 36 [0, 1, 3, 4]) <| zc (.int 1) <| zj X 37 [0, 1, 3, 4]) <| zj X 36 [0, 1, 3, 4]
def kX7_putNumber_52 (mc ms : Nat) (X : Nat → zV) (Q : zQt) : zT :=
  zj X 52 [0, 1, 2, 3]
def aX7_putNumber_0 (mc ms : Nat) (X : Nat → zV) (Q : zQt) : zT :=
  zc (.int 1) <| zsi 2 <| zc (.int 10000) <| zsi 3 <| zj X 6 [0, 1, 2, 3]
def aX7_putNumber_6 (mc ms : Nat) (X : Nat → zV) (Q : zQt) : zT :=
  zli 3 <| zif (fun x => x ≤ 0) (zrv Q) <| zli 1 <| zli 3 <| zid (fun x y => x / y) <| zc (.int 10) <| zid (fun x y => x - x / y * y) <| zsiN 4 <| kX7_putNumber_18 mc ms X Q
def aX7_putNumber_36 (mc ms : Nat) (X : Nat → zV) (Q : zQt) : zT :=
  zc (.int 0) <| zj X 37 [0, 1, 3, 4]
def aX7_putNumber_37 (mc ms : Nat) (X : Nat → zV) (Q : zQt) : zT :=
  zsi 2 <| zli 2 <| zif (fun x => x = 0) (zla 0 <| zc (.int 48) <| zli 4 <| zii (fun x y => x + y) <| zi1 (fun x => (x.toUInt32 % 65536).toInt32) <| zcv mc ms 7 1 wX7_put <| kX7_putNumber_52 mc ms X Q) <| zj X 52 [0, 1, 2, 3]
def aX7_putNumber_52 (mc ms : Nat) (X : Nat → zV) (Q : zQt) : zT :=
  zli 3 <| zc (.int 10) <| zid (fun x y => x / y) <| zsi 3 <| zj X 6 [0, 1, 2, 3]
def lvX7_putNumber : Nat → List Nat := fun L => match L with
  | 0 => [0, 1]
  | 6 => [0, 1, 2, 3]
  | 36 => [0, 1, 3, 4]
  | 37 => [0, 1, 3, 4]
  | 52 => [0, 1, 2, 3]
  | _ => []
def wX7_putNumber : zSp := fun mc ms av M Q => ((zlay av).length ≤ 5 ∧ zpick (zlay av) [0, 1] = some av) ∧ ∀ X : Nat → zV, zin 5 [0, 1] (aX7_putNumber_0 mc ms X Q) X 0 → zin 5 [0, 1, 2, 3] (aX7_putNumber_6 mc ms X Q) X 6 → zin 5 [0, 1, 3, 4] (aX7_putNumber_36 mc ms X Q) X 36 → zin 5 [0, 1, 3, 4] (aX7_putNumber_37 mc ms X Q) X 37 → zin 5 [0, 1, 2, 3] (aX7_putNumber_52 mc ms X Q) X 52 → X 0 0 0 av [] M
set_option maxRecDepth 100000 in
set_option maxHeartbeats 4000000 in
theorem sX7_putNumber (l : Launch) (G : zG) : zSnd l G yX7_putNumber cX7_putNumber 5 none 1 21 wX7_putNumber := by
  refine zmk [0, 1] (by decide) (fun mc ms av M Q h => h.1) ?_
  intro p e R s m args below meth c mc ms av M Q hC hRf hRl hr hnm h lv hlv
  obtain ⟨X, hXe⟩ : ∃ X : Nat → zV, X = fun L u v vs st M => ∀ lv, zpick lv (lvX7_putNumber L) = some vs → zAt p l e R s m args below meth c (MQ below (zQ G Q) args s mc ms (zA G)) G 5 L u v lv st M := ⟨_, rfl⟩
  have hJ : ∀ L, zOk p l e R s m args below meth c (MQ below (zQ G Q) args s mc ms (zA G)) G 5 L (zj X L (lvX7_putNumber L)) := fun L => S_jump (fun u v lv vs st M hp hx => by rw [hXe] at hx; exact hx lv hp)
  have hB0 : zin 5 [0, 1] (aX7_putNumber_0 mc ms X Q) X 0 := by
    intro u v vs st M hb
    rw [hXe]
    refine fun lv hp => S_block (L := 0) (live := [0, 1]) ?_ u v lv vs st M hp hb
    unfold aX7_putNumber_0
    refine S_iconst (pc := 0) hC dX7_putNumber_0 (by decide) ?_
    refine S_istore_n (pc := 1) hC dX7_putNumber_1 rfl (by decide) ?_
    refine S_sipush (pc := 2) hC dX7_putNumber_2 (by decide) ?_
    refine S_istore_n (pc := 5) hC dX7_putNumber_5 rfl (by decide) ?_
    exact hJ 6
  have hB6 : zin 5 [0, 1, 2, 3] (aX7_putNumber_6 mc ms X Q) X 6 := by
    intro u v vs st M hb
    rw [hXe]
    refine fun lv hp => S_block (L := 6) (live := [0, 1, 2, 3]) ?_ u v lv vs st M hp hb
    unfold aX7_putNumber_6
    refine S_iload_n (pc := 6) hC dX7_putNumber_6 rfl ?_
    refine S_if_le (pc := 7) (tgt := 60) hC dX7_putNumber_7 (by decide) ?_ ?_
    · exact S_vreturn (pc := 60) hC hr dX7_putNumber_60
    · refine S_iload_n (pc := 10) hC dX7_putNumber_10 rfl ?_
      refine S_iload_n (pc := 11) hC dX7_putNumber_11 rfl ?_
      refine S_idiv (pc := 12) hC dX7_putNumber_12 ?_
      refine S_bipush (pc := 13) hC dX7_putNumber_13 (by decide) ?_
      refine S_irem (pc := 15) hC dX7_putNumber_15 ?_
      refine S_istore_N (pc := 16) hC dX7_putNumber_16 (by decide) ?_
      unfold kX7_putNumber_18
      refine S_iload_n (pc := 18) hC dX7_putNumber_18 rfl ?_
      refine S_if_eq (pc := 19) (tgt := 36) hC dX7_putNumber_19 (by decide) ?_ ?_
      · exact hJ 36
      · refine S_iload (pc := 22) hC dX7_putNumber_22 ?_
        refine S_if_ne (pc := 24) (tgt := 36) hC dX7_putNumber_24 (by decide) ?_ ?_
        · exact hJ 36
        · refine S_iload_n (pc := 27) hC dX7_putNumber_27 rfl ?_
          refine S_iconst (pc := 28) hC dX7_putNumber_28 (by decide) ?_
          refine S_icmp_le (pc := 29) (tgt := 36) hC dX7_putNumber_29 (by decide) ?_ ?_
          · exact hJ 36
          · refine S_iconst (pc := 32) hC dX7_putNumber_32 (by decide) ?_
            refine S_goto (pc := 33) (tgt := 37) hC dX7_putNumber_33 (by decide) ?_
            exact hJ 37
  have hB36 : zin 5 [0, 1, 3, 4] (aX7_putNumber_36 mc ms X Q) X 36 := by
    intro u v vs st M hb
    rw [hXe]
    refine fun lv hp => S_block (L := 36) (live := [0, 1, 3, 4]) ?_ u v lv vs st M hp hb
    unfold aX7_putNumber_36
    refine S_iconst (pc := 36) hC dX7_putNumber_36 (by decide) ?_
    exact hJ 37
  have hB37 : zin 5 [0, 1, 3, 4] (aX7_putNumber_37 mc ms X Q) X 37 := by
    intro u v vs st M hb
    rw [hXe]
    refine fun lv hp => S_block (L := 37) (live := [0, 1, 3, 4]) ?_ u v lv vs st M hp hb
    unfold aX7_putNumber_37
    refine S_istore_n (pc := 37) hC dX7_putNumber_37 rfl (by decide) ?_
    refine S_iload_n (pc := 38) hC dX7_putNumber_38 rfl ?_
    refine S_if_ne (pc := 39) (tgt := 52) hC dX7_putNumber_39 (by decide) ?_ ?_
    · exact hJ 52
    · refine S_aload_n (pc := 42) hC dX7_putNumber_42 rfl ?_
      refine S_bipush (pc := 43) hC dX7_putNumber_43 (by decide) ?_
      refine S_iload (pc := 45) hC dX7_putNumber_45 ?_
      refine S_iadd (pc := 47) hC dX7_putNumber_47 ?_
      refine S_i2c (pc := 48) hC dX7_putNumber_48 ?_
      refine S_callV (pc := 49) hC (sX7_put l G) rfl wd_511 wd_513 ws_10 wd_6 wd_514 (by decide +kernel) ⟨by rw [hRf]; decide, by rw [hRl]; decide⟩ dX7_putNumber_49 ?_
      unfold kX7_putNumber_52
      exact hJ 52
  have hB52 : zin 5 [0, 1, 2, 3] (aX7_putNumber_52 mc ms X Q) X 52 := by
    intro u v vs st M hb
    rw [hXe]
    refine fun lv hp => S_block (L := 52) (live := [0, 1, 2, 3]) ?_ u v lv vs st M hp hb
    unfold aX7_putNumber_52
    refine S_iload_n (pc := 52) hC dX7_putNumber_52 rfl ?_
    refine S_bipush (pc := 53) hC dX7_putNumber_53 (by decide) ?_
    refine S_idiv (pc := 55) hC dX7_putNumber_55 ?_
    refine S_istore_n (pc := 56) hC dX7_putNumber_56 rfl (by decide) ?_
    refine S_goto (pc := 57) (tgt := 6) hC dX7_putNumber_57 (by decide) ?_
    exact hJ 6
  have := h.2 X hB0 hB6 hB36 hB37 hB52
  rw [hXe] at this
  exact this lv hlv
theorem vX7_putNumber_0 {mc ms : Nat} {X : Nat → zV} {Q : zQt} {M : zM} {g : Nat} {x1 : Int32} (hW : zWd M g)  (h : X 6 0 0 [.ref 29, .int x1, .int 1, .int 10000] [] M) : aX7_putNumber_0 mc ms X Q 0 0 [some (.ref 29), some (.int x1), none, none, none] [] M := h
theorem vcX7_putNumber_18 {mc ms : Nat} {X : Nat → zV} {Q : zQt} {M : zM} {g : Nat} {x1 : Int32} {x2 : Int32} {x3 : Int32} {x4 : Int32} (hW : zWd M g)  (h : (x2 = 0 → X 36 0 0 [.ref 29, .int x1, .int x3, .int x4] [] M) ∧ (¬ x2 = 0 → (x4 = 0 → (x3 ≤ (1 : Int32) → X 36 0 0 [.ref 29, .int x1, .int x3, .int x4] [] M) ∧ (¬ x3 ≤ (1 : Int32) → X 37 0 0 [.ref 29, .int x1, .int x3, .int x4] [.int 1] M)) ∧ (¬ x4 = 0 → X 36 0 0 [.ref 29, .int x1, .int x3, .int x4] [] M))) : kX7_putNumber_18 mc ms X Q 0 0 [some (.ref 29), some (.int x1), some (.int x2), some (.int x3), some (.int x4)] [] M := ⟨fun c19 => (h.1 c19), fun c19 => ⟨fun c24 => ⟨fun c29 => (((h.2 c19).1 c24).1 c29), fun c29 => (((h.2 c19).1 c24).2 c29)⟩, fun c24 => ((h.2 c19).2 c24)⟩⟩
theorem vX7_putNumber_6 {mc ms : Nat} {X : Nat → zV} {Q : zQt} {M : zM} {g : Nat} {x1 : Int32} {x2 : Int32} {x3 : Int32} (hW : zWd M g)  (h : (x3 ≤ 0 → Q none M) ∧ (¬ x3 ≤ 0 → ¬ x3 = 0 ∧ ∀ y16 : Int32, y16 = ((x1 / x3) - (x1 / x3) / (10 : Int32) * (10 : Int32)) → (x2 = 0 → X 36 0 0 [.ref 29, .int x1, .int x3, .int y16] [] M) ∧ (¬ x2 = 0 → (y16 = 0 → (x3 ≤ (1 : Int32) → X 36 0 0 [.ref 29, .int x1, .int x3, .int y16] [] M) ∧ (¬ x3 ≤ (1 : Int32) → X 37 0 0 [.ref 29, .int x1, .int x3, .int y16] [.int 1] M)) ∧ (¬ y16 = 0 → X 36 0 0 [.ref 29, .int x1, .int x3, .int y16] [] M)))) : aX7_putNumber_6 mc ms X Q 0 0 [some (.ref 29), some (.int x1), some (.int x2), some (.int x3), none] [] M := ⟨fun c7 => (h.1 c7), fun c7 => ⟨(h.2 c7).1, ⟨by decide, (fun y16 e16 => have h16 := (h.2 c7).2 y16 e16; (vcX7_putNumber_18 hW  h16))⟩⟩⟩
theorem vX7_putNumber_36 {mc ms : Nat} {X : Nat → zV} {Q : zQt} {M : zM} {g : Nat} {x1 : Int32} {x3 : Int32} {x4 : Int32} (hW : zWd M g)  (h : X 37 0 0 [.ref 29, .int x1, .int x3, .int x4] [.int 0] M) : aX7_putNumber_36 mc ms X Q 0 0 [some (.ref 29), some (.int x1), none, some (.int x3), some (.int x4)] [] M := h
theorem vX7_putNumber_37 {mc ms : Nat} {X : Nat → zV} {Q : zQt} {M : zM} {g : Nat} {x1 : Int32} {x3 : Int32} {x4 : Int32} {s0 : Int32} (hW : zWd M g)  (h : (s0 = 0 → wX7_put 0 0 [.ref 29, .int ((((48 : Int32) + x4).toUInt32 % 65536).toInt32)] M (fun r M1 => kX7_putNumber_52 mc ms X Q 0 0 [some (.ref 29), some (.int x1), some (.int s0), some (.int x3), some (.int x4)] (r.toList ++ []) M1)) ∧ (¬ s0 = 0 → X 52 0 0 [.ref 29, .int x1, .int s0, .int x3] [] M)) : aX7_putNumber_37 mc ms X Q 0 0 [some (.ref 29), some (.int x1), none, some (.int x3), some (.int x4)] [.int s0] M := ⟨fun c39 => ⟨Nat.le_of_ble_eq_true rfl, rfl, (fxs_29 hW.1), 0, 0, Nat.zero_le _, Nat.zero_le _, (h.1 c39)⟩, fun c39 => (h.2 c39)⟩
theorem vX7_putNumber_52 {mc ms : Nat} {X : Nat → zV} {Q : zQt} {M : zM} {g : Nat} {x1 : Int32} {x2 : Int32} {x3 : Int32} (hW : zWd M g)  (h : X 6 0 0 [.ref 29, .int x1, .int x2, .int (x3 / (10 : Int32))] [] M) : aX7_putNumber_52 mc ms X Q 0 0 [some (.ref 29), some (.int x1), some (.int x2), some (.int x3), none] [] M := ⟨by decide, h⟩
theorem vkX7_putNumber_52 {mc ms : Nat} {X : Nat → zV} {Q : zQt} {M : zM} {g : Nat} {x1 : Int32} {x2 : Int32} {x3 : Int32} {x4 : Int32} (hW : zWd M g)  (h : X 52 0 0 [.ref 29, .int x1, .int x2, .int x3] [] M) : kX7_putNumber_52 mc ms X Q 0 0 [some (.ref 29), some (.int x1), some (.int x2), some (.int x3), some (.int x4)] [] M := h
theorem dX8_init_0 : decode cX8_init 0 = .ok (.aload_n 0, 1) := by decide +kernel
theorem dX8_init_1 : decode cX8_init 1 = .ok (.invokespecial 3, 3) := by decide +kernel
theorem dX8_init_4 : decode cX8_init 4 = .ok (.aload_n 0, 1) := by decide +kernel
theorem dX8_init_5 : decode cX8_init 5 = .ok (.sipush 1920, 3) := by decide +kernel
theorem dX8_init_8 : decode cX8_init 8 = .ok (.newarray .int, 2) := by decide +kernel
theorem dX8_init_10 : decode cX8_init 10 = .ok (.putfield 9, 3) := by decide +kernel
theorem dX8_init_13 : decode cX8_init 13 = .ok (.return_, 1) := by decide +kernel
def aX8_init_0 (mc ms : Nat) (X : Nat → zV) (Q : zQt) : zT :=
  zla 0 <| zoi <| zla 0 <| zc (.int 1920) <| zna mc ms 1 <| zpr 8 0 <| zrv Q
def lvX8_init : Nat → List Nat := fun L => match L with
  | 0 => [0]
  | _ => []
def wX8_init : zSp := fun mc ms av M Q => ((zlay av).length ≤ 1 ∧ zpick (zlay av) [0] = some av) ∧ ∀ X : Nat → zV, zin 1 [0] (aX8_init_0 mc ms X Q) X 0 → X 0 0 0 av [] M
set_option maxRecDepth 100000 in
set_option maxHeartbeats 4000000 in
theorem sX8_init (l : Launch) (G : zG) : zSnd l G yX8_init cX8_init 1 none 1 20 wX8_init := by
  refine zmk [0] (by decide) (fun mc ms av M Q h => h.1) ?_
  intro p e R s m args below meth c mc ms av M Q hC hRf hRl hr hnm h lv hlv
  obtain ⟨X, hXe⟩ : ∃ X : Nat → zV, X = fun L u v vs st M => ∀ lv, zpick lv (lvX8_init L) = some vs → zAt p l e R s m args below meth c (MQ below (zQ G Q) args s mc ms (zA G)) G 1 L u v lv st M := ⟨_, rfl⟩
  have hJ : ∀ L, zOk p l e R s m args below meth c (MQ below (zQ G Q) args s mc ms (zA G)) G 1 L (zj X L (lvX8_init L)) := fun L => S_jump (fun u v lv vs st M hp hx => by rw [hXe] at hx; exact hx lv hp)
  have hB0 : zin 1 [0] (aX8_init_0 mc ms X Q) X 0 := by
    intro u v vs st M hb
    rw [hXe]
    refine fun lv hp => S_block (L := 0) (live := [0]) ?_ u v lv vs st M hp hb
    unfold aX8_init_0
    refine S_aload_n (pc := 0) hC dX8_init_0 rfl ?_
    refine S_objInit (pc := 1) hC wd_172 wd_35 wd_36 (by rw [hRf]; decide) (by rw [hRl]; decide) dX8_init_1 ?_
    refine S_aload_n (pc := 4) hC dX8_init_4 rfl ?_
    refine S_sipush (pc := 5) hC dX8_init_5 (by decide) ?_
    refine S_newa_int (pc := 8) hC wd_100 dX8_init_8 ?_
    refine S_putr (pc := 10) hC cfX8 (by decide) (Or.inr ⟨_, rfl⟩) (Or.inr ⟨rfl, hnm, rfl⟩) wd_173 dX8_init_10 ?_
    exact S_vreturn (pc := 13) hC hr dX8_init_13
  have := h.2 X hB0
  rw [hXe] at this
  exact this lv hlv
theorem dX9_init_0 : decode cX9_init 0 = .ok (.aload_n 0, 1) := by decide +kernel
theorem dX9_init_1 : decode cX9_init 1 = .ok (.invokespecial 3, 3) := by decide +kernel
theorem dX9_init_4 : decode cX9_init 4 = .ok (.aload_n 0, 1) := by decide +kernel
theorem dX9_init_5 : decode cX9_init 5 = .ok (.sipush 384, 3) := by decide +kernel
theorem dX9_init_8 : decode cX9_init 8 = .ok (.newarray .int, 2) := by decide +kernel
theorem dX9_init_10 : decode cX9_init 10 = .ok (.putfield 9, 3) := by decide +kernel
theorem dX9_init_13 : decode cX9_init 13 = .ok (.return_, 1) := by decide +kernel
def aX9_init_0 (mc ms : Nat) (X : Nat → zV) (Q : zQt) : zT :=
  zla 0 <| zoi <| zla 0 <| zc (.int 384) <| zna mc ms 1 <| zpr 9 0 <| zrv Q
def lvX9_init : Nat → List Nat := fun L => match L with
  | 0 => [0]
  | _ => []
def wX9_init : zSp := fun mc ms av M Q => ((zlay av).length ≤ 1 ∧ zpick (zlay av) [0] = some av) ∧ ∀ X : Nat → zV, zin 1 [0] (aX9_init_0 mc ms X Q) X 0 → X 0 0 0 av [] M
set_option maxRecDepth 100000 in
set_option maxHeartbeats 4000000 in
theorem sX9_init (l : Launch) (G : zG) : zSnd l G yX9_init cX9_init 1 none 1 20 wX9_init := by
  refine zmk [0] (by decide) (fun mc ms av M Q h => h.1) ?_
  intro p e R s m args below meth c mc ms av M Q hC hRf hRl hr hnm h lv hlv
  obtain ⟨X, hXe⟩ : ∃ X : Nat → zV, X = fun L u v vs st M => ∀ lv, zpick lv (lvX9_init L) = some vs → zAt p l e R s m args below meth c (MQ below (zQ G Q) args s mc ms (zA G)) G 1 L u v lv st M := ⟨_, rfl⟩
  have hJ : ∀ L, zOk p l e R s m args below meth c (MQ below (zQ G Q) args s mc ms (zA G)) G 1 L (zj X L (lvX9_init L)) := fun L => S_jump (fun u v lv vs st M hp hx => by rw [hXe] at hx; exact hx lv hp)
  have hB0 : zin 1 [0] (aX9_init_0 mc ms X Q) X 0 := by
    intro u v vs st M hb
    rw [hXe]
    refine fun lv hp => S_block (L := 0) (live := [0]) ?_ u v lv vs st M hp hb
    unfold aX9_init_0
    refine S_aload_n (pc := 0) hC dX9_init_0 rfl ?_
    refine S_objInit (pc := 1) hC wd_94 wd_35 wd_36 (by rw [hRf]; decide) (by rw [hRl]; decide) dX9_init_1 ?_
    refine S_aload_n (pc := 4) hC dX9_init_4 rfl ?_
    refine S_sipush (pc := 5) hC dX9_init_5 (by decide) ?_
    refine S_newa_int (pc := 8) hC wd_100 dX9_init_8 ?_
    refine S_putr (pc := 10) hC cfX9 (by decide) (Or.inr ⟨_, rfl⟩) (Or.inr ⟨rfl, hnm, rfl⟩) wd_95 dX9_init_10 ?_
    exact S_vreturn (pc := 13) hC hr dX9_init_13
  have := h.2 X hB0
  rw [hXe] at this
  exact this lv hlv
theorem dX9_origin_0 : decode cX9_origin 0 = .ok (.aload_n 1, 1) := by decide +kernel
theorem dX9_origin_1 : decode cX9_origin 1 = .ok (.getfield 19, 3) := by decide +kernel
theorem dX9_origin_4 : decode cX9_origin 4 = .ok (.iload_n 2, 1) := by decide +kernel
theorem dX9_origin_5 : decode cX9_origin 5 = .ok (.iaload, 1) := by decide +kernel
theorem dX9_origin_6 : decode cX9_origin 6 = .ok (.bipush 63, 2) := by decide +kernel
theorem dX9_origin_8 : decode cX9_origin 8 = .ok (.iand, 1) := by decide +kernel
theorem dX9_origin_9 : decode cX9_origin 9 = .ok (.istore 5, 2) := by decide +kernel
theorem dX9_origin_11 : decode cX9_origin 11 = .ok (.aload_n 1, 1) := by decide +kernel
theorem dX9_origin_12 : decode cX9_origin 12 = .ok (.getfield 19, 3) := by decide +kernel
theorem dX9_origin_15 : decode cX9_origin 15 = .ok (.iload_n 2, 1) := by decide +kernel
theorem dX9_origin_16 : decode cX9_origin 16 = .ok (.iaload, 1) := by decide +kernel
theorem dX9_origin_17 : decode cX9_origin 17 = .ok (.bipush 6, 2) := by decide +kernel
theorem dX9_origin_19 : decode cX9_origin 19 = .ok (.ishr, 1) := by decide +kernel
theorem dX9_origin_20 : decode cX9_origin 20 = .ok (.bipush 63, 2) := by decide +kernel
theorem dX9_origin_22 : decode cX9_origin 22 = .ok (.iand, 1) := by decide +kernel
theorem dX9_origin_23 : decode cX9_origin 23 = .ok (.istore 6, 2) := by decide +kernel
theorem dX9_origin_25 : decode cX9_origin 25 = .ok (.iconst 0, 1) := by decide +kernel
theorem dX9_origin_26 : decode cX9_origin 26 = .ok (.istore 7, 2) := by decide +kernel
theorem dX9_origin_28 : decode cX9_origin 28 = .ok (.iconst 0, 1) := by decide +kernel
theorem dX9_origin_29 : decode cX9_origin 29 = .ok (.istore 8, 2) := by decide +kernel
theorem dX9_origin_31 : decode cX9_origin 31 = .ok (.iconst 0, 1) := by decide +kernel
theorem dX9_origin_32 : decode cX9_origin 32 = .ok (.istore 9, 2) := by decide +kernel
theorem dX9_origin_34 : decode cX9_origin 34 = .ok (.iconst 0, 1) := by decide +kernel
theorem dX9_origin_35 : decode cX9_origin 35 = .ok (.istore 10, 2) := by decide +kernel
theorem dX9_origin_37 : decode cX9_origin 37 = .ok (.iload 10, 2) := by decide +kernel
theorem dX9_origin_39 : decode cX9_origin 39 = .ok (.aload_n 1, 1) := by decide +kernel
theorem dX9_origin_40 : decode cX9_origin 40 = .ok (.getfield 63, 3) := by decide +kernel
theorem dX9_origin_43 : decode cX9_origin 43 = .ok (.if_icmp .ge 118, 3) := by decide +kernel
theorem dX9_origin_46 : decode cX9_origin 46 = .ok (.aload_n 1, 1) := by decide +kernel
theorem dX9_origin_47 : decode cX9_origin 47 = .ok (.getfield 19, 3) := by decide +kernel
theorem dX9_origin_50 : decode cX9_origin 50 = .ok (.iload 10, 2) := by decide +kernel
theorem dX9_origin_52 : decode cX9_origin 52 = .ok (.iaload, 1) := by decide +kernel
theorem dX9_origin_53 : decode cX9_origin 53 = .ok (.bipush 63, 2) := by decide +kernel
theorem dX9_origin_55 : decode cX9_origin 55 = .ok (.iand, 1) := by decide +kernel
theorem dX9_origin_56 : decode cX9_origin 56 = .ok (.istore 11, 2) := by decide +kernel
theorem dX9_origin_58 : decode cX9_origin 58 = .ok (.iload 11, 2) := by decide +kernel
theorem dX9_origin_60 : decode cX9_origin 60 = .ok (.iload 5, 2) := by decide +kernel
theorem dX9_origin_62 : decode cX9_origin 62 = .ok (.if_icmp .eq 93, 3) := by decide +kernel
theorem dX9_origin_65 : decode cX9_origin 65 = .ok (.aload_n 1, 1) := by decide +kernel
theorem dX9_origin_66 : decode cX9_origin 66 = .ok (.getfield 19, 3) := by decide +kernel
theorem dX9_origin_69 : decode cX9_origin 69 = .ok (.iload 10, 2) := by decide +kernel
theorem dX9_origin_71 : decode cX9_origin 71 = .ok (.iaload, 1) := by decide +kernel
theorem dX9_origin_72 : decode cX9_origin 72 = .ok (.bipush 6, 2) := by decide +kernel
theorem dX9_origin_74 : decode cX9_origin 74 = .ok (.ishr, 1) := by decide +kernel
theorem dX9_origin_75 : decode cX9_origin 75 = .ok (.bipush 63, 2) := by decide +kernel
theorem dX9_origin_77 : decode cX9_origin 77 = .ok (.iand, 1) := by decide +kernel
theorem dX9_origin_78 : decode cX9_origin 78 = .ok (.iload 6, 2) := by decide +kernel
theorem dX9_origin_80 : decode cX9_origin 80 = .ok (.if_icmp .ne 75, 3) := by decide +kernel
theorem dX9_origin_83 : decode cX9_origin 83 = .ok (.aload_n 1, 1) := by decide +kernel
theorem dX9_origin_84 : decode cX9_origin 84 = .ok (.getfield 28, 3) := by decide +kernel
theorem dX9_origin_87 : decode cX9_origin 87 = .ok (.getfield 42, 3) := by decide +kernel
theorem dX9_origin_90 : decode cX9_origin 90 = .ok (.iload 11, 2) := by decide +kernel
theorem dX9_origin_92 : decode cX9_origin 92 = .ok (.iaload, 1) := by decide +kernel
theorem dX9_origin_93 : decode cX9_origin 93 = .ok (.aload_n 1, 1) := by decide +kernel
theorem dX9_origin_94 : decode cX9_origin 94 = .ok (.getfield 28, 3) := by decide +kernel
theorem dX9_origin_97 : decode cX9_origin 97 = .ok (.getfield 42, 3) := by decide +kernel
theorem dX9_origin_100 : decode cX9_origin 100 = .ok (.iload 5, 2) := by decide +kernel
theorem dX9_origin_102 : decode cX9_origin 102 = .ok (.iaload, 1) := by decide +kernel
theorem dX9_origin_103 : decode cX9_origin 103 = .ok (.if_icmp .ne 52, 3) := by decide +kernel
theorem dX9_origin_106 : decode cX9_origin 106 = .ok (.iconst 1, 1) := by decide +kernel
theorem dX9_origin_107 : decode cX9_origin 107 = .ok (.istore 7, 2) := by decide +kernel
theorem dX9_origin_109 : decode cX9_origin 109 = .ok (.iload 8, 2) := by decide +kernel
theorem dX9_origin_111 : decode cX9_origin 111 = .ok (.iload 11, 2) := by decide +kernel
theorem dX9_origin_113 : decode cX9_origin 113 = .ok (.bipush 7, 2) := by decide +kernel
theorem dX9_origin_115 : decode cX9_origin 115 = .ok (.iand, 1) := by decide +kernel
theorem dX9_origin_116 : decode cX9_origin 116 = .ok (.iload 5, 2) := by decide +kernel
theorem dX9_origin_118 : decode cX9_origin 118 = .ok (.bipush 7, 2) := by decide +kernel
theorem dX9_origin_120 : decode cX9_origin 120 = .ok (.iand, 1) := by decide +kernel
theorem dX9_origin_121 : decode cX9_origin 121 = .ok (.if_icmp .ne 7, 3) := by decide +kernel
theorem dX9_origin_124 : decode cX9_origin 124 = .ok (.iconst 1, 1) := by decide +kernel
theorem dX9_origin_125 : decode cX9_origin 125 = .ok (.goto 4, 3) := by decide +kernel
theorem dX9_origin_128 : decode cX9_origin 128 = .ok (.iconst 0, 1) := by decide +kernel
theorem dX9_origin_129 : decode cX9_origin 129 = .ok (.ior, 1) := by decide +kernel
theorem dX9_origin_130 : decode cX9_origin 130 = .ok (.istore 8, 2) := by decide +kernel
theorem dX9_origin_132 : decode cX9_origin 132 = .ok (.iload 9, 2) := by decide +kernel
theorem dX9_origin_134 : decode cX9_origin 134 = .ok (.iload 11, 2) := by decide +kernel
theorem dX9_origin_136 : decode cX9_origin 136 = .ok (.bipush 8, 2) := by decide +kernel
theorem dX9_origin_138 : decode cX9_origin 138 = .ok (.idiv, 1) := by decide +kernel
theorem dX9_origin_139 : decode cX9_origin 139 = .ok (.iload 5, 2) := by decide +kernel
theorem dX9_origin_141 : decode cX9_origin 141 = .ok (.bipush 8, 2) := by decide +kernel
theorem dX9_origin_143 : decode cX9_origin 143 = .ok (.idiv, 1) := by decide +kernel
theorem dX9_origin_144 : decode cX9_origin 144 = .ok (.if_icmp .ne 7, 3) := by decide +kernel
theorem dX9_origin_147 : decode cX9_origin 147 = .ok (.iconst 1, 1) := by decide +kernel
theorem dX9_origin_148 : decode cX9_origin 148 = .ok (.goto 4, 3) := by decide +kernel
theorem dX9_origin_151 : decode cX9_origin 151 = .ok (.iconst 0, 1) := by decide +kernel
theorem dX9_origin_152 : decode cX9_origin 152 = .ok (.ior, 1) := by decide +kernel
theorem dX9_origin_153 : decode cX9_origin 153 = .ok (.istore 9, 2) := by decide +kernel
theorem dX9_origin_155 : decode cX9_origin 155 = .ok (.iinc 10 1, 3) := by decide +kernel
theorem dX9_origin_158 : decode cX9_origin 158 = .ok (.goto (-121), 3) := by decide +kernel
theorem dX9_origin_161 : decode cX9_origin 161 = .ok (.lload_n 3, 1) := by decide +kernel
theorem dX9_origin_162 : decode cX9_origin 162 = .ok (.lstore 10, 2) := by decide +kernel
theorem dX9_origin_164 : decode cX9_origin 164 = .ok (.iload 7, 2) := by decide +kernel
theorem dX9_origin_166 : decode cX9_origin 166 = .ok (.ifCond .eq 30, 3) := by decide +kernel
theorem dX9_origin_169 : decode cX9_origin 169 = .ok (.iload 8, 2) := by decide +kernel
theorem dX9_origin_171 : decode cX9_origin 171 = .ok (.ifCond .eq 8, 3) := by decide +kernel
theorem dX9_origin_174 : decode cX9_origin 174 = .ok (.iload 9, 2) := by decide +kernel
theorem dX9_origin_176 : decode cX9_origin 176 = .ok (.ifCond .eq 20, 3) := by decide +kernel
theorem dX9_origin_179 : decode cX9_origin 179 = .ok (.lload 10, 2) := by decide +kernel
theorem dX9_origin_181 : decode cX9_origin 181 = .ok (.bipush 8, 2) := by decide +kernel
theorem dX9_origin_183 : decode cX9_origin 183 = .ok (.lshl, 1) := by decide +kernel
theorem dX9_origin_184 : decode cX9_origin 184 = .ok (.bipush 97, 2) := by decide +kernel
theorem dX9_origin_186 : decode cX9_origin 186 = .ok (.iload 5, 2) := by decide +kernel
theorem dX9_origin_188 : decode cX9_origin 188 = .ok (.bipush 7, 2) := by decide +kernel
theorem dX9_origin_190 : decode cX9_origin 190 = .ok (.iand, 1) := by decide +kernel
theorem dX9_origin_191 : decode cX9_origin 191 = .ok (.iadd, 1) := by decide +kernel
theorem dX9_origin_192 : decode cX9_origin 192 = .ok (.i2l, 1) := by decide +kernel
theorem dX9_origin_193 : decode cX9_origin 193 = .ok (.lor, 1) := by decide +kernel
theorem dX9_origin_194 : decode cX9_origin 194 = .ok (.lstore 10, 2) := by decide +kernel
theorem dX9_origin_196 : decode cX9_origin 196 = .ok (.iload 8, 2) := by decide +kernel
theorem dX9_origin_198 : decode cX9_origin 198 = .ok (.ifCond .eq 20, 3) := by decide +kernel
theorem dX9_origin_201 : decode cX9_origin 201 = .ok (.lload 10, 2) := by decide +kernel
theorem dX9_origin_203 : decode cX9_origin 203 = .ok (.bipush 8, 2) := by decide +kernel
theorem dX9_origin_205 : decode cX9_origin 205 = .ok (.lshl, 1) := by decide +kernel
theorem dX9_origin_206 : decode cX9_origin 206 = .ok (.bipush 49, 2) := by decide +kernel
theorem dX9_origin_208 : decode cX9_origin 208 = .ok (.iload 5, 2) := by decide +kernel
theorem dX9_origin_210 : decode cX9_origin 210 = .ok (.bipush 8, 2) := by decide +kernel
theorem dX9_origin_212 : decode cX9_origin 212 = .ok (.idiv, 1) := by decide +kernel
theorem dX9_origin_213 : decode cX9_origin 213 = .ok (.iadd, 1) := by decide +kernel
theorem dX9_origin_214 : decode cX9_origin 214 = .ok (.i2l, 1) := by decide +kernel
theorem dX9_origin_215 : decode cX9_origin 215 = .ok (.lor, 1) := by decide +kernel
theorem dX9_origin_216 : decode cX9_origin 216 = .ok (.lstore 10, 2) := by decide +kernel
theorem dX9_origin_218 : decode cX9_origin 218 = .ok (.lload 10, 2) := by decide +kernel
theorem dX9_origin_220 : decode cX9_origin 220 = .ok (.lreturn, 1) := by decide +kernel
def kX9_origin_25 (mc ms : Nat) (X : Nat → zV) (Q : zQt) : zT :=
  zc (.int 0) <| zsi 7 <| zc (.int 0) <| zsi 8 <| zc (.int 0) <| zsi 9 <| zc (.int 0) <| zsi 10 <| zj X 37 [1, 3, 5, 6, 7, 8, 9, 10]
def kX9_origin_11 (mc ms : Nat) (X : Nat → zV) (Q : zQt) : zT :=
  zla 1 <| zgR 4 2 <| zli 2 <| zal 1 <| zc (.int 6) <| zii (fun x y => x >>> (y &&& 31)) <| zc (.int 63) <| zii (fun x y => x &&& y) <| zsiN 6 <| kX9_origin_25 mc ms X Q
def kX9_origin_58 (mc ms : Nat) (X : Nat → zV) (Q : zQt) : zT :=
  zli 11 <| zli 5 <| zic (fun x y => x = y) (zj X 155 [1, 3, 5, 6, 7, 8, 9, 10]) <| zla 1 <| zgR 4 2 <| zli 10 <| zal 1 <| zc (.int 6) <| zii (fun x y => x >>> (y &&& 31)) <| zc (.int 63) <| zii (fun x y => x &&& y) <| zli 6 <| zic (fun x y => x = y) (zla 1 <| zgR 4 0 <| zgR 0 1 <| zli 11 <| zal 1 <| zla 1 <| zgR 4 0 <| zgR 0 1 <| zli 5 <| zal 1 <| zic (fun x y => x = y) (zc (.int 1) <| zsi 7 <| zli 8 <| zli 11 <| zc (.int 7) <| zii (fun x y => x &&& y) <| zli 5 <| zc (.int 7) <| zii (fun x y => x &&& y) <| zic (fun x y => x = y) (zc (.int 1) <| zj X 129 [1, 3, 5, 6, 7, 9, 10, 11]) <| zc (.int 0) <| zj X 129 [1, 3, 5, 6, 7, 9, 10, 11]) <| zj X 155 [1, 3, 5, 6, 7, 8, 9, 10]) <| zj X 155 [1, 3, 5, 6, 7, 8, 9, 10]
def aX9_origin_0 (mc ms : Nat) (X : Nat → zV) (Q : zQt) : zT :=
  zla 1 <| zgR 4 2 <| zli 2 <| zal 1 <| zc (.int 63) <| zii (fun x y => x &&& y) <| zsiN 5 <| kX9_origin_11 mc ms X Q
def aX9_origin_37 (mc ms : Nat) (X : Nat → zV) (Q : zQt) : zT :=
  zli 10 <| zla 1 <| zgi 4 3 <| zic (fun x y => y ≤ x) (zll 3 <| zsl 10 <| zli 7 <| zif (fun x => x = 0) (zj X 196 [5, 8, 10]) <| zli 8 <| zif (fun x => x = 0) (zj X 179 [5, 8, 10]) <| zli 9 <| zif (fun x => x = 0) (zj X 196 [5, 8, 10]) <| zj X 179 [5, 8, 10]) <| zla 1 <| zgR 4 2 <| zli 10 <| zal 1 <| zc (.int 63) <| zii (fun x y => x &&& y) <| zsiN 11 <| kX9_origin_58 mc ms X Q
def aX9_origin_129 (mc ms : Nat) (X : Nat → zV) (Q : zQt) : zT :=
  zii (fun x y => x ||| y) <| zsi 8 <| zli 9 <| zli 11 <| zc (.int 8) <| zid (fun x y => x / y) <| zli 5 <| zc (.int 8) <| zid (fun x y => x / y) <| zic (fun x y => x = y) (zc (.int 1) <| zj X 152 [1, 3, 5, 6, 7, 8, 10]) <| zc (.int 0) <| zj X 152 [1, 3, 5, 6, 7, 8, 10]
def aX9_origin_152 (mc ms : Nat) (X : Nat → zV) (Q : zQt) : zT :=
  zii (fun x y => x ||| y) <| zsi 9 <| zj X 155 [1, 3, 5, 6, 7, 8, 9, 10]
def aX9_origin_155 (mc ms : Nat) (X : Nat → zV) (Q : zQt) : zT :=
  zinc 10 1 <| zj X 37 [1, 3, 5, 6, 7, 8, 9, 10]
def aX9_origin_179 (mc ms : Nat) (X : Nat → zV) (Q : zQt) : zT :=
  zll 10 <| zc (.int 8) <| zji (fun x y => x <<< (y.toInt64 &&& 63)) <| zc (.int 97) <| zli 5 <| zc (.int 7) <| zii (fun x y => x &&& y) <| zii (fun x y => x + y) <| zi2l <| zjj (fun x y => x ||| y) <| zslN 10 <| zj X 196 [5, 8, 10]
def aX9_origin_196 (mc ms : Nat) (X : Nat → zV) (Q : zQt) : zT :=
  zli 8 <| zif (fun x => x = 0) (zj X 218 [10]) <| zll 10 <| zc (.int 8) <| zji (fun x y => x <<< (y.toInt64 &&& 63)) <| zc (.int 49) <| zli 5 <| zc (.int 8) <| zid (fun x y => x / y) <| zii (fun x y => x + y) <| zi2l <| zjj (fun x y => x ||| y) <| zslN 10 <| zj X 218 [10]
def aX9_origin_218 (mc ms : Nat) (X : Nat → zV) (Q : zQt) : zT :=
  zll 10 <| zrl Q
def lvX9_origin : Nat → List Nat := fun L => match L with
  | 0 => [0, 1, 2, 3]
  | 37 => [1, 3, 5, 6, 7, 8, 9, 10]
  | 129 => [1, 3, 5, 6, 7, 9, 10, 11]
  | 152 => [1, 3, 5, 6, 7, 8, 10]
  | 155 => [1, 3, 5, 6, 7, 8, 9, 10]
  | 179 => [5, 8, 10]
  | 196 => [5, 8, 10]
  | 218 => [10]
  | _ => []
def wX9_origin : zSp := fun mc ms av M Q => ((zlay av).length ≤ 12 ∧ zpick (zlay av) [0, 1, 2, 3] = some av) ∧ ∀ X : Nat → zV, zin 12 [0, 1, 2, 3] (aX9_origin_0 mc ms X Q) X 0 → zin 12 [1, 3, 5, 6, 7, 8, 9, 10] (aX9_origin_37 mc ms X Q) X 37 → zin 12 [1, 3, 5, 6, 7, 9, 10, 11] (aX9_origin_129 mc ms X Q) X 129 → zin 12 [1, 3, 5, 6, 7, 8, 10] (aX9_origin_152 mc ms X Q) X 152 → zin 12 [1, 3, 5, 6, 7, 8, 9, 10] (aX9_origin_155 mc ms X Q) X 155 → zin 12 [5, 8, 10] (aX9_origin_179 mc ms X Q) X 179 → zin 12 [5, 8, 10] (aX9_origin_196 mc ms X Q) X 196 → zin 12 [10] (aX9_origin_218 mc ms X Q) X 218 → X 0 0 0 av [] M
set_option maxRecDepth 100000 in
set_option maxHeartbeats 4000000 in
theorem sX9_origin (l : Launch) (G : zG) : zSnd l G yX9_origin cX9_origin 12 (some .long) 0 0 wX9_origin := by
  refine zmk [0, 1, 2, 3] (by decide) (fun mc ms av M Q h => h.1) ?_
  intro p e R s m args below meth c mc ms av M Q hC hRf hRl hr hnm h lv hlv
  obtain ⟨X, hXe⟩ : ∃ X : Nat → zV, X = fun L u v vs st M => ∀ lv, zpick lv (lvX9_origin L) = some vs → zAt p l e R s m args below meth c (MQ below (zQ G Q) args s mc ms (zA G)) G 12 L u v lv st M := ⟨_, rfl⟩
  have hJ : ∀ L, zOk p l e R s m args below meth c (MQ below (zQ G Q) args s mc ms (zA G)) G 12 L (zj X L (lvX9_origin L)) := fun L => S_jump (fun u v lv vs st M hp hx => by rw [hXe] at hx; exact hx lv hp)
  have hB0 : zin 12 [0, 1, 2, 3] (aX9_origin_0 mc ms X Q) X 0 := by
    intro u v vs st M hb
    rw [hXe]
    refine fun lv hp => S_block (L := 0) (live := [0, 1, 2, 3]) ?_ u v lv vs st M hp hb
    unfold aX9_origin_0
    refine S_aload_n (pc := 0) hC dX9_origin_0 rfl ?_
    refine S_getR (pc := 1) hC cfX4 (by decide) (Or.inr ⟨_, rfl⟩) wd_316 dX9_origin_1 ?_
    refine S_iload_n (pc := 4) hC dX9_origin_4 rfl ?_
    refine S_iaload (pc := 5) hC dX9_origin_5 ?_
    refine S_bipush (pc := 6) hC dX9_origin_6 (by decide) ?_
    refine S_iand (pc := 8) hC dX9_origin_8 ?_
    refine S_istore_N (pc := 9) hC dX9_origin_9 (by decide) ?_
    unfold kX9_origin_11
    refine S_aload_n (pc := 11) hC dX9_origin_11 rfl ?_
    refine S_getR (pc := 12) hC cfX4 (by decide) (Or.inr ⟨_, rfl⟩) wd_316 dX9_origin_12 ?_
    refine S_iload_n (pc := 15) hC dX9_origin_15 rfl ?_
    refine S_iaload (pc := 16) hC dX9_origin_16 ?_
    refine S_bipush (pc := 17) hC dX9_origin_17 (by decide) ?_
    refine S_ishr (pc := 19) hC dX9_origin_19 ?_
    refine S_bipush (pc := 20) hC dX9_origin_20 (by decide) ?_
    refine S_iand (pc := 22) hC dX9_origin_22 ?_
    refine S_istore_N (pc := 23) hC dX9_origin_23 (by decide) ?_
    unfold kX9_origin_25
    refine S_iconst (pc := 25) hC dX9_origin_25 (by decide) ?_
    refine S_istore (pc := 26) hC dX9_origin_26 (by decide) ?_
    refine S_iconst (pc := 28) hC dX9_origin_28 (by decide) ?_
    refine S_istore (pc := 29) hC dX9_origin_29 (by decide) ?_
    refine S_iconst (pc := 31) hC dX9_origin_31 (by decide) ?_
    refine S_istore (pc := 32) hC dX9_origin_32 (by decide) ?_
    refine S_iconst (pc := 34) hC dX9_origin_34 (by decide) ?_
    refine S_istore (pc := 35) hC dX9_origin_35 (by decide) ?_
    exact hJ 37
  have hB37 : zin 12 [1, 3, 5, 6, 7, 8, 9, 10] (aX9_origin_37 mc ms X Q) X 37 := by
    intro u v vs st M hb
    rw [hXe]
    refine fun lv hp => S_block (L := 37) (live := [1, 3, 5, 6, 7, 8, 9, 10]) ?_ u v lv vs st M hp hb
    unfold aX9_origin_37
    refine S_iload (pc := 37) hC dX9_origin_37 ?_
    refine S_aload_n (pc := 39) hC dX9_origin_39 rfl ?_
    refine S_geti (pc := 40) hC cfX4 (by decide) (Or.inl rfl) wd_324 dX9_origin_40 ?_
    refine S_icmp_ge (pc := 43) (tgt := 161) hC dX9_origin_43 (by decide) ?_ ?_
    · refine S_lload_n (pc := 161) hC dX9_origin_161 rfl ?_
      refine S_lstore (pc := 162) hC dX9_origin_162 (by decide) ?_
      refine S_iload (pc := 164) hC dX9_origin_164 ?_
      refine S_if_eq (pc := 166) (tgt := 196) hC dX9_origin_166 (by decide) ?_ ?_
      · exact hJ 196
      · refine S_iload (pc := 169) hC dX9_origin_169 ?_
        refine S_if_eq (pc := 171) (tgt := 179) hC dX9_origin_171 (by decide) ?_ ?_
        · exact hJ 179
        · refine S_iload (pc := 174) hC dX9_origin_174 ?_
          refine S_if_eq (pc := 176) (tgt := 196) hC dX9_origin_176 (by decide) ?_ ?_
          · exact hJ 196
          · exact hJ 179
    · refine S_aload_n (pc := 46) hC dX9_origin_46 rfl ?_
      refine S_getR (pc := 47) hC cfX4 (by decide) (Or.inr ⟨_, rfl⟩) wd_316 dX9_origin_47 ?_
      refine S_iload (pc := 50) hC dX9_origin_50 ?_
      refine S_iaload (pc := 52) hC dX9_origin_52 ?_
      refine S_bipush (pc := 53) hC dX9_origin_53 (by decide) ?_
      refine S_iand (pc := 55) hC dX9_origin_55 ?_
      refine S_istore_N (pc := 56) hC dX9_origin_56 (by decide) ?_
      unfold kX9_origin_58
      refine S_iload (pc := 58) hC dX9_origin_58 ?_
      refine S_iload (pc := 60) hC dX9_origin_60 ?_
      refine S_icmp_eq (pc := 62) (tgt := 155) hC dX9_origin_62 (by decide) ?_ ?_
      · exact hJ 155
      · refine S_aload_n (pc := 65) hC dX9_origin_65 rfl ?_
        refine S_getR (pc := 66) hC cfX4 (by decide) (Or.inr ⟨_, rfl⟩) wd_316 dX9_origin_66 ?_
        refine S_iload (pc := 69) hC dX9_origin_69 ?_
        refine S_iaload (pc := 71) hC dX9_origin_71 ?_
        refine S_bipush (pc := 72) hC dX9_origin_72 (by decide) ?_
        refine S_ishr (pc := 74) hC dX9_origin_74 ?_
        refine S_bipush (pc := 75) hC dX9_origin_75 (by decide) ?_
        refine S_iand (pc := 77) hC dX9_origin_77 ?_
        refine S_iload (pc := 78) hC dX9_origin_78 ?_
        refine S_icmp_ne (pc := 80) (tgt := 155) hC dX9_origin_80 (by decide) ?_ ?_
        · exact hJ 155
        · refine S_aload_n (pc := 83) hC dX9_origin_83 rfl ?_
          refine S_getR (pc := 84) hC cfX4 (by decide) (Or.inl ⟨_, rfl⟩) wd_308 dX9_origin_84 ?_
          refine S_getR (pc := 87) hC cfX0 (by decide) (Or.inr ⟨_, rfl⟩) wd_216 dX9_origin_87 ?_
          refine S_iload (pc := 90) hC dX9_origin_90 ?_
          refine S_iaload (pc := 92) hC dX9_origin_92 ?_
          refine S_aload_n (pc := 93) hC dX9_origin_93 rfl ?_
          refine S_getR (pc := 94) hC cfX4 (by decide) (Or.inl ⟨_, rfl⟩) wd_308 dX9_origin_94 ?_
          refine S_getR (pc := 97) hC cfX0 (by decide) (Or.inr ⟨_, rfl⟩) wd_216 dX9_origin_97 ?_
          refine S_iload (pc := 100) hC dX9_origin_100 ?_
          refine S_iaload (pc := 102) hC dX9_origin_102 ?_
          refine S_icmp_ne (pc := 103) (tgt := 155) hC dX9_origin_103 (by decide) ?_ ?_
          · exact hJ 155
          · refine S_iconst (pc := 106) hC dX9_origin_106 (by decide) ?_
            refine S_istore (pc := 107) hC dX9_origin_107 (by decide) ?_
            refine S_iload (pc := 109) hC dX9_origin_109 ?_
            refine S_iload (pc := 111) hC dX9_origin_111 ?_
            refine S_bipush (pc := 113) hC dX9_origin_113 (by decide) ?_
            refine S_iand (pc := 115) hC dX9_origin_115 ?_
            refine S_iload (pc := 116) hC dX9_origin_116 ?_
            refine S_bipush (pc := 118) hC dX9_origin_118 (by decide) ?_
            refine S_iand (pc := 120) hC dX9_origin_120 ?_
            refine S_icmp_ne (pc := 121) (tgt := 128) hC dX9_origin_121 (by decide) ?_ ?_
            · refine S_iconst (pc := 128) hC dX9_origin_128 (by decide) ?_
              exact hJ 129
            · refine S_iconst (pc := 124) hC dX9_origin_124 (by decide) ?_
              refine S_goto (pc := 125) (tgt := 129) hC dX9_origin_125 (by decide) ?_
              exact hJ 129
  have hB129 : zin 12 [1, 3, 5, 6, 7, 9, 10, 11] (aX9_origin_129 mc ms X Q) X 129 := by
    intro u v vs st M hb
    rw [hXe]
    refine fun lv hp => S_block (L := 129) (live := [1, 3, 5, 6, 7, 9, 10, 11]) ?_ u v lv vs st M hp hb
    unfold aX9_origin_129
    refine S_ior (pc := 129) hC dX9_origin_129 ?_
    refine S_istore (pc := 130) hC dX9_origin_130 (by decide) ?_
    refine S_iload (pc := 132) hC dX9_origin_132 ?_
    refine S_iload (pc := 134) hC dX9_origin_134 ?_
    refine S_bipush (pc := 136) hC dX9_origin_136 (by decide) ?_
    refine S_idiv (pc := 138) hC dX9_origin_138 ?_
    refine S_iload (pc := 139) hC dX9_origin_139 ?_
    refine S_bipush (pc := 141) hC dX9_origin_141 (by decide) ?_
    refine S_idiv (pc := 143) hC dX9_origin_143 ?_
    refine S_icmp_ne (pc := 144) (tgt := 151) hC dX9_origin_144 (by decide) ?_ ?_
    · refine S_iconst (pc := 151) hC dX9_origin_151 (by decide) ?_
      exact hJ 152
    · refine S_iconst (pc := 147) hC dX9_origin_147 (by decide) ?_
      refine S_goto (pc := 148) (tgt := 152) hC dX9_origin_148 (by decide) ?_
      exact hJ 152
  have hB152 : zin 12 [1, 3, 5, 6, 7, 8, 10] (aX9_origin_152 mc ms X Q) X 152 := by
    intro u v vs st M hb
    rw [hXe]
    refine fun lv hp => S_block (L := 152) (live := [1, 3, 5, 6, 7, 8, 10]) ?_ u v lv vs st M hp hb
    unfold aX9_origin_152
    refine S_ior (pc := 152) hC dX9_origin_152 ?_
    refine S_istore (pc := 153) hC dX9_origin_153 (by decide) ?_
    exact hJ 155
  have hB155 : zin 12 [1, 3, 5, 6, 7, 8, 9, 10] (aX9_origin_155 mc ms X Q) X 155 := by
    intro u v vs st M hb
    rw [hXe]
    refine fun lv hp => S_block (L := 155) (live := [1, 3, 5, 6, 7, 8, 9, 10]) ?_ u v lv vs st M hp hb
    unfold aX9_origin_155
    refine S_iinc (pc := 155) hC dX9_origin_155 (by decide) (by decide) ?_
    refine S_goto (pc := 158) (tgt := 37) hC dX9_origin_158 (by decide) ?_
    exact hJ 37
  have hB179 : zin 12 [5, 8, 10] (aX9_origin_179 mc ms X Q) X 179 := by
    intro u v vs st M hb
    rw [hXe]
    refine fun lv hp => S_block (L := 179) (live := [5, 8, 10]) ?_ u v lv vs st M hp hb
    unfold aX9_origin_179
    refine S_lload (pc := 179) hC dX9_origin_179 ?_
    refine S_bipush (pc := 181) hC dX9_origin_181 (by decide) ?_
    refine S_lshl (pc := 183) hC dX9_origin_183 ?_
    refine S_bipush (pc := 184) hC dX9_origin_184 (by decide) ?_
    refine S_iload (pc := 186) hC dX9_origin_186 ?_
    refine S_bipush (pc := 188) hC dX9_origin_188 (by decide) ?_
    refine S_iand (pc := 190) hC dX9_origin_190 ?_
    refine S_iadd (pc := 191) hC dX9_origin_191 ?_
    refine S_i2l (pc := 192) hC dX9_origin_192 ?_
    refine S_lor (pc := 193) hC dX9_origin_193 ?_
    refine S_lstore_N (pc := 194) hC dX9_origin_194 (by decide) ?_
    exact hJ 196
  have hB196 : zin 12 [5, 8, 10] (aX9_origin_196 mc ms X Q) X 196 := by
    intro u v vs st M hb
    rw [hXe]
    refine fun lv hp => S_block (L := 196) (live := [5, 8, 10]) ?_ u v lv vs st M hp hb
    unfold aX9_origin_196
    refine S_iload (pc := 196) hC dX9_origin_196 ?_
    refine S_if_eq (pc := 198) (tgt := 218) hC dX9_origin_198 (by decide) ?_ ?_
    · exact hJ 218
    · refine S_lload (pc := 201) hC dX9_origin_201 ?_
      refine S_bipush (pc := 203) hC dX9_origin_203 (by decide) ?_
      refine S_lshl (pc := 205) hC dX9_origin_205 ?_
      refine S_bipush (pc := 206) hC dX9_origin_206 (by decide) ?_
      refine S_iload (pc := 208) hC dX9_origin_208 ?_
      refine S_bipush (pc := 210) hC dX9_origin_210 (by decide) ?_
      refine S_idiv (pc := 212) hC dX9_origin_212 ?_
      refine S_iadd (pc := 213) hC dX9_origin_213 ?_
      refine S_i2l (pc := 214) hC dX9_origin_214 ?_
      refine S_lor (pc := 215) hC dX9_origin_215 ?_
      refine S_lstore_N (pc := 216) hC dX9_origin_216 (by decide) ?_
      exact hJ 218
  have hB218 : zin 12 [10] (aX9_origin_218 mc ms X Q) X 218 := by
    intro u v vs st M hb
    rw [hXe]
    refine fun lv hp => S_block (L := 218) (live := [10]) ?_ u v lv vs st M hp hb
    unfold aX9_origin_218
    refine S_lload (pc := 218) hC dX9_origin_218 ?_
    exact S_lreturn (pc := 220) hC hr dX9_origin_220
  have := h.2 X hB0 hB37 hB129 hB152 hB155 hB179 hB196 hB218
  rw [hXe] at this
  exact this lv hlv
theorem vcX9_origin_25 {mc ms : Nat} {X : Nat → zV} {Q : zQt} {M : zM} {g : Nat} {x2 : Int32} {x3 : Int64} {x5 : Int32} {x6 : Int32} (hW : zWd M g)  (h : X 37 0 0 [.ref g, .long x3, .int x5, .int x6, .int 0, .int 0, .int 0, .int 0] [] M) : kX9_origin_25 mc ms X Q 0 0 [some (.ref 25), some (.ref g), some (.int x2), some (.long x3), none, some (.int x5), some (.int x6), none, none, none, none, none] [] M := h
theorem vcX9_origin_11 {mc ms : Nat} {X : Nat → zV} {Q : zQt} {M : zM} {g : Nat} {x2 : Int32} {x3 : Int64} {x5 : Int32} (hW : zWd M g)  (h : vp_in x2 384 ∧ ∀ y23 : Int32, y23 = ((((M : zM).1 ((g + 7)) (x2 : Int32).toNatClampNeg) >>> ((6 : Int32) &&& 31)) &&& (63 : Int32)) → X 37 0 0 [.ref g, .long x3, .int x5, .int y23, .int 0, .int 0, .int 0, .int 0] [] M) : kX9_origin_11 mc ms X Q 0 0 [some (.ref 25), some (.ref g), some (.int x2), some (.long x3), none, some (.int x5), none, none, none, none, none, none] [] M := ⟨(fgs_0 hW), (g + 7), (fgr_0_2 hW), ⟨384, (fgs_7 hW), h.1, (fun y23 e23 => have h23 := h.2 y23 e23; (vcX9_origin_25 hW  h23))⟩⟩
theorem vX9_origin_0 {mc ms : Nat} {X : Nat → zV} {Q : zQt} {M : zM} {g : Nat} {x2 : Int32} {x3 : Int64} (hW : zWd M g)  (h : vp_in x2 384 ∧ ∀ y9 : Int32, y9 = (((M : zM).1 ((g + 7)) (x2 : Int32).toNatClampNeg) &&& (63 : Int32)) → vp_in x2 384 ∧ ∀ y23 : Int32, y23 = ((((M : zM).1 ((g + 7)) (x2 : Int32).toNatClampNeg) >>> ((6 : Int32) &&& 31)) &&& (63 : Int32)) → X 37 0 0 [.ref g, .long x3, .int y9, .int y23, .int 0, .int 0, .int 0, .int 0] [] M) : aX9_origin_0 mc ms X Q 0 0 [some (.ref 25), some (.ref g), some (.int x2), some (.long x3), none, none, none, none, none, none, none, none] [] M := ⟨(fgs_0 hW), (g + 7), (fgr_0_2 hW), ⟨384, (fgs_7 hW), h.1, (fun y9 e9 => have h9 := h.2 y9 e9; (vcX9_origin_11 hW  h9))⟩⟩
theorem vcX9_origin_58 {mc ms : Nat} {X : Nat → zV} {Q : zQt} {M : zM} {g : Nat} {x3 : Int64} {x5 : Int32} {x6 : Int32} {x7 : Int32} {x8 : Int32} {x9 : Int32} {x10 : Int32} {x11 : Int32} (hW : zWd M g)  (h : (x11 = x5 → X 155 0 0 [.ref g, .long x3, .int x5, .int x6, .int x7, .int x8, .int x9, .int x10] [] M) ∧ (¬ x11 = x5 → vp_in x10 384 ∧ (((((M : zM).1 ((g + 7)) (x10 : Int32).toNatClampNeg) >>> ((6 : Int32) &&& 31)) &&& (63 : Int32)) = x6 → vp_in x11 64 ∧ vp_in x5 64 ∧ (((M : zM).1 ((g + 2)) (x11 : Int32).toNatClampNeg) = ((M : zM).1 ((g + 2)) (x5 : Int32).toNatClampNeg) → ((x11 &&& (7 : Int32)) = (x5 &&& (7 : Int32)) → X 129 0 0 [.ref g, .long x3, .int x5, .int x6, .int 1, .int x9, .int x10, .int x11] [.int 1, .int x8] M) ∧ (¬ (x11 &&& (7 : Int32)) = (x5 &&& (7 : Int32)) → X 129 0 0 [.ref g, .long x3, .int x5, .int x6, .int 1, .int x9, .int x10, .int x11] [.int 0, .int x8] M)) ∧ (¬ ((M : zM).1 ((g + 2)) (x11 : Int32).toNatClampNeg) = ((M : zM).1 ((g + 2)) (x5 : Int32).toNatClampNeg) → X 155 0 0 [.ref g, .long x3, .int x5, .int x6, .int x7, .int x8, .int x9, .int x10] [] M)) ∧ (¬ ((((M : zM).1 ((g + 7)) (x10 : Int32).toNatClampNeg) >>> ((6 : Int32) &&& 31)) &&& (63 : Int32)) = x6 → X 155 0 0 [.ref g, .long x3, .int x5, .int x6, .int x7, .int x8, .int x9, .int x10] [] M))) : kX9_origin_58 mc ms X Q 0 0 [none, some (.ref g), none, some (.long x3), none, some (.int x5), some (.int x6), some (.int x7), some (.int x8), some (.int x9), some (.int x10), some (.int x11)] [] M := ⟨fun c62 => (h.1 c62), fun c62 => ⟨(fgs_0 hW), (g + 7), (fgr_0_2 hW), ⟨384, (fgs_7 hW), (h.2 c62).1, ⟨fun c80 => ⟨(fgs_0 hW), (g + 1), (fgr_0_0 hW), ⟨(fgs_1 hW), (g + 2), (fgr_1_1 hW), ⟨64, (fgs_2 hW), ((h.2 c62).2.1 c80).1, ⟨(fgs_0 hW), (g + 1), (fgr_0_0 hW), ⟨(fgs_1 hW), (g + 2), (fgr_1_1 hW), ⟨64, (fgs_2 hW), ((h.2 c62).2.1 c80).2.1, ⟨fun c103 => ⟨fun c121 => ((((h.2 c62).2.1 c80).2.2.1 c103).1 c121), fun c121 => ((((h.2 c62).2.1 c80).2.2.1 c103).2 c121)⟩, fun c103 => (((h.2 c62).2.1 c80).2.2.2 c103)⟩⟩⟩⟩⟩⟩⟩, fun c80 => ((h.2 c62).2.2 c80)⟩⟩⟩⟩
theorem vX9_origin_37 {mc ms : Nat} {X : Nat → zV} {Q : zQt} {M : zM} {g : Nat} {x3 : Int64} {x5 : Int32} {x6 : Int32} {x7 : Int32} {x8 : Int32} {x9 : Int32} {x10 : Int32} (hW : zWd M g)  (h : ((M.1 g 3) ≤ x10 → (x7 = 0 → X 196 0 0 [.int x5, .int x8, .long x3] [] M) ∧ (¬ x7 = 0 → (x8 = 0 → X 179 0 0 [.int x5, .int x8, .long x3] [] M) ∧ (¬ x8 = 0 → (x9 = 0 → X 196 0 0 [.int x5, .int x8, .long x3] [] M) ∧ (¬ x9 = 0 → X 179 0 0 [.int x5, .int x8, .long x3] [] M)))) ∧ (¬ (M.1 g 3) ≤ x10 → vp_in x10 384 ∧ ∀ y56 : Int32, y56 = (((M : zM).1 ((g + 7)) (x10 : Int32).toNatClampNeg) &&& (63 : Int32)) → (y56 = x5 → X 155 0 0 [.ref g, .long x3, .int x5, .int x6, .int x7, .int x8, .int x9, .int x10] [] M) ∧ (¬ y56 = x5 → vp_in x10 384 ∧ (((((M : zM).1 ((g + 7)) (x10 : Int32).toNatClampNeg) >>> ((6 : Int32) &&& 31)) &&& (63 : Int32)) = x6 → vp_in y56 64 ∧ vp_in x5 64 ∧ (((M : zM).1 ((g + 2)) (y56 : Int32).toNatClampNeg) = ((M : zM).1 ((g + 2)) (x5 : Int32).toNatClampNeg) → ((y56 &&& (7 : Int32)) = (x5 &&& (7 : Int32)) → X 129 0 0 [.ref g, .long x3, .int x5, .int x6, .int 1, .int x9, .int x10, .int y56] [.int 1, .int x8] M) ∧ (¬ (y56 &&& (7 : Int32)) = (x5 &&& (7 : Int32)) → X 129 0 0 [.ref g, .long x3, .int x5, .int x6, .int 1, .int x9, .int x10, .int y56] [.int 0, .int x8] M)) ∧ (¬ ((M : zM).1 ((g + 2)) (y56 : Int32).toNatClampNeg) = ((M : zM).1 ((g + 2)) (x5 : Int32).toNatClampNeg) → X 155 0 0 [.ref g, .long x3, .int x5, .int x6, .int x7, .int x8, .int x9, .int x10] [] M)) ∧ (¬ ((((M : zM).1 ((g + 7)) (x10 : Int32).toNatClampNeg) >>> ((6 : Int32) &&& 31)) &&& (63 : Int32)) = x6 → X 155 0 0 [.ref g, .long x3, .int x5, .int x6, .int x7, .int x8, .int x9, .int x10] [] M)))) : aX9_origin_37 mc ms X Q 0 0 [none, some (.ref g), none, some (.long x3), none, some (.int x5), some (.int x6), some (.int x7), some (.int x8), some (.int x9), some (.int x10), none] [] M := ⟨(fgs_0 hW), ⟨fun c43 => ⟨fun c166 => ((h.1 c43).1 c166), fun c166 => ⟨fun c171 => (((h.1 c43).2 c166).1 c171), fun c171 => ⟨fun c176 => ((((h.1 c43).2 c166).2 c171).1 c176), fun c176 => ((((h.1 c43).2 c166).2 c171).2 c176)⟩⟩⟩, fun c43 => ⟨(fgs_0 hW), (g + 7), (fgr_0_2 hW), ⟨384, (fgs_7 hW), (h.2 c43).1, (fun y56 e56 => have h56 := (h.2 c43).2 y56 e56; (vcX9_origin_58 hW  h56))⟩⟩⟩⟩
theorem vX9_origin_129 {mc ms : Nat} {X : Nat → zV} {Q : zQt} {M : zM} {g : Nat} {x3 : Int64} {x5 : Int32} {x6 : Int32} {x7 : Int32} {x9 : Int32} {x10 : Int32} {x11 : Int32} {s0 : Int32} {s1 : Int32} (hW : zWd M g)  (h : ((x11 / (8 : Int32)) = (x5 / (8 : Int32)) → X 152 0 0 [.ref g, .long x3, .int x5, .int x6, .int x7, .int (s1 ||| s0), .int x10] [.int 1, .int x9] M) ∧ (¬ (x11 / (8 : Int32)) = (x5 / (8 : Int32)) → X 152 0 0 [.ref g, .long x3, .int x5, .int x6, .int x7, .int (s1 ||| s0), .int x10] [.int 0, .int x9] M)) : aX9_origin_129 mc ms X Q 0 0 [none, some (.ref g), none, some (.long x3), none, some (.int x5), some (.int x6), some (.int x7), none, some (.int x9), some (.int x10), some (.int x11)] [.int s0, .int s1] M := ⟨by decide, ⟨by decide, ⟨fun c144 => (h.1 c144), fun c144 => (h.2 c144)⟩⟩⟩
theorem vX9_origin_152 {mc ms : Nat} {X : Nat → zV} {Q : zQt} {M : zM} {g : Nat} {x3 : Int64} {x5 : Int32} {x6 : Int32} {x7 : Int32} {x8 : Int32} {x10 : Int32} {s0 : Int32} {s1 : Int32} (hW : zWd M g)  (h : X 155 0 0 [.ref g, .long x3, .int x5, .int x6, .int x7, .int x8, .int (s1 ||| s0), .int x10] [] M) : aX9_origin_152 mc ms X Q 0 0 [none, some (.ref g), none, some (.long x3), none, some (.int x5), some (.int x6), some (.int x7), some (.int x8), none, some (.int x10), none] [.int s0, .int s1] M := h
theorem vX9_origin_155 {mc ms : Nat} {X : Nat → zV} {Q : zQt} {M : zM} {g : Nat} {x3 : Int64} {x5 : Int32} {x6 : Int32} {x7 : Int32} {x8 : Int32} {x9 : Int32} {x10 : Int32} (hW : zWd M g)  (h : X 37 0 0 [.ref g, .long x3, .int x5, .int x6, .int x7, .int x8, .int x9, .int (x10 + 1)] [] M) : aX9_origin_155 mc ms X Q 0 0 [none, some (.ref g), none, some (.long x3), none, some (.int x5), some (.int x6), some (.int x7), some (.int x8), some (.int x9), some (.int x10), none] [] M := h
theorem vX9_origin_179 {mc ms : Nat} {X : Nat → zV} {Q : zQt} {M : zM} {g : Nat} {x5 : Int32} {x8 : Int32} {x10 : Int64} (hW : zWd M g)  (h : ∀ y194 : Int64, y194 = ((x10 <<< ((8 : Int32).toInt64 &&& 63)) ||| (((97 : Int32) + (x5 &&& (7 : Int32))) : Int32).toInt64) → X 196 0 0 [.int x5, .int x8, .long y194] [] M) : aX9_origin_179 mc ms X Q 0 0 [none, none, none, none, none, some (.int x5), none, none, some (.int x8), none, some (.long x10), none] [] M := (fun y194 e194 => have h194 := h y194 e194; h194)
theorem vX9_origin_196 {mc ms : Nat} {X : Nat → zV} {Q : zQt} {M : zM} {g : Nat} {x5 : Int32} {x8 : Int32} {x10 : Int64} (hW : zWd M g)  (h : (x8 = 0 → X 218 0 0 [.long x10] [] M) ∧ (¬ x8 = 0 → ∀ y216 : Int64, y216 = ((x10 <<< ((8 : Int32).toInt64 &&& 63)) ||| (((49 : Int32) + (x5 / (8 : Int32))) : Int32).toInt64) → X 218 0 0 [.long y216] [] M)) : aX9_origin_196 mc ms X Q 0 0 [none, none, none, none, none, some (.int x5), none, none, some (.int x8), none, some (.long x10), none] [] M := ⟨fun c198 => (h.1 c198), fun c198 => ⟨by decide, (fun y216 e216 => have h216 := (h.2 c198) y216 e216; h216)⟩⟩
theorem vX9_origin_218 {mc ms : Nat} {X : Nat → zV} {Q : zQt} {M : zM} {g : Nat} {x10 : Int64} (hW : zWd M g)  (h : Q (some (.long x10)) M) : aX9_origin_218 mc ms X Q 0 0 [none, none, none, none, none, none, none, none, none, none, some (.long x10), none] [] M := h
theorem dX9_means_0 : decode cX9_means 0 = .ok (.aload_n 1, 1) := by decide +kernel
theorem dX9_means_1 : decode cX9_means 1 = .ok (.getfield 28, 3) := by decide +kernel
theorem dX9_means_4 : decode cX9_means 4 = .ok (.astore 4, 2) := by decide +kernel
theorem dX9_means_6 : decode cX9_means 6 = .ok (.iload_n 3, 1) := by decide +kernel
theorem dX9_means_7 : decode cX9_means 7 = .ok (.bipush 63, 2) := by decide +kernel
theorem dX9_means_9 : decode cX9_means 9 = .ok (.iand, 1) := by decide +kernel
theorem dX9_means_10 : decode cX9_means 10 = .ok (.istore 5, 2) := by decide +kernel
theorem dX9_means_12 : decode cX9_means 12 = .ok (.iload_n 3, 1) := by decide +kernel
theorem dX9_means_13 : decode cX9_means 13 = .ok (.bipush 6, 2) := by decide +kernel
theorem dX9_means_15 : decode cX9_means 15 = .ok (.ishr, 1) := by decide +kernel
theorem dX9_means_16 : decode cX9_means 16 = .ok (.bipush 63, 2) := by decide +kernel
theorem dX9_means_18 : decode cX9_means 18 = .ok (.iand, 1) := by decide +kernel
theorem dX9_means_19 : decode cX9_means 19 = .ok (.istore 6, 2) := by decide +kernel
theorem dX9_means_21 : decode cX9_means 21 = .ok (.aload 4, 2) := by decide +kernel
theorem dX9_means_23 : decode cX9_means 23 = .ok (.iload 5, 2) := by decide +kernel
theorem dX9_means_25 : decode cX9_means 25 = .ok (.iload 6, 2) := by decide +kernel
theorem dX9_means_27 : decode cX9_means 27 = .ok (.invokevirtual 32, 3) := by decide +kernel
theorem dX9_means_30 : decode cX9_means 30 = .ok (.istore 7, 2) := by decide +kernel
theorem dX9_means_32 : decode cX9_means 32 = .ok (.aload_n 2, 1) := by decide +kernel
theorem dX9_means_33 : decode cX9_means 33 = .ok (.getfield 97, 3) := by decide +kernel
theorem dX9_means_36 : decode cX9_means 36 = .ok (.ifCond .ne 8, 3) := by decide +kernel
theorem dX9_means_39 : decode cX9_means 39 = .ok (.iload 7, 2) := by decide +kernel
theorem dX9_means_41 : decode cX9_means 41 = .ok (.ifCond .eq 18, 3) := by decide +kernel
theorem dX9_means_44 : decode cX9_means 44 = .ok (.aload_n 2, 1) := by decide +kernel
theorem dX9_means_45 : decode cX9_means 45 = .ok (.getfield 97, 3) := by decide +kernel
theorem dX9_means_48 : decode cX9_means 48 = .ok (.iload 7, 2) := by decide +kernel
theorem dX9_means_50 : decode cX9_means 50 = .ok (.if_icmp .ne 7, 3) := by decide +kernel
theorem dX9_means_53 : decode cX9_means 53 = .ok (.iconst 1, 1) := by decide +kernel
theorem dX9_means_54 : decode cX9_means 54 = .ok (.goto 4, 3) := by decide +kernel
theorem dX9_means_57 : decode cX9_means 57 = .ok (.iconst 0, 1) := by decide +kernel
theorem dX9_means_58 : decode cX9_means 58 = .ok (.ireturn, 1) := by decide +kernel
theorem dX9_means_59 : decode cX9_means 59 = .ok (.iload 6, 2) := by decide +kernel
theorem dX9_means_61 : decode cX9_means 61 = .ok (.aload_n 2, 1) := by decide +kernel
theorem dX9_means_62 : decode cX9_means 62 = .ok (.getfield 100, 3) := by decide +kernel
theorem dX9_means_65 : decode cX9_means 65 = .ok (.if_icmp .ne 42, 3) := by decide +kernel
theorem dX9_means_68 : decode cX9_means 68 = .ok (.iload_n 3, 1) := by decide +kernel
theorem dX9_means_69 : decode cX9_means 69 = .ok (.bipush 12, 2) := by decide +kernel
theorem dX9_means_71 : decode cX9_means 71 = .ok (.ishr, 1) := by decide +kernel
theorem dX9_means_72 : decode cX9_means 72 = .ok (.aload_n 2, 1) := by decide +kernel
theorem dX9_means_73 : decode cX9_means 73 = .ok (.getfield 103, 3) := by decide +kernel
theorem dX9_means_76 : decode cX9_means 76 = .ok (.if_icmp .ne 31, 3) := by decide +kernel
theorem dX9_means_79 : decode cX9_means 79 = .ok (.aload 4, 2) := by decide +kernel
theorem dX9_means_81 : decode cX9_means 81 = .ok (.getfield 42, 3) := by decide +kernel
theorem dX9_means_84 : decode cX9_means 84 = .ok (.iload 5, 2) := by decide +kernel
theorem dX9_means_86 : decode cX9_means 86 = .ok (.iaload, 1) := by decide +kernel
theorem dX9_means_87 : decode cX9_means 87 = .ok (.bipush 6, 2) := by decide +kernel
theorem dX9_means_89 : decode cX9_means 89 = .ok (.aload 4, 2) := by decide +kernel
theorem dX9_means_91 : decode cX9_means 91 = .ok (.getfield 45, 3) := by decide +kernel
theorem dX9_means_94 : decode cX9_means 94 = .ok (.imul, 1) := by decide +kernel
theorem dX9_means_95 : decode cX9_means 95 = .ok (.isub, 1) := by decide +kernel
theorem dX9_means_96 : decode cX9_means 96 = .ok (.aload_n 2, 1) := by decide +kernel
theorem dX9_means_97 : decode cX9_means 97 = .ok (.getfield 106, 3) := by decide +kernel
theorem dX9_means_100 : decode cX9_means 100 = .ok (.if_icmp .ne 7, 3) := by decide +kernel
theorem dX9_means_103 : decode cX9_means 103 = .ok (.iconst 1, 1) := by decide +kernel
theorem dX9_means_104 : decode cX9_means 104 = .ok (.goto 4, 3) := by decide +kernel
theorem dX9_means_107 : decode cX9_means 107 = .ok (.iconst 0, 1) := by decide +kernel
theorem dX9_means_108 : decode cX9_means 108 = .ok (.ireturn, 1) := by decide +kernel
def kX9_means_30 (mc ms : Nat) (X : Nat → zV) (Q : zQt) : zT :=
  zsi 7 <| zla 2 <| zgi 10 3 <| zif (fun x => x = 0) (zli 7 <| zif (fun x => x = 0) (zli 6 <| zla 2 <| zgi 10 1 <| zic (fun x y => x = y) (zli 3 <| zc (.int 12) <| zii (fun x y => x >>> (y &&& 31)) <| zla 2 <| zgi 10 2 <| zic (fun x y => x = y) (zla 4 <| zgR 0 1 <| zli 5 <| zal 1 <| zc (.int 6) <| zla 4 <| zgi 0 4 <| zii (fun x y => x * y) <| zii (fun x y => x - y) <| zla 2 <| zgi 10 0 <| zic (fun x y => x = y) (zc (.int 1) <| zj X 108 []) <| zj X 107 []) <| zj X 107 []) <| zj X 107 []) <| zj X 44 [2, 7]) <| zj X 44 [2, 7]
def kX9_means_21 (mc ms : Nat) (X : Nat → zV) (Q : zQt) : zT :=
  zla 4 <| zli 5 <| zli 6 <| zcv mc ms 0 2 wX0_castleStep <| kX9_means_30 mc ms X Q
def aX9_means_0 (mc ms : Nat) (X : Nat → zV) (Q : zQt) : zT :=
  zla 1 <| zgR 4 0 <| zsa 4 <| zli 3 <| zc (.int 63) <| zii (fun x y => x &&& y) <| zsi 5 <| zli 3 <| zc (.int 6) <| zii (fun x y => x >>> (y &&& 31)) <| zc (.int 63) <| zii (fun x y => x &&& y) <| zsiN 6 <| kX9_means_21 mc ms X Q
def aX9_means_44 (mc ms : Nat) (X : Nat → zV) (Q : zQt) : zT :=
  zla 2 <| zgi 10 3 <| zli 7 <| zic (fun x y => x = y) (zc (.int 1) <| zj X 58 []) <| zc (.int 0) <| zj X 58 []
def aX9_means_58 (mc ms : Nat) (X : Nat → zV) (Q : zQt) : zT :=
  zrz .boolean Q
def aX9_means_107 (mc ms : Nat) (X : Nat → zV) (Q : zQt) : zT :=
  zc (.int 0) <| zj X 108 []
def aX9_means_108 (mc ms : Nat) (X : Nat → zV) (Q : zQt) : zT :=
  zrz .boolean Q
def lvX9_means : Nat → List Nat := fun L => match L with
  | 0 => [0, 1, 2, 3]
  | 44 => [2, 7]
  | 58 => []
  | 107 => []
  | 108 => []
  | _ => []
def wX9_means : zSp := fun mc ms av M Q => ((zlay av).length ≤ 8 ∧ zpick (zlay av) [0, 1, 2, 3] = some av) ∧ ∀ X : Nat → zV, zin 8 [0, 1, 2, 3] (aX9_means_0 mc ms X Q) X 0 → zin 8 [2, 7] (aX9_means_44 mc ms X Q) X 44 → zin 8 [] (aX9_means_58 mc ms X Q) X 58 → zin 8 [] (aX9_means_107 mc ms X Q) X 107 → zin 8 [] (aX9_means_108 mc ms X Q) X 108 → X 0 0 0 av [] M
set_option maxRecDepth 100000 in
set_option maxHeartbeats 4000000 in
theorem sX9_means (l : Launch) (G : zG) : zSnd l G yX9_means cX9_means 8 (some .boolean) 1 23 wX9_means := by
  refine zmk [0, 1, 2, 3] (by decide) (fun mc ms av M Q h => h.1) ?_
  intro p e R s m args below meth c mc ms av M Q hC hRf hRl hr hnm h lv hlv
  obtain ⟨X, hXe⟩ : ∃ X : Nat → zV, X = fun L u v vs st M => ∀ lv, zpick lv (lvX9_means L) = some vs → zAt p l e R s m args below meth c (MQ below (zQ G Q) args s mc ms (zA G)) G 8 L u v lv st M := ⟨_, rfl⟩
  have hJ : ∀ L, zOk p l e R s m args below meth c (MQ below (zQ G Q) args s mc ms (zA G)) G 8 L (zj X L (lvX9_means L)) := fun L => S_jump (fun u v lv vs st M hp hx => by rw [hXe] at hx; exact hx lv hp)
  have hB0 : zin 8 [0, 1, 2, 3] (aX9_means_0 mc ms X Q) X 0 := by
    intro u v vs st M hb
    rw [hXe]
    refine fun lv hp => S_block (L := 0) (live := [0, 1, 2, 3]) ?_ u v lv vs st M hp hb
    unfold aX9_means_0
    refine S_aload_n (pc := 0) hC dX9_means_0 rfl ?_
    refine S_getR (pc := 1) hC cfX4 (by decide) (Or.inl ⟨_, rfl⟩) wd_308 dX9_means_1 ?_
    refine S_astore (pc := 4) hC dX9_means_4 (by decide) ?_
    refine S_iload_n (pc := 6) hC dX9_means_6 rfl ?_
    refine S_bipush (pc := 7) hC dX9_means_7 (by decide) ?_
    refine S_iand (pc := 9) hC dX9_means_9 ?_
    refine S_istore (pc := 10) hC dX9_means_10 (by decide) ?_
    refine S_iload_n (pc := 12) hC dX9_means_12 rfl ?_
    refine S_bipush (pc := 13) hC dX9_means_13 (by decide) ?_
    refine S_ishr (pc := 15) hC dX9_means_15 ?_
    refine S_bipush (pc := 16) hC dX9_means_16 (by decide) ?_
    refine S_iand (pc := 18) hC dX9_means_18 ?_
    refine S_istore_N (pc := 19) hC dX9_means_19 (by decide) ?_
    unfold kX9_means_21
    refine S_aload (pc := 21) hC dX9_means_21 ?_
    refine S_iload (pc := 23) hC dX9_means_23 ?_
    refine S_iload (pc := 25) hC dX9_means_25 ?_
    refine S_callV (pc := 27) hC (sX0_castleStep l G) rfl wd_913 wd_418 wd_419 wd_10 wd_420 (by decide +kernel) ⟨by rw [hRf]; decide, by rw [hRl]; decide⟩ dX9_means_27 ?_
    unfold kX9_means_30
    refine S_istore (pc := 30) hC dX9_means_30 (by decide) ?_
    refine S_aload_n (pc := 32) hC dX9_means_32 rfl ?_
    refine S_geti (pc := 33) hC cfX10 (by decide) (Or.inl rfl) wd_120 dX9_means_33 ?_
    refine S_if_ne (pc := 36) (tgt := 44) hC dX9_means_36 (by decide) ?_ ?_
    · exact hJ 44
    · refine S_iload (pc := 39) hC dX9_means_39 ?_
      refine S_if_eq (pc := 41) (tgt := 59) hC dX9_means_41 (by decide) ?_ ?_
      · refine S_iload (pc := 59) hC dX9_means_59 ?_
        refine S_aload_n (pc := 61) hC dX9_means_61 rfl ?_
        refine S_geti (pc := 62) hC cfX10 (by decide) (Or.inl rfl) wd_116 dX9_means_62 ?_
        refine S_icmp_ne (pc := 65) (tgt := 107) hC dX9_means_65 (by decide) ?_ ?_
        · exact hJ 107
        · refine S_iload_n (pc := 68) hC dX9_means_68 rfl ?_
          refine S_bipush (pc := 69) hC dX9_means_69 (by decide) ?_
          refine S_ishr (pc := 71) hC dX9_means_71 ?_
          refine S_aload_n (pc := 72) hC dX9_means_72 rfl ?_
          refine S_geti (pc := 73) hC cfX10 (by decide) (Or.inl rfl) wd_118 dX9_means_73 ?_
          refine S_icmp_ne (pc := 76) (tgt := 107) hC dX9_means_76 (by decide) ?_ ?_
          · exact hJ 107
          · refine S_aload (pc := 79) hC dX9_means_79 ?_
            refine S_getR (pc := 81) hC cfX0 (by decide) (Or.inr ⟨_, rfl⟩) wd_216 dX9_means_81 ?_
            refine S_iload (pc := 84) hC dX9_means_84 ?_
            refine S_iaload (pc := 86) hC dX9_means_86 ?_
            refine S_bipush (pc := 87) hC dX9_means_87 (by decide) ?_
            refine S_aload (pc := 89) hC dX9_means_89 ?_
            refine S_geti (pc := 91) hC cfX0 (by decide) (Or.inl rfl) wd_232 dX9_means_91 ?_
            refine S_imul (pc := 94) hC dX9_means_94 ?_
            refine S_isub (pc := 95) hC dX9_means_95 ?_
            refine S_aload_n (pc := 96) hC dX9_means_96 rfl ?_
            refine S_geti (pc := 97) hC cfX10 (by decide) (Or.inl rfl) wd_114 dX9_means_97 ?_
            refine S_icmp_ne (pc := 100) (tgt := 107) hC dX9_means_100 (by decide) ?_ ?_
            · exact hJ 107
            · refine S_iconst (pc := 103) hC dX9_means_103 (by decide) ?_
              refine S_goto (pc := 104) (tgt := 108) hC dX9_means_104 (by decide) ?_
              exact hJ 108
      · exact hJ 44
  have hB44 : zin 8 [2, 7] (aX9_means_44 mc ms X Q) X 44 := by
    intro u v vs st M hb
    rw [hXe]
    refine fun lv hp => S_block (L := 44) (live := [2, 7]) ?_ u v lv vs st M hp hb
    unfold aX9_means_44
    refine S_aload_n (pc := 44) hC dX9_means_44 rfl ?_
    refine S_geti (pc := 45) hC cfX10 (by decide) (Or.inl rfl) wd_120 dX9_means_45 ?_
    refine S_iload (pc := 48) hC dX9_means_48 ?_
    refine S_icmp_ne (pc := 50) (tgt := 57) hC dX9_means_50 (by decide) ?_ ?_
    · refine S_iconst (pc := 57) hC dX9_means_57 (by decide) ?_
      exact hJ 58
    · refine S_iconst (pc := 53) hC dX9_means_53 (by decide) ?_
      refine S_goto (pc := 54) (tgt := 58) hC dX9_means_54 (by decide) ?_
      exact hJ 58
  have hB58 : zin 8 [] (aX9_means_58 mc ms X Q) X 58 := by
    intro u v vs st M hb
    rw [hXe]
    refine fun lv hp => S_block (L := 58) (live := []) ?_ u v lv vs st M hp hb
    unfold aX9_means_58
    exact S_zreturn (pc := 58) hC hr dX9_means_58
  have hB107 : zin 8 [] (aX9_means_107 mc ms X Q) X 107 := by
    intro u v vs st M hb
    rw [hXe]
    refine fun lv hp => S_block (L := 107) (live := []) ?_ u v lv vs st M hp hb
    unfold aX9_means_107
    refine S_iconst (pc := 107) hC dX9_means_107 (by decide) ?_
    exact hJ 108
  have hB108 : zin 8 [] (aX9_means_108 mc ms X Q) X 108 := by
    intro u v vs st M hb
    rw [hXe]
    refine fun lv hp => S_block (L := 108) (live := []) ?_ u v lv vs st M hp hb
    unfold aX9_means_108
    exact S_zreturn (pc := 108) hC hr dX9_means_108
  have := h.2 X hB0 hB44 hB58 hB107 hB108
  rw [hXe] at this
  exact this lv hlv
theorem vcX9_means_21 {mc ms : Nat} {X : Nat → zV} {Q : zQt} {M : zM} {g : Nat} {x3 : Int32} {x5 : Int32} {x6 : Int32} (hW : zWd M g)  (h : wX0_castleStep 0 0 [.ref (g + 1), .int x5, .int x6] M (fun r M1 => kX9_means_30 mc ms X Q 0 0 [some (.ref 25), some (.ref g), some (.ref 28), some (.int x3), some (.ref (g + 1)), some (.int x5), some (.int x6), none] (r.toList ++ []) M1)) : kX9_means_21 mc ms X Q 0 0 [some (.ref 25), some (.ref g), some (.ref 28), some (.int x3), some (.ref (g + 1)), some (.int x5), some (.int x6), none] [] M := ⟨Nat.le_of_ble_eq_true rfl, rfl, (fgs_1 hW), 0, 0, Nat.zero_le _, Nat.zero_le _, h⟩
theorem vX9_means_0 {mc ms : Nat} {X : Nat → zV} {Q : zQt} {M : zM} {g : Nat} {x3 : Int32} (hW : zWd M g)  (h : ∀ y19 : Int32, y19 = ((x3 >>> ((6 : Int32) &&& 31)) &&& (63 : Int32)) → wX0_castleStep 0 0 [.ref (g + 1), .int (x3 &&& (63 : Int32)), .int y19] M (fun r M1 => kX9_means_30 mc ms X Q 0 0 [some (.ref 25), some (.ref g), some (.ref 28), some (.int x3), some (.ref (g + 1)), some (.int (x3 &&& (63 : Int32))), some (.int y19), none] (r.toList ++ []) M1)) : aX9_means_0 mc ms X Q 0 0 [some (.ref 25), some (.ref g), some (.ref 28), some (.int x3), none, none, none, none] [] M := ⟨(fgs_0 hW), (g + 1), (fgr_0_0 hW), (fun y19 e19 => have h19 := h y19 e19; (vcX9_means_21 hW  h19))⟩
theorem vX9_means_44 {mc ms : Nat} {X : Nat → zV} {Q : zQt} {M : zM} {g : Nat} {x7 : Int32} (hW : zWd M g)  (h : ((M.1 28 3) = x7 → X 58 0 0 [] [.int 1] M) ∧ (¬ (M.1 28 3) = x7 → X 58 0 0 [] [.int 0] M)) : aX9_means_44 mc ms X Q 0 0 [none, none, some (.ref 28), none, none, none, none, some (.int x7)] [] M := ⟨(fxs_28 hW.1), ⟨fun c50 => (h.1 c50), fun c50 => (h.2 c50)⟩⟩
theorem vX9_means_58 {mc ms : Nat} {X : Nat → zV} {Q : zQt} {M : zM} {g : Nat} {s0 : Int32} (hW : zWd M g)  (h : narrow .boolean (.int s0) = .int s0 ∧ Q (some (.int s0)) M) : aX9_means_58 mc ms X Q 0 0 [none, none, none, none, none, none, none, none] [.int s0] M := h
theorem vX9_means_107 {mc ms : Nat} {X : Nat → zV} {Q : zQt} {M : zM} {g : Nat}  (hW : zWd M g)  (h : X 108 0 0 [] [.int 0] M) : aX9_means_107 mc ms X Q 0 0 [none, none, none, none, none, none, none, none] [] M := h
theorem vX9_means_108 {mc ms : Nat} {X : Nat → zV} {Q : zQt} {M : zM} {g : Nat} {s0 : Int32} (hW : zWd M g)  (h : narrow .boolean (.int s0) = .int s0 ∧ Q (some (.int s0)) M) : aX9_means_108 mc ms X Q 0 0 [none, none, none, none, none, none, none, none] [.int s0] M := h
theorem vkX9_means_30 {mc ms : Nat} {X : Nat → zV} {Q : zQt} {M : zM} {g : Nat} {x3 : Int32} {x5 : Int32} {x6 : Int32} {s0 : Int32} (hW : zWd M g)  (h : ((M.1 28 3) = 0 → (s0 = 0 → (x6 = (M.1 28 1) → ((x3 >>> ((12 : Int32) &&& 31)) = (M.1 28 2) → vp_in x5 64 ∧ ((((M : zM).1 ((g + 2)) (x5 : Int32).toNatClampNeg) - ((6 : Int32) * (M.1 ((g + 1)) 4))) = (M.1 28 0) → X 108 0 0 [] [.int 1] M) ∧ (¬ (((M : zM).1 ((g + 2)) (x5 : Int32).toNatClampNeg) - ((6 : Int32) * (M.1 ((g + 1)) 4))) = (M.1 28 0) → X 107 0 0 [] [] M)) ∧ (¬ (x3 >>> ((12 : Int32) &&& 31)) = (M.1 28 2) → X 107 0 0 [] [] M)) ∧ (¬ x6 = (M.1 28 1) → X 107 0 0 [] [] M)) ∧ (¬ s0 = 0 → X 44 0 0 [.ref 28, .int s0] [] M)) ∧ (¬ (M.1 28 3) = 0 → X 44 0 0 [.ref 28, .int s0] [] M)) : kX9_means_30 mc ms X Q 0 0 [some (.ref 25), some (.ref g), some (.ref 28), some (.int x3), some (.ref (g + 1)), some (.int x5), some (.int x6), none] [.int s0] M := ⟨(fxs_28 hW.1), ⟨fun c36 => ⟨fun c41 => ⟨(fxs_28 hW.1), ⟨fun c65 => ⟨(fxs_28 hW.1), ⟨fun c76 => ⟨(fgs_1 hW), (g + 2), (fgr_1_1 hW), ⟨64, (fgs_2 hW), ((((h.1 c36).1 c41).1 c65).1 c76).1, ⟨(fgs_1 hW), ⟨(fxs_28 hW.1), ⟨fun c100 => (((((h.1 c36).1 c41).1 c65).1 c76).2.1 c100), fun c100 => (((((h.1 c36).1 c41).1 c65).1 c76).2.2 c100)⟩⟩⟩⟩⟩, fun c76 => ((((h.1 c36).1 c41).1 c65).2 c76)⟩⟩, fun c65 => (((h.1 c36).1 c41).2 c65)⟩⟩, fun c41 => ((h.1 c36).2 c41)⟩, fun c36 => (h.2 c36)⟩⟩
theorem dX10_init_0 : decode cX10_init 0 = .ok (.aload_n 0, 1) := by decide +kernel
theorem dX10_init_1 : decode cX10_init 1 = .ok (.invokespecial 3, 3) := by decide +kernel
theorem dX10_init_4 : decode cX10_init 4 = .ok (.return_, 1) := by decide +kernel
def aX10_init_0 (mc ms : Nat) (X : Nat → zV) (Q : zQt) : zT :=
  zla 0 <| zoi <| zrv Q
def lvX10_init : Nat → List Nat := fun L => match L with
  | 0 => [0]
  | _ => []
def wX10_init : zSp := fun mc ms av M Q => ((zlay av).length ≤ 1 ∧ zpick (zlay av) [0] = some av) ∧ ∀ X : Nat → zV, zin 1 [0] (aX10_init_0 mc ms X Q) X 0 → X 0 0 0 av [] M
set_option maxRecDepth 100000 in
set_option maxHeartbeats 4000000 in
theorem sX10_init (l : Launch) (G : zG) : zSnd l G yX10_init cX10_init 1 none 1 20 wX10_init := by
  refine zmk [0] (by decide) (fun mc ms av M Q h => h.1) ?_
  intro p e R s m args below meth c mc ms av M Q hC hRf hRl hr hnm h lv hlv
  obtain ⟨X, hXe⟩ : ∃ X : Nat → zV, X = fun L u v vs st M => ∀ lv, zpick lv (lvX10_init L) = some vs → zAt p l e R s m args below meth c (MQ below (zQ G Q) args s mc ms (zA G)) G 1 L u v lv st M := ⟨_, rfl⟩
  have hJ : ∀ L, zOk p l e R s m args below meth c (MQ below (zQ G Q) args s mc ms (zA G)) G 1 L (zj X L (lvX10_init L)) := fun L => S_jump (fun u v lv vs st M hp hx => by rw [hXe] at hx; exact hx lv hp)
  have hB0 : zin 1 [0] (aX10_init_0 mc ms X Q) X 0 := by
    intro u v vs st M hb
    rw [hXe]
    refine fun lv hp => S_block (L := 0) (live := [0]) ?_ u v lv vs st M hp hb
    unfold aX10_init_0
    refine S_aload_n (pc := 0) hC dX10_init_0 rfl ?_
    refine S_objInit (pc := 1) hC wd_112 wd_35 wd_36 (by rw [hRf]; decide) (by rw [hRl]; decide) dX10_init_1 ?_
    exact S_vreturn (pc := 4) hC hr dX10_init_4
  have := h.2 X hB0
  rw [hXe] at this
  exact this lv hlv
theorem vX10_init_0 {mc ms : Nat} {X : Nat → zV} {Q : zQt} {M : zM} {g : Nat}  (hW : zWd M g)  (h : Q none M) : aX10_init_0 mc ms X Q 0 0 [some (.ref 28)] [] M := ⟨Nat.le_of_ble_eq_true rfl, h⟩
theorem dX10_readCastle_0 : decode cX10_readCastle 0 = .ok (.iload_n 1, 1) := by decide +kernel
theorem dX10_readCastle_1 : decode cX10_readCastle 1 = .ok (.istore_n 3, 1) := by decide +kernel
theorem dX10_readCastle_2 : decode cX10_readCastle 2 = .ok (.iload_n 3, 1) := by decide +kernel
theorem dX10_readCastle_3 : decode cX10_readCastle 3 = .ok (.iload_n 2, 1) := by decide +kernel
theorem dX10_readCastle_4 : decode cX10_readCastle 4 = .ok (.if_icmp .ge 32, 3) := by decide +kernel
theorem dX10_readCastle_7 : decode cX10_readCastle 7 = .ok (.aload_n 0, 1) := by decide +kernel
theorem dX10_readCastle_8 : decode cX10_readCastle 8 = .ok (.iload_n 3, 1) := by decide +kernel
theorem dX10_readCastle_9 : decode cX10_readCastle 9 = .ok (.caload, 1) := by decide +kernel
theorem dX10_readCastle_10 : decode cX10_readCastle 10 = .ok (.iload_n 3, 1) := by decide +kernel
theorem dX10_readCastle_11 : decode cX10_readCastle 11 = .ok (.iload_n 1, 1) := by decide +kernel
theorem dX10_readCastle_12 : decode cX10_readCastle 12 = .ok (.isub, 1) := by decide +kernel
theorem dX10_readCastle_13 : decode cX10_readCastle 13 = .ok (.iconst 2, 1) := by decide +kernel
theorem dX10_readCastle_14 : decode cX10_readCastle 14 = .ok (.irem, 1) := by decide +kernel
theorem dX10_readCastle_15 : decode cX10_readCastle 15 = .ok (.ifCond .ne 8, 3) := by decide +kernel
theorem dX10_readCastle_18 : decode cX10_readCastle 18 = .ok (.bipush 48, 2) := by decide +kernel
theorem dX10_readCastle_20 : decode cX10_readCastle 20 = .ok (.goto 5, 3) := by decide +kernel
theorem dX10_readCastle_23 : decode cX10_readCastle 23 = .ok (.bipush 45, 2) := by decide +kernel
theorem dX10_readCastle_25 : decode cX10_readCastle 25 = .ok (.if_icmp .eq 5, 3) := by decide +kernel
theorem dX10_readCastle_28 : decode cX10_readCastle 28 = .ok (.iconst 0, 1) := by decide +kernel
theorem dX10_readCastle_29 : decode cX10_readCastle 29 = .ok (.ireturn, 1) := by decide +kernel
theorem dX10_readCastle_30 : decode cX10_readCastle 30 = .ok (.iinc 3 1, 3) := by decide +kernel
theorem dX10_readCastle_33 : decode cX10_readCastle 33 = .ok (.goto (-31), 3) := by decide +kernel
theorem dX10_readCastle_36 : decode cX10_readCastle 36 = .ok (.iload_n 2, 1) := by decide +kernel
theorem dX10_readCastle_37 : decode cX10_readCastle 37 = .ok (.iload_n 1, 1) := by decide +kernel
theorem dX10_readCastle_38 : decode cX10_readCastle 38 = .ok (.isub, 1) := by decide +kernel
theorem dX10_readCastle_39 : decode cX10_readCastle 39 = .ok (.iconst 3, 1) := by decide +kernel
theorem dX10_readCastle_40 : decode cX10_readCastle 40 = .ok (.if_icmp .ne 7, 3) := by decide +kernel
theorem dX10_readCastle_43 : decode cX10_readCastle 43 = .ok (.iconst 2, 1) := by decide +kernel
theorem dX10_readCastle_44 : decode cX10_readCastle 44 = .ok (.goto 16, 3) := by decide +kernel
theorem dX10_readCastle_47 : decode cX10_readCastle 47 = .ok (.iload_n 2, 1) := by decide +kernel
theorem dX10_readCastle_48 : decode cX10_readCastle 48 = .ok (.iload_n 1, 1) := by decide +kernel
theorem dX10_readCastle_49 : decode cX10_readCastle 49 = .ok (.isub, 1) := by decide +kernel
theorem dX10_readCastle_50 : decode cX10_readCastle 50 = .ok (.iconst 5, 1) := by decide +kernel
theorem dX10_readCastle_51 : decode cX10_readCastle 51 = .ok (.if_icmp .ne 8, 3) := by decide +kernel
theorem dX10_readCastle_54 : decode cX10_readCastle 54 = .ok (.bipush (-2), 2) := by decide +kernel
theorem dX10_readCastle_56 : decode cX10_readCastle 56 = .ok (.goto 4, 3) := by decide +kernel
theorem dX10_readCastle_59 : decode cX10_readCastle 59 = .ok (.iconst 0, 1) := by decide +kernel
theorem dX10_readCastle_60 : decode cX10_readCastle 60 = .ok (.ireturn, 1) := by decide +kernel
def aX10_readCastle_0 (mc ms : Nat) (X : Nat → zV) (Q : zQt) : zT :=
  zli 1 <| zsi 3 <| zj X 2 [0, 1, 2, 3]
def aX10_readCastle_2 (mc ms : Nat) (X : Nat → zV) (Q : zQt) : zT :=
  zli 3 <| zli 2 <| zic (fun x y => y ≤ x) (zli 2 <| zli 1 <| zii (fun x y => x - y) <| zc (.int 3) <| zic (fun x y => x = y) (zc (.int 2) <| zj X 60 []) <| zli 2 <| zli 1 <| zii (fun x y => x - y) <| zc (.int 5) <| zic (fun x y => x = y) (zc (.int (-2)) <| zj X 60 []) <| zc (.int 0) <| zj X 60 []) <| zla 0 <| zli 3 <| zal 4 <| zli 3 <| zli 1 <| zii (fun x y => x - y) <| zc (.int 2) <| zid (fun x y => x - x / y * y) <| zif (fun x => x = 0) (zc (.int 48) <| zj X 25 [0, 1, 2, 3]) <| zc (.int 45) <| zj X 25 [0, 1, 2, 3]
def aX10_readCastle_25 (mc ms : Nat) (X : Nat → zV) (Q : zQt) : zT :=
  zic (fun x y => x = y) (zinc 3 1 <| zj X 2 [0, 1, 2, 3]) <| zc (.int 0) <| zri Q
def aX10_readCastle_60 (mc ms : Nat) (X : Nat → zV) (Q : zQt) : zT :=
  zri Q
def lvX10_readCastle : Nat → List Nat := fun L => match L with
  | 0 => [0, 1, 2]
  | 2 => [0, 1, 2, 3]
  | 25 => [0, 1, 2, 3]
  | 60 => []
  | _ => []
def wX10_readCastle : zSp := fun mc ms av M Q => ((zlay av).length ≤ 4 ∧ zpick (zlay av) [0, 1, 2] = some av) ∧ ∀ X : Nat → zV, zin 4 [0, 1, 2] (aX10_readCastle_0 mc ms X Q) X 0 → zin 4 [0, 1, 2, 3] (aX10_readCastle_2 mc ms X Q) X 2 → zin 4 [0, 1, 2, 3] (aX10_readCastle_25 mc ms X Q) X 25 → zin 4 [] (aX10_readCastle_60 mc ms X Q) X 60 → X 0 0 0 av [] M
set_option maxRecDepth 100000 in
set_option maxHeartbeats 4000000 in
theorem sX10_readCastle (l : Launch) (G : zG) : zSnd l G yX10_readCastle cX10_readCastle 4 (some .int) 0 0 wX10_readCastle := by
  refine zmk [0, 1, 2] (by decide) (fun mc ms av M Q h => h.1) ?_
  intro p e R s m args below meth c mc ms av M Q hC hRf hRl hr hnm h lv hlv
  obtain ⟨X, hXe⟩ : ∃ X : Nat → zV, X = fun L u v vs st M => ∀ lv, zpick lv (lvX10_readCastle L) = some vs → zAt p l e R s m args below meth c (MQ below (zQ G Q) args s mc ms (zA G)) G 4 L u v lv st M := ⟨_, rfl⟩
  have hJ : ∀ L, zOk p l e R s m args below meth c (MQ below (zQ G Q) args s mc ms (zA G)) G 4 L (zj X L (lvX10_readCastle L)) := fun L => S_jump (fun u v lv vs st M hp hx => by rw [hXe] at hx; exact hx lv hp)
  have hB0 : zin 4 [0, 1, 2] (aX10_readCastle_0 mc ms X Q) X 0 := by
    intro u v vs st M hb
    rw [hXe]
    refine fun lv hp => S_block (L := 0) (live := [0, 1, 2]) ?_ u v lv vs st M hp hb
    unfold aX10_readCastle_0
    refine S_iload_n (pc := 0) hC dX10_readCastle_0 rfl ?_
    refine S_istore_n (pc := 1) hC dX10_readCastle_1 rfl (by decide) ?_
    exact hJ 2
  have hB2 : zin 4 [0, 1, 2, 3] (aX10_readCastle_2 mc ms X Q) X 2 := by
    intro u v vs st M hb
    rw [hXe]
    refine fun lv hp => S_block (L := 2) (live := [0, 1, 2, 3]) ?_ u v lv vs st M hp hb
    unfold aX10_readCastle_2
    refine S_iload_n (pc := 2) hC dX10_readCastle_2 rfl ?_
    refine S_iload_n (pc := 3) hC dX10_readCastle_3 rfl ?_
    refine S_icmp_ge (pc := 4) (tgt := 36) hC dX10_readCastle_4 (by decide) ?_ ?_
    · refine S_iload_n (pc := 36) hC dX10_readCastle_36 rfl ?_
      refine S_iload_n (pc := 37) hC dX10_readCastle_37 rfl ?_
      refine S_isub (pc := 38) hC dX10_readCastle_38 ?_
      refine S_iconst (pc := 39) hC dX10_readCastle_39 (by decide) ?_
      refine S_icmp_ne (pc := 40) (tgt := 47) hC dX10_readCastle_40 (by decide) ?_ ?_
      · refine S_iload_n (pc := 47) hC dX10_readCastle_47 rfl ?_
        refine S_iload_n (pc := 48) hC dX10_readCastle_48 rfl ?_
        refine S_isub (pc := 49) hC dX10_readCastle_49 ?_
        refine S_iconst (pc := 50) hC dX10_readCastle_50 (by decide) ?_
        refine S_icmp_ne (pc := 51) (tgt := 59) hC dX10_readCastle_51 (by decide) ?_ ?_
        · refine S_iconst (pc := 59) hC dX10_readCastle_59 (by decide) ?_
          exact hJ 60
        · refine S_bipush (pc := 54) hC dX10_readCastle_54 (by decide) ?_
          refine S_goto (pc := 56) (tgt := 60) hC dX10_readCastle_56 (by decide) ?_
          exact hJ 60
      · refine S_iconst (pc := 43) hC dX10_readCastle_43 (by decide) ?_
        refine S_goto (pc := 44) (tgt := 60) hC dX10_readCastle_44 (by decide) ?_
        exact hJ 60
    · refine S_aload_n (pc := 7) hC dX10_readCastle_7 rfl ?_
      refine S_iload_n (pc := 8) hC dX10_readCastle_8 rfl ?_
      refine S_caload (pc := 9) hC dX10_readCastle_9 ?_
      refine S_iload_n (pc := 10) hC dX10_readCastle_10 rfl ?_
      refine S_iload_n (pc := 11) hC dX10_readCastle_11 rfl ?_
      refine S_isub (pc := 12) hC dX10_readCastle_12 ?_
      refine S_iconst (pc := 13) hC dX10_readCastle_13 (by decide) ?_
      refine S_irem (pc := 14) hC dX10_readCastle_14 ?_
      refine S_if_ne (pc := 15) (tgt := 23) hC dX10_readCastle_15 (by decide) ?_ ?_
      · refine S_bipush (pc := 23) hC dX10_readCastle_23 (by decide) ?_
        exact hJ 25
      · refine S_bipush (pc := 18) hC dX10_readCastle_18 (by decide) ?_
        refine S_goto (pc := 20) (tgt := 25) hC dX10_readCastle_20 (by decide) ?_
        exact hJ 25
  have hB25 : zin 4 [0, 1, 2, 3] (aX10_readCastle_25 mc ms X Q) X 25 := by
    intro u v vs st M hb
    rw [hXe]
    refine fun lv hp => S_block (L := 25) (live := [0, 1, 2, 3]) ?_ u v lv vs st M hp hb
    unfold aX10_readCastle_25
    refine S_icmp_eq (pc := 25) (tgt := 30) hC dX10_readCastle_25 (by decide) ?_ ?_
    · refine S_iinc (pc := 30) hC dX10_readCastle_30 (by decide) (by decide) ?_
      refine S_goto (pc := 33) (tgt := 2) hC dX10_readCastle_33 (by decide) ?_
      exact hJ 2
    · refine S_iconst (pc := 28) hC dX10_readCastle_28 (by decide) ?_
      exact S_ireturn (pc := 29) hC hr dX10_readCastle_29
  have hB60 : zin 4 [] (aX10_readCastle_60 mc ms X Q) X 60 := by
    intro u v vs st M hb
    rw [hXe]
    refine fun lv hp => S_block (L := 60) (live := []) ?_ u v lv vs st M hp hb
    unfold aX10_readCastle_60
    exact S_ireturn (pc := 60) hC hr dX10_readCastle_60
  have := h.2 X hB0 hB2 hB25 hB60
  rw [hXe] at this
  exact this lv hlv
theorem vX10_readCastle_0 {mc ms : Nat} {X : Nat → zV} {Q : zQt} {M : zM} {g : Nat} {x1 : Int32} {x2 : Int32} (hW : zWd M g)  (h : X 2 0 0 [.ref 24, .int x1, .int x2, .int x1] [] M) : aX10_readCastle_0 mc ms X Q 0 0 [some (.ref 24), some (.int x1), some (.int x2), none] [] M := h
theorem vX10_readCastle_2 {mc ms : Nat} {X : Nat → zV} {Q : zQt} {M : zM} {g : Nat} {x1 : Int32} {x2 : Int32} {x3 : Int32} (hW : zWd M g)  (h : (x2 ≤ x3 → ((x2 - x1) = (3 : Int32) → X 60 0 0 [] [.int 2] M) ∧ (¬ (x2 - x1) = (3 : Int32) → ((x2 - x1) = (5 : Int32) → X 60 0 0 [] [.int (-2)] M) ∧ (¬ (x2 - x1) = (5 : Int32) → X 60 0 0 [] [.int 0] M))) ∧ (¬ x2 ≤ x3 → vp_in x3 8180 ∧ (((x3 - x1) - (x3 - x1) / (2 : Int32) * (2 : Int32)) = 0 → X 25 0 0 [.ref 24, .int x1, .int x2, .int x3] [.int 48, .int ((M : zM).1 24 (x3 : Int32).toNatClampNeg)] M) ∧ (¬ ((x3 - x1) - (x3 - x1) / (2 : Int32) * (2 : Int32)) = 0 → X 25 0 0 [.ref 24, .int x1, .int x2, .int x3] [.int 45, .int ((M : zM).1 24 (x3 : Int32).toNatClampNeg)] M))) : aX10_readCastle_2 mc ms X Q 0 0 [some (.ref 24), some (.int x1), some (.int x2), some (.int x3)] [] M := ⟨fun c4 => ⟨fun c40 => ((h.1 c4).1 c40), fun c40 => ⟨fun c51 => (((h.1 c4).2 c40).1 c51), fun c51 => (((h.1 c4).2 c40).2 c51)⟩⟩, fun c4 => ⟨8180, (fxs_24 hW.1), (h.2 c4).1, ⟨by decide, ⟨fun c15 => ((h.2 c4).2.1 c15), fun c15 => ((h.2 c4).2.2 c15)⟩⟩⟩⟩
theorem vX10_readCastle_25 {mc ms : Nat} {X : Nat → zV} {Q : zQt} {M : zM} {g : Nat} {x1 : Int32} {x2 : Int32} {x3 : Int32} {s0 : Int32} {s1 : Int32} (hW : zWd M g)  (h : (s1 = s0 → X 2 0 0 [.ref 24, .int x1, .int x2, .int (x3 + 1)] [] M) ∧ (¬ s1 = s0 → Q (some (.int 0)) M)) : aX10_readCastle_25 mc ms X Q 0 0 [some (.ref 24), some (.int x1), some (.int x2), some (.int x3)] [.int s0, .int s1] M := ⟨fun c25 => (h.1 c25), fun c25 => (h.2 c25)⟩
theorem vX10_readCastle_60 {mc ms : Nat} {X : Nat → zV} {Q : zQt} {M : zM} {g : Nat} {s0 : Int32} (hW : zWd M g)  (h : Q (some (.int s0)) M) : aX10_readCastle_60 mc ms X Q 0 0 [none, none, none, none] [.int s0] M := h
theorem dX10_isFile_0 : decode cX10_isFile 0 = .ok (.iload_n 0, 1) := by decide +kernel
theorem dX10_isFile_1 : decode cX10_isFile 1 = .ok (.bipush 97, 2) := by decide +kernel
theorem dX10_isFile_3 : decode cX10_isFile 3 = .ok (.if_icmp .lt 13, 3) := by decide +kernel
theorem dX10_isFile_6 : decode cX10_isFile 6 = .ok (.iload_n 0, 1) := by decide +kernel
theorem dX10_isFile_7 : decode cX10_isFile 7 = .ok (.bipush 104, 2) := by decide +kernel
theorem dX10_isFile_9 : decode cX10_isFile 9 = .ok (.if_icmp .gt 7, 3) := by decide +kernel
theorem dX10_isFile_12 : decode cX10_isFile 12 = .ok (.iconst 1, 1) := by decide +kernel
theorem dX10_isFile_13 : decode cX10_isFile 13 = .ok (.goto 4, 3) := by decide +kernel
theorem dX10_isFile_16 : decode cX10_isFile 16 = .ok (.iconst 0, 1) := by decide +kernel
theorem dX10_isFile_17 : decode cX10_isFile 17 = .ok (.ireturn, 1) := by decide +kernel
def aX10_isFile_0 (mc ms : Nat) (X : Nat → zV) (Q : zQt) : zT :=
  zli 0 <| zc (.int 97) <| zic (fun x y => x < y) (zj X 16 []) <| zli 0 <| zc (.int 104) <| zic (fun x y => y < x) (zj X 16 []) <| zc (.int 1) <| zj X 17 []
def aX10_isFile_16 (mc ms : Nat) (X : Nat → zV) (Q : zQt) : zT :=
  zc (.int 0) <| zj X 17 []
def aX10_isFile_17 (mc ms : Nat) (X : Nat → zV) (Q : zQt) : zT :=
  zrz .boolean Q
def lvX10_isFile : Nat → List Nat := fun L => match L with
  | 0 => [0]
  | 16 => []
  | 17 => []
  | _ => []
def wX10_isFile : zSp := fun mc ms av M Q => ((zlay av).length ≤ 1 ∧ zpick (zlay av) [0] = some av) ∧ ∀ X : Nat → zV, zin 1 [0] (aX10_isFile_0 mc ms X Q) X 0 → zin 1 [] (aX10_isFile_16 mc ms X Q) X 16 → zin 1 [] (aX10_isFile_17 mc ms X Q) X 17 → X 0 0 0 av [] M
set_option maxRecDepth 100000 in
set_option maxHeartbeats 4000000 in
theorem sX10_isFile (l : Launch) (G : zG) : zSnd l G yX10_isFile cX10_isFile 1 (some .boolean) 0 0 wX10_isFile := by
  refine zmk [0] (by decide) (fun mc ms av M Q h => h.1) ?_
  intro p e R s m args below meth c mc ms av M Q hC hRf hRl hr hnm h lv hlv
  obtain ⟨X, hXe⟩ : ∃ X : Nat → zV, X = fun L u v vs st M => ∀ lv, zpick lv (lvX10_isFile L) = some vs → zAt p l e R s m args below meth c (MQ below (zQ G Q) args s mc ms (zA G)) G 1 L u v lv st M := ⟨_, rfl⟩
  have hJ : ∀ L, zOk p l e R s m args below meth c (MQ below (zQ G Q) args s mc ms (zA G)) G 1 L (zj X L (lvX10_isFile L)) := fun L => S_jump (fun u v lv vs st M hp hx => by rw [hXe] at hx; exact hx lv hp)
  have hB0 : zin 1 [0] (aX10_isFile_0 mc ms X Q) X 0 := by
    intro u v vs st M hb
    rw [hXe]
    refine fun lv hp => S_block (L := 0) (live := [0]) ?_ u v lv vs st M hp hb
    unfold aX10_isFile_0
    refine S_iload_n (pc := 0) hC dX10_isFile_0 rfl ?_
    refine S_bipush (pc := 1) hC dX10_isFile_1 (by decide) ?_
    refine S_icmp_lt (pc := 3) (tgt := 16) hC dX10_isFile_3 (by decide) ?_ ?_
    · exact hJ 16
    · refine S_iload_n (pc := 6) hC dX10_isFile_6 rfl ?_
      refine S_bipush (pc := 7) hC dX10_isFile_7 (by decide) ?_
      refine S_icmp_gt (pc := 9) (tgt := 16) hC dX10_isFile_9 (by decide) ?_ ?_
      · exact hJ 16
      · refine S_iconst (pc := 12) hC dX10_isFile_12 (by decide) ?_
        refine S_goto (pc := 13) (tgt := 17) hC dX10_isFile_13 (by decide) ?_
        exact hJ 17
  have hB16 : zin 1 [] (aX10_isFile_16 mc ms X Q) X 16 := by
    intro u v vs st M hb
    rw [hXe]
    refine fun lv hp => S_block (L := 16) (live := []) ?_ u v lv vs st M hp hb
    unfold aX10_isFile_16
    refine S_iconst (pc := 16) hC dX10_isFile_16 (by decide) ?_
    exact hJ 17
  have hB17 : zin 1 [] (aX10_isFile_17 mc ms X Q) X 17 := by
    intro u v vs st M hb
    rw [hXe]
    refine fun lv hp => S_block (L := 17) (live := []) ?_ u v lv vs st M hp hb
    unfold aX10_isFile_17
    exact S_zreturn (pc := 17) hC hr dX10_isFile_17
  have := h.2 X hB0 hB16 hB17
  rw [hXe] at this
  exact this lv hlv
theorem vX10_isFile_0 {mc ms : Nat} {X : Nat → zV} {Q : zQt} {M : zM} {g : Nat} {x0 : Int32} (hW : zWd M g)  (h : (x0 < (97 : Int32) → X 16 0 0 [] [] M) ∧ (¬ x0 < (97 : Int32) → ((104 : Int32) < x0 → X 16 0 0 [] [] M) ∧ (¬ (104 : Int32) < x0 → X 17 0 0 [] [.int 1] M))) : aX10_isFile_0 mc ms X Q 0 0 [some (.int x0)] [] M := ⟨fun c3 => (h.1 c3), fun c3 => ⟨fun c9 => ((h.2 c3).1 c9), fun c9 => ((h.2 c3).2 c9)⟩⟩
theorem vX10_isFile_16 {mc ms : Nat} {X : Nat → zV} {Q : zQt} {M : zM} {g : Nat}  (hW : zWd M g)  (h : X 17 0 0 [] [.int 0] M) : aX10_isFile_16 mc ms X Q 0 0 [none] [] M := h
theorem vX10_isFile_17 {mc ms : Nat} {X : Nat → zV} {Q : zQt} {M : zM} {g : Nat} {s0 : Int32} (hW : zWd M g)  (h : narrow .boolean (.int s0) = .int s0 ∧ Q (some (.int s0)) M) : aX10_isFile_17 mc ms X Q 0 0 [none] [.int s0] M := h
theorem dX10_isRank_0 : decode cX10_isRank 0 = .ok (.iload_n 0, 1) := by decide +kernel
theorem dX10_isRank_1 : decode cX10_isRank 1 = .ok (.bipush 49, 2) := by decide +kernel
theorem dX10_isRank_3 : decode cX10_isRank 3 = .ok (.if_icmp .lt 13, 3) := by decide +kernel
theorem dX10_isRank_6 : decode cX10_isRank 6 = .ok (.iload_n 0, 1) := by decide +kernel
theorem dX10_isRank_7 : decode cX10_isRank 7 = .ok (.bipush 56, 2) := by decide +kernel
theorem dX10_isRank_9 : decode cX10_isRank 9 = .ok (.if_icmp .gt 7, 3) := by decide +kernel
theorem dX10_isRank_12 : decode cX10_isRank 12 = .ok (.iconst 1, 1) := by decide +kernel
theorem dX10_isRank_13 : decode cX10_isRank 13 = .ok (.goto 4, 3) := by decide +kernel
theorem dX10_isRank_16 : decode cX10_isRank 16 = .ok (.iconst 0, 1) := by decide +kernel
theorem dX10_isRank_17 : decode cX10_isRank 17 = .ok (.ireturn, 1) := by decide +kernel
def aX10_isRank_0 (mc ms : Nat) (X : Nat → zV) (Q : zQt) : zT :=
  zli 0 <| zc (.int 49) <| zic (fun x y => x < y) (zj X 16 []) <| zli 0 <| zc (.int 56) <| zic (fun x y => y < x) (zj X 16 []) <| zc (.int 1) <| zj X 17 []
def aX10_isRank_16 (mc ms : Nat) (X : Nat → zV) (Q : zQt) : zT :=
  zc (.int 0) <| zj X 17 []
def aX10_isRank_17 (mc ms : Nat) (X : Nat → zV) (Q : zQt) : zT :=
  zrz .boolean Q
def lvX10_isRank : Nat → List Nat := fun L => match L with
  | 0 => [0]
  | 16 => []
  | 17 => []
  | _ => []
def wX10_isRank : zSp := fun mc ms av M Q => ((zlay av).length ≤ 1 ∧ zpick (zlay av) [0] = some av) ∧ ∀ X : Nat → zV, zin 1 [0] (aX10_isRank_0 mc ms X Q) X 0 → zin 1 [] (aX10_isRank_16 mc ms X Q) X 16 → zin 1 [] (aX10_isRank_17 mc ms X Q) X 17 → X 0 0 0 av [] M
set_option maxRecDepth 100000 in
set_option maxHeartbeats 4000000 in
theorem sX10_isRank (l : Launch) (G : zG) : zSnd l G yX10_isRank cX10_isRank 1 (some .boolean) 0 0 wX10_isRank := by
  refine zmk [0] (by decide) (fun mc ms av M Q h => h.1) ?_
  intro p e R s m args below meth c mc ms av M Q hC hRf hRl hr hnm h lv hlv
  obtain ⟨X, hXe⟩ : ∃ X : Nat → zV, X = fun L u v vs st M => ∀ lv, zpick lv (lvX10_isRank L) = some vs → zAt p l e R s m args below meth c (MQ below (zQ G Q) args s mc ms (zA G)) G 1 L u v lv st M := ⟨_, rfl⟩
  have hJ : ∀ L, zOk p l e R s m args below meth c (MQ below (zQ G Q) args s mc ms (zA G)) G 1 L (zj X L (lvX10_isRank L)) := fun L => S_jump (fun u v lv vs st M hp hx => by rw [hXe] at hx; exact hx lv hp)
  have hB0 : zin 1 [0] (aX10_isRank_0 mc ms X Q) X 0 := by
    intro u v vs st M hb
    rw [hXe]
    refine fun lv hp => S_block (L := 0) (live := [0]) ?_ u v lv vs st M hp hb
    unfold aX10_isRank_0
    refine S_iload_n (pc := 0) hC dX10_isRank_0 rfl ?_
    refine S_bipush (pc := 1) hC dX10_isRank_1 (by decide) ?_
    refine S_icmp_lt (pc := 3) (tgt := 16) hC dX10_isRank_3 (by decide) ?_ ?_
    · exact hJ 16
    · refine S_iload_n (pc := 6) hC dX10_isRank_6 rfl ?_
      refine S_bipush (pc := 7) hC dX10_isRank_7 (by decide) ?_
      refine S_icmp_gt (pc := 9) (tgt := 16) hC dX10_isRank_9 (by decide) ?_ ?_
      · exact hJ 16
      · refine S_iconst (pc := 12) hC dX10_isRank_12 (by decide) ?_
        refine S_goto (pc := 13) (tgt := 17) hC dX10_isRank_13 (by decide) ?_
        exact hJ 17
  have hB16 : zin 1 [] (aX10_isRank_16 mc ms X Q) X 16 := by
    intro u v vs st M hb
    rw [hXe]
    refine fun lv hp => S_block (L := 16) (live := []) ?_ u v lv vs st M hp hb
    unfold aX10_isRank_16
    refine S_iconst (pc := 16) hC dX10_isRank_16 (by decide) ?_
    exact hJ 17
  have hB17 : zin 1 [] (aX10_isRank_17 mc ms X Q) X 17 := by
    intro u v vs st M hb
    rw [hXe]
    refine fun lv hp => S_block (L := 17) (live := []) ?_ u v lv vs st M hp hb
    unfold aX10_isRank_17
    exact S_zreturn (pc := 17) hC hr dX10_isRank_17
  have := h.2 X hB0 hB16 hB17
  rw [hXe] at this
  exact this lv hlv
theorem vX10_isRank_0 {mc ms : Nat} {X : Nat → zV} {Q : zQt} {M : zM} {g : Nat} {x0 : Int32} (hW : zWd M g)  (h : (x0 < (49 : Int32) → X 16 0 0 [] [] M) ∧ (¬ x0 < (49 : Int32) → ((56 : Int32) < x0 → X 16 0 0 [] [] M) ∧ (¬ (56 : Int32) < x0 → X 17 0 0 [] [.int 1] M))) : aX10_isRank_0 mc ms X Q 0 0 [some (.int x0)] [] M := ⟨fun c3 => (h.1 c3), fun c3 => ⟨fun c9 => ((h.2 c3).1 c9), fun c9 => ((h.2 c3).2 c9)⟩⟩
theorem vX10_isRank_16 {mc ms : Nat} {X : Nat → zV} {Q : zQt} {M : zM} {g : Nat}  (hW : zWd M g)  (h : X 17 0 0 [] [.int 0] M) : aX10_isRank_16 mc ms X Q 0 0 [none] [] M := h
theorem vX10_isRank_17 {mc ms : Nat} {X : Nat → zV} {Q : zQt} {M : zM} {g : Nat} {s0 : Int32} (hW : zWd M g)  (h : narrow .boolean (.int s0) = .int s0 ∧ Q (some (.int s0)) M) : aX10_isRank_17 mc ms X Q 0 0 [none] [.int s0] M := h
theorem dX11_putNumber_0 : decode cX11_putNumber 0 = .ok (.iconst 0, 1) := by decide +kernel
theorem dX11_putNumber_1 : decode cX11_putNumber 1 = .ok (.istore_n 3, 1) := by decide +kernel
theorem dX11_putNumber_2 : decode cX11_putNumber 2 = .ok (.iload_n 3, 1) := by decide +kernel
theorem dX11_putNumber_3 : decode cX11_putNumber 3 = .ok (.iconst 4, 1) := by decide +kernel
theorem dX11_putNumber_4 : decode cX11_putNumber 4 = .ok (.if_icmp .ge 31, 3) := by decide +kernel
theorem dX11_putNumber_7 : decode cX11_putNumber 7 = .ok (.aload_n 0, 1) := by decide +kernel
theorem dX11_putNumber_8 : decode cX11_putNumber 8 = .ok (.getfield 12, 3) := by decide +kernel
theorem dX11_putNumber_11 : decode cX11_putNumber 11 = .ok (.iload_n 2, 1) := by decide +kernel
theorem dX11_putNumber_12 : decode cX11_putNumber 12 = .ok (.iload_n 3, 1) := by decide +kernel
theorem dX11_putNumber_13 : decode cX11_putNumber 13 = .ok (.iadd, 1) := by decide +kernel
theorem dX11_putNumber_14 : decode cX11_putNumber 14 = .ok (.iload_n 1, 1) := by decide +kernel
theorem dX11_putNumber_15 : decode cX11_putNumber 15 = .ok (.bipush 24, 2) := by decide +kernel
theorem dX11_putNumber_17 : decode cX11_putNumber 17 = .ok (.bipush 8, 2) := by decide +kernel
theorem dX11_putNumber_19 : decode cX11_putNumber 19 = .ok (.iload_n 3, 1) := by decide +kernel
theorem dX11_putNumber_20 : decode cX11_putNumber 20 = .ok (.imul, 1) := by decide +kernel
theorem dX11_putNumber_21 : decode cX11_putNumber 21 = .ok (.isub, 1) := by decide +kernel
theorem dX11_putNumber_22 : decode cX11_putNumber 22 = .ok (.iushr, 1) := by decide +kernel
theorem dX11_putNumber_23 : decode cX11_putNumber 23 = .ok (.sipush 255, 3) := by decide +kernel
theorem dX11_putNumber_26 : decode cX11_putNumber 26 = .ok (.iand, 1) := by decide +kernel
theorem dX11_putNumber_27 : decode cX11_putNumber 27 = .ok (.i2c, 1) := by decide +kernel
theorem dX11_putNumber_28 : decode cX11_putNumber 28 = .ok (.castore, 1) := by decide +kernel
theorem dX11_putNumber_29 : decode cX11_putNumber 29 = .ok (.iinc 3 1, 3) := by decide +kernel
theorem dX11_putNumber_32 : decode cX11_putNumber 32 = .ok (.goto (-30), 3) := by decide +kernel
theorem dX11_putNumber_35 : decode cX11_putNumber 35 = .ok (.return_, 1) := by decide +kernel
def aX11_putNumber_0 (mc ms : Nat) (X : Nat → zV) (Q : zQt) : zT :=
  zc (.int 0) <| zsi 3 <| zj X 2 [0, 1, 2, 3]
def aX11_putNumber_2 (mc ms : Nat) (X : Nat → zV) (Q : zQt) : zT :=
  zli 3 <| zc (.int 4) <| zic (fun x y => y ≤ x) (zrv Q) <| zla 0 <| zgR 11 0 <| zli 2 <| zli 3 <| zii (fun x y => x + y) <| zli 1 <| zc (.int 24) <| zc (.int 8) <| zli 3 <| zii (fun x y => x * y) <| zii (fun x y => x - y) <| zii (fun x y => (x.toUInt32 >>> (y.toUInt32 &&& Int32.toUInt32 31)).toInt32) <| zc (.int 255) <| zii (fun x y => x &&& y) <| zi1 (fun x => (x.toUInt32 % 65536).toInt32) <| zas 4 (vp_nar .char) <| zinc 3 1 <| zj X 2 [0, 1, 2, 3]
def lvX11_putNumber : Nat → List Nat := fun L => match L with
  | 0 => [0, 1, 2]
  | 2 => [0, 1, 2, 3]
  | _ => []
def wX11_putNumber : zSp := fun mc ms av M Q => ((zlay av).length ≤ 4 ∧ zpick (zlay av) [0, 1, 2] = some av) ∧ ∀ X : Nat → zV, zin 4 [0, 1, 2] (aX11_putNumber_0 mc ms X Q) X 0 → zin 4 [0, 1, 2, 3] (aX11_putNumber_2 mc ms X Q) X 2 → X 0 0 0 av [] M
set_option maxRecDepth 100000 in
set_option maxHeartbeats 4000000 in
theorem sX11_putNumber (l : Launch) (G : zG) : zSnd l G yX11_putNumber cX11_putNumber 4 none 0 0 wX11_putNumber := by
  refine zmk [0, 1, 2] (by decide) (fun mc ms av M Q h => h.1) ?_
  intro p e R s m args below meth c mc ms av M Q hC hRf hRl hr hnm h lv hlv
  obtain ⟨X, hXe⟩ : ∃ X : Nat → zV, X = fun L u v vs st M => ∀ lv, zpick lv (lvX11_putNumber L) = some vs → zAt p l e R s m args below meth c (MQ below (zQ G Q) args s mc ms (zA G)) G 4 L u v lv st M := ⟨_, rfl⟩
  have hJ : ∀ L, zOk p l e R s m args below meth c (MQ below (zQ G Q) args s mc ms (zA G)) G 4 L (zj X L (lvX11_putNumber L)) := fun L => S_jump (fun u v lv vs st M hp hx => by rw [hXe] at hx; exact hx lv hp)
  have hB0 : zin 4 [0, 1, 2] (aX11_putNumber_0 mc ms X Q) X 0 := by
    intro u v vs st M hb
    rw [hXe]
    refine fun lv hp => S_block (L := 0) (live := [0, 1, 2]) ?_ u v lv vs st M hp hb
    unfold aX11_putNumber_0
    refine S_iconst (pc := 0) hC dX11_putNumber_0 (by decide) ?_
    refine S_istore_n (pc := 1) hC dX11_putNumber_1 rfl (by decide) ?_
    exact hJ 2
  have hB2 : zin 4 [0, 1, 2, 3] (aX11_putNumber_2 mc ms X Q) X 2 := by
    intro u v vs st M hb
    rw [hXe]
    refine fun lv hp => S_block (L := 2) (live := [0, 1, 2, 3]) ?_ u v lv vs st M hp hb
    unfold aX11_putNumber_2
    refine S_iload_n (pc := 2) hC dX11_putNumber_2 rfl ?_
    refine S_iconst (pc := 3) hC dX11_putNumber_3 (by decide) ?_
    refine S_icmp_ge (pc := 4) (tgt := 35) hC dX11_putNumber_4 (by decide) ?_ ?_
    · exact S_vreturn (pc := 35) hC hr dX11_putNumber_35
    · refine S_aload_n (pc := 7) hC dX11_putNumber_7 rfl ?_
      refine S_getR (pc := 8) hC cfX11 (by decide) (Or.inr ⟨_, rfl⟩) wd_346 dX11_putNumber_8 ?_
      refine S_iload_n (pc := 11) hC dX11_putNumber_11 rfl ?_
      refine S_iload_n (pc := 12) hC dX11_putNumber_12 rfl ?_
      refine S_iadd (pc := 13) hC dX11_putNumber_13 ?_
      refine S_iload_n (pc := 14) hC dX11_putNumber_14 rfl ?_
      refine S_bipush (pc := 15) hC dX11_putNumber_15 (by decide) ?_
      refine S_bipush (pc := 17) hC dX11_putNumber_17 (by decide) ?_
      refine S_iload_n (pc := 19) hC dX11_putNumber_19 rfl ?_
      refine S_imul (pc := 20) hC dX11_putNumber_20 ?_
      refine S_isub (pc := 21) hC dX11_putNumber_21 ?_
      refine S_iushr (pc := 22) hC dX11_putNumber_22 ?_
      refine S_sipush (pc := 23) hC dX11_putNumber_23 (by decide) ?_
      refine S_iand (pc := 26) hC dX11_putNumber_26 ?_
      refine S_i2c (pc := 27) hC dX11_putNumber_27 ?_
      refine S_castore (pc := 28) hC dX11_putNumber_28 ?_
      refine S_iinc (pc := 29) hC dX11_putNumber_29 (by decide) (by decide) ?_
      refine S_goto (pc := 32) (tgt := 2) hC dX11_putNumber_32 (by decide) ?_
      exact hJ 2
  have := h.2 X hB0 hB2
  rw [hXe] at this
  exact this lv hlv
theorem vX11_putNumber_0 {mc ms : Nat} {X : Nat → zV} {Q : zQt} {M : zM} {g : Nat} {x1 : Int32} {x2 : Int32} (hW : zWd M g)  (h : X 2 0 0 [.ref 16, .int x1, .int x2, .int 0] [] M) : aX11_putNumber_0 mc ms X Q 0 0 [some (.ref 16), some (.int x1), some (.int x2), none] [] M := h
theorem vX11_putNumber_2 {mc ms : Nat} {X : Nat → zV} {Q : zQt} {M : zM} {g : Nat} {x1 : Int32} {x2 : Int32} {x3 : Int32} (hW : zWd M g)  (h : ((4 : Int32) ≤ x3 → Q none M) ∧ (¬ (4 : Int32) ≤ x3 → vp_in ((x2 + x3)) 8180 ∧ ∀ M28 : zM, M28 = (zsI M 24 ((x2 + x3) : Int32).toNatClampNeg (vp_nar .char ((((((x1.toUInt32 >>> (((24 : Int32) - ((8 : Int32) * x3)).toUInt32 &&& Int32.toUInt32 31)).toInt32) &&& (255 : Int32)).toUInt32 % 65536).toInt32)))) → X 2 0 0 [.ref 16, .int x1, .int x2, .int (x3 + 1)] [] M28)) : aX11_putNumber_2 mc ms X Q 0 0 [some (.ref 16), some (.int x1), some (.int x2), some (.int x3)] [] M := ⟨fun c4 => (h.1 c4), fun c4 => ⟨(fxs_16 hW.1), 24, (fxr_16_0 hW.1), ⟨8180, (fxs_24 hW.1), (h.2 c4).1, (have h28 := (h.2 c4).2 _ rfl; h28)⟩⟩⟩
theorem dX11_legalMany_0 : decode cX11_legalMany 0 = .ok (.aload_n 0, 1) := by decide +kernel
theorem dX11_legalMany_1 : decode cX11_legalMany 1 = .ok (.getfield 65, 3) := by decide +kernel
theorem dX11_legalMany_4 : decode cX11_legalMany 4 = .ok (.ifCond .eq 13, 3) := by decide +kernel
theorem dX11_legalMany_7 : decode cX11_legalMany 7 = .ok (.aload_n 0, 1) := by decide +kernel
theorem dX11_legalMany_8 : decode cX11_legalMany 8 = .ok (.getfield 58, 3) := by decide +kernel
theorem dX11_legalMany_11 : decode cX11_legalMany 11 = .ok (.getfield 117, 3) := by decide +kernel
theorem dX11_legalMany_14 : decode cX11_legalMany 14 = .ok (.goto 4, 3) := by decide +kernel
theorem dX11_legalMany_17 : decode cX11_legalMany 17 = .ok (.iconst 0, 1) := by decide +kernel
theorem dX11_legalMany_18 : decode cX11_legalMany 18 = .ok (.ireturn, 1) := by decide +kernel
def aX11_legalMany_0 (mc ms : Nat) (X : Nat → zV) (Q : zQt) : zT :=
  zla 0 <| zgi 11 8 <| zif (fun x => x = 0) (zc (.int 0) <| zj X 18 []) <| zla 0 <| zgR 11 6 <| zgi 4 3 <| zj X 18 []
def aX11_legalMany_18 (mc ms : Nat) (X : Nat → zV) (Q : zQt) : zT :=
  zri Q
def lvX11_legalMany : Nat → List Nat := fun L => match L with
  | 0 => [0]
  | 18 => []
  | _ => []
def wX11_legalMany : zSp := fun mc ms av M Q => ((zlay av).length ≤ 1 ∧ zpick (zlay av) [0] = some av) ∧ ∀ X : Nat → zV, zin 1 [0] (aX11_legalMany_0 mc ms X Q) X 0 → zin 1 [] (aX11_legalMany_18 mc ms X Q) X 18 → X 0 0 0 av [] M
set_option maxRecDepth 100000 in
set_option maxHeartbeats 4000000 in
theorem sX11_legalMany (l : Launch) (G : zG) : zSnd l G yX11_legalMany cX11_legalMany 1 (some .int) 0 0 wX11_legalMany := by
  refine zmk [0] (by decide) (fun mc ms av M Q h => h.1) ?_
  intro p e R s m args below meth c mc ms av M Q hC hRf hRl hr hnm h lv hlv
  obtain ⟨X, hXe⟩ : ∃ X : Nat → zV, X = fun L u v vs st M => ∀ lv, zpick lv (lvX11_legalMany L) = some vs → zAt p l e R s m args below meth c (MQ below (zQ G Q) args s mc ms (zA G)) G 1 L u v lv st M := ⟨_, rfl⟩
  have hJ : ∀ L, zOk p l e R s m args below meth c (MQ below (zQ G Q) args s mc ms (zA G)) G 1 L (zj X L (lvX11_legalMany L)) := fun L => S_jump (fun u v lv vs st M hp hx => by rw [hXe] at hx; exact hx lv hp)
  have hB0 : zin 1 [0] (aX11_legalMany_0 mc ms X Q) X 0 := by
    intro u v vs st M hb
    rw [hXe]
    refine fun lv hp => S_block (L := 0) (live := [0]) ?_ u v lv vs st M hp hb
    unfold aX11_legalMany_0
    refine S_aload_n (pc := 0) hC dX11_legalMany_0 rfl ?_
    refine S_geti (pc := 1) hC cfX11 (by decide) (Or.inr rfl) wd_354 dX11_legalMany_1 ?_
    refine S_if_eq (pc := 4) (tgt := 17) hC dX11_legalMany_4 (by decide) ?_ ?_
    · refine S_iconst (pc := 17) hC dX11_legalMany_17 (by decide) ?_
      exact hJ 18
    · refine S_aload_n (pc := 7) hC dX11_legalMany_7 rfl ?_
      refine S_getR (pc := 8) hC cfX11 (by decide) (Or.inl ⟨_, rfl⟩) wd_352 dX11_legalMany_8 ?_
      refine S_geti (pc := 11) hC cfX4 (by decide) (Or.inl rfl) wd_325 dX11_legalMany_11 ?_
      refine S_goto (pc := 14) (tgt := 18) hC dX11_legalMany_14 (by decide) ?_
      exact hJ 18
  have hB18 : zin 1 [] (aX11_legalMany_18 mc ms X Q) X 18 := by
    intro u v vs st M hb
    rw [hXe]
    refine fun lv hp => S_block (L := 18) (live := []) ?_ u v lv vs st M hp hb
    unfold aX11_legalMany_18
    exact S_ireturn (pc := 18) hC hr dX11_legalMany_18
  have := h.2 X hB0 hB18
  rw [hXe] at this
  exact this lv hlv
theorem vX11_legalMany_0 {mc ms : Nat} {X : Nat → zV} {Q : zQt} {M : zM} {g : Nat}  (hW : zWd M g)  (h : ((M.1 16 8) = 0 → X 18 0 0 [] [.int 0] M) ∧ (¬ (M.1 16 8) = 0 → ∃ r8, ((M : zM).2.2.1 16 6) = some r8 ∧ zsh M r8 = some (0, 4) ∧ X 18 0 0 [] [.int (M.1 r8 3)] M)) : aX11_legalMany_0 mc ms X Q 0 0 [some (.ref 16)] [] M := ⟨(fxs_16 hW.1), ⟨fun c4 => (h.1 c4), fun c4 => (let ⟨r8, q8, hr8, h8⟩ := (h.2 c4); ⟨(fxs_16 hW.1), r8, q8, ⟨hr8, h8⟩⟩)⟩⟩
theorem vX11_legalMany_18 {mc ms : Nat} {X : Nat → zV} {Q : zQt} {M : zM} {g : Nat} {s0 : Int32} (hW : zWd M g)  (h : Q (some (.int s0)) M) : aX11_legalMany_18 mc ms X Q 0 0 [none] [.int s0] M := h
theorem dX11_hasPlace_0 : decode cX11_hasPlace 0 = .ok (.aload_n 0, 1) := by decide +kernel
theorem dX11_hasPlace_1 : decode cX11_hasPlace 1 = .ok (.getfield 65, 3) := by decide +kernel
theorem dX11_hasPlace_4 : decode cX11_hasPlace 4 = .ok (.ifCond .eq 22, 3) := by decide +kernel
theorem dX11_hasPlace_7 : decode cX11_hasPlace 7 = .ok (.iload_n 1, 1) := by decide +kernel
theorem dX11_hasPlace_8 : decode cX11_hasPlace 8 = .ok (.ifCond .lt 18, 3) := by decide +kernel
theorem dX11_hasPlace_11 : decode cX11_hasPlace 11 = .ok (.iload_n 1, 1) := by decide +kernel
theorem dX11_hasPlace_12 : decode cX11_hasPlace 12 = .ok (.aload_n 0, 1) := by decide +kernel
theorem dX11_hasPlace_13 : decode cX11_hasPlace 13 = .ok (.getfield 58, 3) := by decide +kernel
theorem dX11_hasPlace_16 : decode cX11_hasPlace 16 = .ok (.getfield 117, 3) := by decide +kernel
theorem dX11_hasPlace_19 : decode cX11_hasPlace 19 = .ok (.if_icmp .ge 7, 3) := by decide +kernel
theorem dX11_hasPlace_22 : decode cX11_hasPlace 22 = .ok (.iconst 1, 1) := by decide +kernel
theorem dX11_hasPlace_23 : decode cX11_hasPlace 23 = .ok (.goto 4, 3) := by decide +kernel
theorem dX11_hasPlace_26 : decode cX11_hasPlace 26 = .ok (.iconst 0, 1) := by decide +kernel
theorem dX11_hasPlace_27 : decode cX11_hasPlace 27 = .ok (.ireturn, 1) := by decide +kernel
def aX11_hasPlace_0 (mc ms : Nat) (X : Nat → zV) (Q : zQt) : zT :=
  zla 0 <| zgi 11 8 <| zif (fun x => x = 0) (zj X 26 []) <| zli 1 <| zif (fun x => x < 0) (zj X 26 []) <| zli 1 <| zla 0 <| zgR 11 6 <| zgi 4 3 <| zic (fun x y => y ≤ x) (zj X 26 []) <| zc (.int 1) <| zj X 27 []
def aX11_hasPlace_26 (mc ms : Nat) (X : Nat → zV) (Q : zQt) : zT :=
  zc (.int 0) <| zj X 27 []
def aX11_hasPlace_27 (mc ms : Nat) (X : Nat → zV) (Q : zQt) : zT :=
  zrz .boolean Q
def lvX11_hasPlace : Nat → List Nat := fun L => match L with
  | 0 => [0, 1]
  | 26 => []
  | 27 => []
  | _ => []
def wX11_hasPlace : zSp := fun mc ms av M Q => ((zlay av).length ≤ 2 ∧ zpick (zlay av) [0, 1] = some av) ∧ ∀ X : Nat → zV, zin 2 [0, 1] (aX11_hasPlace_0 mc ms X Q) X 0 → zin 2 [] (aX11_hasPlace_26 mc ms X Q) X 26 → zin 2 [] (aX11_hasPlace_27 mc ms X Q) X 27 → X 0 0 0 av [] M
set_option maxRecDepth 100000 in
set_option maxHeartbeats 4000000 in
theorem sX11_hasPlace (l : Launch) (G : zG) : zSnd l G yX11_hasPlace cX11_hasPlace 2 (some .boolean) 0 0 wX11_hasPlace := by
  refine zmk [0, 1] (by decide) (fun mc ms av M Q h => h.1) ?_
  intro p e R s m args below meth c mc ms av M Q hC hRf hRl hr hnm h lv hlv
  obtain ⟨X, hXe⟩ : ∃ X : Nat → zV, X = fun L u v vs st M => ∀ lv, zpick lv (lvX11_hasPlace L) = some vs → zAt p l e R s m args below meth c (MQ below (zQ G Q) args s mc ms (zA G)) G 2 L u v lv st M := ⟨_, rfl⟩
  have hJ : ∀ L, zOk p l e R s m args below meth c (MQ below (zQ G Q) args s mc ms (zA G)) G 2 L (zj X L (lvX11_hasPlace L)) := fun L => S_jump (fun u v lv vs st M hp hx => by rw [hXe] at hx; exact hx lv hp)
  have hB0 : zin 2 [0, 1] (aX11_hasPlace_0 mc ms X Q) X 0 := by
    intro u v vs st M hb
    rw [hXe]
    refine fun lv hp => S_block (L := 0) (live := [0, 1]) ?_ u v lv vs st M hp hb
    unfold aX11_hasPlace_0
    refine S_aload_n (pc := 0) hC dX11_hasPlace_0 rfl ?_
    refine S_geti (pc := 1) hC cfX11 (by decide) (Or.inr rfl) wd_354 dX11_hasPlace_1 ?_
    refine S_if_eq (pc := 4) (tgt := 26) hC dX11_hasPlace_4 (by decide) ?_ ?_
    · exact hJ 26
    · refine S_iload_n (pc := 7) hC dX11_hasPlace_7 rfl ?_
      refine S_if_lt (pc := 8) (tgt := 26) hC dX11_hasPlace_8 (by decide) ?_ ?_
      · exact hJ 26
      · refine S_iload_n (pc := 11) hC dX11_hasPlace_11 rfl ?_
        refine S_aload_n (pc := 12) hC dX11_hasPlace_12 rfl ?_
        refine S_getR (pc := 13) hC cfX11 (by decide) (Or.inl ⟨_, rfl⟩) wd_352 dX11_hasPlace_13 ?_
        refine S_geti (pc := 16) hC cfX4 (by decide) (Or.inl rfl) wd_325 dX11_hasPlace_16 ?_
        refine S_icmp_ge (pc := 19) (tgt := 26) hC dX11_hasPlace_19 (by decide) ?_ ?_
        · exact hJ 26
        · refine S_iconst (pc := 22) hC dX11_hasPlace_22 (by decide) ?_
          refine S_goto (pc := 23) (tgt := 27) hC dX11_hasPlace_23 (by decide) ?_
          exact hJ 27
  have hB26 : zin 2 [] (aX11_hasPlace_26 mc ms X Q) X 26 := by
    intro u v vs st M hb
    rw [hXe]
    refine fun lv hp => S_block (L := 26) (live := []) ?_ u v lv vs st M hp hb
    unfold aX11_hasPlace_26
    refine S_iconst (pc := 26) hC dX11_hasPlace_26 (by decide) ?_
    exact hJ 27
  have hB27 : zin 2 [] (aX11_hasPlace_27 mc ms X Q) X 27 := by
    intro u v vs st M hb
    rw [hXe]
    refine fun lv hp => S_block (L := 27) (live := []) ?_ u v lv vs st M hp hb
    unfold aX11_hasPlace_27
    exact S_zreturn (pc := 27) hC hr dX11_hasPlace_27
  have := h.2 X hB0 hB26 hB27
  rw [hXe] at this
  exact this lv hlv
theorem vX11_hasPlace_0 {mc ms : Nat} {X : Nat → zV} {Q : zQt} {M : zM} {g : Nat} {x1 : Int32} (hW : zWd M g)  (h : ((M.1 16 8) = 0 → X 26 0 0 [] [] M) ∧ (¬ (M.1 16 8) = 0 → (x1 < 0 → X 26 0 0 [] [] M) ∧ (¬ x1 < 0 → ∃ r13, ((M : zM).2.2.1 16 6) = some r13 ∧ zsh M r13 = some (0, 4) ∧ ((M.1 r13 3) ≤ x1 → X 26 0 0 [] [] M) ∧ (¬ (M.1 r13 3) ≤ x1 → X 27 0 0 [] [.int 1] M)))) : aX11_hasPlace_0 mc ms X Q 0 0 [some (.ref 16), some (.int x1)] [] M := ⟨(fxs_16 hW.1), ⟨fun c4 => (h.1 c4), fun c4 => ⟨fun c8 => ((h.2 c4).1 c8), fun c8 => (let ⟨r13, q13, hr13, h13⟩ := ((h.2 c4).2 c8); ⟨(fxs_16 hW.1), r13, q13, ⟨hr13, ⟨fun c19 => (h13.1 c19), fun c19 => (h13.2 c19)⟩⟩⟩)⟩⟩⟩
theorem vX11_hasPlace_26 {mc ms : Nat} {X : Nat → zV} {Q : zQt} {M : zM} {g : Nat}  (hW : zWd M g)  (h : X 27 0 0 [] [.int 0] M) : aX11_hasPlace_26 mc ms X Q 0 0 [none, none] [] M := h
theorem vX11_hasPlace_27 {mc ms : Nat} {X : Nat → zV} {Q : zQt} {M : zM} {g : Nat} {s0 : Int32} (hW : zWd M g)  (h : narrow .boolean (.int s0) = .int s0 ∧ Q (some (.int s0)) M) : aX11_hasPlace_27 mc ms X Q 0 0 [none, none] [.int s0] M := h
theorem dX11_manOn_0 : decode cX11_manOn 0 = .ok (.aload_n 0, 1) := by decide +kernel
theorem dX11_manOn_1 : decode cX11_manOn 1 = .ok (.getfield 65, 3) := by decide +kernel
theorem dX11_manOn_4 : decode cX11_manOn 4 = .ok (.ifCond .eq 28, 3) := by decide +kernel
theorem dX11_manOn_7 : decode cX11_manOn 7 = .ok (.iload_n 1, 1) := by decide +kernel
theorem dX11_manOn_8 : decode cX11_manOn 8 = .ok (.ifCond .lt 24, 3) := by decide +kernel
theorem dX11_manOn_11 : decode cX11_manOn 11 = .ok (.iload_n 1, 1) := by decide +kernel
theorem dX11_manOn_12 : decode cX11_manOn 12 = .ok (.bipush 64, 2) := by decide +kernel
theorem dX11_manOn_14 : decode cX11_manOn 14 = .ok (.if_icmp .ge 18, 3) := by decide +kernel
theorem dX11_manOn_17 : decode cX11_manOn 17 = .ok (.aload_n 0, 1) := by decide +kernel
theorem dX11_manOn_18 : decode cX11_manOn 18 = .ok (.getfield 58, 3) := by decide +kernel
theorem dX11_manOn_21 : decode cX11_manOn 21 = .ok (.getfield 89, 3) := by decide +kernel
theorem dX11_manOn_24 : decode cX11_manOn 24 = .ok (.getfield 150, 3) := by decide +kernel
theorem dX11_manOn_27 : decode cX11_manOn 27 = .ok (.iload_n 1, 1) := by decide +kernel
theorem dX11_manOn_28 : decode cX11_manOn 28 = .ok (.iaload, 1) := by decide +kernel
theorem dX11_manOn_29 : decode cX11_manOn 29 = .ok (.goto 4, 3) := by decide +kernel
theorem dX11_manOn_32 : decode cX11_manOn 32 = .ok (.iconst (-1), 1) := by decide +kernel
theorem dX11_manOn_33 : decode cX11_manOn 33 = .ok (.ireturn, 1) := by decide +kernel
def aX11_manOn_0 (mc ms : Nat) (X : Nat → zV) (Q : zQt) : zT :=
  zla 0 <| zgi 11 8 <| zif (fun x => x = 0) (zj X 32 []) <| zli 1 <| zif (fun x => x < 0) (zj X 32 []) <| zli 1 <| zc (.int 64) <| zic (fun x y => y ≤ x) (zj X 32 []) <| zla 0 <| zgR 11 6 <| zgR 4 0 <| zgR 0 1 <| zli 1 <| zal 1 <| zj X 33 []
def aX11_manOn_32 (mc ms : Nat) (X : Nat → zV) (Q : zQt) : zT :=
  zc (.int (-1)) <| zj X 33 []
def aX11_manOn_33 (mc ms : Nat) (X : Nat → zV) (Q : zQt) : zT :=
  zri Q
def lvX11_manOn : Nat → List Nat := fun L => match L with
  | 0 => [0, 1]
  | 32 => []
  | 33 => []
  | _ => []
def wX11_manOn : zSp := fun mc ms av M Q => ((zlay av).length ≤ 2 ∧ zpick (zlay av) [0, 1] = some av) ∧ ∀ X : Nat → zV, zin 2 [0, 1] (aX11_manOn_0 mc ms X Q) X 0 → zin 2 [] (aX11_manOn_32 mc ms X Q) X 32 → zin 2 [] (aX11_manOn_33 mc ms X Q) X 33 → X 0 0 0 av [] M
set_option maxRecDepth 100000 in
set_option maxHeartbeats 4000000 in
theorem sX11_manOn (l : Launch) (G : zG) : zSnd l G yX11_manOn cX11_manOn 2 (some .int) 0 0 wX11_manOn := by
  refine zmk [0, 1] (by decide) (fun mc ms av M Q h => h.1) ?_
  intro p e R s m args below meth c mc ms av M Q hC hRf hRl hr hnm h lv hlv
  obtain ⟨X, hXe⟩ : ∃ X : Nat → zV, X = fun L u v vs st M => ∀ lv, zpick lv (lvX11_manOn L) = some vs → zAt p l e R s m args below meth c (MQ below (zQ G Q) args s mc ms (zA G)) G 2 L u v lv st M := ⟨_, rfl⟩
  have hJ : ∀ L, zOk p l e R s m args below meth c (MQ below (zQ G Q) args s mc ms (zA G)) G 2 L (zj X L (lvX11_manOn L)) := fun L => S_jump (fun u v lv vs st M hp hx => by rw [hXe] at hx; exact hx lv hp)
  have hB0 : zin 2 [0, 1] (aX11_manOn_0 mc ms X Q) X 0 := by
    intro u v vs st M hb
    rw [hXe]
    refine fun lv hp => S_block (L := 0) (live := [0, 1]) ?_ u v lv vs st M hp hb
    unfold aX11_manOn_0
    refine S_aload_n (pc := 0) hC dX11_manOn_0 rfl ?_
    refine S_geti (pc := 1) hC cfX11 (by decide) (Or.inr rfl) wd_354 dX11_manOn_1 ?_
    refine S_if_eq (pc := 4) (tgt := 32) hC dX11_manOn_4 (by decide) ?_ ?_
    · exact hJ 32
    · refine S_iload_n (pc := 7) hC dX11_manOn_7 rfl ?_
      refine S_if_lt (pc := 8) (tgt := 32) hC dX11_manOn_8 (by decide) ?_ ?_
      · exact hJ 32
      · refine S_iload_n (pc := 11) hC dX11_manOn_11 rfl ?_
        refine S_bipush (pc := 12) hC dX11_manOn_12 (by decide) ?_
        refine S_icmp_ge (pc := 14) (tgt := 32) hC dX11_manOn_14 (by decide) ?_ ?_
        · exact hJ 32
        · refine S_aload_n (pc := 17) hC dX11_manOn_17 rfl ?_
          refine S_getR (pc := 18) hC cfX11 (by decide) (Or.inl ⟨_, rfl⟩) wd_352 dX11_manOn_18 ?_
          refine S_getR (pc := 21) hC cfX4 (by decide) (Or.inl ⟨_, rfl⟩) wd_311 dX11_manOn_21 ?_
          refine S_getR (pc := 24) hC cfX0 (by decide) (Or.inr ⟨_, rfl⟩) wd_218 dX11_manOn_24 ?_
          refine S_iload_n (pc := 27) hC dX11_manOn_27 rfl ?_
          refine S_iaload (pc := 28) hC dX11_manOn_28 ?_
          refine S_goto (pc := 29) (tgt := 33) hC dX11_manOn_29 (by decide) ?_
          exact hJ 33
  have hB32 : zin 2 [] (aX11_manOn_32 mc ms X Q) X 32 := by
    intro u v vs st M hb
    rw [hXe]
    refine fun lv hp => S_block (L := 32) (live := []) ?_ u v lv vs st M hp hb
    unfold aX11_manOn_32
    refine S_iconst (pc := 32) hC dX11_manOn_32 (by decide) ?_
    exact hJ 33
  have hB33 : zin 2 [] (aX11_manOn_33 mc ms X Q) X 33 := by
    intro u v vs st M hb
    rw [hXe]
    refine fun lv hp => S_block (L := 33) (live := []) ?_ u v lv vs st M hp hb
    unfold aX11_manOn_33
    exact S_ireturn (pc := 33) hC hr dX11_manOn_33
  have := h.2 X hB0 hB32 hB33
  rw [hXe] at this
  exact this lv hlv
theorem vX11_manOn_0 {mc ms : Nat} {X : Nat → zV} {Q : zQt} {M : zM} {g : Nat} {x1 : Int32} (hW : zWd M g)  (h : ((M.1 16 8) = 0 → X 32 0 0 [] [] M) ∧ (¬ (M.1 16 8) = 0 → (x1 < 0 → X 32 0 0 [] [] M) ∧ (¬ x1 < 0 → ((64 : Int32) ≤ x1 → X 32 0 0 [] [] M) ∧ (¬ (64 : Int32) ≤ x1 → ∃ r18, ((M : zM).2.2.1 16 6) = some r18 ∧ zsh M r18 = some (0, 4) ∧ ∃ r21, ((M : zM).2.2.1 r18 0) = some r21 ∧ zsh M r21 = some (0, 0) ∧ ∃ r24 r24n, ((M : zM).2.2.1 r21 1) = some r24 ∧ zsh M r24 = some (1, r24n) ∧ vp_in x1 r24n ∧ X 33 0 0 [] [.int ((M : zM).1 r24 (x1 : Int32).toNatClampNeg)] M)))) : aX11_manOn_0 mc ms X Q 0 0 [some (.ref 16), some (.int x1)] [] M := ⟨(fxs_16 hW.1), ⟨fun c4 => (h.1 c4), fun c4 => ⟨fun c8 => ((h.2 c4).1 c8), fun c8 => ⟨fun c14 => (((h.2 c4).2 c8).1 c14), fun c14 => (let ⟨r18, q18, hr18, h18⟩ := (((h.2 c4).2 c8).2 c14); ⟨(fxs_16 hW.1), r18, q18, (let ⟨r21, q21, hr21, h21⟩ := h18; ⟨hr18, r21, q21, (let ⟨r24, r24n, q24, hr24, h24⟩ := h21; ⟨hr21, r24, q24, ⟨r24n, hr24, h24.1, h24.2⟩⟩)⟩)⟩)⟩⟩⟩⟩
theorem vX11_manOn_32 {mc ms : Nat} {X : Nat → zV} {Q : zQt} {M : zM} {g : Nat}  (hW : zWd M g)  (h : X 33 0 0 [] [.int (-1)] M) : aX11_manOn_32 mc ms X Q 0 0 [none, none] [] M := h
theorem vX11_manOn_33 {mc ms : Nat} {X : Nat → zV} {Q : zQt} {M : zM} {g : Nat} {s0 : Int32} (hW : zWd M g)  (h : Q (some (.int s0)) M) : aX11_manOn_33 mc ms X Q 0 0 [none, none] [.int s0] M := h
theorem dX11_shortDepth_0 : decode cX11_shortDepth 0 = .ok (.aload_n 0, 1) := by decide +kernel
theorem dX11_shortDepth_1 : decode cX11_shortDepth 1 = .ok (.getfield 58, 3) := by decide +kernel
theorem dX11_shortDepth_4 : decode cX11_shortDepth 4 = .ok (.getfield 117, 3) := by decide +kernel
theorem dX11_shortDepth_7 : decode cX11_shortDepth 7 = .ok (.bipush 30, 2) := by decide +kernel
theorem dX11_shortDepth_9 : decode cX11_shortDepth 9 = .ok (.if_icmp .gt 7, 3) := by decide +kernel
theorem dX11_shortDepth_12 : decode cX11_shortDepth 12 = .ok (.iconst 3, 1) := by decide +kernel
theorem dX11_shortDepth_13 : decode cX11_shortDepth 13 = .ok (.goto 4, 3) := by decide +kernel
theorem dX11_shortDepth_16 : decode cX11_shortDepth 16 = .ok (.iconst 2, 1) := by decide +kernel
theorem dX11_shortDepth_17 : decode cX11_shortDepth 17 = .ok (.ireturn, 1) := by decide +kernel
def aX11_shortDepth_0 (mc ms : Nat) (X : Nat → zV) (Q : zQt) : zT :=
  zla 0 <| zgR 11 6 <| zgi 4 3 <| zc (.int 30) <| zic (fun x y => y < x) (zc (.int 2) <| zj X 17 []) <| zc (.int 3) <| zj X 17 []
def aX11_shortDepth_17 (mc ms : Nat) (X : Nat → zV) (Q : zQt) : zT :=
  zri Q
def lvX11_shortDepth : Nat → List Nat := fun L => match L with
  | 0 => [0]
  | 17 => []
  | _ => []
def wX11_shortDepth : zSp := fun mc ms av M Q => ((zlay av).length ≤ 1 ∧ zpick (zlay av) [0] = some av) ∧ ∀ X : Nat → zV, zin 1 [0] (aX11_shortDepth_0 mc ms X Q) X 0 → zin 1 [] (aX11_shortDepth_17 mc ms X Q) X 17 → X 0 0 0 av [] M
set_option maxRecDepth 100000 in
set_option maxHeartbeats 4000000 in
theorem sX11_shortDepth (l : Launch) (G : zG) : zSnd l G yX11_shortDepth cX11_shortDepth 1 (some .int) 0 0 wX11_shortDepth := by
  refine zmk [0] (by decide) (fun mc ms av M Q h => h.1) ?_
  intro p e R s m args below meth c mc ms av M Q hC hRf hRl hr hnm h lv hlv
  obtain ⟨X, hXe⟩ : ∃ X : Nat → zV, X = fun L u v vs st M => ∀ lv, zpick lv (lvX11_shortDepth L) = some vs → zAt p l e R s m args below meth c (MQ below (zQ G Q) args s mc ms (zA G)) G 1 L u v lv st M := ⟨_, rfl⟩
  have hJ : ∀ L, zOk p l e R s m args below meth c (MQ below (zQ G Q) args s mc ms (zA G)) G 1 L (zj X L (lvX11_shortDepth L)) := fun L => S_jump (fun u v lv vs st M hp hx => by rw [hXe] at hx; exact hx lv hp)
  have hB0 : zin 1 [0] (aX11_shortDepth_0 mc ms X Q) X 0 := by
    intro u v vs st M hb
    rw [hXe]
    refine fun lv hp => S_block (L := 0) (live := [0]) ?_ u v lv vs st M hp hb
    unfold aX11_shortDepth_0
    refine S_aload_n (pc := 0) hC dX11_shortDepth_0 rfl ?_
    refine S_getR (pc := 1) hC cfX11 (by decide) (Or.inl ⟨_, rfl⟩) wd_352 dX11_shortDepth_1 ?_
    refine S_geti (pc := 4) hC cfX4 (by decide) (Or.inl rfl) wd_325 dX11_shortDepth_4 ?_
    refine S_bipush (pc := 7) hC dX11_shortDepth_7 (by decide) ?_
    refine S_icmp_gt (pc := 9) (tgt := 16) hC dX11_shortDepth_9 (by decide) ?_ ?_
    · refine S_iconst (pc := 16) hC dX11_shortDepth_16 (by decide) ?_
      exact hJ 17
    · refine S_iconst (pc := 12) hC dX11_shortDepth_12 (by decide) ?_
      refine S_goto (pc := 13) (tgt := 17) hC dX11_shortDepth_13 (by decide) ?_
      exact hJ 17
  have hB17 : zin 1 [] (aX11_shortDepth_17 mc ms X Q) X 17 := by
    intro u v vs st M hb
    rw [hXe]
    refine fun lv hp => S_block (L := 17) (live := []) ?_ u v lv vs st M hp hb
    unfold aX11_shortDepth_17
    exact S_ireturn (pc := 17) hC hr dX11_shortDepth_17
  have := h.2 X hB0 hB17
  rw [hXe] at this
  exact this lv hlv
theorem vX11_shortDepth_0 {mc ms : Nat} {X : Nat → zV} {Q : zQt} {M : zM} {g : Nat}  (hW : zWd M g)  (h : ∃ r1, ((M : zM).2.2.1 16 6) = some r1 ∧ zsh M r1 = some (0, 4) ∧ ((30 : Int32) < (M.1 r1 3) → X 17 0 0 [] [.int 2] M) ∧ (¬ (30 : Int32) < (M.1 r1 3) → X 17 0 0 [] [.int 3] M)) : aX11_shortDepth_0 mc ms X Q 0 0 [some (.ref 16)] [] M := (let ⟨r1, q1, hr1, h1⟩ := h; ⟨(fxs_16 hW.1), r1, q1, ⟨hr1, ⟨fun c9 => (h1.1 c9), fun c9 => (h1.2 c9)⟩⟩⟩)
theorem vX11_shortDepth_17 {mc ms : Nat} {X : Nat → zV} {Q : zQt} {M : zM} {g : Nat} {s0 : Int32} (hW : zWd M g)  (h : Q (some (.int s0)) M) : aX11_shortDepth_17 mc ms X Q 0 0 [none] [.int s0] M := h
theorem dX11_lookDepth_0 : decode cX11_lookDepth 0 = .ok (.aload_n 0, 1) := by decide +kernel
theorem dX11_lookDepth_1 : decode cX11_lookDepth 1 = .ok (.getfield 58, 3) := by decide +kernel
theorem dX11_lookDepth_4 : decode cX11_lookDepth 4 = .ok (.getfield 89, 3) := by decide +kernel
theorem dX11_lookDepth_7 : decode cX11_lookDepth 7 = .ok (.invokevirtual 171, 3) := by decide +kernel
theorem dX11_lookDepth_10 : decode cX11_lookDepth 10 = .ok (.iconst 3, 1) := by decide +kernel
theorem dX11_lookDepth_11 : decode cX11_lookDepth 11 = .ok (.if_icmp .gt 7, 3) := by decide +kernel
theorem dX11_lookDepth_14 : decode cX11_lookDepth 14 = .ok (.iconst 4, 1) := by decide +kernel
theorem dX11_lookDepth_15 : decode cX11_lookDepth 15 = .ok (.goto 7, 3) := by decide +kernel
theorem dX11_lookDepth_18 : decode cX11_lookDepth 18 = .ok (.aload_n 0, 1) := by decide +kernel
theorem dX11_lookDepth_19 : decode cX11_lookDepth 19 = .ok (.invokevirtual 155, 3) := by decide +kernel
theorem dX11_lookDepth_22 : decode cX11_lookDepth 22 = .ok (.ireturn, 1) := by decide +kernel
def kX11_lookDepth_22 (mc ms : Nat) (X : Nat → zV) (Q : zQt) : zT :=
  zj X 22 []
def kX11_lookDepth_10 (mc ms : Nat) (X : Nat → zV) (Q : zQt) : zT :=
  zc (.int 3) <| zic (fun x y => y < x) (zla 0 <| zcv mc ms 11 0 wX11_shortDepth <| kX11_lookDepth_22 mc ms X Q) <| zc (.int 4) <| zj X 22 []
def aX11_lookDepth_0 (mc ms : Nat) (X : Nat → zV) (Q : zQt) : zT :=
  zla 0 <| zgR 11 6 <| zgR 4 0 <| zcv mc ms 0 0 wX0_manyMen <| kX11_lookDepth_10 mc ms X Q
def aX11_lookDepth_22 (mc ms : Nat) (X : Nat → zV) (Q : zQt) : zT :=
  zri Q
def lvX11_lookDepth : Nat → List Nat := fun L => match L with
  | 0 => [0]
  | 22 => []
  | _ => []
def wX11_lookDepth : zSp := fun mc ms av M Q => ((zlay av).length ≤ 1 ∧ zpick (zlay av) [0] = some av) ∧ ∀ X : Nat → zV, zin 1 [0] (aX11_lookDepth_0 mc ms X Q) X 0 → zin 1 [] (aX11_lookDepth_22 mc ms X Q) X 22 → X 0 0 0 av [] M
set_option maxRecDepth 100000 in
set_option maxHeartbeats 4000000 in
theorem sX11_lookDepth (l : Launch) (G : zG) : zSnd l G yX11_lookDepth cX11_lookDepth 1 (some .int) 2 41 wX11_lookDepth := by
  refine zmk [0] (by decide) (fun mc ms av M Q h => h.1) ?_
  intro p e R s m args below meth c mc ms av M Q hC hRf hRl hr hnm h lv hlv
  obtain ⟨X, hXe⟩ : ∃ X : Nat → zV, X = fun L u v vs st M => ∀ lv, zpick lv (lvX11_lookDepth L) = some vs → zAt p l e R s m args below meth c (MQ below (zQ G Q) args s mc ms (zA G)) G 1 L u v lv st M := ⟨_, rfl⟩
  have hJ : ∀ L, zOk p l e R s m args below meth c (MQ below (zQ G Q) args s mc ms (zA G)) G 1 L (zj X L (lvX11_lookDepth L)) := fun L => S_jump (fun u v lv vs st M hp hx => by rw [hXe] at hx; exact hx lv hp)
  have hB0 : zin 1 [0] (aX11_lookDepth_0 mc ms X Q) X 0 := by
    intro u v vs st M hb
    rw [hXe]
    refine fun lv hp => S_block (L := 0) (live := [0]) ?_ u v lv vs st M hp hb
    unfold aX11_lookDepth_0
    refine S_aload_n (pc := 0) hC dX11_lookDepth_0 rfl ?_
    refine S_getR (pc := 1) hC cfX11 (by decide) (Or.inl ⟨_, rfl⟩) wd_352 dX11_lookDepth_1 ?_
    refine S_getR (pc := 4) hC cfX4 (by decide) (Or.inl ⟨_, rfl⟩) wd_311 dX11_lookDepth_4 ?_
    refine S_callV (pc := 7) hC (sX0_manyMen l G) rfl wd_570 wd_571 wd_572 wd_10 wd_573 (by decide +kernel) ⟨by rw [hRf]; decide, by rw [hRl]; decide⟩ dX11_lookDepth_7 ?_
    unfold kX11_lookDepth_10
    refine S_iconst (pc := 10) hC dX11_lookDepth_10 (by decide) ?_
    refine S_icmp_gt (pc := 11) (tgt := 18) hC dX11_lookDepth_11 (by decide) ?_ ?_
    · refine S_aload_n (pc := 18) hC dX11_lookDepth_18 rfl ?_
      refine S_callV (pc := 19) hC (sX11_shortDepth l G) rfl wd_1008 wd_1010 ws_41 wd_1 wd_1011 (by decide +kernel) ⟨by rw [hRf]; decide, by rw [hRl]; decide⟩ dX11_lookDepth_19 ?_
      unfold kX11_lookDepth_22
      exact hJ 22
    · refine S_iconst (pc := 14) hC dX11_lookDepth_14 (by decide) ?_
      refine S_goto (pc := 15) (tgt := 22) hC dX11_lookDepth_15 (by decide) ?_
      exact hJ 22
  have hB22 : zin 1 [] (aX11_lookDepth_22 mc ms X Q) X 22 := by
    intro u v vs st M hb
    rw [hXe]
    refine fun lv hp => S_block (L := 22) (live := []) ?_ u v lv vs st M hp hb
    unfold aX11_lookDepth_22
    exact S_ireturn (pc := 22) hC hr dX11_lookDepth_22
  have := h.2 X hB0 hB22
  rw [hXe] at this
  exact this lv hlv
theorem vX11_lookDepth_0 {mc ms : Nat} {X : Nat → zV} {Q : zQt} {M : zM} {g : Nat}  (hW : zWd M g)  (h : ∃ r1, ((M : zM).2.2.1 16 6) = some r1 ∧ zsh M r1 = some (0, 4) ∧ ∃ r4, ((M : zM).2.2.1 r1 0) = some r4 ∧ zsh M r4 = some (0, 0) ∧ wX0_manyMen 0 0 [.ref r4] M (fun r M1 => kX11_lookDepth_10 mc ms X Q 0 0 [some (.ref 16)] (r.toList ++ []) M1)) : aX11_lookDepth_0 mc ms X Q 0 0 [some (.ref 16)] [] M := (let ⟨r1, q1, hr1, h1⟩ := h; ⟨(fxs_16 hW.1), r1, q1, (let ⟨r4, q4, hr4, h4⟩ := h1; ⟨hr1, r4, q4, ⟨Nat.le_of_ble_eq_true rfl, rfl, hr4, 0, 0, Nat.zero_le _, Nat.zero_le _, h4⟩⟩)⟩)
theorem vX11_lookDepth_22 {mc ms : Nat} {X : Nat → zV} {Q : zQt} {M : zM} {g : Nat} {s0 : Int32} (hW : zWd M g)  (h : Q (some (.int s0)) M) : aX11_lookDepth_22 mc ms X Q 0 0 [none] [.int s0] M := h
theorem vkX11_lookDepth_10 {mc ms : Nat} {X : Nat → zV} {Q : zQt} {M : zM} {g : Nat} {s0 : Int32} (hW : zWd M g)  (h : ((3 : Int32) < s0 → wX11_shortDepth 0 0 [.ref 16] M (fun r M1 => kX11_lookDepth_22 mc ms X Q 0 0 [some (.ref 16)] (r.toList ++ []) M1)) ∧ (¬ (3 : Int32) < s0 → X 22 0 0 [] [.int 4] M)) : kX11_lookDepth_10 mc ms X Q 0 0 [some (.ref 16)] [.int s0] M := ⟨fun c11 => ⟨Nat.le_of_ble_eq_true rfl, rfl, (fxs_16 hW.1), 0, 0, Nat.zero_le _, Nat.zero_le _, (h.1 c11)⟩, fun c11 => (h.2 c11)⟩
theorem vkX11_lookDepth_22 {mc ms : Nat} {X : Nat → zV} {Q : zQt} {M : zM} {g : Nat} {s0 : Int32} (hW : zWd M g)  (h : X 22 0 0 [] [.int s0] M) : kX11_lookDepth_22 mc ms X Q 0 0 [some (.ref 16)] [.int s0] M := h
theorem dX11_ofPosition_0 : decode cX11_ofPosition 0 = .ok (.iload_n 1, 1) := by decide +kernel
theorem dX11_ofPosition_1 : decode cX11_ofPosition 1 = .ok (.tableswitch 102 4 9 #[39, 47, 58, 69, 80, 91], 39) := by decide +kernel
theorem dX11_ofPosition_40 : decode cX11_ofPosition 40 = .ok (.aload_n 0, 1) := by decide +kernel
theorem dX11_ofPosition_41 : decode cX11_ofPosition 41 = .ok (.getfield 58, 3) := by decide +kernel
theorem dX11_ofPosition_44 : decode cX11_ofPosition 44 = .ok (.invokevirtual 131, 3) := by decide +kernel
theorem dX11_ofPosition_47 : decode cX11_ofPosition 47 = .ok (.ireturn, 1) := by decide +kernel
theorem dX11_ofPosition_48 : decode cX11_ofPosition 48 = .ok (.aload_n 0, 1) := by decide +kernel
theorem dX11_ofPosition_49 : decode cX11_ofPosition 49 = .ok (.getfield 58, 3) := by decide +kernel
theorem dX11_ofPosition_52 : decode cX11_ofPosition 52 = .ok (.getfield 89, 3) := by decide +kernel
theorem dX11_ofPosition_55 : decode cX11_ofPosition 55 = .ok (.getfield 197, 3) := by decide +kernel
theorem dX11_ofPosition_58 : decode cX11_ofPosition 58 = .ok (.ireturn, 1) := by decide +kernel
theorem dX11_ofPosition_59 : decode cX11_ofPosition 59 = .ok (.aload_n 0, 1) := by decide +kernel
theorem dX11_ofPosition_60 : decode cX11_ofPosition 60 = .ok (.getfield 58, 3) := by decide +kernel
theorem dX11_ofPosition_63 : decode cX11_ofPosition 63 = .ok (.getfield 89, 3) := by decide +kernel
theorem dX11_ofPosition_66 : decode cX11_ofPosition 66 = .ok (.getfield 200, 3) := by decide +kernel
theorem dX11_ofPosition_69 : decode cX11_ofPosition 69 = .ok (.ireturn, 1) := by decide +kernel
theorem dX11_ofPosition_70 : decode cX11_ofPosition 70 = .ok (.aload_n 0, 1) := by decide +kernel
theorem dX11_ofPosition_71 : decode cX11_ofPosition 71 = .ok (.getfield 58, 3) := by decide +kernel
theorem dX11_ofPosition_74 : decode cX11_ofPosition 74 = .ok (.getfield 89, 3) := by decide +kernel
theorem dX11_ofPosition_77 : decode cX11_ofPosition 77 = .ok (.getfield 203, 3) := by decide +kernel
theorem dX11_ofPosition_80 : decode cX11_ofPosition 80 = .ok (.ireturn, 1) := by decide +kernel
theorem dX11_ofPosition_81 : decode cX11_ofPosition 81 = .ok (.aload_n 0, 1) := by decide +kernel
theorem dX11_ofPosition_82 : decode cX11_ofPosition 82 = .ok (.getfield 58, 3) := by decide +kernel
theorem dX11_ofPosition_85 : decode cX11_ofPosition 85 = .ok (.getfield 89, 3) := by decide +kernel
theorem dX11_ofPosition_88 : decode cX11_ofPosition 88 = .ok (.getfield 206, 3) := by decide +kernel
theorem dX11_ofPosition_91 : decode cX11_ofPosition 91 = .ok (.ireturn, 1) := by decide +kernel
theorem dX11_ofPosition_92 : decode cX11_ofPosition 92 = .ok (.aload_n 0, 1) := by decide +kernel
theorem dX11_ofPosition_93 : decode cX11_ofPosition 93 = .ok (.getfield 58, 3) := by decide +kernel
theorem dX11_ofPosition_96 : decode cX11_ofPosition 96 = .ok (.getfield 89, 3) := by decide +kernel
theorem dX11_ofPosition_99 : decode cX11_ofPosition 99 = .ok (.getfield 209, 3) := by decide +kernel
theorem dX11_ofPosition_102 : decode cX11_ofPosition 102 = .ok (.ireturn, 1) := by decide +kernel
theorem dX11_ofPosition_103 : decode cX11_ofPosition 103 = .ok (.iconst (-1), 1) := by decide +kernel
theorem dX11_ofPosition_104 : decode cX11_ofPosition 104 = .ok (.ireturn, 1) := by decide +kernel
def kX11_ofPosition_47 (mc ms : Nat) (X : Nat → zV) (Q : zQt) : zT :=
  zri Q
def aX11_ofPosition_0 (mc ms : Nat) (X : Nat → zV) (Q : zQt) : zT :=
  zli 1 <| zsw 4 9 [(zla 0 <| zgR 11 6 <| zcv mc ms 4 0 wX4_verdict <| kX11_ofPosition_47 mc ms X Q), (zla 0 <| zgR 11 6 <| zgR 4 0 <| zgi 0 4 <| zri Q), (zla 0 <| zgR 11 6 <| zgR 4 0 <| zgi 0 5 <| zri Q), (zla 0 <| zgR 11 6 <| zgR 4 0 <| zgi 0 6 <| zri Q), (zla 0 <| zgR 11 6 <| zgR 4 0 <| zgi 0 7 <| zri Q), (zla 0 <| zgR 11 6 <| zgR 4 0 <| zgi 0 8 <| zri Q)] <| zc (.int (-1)) <| zri Q
def lvX11_ofPosition : Nat → List Nat := fun L => match L with
  | 0 => [0, 1]
  | _ => []
def wX11_ofPosition : zSp := fun mc ms av M Q => ((zlay av).length ≤ 2 ∧ zpick (zlay av) [0, 1] = some av) ∧ ∀ X : Nat → zV, zin 2 [0, 1] (aX11_ofPosition_0 mc ms X Q) X 0 → X 0 0 0 av [] M
set_option maxRecDepth 100000 in
set_option maxHeartbeats 4000000 in
theorem sX11_ofPosition (l : Launch) (G : zG) : zSnd l G yX11_ofPosition cX11_ofPosition 2 (some .int) 1 20 wX11_ofPosition := by
  refine zmk [0, 1] (by decide) (fun mc ms av M Q h => h.1) ?_
  intro p e R s m args below meth c mc ms av M Q hC hRf hRl hr hnm h lv hlv
  obtain ⟨X, hXe⟩ : ∃ X : Nat → zV, X = fun L u v vs st M => ∀ lv, zpick lv (lvX11_ofPosition L) = some vs → zAt p l e R s m args below meth c (MQ below (zQ G Q) args s mc ms (zA G)) G 2 L u v lv st M := ⟨_, rfl⟩
  have hJ : ∀ L, zOk p l e R s m args below meth c (MQ below (zQ G Q) args s mc ms (zA G)) G 2 L (zj X L (lvX11_ofPosition L)) := fun L => S_jump (fun u v lv vs st M hp hx => by rw [hXe] at hx; exact hx lv hp)
  have hB0 : zin 2 [0, 1] (aX11_ofPosition_0 mc ms X Q) X 0 := by
    intro u v vs st M hb
    rw [hXe]
    refine fun lv hp => S_block (L := 0) (live := [0, 1]) ?_ u v lv vs st M hp hb
    unfold aX11_ofPosition_0
    refine S_iload_n (pc := 0) hC dX11_ofPosition_0 rfl ?_
    refine S_table (pc := 1) (tgd := 103) hC dX11_ofPosition_1 (by decide) ?_ (fun i hi => ?_)
    · refine S_iconst (pc := 103) hC dX11_ofPosition_103 (by decide) ?_
      exact S_ireturn (pc := 104) hC hr dX11_ofPosition_104
    · match i, hi with
        | 0, _ =>
          refine ⟨_, 40, _, rfl, by decide, rfl, ?_⟩
          refine S_aload_n (pc := 40) hC dX11_ofPosition_40 rfl ?_
          refine S_getR (pc := 41) hC cfX11 (by decide) (Or.inl ⟨_, rfl⟩) wd_352 dX11_ofPosition_41 ?_
          refine S_callV (pc := 44) hC (sX4_verdict l G) rfl wd_589 wd_590 wd_591 wd_9 wd_592 (by decide +kernel) ⟨by rw [hRf]; decide, by rw [hRl]; decide⟩ dX11_ofPosition_44 ?_
          unfold kX11_ofPosition_47
          exact S_ireturn (pc := 47) hC hr dX11_ofPosition_47
        | 1, _ =>
          refine ⟨_, 48, _, rfl, by decide, rfl, ?_⟩
          refine S_aload_n (pc := 48) hC dX11_ofPosition_48 rfl ?_
          refine S_getR (pc := 49) hC cfX11 (by decide) (Or.inl ⟨_, rfl⟩) wd_352 dX11_ofPosition_49 ?_
          refine S_getR (pc := 52) hC cfX4 (by decide) (Or.inl ⟨_, rfl⟩) wd_311 dX11_ofPosition_52 ?_
          refine S_geti (pc := 55) hC cfX0 (by decide) (Or.inl rfl) wd_236 dX11_ofPosition_55 ?_
          exact S_ireturn (pc := 58) hC hr dX11_ofPosition_58
        | 2, _ =>
          refine ⟨_, 59, _, rfl, by decide, rfl, ?_⟩
          refine S_aload_n (pc := 59) hC dX11_ofPosition_59 rfl ?_
          refine S_getR (pc := 60) hC cfX11 (by decide) (Or.inl ⟨_, rfl⟩) wd_352 dX11_ofPosition_60 ?_
          refine S_getR (pc := 63) hC cfX4 (by decide) (Or.inl ⟨_, rfl⟩) wd_311 dX11_ofPosition_63 ?_
          refine S_geti (pc := 66) hC cfX0 (by decide) (Or.inl rfl) wd_243 dX11_ofPosition_66 ?_
          exact S_ireturn (pc := 69) hC hr dX11_ofPosition_69
        | 3, _ =>
          refine ⟨_, 70, _, rfl, by decide, rfl, ?_⟩
          refine S_aload_n (pc := 70) hC dX11_ofPosition_70 rfl ?_
          refine S_getR (pc := 71) hC cfX11 (by decide) (Or.inl ⟨_, rfl⟩) wd_352 dX11_ofPosition_71 ?_
          refine S_getR (pc := 74) hC cfX4 (by decide) (Or.inl ⟨_, rfl⟩) wd_311 dX11_ofPosition_74 ?_
          refine S_geti (pc := 77) hC cfX0 (by decide) (Or.inl rfl) wd_249 dX11_ofPosition_77 ?_
          exact S_ireturn (pc := 80) hC hr dX11_ofPosition_80
        | 4, _ =>
          refine ⟨_, 81, _, rfl, by decide, rfl, ?_⟩
          refine S_aload_n (pc := 81) hC dX11_ofPosition_81 rfl ?_
          refine S_getR (pc := 82) hC cfX11 (by decide) (Or.inl ⟨_, rfl⟩) wd_352 dX11_ofPosition_82 ?_
          refine S_getR (pc := 85) hC cfX4 (by decide) (Or.inl ⟨_, rfl⟩) wd_311 dX11_ofPosition_85 ?_
          refine S_geti (pc := 88) hC cfX0 (by decide) (Or.inl rfl) wd_254 dX11_ofPosition_88 ?_
          exact S_ireturn (pc := 91) hC hr dX11_ofPosition_91
        | 5, _ =>
          refine ⟨_, 92, _, rfl, by decide, rfl, ?_⟩
          refine S_aload_n (pc := 92) hC dX11_ofPosition_92 rfl ?_
          refine S_getR (pc := 93) hC cfX11 (by decide) (Or.inl ⟨_, rfl⟩) wd_352 dX11_ofPosition_93 ?_
          refine S_getR (pc := 96) hC cfX4 (by decide) (Or.inl ⟨_, rfl⟩) wd_311 dX11_ofPosition_96 ?_
          refine S_geti (pc := 99) hC cfX0 (by decide) (Or.inl rfl) wd_258 dX11_ofPosition_99 ?_
          exact S_ireturn (pc := 102) hC hr dX11_ofPosition_102
        | n + 6, h => exact absurd h (by omega)
  have := h.2 X hB0
  rw [hXe] at this
  exact this lv hlv
theorem vX11_ofPosition_0 {mc ms : Nat} {X : Nat → zV} {Q : zQt} {M : zM} {g : Nat} {x1 : Int32} (hW : zWd M g)  (h : ((x1 : Int32).toInt < 4 ∨ 9 < (x1 : Int32).toInt → Q (some (.int ((-1)))) M) ∧ ((x1 : Int32).toInt = 4 → ∃ r41, ((M : zM).2.2.1 16 6) = some r41 ∧ zsh M r41 = some (0, 4) ∧ wX4_verdict 0 0 [.ref r41] M (fun r M1 => kX11_ofPosition_47 mc ms X Q 0 0 [some (.ref 16), some (.int x1)] (r.toList ++ []) M1)) ∧ ((x1 : Int32).toInt = 5 → ∃ r49, ((M : zM).2.2.1 16 6) = some r49 ∧ zsh M r49 = some (0, 4) ∧ ∃ r52, ((M : zM).2.2.1 r49 0) = some r52 ∧ zsh M r52 = some (0, 0) ∧ Q (some (.int ((M.1 r52 4)))) M) ∧ ((x1 : Int32).toInt = 6 → ∃ r60, ((M : zM).2.2.1 16 6) = some r60 ∧ zsh M r60 = some (0, 4) ∧ ∃ r63, ((M : zM).2.2.1 r60 0) = some r63 ∧ zsh M r63 = some (0, 0) ∧ Q (some (.int ((M.1 r63 5)))) M) ∧ ((x1 : Int32).toInt = 7 → ∃ r71, ((M : zM).2.2.1 16 6) = some r71 ∧ zsh M r71 = some (0, 4) ∧ ∃ r74, ((M : zM).2.2.1 r71 0) = some r74 ∧ zsh M r74 = some (0, 0) ∧ Q (some (.int ((M.1 r74 6)))) M) ∧ ((x1 : Int32).toInt = 8 → ∃ r82, ((M : zM).2.2.1 16 6) = some r82 ∧ zsh M r82 = some (0, 4) ∧ ∃ r85, ((M : zM).2.2.1 r82 0) = some r85 ∧ zsh M r85 = some (0, 0) ∧ Q (some (.int ((M.1 r85 7)))) M) ∧ ((x1 : Int32).toInt = 9 → ∃ r93, ((M : zM).2.2.1 16 6) = some r93 ∧ zsh M r93 = some (0, 4) ∧ ∃ r96, ((M : zM).2.2.1 r93 0) = some r96 ∧ zsh M r96 = some (0, 0) ∧ Q (some (.int ((M.1 r96 8)))) M)) : aX11_ofPosition_0 mc ms X Q 0 0 [some (.ref 16), some (.int x1)] [] M := ⟨fun c1 => (h.1 c1), ⟨fun c1 => (let ⟨r41, q41, hr41, h41⟩ := (h.2.1 c1); ⟨(fxs_16 hW.1), r41, q41, ⟨Nat.le_of_ble_eq_true rfl, rfl, hr41, 0, 0, Nat.zero_le _, Nat.zero_le _, h41⟩⟩), ⟨fun c1 => (let ⟨r49, q49, hr49, h49⟩ := (h.2.2.1 c1); ⟨(fxs_16 hW.1), r49, q49, (let ⟨r52, q52, hr52, h52⟩ := h49; ⟨hr49, r52, q52, ⟨hr52, h52⟩⟩)⟩), ⟨fun c1 => (let ⟨r60, q60, hr60, h60⟩ := (h.2.2.2.1 c1); ⟨(fxs_16 hW.1), r60, q60, (let ⟨r63, q63, hr63, h63⟩ := h60; ⟨hr60, r63, q63, ⟨hr63, h63⟩⟩)⟩), ⟨fun c1 => (let ⟨r71, q71, hr71, h71⟩ := (h.2.2.2.2.1 c1); ⟨(fxs_16 hW.1), r71, q71, (let ⟨r74, q74, hr74, h74⟩ := h71; ⟨hr71, r74, q74, ⟨hr74, h74⟩⟩)⟩), ⟨fun c1 => (let ⟨r82, q82, hr82, h82⟩ := (h.2.2.2.2.2.1 c1); ⟨(fxs_16 hW.1), r82, q82, (let ⟨r85, q85, hr85, h85⟩ := h82; ⟨hr82, r85, q85, ⟨hr85, h85⟩⟩)⟩), ⟨fun c1 => (let ⟨r93, q93, hr93, h93⟩ := (h.2.2.2.2.2.2 c1); ⟨(fxs_16 hW.1), r93, q93, (let ⟨r96, q96, hr96, h96⟩ := h93; ⟨hr93, r96, q96, ⟨hr96, h96⟩⟩)⟩), trivial⟩⟩⟩⟩⟩⟩⟩
theorem vkX11_ofPosition_47 {mc ms : Nat} {X : Nat → zV} {Q : zQt} {M : zM} {g : Nat} {x1 : Int32} {s0 : Int32} (hW : zWd M g)  (h : Q (some (.int s0)) M) : kX11_ofPosition_47 mc ms X Q 0 0 [some (.ref 16), some (.int x1)] [.int s0] M := h
theorem dX12_amount_0 : decode cX12_amount 0 = .ok (.iload_n 0, 1) := by decide +kernel
theorem dX12_amount_1 : decode cX12_amount 1 = .ok (.ifCond .ge 8, 3) := by decide +kernel
theorem dX12_amount_4 : decode cX12_amount 4 = .ok (.iload_n 0, 1) := by decide +kernel
theorem dX12_amount_5 : decode cX12_amount 5 = .ok (.ineg, 1) := by decide +kernel
theorem dX12_amount_6 : decode cX12_amount 6 = .ok (.goto 4, 3) := by decide +kernel
theorem dX12_amount_9 : decode cX12_amount 9 = .ok (.iload_n 0, 1) := by decide +kernel
theorem dX12_amount_10 : decode cX12_amount 10 = .ok (.ireturn, 1) := by decide +kernel
def aX12_amount_0 (mc ms : Nat) (X : Nat → zV) (Q : zQt) : zT :=
  zli 0 <| zif (fun x => 0 ≤ x) (zli 0 <| zj X 10 []) <| zli 0 <| zi1 (fun x => -x) <| zj X 10 []
def aX12_amount_10 (mc ms : Nat) (X : Nat → zV) (Q : zQt) : zT :=
  zri Q
def lvX12_amount : Nat → List Nat := fun L => match L with
  | 0 => [0]
  | 10 => []
  | _ => []
def wX12_amount : zSp := fun mc ms av M Q => ((zlay av).length ≤ 1 ∧ zpick (zlay av) [0] = some av) ∧ ∀ X : Nat → zV, zin 1 [0] (aX12_amount_0 mc ms X Q) X 0 → zin 1 [] (aX12_amount_10 mc ms X Q) X 10 → X 0 0 0 av [] M
set_option maxRecDepth 100000 in
set_option maxHeartbeats 4000000 in
theorem sX12_amount (l : Launch) (G : zG) : zSnd l G yX12_amount cX12_amount 1 (some .int) 0 0 wX12_amount := by
  refine zmk [0] (by decide) (fun mc ms av M Q h => h.1) ?_
  intro p e R s m args below meth c mc ms av M Q hC hRf hRl hr hnm h lv hlv
  obtain ⟨X, hXe⟩ : ∃ X : Nat → zV, X = fun L u v vs st M => ∀ lv, zpick lv (lvX12_amount L) = some vs → zAt p l e R s m args below meth c (MQ below (zQ G Q) args s mc ms (zA G)) G 1 L u v lv st M := ⟨_, rfl⟩
  have hJ : ∀ L, zOk p l e R s m args below meth c (MQ below (zQ G Q) args s mc ms (zA G)) G 1 L (zj X L (lvX12_amount L)) := fun L => S_jump (fun u v lv vs st M hp hx => by rw [hXe] at hx; exact hx lv hp)
  have hB0 : zin 1 [0] (aX12_amount_0 mc ms X Q) X 0 := by
    intro u v vs st M hb
    rw [hXe]
    refine fun lv hp => S_block (L := 0) (live := [0]) ?_ u v lv vs st M hp hb
    unfold aX12_amount_0
    refine S_iload_n (pc := 0) hC dX12_amount_0 rfl ?_
    refine S_if_ge (pc := 1) (tgt := 9) hC dX12_amount_1 (by decide) ?_ ?_
    · refine S_iload_n (pc := 9) hC dX12_amount_9 rfl ?_
      exact hJ 10
    · refine S_iload_n (pc := 4) hC dX12_amount_4 rfl ?_
      refine S_ineg (pc := 5) hC dX12_amount_5 ?_
      refine S_goto (pc := 6) (tgt := 10) hC dX12_amount_6 (by decide) ?_
      exact hJ 10
  have hB10 : zin 1 [] (aX12_amount_10 mc ms X Q) X 10 := by
    intro u v vs st M hb
    rw [hXe]
    refine fun lv hp => S_block (L := 10) (live := []) ?_ u v lv vs st M hp hb
    unfold aX12_amount_10
    exact S_ireturn (pc := 10) hC hr dX12_amount_10
  have := h.2 X hB0 hB10
  rw [hXe] at this
  exact this lv hlv
theorem vX12_amount_0 {mc ms : Nat} {X : Nat → zV} {Q : zQt} {M : zM} {x0 : Int32} (hW : zFix M)  (h : (0 ≤ x0 → X 10 0 0 [] [.int x0] M) ∧ (¬ 0 ≤ x0 → X 10 0 0 [] [.int (-x0)] M)) : aX12_amount_0 mc ms X Q 0 0 [some (.int x0)] [] M := ⟨fun c1 => (h.1 c1), fun c1 => (h.2 c1)⟩
theorem vX12_amount_10 {mc ms : Nat} {X : Nat → zV} {Q : zQt} {M : zM} {s0 : Int32} (hW : zFix M)  (h : Q (some (.int s0)) M) : aX12_amount_10 mc ms X Q 0 0 [none] [.int s0] M := h
theorem dX12_beside_0 : decode cX12_beside 0 = .ok (.iload_n 1, 1) := by decide +kernel
theorem dX12_beside_1 : decode cX12_beside 1 = .ok (.iload_n 2, 1) := by decide +kernel
theorem dX12_beside_2 : decode cX12_beside 2 = .ok (.if_icmp .eq 39, 3) := by decide +kernel
theorem dX12_beside_5 : decode cX12_beside 5 = .ok (.iload_n 1, 1) := by decide +kernel
theorem dX12_beside_6 : decode cX12_beside 6 = .ok (.bipush 8, 2) := by decide +kernel
theorem dX12_beside_8 : decode cX12_beside 8 = .ok (.irem, 1) := by decide +kernel
theorem dX12_beside_9 : decode cX12_beside 9 = .ok (.iload_n 2, 1) := by decide +kernel
theorem dX12_beside_10 : decode cX12_beside 10 = .ok (.bipush 8, 2) := by decide +kernel
theorem dX12_beside_12 : decode cX12_beside 12 = .ok (.irem, 1) := by decide +kernel
theorem dX12_beside_13 : decode cX12_beside 13 = .ok (.isub, 1) := by decide +kernel
theorem dX12_beside_14 : decode cX12_beside 14 = .ok (.invokestatic 50, 3) := by decide +kernel
theorem dX12_beside_17 : decode cX12_beside 17 = .ok (.iconst 2, 1) := by decide +kernel
theorem dX12_beside_18 : decode cX12_beside 18 = .ok (.if_icmp .ge 23, 3) := by decide +kernel
theorem dX12_beside_21 : decode cX12_beside 21 = .ok (.iload_n 1, 1) := by decide +kernel
theorem dX12_beside_22 : decode cX12_beside 22 = .ok (.bipush 8, 2) := by decide +kernel
theorem dX12_beside_24 : decode cX12_beside 24 = .ok (.idiv, 1) := by decide +kernel
theorem dX12_beside_25 : decode cX12_beside 25 = .ok (.iload_n 2, 1) := by decide +kernel
theorem dX12_beside_26 : decode cX12_beside 26 = .ok (.bipush 8, 2) := by decide +kernel
theorem dX12_beside_28 : decode cX12_beside 28 = .ok (.idiv, 1) := by decide +kernel
theorem dX12_beside_29 : decode cX12_beside 29 = .ok (.isub, 1) := by decide +kernel
theorem dX12_beside_30 : decode cX12_beside 30 = .ok (.invokestatic 50, 3) := by decide +kernel
theorem dX12_beside_33 : decode cX12_beside 33 = .ok (.iconst 2, 1) := by decide +kernel
theorem dX12_beside_34 : decode cX12_beside 34 = .ok (.if_icmp .ge 7, 3) := by decide +kernel
theorem dX12_beside_37 : decode cX12_beside 37 = .ok (.iconst 1, 1) := by decide +kernel
theorem dX12_beside_38 : decode cX12_beside 38 = .ok (.goto 4, 3) := by decide +kernel
theorem dX12_beside_41 : decode cX12_beside 41 = .ok (.iconst 0, 1) := by decide +kernel
theorem dX12_beside_42 : decode cX12_beside 42 = .ok (.ireturn, 1) := by decide +kernel
def kX12_beside_33 (mc ms : Nat) (X : Nat → zV) (Q : zQt) : zT :=
  zc (.int 2) <| zic (fun x y => y ≤ x) (zj X 41 []) <| zc (.int 1) <| zj X 42 []
def kX12_beside_17 (mc ms : Nat) (X : Nat → zV) (Q : zQt) : zT :=
  zc (.int 2) <| zic (fun x y => y ≤ x) (zj X 41 []) <| zli 1 <| zc (.int 8) <| zid (fun x y => x / y) <| zli 2 <| zc (.int 8) <| zid (fun x y => x / y) <| zii (fun x y => x - y) <| zcs mc ms 1 wX12_amount <| kX12_beside_33 mc ms X Q
def aX12_beside_0 (mc ms : Nat) (X : Nat → zV) (Q : zQt) : zT :=
  zli 1 <| zli 2 <| zic (fun x y => x = y) (zj X 41 []) <| zli 1 <| zc (.int 8) <| zid (fun x y => x - x / y * y) <| zli 2 <| zc (.int 8) <| zid (fun x y => x - x / y * y) <| zii (fun x y => x - y) <| zcs mc ms 1 wX12_amount <| kX12_beside_17 mc ms X Q
def aX12_beside_41 (mc ms : Nat) (X : Nat → zV) (Q : zQt) : zT :=
  zc (.int 0) <| zj X 42 []
def aX12_beside_42 (mc ms : Nat) (X : Nat → zV) (Q : zQt) : zT :=
  zrz .boolean Q
def lvX12_beside : Nat → List Nat := fun L => match L with
  | 0 => [0, 1, 2]
  | 41 => []
  | 42 => []
  | _ => []
def wX12_beside : zSp := fun mc ms av M Q => ((zlay av).length ≤ 3 ∧ zpick (zlay av) [0, 1, 2] = some av) ∧ ∀ X : Nat → zV, zin 3 [0, 1, 2] (aX12_beside_0 mc ms X Q) X 0 → zin 3 [] (aX12_beside_41 mc ms X Q) X 41 → zin 3 [] (aX12_beside_42 mc ms X Q) X 42 → X 0 0 0 av [] M
set_option maxRecDepth 100000 in
set_option maxHeartbeats 4000000 in
theorem sX12_beside (l : Launch) (G : zG) : zSnd l G yX12_beside cX12_beside 3 (some .boolean) 1 20 wX12_beside := by
  refine zmk [0, 1, 2] (by decide) (fun mc ms av M Q h => h.1) ?_
  intro p e R s m args below meth c mc ms av M Q hC hRf hRl hr hnm h lv hlv
  obtain ⟨X, hXe⟩ : ∃ X : Nat → zV, X = fun L u v vs st M => ∀ lv, zpick lv (lvX12_beside L) = some vs → zAt p l e R s m args below meth c (MQ below (zQ G Q) args s mc ms (zA G)) G 3 L u v lv st M := ⟨_, rfl⟩
  have hJ : ∀ L, zOk p l e R s m args below meth c (MQ below (zQ G Q) args s mc ms (zA G)) G 3 L (zj X L (lvX12_beside L)) := fun L => S_jump (fun u v lv vs st M hp hx => by rw [hXe] at hx; exact hx lv hp)
  have hB0 : zin 3 [0, 1, 2] (aX12_beside_0 mc ms X Q) X 0 := by
    intro u v vs st M hb
    rw [hXe]
    refine fun lv hp => S_block (L := 0) (live := [0, 1, 2]) ?_ u v lv vs st M hp hb
    unfold aX12_beside_0
    refine S_iload_n (pc := 0) hC dX12_beside_0 rfl ?_
    refine S_iload_n (pc := 1) hC dX12_beside_1 rfl ?_
    refine S_icmp_eq (pc := 2) (tgt := 41) hC dX12_beside_2 (by decide) ?_ ?_
    · exact hJ 41
    · refine S_iload_n (pc := 5) hC dX12_beside_5 rfl ?_
      refine S_bipush (pc := 6) hC dX12_beside_6 (by decide) ?_
      refine S_irem (pc := 8) hC dX12_beside_8 ?_
      refine S_iload_n (pc := 9) hC dX12_beside_9 rfl ?_
      refine S_bipush (pc := 10) hC dX12_beside_10 (by decide) ?_
      refine S_irem (pc := 12) hC dX12_beside_12 ?_
      refine S_isub (pc := 13) hC dX12_beside_13 ?_
      refine S_callS (pc := 14) hC (sX12_amount l G) wd_1716 wd_1717 wd_13 wd_1718 (by decide +kernel) ⟨by rw [hRf]; decide, by rw [hRl]; decide⟩ dX12_beside_14 ?_
      unfold kX12_beside_17
      refine S_iconst (pc := 17) hC dX12_beside_17 (by decide) ?_
      refine S_icmp_ge (pc := 18) (tgt := 41) hC dX12_beside_18 (by decide) ?_ ?_
      · exact hJ 41
      · refine S_iload_n (pc := 21) hC dX12_beside_21 rfl ?_
        refine S_bipush (pc := 22) hC dX12_beside_22 (by decide) ?_
        refine S_idiv (pc := 24) hC dX12_beside_24 ?_
        refine S_iload_n (pc := 25) hC dX12_beside_25 rfl ?_
        refine S_bipush (pc := 26) hC dX12_beside_26 (by decide) ?_
        refine S_idiv (pc := 28) hC dX12_beside_28 ?_
        refine S_isub (pc := 29) hC dX12_beside_29 ?_
        refine S_callS (pc := 30) hC (sX12_amount l G) wd_1716 wd_1717 wd_13 wd_1718 (by decide +kernel) ⟨by rw [hRf]; decide, by rw [hRl]; decide⟩ dX12_beside_30 ?_
        unfold kX12_beside_33
        refine S_iconst (pc := 33) hC dX12_beside_33 (by decide) ?_
        refine S_icmp_ge (pc := 34) (tgt := 41) hC dX12_beside_34 (by decide) ?_ ?_
        · exact hJ 41
        · refine S_iconst (pc := 37) hC dX12_beside_37 (by decide) ?_
          refine S_goto (pc := 38) (tgt := 42) hC dX12_beside_38 (by decide) ?_
          exact hJ 42
  have hB41 : zin 3 [] (aX12_beside_41 mc ms X Q) X 41 := by
    intro u v vs st M hb
    rw [hXe]
    refine fun lv hp => S_block (L := 41) (live := []) ?_ u v lv vs st M hp hb
    unfold aX12_beside_41
    refine S_iconst (pc := 41) hC dX12_beside_41 (by decide) ?_
    exact hJ 42
  have hB42 : zin 3 [] (aX12_beside_42 mc ms X Q) X 42 := by
    intro u v vs st M hb
    rw [hXe]
    refine fun lv hp => S_block (L := 42) (live := []) ?_ u v lv vs st M hp hb
    unfold aX12_beside_42
    exact S_zreturn (pc := 42) hC hr dX12_beside_42
  have := h.2 X hB0 hB41 hB42
  rw [hXe] at this
  exact this lv hlv
theorem vX12_beside_0 {mc ms : Nat} {X : Nat → zV} {Q : zQt} {M : zM} {x1 : Int32} {x2 : Int32} (hW : zFix M)  (h : (x1 = x2 → X 41 0 0 [] [] M) ∧ (¬ x1 = x2 → wX12_amount 0 0 [.int ((x1 - x1 / (8 : Int32) * (8 : Int32)) - (x2 - x2 / (8 : Int32) * (8 : Int32)))] M (fun r M1 => kX12_beside_17 mc ms X Q 0 0 [some (.ref 71), some (.int x1), some (.int x2)] (r.toList ++ []) M1))) : aX12_beside_0 mc ms X Q 0 0 [some (.ref 71), some (.int x1), some (.int x2)] [] M := ⟨fun c2 => (h.1 c2), fun c2 => ⟨by decide, ⟨by decide, ⟨Nat.le_of_ble_eq_true rfl, rfl, 0, 0, Nat.zero_le _, Nat.zero_le _, (h.2 c2)⟩⟩⟩⟩
theorem vX12_beside_41 {mc ms : Nat} {X : Nat → zV} {Q : zQt} {M : zM}  (hW : zFix M)  (h : X 42 0 0 [] [.int 0] M) : aX12_beside_41 mc ms X Q 0 0 [none, none, none] [] M := h
theorem vX12_beside_42 {mc ms : Nat} {X : Nat → zV} {Q : zQt} {M : zM} {s0 : Int32} (hW : zFix M)  (h : narrow .boolean (.int s0) = .int s0 ∧ Q (some (.int s0)) M) : aX12_beside_42 mc ms X Q 0 0 [none, none, none] [.int s0] M := h
theorem vkX12_beside_17 {mc ms : Nat} {X : Nat → zV} {Q : zQt} {M : zM} {x1 : Int32} {x2 : Int32} {s0 : Int32} (hW : zFix M)  (h : ((2 : Int32) ≤ s0 → X 41 0 0 [] [] M) ∧ (¬ (2 : Int32) ≤ s0 → wX12_amount 0 0 [.int ((x1 / (8 : Int32)) - (x2 / (8 : Int32)))] M (fun r M1 => kX12_beside_33 mc ms X Q 0 0 [some (.ref 71), some (.int x1), some (.int x2)] (r.toList ++ []) M1))) : kX12_beside_17 mc ms X Q 0 0 [some (.ref 71), some (.int x1), some (.int x2)] [.int s0] M := ⟨fun c18 => (h.1 c18), fun c18 => ⟨by decide, ⟨by decide, ⟨Nat.le_of_ble_eq_true rfl, rfl, 0, 0, Nat.zero_le _, Nat.zero_le _, (h.2 c18)⟩⟩⟩⟩
theorem vkX12_beside_33 {mc ms : Nat} {X : Nat → zV} {Q : zQt} {M : zM} {x1 : Int32} {x2 : Int32} {s0 : Int32} (hW : zFix M)  (h : ((2 : Int32) ≤ s0 → X 41 0 0 [] [] M) ∧ (¬ (2 : Int32) ≤ s0 → X 42 0 0 [] [.int 1] M)) : kX12_beside_33 mc ms X Q 0 0 [some (.ref 71), some (.int x1), some (.int x2)] [.int s0] M := ⟨fun c34 => (h.1 c34), fun c34 => (h.2 c34)⟩
theorem dX12_isOpen_0 : decode cX12_isOpen 0 = .ok (.iload_n 2, 1) := by decide +kernel
theorem dX12_isOpen_1 : decode cX12_isOpen 1 = .ok (.bipush 8, 2) := by decide +kernel
theorem dX12_isOpen_3 : decode cX12_isOpen 3 = .ok (.irem, 1) := by decide +kernel
theorem dX12_isOpen_4 : decode cX12_isOpen 4 = .ok (.iload_n 1, 1) := by decide +kernel
theorem dX12_isOpen_5 : decode cX12_isOpen 5 = .ok (.bipush 8, 2) := by decide +kernel
theorem dX12_isOpen_7 : decode cX12_isOpen 7 = .ok (.irem, 1) := by decide +kernel
theorem dX12_isOpen_8 : decode cX12_isOpen 8 = .ok (.if_icmp .le 7, 3) := by decide +kernel
theorem dX12_isOpen_11 : decode cX12_isOpen 11 = .ok (.iconst 1, 1) := by decide +kernel
theorem dX12_isOpen_12 : decode cX12_isOpen 12 = .ok (.goto 19, 3) := by decide +kernel
theorem dX12_isOpen_15 : decode cX12_isOpen 15 = .ok (.iload_n 2, 1) := by decide +kernel
theorem dX12_isOpen_16 : decode cX12_isOpen 16 = .ok (.bipush 8, 2) := by decide +kernel
theorem dX12_isOpen_18 : decode cX12_isOpen 18 = .ok (.irem, 1) := by decide +kernel
theorem dX12_isOpen_19 : decode cX12_isOpen 19 = .ok (.iload_n 1, 1) := by decide +kernel
theorem dX12_isOpen_20 : decode cX12_isOpen 20 = .ok (.bipush 8, 2) := by decide +kernel
theorem dX12_isOpen_22 : decode cX12_isOpen 22 = .ok (.irem, 1) := by decide +kernel
theorem dX12_isOpen_23 : decode cX12_isOpen 23 = .ok (.if_icmp .ge 7, 3) := by decide +kernel
theorem dX12_isOpen_26 : decode cX12_isOpen 26 = .ok (.iconst (-1), 1) := by decide +kernel
theorem dX12_isOpen_27 : decode cX12_isOpen 27 = .ok (.goto 4, 3) := by decide +kernel
theorem dX12_isOpen_30 : decode cX12_isOpen 30 = .ok (.iconst 0, 1) := by decide +kernel
theorem dX12_isOpen_31 : decode cX12_isOpen 31 = .ok (.istore 5, 2) := by decide +kernel
theorem dX12_isOpen_33 : decode cX12_isOpen 33 = .ok (.iload_n 2, 1) := by decide +kernel
theorem dX12_isOpen_34 : decode cX12_isOpen 34 = .ok (.bipush 8, 2) := by decide +kernel
theorem dX12_isOpen_36 : decode cX12_isOpen 36 = .ok (.idiv, 1) := by decide +kernel
theorem dX12_isOpen_37 : decode cX12_isOpen 37 = .ok (.iload_n 1, 1) := by decide +kernel
theorem dX12_isOpen_38 : decode cX12_isOpen 38 = .ok (.bipush 8, 2) := by decide +kernel
theorem dX12_isOpen_40 : decode cX12_isOpen 40 = .ok (.idiv, 1) := by decide +kernel
theorem dX12_isOpen_41 : decode cX12_isOpen 41 = .ok (.if_icmp .le 7, 3) := by decide +kernel
theorem dX12_isOpen_44 : decode cX12_isOpen 44 = .ok (.iconst 1, 1) := by decide +kernel
theorem dX12_isOpen_45 : decode cX12_isOpen 45 = .ok (.goto 19, 3) := by decide +kernel
theorem dX12_isOpen_48 : decode cX12_isOpen 48 = .ok (.iload_n 2, 1) := by decide +kernel
theorem dX12_isOpen_49 : decode cX12_isOpen 49 = .ok (.bipush 8, 2) := by decide +kernel
theorem dX12_isOpen_51 : decode cX12_isOpen 51 = .ok (.idiv, 1) := by decide +kernel
theorem dX12_isOpen_52 : decode cX12_isOpen 52 = .ok (.iload_n 1, 1) := by decide +kernel
theorem dX12_isOpen_53 : decode cX12_isOpen 53 = .ok (.bipush 8, 2) := by decide +kernel
theorem dX12_isOpen_55 : decode cX12_isOpen 55 = .ok (.idiv, 1) := by decide +kernel
theorem dX12_isOpen_56 : decode cX12_isOpen 56 = .ok (.if_icmp .ge 7, 3) := by decide +kernel
theorem dX12_isOpen_59 : decode cX12_isOpen 59 = .ok (.iconst (-1), 1) := by decide +kernel
theorem dX12_isOpen_60 : decode cX12_isOpen 60 = .ok (.goto 4, 3) := by decide +kernel
theorem dX12_isOpen_63 : decode cX12_isOpen 63 = .ok (.iconst 0, 1) := by decide +kernel
theorem dX12_isOpen_64 : decode cX12_isOpen 64 = .ok (.istore 6, 2) := by decide +kernel
theorem dX12_isOpen_66 : decode cX12_isOpen 66 = .ok (.iload_n 1, 1) := by decide +kernel
theorem dX12_isOpen_67 : decode cX12_isOpen 67 = .ok (.bipush 8, 2) := by decide +kernel
theorem dX12_isOpen_69 : decode cX12_isOpen 69 = .ok (.irem, 1) := by decide +kernel
theorem dX12_isOpen_70 : decode cX12_isOpen 70 = .ok (.iload 5, 2) := by decide +kernel
theorem dX12_isOpen_72 : decode cX12_isOpen 72 = .ok (.iadd, 1) := by decide +kernel
theorem dX12_isOpen_73 : decode cX12_isOpen 73 = .ok (.istore 7, 2) := by decide +kernel
theorem dX12_isOpen_75 : decode cX12_isOpen 75 = .ok (.iload_n 1, 1) := by decide +kernel
theorem dX12_isOpen_76 : decode cX12_isOpen 76 = .ok (.bipush 8, 2) := by decide +kernel
theorem dX12_isOpen_78 : decode cX12_isOpen 78 = .ok (.idiv, 1) := by decide +kernel
theorem dX12_isOpen_79 : decode cX12_isOpen 79 = .ok (.iload 6, 2) := by decide +kernel
theorem dX12_isOpen_81 : decode cX12_isOpen 81 = .ok (.iadd, 1) := by decide +kernel
theorem dX12_isOpen_82 : decode cX12_isOpen 82 = .ok (.istore 8, 2) := by decide +kernel
theorem dX12_isOpen_84 : decode cX12_isOpen 84 = .ok (.bipush 8, 2) := by decide +kernel
theorem dX12_isOpen_86 : decode cX12_isOpen 86 = .ok (.iload 8, 2) := by decide +kernel
theorem dX12_isOpen_88 : decode cX12_isOpen 88 = .ok (.imul, 1) := by decide +kernel
theorem dX12_isOpen_89 : decode cX12_isOpen 89 = .ok (.iload 7, 2) := by decide +kernel
theorem dX12_isOpen_91 : decode cX12_isOpen 91 = .ok (.iadd, 1) := by decide +kernel
theorem dX12_isOpen_92 : decode cX12_isOpen 92 = .ok (.iload_n 2, 1) := by decide +kernel
theorem dX12_isOpen_93 : decode cX12_isOpen 93 = .ok (.if_icmp .eq 45, 3) := by decide +kernel
theorem dX12_isOpen_96 : decode cX12_isOpen 96 = .ok (.bipush 8, 2) := by decide +kernel
theorem dX12_isOpen_98 : decode cX12_isOpen 98 = .ok (.iload 8, 2) := by decide +kernel
theorem dX12_isOpen_100 : decode cX12_isOpen 100 = .ok (.imul, 1) := by decide +kernel
theorem dX12_isOpen_101 : decode cX12_isOpen 101 = .ok (.iload 7, 2) := by decide +kernel
theorem dX12_isOpen_103 : decode cX12_isOpen 103 = .ok (.iadd, 1) := by decide +kernel
theorem dX12_isOpen_104 : decode cX12_isOpen 104 = .ok (.istore 9, 2) := by decide +kernel
theorem dX12_isOpen_106 : decode cX12_isOpen 106 = .ok (.iload 9, 2) := by decide +kernel
theorem dX12_isOpen_108 : decode cX12_isOpen 108 = .ok (.iload_n 3, 1) := by decide +kernel
theorem dX12_isOpen_109 : decode cX12_isOpen 109 = .ok (.if_icmp .eq 10, 3) := by decide +kernel
theorem dX12_isOpen_112 : decode cX12_isOpen 112 = .ok (.iload 9, 2) := by decide +kernel
theorem dX12_isOpen_114 : decode cX12_isOpen 114 = .ok (.iload 4, 2) := by decide +kernel
theorem dX12_isOpen_116 : decode cX12_isOpen 116 = .ok (.if_icmp .ne 5, 3) := by decide +kernel
theorem dX12_isOpen_119 : decode cX12_isOpen 119 = .ok (.iconst 0, 1) := by decide +kernel
theorem dX12_isOpen_120 : decode cX12_isOpen 120 = .ok (.ireturn, 1) := by decide +kernel
theorem dX12_isOpen_121 : decode cX12_isOpen 121 = .ok (.iload 7, 2) := by decide +kernel
theorem dX12_isOpen_123 : decode cX12_isOpen 123 = .ok (.iload 5, 2) := by decide +kernel
theorem dX12_isOpen_125 : decode cX12_isOpen 125 = .ok (.iadd, 1) := by decide +kernel
theorem dX12_isOpen_126 : decode cX12_isOpen 126 = .ok (.istore 7, 2) := by decide +kernel
theorem dX12_isOpen_128 : decode cX12_isOpen 128 = .ok (.iload 8, 2) := by decide +kernel
theorem dX12_isOpen_130 : decode cX12_isOpen 130 = .ok (.iload 6, 2) := by decide +kernel
theorem dX12_isOpen_132 : decode cX12_isOpen 132 = .ok (.iadd, 1) := by decide +kernel
theorem dX12_isOpen_133 : decode cX12_isOpen 133 = .ok (.istore 8, 2) := by decide +kernel
theorem dX12_isOpen_135 : decode cX12_isOpen 135 = .ok (.goto (-51), 3) := by decide +kernel
theorem dX12_isOpen_138 : decode cX12_isOpen 138 = .ok (.iconst 1, 1) := by decide +kernel
theorem dX12_isOpen_139 : decode cX12_isOpen 139 = .ok (.ireturn, 1) := by decide +kernel
def kX12_isOpen_75 (mc ms : Nat) (X : Nat → zV) (Q : zQt) : zT :=
  zli 1 <| zc (.int 8) <| zid (fun x y => x / y) <| zli 6 <| zii (fun x y => x + y) <| zsi 8 <| zj X 84 [2, 3, 4, 5, 6, 7, 8]
def aX12_isOpen_0 (mc ms : Nat) (X : Nat → zV) (Q : zQt) : zT :=
  zli 2 <| zc (.int 8) <| zid (fun x y => x - x / y * y) <| zli 1 <| zc (.int 8) <| zid (fun x y => x - x / y * y) <| zic (fun x y => x ≤ y) (zli 2 <| zc (.int 8) <| zid (fun x y => x - x / y * y) <| zli 1 <| zc (.int 8) <| zid (fun x y => x - x / y * y) <| zic (fun x y => y ≤ x) (zc (.int 0) <| zj X 31 [1, 2, 3, 4]) <| zc (.int (-1)) <| zj X 31 [1, 2, 3, 4]) <| zc (.int 1) <| zj X 31 [1, 2, 3, 4]
def aX12_isOpen_31 (mc ms : Nat) (X : Nat → zV) (Q : zQt) : zT :=
  zsi 5 <| zli 2 <| zc (.int 8) <| zid (fun x y => x / y) <| zli 1 <| zc (.int 8) <| zid (fun x y => x / y) <| zic (fun x y => x ≤ y) (zli 2 <| zc (.int 8) <| zid (fun x y => x / y) <| zli 1 <| zc (.int 8) <| zid (fun x y => x / y) <| zic (fun x y => y ≤ x) (zc (.int 0) <| zj X 64 [1, 2, 3, 4, 5]) <| zc (.int (-1)) <| zj X 64 [1, 2, 3, 4, 5]) <| zc (.int 1) <| zj X 64 [1, 2, 3, 4, 5]
def aX12_isOpen_64 (mc ms : Nat) (X : Nat → zV) (Q : zQt) : zT :=
  zsi 6 <| zli 1 <| zc (.int 8) <| zid (fun x y => x - x / y * y) <| zli 5 <| zii (fun x y => x + y) <| zsiN 7 <| kX12_isOpen_75 mc ms X Q
def aX12_isOpen_84 (mc ms : Nat) (X : Nat → zV) (Q : zQt) : zT :=
  zc (.int 8) <| zli 8 <| zii (fun x y => x * y) <| zli 7 <| zii (fun x y => x + y) <| zli 2 <| zic (fun x y => x = y) (zc (.int 1) <| zrz .boolean Q) <| zc (.int 8) <| zli 8 <| zii (fun x y => x * y) <| zli 7 <| zii (fun x y => x + y) <| zsi 9 <| zli 9 <| zli 3 <| zic (fun x y => x = y) (zj X 119 []) <| zli 9 <| zli 4 <| zic (fun x y => x = y) (zj X 119 []) <| zli 7 <| zli 5 <| zii (fun x y => x + y) <| zsi 7 <| zli 8 <| zli 6 <| zii (fun x y => x + y) <| zsi 8 <| zj X 84 [2, 3, 4, 5, 6, 7, 8]
def aX12_isOpen_119 (mc ms : Nat) (X : Nat → zV) (Q : zQt) : zT :=
  zc (.int 0) <| zrz .boolean Q
def lvX12_isOpen : Nat → List Nat := fun L => match L with
  | 0 => [0, 1, 2, 3, 4]
  | 31 => [1, 2, 3, 4]
  | 64 => [1, 2, 3, 4, 5]
  | 84 => [2, 3, 4, 5, 6, 7, 8]
  | 119 => []
  | _ => []
def wX12_isOpen : zSp := fun mc ms av M Q => ((zlay av).length ≤ 10 ∧ zpick (zlay av) [0, 1, 2, 3, 4] = some av) ∧ ∀ X : Nat → zV, zin 10 [0, 1, 2, 3, 4] (aX12_isOpen_0 mc ms X Q) X 0 → zin 10 [1, 2, 3, 4] (aX12_isOpen_31 mc ms X Q) X 31 → zin 10 [1, 2, 3, 4, 5] (aX12_isOpen_64 mc ms X Q) X 64 → zin 10 [2, 3, 4, 5, 6, 7, 8] (aX12_isOpen_84 mc ms X Q) X 84 → zin 10 [] (aX12_isOpen_119 mc ms X Q) X 119 → X 0 0 0 av [] M
set_option maxRecDepth 100000 in
set_option maxHeartbeats 4000000 in
theorem sX12_isOpen (l : Launch) (G : zG) : zSnd l G yX12_isOpen cX12_isOpen 10 (some .boolean) 0 0 wX12_isOpen := by
  refine zmk [0, 1, 2, 3, 4] (by decide) (fun mc ms av M Q h => h.1) ?_
  intro p e R s m args below meth c mc ms av M Q hC hRf hRl hr hnm h lv hlv
  obtain ⟨X, hXe⟩ : ∃ X : Nat → zV, X = fun L u v vs st M => ∀ lv, zpick lv (lvX12_isOpen L) = some vs → zAt p l e R s m args below meth c (MQ below (zQ G Q) args s mc ms (zA G)) G 10 L u v lv st M := ⟨_, rfl⟩
  have hJ : ∀ L, zOk p l e R s m args below meth c (MQ below (zQ G Q) args s mc ms (zA G)) G 10 L (zj X L (lvX12_isOpen L)) := fun L => S_jump (fun u v lv vs st M hp hx => by rw [hXe] at hx; exact hx lv hp)
  have hB0 : zin 10 [0, 1, 2, 3, 4] (aX12_isOpen_0 mc ms X Q) X 0 := by
    intro u v vs st M hb
    rw [hXe]
    refine fun lv hp => S_block (L := 0) (live := [0, 1, 2, 3, 4]) ?_ u v lv vs st M hp hb
    unfold aX12_isOpen_0
    refine S_iload_n (pc := 0) hC dX12_isOpen_0 rfl ?_
    refine S_bipush (pc := 1) hC dX12_isOpen_1 (by decide) ?_
    refine S_irem (pc := 3) hC dX12_isOpen_3 ?_
    refine S_iload_n (pc := 4) hC dX12_isOpen_4 rfl ?_
    refine S_bipush (pc := 5) hC dX12_isOpen_5 (by decide) ?_
    refine S_irem (pc := 7) hC dX12_isOpen_7 ?_
    refine S_icmp_le (pc := 8) (tgt := 15) hC dX12_isOpen_8 (by decide) ?_ ?_
    · refine S_iload_n (pc := 15) hC dX12_isOpen_15 rfl ?_
      refine S_bipush (pc := 16) hC dX12_isOpen_16 (by decide) ?_
      refine S_irem (pc := 18) hC dX12_isOpen_18 ?_
      refine S_iload_n (pc := 19) hC dX12_isOpen_19 rfl ?_
      refine S_bipush (pc := 20) hC dX12_isOpen_20 (by decide) ?_
      refine S_irem (pc := 22) hC dX12_isOpen_22 ?_
      refine S_icmp_ge (pc := 23) (tgt := 30) hC dX12_isOpen_23 (by decide) ?_ ?_
      · refine S_iconst (pc := 30) hC dX12_isOpen_30 (by decide) ?_
        exact hJ 31
      · refine S_iconst (pc := 26) hC dX12_isOpen_26 (by decide) ?_
        refine S_goto (pc := 27) (tgt := 31) hC dX12_isOpen_27 (by decide) ?_
        exact hJ 31
    · refine S_iconst (pc := 11) hC dX12_isOpen_11 (by decide) ?_
      refine S_goto (pc := 12) (tgt := 31) hC dX12_isOpen_12 (by decide) ?_
      exact hJ 31
  have hB31 : zin 10 [1, 2, 3, 4] (aX12_isOpen_31 mc ms X Q) X 31 := by
    intro u v vs st M hb
    rw [hXe]
    refine fun lv hp => S_block (L := 31) (live := [1, 2, 3, 4]) ?_ u v lv vs st M hp hb
    unfold aX12_isOpen_31
    refine S_istore (pc := 31) hC dX12_isOpen_31 (by decide) ?_
    refine S_iload_n (pc := 33) hC dX12_isOpen_33 rfl ?_
    refine S_bipush (pc := 34) hC dX12_isOpen_34 (by decide) ?_
    refine S_idiv (pc := 36) hC dX12_isOpen_36 ?_
    refine S_iload_n (pc := 37) hC dX12_isOpen_37 rfl ?_
    refine S_bipush (pc := 38) hC dX12_isOpen_38 (by decide) ?_
    refine S_idiv (pc := 40) hC dX12_isOpen_40 ?_
    refine S_icmp_le (pc := 41) (tgt := 48) hC dX12_isOpen_41 (by decide) ?_ ?_
    · refine S_iload_n (pc := 48) hC dX12_isOpen_48 rfl ?_
      refine S_bipush (pc := 49) hC dX12_isOpen_49 (by decide) ?_
      refine S_idiv (pc := 51) hC dX12_isOpen_51 ?_
      refine S_iload_n (pc := 52) hC dX12_isOpen_52 rfl ?_
      refine S_bipush (pc := 53) hC dX12_isOpen_53 (by decide) ?_
      refine S_idiv (pc := 55) hC dX12_isOpen_55 ?_
      refine S_icmp_ge (pc := 56) (tgt := 63) hC dX12_isOpen_56 (by decide) ?_ ?_
      · refine S_iconst (pc := 63) hC dX12_isOpen_63 (by decide) ?_
        exact hJ 64
      · refine S_iconst (pc := 59) hC dX12_isOpen_59 (by decide) ?_
        refine S_goto (pc := 60) (tgt := 64) hC dX12_isOpen_60 (by decide) ?_
        exact hJ 64
    · refine S_iconst (pc := 44) hC dX12_isOpen_44 (by decide) ?_
      refine S_goto (pc := 45) (tgt := 64) hC dX12_isOpen_45 (by decide) ?_
      exact hJ 64
  have hB64 : zin 10 [1, 2, 3, 4, 5] (aX12_isOpen_64 mc ms X Q) X 64 := by
    intro u v vs st M hb
    rw [hXe]
    refine fun lv hp => S_block (L := 64) (live := [1, 2, 3, 4, 5]) ?_ u v lv vs st M hp hb
    unfold aX12_isOpen_64
    refine S_istore (pc := 64) hC dX12_isOpen_64 (by decide) ?_
    refine S_iload_n (pc := 66) hC dX12_isOpen_66 rfl ?_
    refine S_bipush (pc := 67) hC dX12_isOpen_67 (by decide) ?_
    refine S_irem (pc := 69) hC dX12_isOpen_69 ?_
    refine S_iload (pc := 70) hC dX12_isOpen_70 ?_
    refine S_iadd (pc := 72) hC dX12_isOpen_72 ?_
    refine S_istore_N (pc := 73) hC dX12_isOpen_73 (by decide) ?_
    unfold kX12_isOpen_75
    refine S_iload_n (pc := 75) hC dX12_isOpen_75 rfl ?_
    refine S_bipush (pc := 76) hC dX12_isOpen_76 (by decide) ?_
    refine S_idiv (pc := 78) hC dX12_isOpen_78 ?_
    refine S_iload (pc := 79) hC dX12_isOpen_79 ?_
    refine S_iadd (pc := 81) hC dX12_isOpen_81 ?_
    refine S_istore (pc := 82) hC dX12_isOpen_82 (by decide) ?_
    exact hJ 84
  have hB84 : zin 10 [2, 3, 4, 5, 6, 7, 8] (aX12_isOpen_84 mc ms X Q) X 84 := by
    intro u v vs st M hb
    rw [hXe]
    refine fun lv hp => S_block (L := 84) (live := [2, 3, 4, 5, 6, 7, 8]) ?_ u v lv vs st M hp hb
    unfold aX12_isOpen_84
    refine S_bipush (pc := 84) hC dX12_isOpen_84 (by decide) ?_
    refine S_iload (pc := 86) hC dX12_isOpen_86 ?_
    refine S_imul (pc := 88) hC dX12_isOpen_88 ?_
    refine S_iload (pc := 89) hC dX12_isOpen_89 ?_
    refine S_iadd (pc := 91) hC dX12_isOpen_91 ?_
    refine S_iload_n (pc := 92) hC dX12_isOpen_92 rfl ?_
    refine S_icmp_eq (pc := 93) (tgt := 138) hC dX12_isOpen_93 (by decide) ?_ ?_
    · refine S_iconst (pc := 138) hC dX12_isOpen_138 (by decide) ?_
      exact S_zreturn (pc := 139) hC hr dX12_isOpen_139
    · refine S_bipush (pc := 96) hC dX12_isOpen_96 (by decide) ?_
      refine S_iload (pc := 98) hC dX12_isOpen_98 ?_
      refine S_imul (pc := 100) hC dX12_isOpen_100 ?_
      refine S_iload (pc := 101) hC dX12_isOpen_101 ?_
      refine S_iadd (pc := 103) hC dX12_isOpen_103 ?_
      refine S_istore (pc := 104) hC dX12_isOpen_104 (by decide) ?_
      refine S_iload (pc := 106) hC dX12_isOpen_106 ?_
      refine S_iload_n (pc := 108) hC dX12_isOpen_108 rfl ?_
      refine S_icmp_eq (pc := 109) (tgt := 119) hC dX12_isOpen_109 (by decide) ?_ ?_
      · exact hJ 119
      · refine S_iload (pc := 112) hC dX12_isOpen_112 ?_
        refine S_iload (pc := 114) hC dX12_isOpen_114 ?_
        refine S_icmp_ne (pc := 116) (tgt := 121) hC dX12_isOpen_116 (by decide) ?_ ?_
        · refine S_iload (pc := 121) hC dX12_isOpen_121 ?_
          refine S_iload (pc := 123) hC dX12_isOpen_123 ?_
          refine S_iadd (pc := 125) hC dX12_isOpen_125 ?_
          refine S_istore (pc := 126) hC dX12_isOpen_126 (by decide) ?_
          refine S_iload (pc := 128) hC dX12_isOpen_128 ?_
          refine S_iload (pc := 130) hC dX12_isOpen_130 ?_
          refine S_iadd (pc := 132) hC dX12_isOpen_132 ?_
          refine S_istore (pc := 133) hC dX12_isOpen_133 (by decide) ?_
          refine S_goto (pc := 135) (tgt := 84) hC dX12_isOpen_135 (by decide) ?_
          exact hJ 84
        · exact hJ 119
  have hB119 : zin 10 [] (aX12_isOpen_119 mc ms X Q) X 119 := by
    intro u v vs st M hb
    rw [hXe]
    refine fun lv hp => S_block (L := 119) (live := []) ?_ u v lv vs st M hp hb
    unfold aX12_isOpen_119
    refine S_iconst (pc := 119) hC dX12_isOpen_119 (by decide) ?_
    exact S_zreturn (pc := 120) hC hr dX12_isOpen_120
  have := h.2 X hB0 hB31 hB64 hB84 hB119
  rw [hXe] at this
  exact this lv hlv
theorem vX12_isOpen_0 {mc ms : Nat} {X : Nat → zV} {Q : zQt} {M : zM} {x1 : Int32} {x2 : Int32} {x3 : Int32} {x4 : Int32} (hW : zFix M)  (h : ((x2 - x2 / (8 : Int32) * (8 : Int32)) ≤ (x1 - x1 / (8 : Int32) * (8 : Int32)) → ((x1 - x1 / (8 : Int32) * (8 : Int32)) ≤ (x2 - x2 / (8 : Int32) * (8 : Int32)) → X 31 0 0 [.int x1, .int x2, .int x3, .int x4] [.int 0] M) ∧ (¬ (x1 - x1 / (8 : Int32) * (8 : Int32)) ≤ (x2 - x2 / (8 : Int32) * (8 : Int32)) → X 31 0 0 [.int x1, .int x2, .int x3, .int x4] [.int (-1)] M)) ∧ (¬ (x2 - x2 / (8 : Int32) * (8 : Int32)) ≤ (x1 - x1 / (8 : Int32) * (8 : Int32)) → X 31 0 0 [.int x1, .int x2, .int x3, .int x4] [.int 1] M)) : aX12_isOpen_0 mc ms X Q 0 0 [some (.ref 71), some (.int x1), some (.int x2), some (.int x3), some (.int x4), none, none, none, none, none] [] M := ⟨by decide, ⟨by decide, ⟨fun c8 => ⟨by decide, ⟨by decide, ⟨fun c23 => ((h.1 c8).1 c23), fun c23 => ((h.1 c8).2 c23)⟩⟩⟩, fun c8 => (h.2 c8)⟩⟩⟩
theorem vX12_isOpen_31 {mc ms : Nat} {X : Nat → zV} {Q : zQt} {M : zM} {x1 : Int32} {x2 : Int32} {x3 : Int32} {x4 : Int32} {s0 : Int32} (hW : zFix M)  (h : ((x2 / (8 : Int32)) ≤ (x1 / (8 : Int32)) → ((x1 / (8 : Int32)) ≤ (x2 / (8 : Int32)) → X 64 0 0 [.int x1, .int x2, .int x3, .int x4, .int s0] [.int 0] M) ∧ (¬ (x1 / (8 : Int32)) ≤ (x2 / (8 : Int32)) → X 64 0 0 [.int x1, .int x2, .int x3, .int x4, .int s0] [.int (-1)] M)) ∧ (¬ (x2 / (8 : Int32)) ≤ (x1 / (8 : Int32)) → X 64 0 0 [.int x1, .int x2, .int x3, .int x4, .int s0] [.int 1] M)) : aX12_isOpen_31 mc ms X Q 0 0 [none, some (.int x1), some (.int x2), some (.int x3), some (.int x4), none, none, none, none, none] [.int s0] M := ⟨by decide, ⟨by decide, ⟨fun c41 => ⟨by decide, ⟨by decide, ⟨fun c56 => ((h.1 c41).1 c56), fun c56 => ((h.1 c41).2 c56)⟩⟩⟩, fun c41 => (h.2 c41)⟩⟩⟩
theorem vcX12_isOpen_75 {mc ms : Nat} {X : Nat → zV} {Q : zQt} {M : zM} {x1 : Int32} {x2 : Int32} {x3 : Int32} {x4 : Int32} {x5 : Int32} {x6 : Int32} {x7 : Int32} (hW : zFix M)  (h : X 84 0 0 [.int x2, .int x3, .int x4, .int x5, .int x6, .int x7, .int ((x1 / (8 : Int32)) + x6)] [] M) : kX12_isOpen_75 mc ms X Q 0 0 [none, some (.int x1), some (.int x2), some (.int x3), some (.int x4), some (.int x5), some (.int x6), some (.int x7), none, none] [] M := ⟨by decide, h⟩
theorem vX12_isOpen_64 {mc ms : Nat} {X : Nat → zV} {Q : zQt} {M : zM} {x1 : Int32} {x2 : Int32} {x3 : Int32} {x4 : Int32} {x5 : Int32} {s0 : Int32} (hW : zFix M)  (h : ∀ y73 : Int32, y73 = ((x1 - x1 / (8 : Int32) * (8 : Int32)) + x5) → X 84 0 0 [.int x2, .int x3, .int x4, .int x5, .int s0, .int y73, .int ((x1 / (8 : Int32)) + s0)] [] M) : aX12_isOpen_64 mc ms X Q 0 0 [none, some (.int x1), some (.int x2), some (.int x3), some (.int x4), some (.int x5), none, none, none, none] [.int s0] M := ⟨by decide, (fun y73 e73 => have h73 := h y73 e73; (vcX12_isOpen_75 hW  h73))⟩
theorem vX12_isOpen_84 {mc ms : Nat} {X : Nat → zV} {Q : zQt} {M : zM} {x2 : Int32} {x3 : Int32} {x4 : Int32} {x5 : Int32} {x6 : Int32} {x7 : Int32} {x8 : Int32} (hW : zFix M)  (h : ((((8 : Int32) * x8) + x7) = x2 → Q (some (.int 1)) M) ∧ (¬ (((8 : Int32) * x8) + x7) = x2 → ((((8 : Int32) * x8) + x7) = x3 → X 119 0 0 [] [] M) ∧ (¬ (((8 : Int32) * x8) + x7) = x3 → ((((8 : Int32) * x8) + x7) = x4 → X 119 0 0 [] [] M) ∧ (¬ (((8 : Int32) * x8) + x7) = x4 → X 84 0 0 [.int x2, .int x3, .int x4, .int x5, .int x6, .int (x7 + x5), .int (x8 + x6)] [] M)))) : aX12_isOpen_84 mc ms X Q 0 0 [none, none, some (.int x2), some (.int x3), some (.int x4), some (.int x5), some (.int x6), some (.int x7), some (.int x8), none] [] M := ⟨fun c93 => ⟨rfl, (h.1 c93)⟩, fun c93 => ⟨fun c109 => ((h.2 c93).1 c109), fun c109 => ⟨fun c116 => (((h.2 c93).2 c109).1 c116), fun c116 => (((h.2 c93).2 c109).2 c116)⟩⟩⟩
theorem vX12_isOpen_119 {mc ms : Nat} {X : Nat → zV} {Q : zQt} {M : zM}  (hW : zFix M)  (h : Q (some (.int 0)) M) : aX12_isOpen_119 mc ms X Q 0 0 [none, none, none, none, none, none, none, none, none, none] [] M := ⟨rfl, h⟩
