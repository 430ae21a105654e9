theorem dX11_tape_0 : decode cX11_tape 0 = .ok (.aload_n 0, 1) := by decide +kernel
theorem dX11_tape_1 : decode cX11_tape 1 = .ok (.getfield 69, 3) := by decide +kernel
theorem dX11_tape_4 : decode cX11_tape 4 = .ok (.bipush 20, 2) := by decide +kernel
theorem dX11_tape_6 : decode cX11_tape 6 = .ok (.iadd, 1) := by decide +kernel
theorem dX11_tape_7 : decode cX11_tape 7 = .ok (.sipush 8180, 3) := by decide +kernel
theorem dX11_tape_10 : decode cX11_tape 10 = .ok (.if_icmp .le 5, 3) := by decide +kernel
theorem dX11_tape_13 : decode cX11_tape 13 = .ok (.iconst 0, 1) := by decide +kernel
theorem dX11_tape_14 : decode cX11_tape 14 = .ok (.ireturn, 1) := by decide +kernel
theorem dX11_tape_15 : decode cX11_tape 15 = .ok (.aload_n 0, 1) := by decide +kernel
theorem dX11_tape_16 : decode cX11_tape 16 = .ok (.iload_n 1, 1) := by decide +kernel
theorem dX11_tape_17 : decode cX11_tape 17 = .ok (.aload_n 0, 1) := by decide +kernel
theorem dX11_tape_18 : decode cX11_tape 18 = .ok (.getfield 69, 3) := by decide +kernel
theorem dX11_tape_21 : decode cX11_tape 21 = .ok (.invokevirtual 82, 3) := by decide +kernel
theorem dX11_tape_24 : decode cX11_tape 24 = .ok (.aload_n 0, 1) := by decide +kernel
theorem dX11_tape_25 : decode cX11_tape 25 = .ok (.iload_n 2, 1) := by decide +kernel
theorem dX11_tape_26 : decode cX11_tape 26 = .ok (.aload_n 0, 1) := by decide +kernel
theorem dX11_tape_27 : decode cX11_tape 27 = .ok (.getfield 69, 3) := by decide +kernel
theorem dX11_tape_30 : decode cX11_tape 30 = .ok (.iconst 4, 1) := by decide +kernel
theorem dX11_tape_31 : decode cX11_tape 31 = .ok (.iadd, 1) := by decide +kernel
theorem dX11_tape_32 : decode cX11_tape 32 = .ok (.invokevirtual 82, 3) := by decide +kernel
theorem dX11_tape_35 : decode cX11_tape 35 = .ok (.aload_n 0, 1) := by decide +kernel
theorem dX11_tape_36 : decode cX11_tape 36 = .ok (.iload_n 3, 1) := by decide +kernel
theorem dX11_tape_37 : decode cX11_tape 37 = .ok (.aload_n 0, 1) := by decide +kernel
theorem dX11_tape_38 : decode cX11_tape 38 = .ok (.getfield 69, 3) := by decide +kernel
theorem dX11_tape_41 : decode cX11_tape 41 = .ok (.bipush 8, 2) := by decide +kernel
theorem dX11_tape_43 : decode cX11_tape 43 = .ok (.iadd, 1) := by decide +kernel
theorem dX11_tape_44 : decode cX11_tape 44 = .ok (.invokevirtual 82, 3) := by decide +kernel
theorem dX11_tape_47 : decode cX11_tape 47 = .ok (.aload_n 0, 1) := by decide +kernel
theorem dX11_tape_48 : decode cX11_tape 48 = .ok (.iload 4, 2) := by decide +kernel
theorem dX11_tape_50 : decode cX11_tape 50 = .ok (.aload_n 0, 1) := by decide +kernel
theorem dX11_tape_51 : decode cX11_tape 51 = .ok (.getfield 69, 3) := by decide +kernel
theorem dX11_tape_54 : decode cX11_tape 54 = .ok (.bipush 12, 2) := by decide +kernel
theorem dX11_tape_56 : decode cX11_tape 56 = .ok (.iadd, 1) := by decide +kernel
theorem dX11_tape_57 : decode cX11_tape 57 = .ok (.invokevirtual 82, 3) := by decide +kernel
theorem dX11_tape_60 : decode cX11_tape 60 = .ok (.aload_n 0, 1) := by decide +kernel
theorem dX11_tape_61 : decode cX11_tape 61 = .ok (.iload 5, 2) := by decide +kernel
theorem dX11_tape_63 : decode cX11_tape 63 = .ok (.aload_n 0, 1) := by decide +kernel
theorem dX11_tape_64 : decode cX11_tape 64 = .ok (.getfield 69, 3) := by decide +kernel
theorem dX11_tape_67 : decode cX11_tape 67 = .ok (.bipush 16, 2) := by decide +kernel
theorem dX11_tape_69 : decode cX11_tape 69 = .ok (.iadd, 1) := by decide +kernel
theorem dX11_tape_70 : decode cX11_tape 70 = .ok (.invokevirtual 82, 3) := by decide +kernel
theorem dX11_tape_73 : decode cX11_tape 73 = .ok (.aload_n 0, 1) := by decide +kernel
theorem dX11_tape_74 : decode cX11_tape 74 = .ok (.dup, 1) := by decide +kernel
theorem dX11_tape_75 : decode cX11_tape 75 = .ok (.getfield 69, 3) := by decide +kernel
theorem dX11_tape_78 : decode cX11_tape 78 = .ok (.bipush 20, 2) := by decide +kernel
theorem dX11_tape_80 : decode cX11_tape 80 = .ok (.iadd, 1) := by decide +kernel
theorem dX11_tape_81 : decode cX11_tape 81 = .ok (.putfield 69, 3) := by decide +kernel
theorem dX11_tape_84 : decode cX11_tape 84 = .ok (.iconst 1, 1) := by decide +kernel
theorem dX11_tape_85 : decode cX11_tape 85 = .ok (.ireturn, 1) := by decide +kernel
def kX11_tape_73 (mc ms : Nat) (X : Nat → zV) (Q : zQt) : zT :=
  zla 0 <| zdup <| zgi 11 9 <| zc (.int 20) <| zii (fun x y => x + y) <| zpi 11 9 <| zc (.int 1) <| zrz .boolean Q
def kX11_tape_60 (mc ms : Nat) (X : Nat → zV) (Q : zQt) : zT :=
  zla 0 <| zli 5 <| zla 0 <| zgi 11 9 <| zc (.int 16) <| zii (fun x y => x + y) <| zcv mc ms 11 2 wX11_putNumber <| kX11_tape_73 mc ms X Q
def kX11_tape_47 (mc ms : Nat) (X : Nat → zV) (Q : zQt) : zT :=
  zla 0 <| zli 4 <| zla 0 <| zgi 11 9 <| zc (.int 12) <| zii (fun x y => x + y) <| zcv mc ms 11 2 wX11_putNumber <| kX11_tape_60 mc ms X Q
def kX11_tape_35 (mc ms : Nat) (X : Nat → zV) (Q : zQt) : zT :=
  zla 0 <| zli 3 <| zla 0 <| zgi 11 9 <| zc (.int 8) <| zii (fun x y => x + y) <| zcv mc ms 11 2 wX11_putNumber <| kX11_tape_47 mc ms X Q
def kX11_tape_24 (mc ms : Nat) (X : Nat → zV) (Q : zQt) : zT :=
  zla 0 <| zli 2 <| zla 0 <| zgi 11 9 <| zc (.int 4) <| zii (fun x y => x + y) <| zcv mc ms 11 2 wX11_putNumber <| kX11_tape_35 mc ms X Q
def aX11_tape_0 (mc ms : Nat) (X : Nat → zV) (Q : zQt) : zT :=
  zla 0 <| zgi 11 9 <| zc (.int 20) <| zii (fun x y => x + y) <| zc (.int 8180) <| zic (fun x y => x ≤ y) (zla 0 <| zli 1 <| zla 0 <| zgi 11 9 <| zcv mc ms 11 2 wX11_putNumber <| kX11_tape_24 mc ms X Q) <| zc (.int 0) <| zrz .boolean Q
def lvX11_tape : Nat → List Nat := fun L => match L with
  | 0 => [0, 1, 2, 3, 4, 5]
  | _ => []
def wX11_tape : zSp := fun mc ms av M Q => ((zlay av).length ≤ 6 ∧ zpick (zlay av) [0, 1, 2, 3, 4, 5] = some av) ∧ ∀ X : Nat → zV, zin 6 [0, 1, 2, 3, 4, 5] (aX11_tape_0 mc ms X Q) X 0 → X 0 0 0 av [] M
set_option maxRecDepth 100000 in
set_option maxHeartbeats 4000000 in
theorem sX11_tape (l : Launch) (G : zG) : zSnd l G yX11_tape cX11_tape 6 (some .boolean) 1 23 wX11_tape := by
  refine zmk [0, 1, 2, 3, 4, 5] (by decide) (fun mc ms av M Q h => h.1) ?_
  intro p e R s m args below meth c mc ms av M Q hC hRf hRl hr hnm h lv hlv
  obtain ⟨X, hXe⟩ : ∃ X : Nat → zV, X = fun L u v vs st M => ∀ lv, zpick lv (lvX11_tape L) = some vs → zAt p l e R s m args below meth c (MQ below (zQ G Q) args s mc ms (zA G)) G 6 L u v lv st M := ⟨_, rfl⟩
  have hJ : ∀ L, zOk p l e R s m args below meth c (MQ below (zQ G Q) args s mc ms (zA G)) G 6 L (zj X L (lvX11_tape L)) := fun L => S_jump (fun u v lv vs st M hp hx => by rw [hXe] at hx; exact hx lv hp)
  have hB0 : zin 6 [0, 1, 2, 3, 4, 5] (aX11_tape_0 mc ms X Q) X 0 := by
    intro u v vs st M hb
    rw [hXe]
    refine fun lv hp => S_block (L := 0) (live := [0, 1, 2, 3, 4, 5]) ?_ u v lv vs st M hp hb
    unfold aX11_tape_0
    refine S_aload_n (pc := 0) hC dX11_tape_0 rfl ?_
    refine S_geti (pc := 1) hC cfX11 (by decide) (Or.inl rfl) wd_355 dX11_tape_1 ?_
    refine S_bipush (pc := 4) hC dX11_tape_4 (by decide) ?_
    refine S_iadd (pc := 6) hC dX11_tape_6 ?_
    refine S_sipush (pc := 7) hC dX11_tape_7 (by decide) ?_
    refine S_icmp_le (pc := 10) (tgt := 15) hC dX11_tape_10 (by decide) ?_ ?_
    · refine S_aload_n (pc := 15) hC dX11_tape_15 rfl ?_
      refine S_iload_n (pc := 16) hC dX11_tape_16 rfl ?_
      refine S_aload_n (pc := 17) hC dX11_tape_17 rfl ?_
      refine S_geti (pc := 18) hC cfX11 (by decide) (Or.inl rfl) wd_355 dX11_tape_18 ?_
      refine S_callV (pc := 21) hC (sX11_putNumber l G) rfl wd_390 wd_392 ws_0 wd_1 wd_393 (by decide +kernel) ⟨by rw [hRf]; decide, by rw [hRl]; decide⟩ dX11_tape_21 ?_
      unfold kX11_tape_24
      refine S_aload_n (pc := 24) hC dX11_tape_24 rfl ?_
      refine S_iload_n (pc := 25) hC dX11_tape_25 rfl ?_
      refine S_aload_n (pc := 26) hC dX11_tape_26 rfl ?_
      refine S_geti (pc := 27) hC cfX11 (by decide) (Or.inl rfl) wd_355 dX11_tape_27 ?_
      refine S_iconst (pc := 30) hC dX11_tape_30 (by decide) ?_
      refine S_iadd (pc := 31) hC dX11_tape_31 ?_
      refine S_callV (pc := 32) hC (sX11_putNumber l G) rfl wd_390 wd_392 ws_0 wd_1 wd_393 (by decide +kernel) ⟨by rw [hRf]; decide, by rw [hRl]; decide⟩ dX11_tape_32 ?_
      unfold kX11_tape_35
      refine S_aload_n (pc := 35) hC dX11_tape_35 rfl ?_
      refine S_iload_n (pc := 36) hC dX11_tape_36 rfl ?_
      refine S_aload_n (pc := 37) hC dX11_tape_37 rfl ?_
      refine S_geti (pc := 38) hC cfX11 (by decide) (Or.inl rfl) wd_355 dX11_tape_38 ?_
      refine S_bipush (pc := 41) hC dX11_tape_41 (by decide) ?_
      refine S_iadd (pc := 43) hC dX11_tape_43 ?_
      refine S_callV (pc := 44) hC (sX11_putNumber l G) rfl wd_390 wd_392 ws_0 wd_1 wd_393 (by decide +kernel) ⟨by rw [hRf]; decide, by rw [hRl]; decide⟩ dX11_tape_44 ?_
      unfold kX11_tape_47
      refine S_aload_n (pc := 47) hC dX11_tape_47 rfl ?_
      refine S_iload (pc := 48) hC dX11_tape_48 ?_
      refine S_aload_n (pc := 50) hC dX11_tape_50 rfl ?_
      refine S_geti (pc := 51) hC cfX11 (by decide) (Or.inl rfl) wd_355 dX11_tape_51 ?_
      refine S_bipush (pc := 54) hC dX11_tape_54 (by decide) ?_
      refine S_iadd (pc := 56) hC dX11_tape_56 ?_
      refine S_callV (pc := 57) hC (sX11_putNumber l G) rfl wd_390 wd_392 ws_0 wd_1 wd_393 (by decide +kernel) ⟨by rw [hRf]; decide, by rw [hRl]; decide⟩ dX11_tape_57 ?_
      unfold kX11_tape_60
      refine S_aload_n (pc := 60) hC dX11_tape_60 rfl ?_
      refine S_iload (pc := 61) hC dX11_tape_61 ?_
      refine S_aload_n (pc := 63) hC dX11_tape_63 rfl ?_
      refine S_geti (pc := 64) hC cfX11 (by decide) (Or.inl rfl) wd_355 dX11_tape_64 ?_
      refine S_bipush (pc := 67) hC dX11_tape_67 (by decide) ?_
      refine S_iadd (pc := 69) hC dX11_tape_69 ?_
      refine S_callV (pc := 70) hC (sX11_putNumber l G) rfl wd_390 wd_392 ws_0 wd_1 wd_393 (by decide +kernel) ⟨by rw [hRf]; decide, by rw [hRl]; decide⟩ dX11_tape_70 ?_
      unfold kX11_tape_73
      refine S_aload_n (pc := 73) hC dX11_tape_73 rfl ?_
      refine S_dup (pc := 74) hC dX11_tape_74 ?_
      refine S_geti (pc := 75) hC cfX11 (by decide) (Or.inl rfl) wd_355 dX11_tape_75 ?_
      refine S_bipush (pc := 78) hC dX11_tape_78 (by decide) ?_
      refine S_iadd (pc := 80) hC dX11_tape_80 ?_
      refine S_puti (pc := 81) hC cfX11 (by decide) rfl (Or.inl rfl) wd_355 dX11_tape_81 ?_
      refine S_iconst (pc := 84) hC dX11_tape_84 (by decide) ?_
      exact S_zreturn (pc := 85) hC hr dX11_tape_85
    · refine S_iconst (pc := 13) hC dX11_tape_13 (by decide) ?_
      exact S_zreturn (pc := 14) hC hr dX11_tape_14
  have := h.2 X hB0
  rw [hXe] at this
  exact this lv hlv
theorem vX11_tape_0 {mc ms : Nat} {X : Nat → zV} {Q : zQt} {M : zM} {g : Nat} {x1 : Int32} {x2 : Int32} {x3 : Int32} {x4 : Int32} {x5 : Int32} (hW : zWd M g)  (h : (((M.1 16 9) + (20 : Int32)) ≤ (8180 : Int32) → wX11_putNumber 0 0 [.ref 16, .int x1, .int (M.1 16 9)] M (fun r M1 => kX11_tape_24 mc ms X Q 0 0 [some (.ref 16), some (.int x1), some (.int x2), some (.int x3), some (.int x4), some (.int x5)] (r.toList ++ []) M1)) ∧ (¬ ((M.1 16 9) + (20 : Int32)) ≤ (8180 : Int32) → Q (some (.int 0)) M)) : aX11_tape_0 mc ms X Q 0 0 [some (.ref 16), some (.int x1), some (.int x2), some (.int x3), some (.int x4), some (.int x5)] [] M := ⟨(fxs_16 hW.1), ⟨fun c10 => ⟨(fxs_16 hW.1), ⟨Nat.le_of_ble_eq_true rfl, rfl, (fxs_16 hW.1), 0, 0, Nat.zero_le _, Nat.zero_le _, (h.1 c10)⟩⟩, fun c10 => ⟨rfl, (h.2 c10)⟩⟩⟩
theorem vkX11_tape_24 {mc ms : Nat} {X : Nat → zV} {Q : zQt} {M : zM} {g : Nat} {x1 : Int32} {x2 : Int32} {x3 : Int32} {x4 : Int32} {x5 : Int32} (hW : zWd M g)  (h : wX11_putNumber 0 0 [.ref 16, .int x2, .int ((M.1 16 9) + (4 : Int32))] M (fun r M1 => kX11_tape_35 mc ms X Q 0 0 [some (.ref 16), some (.int x1), some (.int x2), some (.int x3), some (.int x4), some (.int x5)] (r.toList ++ []) M1)) : kX11_tape_24 mc ms X Q 0 0 [some (.ref 16), some (.int x1), some (.int x2), some (.int x3), some (.int x4), some (.int x5)] [] M := ⟨(fxs_16 hW.1), ⟨Nat.le_of_ble_eq_true rfl, rfl, (fxs_16 hW.1), 0, 0, Nat.zero_le _, Nat.zero_le _, h⟩⟩
theorem vkX11_tape_35 {mc ms : Nat} {X : Nat → zV} {Q : zQt} {M : zM} {g : Nat} {x1 : Int32} {x2 : Int32} {x3 : Int32} {x4 : Int32} {x5 : Int32} (hW : zWd M g)  (h : wX11_putNumber 0 0 [.ref 16, .int x3, .int ((M.1 16 9) + (8 : Int32))] M (fun r M1 => kX11_tape_47 mc ms X Q 0 0 [some (.ref 16), some (.int x1), some (.int x2), some (.int x3), some (.int x4), some (.int x5)] (r.toList ++ []) M1)) : kX11_tape_35 mc ms X Q 0 0 [some (.ref 16), some (.int x1), some (.int x2), some (.int x3), some (.int x4), some (.int x5)] [] M := ⟨(fxs_16 hW.1), ⟨Nat.le_of_ble_eq_true rfl, rfl, (fxs_16 hW.1), 0, 0, Nat.zero_le _, Nat.zero_le _, h⟩⟩
theorem vkX11_tape_47 {mc ms : Nat} {X : Nat → zV} {Q : zQt} {M : zM} {g : Nat} {x1 : Int32} {x2 : Int32} {x3 : Int32} {x4 : Int32} {x5 : Int32} (hW : zWd M g)  (h : wX11_putNumber 0 0 [.ref 16, .int x4, .int ((M.1 16 9) + (12 : Int32))] M (fun r M1 => kX11_tape_60 mc ms X Q 0 0 [some (.ref 16), some (.int x1), some (.int x2), some (.int x3), some (.int x4), some (.int x5)] (r.toList ++ []) M1)) : kX11_tape_47 mc ms X Q 0 0 [some (.ref 16), some (.int x1), some (.int x2), some (.int x3), some (.int x4), some (.int x5)] [] M := ⟨(fxs_16 hW.1), ⟨Nat.le_of_ble_eq_true rfl, rfl, (fxs_16 hW.1), 0, 0, Nat.zero_le _, Nat.zero_le _, h⟩⟩
theorem vkX11_tape_60 {mc ms : Nat} {X : Nat → zV} {Q : zQt} {M : zM} {g : Nat} {x1 : Int32} {x2 : Int32} {x3 : Int32} {x4 : Int32} {x5 : Int32} (hW : zWd M g)  (h : wX11_putNumber 0 0 [.ref 16, .int x5, .int ((M.1 16 9) + (16 : Int32))] M (fun r M1 => kX11_tape_73 mc ms X Q 0 0 [some (.ref 16), some (.int x1), some (.int x2), some (.int x3), some (.int x4), some (.int x5)] (r.toList ++ []) M1)) : kX11_tape_60 mc ms X Q 0 0 [some (.ref 16), some (.int x1), some (.int x2), some (.int x3), some (.int x4), some (.int x5)] [] M := ⟨(fxs_16 hW.1), ⟨Nat.le_of_ble_eq_true rfl, rfl, (fxs_16 hW.1), 0, 0, Nat.zero_le _, Nat.zero_le _, h⟩⟩
theorem vkX11_tape_73 {mc ms : Nat} {X : Nat → zV} {Q : zQt} {M : zM} {g : Nat} {x1 : Int32} {x2 : Int32} {x3 : Int32} {x4 : Int32} {x5 : Int32} (hW : zWd M g)  (h : ∀ M81 : zM, M81 = (zsI M 16 9 (((M.1 16 9) + (20 : Int32)))) → Q (some (.int 1)) M81) : kX11_tape_73 mc ms X Q 0 0 [some (.ref 16), some (.int x1), some (.int x2), some (.int x3), some (.int x4), some (.int x5)] [] M := ⟨(fxs_16 hW.1), ⟨(fxs_16 hW.1), (have h81 := h _ rfl; ⟨rfl, h81⟩)⟩⟩
theorem dX11_status_0 : decode cX11_status 0 = .ok (.iload_n 1, 1) := by decide +kernel
theorem dX11_status_1 : decode cX11_status 1 = .ok (.tableswitch 170 0 13 #[71, 76, 81, 86, 170, 170, 170, 170, 170, 170, 105, 127, 146, 165], 71) := by decide +kernel
theorem dX11_status_72 : decode cX11_status 72 = .ok (.aload_n 0, 1) := by decide +kernel
theorem dX11_status_73 : decode cX11_status 73 = .ok (.getfield 69, 3) := by decide +kernel
theorem dX11_status_76 : decode cX11_status 76 = .ok (.ireturn, 1) := by decide +kernel
theorem dX11_status_77 : decode cX11_status 77 = .ok (.aload_n 0, 1) := by decide +kernel
theorem dX11_status_78 : decode cX11_status 78 = .ok (.getfield 73, 3) := by decide +kernel
theorem dX11_status_81 : decode cX11_status 81 = .ok (.ireturn, 1) := by decide +kernel
theorem dX11_status_82 : decode cX11_status 82 = .ok (.aload_n 0, 1) := by decide +kernel
theorem dX11_status_83 : decode cX11_status 83 = .ok (.getfield 76, 3) := by decide +kernel
theorem dX11_status_86 : decode cX11_status 86 = .ok (.ireturn, 1) := by decide +kernel
theorem dX11_status_87 : decode cX11_status 87 = .ok (.aload_n 0, 1) := by decide +kernel
theorem dX11_status_88 : decode cX11_status 88 = .ok (.getfield 65, 3) := by decide +kernel
theorem dX11_status_91 : decode cX11_status 91 = .ok (.ifCond .eq 13, 3) := by decide +kernel
theorem dX11_status_94 : decode cX11_status 94 = .ok (.aload_n 0, 1) := by decide +kernel
theorem dX11_status_95 : decode cX11_status 95 = .ok (.getfield 58, 3) := by decide +kernel
theorem dX11_status_98 : decode cX11_status 98 = .ok (.getfield 104, 3) := by decide +kernel
theorem dX11_status_101 : decode cX11_status 101 = .ok (.goto 4, 3) := by decide +kernel
theorem dX11_status_104 : decode cX11_status 104 = .ok (.iconst 0, 1) := by decide +kernel
theorem dX11_status_105 : decode cX11_status 105 = .ok (.ireturn, 1) := by decide +kernel
theorem dX11_status_106 : decode cX11_status 106 = .ok (.aload_n 0, 1) := by decide +kernel
theorem dX11_status_107 : decode cX11_status 107 = .ok (.getfield 65, 3) := by decide +kernel
theorem dX11_status_110 : decode cX11_status 110 = .ok (.ifCond .eq 16, 3) := by decide +kernel
theorem dX11_status_113 : decode cX11_status 113 = .ok (.aload_n 0, 1) := by decide +kernel
theorem dX11_status_114 : decode cX11_status 114 = .ok (.getfield 58, 3) := by decide +kernel
theorem dX11_status_117 : decode cX11_status 117 = .ok (.getfield 89, 3) := by decide +kernel
theorem dX11_status_120 : decode cX11_status 120 = .ok (.invokevirtual 171, 3) := by decide +kernel
theorem dX11_status_123 : decode cX11_status 123 = .ok (.goto 4, 3) := by decide +kernel
theorem dX11_status_126 : decode cX11_status 126 = .ok (.iconst 0, 1) := by decide +kernel
theorem dX11_status_127 : decode cX11_status 127 = .ok (.ireturn, 1) := by decide +kernel
theorem dX11_status_128 : decode cX11_status 128 = .ok (.aload_n 0, 1) := by decide +kernel
theorem dX11_status_129 : decode cX11_status 129 = .ok (.getfield 65, 3) := by decide +kernel
theorem dX11_status_132 : decode cX11_status 132 = .ok (.ifCond .eq 13, 3) := by decide +kernel
theorem dX11_status_135 : decode cX11_status 135 = .ok (.aload_n 0, 1) := by decide +kernel
theorem dX11_status_136 : decode cX11_status 136 = .ok (.getfield 58, 3) := by decide +kernel
theorem dX11_status_139 : decode cX11_status 139 = .ok (.invokevirtual 187, 3) := by decide +kernel
theorem dX11_status_142 : decode cX11_status 142 = .ok (.goto 4, 3) := by decide +kernel
theorem dX11_status_145 : decode cX11_status 145 = .ok (.iconst 0, 1) := by decide +kernel
theorem dX11_status_146 : decode cX11_status 146 = .ok (.ireturn, 1) := by decide +kernel
theorem dX11_status_147 : decode cX11_status 147 = .ok (.aload_n 0, 1) := by decide +kernel
theorem dX11_status_148 : decode cX11_status 148 = .ok (.getfield 65, 3) := by decide +kernel
theorem dX11_status_151 : decode cX11_status 151 = .ok (.ifCond .eq 13, 3) := by decide +kernel
theorem dX11_status_154 : decode cX11_status 154 = .ok (.aload_n 0, 1) := by decide +kernel
theorem dX11_status_155 : decode cX11_status 155 = .ok (.getfield 58, 3) := by decide +kernel
theorem dX11_status_158 : decode cX11_status 158 = .ok (.invokevirtual 190, 3) := by decide +kernel
theorem dX11_status_161 : decode cX11_status 161 = .ok (.goto 4, 3) := by decide +kernel
theorem dX11_status_164 : decode cX11_status 164 = .ok (.iconst 0, 1) := by decide +kernel
theorem dX11_status_165 : decode cX11_status 165 = .ok (.ireturn, 1) := by decide +kernel
theorem dX11_status_166 : decode cX11_status 166 = .ok (.aload_n 0, 1) := by decide +kernel
theorem dX11_status_167 : decode cX11_status 167 = .ok (.getfield 79, 3) := by decide +kernel
theorem dX11_status_170 : decode cX11_status 170 = .ok (.ireturn, 1) := by decide +kernel
theorem dX11_status_171 : decode cX11_status 171 = .ok (.aload_n 0, 1) := by decide +kernel
theorem dX11_status_172 : decode cX11_status 172 = .ok (.getfield 65, 3) := by decide +kernel
theorem dX11_status_175 : decode cX11_status 175 = .ok (.ifCond .eq 11, 3) := by decide +kernel
theorem dX11_status_178 : decode cX11_status 178 = .ok (.aload_n 0, 1) := by decide +kernel
theorem dX11_status_179 : decode cX11_status 179 = .ok (.iload_n 1, 1) := by decide +kernel
theorem dX11_status_180 : decode cX11_status 180 = .ok (.invokevirtual 193, 3) := by decide +kernel
theorem dX11_status_183 : decode cX11_status 183 = .ok (.goto 4, 3) := by decide +kernel
theorem dX11_status_186 : decode cX11_status 186 = .ok (.iconst (-1), 1) := by decide +kernel
theorem dX11_status_187 : decode cX11_status 187 = .ok (.ireturn, 1) := by decide +kernel
def kX11_status_123 (mc ms : Nat) (X : Nat → zV) (Q : zQt) : zT :=
  zj X 127 []
def kX11_status_142 (mc ms : Nat) (X : Nat → zV) (Q : zQt) : zT :=
  zj X 146 []
def kX11_status_161 (mc ms : Nat) (X : Nat → zV) (Q : zQt) : zT :=
  zj X 165 []
def kX11_status_183 (mc ms : Nat) (X : Nat → zV) (Q : zQt) : zT :=
  zj X 187 []
def aX11_status_0 (mc ms : Nat) (X : Nat → zV) (Q : zQt) : zT :=
  zli 1 <| zsw 0 13 [(zla 0 <| zgi 11 9 <| zri Q), (zla 0 <| zgi 11 10 <| zri Q), (zla 0 <| zgi 11 11 <| zri Q), (zla 0 <| zgi 11 8 <| zif (fun x => x = 0) (zc (.int 0) <| zj X 105 []) <| zla 0 <| zgR 11 6 <| zgi 4 4 <| zj X 105 []), (zj X 171 [0, 1]), (zj X 171 [0, 1]), (zj X 171 [0, 1]), (zj X 171 [0, 1]), (zj X 171 [0, 1]), (zj X 171 [0, 1]), (zla 0 <| zgi 11 8 <| zif (fun x => x = 0) (zc (.int 0) <| zj X 127 []) <| zla 0 <| zgR 11 6 <| zgR 4 0 <| zcv mc ms 0 0 wX0_manyMen <| kX11_status_123 mc ms X Q), (zla 0 <| zgi 11 8 <| zif (fun x => x = 0) (zc (.int 0) <| zj X 146 []) <| zla 0 <| zgR 11 6 <| zcv mc ms 4 0 wX4_different <| kX11_status_142 mc ms X Q), (zla 0 <| zgi 11 8 <| zif (fun x => x = 0) (zc (.int 0) <| zj X 165 []) <| zla 0 <| zgR 11 6 <| zcv mc ms 4 0 wX4_greatestCount <| kX11_status_161 mc ms X Q), (zla 0 <| zgi 11 12 <| zri Q)] <| zj X 171 [0, 1]
def aX11_status_105 (mc ms : Nat) (X : Nat → zV) (Q : zQt) : zT :=
  zri Q
def aX11_status_127 (mc ms : Nat) (X : Nat → zV) (Q : zQt) : zT :=
  zri Q
def aX11_status_146 (mc ms : Nat) (X : Nat → zV) (Q : zQt) : zT :=
  zri Q
def aX11_status_165 (mc ms : Nat) (X : Nat → zV) (Q : zQt) : zT :=
  zri Q
def aX11_status_171 (mc ms : Nat) (X : Nat → zV) (Q : zQt) : zT :=
  zla 0 <| zgi 11 8 <| zif (fun x => x = 0) (zc (.int (-1)) <| zj X 187 []) <| zla 0 <| zli 1 <| zcv mc ms 11 1 wX11_ofPosition <| kX11_status_183 mc ms X Q
def aX11_status_187 (mc ms : Nat) (X : Nat → zV) (Q : zQt) : zT :=
  zri Q
def lvX11_status : Nat → List Nat := fun L => match L with
  | 0 => [0, 1]
  | 105 => []
  | 127 => []
  | 146 => []
  | 165 => []
  | 171 => [0, 1]
  | 187 => []
  | _ => []
def wX11_status : zSp := fun mc ms av M Q => ((zlay av).length ≤ 2 ∧ zpick (zlay av) [0, 1] = some av) ∧ ∀ X : Nat → zV, zin 2 [0, 1] (aX11_status_0 mc ms X Q) X 0 → zin 2 [] (aX11_status_105 mc ms X Q) X 105 → zin 2 [] (aX11_status_127 mc ms X Q) X 127 → zin 2 [] (aX11_status_146 mc ms X Q) X 146 → zin 2 [] (aX11_status_165 mc ms X Q) X 165 → zin 2 [0, 1] (aX11_status_171 mc ms X Q) X 171 → zin 2 [] (aX11_status_187 mc ms X Q) X 187 → X 0 0 0 av [] M
set_option maxRecDepth 100000 in
set_option maxHeartbeats 4000000 in
theorem sX11_status (l : Launch) (G : zG) : zSnd l G yX11_status cX11_status 2 (some .int) 2 43 wX11_status := by
  refine zmk [0, 1] (by decide) (fun mc ms av M Q h => h.1) ?_
  intro p e R s m args below meth c mc ms av M Q hC hRf hRl hr hnm h lv hlv
  obtain ⟨X, hXe⟩ : ∃ X : Nat → zV, X = fun L u v vs st M => ∀ lv, zpick lv (lvX11_status L) = some vs → zAt p l e R s m args below meth c (MQ below (zQ G Q) args s mc ms (zA G)) G 2 L u v lv st M := ⟨_, rfl⟩
  have hJ : ∀ L, zOk p l e R s m args below meth c (MQ below (zQ G Q) args s mc ms (zA G)) G 2 L (zj X L (lvX11_status L)) := fun L => S_jump (fun u v lv vs st M hp hx => by rw [hXe] at hx; exact hx lv hp)
  have hB0 : zin 2 [0, 1] (aX11_status_0 mc ms X Q) X 0 := by
    intro u v vs st M hb
    rw [hXe]
    refine fun lv hp => S_block (L := 0) (live := [0, 1]) ?_ u v lv vs st M hp hb
    unfold aX11_status_0
    refine S_iload_n (pc := 0) hC dX11_status_0 rfl ?_
    refine S_table (pc := 1) (tgd := 171) hC dX11_status_1 (by decide) ?_ (fun i hi => ?_)
    · exact hJ 171
    · match i, hi with
        | 0, _ =>
          refine ⟨_, 72, _, rfl, by decide, rfl, ?_⟩
          refine S_aload_n (pc := 72) hC dX11_status_72 rfl ?_
          refine S_geti (pc := 73) hC cfX11 (by decide) (Or.inl rfl) wd_355 dX11_status_73 ?_
          exact S_ireturn (pc := 76) hC hr dX11_status_76
        | 1, _ =>
          refine ⟨_, 77, _, rfl, by decide, rfl, ?_⟩
          refine S_aload_n (pc := 77) hC dX11_status_77 rfl ?_
          refine S_geti (pc := 78) hC cfX11 (by decide) (Or.inl rfl) wd_356 dX11_status_78 ?_
          exact S_ireturn (pc := 81) hC hr dX11_status_81
        | 2, _ =>
          refine ⟨_, 82, _, rfl, by decide, rfl, ?_⟩
          refine S_aload_n (pc := 82) hC dX11_status_82 rfl ?_
          refine S_geti (pc := 83) hC cfX11 (by decide) (Or.inl rfl) wd_357 dX11_status_83 ?_
          exact S_ireturn (pc := 86) hC hr dX11_status_86
        | 3, _ =>
          refine ⟨_, 87, _, rfl, by decide, rfl, ?_⟩
          refine S_aload_n (pc := 87) hC dX11_status_87 rfl ?_
          refine S_geti (pc := 88) hC cfX11 (by decide) (Or.inr rfl) wd_354 dX11_status_88 ?_
          refine S_if_eq (pc := 91) (tgt := 104) hC dX11_status_91 (by decide) ?_ ?_
          · refine S_iconst (pc := 104) hC dX11_status_104 (by decide) ?_
            exact hJ 105
          · refine S_aload_n (pc := 94) hC dX11_status_94 rfl ?_
            refine S_getR (pc := 95) hC cfX11 (by decide) (Or.inl ⟨_, rfl⟩) wd_352 dX11_status_95 ?_
            refine S_geti (pc := 98) hC cfX4 (by decide) (Or.inl rfl) wd_327 dX11_status_98 ?_
            refine S_goto (pc := 101) (tgt := 105) hC dX11_status_101 (by decide) ?_
            exact hJ 105
        | 4, _ =>
          refine ⟨_, 171, _, rfl, by decide, rfl, ?_⟩
          exact hJ 171
        | 5, _ =>
          refine ⟨_, 171, _, rfl, by decide, rfl, ?_⟩
          exact hJ 171
        | 6, _ =>
          refine ⟨_, 171, _, rfl, by decide, rfl, ?_⟩
          exact hJ 171
        | 7, _ =>
          refine ⟨_, 171, _, rfl, by decide, rfl, ?_⟩
          exact hJ 171
        | 8, _ =>
          refine ⟨_, 171, _, rfl, by decide, rfl, ?_⟩
          exact hJ 171
        | 9, _ =>
          refine ⟨_, 171, _, rfl, by decide, rfl, ?_⟩
          exact hJ 171
        | 10, _ =>
          refine ⟨_, 106, _, rfl, by decide, rfl, ?_⟩
          refine S_aload_n (pc := 106) hC dX11_status_106 rfl ?_
          refine S_geti (pc := 107) hC cfX11 (by decide) (Or.inr rfl) wd_354 dX11_status_107 ?_
          refine S_if_eq (pc := 110) (tgt := 126) hC dX11_status_110 (by decide) ?_ ?_
          · refine S_iconst (pc := 126) hC dX11_status_126 (by decide) ?_
            exact hJ 127
          · refine S_aload_n (pc := 113) hC dX11_status_113 rfl ?_
            refine S_getR (pc := 114) hC cfX11 (by decide) (Or.inl ⟨_, rfl⟩) wd_352 dX11_status_114 ?_
            refine S_getR (pc := 117) hC cfX4 (by decide) (Or.inl ⟨_, rfl⟩) wd_311 dX11_status_117 ?_
            refine S_callV (pc := 120) hC (sX0_manyMen l G) rfl wd_570 wd_571 wd_572 wd_10 wd_573 (by decide +kernel) ⟨by rw [hRf]; decide, by rw [hRl]; decide⟩ dX11_status_120 ?_
            unfold kX11_status_123
            refine S_goto (pc := 123) (tgt := 127) hC dX11_status_123 (by decide) ?_
            exact hJ 127
        | 11, _ =>
          refine ⟨_, 128, _, rfl, by decide, rfl, ?_⟩
          refine S_aload_n (pc := 128) hC dX11_status_128 rfl ?_
          refine S_geti (pc := 129) hC cfX11 (by decide) (Or.inr rfl) wd_354 dX11_status_129 ?_
          refine S_if_eq (pc := 132) (tgt := 145) hC dX11_status_132 (by decide) ?_ ?_
          · refine S_iconst (pc := 145) hC dX11_status_145 (by decide) ?_
            exact hJ 146
          · refine S_aload_n (pc := 135) hC dX11_status_135 rfl ?_
            refine S_getR (pc := 136) hC cfX11 (by decide) (Or.inl ⟨_, rfl⟩) wd_352 dX11_status_136 ?_
            refine S_callV (pc := 139) hC (sX4_different l G) rfl wd_574 wd_575 wd_576 wd_9 wd_577 (by decide +kernel) ⟨by rw [hRf]; decide, by rw [hRl]; decide⟩ dX11_status_139 ?_
            unfold kX11_status_142
            refine S_goto (pc := 142) (tgt := 146) hC dX11_status_142 (by decide) ?_
            exact hJ 146
        | 12, _ =>
          refine ⟨_, 147, _, rfl, by decide, rfl, ?_⟩
          refine S_aload_n (pc := 147) hC dX11_status_147 rfl ?_
          refine S_geti (pc := 148) hC cfX11 (by decide) (Or.inr rfl) wd_354 dX11_status_148 ?_
          refine S_if_eq (pc := 151) (tgt := 164) hC dX11_status_151 (by decide) ?_ ?_
          · refine S_iconst (pc := 164) hC dX11_status_164 (by decide) ?_
            exact hJ 165
          · refine S_aload_n (pc := 154) hC dX11_status_154 rfl ?_
            refine S_getR (pc := 155) hC cfX11 (by decide) (Or.inl ⟨_, rfl⟩) wd_352 dX11_status_155 ?_
            refine S_callV (pc := 158) hC (sX4_greatestCount l G) rfl wd_578 wd_579 wd_580 wd_9 wd_581 (by decide +kernel) ⟨by rw [hRf]; decide, by rw [hRl]; decide⟩ dX11_status_158 ?_
            unfold kX11_status_161
            refine S_goto (pc := 161) (tgt := 165) hC dX11_status_161 (by decide) ?_
            exact hJ 165
        | 13, _ =>
          refine ⟨_, 166, _, rfl, by decide, rfl, ?_⟩
          refine S_aload_n (pc := 166) hC dX11_status_166 rfl ?_
          refine S_geti (pc := 167) hC cfX11 (by decide) (Or.inl rfl) wd_358 dX11_status_167 ?_
          exact S_ireturn (pc := 170) hC hr dX11_status_170
        | n + 14, h => exact absurd h (by omega)
  have hB105 : zin 2 [] (aX11_status_105 mc ms X Q) X 105 := by
    intro u v vs st M hb
    rw [hXe]
    refine fun lv hp => S_block (L := 105) (live := []) ?_ u v lv vs st M hp hb
    unfold aX11_status_105
    exact S_ireturn (pc := 105) hC hr dX11_status_105
  have hB127 : zin 2 [] (aX11_status_127 mc ms X Q) X 127 := by
    intro u v vs st M hb
    rw [hXe]
    refine fun lv hp => S_block (L := 127) (live := []) ?_ u v lv vs st M hp hb
    unfold aX11_status_127
    exact S_ireturn (pc := 127) hC hr dX11_status_127
  have hB146 : zin 2 [] (aX11_status_146 mc ms X Q) X 146 := by
    intro u v vs st M hb
    rw [hXe]
    refine fun lv hp => S_block (L := 146) (live := []) ?_ u v lv vs st M hp hb
    unfold aX11_status_146
    exact S_ireturn (pc := 146) hC hr dX11_status_146
  have hB165 : zin 2 [] (aX11_status_165 mc ms X Q) X 165 := by
    intro u v vs st M hb
    rw [hXe]
    refine fun lv hp => S_block (L := 165) (live := []) ?_ u v lv vs st M hp hb
    unfold aX11_status_165
    exact S_ireturn (pc := 165) hC hr dX11_status_165
  have hB171 : zin 2 [0, 1] (aX11_status_171 mc ms X Q) X 171 := by
    intro u v vs st M hb
    rw [hXe]
    refine fun lv hp => S_block (L := 171) (live := [0, 1]) ?_ u v lv vs st M hp hb
    unfold aX11_status_171
    refine S_aload_n (pc := 171) hC dX11_status_171 rfl ?_
    refine S_geti (pc := 172) hC cfX11 (by decide) (Or.inr rfl) wd_354 dX11_status_172 ?_
    refine S_if_eq (pc := 175) (tgt := 186) hC dX11_status_175 (by decide) ?_ ?_
    · refine S_iconst (pc := 186) hC dX11_status_186 (by decide) ?_
      exact hJ 187
    · refine S_aload_n (pc := 178) hC dX11_status_178 rfl ?_
      refine S_iload_n (pc := 179) hC dX11_status_179 rfl ?_
      refine S_callV (pc := 180) hC (sX11_ofPosition l G) rfl wd_585 wd_587 ws_12 wd_1 wd_588 (by decide +kernel) ⟨by rw [hRf]; decide, by rw [hRl]; decide⟩ dX11_status_180 ?_
      unfold kX11_status_183
      refine S_goto (pc := 183) (tgt := 187) hC dX11_status_183 (by decide) ?_
      exact hJ 187
  have hB187 : zin 2 [] (aX11_status_187 mc ms X Q) X 187 := by
    intro u v vs st M hb
    rw [hXe]
    refine fun lv hp => S_block (L := 187) (live := []) ?_ u v lv vs st M hp hb
    unfold aX11_status_187
    exact S_ireturn (pc := 187) hC hr dX11_status_187
  have := h.2 X hB0 hB105 hB127 hB146 hB165 hB171 hB187
  rw [hXe] at this
  exact this lv hlv
theorem vX11_status_0 {mc ms : Nat} {X : Nat → zV} {Q : zQt} {M : zM} {g : Nat} {x1 : Int32} (hW : zWd M g)  (h : ((x1 : Int32).toInt < 0 ∨ 13 < (x1 : Int32).toInt → X 171 0 0 [.ref 16, .int x1] [] M) ∧ ((x1 : Int32).toInt = 0 → Q (some (.int ((M.1 16 9)))) M) ∧ ((x1 : Int32).toInt = 1 → Q (some (.int ((M.1 16 10)))) M) ∧ ((x1 : Int32).toInt = 2 → Q (some (.int ((M.1 16 11)))) M) ∧ ((x1 : Int32).toInt = 3 → ((M.1 16 8) = 0 → X 105 0 0 [] [.int 0] M) ∧ (¬ (M.1 16 8) = 0 → ∃ r95, ((M : zM).2.2.1 16 6) = some r95 ∧ zsh M r95 = some (0, 4) ∧ X 105 0 0 [] [.int (M.1 r95 4)] M)) ∧ ((x1 : Int32).toInt = 4 → X 171 0 0 [.ref 16, .int x1] [] M) ∧ ((x1 : Int32).toInt = 5 → X 171 0 0 [.ref 16, .int x1] [] M) ∧ ((x1 : Int32).toInt = 6 → X 171 0 0 [.ref 16, .int x1] [] M) ∧ ((x1 : Int32).toInt = 7 → X 171 0 0 [.ref 16, .int x1] [] M) ∧ ((x1 : Int32).toInt = 8 → X 171 0 0 [.ref 16, .int x1] [] M) ∧ ((x1 : Int32).toInt = 9 → X 171 0 0 [.ref 16, .int x1] [] M) ∧ ((x1 : Int32).toInt = 10 → ((M.1 16 8) = 0 → X 127 0 0 [] [.int 0] M) ∧ (¬ (M.1 16 8) = 0 → ∃ r114, ((M : zM).2.2.1 16 6) = some r114 ∧ zsh M r114 = some (0, 4) ∧ ∃ r117, ((M : zM).2.2.1 r114 0) = some r117 ∧ zsh M r117 = some (0, 0) ∧ wX0_manyMen 0 0 [.ref r117] M (fun r M1 => kX11_status_123 mc ms X Q 0 0 [some (.ref 16), some (.int x1)] (r.toList ++ []) M1))) ∧ ((x1 : Int32).toInt = 11 → ((M.1 16 8) = 0 → X 146 0 0 [] [.int 0] M) ∧ (¬ (M.1 16 8) = 0 → ∃ r136, ((M : zM).2.2.1 16 6) = some r136 ∧ zsh M r136 = some (0, 4) ∧ wX4_different 0 0 [.ref r136] M (fun r M1 => kX11_status_142 mc ms X Q 0 0 [some (.ref 16), some (.int x1)] (r.toList ++ []) M1))) ∧ ((x1 : Int32).toInt = 12 → ((M.1 16 8) = 0 → X 165 0 0 [] [.int 0] M) ∧ (¬ (M.1 16 8) = 0 → ∃ r155, ((M : zM).2.2.1 16 6) = some r155 ∧ zsh M r155 = some (0, 4) ∧ wX4_greatestCount 0 0 [.ref r155] M (fun r M1 => kX11_status_161 mc ms X Q 0 0 [some (.ref 16), some (.int x1)] (r.toList ++ []) M1))) ∧ ((x1 : Int32).toInt = 13 → Q (some (.int ((M.1 16 12)))) M)) : aX11_status_0 mc ms X Q 0 0 [some (.ref 16), some (.int x1)] [] M := ⟨fun c1 => (h.1 c1), ⟨fun c1 => ⟨(fxs_16 hW.1), (h.2.1 c1)⟩, ⟨fun c1 => ⟨(fxs_16 hW.1), (h.2.2.1 c1)⟩, ⟨fun c1 => ⟨(fxs_16 hW.1), (h.2.2.2.1 c1)⟩, ⟨fun c1 => ⟨(fxs_16 hW.1), ⟨fun c91 => ((h.2.2.2.2.1 c1).1 c91), fun c91 => (let ⟨r95, q95, hr95, h95⟩ := ((h.2.2.2.2.1 c1).2 c91); ⟨(fxs_16 hW.1), r95, q95, ⟨hr95, h95⟩⟩)⟩⟩, ⟨fun c1 => (h.2.2.2.2.2.1 c1), ⟨fun c1 => (h.2.2.2.2.2.2.1 c1), ⟨fun c1 => (h.2.2.2.2.2.2.2.1 c1), ⟨fun c1 => (h.2.2.2.2.2.2.2.2.1 c1), ⟨fun c1 => (h.2.2.2.2.2.2.2.2.2.1 c1), ⟨fun c1 => (h.2.2.2.2.2.2.2.2.2.2.1 c1), ⟨fun c1 => ⟨(fxs_16 hW.1), ⟨fun c110 => ((h.2.2.2.2.2.2.2.2.2.2.2.1 c1).1 c110), fun c110 => (let ⟨r114, q114, hr114, h114⟩ := ((h.2.2.2.2.2.2.2.2.2.2.2.1 c1).2 c110); ⟨(fxs_16 hW.1), r114, q114, (let ⟨r117, q117, hr117, h117⟩ := h114; ⟨hr114, r117, q117, ⟨Nat.le_of_ble_eq_true rfl, rfl, hr117, 0, 0, Nat.zero_le _, Nat.zero_le _, h117⟩⟩)⟩)⟩⟩, ⟨fun c1 => ⟨(fxs_16 hW.1), ⟨fun c132 => ((h.2.2.2.2.2.2.2.2.2.2.2.2.1 c1).1 c132), fun c132 => (let ⟨r136, q136, hr136, h136⟩ := ((h.2.2.2.2.2.2.2.2.2.2.2.2.1 c1).2 c132); ⟨(fxs_16 hW.1), r136, q136, ⟨Nat.le_of_ble_eq_true rfl, rfl, hr136, 0, 0, Nat.zero_le _, Nat.zero_le _, h136⟩⟩)⟩⟩, ⟨fun c1 => ⟨(fxs_16 hW.1), ⟨fun c151 => ((h.2.2.2.2.2.2.2.2.2.2.2.2.2.1 c1).1 c151), fun c151 => (let ⟨r155, q155, hr155, h155⟩ := ((h.2.2.2.2.2.2.2.2.2.2.2.2.2.1 c1).2 c151); ⟨(fxs_16 hW.1), r155, q155, ⟨Nat.le_of_ble_eq_true rfl, rfl, hr155, 0, 0, Nat.zero_le _, Nat.zero_le _, h155⟩⟩)⟩⟩, ⟨fun c1 => ⟨(fxs_16 hW.1), (h.2.2.2.2.2.2.2.2.2.2.2.2.2.2 c1)⟩, trivial⟩⟩⟩⟩⟩⟩⟩⟩⟩⟩⟩⟩⟩⟩⟩
theorem vX11_status_105 {mc ms : Nat} {X : Nat → zV} {Q : zQt} {M : zM} {g : Nat} {s0 : Int32} (hW : zWd M g)  (h : Q (some (.int s0)) M) : aX11_status_105 mc ms X Q 0 0 [none, none] [.int s0] M := h
theorem vX11_status_127 {mc ms : Nat} {X : Nat → zV} {Q : zQt} {M : zM} {g : Nat} {s0 : Int32} (hW : zWd M g)  (h : Q (some (.int s0)) M) : aX11_status_127 mc ms X Q 0 0 [none, none] [.int s0] M := h
theorem vX11_status_146 {mc ms : Nat} {X : Nat → zV} {Q : zQt} {M : zM} {g : Nat} {s0 : Int32} (hW : zWd M g)  (h : Q (some (.int s0)) M) : aX11_status_146 mc ms X Q 0 0 [none, none] [.int s0] M := h
theorem vX11_status_165 {mc ms : Nat} {X : Nat → zV} {Q : zQt} {M : zM} {g : Nat} {s0 : Int32} (hW : zWd M g)  (h : Q (some (.int s0)) M) : aX11_status_165 mc ms X Q 0 0 [none, none] [.int s0] M := h
theorem vX11_status_171 {mc ms : Nat} {X : Nat → zV} {Q : zQt} {M : zM} {g : Nat} {x1 : Int32} (hW : zWd M g)  (h : ((M.1 16 8) = 0 → X 187 0 0 [] [.int (-1)] M) ∧ (¬ (M.1 16 8) = 0 → wX11_ofPosition 0 0 [.ref 16, .int x1] M (fun r M1 => kX11_status_183 mc ms X Q 0 0 [some (.ref 16), some (.int x1)] (r.toList ++ []) M1))) : aX11_status_171 mc ms X Q 0 0 [some (.ref 16), some (.int x1)] [] M := ⟨(fxs_16 hW.1), ⟨fun c175 => (h.1 c175), fun c175 => ⟨Nat.le_of_ble_eq_true rfl, rfl, (fxs_16 hW.1), 0, 0, Nat.zero_le _, Nat.zero_le _, (h.2 c175)⟩⟩⟩
theorem vX11_status_187 {mc ms : Nat} {X : Nat → zV} {Q : zQt} {M : zM} {g : Nat} {s0 : Int32} (hW : zWd M g)  (h : Q (some (.int s0)) M) : aX11_status_187 mc ms X Q 0 0 [none, none] [.int s0] M := h
theorem vkX11_status_123 {mc ms : Nat} {X : Nat → zV} {Q : zQt} {M : zM} {g : Nat} {x1 : Int32} {s0 : Int32} (hW : zWd M g)  (h : X 127 0 0 [] [.int s0] M) : kX11_status_123 mc ms X Q 0 0 [some (.ref 16), some (.int x1)] [.int s0] M := h
theorem vkX11_status_142 {mc ms : Nat} {X : Nat → zV} {Q : zQt} {M : zM} {g : Nat} {x1 : Int32} {s0 : Int32} (hW : zWd M g)  (h : X 146 0 0 [] [.int s0] M) : kX11_status_142 mc ms X Q 0 0 [some (.ref 16), some (.int x1)] [.int s0] M := h
theorem vkX11_status_161 {mc ms : Nat} {X : Nat → zV} {Q : zQt} {M : zM} {g : Nat} {x1 : Int32} {s0 : Int32} (hW : zWd M g)  (h : X 165 0 0 [] [.int s0] M) : kX11_status_161 mc ms X Q 0 0 [some (.ref 16), some (.int x1)] [.int s0] M := h
theorem vkX11_status_183 {mc ms : Nat} {X : Nat → zV} {Q : zQt} {M : zM} {g : Nat} {x1 : Int32} {s0 : Int32} (hW : zWd M g)  (h : X 187 0 0 [] [.int s0] M) : kX11_status_183 mc ms X Q 0 0 [some (.ref 16), some (.int x1)] [.int s0] M := h
theorem dX12_init_0 : decode cX12_init 0 = .ok (.aload_n 0, 1) := by decide +kernel
theorem dX12_init_1 : decode cX12_init 1 = .ok (.invokespecial 3, 3) := by decide +kernel
theorem dX12_init_4 : decode cX12_init 4 = .ok (.aload_n 0, 1) := by decide +kernel
theorem dX12_init_5 : decode cX12_init 5 = .ok (.bipush 8, 2) := by decide +kernel
theorem dX12_init_7 : decode cX12_init 7 = .ok (.putfield 9, 3) := by decide +kernel
theorem dX12_init_10 : decode cX12_init 10 = .ok (.aload_n 0, 1) := by decide +kernel
theorem dX12_init_11 : decode cX12_init 11 = .ok (.bipush 64, 2) := by decide +kernel
theorem dX12_init_13 : decode cX12_init 13 = .ok (.putfield 15, 3) := by decide +kernel
theorem dX12_init_16 : decode cX12_init 16 = .ok (.aload_n 0, 1) := by decide +kernel
theorem dX12_init_17 : decode cX12_init 17 = .ok (.bipush 6, 2) := by decide +kernel
theorem dX12_init_19 : decode cX12_init 19 = .ok (.newarray .boolean, 2) := by decide +kernel
theorem dX12_init_21 : decode cX12_init 21 = .ok (.putfield 18, 3) := by decide +kernel
theorem dX12_init_24 : decode cX12_init 24 = .ok (.aload_n 0, 1) := by decide +kernel
theorem dX12_init_25 : decode cX12_init 25 = .ok (.bipush 6, 2) := by decide +kernel
theorem dX12_init_27 : decode cX12_init 27 = .ok (.newarray .int, 2) := by decide +kernel
theorem dX12_init_29 : decode cX12_init 29 = .ok (.putfield 22, 3) := by decide +kernel
theorem dX12_init_32 : decode cX12_init 32 = .ok (.aload_n 0, 1) := by decide +kernel
theorem dX12_init_33 : decode cX12_init 33 = .ok (.sipush 512, 3) := by decide +kernel
theorem dX12_init_36 : decode cX12_init 36 = .ok (.newarray .int, 2) := by decide +kernel
theorem dX12_init_38 : decode cX12_init 38 = .ok (.putfield 26, 3) := by decide +kernel
theorem dX12_init_41 : decode cX12_init 41 = .ok (.aload_n 0, 1) := by decide +kernel
theorem dX12_init_42 : decode cX12_init 42 = .ok (.sipush 128, 3) := by decide +kernel
theorem dX12_init_45 : decode cX12_init 45 = .ok (.newarray .int, 2) := by decide +kernel
theorem dX12_init_47 : decode cX12_init 47 = .ok (.putfield 29, 3) := by decide +kernel
theorem dX12_init_50 : decode cX12_init 50 = .ok (.aload_n 0, 1) := by decide +kernel
theorem dX12_init_51 : decode cX12_init 51 = .ok (.bipush 64, 2) := by decide +kernel
theorem dX12_init_53 : decode cX12_init 53 = .ok (.newarray .int, 2) := by decide +kernel
theorem dX12_init_55 : decode cX12_init 55 = .ok (.putfield 32, 3) := by decide +kernel
theorem dX12_init_58 : decode cX12_init 58 = .ok (.aload_n 0, 1) := by decide +kernel
theorem dX12_init_59 : decode cX12_init 59 = .ok (.bipush 64, 2) := by decide +kernel
theorem dX12_init_61 : decode cX12_init 61 = .ok (.newarray .int, 2) := by decide +kernel
theorem dX12_init_63 : decode cX12_init 63 = .ok (.putfield 35, 3) := by decide +kernel
theorem dX12_init_66 : decode cX12_init 66 = .ok (.aload_n 0, 1) := by decide +kernel
theorem dX12_init_67 : decode cX12_init 67 = .ok (.bipush 64, 2) := by decide +kernel
theorem dX12_init_69 : decode cX12_init 69 = .ok (.newarray .int, 2) := by decide +kernel
theorem dX12_init_71 : decode cX12_init 71 = .ok (.putfield 38, 3) := by decide +kernel
theorem dX12_init_74 : decode cX12_init 74 = .ok (.aload_n 0, 1) := by decide +kernel
theorem dX12_init_75 : decode cX12_init 75 = .ok (.bipush 64, 2) := by decide +kernel
theorem dX12_init_77 : decode cX12_init 77 = .ok (.newarray .int, 2) := by decide +kernel
theorem dX12_init_79 : decode cX12_init 79 = .ok (.putfield 41, 3) := by decide +kernel
theorem dX12_init_82 : decode cX12_init 82 = .ok (.aload_n 0, 1) := by decide +kernel
theorem dX12_init_83 : decode cX12_init 83 = .ok (.bipush 64, 2) := by decide +kernel
theorem dX12_init_85 : decode cX12_init 85 = .ok (.newarray .int, 2) := by decide +kernel
theorem dX12_init_87 : decode cX12_init 87 = .ok (.putfield 44, 3) := by decide +kernel
theorem dX12_init_90 : decode cX12_init 90 = .ok (.aload_n 0, 1) := by decide +kernel
theorem dX12_init_91 : decode cX12_init 91 = .ok (.invokevirtual 47, 3) := by decide +kernel
theorem dX12_init_94 : decode cX12_init 94 = .ok (.return_, 1) := by decide +kernel
def kX12_init_94 (mc ms : Nat) (X : Nat → zV) (Q : zQt) : zT :=
  zrv Q
def aX12_init_0 (mc ms : Nat) (X : Nat → zV) (Q : zQt) : zT :=
  zla 0 <| zoi <| zla 0 <| zc (.int 8) <| zpi 12 0 <| zla 0 <| zc (.int 64) <| zpi 12 1 <| zla 0 <| zc (.int 6) <| zna mc ms 5 <| zpr 12 2 <| zla 0 <| zc (.int 6) <| zna mc ms 1 <| zpr 12 3 <| zla 0 <| zc (.int 512) <| zna mc ms 1 <| zpr 12 9 <| zla 0 <| zc (.int 128) <| zna mc ms 1 <| zpr 12 10 <| zla 0 <| zc (.int 64) <| zna mc ms 1 <| zpr 12 12 <| zla 0 <| zc (.int 64) <| zna mc ms 1 <| zpr 12 13 <| zla 0 <| zc (.int 64) <| zna mc ms 1 <| zpr 12 14 <| zla 0 <| zc (.int 64) <| zna mc ms 1 <| zpr 12 15 <| zla 0 <| zc (.int 64) <| zna mc ms 1 <| zpr 12 16 <| zla 0 <| zcv mc ms 12 0 wX12_turn <| kX12_init_94 mc ms X Q
def lvX12_init : Nat → List Nat := fun L => match L with
  | 0 => [0]
  | _ => []
def wX12_init : zSp := fun mc ms av M Q => ((zlay av).length ≤ 1 ∧ zpick (zlay av) [0] = some av) ∧ ∀ X : Nat → zV, zin 1 [0] (aX12_init_0 mc ms X Q) X 0 → X 0 0 0 av [] M
set_option maxRecDepth 100000 in
set_option maxHeartbeats 4000000 in
theorem sX12_init (l : Launch) (G : zG) : zSnd l G yX12_init cX12_init 1 none 1 28 wX12_init := by
  refine zmk [0] (by decide) (fun mc ms av M Q h => h.1) ?_
  intro p e R s m args below meth c mc ms av M Q hC hRf hRl hr hnm h lv hlv
  obtain ⟨X, hXe⟩ : ∃ X : Nat → zV, X = fun L u v vs st M => ∀ lv, zpick lv (lvX12_init L) = some vs → zAt p l e R s m args below meth c (MQ below (zQ G Q) args s mc ms (zA G)) G 1 L u v lv st M := ⟨_, rfl⟩
  have hJ : ∀ L, zOk p l e R s m args below meth c (MQ below (zQ G Q) args s mc ms (zA G)) G 1 L (zj X L (lvX12_init L)) := fun L => S_jump (fun u v lv vs st M hp hx => by rw [hXe] at hx; exact hx lv hp)
  have hB0 : zin 1 [0] (aX12_init_0 mc ms X Q) X 0 := by
    intro u v vs st M hb
    rw [hXe]
    refine fun lv hp => S_block (L := 0) (live := [0]) ?_ u v lv vs st M hp hb
    unfold aX12_init_0
    refine S_aload_n (pc := 0) hC dX12_init_0 rfl ?_
    refine S_objInit (pc := 1) hC wd_1197 wd_35 wd_36 (by rw [hRf]; decide) (by rw [hRl]; decide) dX12_init_1 ?_
    refine S_aload_n (pc := 4) hC dX12_init_4 rfl ?_
    refine S_bipush (pc := 5) hC dX12_init_5 (by decide) ?_
    refine S_puti (pc := 7) hC cfX12 (by decide) rfl (Or.inr ⟨rfl, hnm, rfl⟩) wd_1202 dX12_init_7 ?_
    refine S_aload_n (pc := 10) hC dX12_init_10 rfl ?_
    refine S_bipush (pc := 11) hC dX12_init_11 (by decide) ?_
    refine S_puti (pc := 13) hC cfX12 (by decide) rfl (Or.inr ⟨rfl, hnm, rfl⟩) wd_1203 dX12_init_13 ?_
    refine S_aload_n (pc := 16) hC dX12_init_16 rfl ?_
    refine S_bipush (pc := 17) hC dX12_init_17 (by decide) ?_
    refine S_newa_boolean (pc := 19) hC wd_1254 dX12_init_19 ?_
    refine S_putr (pc := 21) hC cfX12 (by decide) (Or.inr ⟨_, rfl⟩) (Or.inr ⟨rfl, hnm, rfl⟩) wd_1204 dX12_init_21 ?_
    refine S_aload_n (pc := 24) hC dX12_init_24 rfl ?_
    refine S_bipush (pc := 25) hC dX12_init_25 (by decide) ?_
    refine S_newa_int (pc := 27) hC wd_100 dX12_init_27 ?_
    refine S_putr (pc := 29) hC cfX12 (by decide) (Or.inr ⟨_, rfl⟩) (Or.inr ⟨rfl, hnm, rfl⟩) wd_1205 dX12_init_29 ?_
    refine S_aload_n (pc := 32) hC dX12_init_32 rfl ?_
    refine S_sipush (pc := 33) hC dX12_init_33 (by decide) ?_
    refine S_newa_int (pc := 36) hC wd_100 dX12_init_36 ?_
    refine S_putr (pc := 38) hC cfX12 (by decide) (Or.inr ⟨_, rfl⟩) (Or.inr ⟨rfl, hnm, rfl⟩) wd_1211 dX12_init_38 ?_
    refine S_aload_n (pc := 41) hC dX12_init_41 rfl ?_
    refine S_sipush (pc := 42) hC dX12_init_42 (by decide) ?_
    refine S_newa_int (pc := 45) hC wd_100 dX12_init_45 ?_
    refine S_putr (pc := 47) hC cfX12 (by decide) (Or.inr ⟨_, rfl⟩) (Or.inr ⟨rfl, hnm, rfl⟩) wd_1212 dX12_init_47 ?_
    refine S_aload_n (pc := 50) hC dX12_init_50 rfl ?_
    refine S_bipush (pc := 51) hC dX12_init_51 (by decide) ?_
    refine S_newa_int (pc := 53) hC wd_100 dX12_init_53 ?_
    refine S_putr (pc := 55) hC cfX12 (by decide) (Or.inr ⟨_, rfl⟩) (Or.inr ⟨rfl, hnm, rfl⟩) wd_1214 dX12_init_55 ?_
    refine S_aload_n (pc := 58) hC dX12_init_58 rfl ?_
    refine S_bipush (pc := 59) hC dX12_init_59 (by decide) ?_
    refine S_newa_int (pc := 61) hC wd_100 dX12_init_61 ?_
    refine S_putr (pc := 63) hC cfX12 (by decide) (Or.inr ⟨_, rfl⟩) (Or.inr ⟨rfl, hnm, rfl⟩) wd_1215 dX12_init_63 ?_
    refine S_aload_n (pc := 66) hC dX12_init_66 rfl ?_
    refine S_bipush (pc := 67) hC dX12_init_67 (by decide) ?_
    refine S_newa_int (pc := 69) hC wd_100 dX12_init_69 ?_
    refine S_putr (pc := 71) hC cfX12 (by decide) (Or.inr ⟨_, rfl⟩) (Or.inr ⟨rfl, hnm, rfl⟩) wd_1216 dX12_init_71 ?_
    refine S_aload_n (pc := 74) hC dX12_init_74 rfl ?_
    refine S_bipush (pc := 75) hC dX12_init_75 (by decide) ?_
    refine S_newa_int (pc := 77) hC wd_100 dX12_init_77 ?_
    refine S_putr (pc := 79) hC cfX12 (by decide) (Or.inr ⟨_, rfl⟩) (Or.inr ⟨rfl, hnm, rfl⟩) wd_1217 dX12_init_79 ?_
    refine S_aload_n (pc := 82) hC dX12_init_82 rfl ?_
    refine S_bipush (pc := 83) hC dX12_init_83 (by decide) ?_
    refine S_newa_int (pc := 85) hC wd_100 dX12_init_85 ?_
    refine S_putr (pc := 87) hC cfX12 (by decide) (Or.inr ⟨_, rfl⟩) (Or.inr ⟨rfl, hnm, rfl⟩) wd_1218 dX12_init_87 ?_
    refine S_aload_n (pc := 90) hC dX12_init_90 rfl ?_
    refine S_callV (pc := 91) hC (sX12_turn l G) rfl wd_1198 wd_1200 ws_52 wd_13 wd_1201 (by decide +kernel) ⟨by rw [hRf]; decide, by rw [hRl]; decide⟩ dX12_init_91 ?_
    unfold kX12_init_94
    exact S_vreturn (pc := 94) hC hr dX12_init_94
  have := h.2 X hB0
  rw [hXe] at this
  exact this lv hlv
theorem dX12_movesOf_0 : decode cX12_movesOf 0 = .ok (.aload_n 0, 1) := by decide +kernel
theorem dX12_movesOf_1 : decode cX12_movesOf 1 = .ok (.iconst 0, 1) := by decide +kernel
theorem dX12_movesOf_2 : decode cX12_movesOf 2 = .ok (.putfield 66, 3) := by decide +kernel
theorem dX12_movesOf_5 : decode cX12_movesOf 5 = .ok (.iload 5, 2) := by decide +kernel
theorem dX12_movesOf_7 : decode cX12_movesOf 7 = .ok (.ifCond .ne 13, 3) := by decide +kernel
theorem dX12_movesOf_10 : decode cX12_movesOf 10 = .ok (.aload_n 0, 1) := by decide +kernel
theorem dX12_movesOf_11 : decode cX12_movesOf 11 = .ok (.iload_n 1, 1) := by decide +kernel
theorem dX12_movesOf_12 : decode cX12_movesOf 12 = .ok (.iload_n 2, 1) := by decide +kernel
theorem dX12_movesOf_13 : decode cX12_movesOf 13 = .ok (.iload_n 3, 1) := by decide +kernel
theorem dX12_movesOf_14 : decode cX12_movesOf 14 = .ok (.iload 4, 2) := by decide +kernel
theorem dX12_movesOf_16 : decode cX12_movesOf 16 = .ok (.invokevirtual 81, 3) := by decide +kernel
theorem dX12_movesOf_19 : decode cX12_movesOf 19 = .ok (.return_, 1) := by decide +kernel
theorem dX12_movesOf_20 : decode cX12_movesOf 20 = .ok (.aload_n 0, 1) := by decide +kernel
theorem dX12_movesOf_21 : decode cX12_movesOf 21 = .ok (.iload_n 1, 1) := by decide +kernel
theorem dX12_movesOf_22 : decode cX12_movesOf 22 = .ok (.iload_n 2, 1) := by decide +kernel
theorem dX12_movesOf_23 : decode cX12_movesOf 23 = .ok (.iload_n 3, 1) := by decide +kernel
theorem dX12_movesOf_24 : decode cX12_movesOf 24 = .ok (.iload 4, 2) := by decide +kernel
theorem dX12_movesOf_26 : decode cX12_movesOf 26 = .ok (.invokevirtual 85, 3) := by decide +kernel
theorem dX12_movesOf_29 : decode cX12_movesOf 29 = .ok (.iload_n 1, 1) := by decide +kernel
theorem dX12_movesOf_30 : decode cX12_movesOf 30 = .ok (.iconst 1, 1) := by decide +kernel
theorem dX12_movesOf_31 : decode cX12_movesOf 31 = .ok (.if_icmp .ne 12, 3) := by decide +kernel
theorem dX12_movesOf_34 : decode cX12_movesOf 34 = .ok (.aload_n 0, 1) := by decide +kernel
theorem dX12_movesOf_35 : decode cX12_movesOf 35 = .ok (.iload_n 2, 1) := by decide +kernel
theorem dX12_movesOf_36 : decode cX12_movesOf 36 = .ok (.iload_n 3, 1) := by decide +kernel
theorem dX12_movesOf_37 : decode cX12_movesOf 37 = .ok (.iload 4, 2) := by decide +kernel
theorem dX12_movesOf_39 : decode cX12_movesOf 39 = .ok (.invokevirtual 88, 3) := by decide +kernel
theorem dX12_movesOf_42 : decode cX12_movesOf 42 = .ok (.return_, 1) := by decide +kernel
theorem dX12_movesOf_43 : decode cX12_movesOf 43 = .ok (.aload_n 0, 1) := by decide +kernel
theorem dX12_movesOf_44 : decode cX12_movesOf 44 = .ok (.iload_n 1, 1) := by decide +kernel
theorem dX12_movesOf_45 : decode cX12_movesOf 45 = .ok (.iload_n 2, 1) := by decide +kernel
theorem dX12_movesOf_46 : decode cX12_movesOf 46 = .ok (.iload_n 3, 1) := by decide +kernel
theorem dX12_movesOf_47 : decode cX12_movesOf 47 = .ok (.iload 4, 2) := by decide +kernel
theorem dX12_movesOf_49 : decode cX12_movesOf 49 = .ok (.invokevirtual 92, 3) := by decide +kernel
theorem dX12_movesOf_52 : decode cX12_movesOf 52 = .ok (.return_, 1) := by decide +kernel
def kX12_movesOf_52 (mc ms : Nat) (X : Nat → zV) (Q : zQt) : zT :=
  zrv Q
def kX12_movesOf_42 (mc ms : Nat) (X : Nat → zV) (Q : zQt) : zT :=
  zrv Q
def kX12_movesOf_29 (mc ms : Nat) (X : Nat → zV) (Q : zQt) : zT :=
  zli 1 <| zc (.int 1) <| zic (fun x y => x = y) (zla 0 <| zli 2 <| zli 3 <| zli 4 <| zcv mc ms 12 3 wX12_pawn <| kX12_movesOf_42 mc ms X Q) <| zla 0 <| zli 1 <| zli 2 <| zli 3 <| zli 4 <| zcv mc ms 12 4 wX12_manMoves <| kX12_movesOf_52 mc ms X Q
def kX12_movesOf_19 (mc ms : Nat) (X : Nat → zV) (Q : zQt) : zT :=
  zrv Q
def aX12_movesOf_0 (mc ms : Nat) (X : Nat → zV) (Q : zQt) : zT :=
  zla 0 <| zc (.int 0) <| zpi 12 11 <| zli 5 <| zif (fun x => x = 0) (zla 0 <| zli 1 <| zli 2 <| zli 3 <| zli 4 <| zcv mc ms 12 4 wX12_weakKing <| kX12_movesOf_19 mc ms X Q) <| zla 0 <| zli 1 <| zli 2 <| zli 3 <| zli 4 <| zcv mc ms 12 4 wX12_strongKing <| kX12_movesOf_29 mc ms X Q
def lvX12_movesOf : Nat → List Nat := fun L => match L with
  | 0 => [0, 1, 2, 3, 4, 5]
  | _ => []
def wX12_movesOf : zSp := fun mc ms av M Q => ((zlay av).length ≤ 6 ∧ zpick (zlay av) [0, 1, 2, 3, 4, 5] = some av) ∧ ∀ X : Nat → zV, zin 6 [0, 1, 2, 3, 4, 5] (aX12_movesOf_0 mc ms X Q) X 0 → X 0 0 0 av [] M
set_option maxRecDepth 100000 in
set_option maxHeartbeats 4000000 in
theorem sX12_movesOf (l : Launch) (G : zG) : zSnd l G yX12_movesOf cX12_movesOf 6 none 4 110 wX12_movesOf := by
  refine zmk [0, 1, 2, 3, 4, 5] (by decide) (fun mc ms av M Q h => h.1) ?_
  intro p e R s m args below meth c mc ms av M Q hC hRf hRl hr hnm h lv hlv
  obtain ⟨X, hXe⟩ : ∃ X : Nat → zV, X = fun L u v vs st M => ∀ lv, zpick lv (lvX12_movesOf L) = some vs → zAt p l e R s m args below meth c (MQ below (zQ G Q) args s mc ms (zA G)) G 6 L u v lv st M := ⟨_, rfl⟩
  have hJ : ∀ L, zOk p l e R s m args below meth c (MQ below (zQ G Q) args s mc ms (zA G)) G 6 L (zj X L (lvX12_movesOf L)) := fun L => S_jump (fun u v lv vs st M hp hx => by rw [hXe] at hx; exact hx lv hp)
  have hB0 : zin 6 [0, 1, 2, 3, 4, 5] (aX12_movesOf_0 mc ms X Q) X 0 := by
    intro u v vs st M hb
    rw [hXe]
    refine fun lv hp => S_block (L := 0) (live := [0, 1, 2, 3, 4, 5]) ?_ u v lv vs st M hp hb
    unfold aX12_movesOf_0
    refine S_aload_n (pc := 0) hC dX12_movesOf_0 rfl ?_
    refine S_iconst (pc := 1) hC dX12_movesOf_1 (by decide) ?_
    refine S_puti (pc := 2) hC cfX12 (by decide) rfl (Or.inl rfl) wd_1213 dX12_movesOf_2 ?_
    refine S_iload (pc := 5) hC dX12_movesOf_5 ?_
    refine S_if_ne (pc := 7) (tgt := 20) hC dX12_movesOf_7 (by decide) ?_ ?_
    · refine S_aload_n (pc := 20) hC dX12_movesOf_20 rfl ?_
      refine S_iload_n (pc := 21) hC dX12_movesOf_21 rfl ?_
      refine S_iload_n (pc := 22) hC dX12_movesOf_22 rfl ?_
      refine S_iload_n (pc := 23) hC dX12_movesOf_23 rfl ?_
      refine S_iload (pc := 24) hC dX12_movesOf_24 ?_
      refine S_callV (pc := 26) hC (sX12_strongKing l G) rfl wd_1747 wd_1749 ws_130 wd_13 wd_1750 (by decide +kernel) ⟨by rw [hRf]; decide, by rw [hRl]; decide⟩ dX12_movesOf_26 ?_
      unfold kX12_movesOf_29
      refine S_iload_n (pc := 29) hC dX12_movesOf_29 rfl ?_
      refine S_iconst (pc := 30) hC dX12_movesOf_30 (by decide) ?_
      refine S_icmp_ne (pc := 31) (tgt := 43) hC dX12_movesOf_31 (by decide) ?_ ?_
      · refine S_aload_n (pc := 43) hC dX12_movesOf_43 rfl ?_
        refine S_iload_n (pc := 44) hC dX12_movesOf_44 rfl ?_
        refine S_iload_n (pc := 45) hC dX12_movesOf_45 rfl ?_
        refine S_iload_n (pc := 46) hC dX12_movesOf_46 rfl ?_
        refine S_iload (pc := 47) hC dX12_movesOf_47 ?_
        refine S_callV (pc := 49) hC (sX12_manMoves l G) rfl wd_1755 wd_1757 ws_132 wd_13 wd_1758 (by decide +kernel) ⟨by rw [hRf]; decide, by rw [hRl]; decide⟩ dX12_movesOf_49 ?_
        unfold kX12_movesOf_52
        exact S_vreturn (pc := 52) hC hr dX12_movesOf_52
      · refine S_aload_n (pc := 34) hC dX12_movesOf_34 rfl ?_
        refine S_iload_n (pc := 35) hC dX12_movesOf_35 rfl ?_
        refine S_iload_n (pc := 36) hC dX12_movesOf_36 rfl ?_
        refine S_iload (pc := 37) hC dX12_movesOf_37 ?_
        refine S_callV (pc := 39) hC (sX12_pawn l G) rfl wd_1751 wd_1753 ws_131 wd_13 wd_1754 (by decide +kernel) ⟨by rw [hRf]; decide, by rw [hRl]; decide⟩ dX12_movesOf_39 ?_
        unfold kX12_movesOf_42
        exact S_vreturn (pc := 42) hC hr dX12_movesOf_42
    · refine S_aload_n (pc := 10) hC dX12_movesOf_10 rfl ?_
      refine S_iload_n (pc := 11) hC dX12_movesOf_11 rfl ?_
      refine S_iload_n (pc := 12) hC dX12_movesOf_12 rfl ?_
      refine S_iload_n (pc := 13) hC dX12_movesOf_13 rfl ?_
      refine S_iload (pc := 14) hC dX12_movesOf_14 ?_
      refine S_callV (pc := 16) hC (sX12_weakKing l G) rfl wd_1735 wd_1737 ws_127 wd_13 wd_1738 (by decide +kernel) ⟨by rw [hRf]; decide, by rw [hRl]; decide⟩ dX12_movesOf_16 ?_
      unfold kX12_movesOf_19
      exact S_vreturn (pc := 19) hC hr dX12_movesOf_19
  have := h.2 X hB0
  rw [hXe] at this
  exact this lv hlv
theorem vX12_movesOf_0 {mc ms : Nat} {X : Nat → zV} {Q : zQt} {M : zM} {x1 : Int32} {x2 : Int32} {x3 : Int32} {x4 : Int32} {x5 : Int32} (hW : zFix M)  (h : ∀ M2 : zM, M2 = (zsI M 71 11 0) → (x5 = 0 → wX12_weakKing 0 0 [.ref 71, .int x1, .int x2, .int x3, .int x4] M2 (fun r M1 => kX12_movesOf_19 mc ms X Q 0 0 [some (.ref 71), some (.int x1), some (.int x2), some (.int x3), some (.int x4), some (.int x5)] (r.toList ++ []) M1)) ∧ (¬ x5 = 0 → wX12_strongKing 0 0 [.ref 71, .int x1, .int x2, .int x3, .int x4] M2 (fun r M1 => kX12_movesOf_29 mc ms X Q 0 0 [some (.ref 71), some (.int x1), some (.int x2), some (.int x3), some (.int x4), some (.int x5)] (r.toList ++ []) M1))) : aX12_movesOf_0 mc ms X Q 0 0 [some (.ref 71), some (.int x1), some (.int x2), some (.int x3), some (.int x4), some (.int x5)] [] M := ⟨(fxs_71 hW), (have h2 := h _ rfl; ⟨fun c7 => ⟨Nat.le_of_ble_eq_true rfl, rfl, (fxs_71 hW), 0, 0, Nat.zero_le _, Nat.zero_le _, (h2.1 c7)⟩, fun c7 => ⟨Nat.le_of_ble_eq_true rfl, rfl, (fxs_71 hW), 0, 0, Nat.zero_le _, Nat.zero_le _, (h2.2 c7)⟩⟩)⟩
theorem vkX12_movesOf_19 {mc ms : Nat} {X : Nat → zV} {Q : zQt} {M : zM} {x1 : Int32} {x2 : Int32} {x3 : Int32} {x4 : Int32} {x5 : Int32} (hW : zFix M)  (h : Q none M) : kX12_movesOf_19 mc ms X Q 0 0 [some (.ref 71), some (.int x1), some (.int x2), some (.int x3), some (.int x4), some (.int x5)] [] M := h
theorem vkX12_movesOf_29 {mc ms : Nat} {X : Nat → zV} {Q : zQt} {M : zM} {x1 : Int32} {x2 : Int32} {x3 : Int32} {x4 : Int32} {x5 : Int32} (hW : zFix M)  (h : (x1 = (1 : Int32) → wX12_pawn 0 0 [.ref 71, .int x2, .int x3, .int x4] M (fun r M1 => kX12_movesOf_42 mc ms X Q 0 0 [some (.ref 71), some (.int x1), some (.int x2), some (.int x3), some (.int x4), some (.int x5)] (r.toList ++ []) M1)) ∧ (¬ x1 = (1 : Int32) → wX12_manMoves 0 0 [.ref 71, .int x1, .int x2, .int x3, .int x4] M (fun r M1 => kX12_movesOf_52 mc ms X Q 0 0 [some (.ref 71), some (.int x1), some (.int x2), some (.int x3), some (.int x4), some (.int x5)] (r.toList ++ []) M1))) : kX12_movesOf_29 mc ms X Q 0 0 [some (.ref 71), some (.int x1), some (.int x2), some (.int x3), some (.int x4), some (.int x5)] [] M := ⟨fun c31 => ⟨Nat.le_of_ble_eq_true rfl, rfl, (fxs_71 hW), 0, 0, Nat.zero_le _, Nat.zero_le _, (h.1 c31)⟩, fun c31 => ⟨Nat.le_of_ble_eq_true rfl, rfl, (fxs_71 hW), 0, 0, Nat.zero_le _, Nat.zero_le _, (h.2 c31)⟩⟩
theorem vkX12_movesOf_42 {mc ms : Nat} {X : Nat → zV} {Q : zQt} {M : zM} {x1 : Int32} {x2 : Int32} {x3 : Int32} {x4 : Int32} {x5 : Int32} (hW : zFix M)  (h : Q none M) : kX12_movesOf_42 mc ms X Q 0 0 [some (.ref 71), some (.int x1), some (.int x2), some (.int x3), some (.int x4), some (.int x5)] [] M := h
theorem vkX12_movesOf_52 {mc ms : Nat} {X : Nat → zV} {Q : zQt} {M : zM} {x1 : Int32} {x2 : Int32} {x3 : Int32} {x4 : Int32} {x5 : Int32} (hW : zFix M)  (h : Q none M) : kX12_movesOf_52 mc ms X Q 0 0 [some (.ref 71), some (.int x1), some (.int x2), some (.int x3), some (.int x4), some (.int x5)] [] M := h
theorem dX12_isMate_0 : decode cX12_isMate 0 = .ok (.aload_n 0, 1) := by decide +kernel
theorem dX12_isMate_1 : decode cX12_isMate 1 = .ok (.iload_n 1, 1) := by decide +kernel
theorem dX12_isMate_2 : decode cX12_isMate 2 = .ok (.iload_n 2, 1) := by decide +kernel
theorem dX12_isMate_3 : decode cX12_isMate 3 = .ok (.iload_n 3, 1) := by decide +kernel
theorem dX12_isMate_4 : decode cX12_isMate 4 = .ok (.iload 4, 2) := by decide +kernel
theorem dX12_isMate_6 : decode cX12_isMate 6 = .ok (.iload 4, 2) := by decide +kernel
theorem dX12_isMate_8 : decode cX12_isMate 8 = .ok (.invokevirtual 62, 3) := by decide +kernel
theorem dX12_isMate_11 : decode cX12_isMate 11 = .ok (.ifCond .ne 5, 3) := by decide +kernel
theorem dX12_isMate_14 : decode cX12_isMate 14 = .ok (.iconst 0, 1) := by decide +kernel
theorem dX12_isMate_15 : decode cX12_isMate 15 = .ok (.ireturn, 1) := by decide +kernel
theorem dX12_isMate_16 : decode cX12_isMate 16 = .ok (.aload_n 0, 1) := by decide +kernel
theorem dX12_isMate_17 : decode cX12_isMate 17 = .ok (.iload_n 1, 1) := by decide +kernel
theorem dX12_isMate_18 : decode cX12_isMate 18 = .ok (.iload_n 2, 1) := by decide +kernel
theorem dX12_isMate_19 : decode cX12_isMate 19 = .ok (.iload_n 3, 1) := by decide +kernel
theorem dX12_isMate_20 : decode cX12_isMate 20 = .ok (.iload 4, 2) := by decide +kernel
theorem dX12_isMate_22 : decode cX12_isMate 22 = .ok (.iconst 0, 1) := by decide +kernel
theorem dX12_isMate_23 : decode cX12_isMate 23 = .ok (.invokevirtual 119, 3) := by decide +kernel
theorem dX12_isMate_26 : decode cX12_isMate 26 = .ok (.aload_n 0, 1) := by decide +kernel
theorem dX12_isMate_27 : decode cX12_isMate 27 = .ok (.getfield 66, 3) := by decide +kernel
theorem dX12_isMate_30 : decode cX12_isMate 30 = .ok (.ifCond .ne 7, 3) := by decide +kernel
theorem dX12_isMate_33 : decode cX12_isMate 33 = .ok (.iconst 1, 1) := by decide +kernel
theorem dX12_isMate_34 : decode cX12_isMate 34 = .ok (.goto 4, 3) := by decide +kernel
theorem dX12_isMate_37 : decode cX12_isMate 37 = .ok (.iconst 0, 1) := by decide +kernel
theorem dX12_isMate_38 : decode cX12_isMate 38 = .ok (.ireturn, 1) := by decide +kernel
def kX12_isMate_26 (mc ms : Nat) (X : Nat → zV) (Q : zQt) : zT :=
  zla 0 <| zgi 12 11 <| zif (fun x => x = 0) (zc (.int 1) <| zj X 38 []) <| zc (.int 0) <| zj X 38 []
def kX12_isMate_11 (mc ms : Nat) (X : Nat → zV) (Q : zQt) : zT :=
  zif (fun x => x = 0) (zc (.int 0) <| zrz .boolean Q) <| zla 0 <| zli 1 <| zli 2 <| zli 3 <| zli 4 <| zc (.int 0) <| zcv mc ms 12 5 wX12_movesOf <| kX12_isMate_26 mc ms X Q
def aX12_isMate_0 (mc ms : Nat) (X : Nat → zV) (Q : zQt) : zT :=
  zla 0 <| zli 1 <| zli 2 <| zli 3 <| zli 4 <| zli 4 <| zcv mc ms 12 5 wX12_attacked <| kX12_isMate_11 mc ms X Q
def aX12_isMate_38 (mc ms : Nat) (X : Nat → zV) (Q : zQt) : zT :=
  zrz .boolean Q
def lvX12_isMate : Nat → List Nat := fun L => match L with
  | 0 => [0, 1, 2, 3, 4]
  | 38 => []
  | _ => []
def wX12_isMate : zSp := fun mc ms av M Q => ((zlay av).length ≤ 5 ∧ zpick (zlay av) [0, 1, 2, 3, 4] = some av) ∧ ∀ X : Nat → zV, zin 5 [0, 1, 2, 3, 4] (aX12_isMate_0 mc ms X Q) X 0 → zin 5 [] (aX12_isMate_38 mc ms X Q) X 38 → X 0 0 0 av [] M
set_option maxRecDepth 100000 in
set_option maxHeartbeats 4000000 in
theorem sX12_isMate (l : Launch) (G : zG) : zSnd l G yX12_isMate cX12_isMate 5 (some .boolean) 5 135 wX12_isMate := by
  refine zmk [0, 1, 2, 3, 4] (by decide) (fun mc ms av M Q h => h.1) ?_
  intro p e R s m args below meth c mc ms av M Q hC hRf hRl hr hnm h lv hlv
  obtain ⟨X, hXe⟩ : ∃ X : Nat → zV, X = fun L u v vs st M => ∀ lv, zpick lv (lvX12_isMate L) = some vs → zAt p l e R s m args below meth c (MQ below (zQ G Q) args s mc ms (zA G)) G 5 L u v lv st M := ⟨_, rfl⟩
  have hJ : ∀ L, zOk p l e R s m args below meth c (MQ below (zQ G Q) args s mc ms (zA G)) G 5 L (zj X L (lvX12_isMate L)) := fun L => S_jump (fun u v lv vs st M hp hx => by rw [hXe] at hx; exact hx lv hp)
  have hB0 : zin 5 [0, 1, 2, 3, 4] (aX12_isMate_0 mc ms X Q) X 0 := by
    intro u v vs st M hb
    rw [hXe]
    refine fun lv hp => S_block (L := 0) (live := [0, 1, 2, 3, 4]) ?_ u v lv vs st M hp hb
    unfold aX12_isMate_0
    refine S_aload_n (pc := 0) hC dX12_isMate_0 rfl ?_
    refine S_iload_n (pc := 1) hC dX12_isMate_1 rfl ?_
    refine S_iload_n (pc := 2) hC dX12_isMate_2 rfl ?_
    refine S_iload_n (pc := 3) hC dX12_isMate_3 rfl ?_
    refine S_iload (pc := 4) hC dX12_isMate_4 ?_
    refine S_iload (pc := 6) hC dX12_isMate_6 ?_
    refine S_callV (pc := 8) hC (sX12_attacked l G) rfl wd_1719 wd_1721 ws_123 wd_13 wd_1722 (by decide +kernel) ⟨by rw [hRf]; decide, by rw [hRl]; decide⟩ dX12_isMate_8 ?_
    unfold kX12_isMate_11
    refine S_if_ne (pc := 11) (tgt := 16) hC dX12_isMate_11 (by decide) ?_ ?_
    · refine S_aload_n (pc := 16) hC dX12_isMate_16 rfl ?_
      refine S_iload_n (pc := 17) hC dX12_isMate_17 rfl ?_
      refine S_iload_n (pc := 18) hC dX12_isMate_18 rfl ?_
      refine S_iload_n (pc := 19) hC dX12_isMate_19 rfl ?_
      refine S_iload (pc := 20) hC dX12_isMate_20 ?_
      refine S_iconst (pc := 22) hC dX12_isMate_22 (by decide) ?_
      refine S_callV (pc := 23) hC (sX12_movesOf l G) rfl wd_1731 wd_1733 ws_126 wd_13 wd_1734 (by decide +kernel) ⟨by rw [hRf]; decide, by rw [hRl]; decide⟩ dX12_isMate_23 ?_
      unfold kX12_isMate_26
      refine S_aload_n (pc := 26) hC dX12_isMate_26 rfl ?_
      refine S_geti (pc := 27) hC cfX12 (by decide) (Or.inl rfl) wd_1213 dX12_isMate_27 ?_
      refine S_if_ne (pc := 30) (tgt := 37) hC dX12_isMate_30 (by decide) ?_ ?_
      · refine S_iconst (pc := 37) hC dX12_isMate_37 (by decide) ?_
        exact hJ 38
      · refine S_iconst (pc := 33) hC dX12_isMate_33 (by decide) ?_
        refine S_goto (pc := 34) (tgt := 38) hC dX12_isMate_34 (by decide) ?_
        exact hJ 38
    · refine S_iconst (pc := 14) hC dX12_isMate_14 (by decide) ?_
      exact S_zreturn (pc := 15) hC hr dX12_isMate_15
  have hB38 : zin 5 [] (aX12_isMate_38 mc ms X Q) X 38 := by
    intro u v vs st M hb
    rw [hXe]
    refine fun lv hp => S_block (L := 38) (live := []) ?_ u v lv vs st M hp hb
    unfold aX12_isMate_38
    exact S_zreturn (pc := 38) hC hr dX12_isMate_38
  have := h.2 X hB0 hB38
  rw [hXe] at this
  exact this lv hlv
theorem vX12_isMate_0 {mc ms : Nat} {X : Nat → zV} {Q : zQt} {M : zM} {x1 : Int32} {x2 : Int32} {x3 : Int32} {x4 : Int32} (hW : zFix M)  (h : wX12_attacked 0 0 [.ref 71, .int x1, .int x2, .int x3, .int x4, .int x4] M (fun r M1 => kX12_isMate_11 mc ms X Q 0 0 [some (.ref 71), some (.int x1), some (.int x2), some (.int x3), some (.int x4)] (r.toList ++ []) M1)) : aX12_isMate_0 mc ms X Q 0 0 [some (.ref 71), some (.int x1), some (.int x2), some (.int x3), some (.int x4)] [] M := ⟨Nat.le_of_ble_eq_true rfl, rfl, (fxs_71 hW), 0, 0, Nat.zero_le _, Nat.zero_le _, h⟩
theorem vX12_isMate_38 {mc ms : Nat} {X : Nat → zV} {Q : zQt} {M : zM} {s0 : Int32} (hW : zFix M)  (h : narrow .boolean (.int s0) = .int s0 ∧ Q (some (.int s0)) M) : aX12_isMate_38 mc ms X Q 0 0 [none, none, none, none, none] [.int s0] M := h
theorem vkX12_isMate_11 {mc ms : Nat} {X : Nat → zV} {Q : zQt} {M : zM} {x1 : Int32} {x2 : Int32} {x3 : Int32} {x4 : Int32} {s0 : Int32} (hW : zFix M)  (h : (s0 = 0 → Q (some (.int 0)) M) ∧ (¬ s0 = 0 → wX12_movesOf 0 0 [.ref 71, .int x1, .int x2, .int x3, .int x4, .int 0] M (fun r M1 => kX12_isMate_26 mc ms X Q 0 0 [some (.ref 71), some (.int x1), some (.int x2), some (.int x3), some (.int x4)] (r.toList ++ []) M1))) : kX12_isMate_11 mc ms X Q 0 0 [some (.ref 71), some (.int x1), some (.int x2), some (.int x3), some (.int x4)] [.int s0] M := ⟨fun c11 => ⟨rfl, (h.1 c11)⟩, fun c11 => ⟨Nat.le_of_ble_eq_true rfl, rfl, (fxs_71 hW), 0, 0, Nat.zero_le _, Nat.zero_le _, (h.2 c11)⟩⟩
theorem vkX12_isMate_26 {mc ms : Nat} {X : Nat → zV} {Q : zQt} {M : zM} {x1 : Int32} {x2 : Int32} {x3 : Int32} {x4 : Int32} (hW : zFix M)  (h : ((M.1 71 11) = 0 → X 38 0 0 [] [.int 1] M) ∧ (¬ (M.1 71 11) = 0 → X 38 0 0 [] [.int 0] M)) : kX12_isMate_26 mc ms X Q 0 0 [some (.ref 71), some (.int x1), some (.int x2), some (.int x3), some (.int x4)] [] M := ⟨(fxs_71 hW), ⟨fun c30 => (h.1 c30), fun c30 => (h.2 c30)⟩⟩
theorem dX12_comes_0 : decode cX12_comes 0 = .ok (.iload 5, 2) := by decide +kernel
theorem dX12_comes_2 : decode cX12_comes 2 = .ok (.iconst 2, 1) := by decide +kernel
theorem dX12_comes_3 : decode cX12_comes 3 = .ok (.irem, 1) := by decide +kernel
theorem dX12_comes_4 : decode cX12_comes 4 = .ok (.iconst 1, 1) := by decide +kernel
theorem dX12_comes_5 : decode cX12_comes 5 = .ok (.if_icmp .ne 7, 3) := by decide +kernel
theorem dX12_comes_8 : decode cX12_comes 8 = .ok (.iconst 1, 1) := by decide +kernel
theorem dX12_comes_9 : decode cX12_comes 9 = .ok (.goto 4, 3) := by decide +kernel
theorem dX12_comes_12 : decode cX12_comes 12 = .ok (.iconst 0, 1) := by decide +kernel
theorem dX12_comes_13 : decode cX12_comes 13 = .ok (.istore 6, 2) := by decide +kernel
theorem dX12_comes_15 : decode cX12_comes 15 = .ok (.aload_n 0, 1) := by decide +kernel
theorem dX12_comes_16 : decode cX12_comes 16 = .ok (.iload_n 1, 1) := by decide +kernel
theorem dX12_comes_17 : decode cX12_comes 17 = .ok (.iload_n 2, 1) := by decide +kernel
theorem dX12_comes_18 : decode cX12_comes 18 = .ok (.iload_n 3, 1) := by decide +kernel
theorem dX12_comes_19 : decode cX12_comes 19 = .ok (.iload 4, 2) := by decide +kernel
theorem dX12_comes_21 : decode cX12_comes 21 = .ok (.iload 6, 2) := by decide +kernel
theorem dX12_comes_23 : decode cX12_comes 23 = .ok (.invokevirtual 119, 3) := by decide +kernel
theorem dX12_comes_26 : decode cX12_comes 26 = .ok (.iconst 0, 1) := by decide +kernel
theorem dX12_comes_27 : decode cX12_comes 27 = .ok (.istore 7, 2) := by decide +kernel
theorem dX12_comes_29 : decode cX12_comes 29 = .ok (.aload_n 0, 1) := by decide +kernel
theorem dX12_comes_30 : decode cX12_comes 30 = .ok (.getfield 66, 3) := by decide +kernel
theorem dX12_comes_33 : decode cX12_comes 33 = .ok (.ifCond .le 7, 3) := by decide +kernel
theorem dX12_comes_36 : decode cX12_comes 36 = .ok (.iconst 1, 1) := by decide +kernel
theorem dX12_comes_37 : decode cX12_comes 37 = .ok (.goto 4, 3) := by decide +kernel
theorem dX12_comes_40 : decode cX12_comes 40 = .ok (.iconst 0, 1) := by decide +kernel
theorem dX12_comes_41 : decode cX12_comes 41 = .ok (.istore 8, 2) := by decide +kernel
theorem dX12_comes_43 : decode cX12_comes 43 = .ok (.iconst 0, 1) := by decide +kernel
theorem dX12_comes_44 : decode cX12_comes 44 = .ok (.istore 9, 2) := by decide +kernel
theorem dX12_comes_46 : decode cX12_comes 46 = .ok (.iload 9, 2) := by decide +kernel
theorem dX12_comes_48 : decode cX12_comes 48 = .ok (.aload_n 0, 1) := by decide +kernel
theorem dX12_comes_49 : decode cX12_comes 49 = .ok (.getfield 66, 3) := by decide +kernel
theorem dX12_comes_52 : decode cX12_comes 52 = .ok (.if_icmp .ge 65, 3) := by decide +kernel
theorem dX12_comes_55 : decode cX12_comes 55 = .ok (.aload_n 0, 1) := by decide +kernel
theorem dX12_comes_56 : decode cX12_comes 56 = .ok (.iload 9, 2) := by decide +kernel
theorem dX12_comes_58 : decode cX12_comes 58 = .ok (.iload 6, 2) := by decide +kernel
theorem dX12_comes_60 : decode cX12_comes 60 = .ok (.ifCond .ne 7, 3) := by decide +kernel
theorem dX12_comes_63 : decode cX12_comes 63 = .ok (.iconst 1, 1) := by decide +kernel
theorem dX12_comes_64 : decode cX12_comes 64 = .ok (.goto 4, 3) := by decide +kernel
theorem dX12_comes_67 : decode cX12_comes 67 = .ok (.iconst 0, 1) := by decide +kernel
theorem dX12_comes_68 : decode cX12_comes 68 = .ok (.invokevirtual 123, 3) := by decide +kernel
theorem dX12_comes_71 : decode cX12_comes 71 = .ok (.istore 10, 2) := by decide +kernel
theorem dX12_comes_73 : decode cX12_comes 73 = .ok (.iload 7, 2) := by decide +kernel
theorem dX12_comes_75 : decode cX12_comes 75 = .ok (.ifCond .ne 12, 3) := by decide +kernel
theorem dX12_comes_78 : decode cX12_comes 78 = .ok (.iload 10, 2) := by decide +kernel
theorem dX12_comes_80 : decode cX12_comes 80 = .ok (.iload 5, 2) := by decide +kernel
theorem dX12_comes_82 : decode cX12_comes 82 = .ok (.iconst 1, 1) := by decide +kernel
theorem dX12_comes_83 : decode cX12_comes 83 = .ok (.isub, 1) := by decide +kernel
theorem dX12_comes_84 : decode cX12_comes 84 = .ok (.if_icmp .ne 7, 3) := by decide +kernel
theorem dX12_comes_87 : decode cX12_comes 87 = .ok (.iconst 1, 1) := by decide +kernel
theorem dX12_comes_88 : decode cX12_comes 88 = .ok (.goto 4, 3) := by decide +kernel
theorem dX12_comes_91 : decode cX12_comes 91 = .ok (.iconst 0, 1) := by decide +kernel
theorem dX12_comes_92 : decode cX12_comes 92 = .ok (.istore 7, 2) := by decide +kernel
theorem dX12_comes_94 : decode cX12_comes 94 = .ok (.iload 8, 2) := by decide +kernel
theorem dX12_comes_96 : decode cX12_comes 96 = .ok (.ifCond .eq 12, 3) := by decide +kernel
theorem dX12_comes_99 : decode cX12_comes 99 = .ok (.iload 10, 2) := by decide +kernel
theorem dX12_comes_101 : decode cX12_comes 101 = .ok (.ifCond .lt 7, 3) := by decide +kernel
theorem dX12_comes_104 : decode cX12_comes 104 = .ok (.iconst 1, 1) := by decide +kernel
theorem dX12_comes_105 : decode cX12_comes 105 = .ok (.goto 4, 3) := by decide +kernel
theorem dX12_comes_108 : decode cX12_comes 108 = .ok (.iconst 0, 1) := by decide +kernel
theorem dX12_comes_109 : decode cX12_comes 109 = .ok (.istore 8, 2) := by decide +kernel
theorem dX12_comes_111 : decode cX12_comes 111 = .ok (.iinc 9 1, 3) := by decide +kernel
theorem dX12_comes_114 : decode cX12_comes 114 = .ok (.goto (-68), 3) := by decide +kernel
theorem dX12_comes_117 : decode cX12_comes 117 = .ok (.iload 6, 2) := by decide +kernel
theorem dX12_comes_119 : decode cX12_comes 119 = .ok (.ifCond .eq 8, 3) := by decide +kernel
theorem dX12_comes_122 : decode cX12_comes 122 = .ok (.iload 7, 2) := by decide +kernel
theorem dX12_comes_124 : decode cX12_comes 124 = .ok (.goto 5, 3) := by decide +kernel
theorem dX12_comes_127 : decode cX12_comes 127 = .ok (.iload 8, 2) := by decide +kernel
theorem dX12_comes_129 : decode cX12_comes 129 = .ok (.ireturn, 1) := by decide +kernel
def kX12_comes_26 (mc ms : Nat) (X : Nat → zV) (Q : zQt) : zT :=
  zc (.int 0) <| zsi 7 <| zla 0 <| zgi 12 11 <| zif (fun x => x ≤ 0) (zc (.int 0) <| zj X 41 [0, 5, 6, 7]) <| zc (.int 1) <| zj X 41 [0, 5, 6, 7]
def kX12_comes_71 (mc ms : Nat) (X : Nat → zV) (Q : zQt) : zT :=
  zsi 10 <| zli 7 <| zif (fun x => x = 0) (zli 10 <| zli 5 <| zc (.int 1) <| zii (fun x y => x - y) <| zic (fun x y => x = y) (zj X 87 [0, 5, 6, 8, 9, 10]) <| zc (.int 0) <| zj X 92 [0, 5, 6, 8, 9, 10]) <| zj X 87 [0, 5, 6, 8, 9, 10]
def aX12_comes_0 (mc ms : Nat) (X : Nat → zV) (Q : zQt) : zT :=
  zli 5 <| zc (.int 2) <| zid (fun x y => x - x / y * y) <| zc (.int 1) <| zic (fun x y => x = y) (zc (.int 1) <| zj X 13 [0, 1, 2, 3, 4, 5]) <| zc (.int 0) <| zj X 13 [0, 1, 2, 3, 4, 5]
def aX12_comes_13 (mc ms : Nat) (X : Nat → zV) (Q : zQt) : zT :=
  zsi 6 <| zla 0 <| zli 1 <| zli 2 <| zli 3 <| zli 4 <| zli 6 <| zcv mc ms 12 5 wX12_movesOf <| kX12_comes_26 mc ms X Q
def aX12_comes_41 (mc ms : Nat) (X : Nat → zV) (Q : zQt) : zT :=
  zsi 8 <| zc (.int 0) <| zsi 9 <| zj X 46 [0, 5, 6, 7, 8, 9]
def aX12_comes_46 (mc ms : Nat) (X : Nat → zV) (Q : zQt) : zT :=
  zli 9 <| zla 0 <| zgi 12 11 <| zic (fun x y => y ≤ x) (zli 6 <| zif (fun x => x = 0) (zli 8 <| zj X 129 []) <| zli 7 <| zj X 129 []) <| zla 0 <| zli 9 <| zli 6 <| zif (fun x => x = 0) (zc (.int 1) <| zj X 68 [0, 5, 6, 7, 8, 9]) <| zc (.int 0) <| zj X 68 [0, 5, 6, 7, 8, 9]
def aX12_comes_68 (mc ms : Nat) (X : Nat → zV) (Q : zQt) : zT :=
  zcv mc ms 12 2 wX12_reached <| kX12_comes_71 mc ms X Q
def aX12_comes_87 (mc ms : Nat) (X : Nat → zV) (Q : zQt) : zT :=
  zc (.int 1) <| zj X 92 [0, 5, 6, 8, 9, 10]
def aX12_comes_92 (mc ms : Nat) (X : Nat → zV) (Q : zQt) : zT :=
  zsi 7 <| zli 8 <| zif (fun x => x = 0) (zj X 108 [0, 5, 6, 7, 9]) <| zli 10 <| zif (fun x => x < 0) (zj X 108 [0, 5, 6, 7, 9]) <| zc (.int 1) <| zj X 109 [0, 5, 6, 7, 9]
def aX12_comes_108 (mc ms : Nat) (X : Nat → zV) (Q : zQt) : zT :=
  zc (.int 0) <| zj X 109 [0, 5, 6, 7, 9]
def aX12_comes_109 (mc ms : Nat) (X : Nat → zV) (Q : zQt) : zT :=
  zsi 8 <| zinc 9 1 <| zj X 46 [0, 5, 6, 7, 8, 9]
def aX12_comes_129 (mc ms : Nat) (X : Nat → zV) (Q : zQt) : zT :=
  zrz .boolean Q
def lvX12_comes : Nat → List Nat := fun L => match L with
  | 0 => [0, 1, 2, 3, 4, 5]
  | 13 => [0, 1, 2, 3, 4, 5]
  | 41 => [0, 5, 6, 7]
  | 46 => [0, 5, 6, 7, 8, 9]
  | 68 => [0, 5, 6, 7, 8, 9]
  | 87 => [0, 5, 6, 8, 9, 10]
  | 92 => [0, 5, 6, 8, 9, 10]
  | 108 => [0, 5, 6, 7, 9]
  | 109 => [0, 5, 6, 7, 9]
  | 129 => []
  | _ => []
def wX12_comes : zSp := fun mc ms av M Q => ((zlay av).length ≤ 11 ∧ zpick (zlay av) [0, 1, 2, 3, 4, 5] = some av) ∧ ∀ X : Nat → zV, zin 11 [0, 1, 2, 3, 4, 5] (aX12_comes_0 mc ms X Q) X 0 → zin 11 [0, 1, 2, 3, 4, 5] (aX12_comes_13 mc ms X Q) X 13 → zin 11 [0, 5, 6, 7] (aX12_comes_41 mc ms X Q) X 41 → zin 11 [0, 5, 6, 7, 8, 9] (aX12_comes_46 mc ms X Q) X 46 → zin 11 [0, 5, 6, 7, 8, 9] (aX12_comes_68 mc ms X Q) X 68 → zin 11 [0, 5, 6, 8, 9, 10] (aX12_comes_87 mc ms X Q) X 87 → zin 11 [0, 5, 6, 8, 9, 10] (aX12_comes_92 mc ms X Q) X 92 → zin 11 [0, 5, 6, 7, 9] (aX12_comes_108 mc ms X Q) X 108 → zin 11 [0, 5, 6, 7, 9] (aX12_comes_109 mc ms X Q) X 109 → zin 11 [] (aX12_comes_129 mc ms X Q) X 129 → X 0 0 0 av [] M
set_option maxRecDepth 100000 in
set_option maxHeartbeats 4000000 in
theorem sX12_comes (l : Launch) (G : zG) : zSnd l G yX12_comes cX12_comes 11 (some .boolean) 5 135 wX12_comes := by
  refine zmk [0, 1, 2, 3, 4, 5] (by decide) (fun mc ms av M Q h => h.1) ?_
  intro p e R s m args below meth c mc ms av M Q hC hRf hRl hr hnm h lv hlv
  obtain ⟨X, hXe⟩ : ∃ X : Nat → zV, X = fun L u v vs st M => ∀ lv, zpick lv (lvX12_comes L) = some vs → zAt p l e R s m args below meth c (MQ below (zQ G Q) args s mc ms (zA G)) G 11 L u v lv st M := ⟨_, rfl⟩
  have hJ : ∀ L, zOk p l e R s m args below meth c (MQ below (zQ G Q) args s mc ms (zA G)) G 11 L (zj X L (lvX12_comes L)) := fun L => S_jump (fun u v lv vs st M hp hx => by rw [hXe] at hx; exact hx lv hp)
  have hB0 : zin 11 [0, 1, 2, 3, 4, 5] (aX12_comes_0 mc ms X Q) X 0 := by
    intro u v vs st M hb
    rw [hXe]
    refine fun lv hp => S_block (L := 0) (live := [0, 1, 2, 3, 4, 5]) ?_ u v lv vs st M hp hb
    unfold aX12_comes_0
    refine S_iload (pc := 0) hC dX12_comes_0 ?_
    refine S_iconst (pc := 2) hC dX12_comes_2 (by decide) ?_
    refine S_irem (pc := 3) hC dX12_comes_3 ?_
    refine S_iconst (pc := 4) hC dX12_comes_4 (by decide) ?_
    refine S_icmp_ne (pc := 5) (tgt := 12) hC dX12_comes_5 (by decide) ?_ ?_
    · refine S_iconst (pc := 12) hC dX12_comes_12 (by decide) ?_
      exact hJ 13
    · refine S_iconst (pc := 8) hC dX12_comes_8 (by decide) ?_
      refine S_goto (pc := 9) (tgt := 13) hC dX12_comes_9 (by decide) ?_
      exact hJ 13
  have hB13 : zin 11 [0, 1, 2, 3, 4, 5] (aX12_comes_13 mc ms X Q) X 13 := by
    intro u v vs st M hb
    rw [hXe]
    refine fun lv hp => S_block (L := 13) (live := [0, 1, 2, 3, 4, 5]) ?_ u v lv vs st M hp hb
    unfold aX12_comes_13
    refine S_istore (pc := 13) hC dX12_comes_13 (by decide) ?_
    refine S_aload_n (pc := 15) hC dX12_comes_15 rfl ?_
    refine S_iload_n (pc := 16) hC dX12_comes_16 rfl ?_
    refine S_iload_n (pc := 17) hC dX12_comes_17 rfl ?_
    refine S_iload_n (pc := 18) hC dX12_comes_18 rfl ?_
    refine S_iload (pc := 19) hC dX12_comes_19 ?_
    refine S_iload (pc := 21) hC dX12_comes_21 ?_
    refine S_callV (pc := 23) hC (sX12_movesOf l G) rfl wd_1731 wd_1733 ws_126 wd_13 wd_1734 (by decide +kernel) ⟨by rw [hRf]; decide, by rw [hRl]; decide⟩ dX12_comes_23 ?_
    unfold kX12_comes_26
    refine S_iconst (pc := 26) hC dX12_comes_26 (by decide) ?_
    refine S_istore (pc := 27) hC dX12_comes_27 (by decide) ?_
    refine S_aload_n (pc := 29) hC dX12_comes_29 rfl ?_
    refine S_geti (pc := 30) hC cfX12 (by decide) (Or.inl rfl) wd_1213 dX12_comes_30 ?_
    refine S_if_le (pc := 33) (tgt := 40) hC dX12_comes_33 (by decide) ?_ ?_
    · refine S_iconst (pc := 40) hC dX12_comes_40 (by decide) ?_
      exact hJ 41
    · refine S_iconst (pc := 36) hC dX12_comes_36 (by decide) ?_
      refine S_goto (pc := 37) (tgt := 41) hC dX12_comes_37 (by decide) ?_
      exact hJ 41
  have hB41 : zin 11 [0, 5, 6, 7] (aX12_comes_41 mc ms X Q) X 41 := by
    intro u v vs st M hb
    rw [hXe]
    refine fun lv hp => S_block (L := 41) (live := [0, 5, 6, 7]) ?_ u v lv vs st M hp hb
    unfold aX12_comes_41
    refine S_istore (pc := 41) hC dX12_comes_41 (by decide) ?_
    refine S_iconst (pc := 43) hC dX12_comes_43 (by decide) ?_
    refine S_istore (pc := 44) hC dX12_comes_44 (by decide) ?_
    exact hJ 46
  have hB46 : zin 11 [0, 5, 6, 7, 8, 9] (aX12_comes_46 mc ms X Q) X 46 := by
    intro u v vs st M hb
    rw [hXe]
    refine fun lv hp => S_block (L := 46) (live := [0, 5, 6, 7, 8, 9]) ?_ u v lv vs st M hp hb
    unfold aX12_comes_46
    refine S_iload (pc := 46) hC dX12_comes_46 ?_
    refine S_aload_n (pc := 48) hC dX12_comes_48 rfl ?_
    refine S_geti (pc := 49) hC cfX12 (by decide) (Or.inl rfl) wd_1213 dX12_comes_49 ?_
    refine S_icmp_ge (pc := 52) (tgt := 117) hC dX12_comes_52 (by decide) ?_ ?_
    · refine S_iload (pc := 117) hC dX12_comes_117 ?_
      refine S_if_eq (pc := 119) (tgt := 127) hC dX12_comes_119 (by decide) ?_ ?_
      · refine S_iload (pc := 127) hC dX12_comes_127 ?_
        exact hJ 129
      · refine S_iload (pc := 122) hC dX12_comes_122 ?_
        refine S_goto (pc := 124) (tgt := 129) hC dX12_comes_124 (by decide) ?_
        exact hJ 129
    · refine S_aload_n (pc := 55) hC dX12_comes_55 rfl ?_
      refine S_iload (pc := 56) hC dX12_comes_56 ?_
      refine S_iload (pc := 58) hC dX12_comes_58 ?_
      refine S_if_ne (pc := 60) (tgt := 67) hC dX12_comes_60 (by decide) ?_ ?_
      · refine S_iconst (pc := 67) hC dX12_comes_67 (by decide) ?_
        exact hJ 68
      · refine S_iconst (pc := 63) hC dX12_comes_63 (by decide) ?_
        refine S_goto (pc := 64) (tgt := 68) hC dX12_comes_64 (by decide) ?_
        exact hJ 68
  have hB68 : zin 11 [0, 5, 6, 7, 8, 9] (aX12_comes_68 mc ms X Q) X 68 := by
    intro u v vs st M hb
    rw [hXe]
    refine fun lv hp => S_block (L := 68) (live := [0, 5, 6, 7, 8, 9]) ?_ u v lv vs st M hp hb
    unfold aX12_comes_68
    refine S_callV (pc := 68) hC (sX12_reached l G) rfl wd_1763 wd_1765 ws_134 wd_13 wd_1766 (by decide +kernel) ⟨by rw [hRf]; decide, by rw [hRl]; decide⟩ dX12_comes_68 ?_
    unfold kX12_comes_71
    refine S_istore (pc := 71) hC dX12_comes_71 (by decide) ?_
    refine S_iload (pc := 73) hC dX12_comes_73 ?_
    refine S_if_ne (pc := 75) (tgt := 87) hC dX12_comes_75 (by decide) ?_ ?_
    · exact hJ 87
    · refine S_iload (pc := 78) hC dX12_comes_78 ?_
      refine S_iload (pc := 80) hC dX12_comes_80 ?_
      refine S_iconst (pc := 82) hC dX12_comes_82 (by decide) ?_
      refine S_isub (pc := 83) hC dX12_comes_83 ?_
      refine S_icmp_ne (pc := 84) (tgt := 91) hC dX12_comes_84 (by decide) ?_ ?_
      · refine S_iconst (pc := 91) hC dX12_comes_91 (by decide) ?_
        exact hJ 92
      · exact hJ 87
  have hB87 : zin 11 [0, 5, 6, 8, 9, 10] (aX12_comes_87 mc ms X Q) X 87 := by
    intro u v vs st M hb
    rw [hXe]
    refine fun lv hp => S_block (L := 87) (live := [0, 5, 6, 8, 9, 10]) ?_ u v lv vs st M hp hb
    unfold aX12_comes_87
    refine S_iconst (pc := 87) hC dX12_comes_87 (by decide) ?_
    refine S_goto (pc := 88) (tgt := 92) hC dX12_comes_88 (by decide) ?_
    exact hJ 92
  have hB92 : zin 11 [0, 5, 6, 8, 9, 10] (aX12_comes_92 mc ms X Q) X 92 := by
    intro u v vs st M hb
    rw [hXe]
    refine fun lv hp => S_block (L := 92) (live := [0, 5, 6, 8, 9, 10]) ?_ u v lv vs st M hp hb
    unfold aX12_comes_92
    refine S_istore (pc := 92) hC dX12_comes_92 (by decide) ?_
    refine S_iload (pc := 94) hC dX12_comes_94 ?_
    refine S_if_eq (pc := 96) (tgt := 108) hC dX12_comes_96 (by decide) ?_ ?_
    · exact hJ 108
    · refine S_iload (pc := 99) hC dX12_comes_99 ?_
      refine S_if_lt (pc := 101) (tgt := 108) hC dX12_comes_101 (by decide) ?_ ?_
      · exact hJ 108
      · refine S_iconst (pc := 104) hC dX12_comes_104 (by decide) ?_
        refine S_goto (pc := 105) (tgt := 109) hC dX12_comes_105 (by decide) ?_
        exact hJ 109
  have hB108 : zin 11 [0, 5, 6, 7, 9] (aX12_comes_108 mc ms X Q) X 108 := by
    intro u v vs st M hb
    rw [hXe]
    refine fun lv hp => S_block (L := 108) (live := [0, 5, 6, 7, 9]) ?_ u v lv vs st M hp hb
    unfold aX12_comes_108
    refine S_iconst (pc := 108) hC dX12_comes_108 (by decide) ?_
    exact hJ 109
  have hB109 : zin 11 [0, 5, 6, 7, 9] (aX12_comes_109 mc ms X Q) X 109 := by
    intro u v vs st M hb
    rw [hXe]
    refine fun lv hp => S_block (L := 109) (live := [0, 5, 6, 7, 9]) ?_ u v lv vs st M hp hb
    unfold aX12_comes_109
    refine S_istore (pc := 109) hC dX12_comes_109 (by decide) ?_
    refine S_iinc (pc := 111) hC dX12_comes_111 (by decide) (by decide) ?_
    refine S_goto (pc := 114) (tgt := 46) hC dX12_comes_114 (by decide) ?_
    exact hJ 46
  have hB129 : zin 11 [] (aX12_comes_129 mc ms X Q) X 129 := by
    intro u v vs st M hb
    rw [hXe]
    refine fun lv hp => S_block (L := 129) (live := []) ?_ u v lv vs st M hp hb
    unfold aX12_comes_129
    exact S_zreturn (pc := 129) hC hr dX12_comes_129
  have := h.2 X hB0 hB13 hB41 hB46 hB68 hB87 hB92 hB108 hB109 hB129
  rw [hXe] at this
  exact this lv hlv
theorem vX12_comes_0 {mc ms : Nat} {X : Nat → zV} {Q : zQt} {M : zM} {x1 : Int32} {x2 : Int32} {x3 : Int32} {x4 : Int32} {x5 : Int32} (hW : zFix M)  (h : ((x5 - x5 / (2 : Int32) * (2 : Int32)) = (1 : Int32) → X 13 0 0 [.ref 71, .int x1, .int x2, .int x3, .int x4, .int x5] [.int 1] M) ∧ (¬ (x5 - x5 / (2 : Int32) * (2 : Int32)) = (1 : Int32) → X 13 0 0 [.ref 71, .int x1, .int x2, .int x3, .int x4, .int x5] [.int 0] M)) : aX12_comes_0 mc ms X Q 0 0 [some (.ref 71), some (.int x1), some (.int x2), some (.int x3), some (.int x4), some (.int x5), none, none, none, none, none] [] M := ⟨by decide, ⟨fun c5 => (h.1 c5), fun c5 => (h.2 c5)⟩⟩
theorem vX12_comes_13 {mc ms : Nat} {X : Nat → zV} {Q : zQt} {M : zM} {x1 : Int32} {x2 : Int32} {x3 : Int32} {x4 : Int32} {x5 : Int32} {s0 : Int32} (hW : zFix M)  (h : wX12_movesOf 0 0 [.ref 71, .int x1, .int x2, .int x3, .int x4, .int s0] M (fun r M1 => kX12_comes_26 mc ms X Q 0 0 [some (.ref 71), some (.int x1), some (.int x2), some (.int x3), some (.int x4), some (.int x5), some (.int s0), none, none, none, none] (r.toList ++ []) M1)) : aX12_comes_13 mc ms X Q 0 0 [some (.ref 71), some (.int x1), some (.int x2), some (.int x3), some (.int x4), some (.int x5), none, none, none, none, none] [.int s0] M := ⟨Nat.le_of_ble_eq_true rfl, rfl, (fxs_71 hW), 0, 0, Nat.zero_le _, Nat.zero_le _, h⟩
theorem vX12_comes_41 {mc ms : Nat} {X : Nat → zV} {Q : zQt} {M : zM} {x5 : Int32} {x6 : Int32} {x7 : Int32} {s0 : Int32} (hW : zFix M)  (h : X 46 0 0 [.ref 71, .int x5, .int x6, .int x7, .int s0, .int 0] [] M) : aX12_comes_41 mc ms X Q 0 0 [some (.ref 71), none, none, none, none, some (.int x5), some (.int x6), some (.int x7), none, none, none] [.int s0] M := h
theorem vX12_comes_46 {mc ms : Nat} {X : Nat → zV} {Q : zQt} {M : zM} {x5 : Int32} {x6 : Int32} {x7 : Int32} {x8 : Int32} {x9 : Int32} (hW : zFix M)  (h : ((M.1 71 11) ≤ x9 → (x6 = 0 → X 129 0 0 [] [.int x8] M) ∧ (¬ x6 = 0 → X 129 0 0 [] [.int x7] M)) ∧ (¬ (M.1 71 11) ≤ x9 → (x6 = 0 → X 68 0 0 [.ref 71, .int x5, .int x6, .int x7, .int x8, .int x9] [.int 1, .int x9, .ref 71] M) ∧ (¬ x6 = 0 → X 68 0 0 [.ref 71, .int x5, .int x6, .int x7, .int x8, .int x9] [.int 0, .int x9, .ref 71] M))) : aX12_comes_46 mc ms X Q 0 0 [some (.ref 71), none, none, none, none, some (.int x5), some (.int x6), some (.int x7), some (.int x8), some (.int x9), none] [] M := ⟨(fxs_71 hW), ⟨fun c52 => ⟨fun c119 => ((h.1 c52).1 c119), fun c119 => ((h.1 c52).2 c119)⟩, fun c52 => ⟨fun c60 => ((h.2 c52).1 c60), fun c60 => ((h.2 c52).2 c60)⟩⟩⟩
theorem vX12_comes_68 {mc ms : Nat} {X : Nat → zV} {Q : zQt} {M : zM} {x5 : Int32} {x6 : Int32} {x7 : Int32} {x8 : Int32} {x9 : Int32} {s0 : Int32} {s1 : Int32} (hW : zFix M)  (h : wX12_reached 0 0 [.ref 71, .int s1, .int s0] M (fun r M1 => kX12_comes_71 mc ms X Q 0 0 [some (.ref 71), none, none, none, none, some (.int x5), some (.int x6), some (.int x7), some (.int x8), some (.int x9), none] (r.toList ++ []) M1)) : aX12_comes_68 mc ms X Q 0 0 [some (.ref 71), none, none, none, none, some (.int x5), some (.int x6), some (.int x7), some (.int x8), some (.int x9), none] [.int s0, .int s1, .ref 71] M := ⟨Nat.le_of_ble_eq_true rfl, rfl, (fxs_71 hW), 0, 0, Nat.zero_le _, Nat.zero_le _, h⟩
theorem vX12_comes_87 {mc ms : Nat} {X : Nat → zV} {Q : zQt} {M : zM} {x5 : Int32} {x6 : Int32} {x8 : Int32} {x9 : Int32} {x10 : Int32} (hW : zFix M)  (h : X 92 0 0 [.ref 71, .int x5, .int x6, .int x8, .int x9, .int x10] [.int 1] M) : aX12_comes_87 mc ms X Q 0 0 [some (.ref 71), none, none, none, none, some (.int x5), some (.int x6), none, some (.int x8), some (.int x9), some (.int x10)] [] M := h
theorem vX12_comes_92 {mc ms : Nat} {X : Nat → zV} {Q : zQt} {M : zM} {x5 : Int32} {x6 : Int32} {x8 : Int32} {x9 : Int32} {x10 : Int32} {s0 : Int32} (hW : zFix M)  (h : (x8 = 0 → X 108 0 0 [.ref 71, .int x5, .int x6, .int s0, .int x9] [] M) ∧ (¬ x8 = 0 → (x10 < 0 → X 108 0 0 [.ref 71, .int x5, .int x6, .int s0, .int x9] [] M) ∧ (¬ x10 < 0 → X 109 0 0 [.ref 71, .int x5, .int x6, .int s0, .int x9] [.int 1] M))) : aX12_comes_92 mc ms X Q 0 0 [some (.ref 71), none, none, none, none, some (.int x5), some (.int x6), none, some (.int x8), some (.int x9), some (.int x10)] [.int s0] M := ⟨fun c96 => (h.1 c96), fun c96 => ⟨fun c101 => ((h.2 c96).1 c101), fun c101 => ((h.2 c96).2 c101)⟩⟩
theorem vX12_comes_108 {mc ms : Nat} {X : Nat → zV} {Q : zQt} {M : zM} {x5 : Int32} {x6 : Int32} {x7 : Int32} {x9 : Int32} (hW : zFix M)  (h : X 109 0 0 [.ref 71, .int x5, .int x6, .int x7, .int x9] [.int 0] M) : aX12_comes_108 mc ms X Q 0 0 [some (.ref 71), none, none, none, none, some (.int x5), some (.int x6), some (.int x7), none, some (.int x9), none] [] M := h
theorem vX12_comes_109 {mc ms : Nat} {X : Nat → zV} {Q : zQt} {M : zM} {x5 : Int32} {x6 : Int32} {x7 : Int32} {x9 : Int32} {s0 : Int32} (hW : zFix M)  (h : X 46 0 0 [.ref 71, .int x5, .int x6, .int x7, .int s0, .int (x9 + 1)] [] M) : aX12_comes_109 mc ms X Q 0 0 [some (.ref 71), none, none, none, none, some (.int x5), some (.int x6), some (.int x7), none, some (.int x9), none] [.int s0] M := h
theorem vX12_comes_129 {mc ms : Nat} {X : Nat → zV} {Q : zQt} {M : zM} {s0 : Int32} (hW : zFix M)  (h : narrow .boolean (.int s0) = .int s0 ∧ Q (some (.int s0)) M) : aX12_comes_129 mc ms X Q 0 0 [none, none, none, none, none, none, none, none, none, none, none] [.int s0] M := h
theorem vkX12_comes_26 {mc ms : Nat} {X : Nat → zV} {Q : zQt} {M : zM} {x1 : Int32} {x2 : Int32} {x3 : Int32} {x4 : Int32} {x5 : Int32} {x6 : Int32} (hW : zFix M)  (h : ((M.1 71 11) ≤ 0 → X 41 0 0 [.ref 71, .int x5, .int x6, .int 0] [.int 0] M) ∧ (¬ (M.1 71 11) ≤ 0 → X 41 0 0 [.ref 71, .int x5, .int x6, .int 0] [.int 1] M)) : kX12_comes_26 mc ms X Q 0 0 [some (.ref 71), some (.int x1), some (.int x2), some (.int x3), some (.int x4), some (.int x5), some (.int x6), none, none, none, none] [] M := ⟨(fxs_71 hW), ⟨fun c33 => (h.1 c33), fun c33 => (h.2 c33)⟩⟩
theorem vkX12_comes_71 {mc ms : Nat} {X : Nat → zV} {Q : zQt} {M : zM} {x5 : Int32} {x6 : Int32} {x7 : Int32} {x8 : Int32} {x9 : Int32} {s0 : Int32} (hW : zFix M)  (h : (x7 = 0 → (s0 = (x5 - (1 : Int32)) → X 87 0 0 [.ref 71, .int x5, .int x6, .int x8, .int x9, .int s0] [] M) ∧ (¬ s0 = (x5 - (1 : Int32)) → X 92 0 0 [.ref 71, .int x5, .int x6, .int x8, .int x9, .int s0] [.int 0] M)) ∧ (¬ x7 = 0 → X 87 0 0 [.ref 71, .int x5, .int x6, .int x8, .int x9, .int s0] [] M)) : kX12_comes_71 mc ms X Q 0 0 [some (.ref 71), none, none, none, none, some (.int x5), some (.int x6), some (.int x7), some (.int x8), some (.int x9), none] [.int s0] M := ⟨fun c75 => ⟨fun c84 => ((h.1 c75).1 c84), fun c84 => ((h.1 c75).2 c84)⟩, fun c75 => (h.2 c75)⟩
theorem dX12_round_0 : decode cX12_round 0 = .ok (.iconst 0, 1) := by decide +kernel
theorem dX12_round_1 : decode cX12_round 1 = .ok (.istore 4, 2) := by decide +kernel
theorem dX12_round_3 : decode cX12_round 3 = .ok (.iconst 0, 1) := by decide +kernel
theorem dX12_round_4 : decode cX12_round 4 = .ok (.istore 5, 2) := by decide +kernel
theorem dX12_round_6 : decode cX12_round 6 = .ok (.iload 5, 2) := by decide +kernel
theorem dX12_round_8 : decode cX12_round 8 = .ok (.bipush 64, 2) := by decide +kernel
theorem dX12_round_10 : decode cX12_round 10 = .ok (.if_icmp .ge 181, 3) := by decide +kernel
theorem dX12_round_13 : decode cX12_round 13 = .ok (.iconst 0, 1) := by decide +kernel
theorem dX12_round_14 : decode cX12_round 14 = .ok (.istore 6, 2) := by decide +kernel
theorem dX12_round_16 : decode cX12_round 16 = .ok (.iload 6, 2) := by decide +kernel
theorem dX12_round_18 : decode cX12_round 18 = .ok (.bipush 64, 2) := by decide +kernel
theorem dX12_round_20 : decode cX12_round 20 = .ok (.if_icmp .ge 165, 3) := by decide +kernel
theorem dX12_round_23 : decode cX12_round 23 = .ok (.aload_n 0, 1) := by decide +kernel
theorem dX12_round_24 : decode cX12_round 24 = .ok (.getfield 29, 3) := by decide +kernel
theorem dX12_round_27 : decode cX12_round 27 = .ok (.iload_n 1, 1) := by decide +kernel
theorem dX12_round_28 : decode cX12_round 28 = .ok (.iconst 1, 1) := by decide +kernel
theorem dX12_round_29 : decode cX12_round 29 = .ok (.if_icmp .ne 11, 3) := by decide +kernel
theorem dX12_round_32 : decode cX12_round 32 = .ok (.bipush 64, 2) := by decide +kernel
theorem dX12_round_34 : decode cX12_round 34 = .ok (.iload 5, 2) := by decide +kernel
theorem dX12_round_36 : decode cX12_round 36 = .ok (.iadd, 1) := by decide +kernel
theorem dX12_round_37 : decode cX12_round 37 = .ok (.goto 5, 3) := by decide +kernel
theorem dX12_round_40 : decode cX12_round 40 = .ok (.iload 5, 2) := by decide +kernel
theorem dX12_round_42 : decode cX12_round 42 = .ok (.iaload, 1) := by decide +kernel
theorem dX12_round_43 : decode cX12_round 43 = .ok (.ifCond .lt 142, 3) := by decide +kernel
theorem dX12_round_46 : decode cX12_round 46 = .ok (.iconst 0, 1) := by decide +kernel
theorem dX12_round_47 : decode cX12_round 47 = .ok (.istore 7, 2) := by decide +kernel
theorem dX12_round_49 : decode cX12_round 49 = .ok (.iload 7, 2) := by decide +kernel
theorem dX12_round_51 : decode cX12_round 51 = .ok (.bipush 64, 2) := by decide +kernel
theorem dX12_round_53 : decode cX12_round 53 = .ok (.if_icmp .ge 126, 3) := by decide +kernel
theorem dX12_round_56 : decode cX12_round 56 = .ok (.iload_n 3, 1) := by decide +kernel
theorem dX12_round_57 : decode cX12_round 57 = .ok (.iconst 2, 1) := by decide +kernel
theorem dX12_round_58 : decode cX12_round 58 = .ok (.irem, 1) := by decide +kernel
theorem dX12_round_59 : decode cX12_round 59 = .ok (.iconst 1, 1) := by decide +kernel
theorem dX12_round_60 : decode cX12_round 60 = .ok (.if_icmp .ne 7, 3) := by decide +kernel
theorem dX12_round_63 : decode cX12_round 63 = .ok (.iconst 1, 1) := by decide +kernel
theorem dX12_round_64 : decode cX12_round 64 = .ok (.goto 4, 3) := by decide +kernel
theorem dX12_round_67 : decode cX12_round 67 = .ok (.iconst 0, 1) := by decide +kernel
theorem dX12_round_68 : decode cX12_round 68 = .ok (.istore 8, 2) := by decide +kernel
theorem dX12_round_70 : decode cX12_round 70 = .ok (.aload_n 0, 1) := by decide +kernel
theorem dX12_round_71 : decode cX12_round 71 = .ok (.iload_n 1, 1) := by decide +kernel
theorem dX12_round_72 : decode cX12_round 72 = .ok (.iload 5, 2) := by decide +kernel
theorem dX12_round_74 : decode cX12_round 74 = .ok (.iload 6, 2) := by decide +kernel
theorem dX12_round_76 : decode cX12_round 76 = .ok (.iload 7, 2) := by decide +kernel
theorem dX12_round_78 : decode cX12_round 78 = .ok (.iload 8, 2) := by decide +kernel
theorem dX12_round_80 : decode cX12_round 80 = .ok (.invokevirtual 115, 3) := by decide +kernel
theorem dX12_round_83 : decode cX12_round 83 = .ok (.istore 9, 2) := by decide +kernel
theorem dX12_round_85 : decode cX12_round 85 = .ok (.aload_n 2, 1) := by decide +kernel
theorem dX12_round_86 : decode cX12_round 86 = .ok (.iload 9, 2) := by decide +kernel
theorem dX12_round_88 : decode cX12_round 88 = .ok (.baload, 1) := by decide +kernel
theorem dX12_round_89 : decode cX12_round 89 = .ok (.iconst (-1), 1) := by decide +kernel
theorem dX12_round_90 : decode cX12_round 90 = .ok (.if_icmp .ne 83, 3) := by decide +kernel
theorem dX12_round_93 : decode cX12_round 93 = .ok (.aload_n 0, 1) := by decide +kernel
theorem dX12_round_94 : decode cX12_round 94 = .ok (.iload_n 1, 1) := by decide +kernel
theorem dX12_round_95 : decode cX12_round 95 = .ok (.iload 5, 2) := by decide +kernel
theorem dX12_round_97 : decode cX12_round 97 = .ok (.iload 6, 2) := by decide +kernel
theorem dX12_round_99 : decode cX12_round 99 = .ok (.iload 7, 2) := by decide +kernel
theorem dX12_round_101 : decode cX12_round 101 = .ok (.iload 8, 2) := by decide +kernel
theorem dX12_round_103 : decode cX12_round 103 = .ok (.invokevirtual 73, 3) := by decide +kernel
theorem dX12_round_106 : decode cX12_round 106 = .ok (.ifCond .eq 67, 3) := by decide +kernel
theorem dX12_round_109 : decode cX12_round 109 = .ok (.iload_n 3, 1) := by decide +kernel
theorem dX12_round_110 : decode cX12_round 110 = .ok (.ifCond .ne 17, 3) := by decide +kernel
theorem dX12_round_113 : decode cX12_round 113 = .ok (.aload_n 0, 1) := by decide +kernel
theorem dX12_round_114 : decode cX12_round 114 = .ok (.iload_n 1, 1) := by decide +kernel
theorem dX12_round_115 : decode cX12_round 115 = .ok (.iload 5, 2) := by decide +kernel
theorem dX12_round_117 : decode cX12_round 117 = .ok (.iload 6, 2) := by decide +kernel
theorem dX12_round_119 : decode cX12_round 119 = .ok (.iload 7, 2) := by decide +kernel
theorem dX12_round_121 : decode cX12_round 121 = .ok (.invokevirtual 127, 3) := by decide +kernel
theorem dX12_round_124 : decode cX12_round 124 = .ok (.goto 15, 3) := by decide +kernel
theorem dX12_round_127 : decode cX12_round 127 = .ok (.aload_n 0, 1) := by decide +kernel
theorem dX12_round_128 : decode cX12_round 128 = .ok (.iload_n 1, 1) := by decide +kernel
theorem dX12_round_129 : decode cX12_round 129 = .ok (.iload 5, 2) := by decide +kernel
theorem dX12_round_131 : decode cX12_round 131 = .ok (.iload 6, 2) := by decide +kernel
theorem dX12_round_133 : decode cX12_round 133 = .ok (.iload 7, 2) := by decide +kernel
theorem dX12_round_135 : decode cX12_round 135 = .ok (.iload_n 3, 1) := by decide +kernel
theorem dX12_round_136 : decode cX12_round 136 = .ok (.invokevirtual 130, 3) := by decide +kernel
theorem dX12_round_139 : decode cX12_round 139 = .ok (.istore 10, 2) := by decide +kernel
theorem dX12_round_141 : decode cX12_round 141 = .ok (.aload_n 2, 1) := by decide +kernel
theorem dX12_round_142 : decode cX12_round 142 = .ok (.iload 9, 2) := by decide +kernel
theorem dX12_round_144 : decode cX12_round 144 = .ok (.iload 10, 2) := by decide +kernel
theorem dX12_round_146 : decode cX12_round 146 = .ok (.ifCond .eq 7, 3) := by decide +kernel
theorem dX12_round_149 : decode cX12_round 149 = .ok (.iload_n 3, 1) := by decide +kernel
theorem dX12_round_150 : decode cX12_round 150 = .ok (.goto 4, 3) := by decide +kernel
theorem dX12_round_153 : decode cX12_round 153 = .ok (.iconst (-1), 1) := by decide +kernel
theorem dX12_round_154 : decode cX12_round 154 = .ok (.i2b, 1) := by decide +kernel
theorem dX12_round_155 : decode cX12_round 155 = .ok (.bastore, 1) := by decide +kernel
theorem dX12_round_156 : decode cX12_round 156 = .ok (.iload 4, 2) := by decide +kernel
theorem dX12_round_158 : decode cX12_round 158 = .ok (.ifCond .ne 8, 3) := by decide +kernel
theorem dX12_round_161 : decode cX12_round 161 = .ok (.iload 10, 2) := by decide +kernel
theorem dX12_round_163 : decode cX12_round 163 = .ok (.ifCond .eq 7, 3) := by decide +kernel
theorem dX12_round_166 : decode cX12_round 166 = .ok (.iconst 1, 1) := by decide +kernel
theorem dX12_round_167 : decode cX12_round 167 = .ok (.goto 4, 3) := by decide +kernel
theorem dX12_round_170 : decode cX12_round 170 = .ok (.iconst 0, 1) := by decide +kernel
theorem dX12_round_171 : decode cX12_round 171 = .ok (.istore 4, 2) := by decide +kernel
theorem dX12_round_173 : decode cX12_round 173 = .ok (.iinc 7 1, 3) := by decide +kernel
theorem dX12_round_176 : decode cX12_round 176 = .ok (.goto (-127), 3) := by decide +kernel
theorem dX12_round_179 : decode cX12_round 179 = .ok (.iinc 6 1, 3) := by decide +kernel
theorem dX12_round_182 : decode cX12_round 182 = .ok (.goto (-166), 3) := by decide +kernel
theorem dX12_round_185 : decode cX12_round 185 = .ok (.iinc 5 1, 3) := by decide +kernel
theorem dX12_round_188 : decode cX12_round 188 = .ok (.goto (-182), 3) := by decide +kernel
theorem dX12_round_191 : decode cX12_round 191 = .ok (.iload 4, 2) := by decide +kernel
theorem dX12_round_193 : decode cX12_round 193 = .ok (.ireturn, 1) := by decide +kernel
def kX12_round_139 (mc ms : Nat) (X : Nat → zV) (Q : zQt) : zT :=
  zj X 139 [0, 1, 2, 3, 4, 5, 6, 7, 9]
def kX12_round_124 (mc ms : Nat) (X : Nat → zV) (Q : zQt) : zT :=
  zj X 139 [0, 1, 2, 3, 4, 5, 6, 7, 9]
def kX12_round_106 (mc ms : Nat) (X : Nat → zV) (Q : zQt) : zT :=
  zif (fun x => x = 0) (zj X 173 [0, 1, 2, 3, 4, 5, 6, 7]) <| zli 3 <| zif (fun x => x = 0) (zla 0 <| zli 1 <| zli 5 <| zli 6 <| zli 7 <| zcv mc ms 12 4 wX12_isMate <| kX12_round_124 mc ms X Q) <| zla 0 <| zli 1 <| zli 5 <| zli 6 <| zli 7 <| zli 3 <| zcv mc ms 12 5 wX12_comes <| kX12_round_139 mc ms X Q
def kX12_round_83 (mc ms : Nat) (X : Nat → zV) (Q : zQt) : zT :=
  zsi 9 <| zla 2 <| zli 9 <| zal 3 <| zc (.int (-1)) <| zic (fun x y => x = y) (zla 0 <| zli 1 <| zli 5 <| zli 6 <| zli 7 <| zli 8 <| zcv mc ms 12 5 wX12_isPosition <| kX12_round_106 mc ms X Q) <| zj X 173 [0, 1, 2, 3, 4, 5, 6, 7]
def aX12_round_0 (mc ms : Nat) (X : Nat → zV) (Q : zQt) : zT :=
  zc (.int 0) <| zsi 4 <| zc (.int 0) <| zsi 5 <| zj X 6 [0, 1, 2, 3, 4, 5]
def aX12_round_6 (mc ms : Nat) (X : Nat → zV) (Q : zQt) : zT :=
  zli 5 <| zc (.int 64) <| zic (fun x y => y ≤ x) (zli 4 <| zrz .boolean Q) <| zc (.int 0) <| zsi 6 <| zj X 16 [0, 1, 2, 3, 4, 5, 6]
def aX12_round_16 (mc ms : Nat) (X : Nat → zV) (Q : zQt) : zT :=
  zli 6 <| zc (.int 64) <| zic (fun x y => y ≤ x) (zj X 185 [0, 1, 2, 3, 4, 5]) <| zla 0 <| zgR 12 10 <| zli 1 <| zc (.int 1) <| zic (fun x y => x = y) (zc (.int 64) <| zli 5 <| zii (fun x y => x + y) <| zj X 42 [0, 1, 2, 3, 4, 5, 6]) <| zli 5 <| zj X 42 [0, 1, 2, 3, 4, 5, 6]
def aX12_round_42 (mc ms : Nat) (X : Nat → zV) (Q : zQt) : zT :=
  zal 1 <| zif (fun x => x < 0) (zj X 185 [0, 1, 2, 3, 4, 5]) <| zc (.int 0) <| zsi 7 <| zj X 49 [0, 1, 2, 3, 4, 5, 6, 7]
def aX12_round_49 (mc ms : Nat) (X : Nat → zV) (Q : zQt) : zT :=
  zli 7 <| zc (.int 64) <| zic (fun x y => y ≤ x) (zinc 6 1 <| zj X 16 [0, 1, 2, 3, 4, 5, 6]) <| zli 3 <| zc (.int 2) <| zid (fun x y => x - x / y * y) <| zc (.int 1) <| zic (fun x y => x = y) (zc (.int 1) <| zj X 68 [0, 1, 2, 3, 4, 5, 6, 7]) <| zc (.int 0) <| zj X 68 [0, 1, 2, 3, 4, 5, 6, 7]
def aX12_round_68 (mc ms : Nat) (X : Nat → zV) (Q : zQt) : zT :=
  zsi 8 <| zla 0 <| zli 1 <| zli 5 <| zli 6 <| zli 7 <| zli 8 <| zcv mc ms 12 5 wX12_place <| kX12_round_83 mc ms X Q
def aX12_round_139 (mc ms : Nat) (X : Nat → zV) (Q : zQt) : zT :=
  zsi 10 <| zla 2 <| zli 9 <| zli 10 <| zif (fun x => x = 0) (zc (.int (-1)) <| zj X 154 [0, 1, 2, 3, 4, 5, 6, 7, 10]) <| zli 3 <| zj X 154 [0, 1, 2, 3, 4, 5, 6, 7, 10]
def aX12_round_154 (mc ms : Nat) (X : Nat → zV) (Q : zQt) : zT :=
  zi1 (fun x => x.toInt8.toInt32) <| zas 3 (vp_nar .byte) <| zli 4 <| zif (fun x => x = 0) (zli 10 <| zif (fun x => x = 0) (zc (.int 0) <| zj X 171 [0, 1, 2, 3, 5, 6, 7]) <| zj X 166 [0, 1, 2, 3, 5, 6, 7]) <| zj X 166 [0, 1, 2, 3, 5, 6, 7]
def aX12_round_166 (mc ms : Nat) (X : Nat → zV) (Q : zQt) : zT :=
  zc (.int 1) <| zj X 171 [0, 1, 2, 3, 5, 6, 7]
def aX12_round_171 (mc ms : Nat) (X : Nat → zV) (Q : zQt) : zT :=
  zsi 4 <| zj X 173 [0, 1, 2, 3, 4, 5, 6, 7]
def aX12_round_173 (mc ms : Nat) (X : Nat → zV) (Q : zQt) : zT :=
  zinc 7 1 <| zj X 49 [0, 1, 2, 3, 4, 5, 6, 7]
def aX12_round_185 (mc ms : Nat) (X : Nat → zV) (Q : zQt) : zT :=
  zinc 5 1 <| zj X 6 [0, 1, 2, 3, 4, 5]
def lvX12_round : Nat → List Nat := fun L => match L with
  | 0 => [0, 1, 2, 3]
  | 6 => [0, 1, 2, 3, 4, 5]
  | 16 => [0, 1, 2, 3, 4, 5, 6]
  | 42 => [0, 1, 2, 3, 4, 5, 6]
  | 49 => [0, 1, 2, 3, 4, 5, 6, 7]
  | 68 => [0, 1, 2, 3, 4, 5, 6, 7]
  | 139 => [0, 1, 2, 3, 4, 5, 6, 7, 9]
  | 154 => [0, 1, 2, 3, 4, 5, 6, 7, 10]
  | 166 => [0, 1, 2, 3, 5, 6, 7]
  | 171 => [0, 1, 2, 3, 5, 6, 7]
  | 173 => [0, 1, 2, 3, 4, 5, 6, 7]
  | 185 => [0, 1, 2, 3, 4, 5]
  | _ => []
def wX12_round : zSp := fun mc ms av M Q => ((zlay av).length ≤ 11 ∧ zpick (zlay av) [0, 1, 2, 3] = some av) ∧ ∀ X : Nat → zV, zin 11 [0, 1, 2, 3] (aX12_round_0 mc ms X Q) X 0 → zin 11 [0, 1, 2, 3, 4, 5] (aX12_round_6 mc ms X Q) X 6 → zin 11 [0, 1, 2, 3, 4, 5, 6] (aX12_round_16 mc ms X Q) X 16 → zin 11 [0, 1, 2, 3, 4, 5, 6] (aX12_round_42 mc ms X Q) X 42 → zin 11 [0, 1, 2, 3, 4, 5, 6, 7] (aX12_round_49 mc ms X Q) X 49 → zin 11 [0, 1, 2, 3, 4, 5, 6, 7] (aX12_round_68 mc ms X Q) X 68 → zin 11 [0, 1, 2, 3, 4, 5, 6, 7, 9] (aX12_round_139 mc ms X Q) X 139 → zin 11 [0, 1, 2, 3, 4, 5, 6, 7, 10] (aX12_round_154 mc ms X Q) X 154 → zin 11 [0, 1, 2, 3, 5, 6, 7] (aX12_round_166 mc ms X Q) X 166 → zin 11 [0, 1, 2, 3, 5, 6, 7] (aX12_round_171 mc ms X Q) X 171 → zin 11 [0, 1, 2, 3, 4, 5, 6, 7] (aX12_round_173 mc ms X Q) X 173 → zin 11 [0, 1, 2, 3, 4, 5] (aX12_round_185 mc ms X Q) X 185 → X 0 0 0 av [] M
set_option maxRecDepth 100000 in
set_option maxHeartbeats 4000000 in
theorem sX12_round (l : Launch) (G : zG) : zSnd l G yX12_round cX12_round 11 (some .boolean) 6 165 wX12_round := by
  refine zmk [0, 1, 2, 3] (by decide) (fun mc ms av M Q h => h.1) ?_
  intro p e R s m args below meth c mc ms av M Q hC hRf hRl hr hnm h lv hlv
  obtain ⟨X, hXe⟩ : ∃ X : Nat → zV, X = fun L u v vs st M => ∀ lv, zpick lv (lvX12_round L) = some vs → zAt p l e R s m args below meth c (MQ below (zQ G Q) args s mc ms (zA G)) G 11 L u v lv st M := ⟨_, rfl⟩
  have hJ : ∀ L, zOk p l e R s m args below meth c (MQ below (zQ G Q) args s mc ms (zA G)) G 11 L (zj X L (lvX12_round L)) := fun L => S_jump (fun u v lv vs st M hp hx => by rw [hXe] at hx; exact hx lv hp)
  have hB0 : zin 11 [0, 1, 2, 3] (aX12_round_0 mc ms X Q) X 0 := by
    intro u v vs st M hb
    rw [hXe]
    refine fun lv hp => S_block (L := 0) (live := [0, 1, 2, 3]) ?_ u v lv vs st M hp hb
    unfold aX12_round_0
    refine S_iconst (pc := 0) hC dX12_round_0 (by decide) ?_
    refine S_istore (pc := 1) hC dX12_round_1 (by decide) ?_
    refine S_iconst (pc := 3) hC dX12_round_3 (by decide) ?_
    refine S_istore (pc := 4) hC dX12_round_4 (by decide) ?_
    exact hJ 6
  have hB6 : zin 11 [0, 1, 2, 3, 4, 5] (aX12_round_6 mc ms X Q) X 6 := by
    intro u v vs st M hb
    rw [hXe]
    refine fun lv hp => S_block (L := 6) (live := [0, 1, 2, 3, 4, 5]) ?_ u v lv vs st M hp hb
    unfold aX12_round_6
    refine S_iload (pc := 6) hC dX12_round_6 ?_
    refine S_bipush (pc := 8) hC dX12_round_8 (by decide) ?_
    refine S_icmp_ge (pc := 10) (tgt := 191) hC dX12_round_10 (by decide) ?_ ?_
    · refine S_iload (pc := 191) hC dX12_round_191 ?_
      exact S_zreturn (pc := 193) hC hr dX12_round_193
    · refine S_iconst (pc := 13) hC dX12_round_13 (by decide) ?_
      refine S_istore (pc := 14) hC dX12_round_14 (by decide) ?_
      exact hJ 16
  have hB16 : zin 11 [0, 1, 2, 3, 4, 5, 6] (aX12_round_16 mc ms X Q) X 16 := by
    intro u v vs st M hb
    rw [hXe]
    refine fun lv hp => S_block (L := 16) (live := [0, 1, 2, 3, 4, 5, 6]) ?_ u v lv vs st M hp hb
    unfold aX12_round_16
    refine S_iload (pc := 16) hC dX12_round_16 ?_
    refine S_bipush (pc := 18) hC dX12_round_18 (by decide) ?_
    refine S_icmp_ge (pc := 20) (tgt := 185) hC dX12_round_20 (by decide) ?_ ?_
    · exact hJ 185
    · refine S_aload_n (pc := 23) hC dX12_round_23 rfl ?_
      refine S_getR (pc := 24) hC cfX12 (by decide) (Or.inr ⟨_, rfl⟩) wd_1212 dX12_round_24 ?_
      refine S_iload_n (pc := 27) hC dX12_round_27 rfl ?_
      refine S_iconst (pc := 28) hC dX12_round_28 (by decide) ?_
      refine S_icmp_ne (pc := 29) (tgt := 40) hC dX12_round_29 (by decide) ?_ ?_
      · refine S_iload (pc := 40) hC dX12_round_40 ?_
        exact hJ 42
      · refine S_bipush (pc := 32) hC dX12_round_32 (by decide) ?_
        refine S_iload (pc := 34) hC dX12_round_34 ?_
        refine S_iadd (pc := 36) hC dX12_round_36 ?_
        refine S_goto (pc := 37) (tgt := 42) hC dX12_round_37 (by decide) ?_
        exact hJ 42
  have hB42 : zin 11 [0, 1, 2, 3, 4, 5, 6] (aX12_round_42 mc ms X Q) X 42 := by
    intro u v vs st M hb
    rw [hXe]
    refine fun lv hp => S_block (L := 42) (live := [0, 1, 2, 3, 4, 5, 6]) ?_ u v lv vs st M hp hb
    unfold aX12_round_42
    refine S_iaload (pc := 42) hC dX12_round_42 ?_
    refine S_if_lt (pc := 43) (tgt := 185) hC dX12_round_43 (by decide) ?_ ?_
    · exact hJ 185
    · refine S_iconst (pc := 46) hC dX12_round_46 (by decide) ?_
      refine S_istore (pc := 47) hC dX12_round_47 (by decide) ?_
      exact hJ 49
  have hB49 : zin 11 [0, 1, 2, 3, 4, 5, 6, 7] (aX12_round_49 mc ms X Q) X 49 := by
    intro u v vs st M hb
    rw [hXe]
    refine fun lv hp => S_block (L := 49) (live := [0, 1, 2, 3, 4, 5, 6, 7]) ?_ u v lv vs st M hp hb
    unfold aX12_round_49
    refine S_iload (pc := 49) hC dX12_round_49 ?_
    refine S_bipush (pc := 51) hC dX12_round_51 (by decide) ?_
    refine S_icmp_ge (pc := 53) (tgt := 179) hC dX12_round_53 (by decide) ?_ ?_
    · refine S_iinc (pc := 179) hC dX12_round_179 (by decide) (by decide) ?_
      refine S_goto (pc := 182) (tgt := 16) hC dX12_round_182 (by decide) ?_
      exact hJ 16
    · refine S_iload_n (pc := 56) hC dX12_round_56 rfl ?_
      refine S_iconst (pc := 57) hC dX12_round_57 (by decide) ?_
      refine S_irem (pc := 58) hC dX12_round_58 ?_
      refine S_iconst (pc := 59) hC dX12_round_59 (by decide) ?_
      refine S_icmp_ne (pc := 60) (tgt := 67) hC dX12_round_60 (by decide) ?_ ?_
      · refine S_iconst (pc := 67) hC dX12_round_67 (by decide) ?_
        exact hJ 68
      · refine S_iconst (pc := 63) hC dX12_round_63 (by decide) ?_
        refine S_goto (pc := 64) (tgt := 68) hC dX12_round_64 (by decide) ?_
        exact hJ 68
  have hB68 : zin 11 [0, 1, 2, 3, 4, 5, 6, 7] (aX12_round_68 mc ms X Q) X 68 := by
    intro u v vs st M hb
    rw [hXe]
    refine fun lv hp => S_block (L := 68) (live := [0, 1, 2, 3, 4, 5, 6, 7]) ?_ u v lv vs st M hp hb
    unfold aX12_round_68
    refine S_istore (pc := 68) hC dX12_round_68 (by decide) ?_
    refine S_aload_n (pc := 70) hC dX12_round_70 rfl ?_
    refine S_iload_n (pc := 71) hC dX12_round_71 rfl ?_
    refine S_iload (pc := 72) hC dX12_round_72 ?_
    refine S_iload (pc := 74) hC dX12_round_74 ?_
    refine S_iload (pc := 76) hC dX12_round_76 ?_
    refine S_iload (pc := 78) hC dX12_round_78 ?_
    refine S_callV (pc := 80) hC (sX12_place l G) rfl wd_1704 wd_1706 ws_120 wd_13 wd_1707 (by decide +kernel) ⟨by rw [hRf]; decide, by rw [hRl]; decide⟩ dX12_round_80 ?_
    unfold kX12_round_83
    refine S_istore (pc := 83) hC dX12_round_83 (by decide) ?_
    refine S_aload_n (pc := 85) hC dX12_round_85 rfl ?_
    refine S_iload (pc := 86) hC dX12_round_86 ?_
    refine S_baload (pc := 88) hC dX12_round_88 ?_
    refine S_iconst (pc := 89) hC dX12_round_89 (by decide) ?_
    refine S_icmp_ne (pc := 90) (tgt := 173) hC dX12_round_90 (by decide) ?_ ?_
    · exact hJ 173
    · refine S_aload_n (pc := 93) hC dX12_round_93 rfl ?_
      refine S_iload_n (pc := 94) hC dX12_round_94 rfl ?_
      refine S_iload (pc := 95) hC dX12_round_95 ?_
      refine S_iload (pc := 97) hC dX12_round_97 ?_
      refine S_iload (pc := 99) hC dX12_round_99 ?_
      refine S_iload (pc := 101) hC dX12_round_101 ?_
      refine S_callV (pc := 103) hC (sX12_isPosition l G) rfl wd_1708 wd_1710 ws_121 wd_13 wd_1711 (by decide +kernel) ⟨by rw [hRf]; decide, by rw [hRl]; decide⟩ dX12_round_103 ?_
      unfold kX12_round_106
      refine S_if_eq (pc := 106) (tgt := 173) hC dX12_round_106 (by decide) ?_ ?_
      · exact hJ 173
      · refine S_iload_n (pc := 109) hC dX12_round_109 rfl ?_
        refine S_if_ne (pc := 110) (tgt := 127) hC dX12_round_110 (by decide) ?_ ?_
        · refine S_aload_n (pc := 127) hC dX12_round_127 rfl ?_
          refine S_iload_n (pc := 128) hC dX12_round_128 rfl ?_
          refine S_iload (pc := 129) hC dX12_round_129 ?_
          refine S_iload (pc := 131) hC dX12_round_131 ?_
          refine S_iload (pc := 133) hC dX12_round_133 ?_
          refine S_iload_n (pc := 135) hC dX12_round_135 rfl ?_
          refine S_callV (pc := 136) hC (sX12_comes l G) rfl wd_1759 wd_1761 ws_133 wd_13 wd_1762 (by decide +kernel) ⟨by rw [hRf]; decide, by rw [hRl]; decide⟩ dX12_round_136 ?_
          unfold kX12_round_139
          exact hJ 139
        · refine S_aload_n (pc := 113) hC dX12_round_113 rfl ?_
          refine S_iload_n (pc := 114) hC dX12_round_114 rfl ?_
          refine S_iload (pc := 115) hC dX12_round_115 ?_
          refine S_iload (pc := 117) hC dX12_round_117 ?_
          refine S_iload (pc := 119) hC dX12_round_119 ?_
          refine S_callV (pc := 121) hC (sX12_isMate l G) rfl wd_1727 wd_1729 ws_125 wd_13 wd_1730 (by decide +kernel) ⟨by rw [hRf]; decide, by rw [hRl]; decide⟩ dX12_round_121 ?_
          unfold kX12_round_124
          refine S_goto (pc := 124) (tgt := 139) hC dX12_round_124 (by decide) ?_
          exact hJ 139
  have hB139 : zin 11 [0, 1, 2, 3, 4, 5, 6, 7, 9] (aX12_round_139 mc ms X Q) X 139 := by
    intro u v vs st M hb
    rw [hXe]
    refine fun lv hp => S_block (L := 139) (live := [0, 1, 2, 3, 4, 5, 6, 7, 9]) ?_ u v lv vs st M hp hb
    unfold aX12_round_139
    refine S_istore (pc := 139) hC dX12_round_139 (by decide) ?_
    refine S_aload_n (pc := 141) hC dX12_round_141 rfl ?_
    refine S_iload (pc := 142) hC dX12_round_142 ?_
    refine S_iload (pc := 144) hC dX12_round_144 ?_
    refine S_if_eq (pc := 146) (tgt := 153) hC dX12_round_146 (by decide) ?_ ?_
    · refine S_iconst (pc := 153) hC dX12_round_153 (by decide) ?_
      exact hJ 154
    · refine S_iload_n (pc := 149) hC dX12_round_149 rfl ?_
      refine S_goto (pc := 150) (tgt := 154) hC dX12_round_150 (by decide) ?_
      exact hJ 154
  have hB154 : zin 11 [0, 1, 2, 3, 4, 5, 6, 7, 10] (aX12_round_154 mc ms X Q) X 154 := by
    intro u v vs st M hb
    rw [hXe]
    refine fun lv hp => S_block (L := 154) (live := [0, 1, 2, 3, 4, 5, 6, 7, 10]) ?_ u v lv vs st M hp hb
    unfold aX12_round_154
    refine S_i2b (pc := 154) hC dX12_round_154 ?_
    refine S_bastore (pc := 155) hC dX12_round_155 ?_
    refine S_iload (pc := 156) hC dX12_round_156 ?_
    refine S_if_ne (pc := 158) (tgt := 166) hC dX12_round_158 (by decide) ?_ ?_
    · exact hJ 166
    · refine S_iload (pc := 161) hC dX12_round_161 ?_
      refine S_if_eq (pc := 163) (tgt := 170) hC dX12_round_163 (by decide) ?_ ?_
      · refine S_iconst (pc := 170) hC dX12_round_170 (by decide) ?_
        exact hJ 171
      · exact hJ 166
  have hB166 : zin 11 [0, 1, 2, 3, 5, 6, 7] (aX12_round_166 mc ms X Q) X 166 := by
    intro u v vs st M hb
    rw [hXe]
    refine fun lv hp => S_block (L := 166) (live := [0, 1, 2, 3, 5, 6, 7]) ?_ u v lv vs st M hp hb
    unfold aX12_round_166
    refine S_iconst (pc := 166) hC dX12_round_166 (by decide) ?_
    refine S_goto (pc := 167) (tgt := 171) hC dX12_round_167 (by decide) ?_
    exact hJ 171
  have hB171 : zin 11 [0, 1, 2, 3, 5, 6, 7] (aX12_round_171 mc ms X Q) X 171 := by
    intro u v vs st M hb
    rw [hXe]
    refine fun lv hp => S_block (L := 171) (live := [0, 1, 2, 3, 5, 6, 7]) ?_ u v lv vs st M hp hb
    unfold aX12_round_171
    refine S_istore (pc := 171) hC dX12_round_171 (by decide) ?_
    exact hJ 173
  have hB173 : zin 11 [0, 1, 2, 3, 4, 5, 6, 7] (aX12_round_173 mc ms X Q) X 173 := by
    intro u v vs st M hb
    rw [hXe]
    refine fun lv hp => S_block (L := 173) (live := [0, 1, 2, 3, 4, 5, 6, 7]) ?_ u v lv vs st M hp hb
    unfold aX12_round_173
    refine S_iinc (pc := 173) hC dX12_round_173 (by decide) (by decide) ?_
    refine S_goto (pc := 176) (tgt := 49) hC dX12_round_176 (by decide) ?_
    exact hJ 49
  have hB185 : zin 11 [0, 1, 2, 3, 4, 5] (aX12_round_185 mc ms X Q) X 185 := by
    intro u v vs st M hb
    rw [hXe]
    refine fun lv hp => S_block (L := 185) (live := [0, 1, 2, 3, 4, 5]) ?_ u v lv vs st M hp hb
    unfold aX12_round_185
    refine S_iinc (pc := 185) hC dX12_round_185 (by decide) (by decide) ?_
    refine S_goto (pc := 188) (tgt := 6) hC dX12_round_188 (by decide) ?_
    exact hJ 6
  have := h.2 X hB0 hB6 hB16 hB42 hB49 hB68 hB139 hB154 hB166 hB171 hB173 hB185
  rw [hXe] at this
  exact this lv hlv
theorem vX12_round_0 {mc ms : Nat} {X : Nat → zV} {Q : zQt} {M : zM} {x1 : Int32} {x2 : Nat} {x2n : Nat} {x3 : Int32} (hW : zFix M) (hx2 : zsh M x2 = some (3, x2n)) (h : X 6 0 0 [.ref 71, .int x1, .ref x2, .int x3, .int 0, .int 0] [] M) : aX12_round_0 mc ms X Q 0 0 [some (.ref 71), some (.int x1), some (.ref x2), some (.int x3), none, none, none, none, none, none, none] [] M := h
theorem vX12_round_6 {mc ms : Nat} {X : Nat → zV} {Q : zQt} {M : zM} {x1 : Int32} {x2 : Nat} {x2n : Nat} {x3 : Int32} {x4 : Int32} {x5 : Int32} (hW : zFix M) (hx2 : zsh M x2 = some (3, x2n)) (h : ((64 : Int32) ≤ x5 → narrow .boolean (.int x4) = .int x4 ∧ Q (some (.int x4)) M) ∧ (¬ (64 : Int32) ≤ x5 → X 16 0 0 [.ref 71, .int x1, .ref x2, .int x3, .int x4, .int x5, .int 0] [] M)) : aX12_round_6 mc ms X Q 0 0 [some (.ref 71), some (.int x1), some (.ref x2), some (.int x3), some (.int x4), some (.int x5), none, none, none, none, none] [] M := ⟨fun c10 => (h.1 c10), fun c10 => (h.2 c10)⟩
theorem vX12_round_16 {mc ms : Nat} {X : Nat → zV} {Q : zQt} {M : zM} {x1 : Int32} {x2 : Nat} {x2n : Nat} {x3 : Int32} {x4 : Int32} {x5 : Int32} {x6 : Int32} (hW : zFix M) (hx2 : zsh M x2 = some (3, x2n)) (h : ((64 : Int32) ≤ x6 → X 185 0 0 [.ref 71, .int x1, .ref x2, .int x3, .int x4, .int x5] [] M) ∧ (¬ (64 : Int32) ≤ x6 → (x1 = (1 : Int32) → X 42 0 0 [.ref 71, .int x1, .ref x2, .int x3, .int x4, .int x5, .int x6] [.int ((64 : Int32) + x5), .ref 75] M) ∧ (¬ x1 = (1 : Int32) → X 42 0 0 [.ref 71, .int x1, .ref x2, .int x3, .int x4, .int x5, .int x6] [.int x5, .ref 75] M))) : aX12_round_16 mc ms X Q 0 0 [some (.ref 71), some (.int x1), some (.ref x2), some (.int x3), some (.int x4), some (.int x5), some (.int x6), none, none, none, none] [] M := ⟨fun c20 => (h.1 c20), fun c20 => ⟨(fxs_71 hW), 75, (fxr_71_10 hW), ⟨fun c29 => ((h.2 c20).1 c29), fun c29 => ((h.2 c20).2 c29)⟩⟩⟩
theorem vX12_round_42 {mc ms : Nat} {X : Nat → zV} {Q : zQt} {M : zM} {x1 : Int32} {x2 : Nat} {x2n : Nat} {x3 : Int32} {x4 : Int32} {x5 : Int32} {x6 : Int32} {s0 : Int32} (hW : zFix M) (hx2 : zsh M x2 = some (3, x2n)) (h : vp_in s0 128 ∧ (((M : zM).1 75 (s0 : Int32).toNatClampNeg) < 0 → X 185 0 0 [.ref 71, .int x1, .ref x2, .int x3, .int x4, .int x5] [] M) ∧ (¬ ((M : zM).1 75 (s0 : Int32).toNatClampNeg) < 0 → X 49 0 0 [.ref 71, .int x1, .ref x2, .int x3, .int x4, .int x5, .int x6, .int 0] [] M)) : aX12_round_42 mc ms X Q 0 0 [some (.ref 71), some (.int x1), some (.ref x2), some (.int x3), some (.int x4), some (.int x5), some (.int x6), none, none, none, none] [.int s0, .ref 75] M := ⟨128, (fxs_75 hW), h.1, ⟨fun c43 => (h.2.1 c43), fun c43 => (h.2.2 c43)⟩⟩
theorem vX12_round_49 {mc ms : Nat} {X : Nat → zV} {Q : zQt} {M : zM} {x1 : Int32} {x2 : Nat} {x2n : Nat} {x3 : Int32} {x4 : Int32} {x5 : Int32} {x6 : Int32} {x7 : Int32} (hW : zFix M) (hx2 : zsh M x2 = some (3, x2n)) (h : ((64 : Int32) ≤ x7 → X 16 0 0 [.ref 71, .int x1, .ref x2, .int x3, .int x4, .int x5, .int (x6 + 1)] [] M) ∧ (¬ (64 : Int32) ≤ x7 → ((x3 - x3 / (2 : Int32) * (2 : Int32)) = (1 : Int32) → X 68 0 0 [.ref 71, .int x1, .ref x2, .int x3, .int x4, .int x5, .int x6, .int x7] [.int 1] M) ∧ (¬ (x3 - x3 / (2 : Int32) * (2 : Int32)) = (1 : Int32) → X 68 0 0 [.ref 71, .int x1, .ref x2, .int x3, .int x4, .int x5, .int x6, .int x7] [.int 0] M))) : aX12_round_49 mc ms X Q 0 0 [some (.ref 71), some (.int x1), some (.ref x2), some (.int x3), some (.int x4), some (.int x5), some (.int x6), some (.int x7), none, none, none] [] M := ⟨fun c53 => (h.1 c53), fun c53 => ⟨by decide, ⟨fun c60 => ((h.2 c53).1 c60), fun c60 => ((h.2 c53).2 c60)⟩⟩⟩
theorem vX12_round_68 {mc ms : Nat} {X : Nat → zV} {Q : zQt} {M : zM} {x1 : Int32} {x2 : Nat} {x2n : Nat} {x3 : Int32} {x4 : Int32} {x5 : Int32} {x6 : Int32} {x7 : Int32} {s0 : Int32} (hW : zFix M) (hx2 : zsh M x2 = some (3, x2n)) (h : wX12_place 0 0 [.ref 71, .int x1, .int x5, .int x6, .int x7, .int s0] M (fun r M1 => kX12_round_83 mc ms X Q 0 0 [some (.ref 71), some (.int x1), some (.ref x2), some (.int x3), some (.int x4), some (.int x5), some (.int x6), some (.int x7), some (.int s0), none, none] (r.toList ++ []) M1)) : aX12_round_68 mc ms X Q 0 0 [some (.ref 71), some (.int x1), some (.ref x2), some (.int x3), some (.int x4), some (.int x5), some (.int x6), some (.int x7), none, none, none] [.int s0] M := ⟨Nat.le_of_ble_eq_true rfl, rfl, (fxs_71 hW), 0, 0, Nat.zero_le _, Nat.zero_le _, h⟩
theorem vX12_round_139 {mc ms : Nat} {X : Nat → zV} {Q : zQt} {M : zM} {x1 : Int32} {x2 : Nat} {x2n : Nat} {x3 : Int32} {x4 : Int32} {x5 : Int32} {x6 : Int32} {x7 : Int32} {x9 : Int32} {s0 : Int32} (hW : zFix M) (hx2 : zsh M x2 = some (3, x2n)) (h : (s0 = 0 → X 154 0 0 [.ref 71, .int x1, .ref x2, .int x3, .int x4, .int x5, .int x6, .int x7, .int s0] [.int (-1), .int x9, .ref x2] M) ∧ (¬ s0 = 0 → X 154 0 0 [.ref 71, .int x1, .ref x2, .int x3, .int x4, .int x5, .int x6, .int x7, .int s0] [.int x3, .int x9, .ref x2] M)) : aX12_round_139 mc ms X Q 0 0 [some (.ref 71), some (.int x1), some (.ref x2), some (.int x3), some (.int x4), some (.int x5), some (.int x6), some (.int x7), none, some (.int x9), none] [.int s0] M := ⟨fun c146 => (h.1 c146), fun c146 => (h.2 c146)⟩
theorem vX12_round_154 {mc ms : Nat} {X : Nat → zV} {Q : zQt} {M : zM} {x1 : Int32} {x2 : Nat} {x2n : Nat} {x3 : Int32} {x4 : Int32} {x5 : Int32} {x6 : Int32} {x7 : Int32} {x10 : Int32} {s0 : Int32} {s1 : Int32} {s2 : Nat} {s2n : Nat} (hW : zFix M) (hx2 : zsh M x2 = some (3, x2n)) (hs2 : zsh M s2 = some (3, s2n)) (h : vp_in s1 s2n ∧ ∀ M155 : zM, M155 = (zsI M s2 (s1 : Int32).toNatClampNeg (vp_nar .byte ((s0.toInt8.toInt32)))) → (x4 = 0 → (x10 = 0 → X 171 0 0 [.ref 71, .int x1, .ref x2, .int x3, .int x5, .int x6, .int x7] [.int 0] M155) ∧ (¬ x10 = 0 → X 166 0 0 [.ref 71, .int x1, .ref x2, .int x3, .int x5, .int x6, .int x7] [] M155)) ∧ (¬ x4 = 0 → X 166 0 0 [.ref 71, .int x1, .ref x2, .int x3, .int x5, .int x6, .int x7] [] M155)) : aX12_round_154 mc ms X Q 0 0 [some (.ref 71), some (.int x1), some (.ref x2), some (.int x3), some (.int x4), some (.int x5), some (.int x6), some (.int x7), none, none, some (.int x10)] [.int s0, .int s1, .ref s2] M := ⟨s2n, hs2, h.1, (have h155 := h.2 _ rfl; ⟨fun c158 => ⟨fun c163 => ((h155.1 c158).1 c163), fun c163 => ((h155.1 c158).2 c163)⟩, fun c158 => (h155.2 c158)⟩)⟩
theorem vX12_round_166 {mc ms : Nat} {X : Nat → zV} {Q : zQt} {M : zM} {x1 : Int32} {x2 : Nat} {x2n : Nat} {x3 : Int32} {x5 : Int32} {x6 : Int32} {x7 : Int32} (hW : zFix M) (hx2 : zsh M x2 = some (3, x2n)) (h : X 171 0 0 [.ref 71, .int x1, .ref x2, .int x3, .int x5, .int x6, .int x7] [.int 1] M) : aX12_round_166 mc ms X Q 0 0 [some (.ref 71), some (.int x1), some (.ref x2), some (.int x3), none, some (.int x5), some (.int x6), some (.int x7), none, none, none] [] M := h
theorem vX12_round_171 {mc ms : Nat} {X : Nat → zV} {Q : zQt} {M : zM} {x1 : Int32} {x2 : Nat} {x2n : Nat} {x3 : Int32} {x5 : Int32} {x6 : Int32} {x7 : Int32} {s0 : Int32} (hW : zFix M) (hx2 : zsh M x2 = some (3, x2n)) (h : X 173 0 0 [.ref 71, .int x1, .ref x2, .int x3, .int s0, .int x5, .int x6, .int x7] [] M) : aX12_round_171 mc ms X Q 0 0 [some (.ref 71), some (.int x1), some (.ref x2), some (.int x3), none, some (.int x5), some (.int x6), some (.int x7), none, none, none] [.int s0] M := h
theorem vX12_round_173 {mc ms : Nat} {X : Nat → zV} {Q : zQt} {M : zM} {x1 : Int32} {x2 : Nat} {x2n : Nat} {x3 : Int32} {x4 : Int32} {x5 : Int32} {x6 : Int32} {x7 : Int32} (hW : zFix M) (hx2 : zsh M x2 = some (3, x2n)) (h : X 49 0 0 [.ref 71, .int x1, .ref x2, .int x3, .int x4, .int x5, .int x6, .int (x7 + 1)] [] M) : aX12_round_173 mc ms X Q 0 0 [some (.ref 71), some (.int x1), some (.ref x2), some (.int x3), some (.int x4), some (.int x5), some (.int x6), some (.int x7), none, none, none] [] M := h
theorem vX12_round_185 {mc ms : Nat} {X : Nat → zV} {Q : zQt} {M : zM} {x1 : Int32} {x2 : Nat} {x2n : Nat} {x3 : Int32} {x4 : Int32} {x5 : Int32} (hW : zFix M) (hx2 : zsh M x2 = some (3, x2n)) (h : X 6 0 0 [.ref 71, .int x1, .ref x2, .int x3, .int x4, .int (x5 + 1)] [] M) : aX12_round_185 mc ms X Q 0 0 [some (.ref 71), some (.int x1), some (.ref x2), some (.int x3), some (.int x4), some (.int x5), none, none, none, none, none] [] M := h
theorem vkX12_round_83 {mc ms : Nat} {X : Nat → zV} {Q : zQt} {M : zM} {x1 : Int32} {x2 : Nat} {x2n : Nat} {x3 : Int32} {x4 : Int32} {x5 : Int32} {x6 : Int32} {x7 : Int32} {x8 : Int32} {s0 : Int32} (hW : zFix M) (hx2 : zsh M x2 = some (3, x2n)) (h : vp_in s0 x2n ∧ (((M : zM).1 x2 (s0 : Int32).toNatClampNeg) = ((-1) : Int32) → wX12_isPosition 0 0 [.ref 71, .int x1, .int x5, .int x6, .int x7, .int x8] M (fun r M1 => kX12_round_106 mc ms X Q 0 0 [some (.ref 71), some (.int x1), some (.ref x2), some (.int x3), some (.int x4), some (.int x5), some (.int x6), some (.int x7), some (.int x8), some (.int s0), none] (r.toList ++ []) M1)) ∧ (¬ ((M : zM).1 x2 (s0 : Int32).toNatClampNeg) = ((-1) : Int32) → X 173 0 0 [.ref 71, .int x1, .ref x2, .int x3, .int x4, .int x5, .int x6, .int x7] [] M)) : kX12_round_83 mc ms X Q 0 0 [some (.ref 71), some (.int x1), some (.ref x2), some (.int x3), some (.int x4), some (.int x5), some (.int x6), some (.int x7), some (.int x8), none, none] [.int s0] M := ⟨x2n, hx2, h.1, ⟨fun c90 => ⟨Nat.le_of_ble_eq_true rfl, rfl, (fxs_71 hW), 0, 0, Nat.zero_le _, Nat.zero_le _, (h.2.1 c90)⟩, fun c90 => (h.2.2 c90)⟩⟩
theorem vkX12_round_106 {mc ms : Nat} {X : Nat → zV} {Q : zQt} {M : zM} {x1 : Int32} {x2 : Nat} {x2n : Nat} {x3 : Int32} {x4 : Int32} {x5 : Int32} {x6 : Int32} {x7 : Int32} {x8 : Int32} {x9 : Int32} {s0 : Int32} (hW : zFix M) (hx2 : zsh M x2 = some (3, x2n)) (h : (s0 = 0 → X 173 0 0 [.ref 71, .int x1, .ref x2, .int x3, .int x4, .int x5, .int x6, .int x7] [] M) ∧ (¬ s0 = 0 → (x3 = 0 → wX12_isMate 0 0 [.ref 71, .int x1, .int x5, .int x6, .int x7] M (fun r M1 => kX12_round_124 mc ms X Q 0 0 [some (.ref 71), some (.int x1), some (.ref x2), some (.int x3), some (.int x4), some (.int x5), some (.int x6), some (.int x7), some (.int x8), some (.int x9), none] (r.toList ++ []) M1)) ∧ (¬ x3 = 0 → wX12_comes 0 0 [.ref 71, .int x1, .int x5, .int x6, .int x7, .int x3] M (fun r M1 => kX12_round_139 mc ms X Q 0 0 [some (.ref 71), some (.int x1), some (.ref x2), some (.int x3), some (.int x4), some (.int x5), some (.int x6), some (.int x7), some (.int x8), some (.int x9), none] (r.toList ++ []) M1)))) : kX12_round_106 mc ms X Q 0 0 [some (.ref 71), some (.int x1), some (.ref x2), some (.int x3), some (.int x4), some (.int x5), some (.int x6), some (.int x7), some (.int x8), some (.int x9), none] [.int s0] M := ⟨fun c106 => (h.1 c106), fun c106 => ⟨fun c110 => ⟨Nat.le_of_ble_eq_true rfl, rfl, (fxs_71 hW), 0, 0, Nat.zero_le _, Nat.zero_le _, ((h.2 c106).1 c110)⟩, fun c110 => ⟨Nat.le_of_ble_eq_true rfl, rfl, (fxs_71 hW), 0, 0, Nat.zero_le _, Nat.zero_le _, ((h.2 c106).2 c110)⟩⟩⟩
theorem vkX12_round_124 {mc ms : Nat} {X : Nat → zV} {Q : zQt} {M : zM} {x1 : Int32} {x2 : Nat} {x2n : Nat} {x3 : Int32} {x4 : Int32} {x5 : Int32} {x6 : Int32} {x7 : Int32} {x8 : Int32} {x9 : Int32} {s0 : Int32} (hW : zFix M) (hx2 : zsh M x2 = some (3, x2n)) (h : X 139 0 0 [.ref 71, .int x1, .ref x2, .int x3, .int x4, .int x5, .int x6, .int x7, .int x9] [.int s0] M) : kX12_round_124 mc ms X Q 0 0 [some (.ref 71), some (.int x1), some (.ref x2), some (.int x3), some (.int x4), some (.int x5), some (.int x6), some (.int x7), some (.int x8), some (.int x9), none] [.int s0] M := h
theorem vkX12_round_139 {mc ms : Nat} {X : Nat → zV} {Q : zQt} {M : zM} {x1 : Int32} {x2 : Nat} {x2n : Nat} {x3 : Int32} {x4 : Int32} {x5 : Int32} {x6 : Int32} {x7 : Int32} {x8 : Int32} {x9 : Int32} {s0 : Int32} (hW : zFix M) (hx2 : zsh M x2 = some (3, x2n)) (h : X 139 0 0 [.ref 71, .int x1, .ref x2, .int x3, .int x4, .int x5, .int x6, .int x7, .int x9] [.int s0] M) : kX12_round_139 mc ms X Q 0 0 [some (.ref 71), some (.int x1), some (.ref x2), some (.int x3), some (.int x4), some (.int x5), some (.int x6), some (.int x7), some (.int x8), some (.int x9), none] [.int s0] M := h
theorem dX12_rounds_0 : decode cX12_rounds 0 = .ok (.aload_n 0, 1) := by decide +kernel
theorem dX12_rounds_1 : decode cX12_rounds 1 = .ok (.getfield 18, 3) := by decide +kernel
theorem dX12_rounds_4 : decode cX12_rounds 4 = .ok (.iload_n 1, 1) := by decide +kernel
theorem dX12_rounds_5 : decode cX12_rounds 5 = .ok (.baload, 1) := by decide +kernel
theorem dX12_rounds_6 : decode cX12_rounds 6 = .ok (.ifCond .eq 4, 3) := by decide +kernel
theorem dX12_rounds_9 : decode cX12_rounds 9 = .ok (.return_, 1) := by decide +kernel
theorem dX12_rounds_10 : decode cX12_rounds 10 = .ok (.aload_n 0, 1) := by decide +kernel
theorem dX12_rounds_11 : decode cX12_rounds 11 = .ok (.getfield 18, 3) := by decide +kernel
theorem dX12_rounds_14 : decode cX12_rounds 14 = .ok (.iload_n 1, 1) := by decide +kernel
theorem dX12_rounds_15 : decode cX12_rounds 15 = .ok (.iconst 1, 1) := by decide +kernel
theorem dX12_rounds_16 : decode cX12_rounds 16 = .ok (.bastore, 1) := by decide +kernel
theorem dX12_rounds_17 : decode cX12_rounds 17 = .ok (.aload_n 0, 1) := by decide +kernel
theorem dX12_rounds_18 : decode cX12_rounds 18 = .ok (.getfield 22, 3) := by decide +kernel
theorem dX12_rounds_21 : decode cX12_rounds 21 = .ok (.iload_n 1, 1) := by decide +kernel
theorem dX12_rounds_22 : decode cX12_rounds 22 = .ok (.iconst (-1), 1) := by decide +kernel
theorem dX12_rounds_23 : decode cX12_rounds 23 = .ok (.iastore, 1) := by decide +kernel
theorem dX12_rounds_24 : decode cX12_rounds 24 = .ok (.aload_n 0, 1) := by decide +kernel
theorem dX12_rounds_25 : decode cX12_rounds 25 = .ok (.iload_n 1, 1) := by decide +kernel
theorem dX12_rounds_26 : decode cX12_rounds 26 = .ok (.invokevirtual 137, 3) := by decide +kernel
theorem dX12_rounds_29 : decode cX12_rounds 29 = .ok (.newarray .byte, 2) := by decide +kernel
theorem dX12_rounds_31 : decode cX12_rounds 31 = .ok (.astore_n 3, 1) := by decide +kernel
theorem dX12_rounds_32 : decode cX12_rounds 32 = .ok (.iconst 0, 1) := by decide +kernel
theorem dX12_rounds_33 : decode cX12_rounds 33 = .ok (.istore 4, 2) := by decide +kernel
theorem dX12_rounds_35 : decode cX12_rounds 35 = .ok (.iload 4, 2) := by decide +kernel
theorem dX12_rounds_37 : decode cX12_rounds 37 = .ok (.aload_n 3, 1) := by decide +kernel
theorem dX12_rounds_38 : decode cX12_rounds 38 = .ok (.arraylength, 1) := by decide +kernel
theorem dX12_rounds_39 : decode cX12_rounds 39 = .ok (.if_icmp .ge 14, 3) := by decide +kernel
theorem dX12_rounds_42 : decode cX12_rounds 42 = .ok (.aload_n 3, 1) := by decide +kernel
theorem dX12_rounds_43 : decode cX12_rounds 43 = .ok (.iload 4, 2) := by decide +kernel
theorem dX12_rounds_45 : decode cX12_rounds 45 = .ok (.iconst (-1), 1) := by decide +kernel
theorem dX12_rounds_46 : decode cX12_rounds 46 = .ok (.bastore, 1) := by decide +kernel
theorem dX12_rounds_47 : decode cX12_rounds 47 = .ok (.iinc 4 1, 3) := by decide +kernel
theorem dX12_rounds_50 : decode cX12_rounds 50 = .ok (.goto (-15), 3) := by decide +kernel
theorem dX12_rounds_53 : decode cX12_rounds 53 = .ok (.aload_n 0, 1) := by decide +kernel
theorem dX12_rounds_54 : decode cX12_rounds 54 = .ok (.iload_n 1, 1) := by decide +kernel
theorem dX12_rounds_55 : decode cX12_rounds 55 = .ok (.aload_n 3, 1) := by decide +kernel
theorem dX12_rounds_56 : decode cX12_rounds 56 = .ok (.invokevirtual 140, 3) := by decide +kernel
theorem dX12_rounds_59 : decode cX12_rounds 59 = .ok (.iconst 0, 1) := by decide +kernel
theorem dX12_rounds_60 : decode cX12_rounds 60 = .ok (.istore 4, 2) := by decide +kernel
theorem dX12_rounds_62 : decode cX12_rounds 62 = .ok (.iconst 0, 1) := by decide +kernel
theorem dX12_rounds_63 : decode cX12_rounds 63 = .ok (.istore 5, 2) := by decide +kernel
theorem dX12_rounds_65 : decode cX12_rounds 65 = .ok (.iload 4, 2) := by decide +kernel
theorem dX12_rounds_67 : decode cX12_rounds 67 = .ok (.iconst 2, 1) := by decide +kernel
theorem dX12_rounds_68 : decode cX12_rounds 68 = .ok (.if_icmp .lt 11, 3) := by decide +kernel
theorem dX12_rounds_71 : decode cX12_rounds 71 = .ok (.iload 5, 2) := by decide +kernel
theorem dX12_rounds_73 : decode cX12_rounds 73 = .ok (.iload_n 2, 1) := by decide +kernel
theorem dX12_rounds_74 : decode cX12_rounds 74 = .ok (.iconst 2, 1) := by decide +kernel
theorem dX12_rounds_75 : decode cX12_rounds 75 = .ok (.iadd, 1) := by decide +kernel
theorem dX12_rounds_76 : decode cX12_rounds 76 = .ok (.if_icmp .gt 56, 3) := by decide +kernel
theorem dX12_rounds_79 : decode cX12_rounds 79 = .ok (.aload_n 0, 1) := by decide +kernel
theorem dX12_rounds_80 : decode cX12_rounds 80 = .ok (.iload_n 1, 1) := by decide +kernel
theorem dX12_rounds_81 : decode cX12_rounds 81 = .ok (.aload_n 3, 1) := by decide +kernel
theorem dX12_rounds_82 : decode cX12_rounds 82 = .ok (.iload 5, 2) := by decide +kernel
theorem dX12_rounds_84 : decode cX12_rounds 84 = .ok (.invokevirtual 144, 3) := by decide +kernel
theorem dX12_rounds_87 : decode cX12_rounds 87 = .ok (.istore 6, 2) := by decide +kernel
theorem dX12_rounds_89 : decode cX12_rounds 89 = .ok (.aload_n 0, 1) := by decide +kernel
theorem dX12_rounds_90 : decode cX12_rounds 90 = .ok (.getfield 22, 3) := by decide +kernel
theorem dX12_rounds_93 : decode cX12_rounds 93 = .ok (.iload_n 1, 1) := by decide +kernel
theorem dX12_rounds_94 : decode cX12_rounds 94 = .ok (.iload 6, 2) := by decide +kernel
theorem dX12_rounds_96 : decode cX12_rounds 96 = .ok (.ifCond .eq 8, 3) := by decide +kernel
theorem dX12_rounds_99 : decode cX12_rounds 99 = .ok (.iload 5, 2) := by decide +kernel
theorem dX12_rounds_101 : decode cX12_rounds 101 = .ok (.goto 9, 3) := by decide +kernel
theorem dX12_rounds_104 : decode cX12_rounds 104 = .ok (.aload_n 0, 1) := by decide +kernel
theorem dX12_rounds_105 : decode cX12_rounds 105 = .ok (.getfield 22, 3) := by decide +kernel
theorem dX12_rounds_108 : decode cX12_rounds 108 = .ok (.iload_n 1, 1) := by decide +kernel
theorem dX12_rounds_109 : decode cX12_rounds 109 = .ok (.iaload, 1) := by decide +kernel
theorem dX12_rounds_110 : decode cX12_rounds 110 = .ok (.iastore, 1) := by decide +kernel
theorem dX12_rounds_111 : decode cX12_rounds 111 = .ok (.iload 6, 2) := by decide +kernel
theorem dX12_rounds_113 : decode cX12_rounds 113 = .ok (.ifCond .eq 7, 3) := by decide +kernel
theorem dX12_rounds_116 : decode cX12_rounds 116 = .ok (.iconst 0, 1) := by decide +kernel
theorem dX12_rounds_117 : decode cX12_rounds 117 = .ok (.goto 7, 3) := by decide +kernel
theorem dX12_rounds_120 : decode cX12_rounds 120 = .ok (.iload 4, 2) := by decide +kernel
theorem dX12_rounds_122 : decode cX12_rounds 122 = .ok (.iconst 1, 1) := by decide +kernel
theorem dX12_rounds_123 : decode cX12_rounds 123 = .ok (.iadd, 1) := by decide +kernel
theorem dX12_rounds_124 : decode cX12_rounds 124 = .ok (.istore 4, 2) := by decide +kernel
theorem dX12_rounds_126 : decode cX12_rounds 126 = .ok (.iinc 5 1, 3) := by decide +kernel
theorem dX12_rounds_129 : decode cX12_rounds 129 = .ok (.goto (-64), 3) := by decide +kernel
theorem dX12_rounds_132 : decode cX12_rounds 132 = .ok (.aload_n 0, 1) := by decide +kernel
theorem dX12_rounds_133 : decode cX12_rounds 133 = .ok (.getfield 22, 3) := by decide +kernel
theorem dX12_rounds_136 : decode cX12_rounds 136 = .ok (.iload_n 1, 1) := by decide +kernel
theorem dX12_rounds_137 : decode cX12_rounds 137 = .ok (.iaload, 1) := by decide +kernel
theorem dX12_rounds_138 : decode cX12_rounds 138 = .ok (.ifCond .ge 9, 3) := by decide +kernel
theorem dX12_rounds_141 : decode cX12_rounds 141 = .ok (.aload_n 0, 1) := by decide +kernel
theorem dX12_rounds_142 : decode cX12_rounds 142 = .ok (.iload_n 1, 1) := by decide +kernel
theorem dX12_rounds_143 : decode cX12_rounds 143 = .ok (.aconst_null, 1) := by decide +kernel
theorem dX12_rounds_144 : decode cX12_rounds 144 = .ok (.invokevirtual 140, 3) := by decide +kernel
theorem dX12_rounds_147 : decode cX12_rounds 147 = .ok (.return_, 1) := by decide +kernel
def kX12_rounds_29 (mc ms : Nat) (X : Nat → zV) (Q : zQt) : zT :=
  zna mc ms 3 <| zsa 3 <| zc (.int 0) <| zsi 4 <| zj X 35 [0, 1, 2, 3, 4]
def kX12_rounds_59 (mc ms : Nat) (X : Nat → zV) (Q : zQt) : zT :=
  zc (.int 0) <| zsi 4 <| zc (.int 0) <| zsi 5 <| zj X 65 [0, 1, 2, 3, 4, 5]
def kX12_rounds_147 (mc ms : Nat) (X : Nat → zV) (Q : zQt) : zT :=
  zj X 147 []
def kX12_rounds_87 (mc ms : Nat) (X : Nat → zV) (Q : zQt) : zT :=
  zsi 6 <| zla 0 <| zgR 12 3 <| zli 1 <| zli 6 <| zif (fun x => x = 0) (zla 0 <| zgR 12 3 <| zli 1 <| zal 1 <| zj X 110 [0, 1, 2, 3, 4, 5, 6]) <| zli 5 <| zj X 110 [0, 1, 2, 3, 4, 5, 6]
def aX12_rounds_0 (mc ms : Nat) (X : Nat → zV) (Q : zQt) : zT :=
  zla 0 <| zgR 12 2 <| zli 1 <| zal 5 <| zif (fun x => x = 0) (zla 0 <| zgR 12 2 <| zli 1 <| zc (.int 1) <| zas 5 (vp_nar .boolean) <| zla 0 <| zgR 12 3 <| zli 1 <| zc (.int (-1)) <| zas 1 (fun x => x) <| zla 0 <| zli 1 <| zcv mc ms 12 1 wX12_newRow <| kX12_rounds_29 mc ms X Q) <| zrv Q
def aX12_rounds_35 (mc ms : Nat) (X : Nat → zV) (Q : zQt) : zT :=
  zli 4 <| zla 3 <| zlen <| zic (fun x y => y ≤ x) (zla 0 <| zli 1 <| zla 3 <| zcv mc ms 12 2 wX12_keep <| kX12_rounds_59 mc ms X Q) <| zla 3 <| zli 4 <| zc (.int (-1)) <| zas 3 (vp_nar .byte) <| zinc 4 1 <| zj X 35 [0, 1, 2, 3, 4]
def aX12_rounds_65 (mc ms : Nat) (X : Nat → zV) (Q : zQt) : zT :=
  zli 4 <| zc (.int 2) <| zic (fun x y => x < y) (zj X 79 [0, 1, 2, 3, 4, 5]) <| zli 5 <| zli 2 <| zc (.int 2) <| zii (fun x y => x + y) <| zic (fun x y => y < x) (zla 0 <| zgR 12 3 <| zli 1 <| zal 1 <| zif (fun x => 0 ≤ x) (zj X 147 []) <| zla 0 <| zli 1 <| zc .null <| zcv mc ms 12 2 wX12_keep <| kX12_rounds_147 mc ms X Q) <| zj X 79 [0, 1, 2, 3, 4, 5]
def aX12_rounds_79 (mc ms : Nat) (X : Nat → zV) (Q : zQt) : zT :=
  zla 0 <| zli 1 <| zla 3 <| zli 5 <| zcv mc ms 12 3 wX12_round <| kX12_rounds_87 mc ms X Q
def aX12_rounds_110 (mc ms : Nat) (X : Nat → zV) (Q : zQt) : zT :=
  zas 1 (fun x => x) <| zli 6 <| zif (fun x => x = 0) (zli 4 <| zc (.int 1) <| zii (fun x y => x + y) <| zj X 124 [0, 1, 2, 3, 5]) <| zc (.int 0) <| zj X 124 [0, 1, 2, 3, 5]
def aX12_rounds_124 (mc ms : Nat) (X : Nat → zV) (Q : zQt) : zT :=
  zsi 4 <| zinc 5 1 <| zj X 65 [0, 1, 2, 3, 4, 5]
def aX12_rounds_147 (mc ms : Nat) (X : Nat → zV) (Q : zQt) : zT :=
  zrv Q
def lvX12_rounds : Nat → List Nat := fun L => match L with
  | 0 => [0, 1, 2]
  | 35 => [0, 1, 2, 3, 4]
  | 65 => [0, 1, 2, 3, 4, 5]
  | 79 => [0, 1, 2, 3, 4, 5]
  | 110 => [0, 1, 2, 3, 4, 5, 6]
  | 124 => [0, 1, 2, 3, 5]
  | 147 => []
  | _ => []
def wX12_rounds : zSp := fun mc ms av M Q => ((zlay av).length ≤ 7 ∧ zpick (zlay av) [0, 1, 2] = some av) ∧ ∀ X : Nat → zV, zin 7 [0, 1, 2] (aX12_rounds_0 mc ms X Q) X 0 → zin 7 [0, 1, 2, 3, 4] (aX12_rounds_35 mc ms X Q) X 35 → zin 7 [0, 1, 2, 3, 4, 5] (aX12_rounds_65 mc ms X Q) X 65 → zin 7 [0, 1, 2, 3, 4, 5] (aX12_rounds_79 mc ms X Q) X 79 → zin 7 [0, 1, 2, 3, 4, 5, 6] (aX12_rounds_110 mc ms X Q) X 110 → zin 7 [0, 1, 2, 3, 5] (aX12_rounds_124 mc ms X Q) X 124 → zin 7 [] (aX12_rounds_147 mc ms X Q) X 147 → X 0 0 0 av [] M
set_option maxRecDepth 100000 in
set_option maxHeartbeats 4000000 in
theorem sX12_rounds (l : Launch) (G : zG) : zSnd l G yX12_rounds cX12_rounds 7 none 7 195 wX12_rounds := by
  refine zmk [0, 1, 2] (by decide) (fun mc ms av M Q h => h.1) ?_
  intro p e R s m args below meth c mc ms av M Q hC hRf hRl hr hnm h lv hlv
  obtain ⟨X, hXe⟩ : ∃ X : Nat → zV, X = fun L u v vs st M => ∀ lv, zpick lv (lvX12_rounds L) = some vs → zAt p l e R s m args below meth c (MQ below (zQ G Q) args s mc ms (zA G)) G 7 L u v lv st M := ⟨_, rfl⟩
  have hJ : ∀ L, zOk p l e R s m args below meth c (MQ below (zQ G Q) args s mc ms (zA G)) G 7 L (zj X L (lvX12_rounds L)) := fun L => S_jump (fun u v lv vs st M hp hx => by rw [hXe] at hx; exact hx lv hp)
  have hB0 : zin 7 [0, 1, 2] (aX12_rounds_0 mc ms X Q) X 0 := by
    intro u v vs st M hb
    rw [hXe]
    refine fun lv hp => S_block (L := 0) (live := [0, 1, 2]) ?_ u v lv vs st M hp hb
    unfold aX12_rounds_0
    refine S_aload_n (pc := 0) hC dX12_rounds_0 rfl ?_
    refine S_getR (pc := 1) hC cfX12 (by decide) (Or.inr ⟨_, rfl⟩) wd_1204 dX12_rounds_1 ?_
    refine S_iload_n (pc := 4) hC dX12_rounds_4 rfl ?_
    refine S_zaload (pc := 5) hC dX12_rounds_5 ?_
    refine S_if_eq (pc := 6) (tgt := 10) hC dX12_rounds_6 (by decide) ?_ ?_
    · refine S_aload_n (pc := 10) hC dX12_rounds_10 rfl ?_
      refine S_getR (pc := 11) hC cfX12 (by decide) (Or.inr ⟨_, rfl⟩) wd_1204 dX12_rounds_11 ?_
      refine S_iload_n (pc := 14) hC dX12_rounds_14 rfl ?_
      refine S_iconst (pc := 15) hC dX12_rounds_15 (by decide) ?_
      refine S_zastore (pc := 16) hC dX12_rounds_16 ?_
      refine S_aload_n (pc := 17) hC dX12_rounds_17 rfl ?_
      refine S_getR (pc := 18) hC cfX12 (by decide) (Or.inr ⟨_, rfl⟩) wd_1205 dX12_rounds_18 ?_
      refine S_iload_n (pc := 21) hC dX12_rounds_21 rfl ?_
      refine S_iconst (pc := 22) hC dX12_rounds_22 (by decide) ?_
      refine S_iastore (pc := 23) hC dX12_rounds_23 ?_
      refine S_aload_n (pc := 24) hC dX12_rounds_24 rfl ?_
      refine S_iload_n (pc := 25) hC dX12_rounds_25 rfl ?_
      refine S_callV (pc := 26) hC (sX12_newRow l G) rfl wd_1692 wd_1694 ws_117 wd_13 wd_1695 (by decide +kernel) ⟨by rw [hRf]; decide, by rw [hRl]; decide⟩ dX12_rounds_26 ?_
      unfold kX12_rounds_29
      refine S_newa_byte (pc := 29) hC wd_561 dX12_rounds_29 ?_
      refine S_astore_n (pc := 31) hC dX12_rounds_31 rfl (by decide) ?_
      refine S_iconst (pc := 32) hC dX12_rounds_32 (by decide) ?_
      refine S_istore (pc := 33) hC dX12_rounds_33 (by decide) ?_
      exact hJ 35
    · exact S_vreturn (pc := 9) hC hr dX12_rounds_9
  have hB35 : zin 7 [0, 1, 2, 3, 4] (aX12_rounds_35 mc ms X Q) X 35 := by
    intro u v vs st M hb
    rw [hXe]
    refine fun lv hp => S_block (L := 35) (live := [0, 1, 2, 3, 4]) ?_ u v lv vs st M hp hb
    unfold aX12_rounds_35
    refine S_iload (pc := 35) hC dX12_rounds_35 ?_
    refine S_aload_n (pc := 37) hC dX12_rounds_37 rfl ?_
    refine S_alen (pc := 38) hC dX12_rounds_38 ?_
    refine S_icmp_ge (pc := 39) (tgt := 53) hC dX12_rounds_39 (by decide) ?_ ?_
    · refine S_aload_n (pc := 53) hC dX12_rounds_53 rfl ?_
      refine S_iload_n (pc := 54) hC dX12_rounds_54 rfl ?_
      refine S_aload_n (pc := 55) hC dX12_rounds_55 rfl ?_
      refine S_callV (pc := 56) hC (sX12_keep l G) rfl wd_1696 wd_1698 ws_118 wd_13 wd_1699 (by decide +kernel) ⟨by rw [hRf]; decide, by rw [hRl]; decide⟩ dX12_rounds_56 ?_
      unfold kX12_rounds_59
      refine S_iconst (pc := 59) hC dX12_rounds_59 (by decide) ?_
      refine S_istore (pc := 60) hC dX12_rounds_60 (by decide) ?_
      refine S_iconst (pc := 62) hC dX12_rounds_62 (by decide) ?_
      refine S_istore (pc := 63) hC dX12_rounds_63 (by decide) ?_
      exact hJ 65
    · refine S_aload_n (pc := 42) hC dX12_rounds_42 rfl ?_
      refine S_iload (pc := 43) hC dX12_rounds_43 ?_
      refine S_iconst (pc := 45) hC dX12_rounds_45 (by decide) ?_
      refine S_bastore (pc := 46) hC dX12_rounds_46 ?_
      refine S_iinc (pc := 47) hC dX12_rounds_47 (by decide) (by decide) ?_
      refine S_goto (pc := 50) (tgt := 35) hC dX12_rounds_50 (by decide) ?_
      exact hJ 35
  have hB65 : zin 7 [0, 1, 2, 3, 4, 5] (aX12_rounds_65 mc ms X Q) X 65 := by
    intro u v vs st M hb
    rw [hXe]
    refine fun lv hp => S_block (L := 65) (live := [0, 1, 2, 3, 4, 5]) ?_ u v lv vs st M hp hb
    unfold aX12_rounds_65
    refine S_iload (pc := 65) hC dX12_rounds_65 ?_
    refine S_iconst (pc := 67) hC dX12_rounds_67 (by decide) ?_
    refine S_icmp_lt (pc := 68) (tgt := 79) hC dX12_rounds_68 (by decide) ?_ ?_
    · exact hJ 79
    · refine S_iload (pc := 71) hC dX12_rounds_71 ?_
      refine S_iload_n (pc := 73) hC dX12_rounds_73 rfl ?_
      refine S_iconst (pc := 74) hC dX12_rounds_74 (by decide) ?_
      refine S_iadd (pc := 75) hC dX12_rounds_75 ?_
      refine S_icmp_gt (pc := 76) (tgt := 132) hC dX12_rounds_76 (by decide) ?_ ?_
      · refine S_aload_n (pc := 132) hC dX12_rounds_132 rfl ?_
        refine S_getR (pc := 133) hC cfX12 (by decide) (Or.inr ⟨_, rfl⟩) wd_1205 dX12_rounds_133 ?_
        refine S_iload_n (pc := 136) hC dX12_rounds_136 rfl ?_
        refine S_iaload (pc := 137) hC dX12_rounds_137 ?_
        refine S_if_ge (pc := 138) (tgt := 147) hC dX12_rounds_138 (by decide) ?_ ?_
        · exact hJ 147
        · refine S_aload_n (pc := 141) hC dX12_rounds_141 rfl ?_
          refine S_iload_n (pc := 142) hC dX12_rounds_142 rfl ?_
          refine S_null (pc := 143) hC dX12_rounds_143 ?_
          refine S_callV (pc := 144) hC (sX12_keep l G) rfl wd_1696 wd_1698 ws_118 wd_13 wd_1699 (by decide +kernel) ⟨by rw [hRf]; decide, by rw [hRl]; decide⟩ dX12_rounds_144 ?_
          unfold kX12_rounds_147
          exact hJ 147
      · exact hJ 79
  have hB79 : zin 7 [0, 1, 2, 3, 4, 5] (aX12_rounds_79 mc ms X Q) X 79 := by
    intro u v vs st M hb
    rw [hXe]
    refine fun lv hp => S_block (L := 79) (live := [0, 1, 2, 3, 4, 5]) ?_ u v lv vs st M hp hb
    unfold aX12_rounds_79
    refine S_aload_n (pc := 79) hC dX12_rounds_79 rfl ?_
    refine S_iload_n (pc := 80) hC dX12_rounds_80 rfl ?_
    refine S_aload_n (pc := 81) hC dX12_rounds_81 rfl ?_
    refine S_iload (pc := 82) hC dX12_rounds_82 ?_
    refine S_callV (pc := 84) hC (sX12_round l G) rfl wd_1700 wd_1702 ws_119 wd_13 wd_1703 (by decide +kernel) ⟨by rw [hRf]; decide, by rw [hRl]; decide⟩ dX12_rounds_84 ?_
    unfold kX12_rounds_87
    refine S_istore (pc := 87) hC dX12_rounds_87 (by decide) ?_
    refine S_aload_n (pc := 89) hC dX12_rounds_89 rfl ?_
    refine S_getR (pc := 90) hC cfX12 (by decide) (Or.inr ⟨_, rfl⟩) wd_1205 dX12_rounds_90 ?_
    refine S_iload_n (pc := 93) hC dX12_rounds_93 rfl ?_
    refine S_iload (pc := 94) hC dX12_rounds_94 ?_
    refine S_if_eq (pc := 96) (tgt := 104) hC dX12_rounds_96 (by decide) ?_ ?_
    · refine S_aload_n (pc := 104) hC dX12_rounds_104 rfl ?_
      refine S_getR (pc := 105) hC cfX12 (by decide) (Or.inr ⟨_, rfl⟩) wd_1205 dX12_rounds_105 ?_
      refine S_iload_n (pc := 108) hC dX12_rounds_108 rfl ?_
      refine S_iaload (pc := 109) hC dX12_rounds_109 ?_
      exact hJ 110
    · refine S_iload (pc := 99) hC dX12_rounds_99 ?_
      refine S_goto (pc := 101) (tgt := 110) hC dX12_rounds_101 (by decide) ?_
      exact hJ 110
  have hB110 : zin 7 [0, 1, 2, 3, 4, 5, 6] (aX12_rounds_110 mc ms X Q) X 110 := by
    intro u v vs st M hb
    rw [hXe]
    refine fun lv hp => S_block (L := 110) (live := [0, 1, 2, 3, 4, 5, 6]) ?_ u v lv vs st M hp hb
    unfold aX12_rounds_110
    refine S_iastore (pc := 110) hC dX12_rounds_110 ?_
    refine S_iload (pc := 111) hC dX12_rounds_111 ?_
    refine S_if_eq (pc := 113) (tgt := 120) hC dX12_rounds_113 (by decide) ?_ ?_
    · refine S_iload (pc := 120) hC dX12_rounds_120 ?_
      refine S_iconst (pc := 122) hC dX12_rounds_122 (by decide) ?_
      refine S_iadd (pc := 123) hC dX12_rounds_123 ?_
      exact hJ 124
    · refine S_iconst (pc := 116) hC dX12_rounds_116 (by decide) ?_
      refine S_goto (pc := 117) (tgt := 124) hC dX12_rounds_117 (by decide) ?_
      exact hJ 124
  have hB124 : zin 7 [0, 1, 2, 3, 5] (aX12_rounds_124 mc ms X Q) X 124 := by
    intro u v vs st M hb
    rw [hXe]
    refine fun lv hp => S_block (L := 124) (live := [0, 1, 2, 3, 5]) ?_ u v lv vs st M hp hb
    unfold aX12_rounds_124
    refine S_istore (pc := 124) hC dX12_rounds_124 (by decide) ?_
    refine S_iinc (pc := 126) hC dX12_rounds_126 (by decide) (by decide) ?_
    refine S_goto (pc := 129) (tgt := 65) hC dX12_rounds_129 (by decide) ?_
    exact hJ 65
  have hB147 : zin 7 [] (aX12_rounds_147 mc ms X Q) X 147 := by
    intro u v vs st M hb
    rw [hXe]
    refine fun lv hp => S_block (L := 147) (live := []) ?_ u v lv vs st M hp hb
    unfold aX12_rounds_147
    exact S_vreturn (pc := 147) hC hr dX12_rounds_147
  have := h.2 X hB0 hB35 hB65 hB79 hB110 hB124 hB147
  rw [hXe] at this
  exact this lv hlv
theorem dX13_init_0 : decode cX13_init 0 = .ok (.aload_n 0, 1) := by decide +kernel
theorem dX13_init_1 : decode cX13_init 1 = .ok (.invokespecial 1, 3) := by decide +kernel
theorem dX13_init_4 : decode cX13_init 4 = .ok (.aload_n 0, 1) := by decide +kernel
theorem dX13_init_5 : decode cX13_init 5 = .ok (.sipush 8200, 3) := by decide +kernel
theorem dX13_init_8 : decode cX13_init 8 = .ok (.newarray .byte, 2) := by decide +kernel
theorem dX13_init_10 : decode cX13_init 10 = .ok (.putfield 7, 3) := by decide +kernel
theorem dX13_init_13 : decode cX13_init 13 = .ok (.aload_n 0, 1) := by decide +kernel
theorem dX13_init_14 : decode cX13_init 14 = .ok (.iconst (-1), 1) := by decide +kernel
theorem dX13_init_15 : decode cX13_init 15 = .ok (.putfield 13, 3) := by decide +kernel
theorem dX13_init_18 : decode cX13_init 18 = .ok (.aload_n 0, 1) := by decide +kernel
theorem dX13_init_19 : decode cX13_init 19 = .ok (.ldc 17, 2) := by decide +kernel
theorem dX13_init_21 : decode cX13_init 21 = .ok (.newarray .int, 2) := by decide +kernel
theorem dX13_init_23 : decode cX13_init 23 = .ok (.putfield 18, 3) := by decide +kernel
theorem dX13_init_26 : decode cX13_init 26 = .ok (.aload_n 0, 1) := by decide +kernel
theorem dX13_init_27 : decode cX13_init 27 = .ok (.iconst 2, 1) := by decide +kernel
theorem dX13_init_28 : decode cX13_init 28 = .ok (.newarray .int, 2) := by decide +kernel
theorem dX13_init_30 : decode cX13_init 30 = .ok (.putfield 22, 3) := by decide +kernel
theorem dX13_init_33 : decode cX13_init 33 = .ok (.aload_n 0, 1) := by decide +kernel
theorem dX13_init_34 : decode cX13_init 34 = .ok (.sipush 1202, 3) := by decide +kernel
theorem dX13_init_37 : decode cX13_init 37 = .ok (.newarray .int, 2) := by decide +kernel
theorem dX13_init_39 : decode cX13_init 39 = .ok (.putfield 25, 3) := by decide +kernel
theorem dX13_init_42 : decode cX13_init 42 = .ok (.aload_n 0, 1) := by decide +kernel
theorem dX13_init_43 : decode cX13_init 43 = .ok (.sipush 1202, 3) := by decide +kernel
theorem dX13_init_46 : decode cX13_init 46 = .ok (.newarray .int, 2) := by decide +kernel
theorem dX13_init_48 : decode cX13_init 48 = .ok (.putfield 28, 3) := by decide +kernel
theorem dX13_init_51 : decode cX13_init 51 = .ok (.aload_n 0, 1) := by decide +kernel
theorem dX13_init_52 : decode cX13_init 52 = .ok (.sipush 1202, 3) := by decide +kernel
theorem dX13_init_55 : decode cX13_init 55 = .ok (.newarray .int, 2) := by decide +kernel
theorem dX13_init_57 : decode cX13_init 57 = .ok (.putfield 31, 3) := by decide +kernel
theorem dX13_init_60 : decode cX13_init 60 = .ok (.aload_n 0, 1) := by decide +kernel
theorem dX13_init_61 : decode cX13_init 61 = .ok (.sipush 1202, 3) := by decide +kernel
theorem dX13_init_64 : decode cX13_init 64 = .ok (.newarray .int, 2) := by decide +kernel
theorem dX13_init_66 : decode cX13_init 66 = .ok (.putfield 34, 3) := by decide +kernel
theorem dX13_init_69 : decode cX13_init 69 = .ok (.aload_n 0, 1) := by decide +kernel
theorem dX13_init_70 : decode cX13_init 70 = .ok (.sipush 1202, 3) := by decide +kernel
theorem dX13_init_73 : decode cX13_init 73 = .ok (.newarray .int, 2) := by decide +kernel
theorem dX13_init_75 : decode cX13_init 75 = .ok (.putfield 37, 3) := by decide +kernel
theorem dX13_init_78 : decode cX13_init 78 = .ok (.aload_n 0, 1) := by decide +kernel
theorem dX13_init_79 : decode cX13_init 79 = .ok (.sipush 1202, 3) := by decide +kernel
theorem dX13_init_82 : decode cX13_init 82 = .ok (.newarray .int, 2) := by decide +kernel
theorem dX13_init_84 : decode cX13_init 84 = .ok (.putfield 40, 3) := by decide +kernel
theorem dX13_init_87 : decode cX13_init 87 = .ok (.aload_n 0, 1) := by decide +kernel
theorem dX13_init_88 : decode cX13_init 88 = .ok (.sipush 414, 3) := by decide +kernel
theorem dX13_init_91 : decode cX13_init 91 = .ok (.newarray .int, 2) := by decide +kernel
theorem dX13_init_93 : decode cX13_init 93 = .ok (.putfield 43, 3) := by decide +kernel
theorem dX13_init_96 : decode cX13_init 96 = .ok (.aload_n 0, 1) := by decide +kernel
theorem dX13_init_97 : decode cX13_init 97 = .ok (.sipush 1980, 3) := by decide +kernel
theorem dX13_init_100 : decode cX13_init 100 = .ok (.newarray .int, 2) := by decide +kernel
theorem dX13_init_102 : decode cX13_init 102 = .ok (.putfield 46, 3) := by decide +kernel
theorem dX13_init_105 : decode cX13_init 105 = .ok (.aload_n 0, 1) := by decide +kernel
theorem dX13_init_106 : decode cX13_init 106 = .ok (.bipush 6, 2) := by decide +kernel
theorem dX13_init_108 : decode cX13_init 108 = .ok (.newarray .int, 2) := by decide +kernel
theorem dX13_init_110 : decode cX13_init 110 = .ok (.putfield 49, 3) := by decide +kernel
theorem dX13_init_113 : decode cX13_init 113 = .ok (.aload_n 0, 1) := by decide +kernel
theorem dX13_init_114 : decode cX13_init 114 = .ok (.bipush 6, 2) := by decide +kernel
theorem dX13_init_116 : decode cX13_init 116 = .ok (.newarray .int, 2) := by decide +kernel
theorem dX13_init_118 : decode cX13_init 118 = .ok (.putfield 52, 3) := by decide +kernel
theorem dX13_init_121 : decode cX13_init 121 = .ok (.aload_n 0, 1) := by decide +kernel
theorem dX13_init_122 : decode cX13_init 122 = .ok (.bipush 6, 2) := by decide +kernel
theorem dX13_init_124 : decode cX13_init 124 = .ok (.newarray .int, 2) := by decide +kernel
theorem dX13_init_126 : decode cX13_init 126 = .ok (.putfield 55, 3) := by decide +kernel
theorem dX13_init_129 : decode cX13_init 129 = .ok (.aload_n 0, 1) := by decide +kernel
theorem dX13_init_130 : decode cX13_init 130 = .ok (.bipush 100, 2) := by decide +kernel
theorem dX13_init_132 : decode cX13_init 132 = .ok (.newarray .int, 2) := by decide +kernel
theorem dX13_init_134 : decode cX13_init 134 = .ok (.putfield 58, 3) := by decide +kernel
theorem dX13_init_137 : decode cX13_init 137 = .ok (.aload_n 0, 1) := by decide +kernel
theorem dX13_init_138 : decode cX13_init 138 = .ok (.new 61, 3) := by decide +kernel
theorem dX13_init_141 : decode cX13_init 141 = .ok (.dup, 1) := by decide +kernel
theorem dX13_init_142 : decode cX13_init 142 = .ok (.invokespecial 63, 3) := by decide +kernel
theorem dX13_init_145 : decode cX13_init 145 = .ok (.putfield 64, 3) := by decide +kernel
theorem dX13_init_148 : decode cX13_init 148 = .ok (.return_, 1) := by decide +kernel
def kX13_init_145 (mc ms : Nat) (X : Nat → zV) (Q : zQt) : zT :=
  zpr 13 25 <| zrv Q
def aX13_init_0 (mc ms : Nat) (X : Nat → zV) (Q : zQt) : zT :=
  zla 0 <| zoi <| zla 0 <| zc (.int 8200) <| zna mc ms 3 <| zpr 13 1 <| zla 0 <| zc (.int (-1)) <| zpi 13 4 <| zla 0 <| zc (.int 82938) <| zna mc ms 1 <| zpr 13 8 <| zla 0 <| zc (.int 2) <| zna mc ms 1 <| zpr 13 9 <| zla 0 <| zc (.int 1202) <| zna mc ms 1 <| zpr 13 10 <| zla 0 <| zc (.int 1202) <| zna mc ms 1 <| zpr 13 11 <| zla 0 <| zc (.int 1202) <| zna mc ms 1 <| zpr 13 12 <| zla 0 <| zc (.int 1202) <| zna mc ms 1 <| zpr 13 13 <| zla 0 <| zc (.int 1202) <| zna mc ms 1 <| zpr 13 14 <| zla 0 <| zc (.int 1202) <| zna mc ms 1 <| zpr 13 15 <| zla 0 <| zc (.int 414) <| zna mc ms 1 <| zpr 13 16 <| zla 0 <| zc (.int 1980) <| zna mc ms 1 <| zpr 13 17 <| zla 0 <| zc (.int 6) <| zna mc ms 1 <| zpr 13 18 <| zla 0 <| zc (.int 6) <| zna mc ms 1 <| zpr 13 19 <| zla 0 <| zc (.int 6) <| zna mc ms 1 <| zpr 13 20 <| zla 0 <| zc (.int 100) <| zna mc ms 1 <| zpr 13 23 <| zla 0 <| znew mc ms 12 <| zdup <| zci mc ms 0 wX12_init <| kX13_init_145 mc ms X Q
def lvX13_init : Nat → List Nat := fun L => match L with
  | 0 => [0, 1]
  | _ => []
def wX13_init : zSp := fun mc ms av M Q => ((zlay av).length ≤ 2 ∧ zpick (zlay av) [0, 1] = some av) ∧ ∀ X : Nat → zV, zin 2 [0, 1] (aX13_init_0 mc ms X Q) X 0 → X 0 0 0 av [] M
set_option maxRecDepth 100000 in
set_option maxHeartbeats 4000000 in
theorem sX13_init (l : Launch) (G : zG) : zSnd l G yX13_init cX13_init 2 none 2 48 wX13_init := by
  refine zmk [0, 1] (by decide) (fun mc ms av M Q h => h.1) ?_
  intro p e R s m args below meth c mc ms av M Q hC hRf hRl hr hnm h lv hlv
  obtain ⟨X, hXe⟩ : ∃ X : Nat → zV, X = fun L u v vs st M => ∀ lv, zpick lv (lvX13_init L) = some vs → zAt p l e R s m args below meth c (MQ below (zQ G Q) args s mc ms (zA G)) G 2 L u v lv st M := ⟨_, rfl⟩
  have hJ : ∀ L, zOk p l e R s m args below meth c (MQ below (zQ G Q) args s mc ms (zA G)) G 2 L (zj X L (lvX13_init L)) := fun L => S_jump (fun u v lv vs st M hp hx => by rw [hXe] at hx; exact hx lv hp)
  have hB0 : zin 2 [0, 1] (aX13_init_0 mc ms X Q) X 0 := by
    intro u v vs st M hb
    rw [hXe]
    refine fun lv hp => S_block (L := 0) (live := [0, 1]) ?_ u v lv vs st M hp hb
    unfold aX13_init_0
    refine S_aload_n (pc := 0) hC dX13_init_0 rfl ?_
    refine S_objInit (pc := 1) hC wd_1190 wd_35 wd_36 (by rw [hRf]; decide) (by rw [hRl]; decide) dX13_init_1 ?_
    refine S_aload_n (pc := 4) hC dX13_init_4 rfl ?_
    refine S_sipush (pc := 5) hC dX13_init_5 (by decide) ?_
    refine S_newa_byte (pc := 8) hC wd_561 dX13_init_8 ?_
    refine S_putr (pc := 10) hC cfX13 (by decide) (Or.inr ⟨_, rfl⟩) (Or.inr ⟨rfl, hnm, rfl⟩) wd_1256 dX13_init_10 ?_
    refine S_aload_n (pc := 13) hC dX13_init_13 rfl ?_
    refine S_iconst (pc := 14) hC dX13_init_14 (by decide) ?_
    refine S_puti (pc := 15) hC cfX13 (by decide) rfl (Or.inl rfl) wd_1259 dX13_init_15 ?_
    refine S_aload_n (pc := 18) hC dX13_init_18 rfl ?_
    refine S_ldc (pc := 19) hC wd_1191 dX13_init_19 ?_
    refine S_newa_int (pc := 21) hC wd_100 dX13_init_21 ?_
    refine S_putr (pc := 23) hC cfX13 (by decide) (Or.inr ⟨_, rfl⟩) (Or.inr ⟨rfl, hnm, rfl⟩) wd_1263 dX13_init_23 ?_
    refine S_aload_n (pc := 26) hC dX13_init_26 rfl ?_
    refine S_iconst (pc := 27) hC dX13_init_27 (by decide) ?_
    refine S_newa_int (pc := 28) hC wd_100 dX13_init_28 ?_
    refine S_putr (pc := 30) hC cfX13 (by decide) (Or.inr ⟨_, rfl⟩) (Or.inr ⟨rfl, hnm, rfl⟩) wd_1264 dX13_init_30 ?_
    refine S_aload_n (pc := 33) hC dX13_init_33 rfl ?_
    refine S_sipush (pc := 34) hC dX13_init_34 (by decide) ?_
    refine S_newa_int (pc := 37) hC wd_100 dX13_init_37 ?_
    refine S_putr (pc := 39) hC cfX13 (by decide) (Or.inr ⟨_, rfl⟩) (Or.inr ⟨rfl, hnm, rfl⟩) wd_1265 dX13_init_39 ?_
    refine S_aload_n (pc := 42) hC dX13_init_42 rfl ?_
    refine S_sipush (pc := 43) hC dX13_init_43 (by decide) ?_
    refine S_newa_int (pc := 46) hC wd_100 dX13_init_46 ?_
    refine S_putr (pc := 48) hC cfX13 (by decide) (Or.inr ⟨_, rfl⟩) (Or.inr ⟨rfl, hnm, rfl⟩) wd_1266 dX13_init_48 ?_
    refine S_aload_n (pc := 51) hC dX13_init_51 rfl ?_
    refine S_sipush (pc := 52) hC dX13_init_52 (by decide) ?_
    refine S_newa_int (pc := 55) hC wd_100 dX13_init_55 ?_
    refine S_putr (pc := 57) hC cfX13 (by decide) (Or.inr ⟨_, rfl⟩) (Or.inr ⟨rfl, hnm, rfl⟩) wd_1267 dX13_init_57 ?_
    refine S_aload_n (pc := 60) hC dX13_init_60 rfl ?_
    refine S_sipush (pc := 61) hC dX13_init_61 (by decide) ?_
    refine S_newa_int (pc := 64) hC wd_100 dX13_init_64 ?_
    refine S_putr (pc := 66) hC cfX13 (by decide) (Or.inr ⟨_, rfl⟩) (Or.inr ⟨rfl, hnm, rfl⟩) wd_1268 dX13_init_66 ?_
    refine S_aload_n (pc := 69) hC dX13_init_69 rfl ?_
    refine S_sipush (pc := 70) hC dX13_init_70 (by decide) ?_
    refine S_newa_int (pc := 73) hC wd_100 dX13_init_73 ?_
    refine S_putr (pc := 75) hC cfX13 (by decide) (Or.inr ⟨_, rfl⟩) (Or.inr ⟨rfl, hnm, rfl⟩) wd_1269 dX13_init_75 ?_
    refine S_aload_n (pc := 78) hC dX13_init_78 rfl ?_
    refine S_sipush (pc := 79) hC dX13_init_79 (by decide) ?_
    refine S_newa_int (pc := 82) hC wd_100 dX13_init_82 ?_
    refine S_putr (pc := 84) hC cfX13 (by decide) (Or.inr ⟨_, rfl⟩) (Or.inr ⟨rfl, hnm, rfl⟩) wd_1270 dX13_init_84 ?_
    refine S_aload_n (pc := 87) hC dX13_init_87 rfl ?_
    refine S_sipush (pc := 88) hC dX13_init_88 (by decide) ?_
    refine S_newa_int (pc := 91) hC wd_100 dX13_init_91 ?_
    refine S_putr (pc := 93) hC cfX13 (by decide) (Or.inr ⟨_, rfl⟩) (Or.inr ⟨rfl, hnm, rfl⟩) wd_1271 dX13_init_93 ?_
    refine S_aload_n (pc := 96) hC dX13_init_96 rfl ?_
    refine S_sipush (pc := 97) hC dX13_init_97 (by decide) ?_
    refine S_newa_int (pc := 100) hC wd_100 dX13_init_100 ?_
    refine S_putr (pc := 102) hC cfX13 (by decide) (Or.inr ⟨_, rfl⟩) (Or.inr ⟨rfl, hnm, rfl⟩) wd_1272 dX13_init_102 ?_
    refine S_aload_n (pc := 105) hC dX13_init_105 rfl ?_
    refine S_bipush (pc := 106) hC dX13_init_106 (by decide) ?_
    refine S_newa_int (pc := 108) hC wd_100 dX13_init_108 ?_
    refine S_putr (pc := 110) hC cfX13 (by decide) (Or.inr ⟨_, rfl⟩) (Or.inr ⟨rfl, hnm, rfl⟩) wd_1273 dX13_init_110 ?_
    refine S_aload_n (pc := 113) hC dX13_init_113 rfl ?_
    refine S_bipush (pc := 114) hC dX13_init_114 (by decide) ?_
    refine S_newa_int (pc := 116) hC wd_100 dX13_init_116 ?_
    refine S_putr (pc := 118) hC cfX13 (by decide) (Or.inr ⟨_, rfl⟩) (Or.inr ⟨rfl, hnm, rfl⟩) wd_1274 dX13_init_118 ?_
    refine S_aload_n (pc := 121) hC dX13_init_121 rfl ?_
    refine S_bipush (pc := 122) hC dX13_init_122 (by decide) ?_
    refine S_newa_int (pc := 124) hC wd_100 dX13_init_124 ?_
    refine S_putr (pc := 126) hC cfX13 (by decide) (Or.inr ⟨_, rfl⟩) (Or.inr ⟨rfl, hnm, rfl⟩) wd_1275 dX13_init_126 ?_
    refine S_aload_n (pc := 129) hC dX13_init_129 rfl ?_
    refine S_bipush (pc := 130) hC dX13_init_130 (by decide) ?_
    refine S_newa_int (pc := 132) hC wd_100 dX13_init_132 ?_
    refine S_putr (pc := 134) hC cfX13 (by decide) (Or.inr ⟨_, rfl⟩) (Or.inr ⟨rfl, hnm, rfl⟩) wd_1278 dX13_init_134 ?_
    refine S_aload_n (pc := 137) hC dX13_init_137 rfl ?_
    refine S_new (pc := 138) hC cfX12 (by decide) wd_1192 wd_1193 wd_13 dX13_init_138 ?_
    refine S_dup (pc := 141) hC dX13_init_141 ?_
    refine S_callI (pc := 142) hC (sX12_init l G) wd_1194 wd_1195 wd_13 wd_1196 rfl (by decide +kernel) ⟨by rw [hRf]; decide, by rw [hRl]; decide⟩ dX13_init_142 ?_
    unfold kX13_init_145
    refine S_putr (pc := 145) hC cfX13 (by decide) (Or.inl ⟨_, rfl⟩) (Or.inr ⟨rfl, hnm, rfl⟩) wd_1280 dX13_init_145 ?_
    exact S_vreturn (pc := 148) hC hr dX13_init_148
  have := h.2 X hB0
  rw [hXe] at this
  exact this lv hlv
theorem dX13_form_0 : decode cX13_form 0 = .ok (.iload_n 2, 1) := by decide +kernel
theorem dX13_form_1 : decode cX13_form 1 = .ok (.iconst 3, 1) := by decide +kernel
theorem dX13_form_2 : decode cX13_form 2 = .ok (.if_icmp .eq 8, 3) := by decide +kernel
theorem dX13_form_5 : decode cX13_form 5 = .ok (.iload_n 2, 1) := by decide +kernel
theorem dX13_form_6 : decode cX13_form 6 = .ok (.iconst 5, 1) := by decide +kernel
theorem dX13_form_7 : decode cX13_form 7 = .ok (.if_icmp .ne 7, 3) := by decide +kernel
theorem dX13_form_10 : decode cX13_form 10 = .ok (.iconst 1, 1) := by decide +kernel
theorem dX13_form_11 : decode cX13_form 11 = .ok (.goto 4, 3) := by decide +kernel
theorem dX13_form_14 : decode cX13_form 14 = .ok (.iconst 0, 1) := by decide +kernel
theorem dX13_form_15 : decode cX13_form 15 = .ok (.istore_n 3, 1) := by decide +kernel
theorem dX13_form_16 : decode cX13_form 16 = .ok (.iconst 0, 1) := by decide +kernel
theorem dX13_form_17 : decode cX13_form 17 = .ok (.istore 4, 2) := by decide +kernel
theorem dX13_form_19 : decode cX13_form 19 = .ok (.iload 4, 2) := by decide +kernel
theorem dX13_form_21 : decode cX13_form 21 = .ok (.iload_n 2, 1) := by decide +kernel
theorem dX13_form_22 : decode cX13_form 22 = .ok (.if_icmp .ge 44, 3) := by decide +kernel
theorem dX13_form_25 : decode cX13_form 25 = .ok (.iload_n 3, 1) := by decide +kernel
theorem dX13_form_26 : decode cX13_form 26 = .ok (.ifCond .eq 40, 3) := by decide +kernel
theorem dX13_form_29 : decode cX13_form 29 = .ok (.aload_n 0, 1) := by decide +kernel
theorem dX13_form_30 : decode cX13_form 30 = .ok (.iload_n 1, 1) := by decide +kernel
theorem dX13_form_31 : decode cX13_form 31 = .ok (.iload 4, 2) := by decide +kernel
theorem dX13_form_33 : decode cX13_form 33 = .ok (.iadd, 1) := by decide +kernel
theorem dX13_form_34 : decode cX13_form 34 = .ok (.invokevirtual 255, 3) := by decide +kernel
theorem dX13_form_37 : decode cX13_form 37 = .ok (.iload 4, 2) := by decide +kernel
theorem dX13_form_39 : decode cX13_form 39 = .ok (.iconst 2, 1) := by decide +kernel
theorem dX13_form_40 : decode cX13_form 40 = .ok (.irem, 1) := by decide +kernel
theorem dX13_form_41 : decode cX13_form 41 = .ok (.ifCond .ne 8, 3) := by decide +kernel
theorem dX13_form_44 : decode cX13_form 44 = .ok (.bipush 48, 2) := by decide +kernel
theorem dX13_form_46 : decode cX13_form 46 = .ok (.goto 5, 3) := by decide +kernel
theorem dX13_form_49 : decode cX13_form 49 = .ok (.bipush 45, 2) := by decide +kernel
theorem dX13_form_51 : decode cX13_form 51 = .ok (.if_icmp .ne 7, 3) := by decide +kernel
theorem dX13_form_54 : decode cX13_form 54 = .ok (.iconst 1, 1) := by decide +kernel
theorem dX13_form_55 : decode cX13_form 55 = .ok (.goto 4, 3) := by decide +kernel
theorem dX13_form_58 : decode cX13_form 58 = .ok (.iconst 0, 1) := by decide +kernel
theorem dX13_form_59 : decode cX13_form 59 = .ok (.istore_n 3, 1) := by decide +kernel
theorem dX13_form_60 : decode cX13_form 60 = .ok (.iinc 4 1, 3) := by decide +kernel
theorem dX13_form_63 : decode cX13_form 63 = .ok (.goto (-44), 3) := by decide +kernel
theorem dX13_form_66 : decode cX13_form 66 = .ok (.iload_n 3, 1) := by decide +kernel
theorem dX13_form_67 : decode cX13_form 67 = .ok (.ifCond .eq 14, 3) := by decide +kernel
theorem dX13_form_70 : decode cX13_form 70 = .ok (.iload_n 2, 1) := by decide +kernel
theorem dX13_form_71 : decode cX13_form 71 = .ok (.iconst 3, 1) := by decide +kernel
theorem dX13_form_72 : decode cX13_form 72 = .ok (.if_icmp .ne 7, 3) := by decide +kernel
theorem dX13_form_75 : decode cX13_form 75 = .ok (.iconst 1, 1) := by decide +kernel
theorem dX13_form_76 : decode cX13_form 76 = .ok (.goto 4, 3) := by decide +kernel
theorem dX13_form_79 : decode cX13_form 79 = .ok (.iconst 2, 1) := by decide +kernel
theorem dX13_form_80 : decode cX13_form 80 = .ok (.ireturn, 1) := by decide +kernel
theorem dX13_form_81 : decode cX13_form 81 = .ok (.iload_n 2, 1) := by decide +kernel
theorem dX13_form_82 : decode cX13_form 82 = .ok (.ifCond .le 11, 3) := by decide +kernel
theorem dX13_form_85 : decode cX13_form 85 = .ok (.aload_n 0, 1) := by decide +kernel
theorem dX13_form_86 : decode cX13_form 86 = .ok (.iload_n 1, 1) := by decide +kernel
theorem dX13_form_87 : decode cX13_form 87 = .ok (.invokevirtual 255, 3) := by decide +kernel
theorem dX13_form_90 : decode cX13_form 90 = .ok (.goto 4, 3) := by decide +kernel
theorem dX13_form_93 : decode cX13_form 93 = .ok (.iconst 0, 1) := by decide +kernel
theorem dX13_form_94 : decode cX13_form 94 = .ok (.istore 4, 2) := by decide +kernel
theorem dX13_form_96 : decode cX13_form 96 = .ok (.iload 4, 2) := by decide +kernel
theorem dX13_form_98 : decode cX13_form 98 = .ok (.bipush 75, 2) := by decide +kernel
theorem dX13_form_100 : decode cX13_form 100 = .ok (.if_icmp .eq 11, 3) := by decide +kernel
theorem dX13_form_103 : decode cX13_form 103 = .ok (.iload 4, 2) := by decide +kernel
theorem dX13_form_105 : decode cX13_form 105 = .ok (.invokestatic 258, 3) := by decide +kernel
theorem dX13_form_108 : decode cX13_form 108 = .ok (.ifCond .eq 22, 3) := by decide +kernel
theorem dX13_form_111 : decode cX13_form 111 = .ok (.aload_n 0, 1) := by decide +kernel
theorem dX13_form_112 : decode cX13_form 112 = .ok (.iload_n 1, 1) := by decide +kernel
theorem dX13_form_113 : decode cX13_form 113 = .ok (.iconst 1, 1) := by decide +kernel
theorem dX13_form_114 : decode cX13_form 114 = .ok (.iadd, 1) := by decide +kernel
theorem dX13_form_115 : decode cX13_form 115 = .ok (.iload_n 1, 1) := by decide +kernel
theorem dX13_form_116 : decode cX13_form 116 = .ok (.iload_n 2, 1) := by decide +kernel
theorem dX13_form_117 : decode cX13_form 117 = .ok (.iadd, 1) := by decide +kernel
theorem dX13_form_118 : decode cX13_form 118 = .ok (.invokevirtual 261, 3) := by decide +kernel
theorem dX13_form_121 : decode cX13_form 121 = .ok (.ifCond .eq 7, 3) := by decide +kernel
theorem dX13_form_124 : decode cX13_form 124 = .ok (.iconst 3, 1) := by decide +kernel
theorem dX13_form_125 : decode cX13_form 125 = .ok (.goto 4, 3) := by decide +kernel
theorem dX13_form_128 : decode cX13_form 128 = .ok (.iconst 0, 1) := by decide +kernel
theorem dX13_form_129 : decode cX13_form 129 = .ok (.ireturn, 1) := by decide +kernel
theorem dX13_form_130 : decode cX13_form 130 = .ok (.aload_n 0, 1) := by decide +kernel
theorem dX13_form_131 : decode cX13_form 131 = .ok (.iload_n 1, 1) := by decide +kernel
theorem dX13_form_132 : decode cX13_form 132 = .ok (.iload_n 1, 1) := by decide +kernel
theorem dX13_form_133 : decode cX13_form 133 = .ok (.iload_n 2, 1) := by decide +kernel
theorem dX13_form_134 : decode cX13_form 134 = .ok (.iadd, 1) := by decide +kernel
theorem dX13_form_135 : decode cX13_form 135 = .ok (.invokevirtual 264, 3) := by decide +kernel
theorem dX13_form_138 : decode cX13_form 138 = .ok (.ifCond .eq 7, 3) := by decide +kernel
theorem dX13_form_141 : decode cX13_form 141 = .ok (.iconst 4, 1) := by decide +kernel
theorem dX13_form_142 : decode cX13_form 142 = .ok (.goto 4, 3) := by decide +kernel
theorem dX13_form_145 : decode cX13_form 145 = .ok (.iconst 0, 1) := by decide +kernel
theorem dX13_form_146 : decode cX13_form 146 = .ok (.ireturn, 1) := by decide +kernel
def kX13_form_37 (mc ms : Nat) (X : Nat → zV) (Q : zQt) : zT :=
  zli 4 <| zc (.int 2) <| zid (fun x y => x - x / y * y) <| zif (fun x => x = 0) (zc (.int 48) <| zj X 51 [0, 1, 2, 4]) <| zc (.int 45) <| zj X 51 [0, 1, 2, 4]
def kX13_form_90 (mc ms : Nat) (X : Nat → zV) (Q : zQt) : zT :=
  zj X 94 [0, 1, 2]
def kX13_form_138 (mc ms : Nat) (X : Nat → zV) (Q : zQt) : zT :=
  zif (fun x => x = 0) (zc (.int 0) <| zj X 146 []) <| zc (.int 4) <| zj X 146 []
def kX13_form_108 (mc ms : Nat) (X : Nat → zV) (Q : zQt) : zT :=
  zif (fun x => x = 0) (zla 0 <| zli 1 <| zli 1 <| zli 2 <| zii (fun x y => x + y) <| zcv mc ms 13 2 wX13_pawnForm <| kX13_form_138 mc ms X Q) <| zj X 111 [0, 1, 2]
def kX13_form_121 (mc ms : Nat) (X : Nat → zV) (Q : zQt) : zT :=
  zif (fun x => x = 0) (zc (.int 0) <| zj X 129 []) <| zc (.int 3) <| zj X 129 []
def aX13_form_0 (mc ms : Nat) (X : Nat → zV) (Q : zQt) : zT :=
  zli 2 <| zc (.int 3) <| zic (fun x y => x = y) (zj X 10 [0, 1, 2]) <| zli 2 <| zc (.int 5) <| zic (fun x y => x = y) (zj X 10 [0, 1, 2]) <| zc (.int 0) <| zj X 15 [0, 1, 2]
def aX13_form_10 (mc ms : Nat) (X : Nat → zV) (Q : zQt) : zT :=
  zc (.int 1) <| zj X 15 [0, 1, 2]
def aX13_form_15 (mc ms : Nat) (X : Nat → zV) (Q : zQt) : zT :=
  zsi 3 <| zc (.int 0) <| zsi 4 <| zj X 19 [0, 1, 2, 3, 4]
def aX13_form_19 (mc ms : Nat) (X : Nat → zV) (Q : zQt) : zT :=
  zli 4 <| zli 2 <| zic (fun x y => y ≤ x) (zj X 66 [0, 1, 2, 3]) <| zli 3 <| zif (fun x => x = 0) (zj X 66 [0, 1, 2, 3]) <| zla 0 <| zli 1 <| zli 4 <| zii (fun x y => x + y) <| zcv mc ms 13 1 wX13_sign <| kX13_form_37 mc ms X Q
def aX13_form_51 (mc ms : Nat) (X : Nat → zV) (Q : zQt) : zT :=
  zic (fun x y => x = y) (zc (.int 1) <| zj X 59 [0, 1, 2, 4]) <| zc (.int 0) <| zj X 59 [0, 1, 2, 4]
def aX13_form_59 (mc ms : Nat) (X : Nat → zV) (Q : zQt) : zT :=
  zsi 3 <| zinc 4 1 <| zj X 19 [0, 1, 2, 3, 4]
def aX13_form_66 (mc ms : Nat) (X : Nat → zV) (Q : zQt) : zT :=
  zli 3 <| zif (fun x => x = 0) (zli 2 <| zif (fun x => x ≤ 0) (zc (.int 0) <| zj X 94 [0, 1, 2]) <| zla 0 <| zli 1 <| zcv mc ms 13 1 wX13_sign <| kX13_form_90 mc ms X Q) <| zli 2 <| zc (.int 3) <| zic (fun x y => x = y) (zc (.int 1) <| zj X 80 []) <| zc (.int 2) <| zj X 80 []
def aX13_form_80 (mc ms : Nat) (X : Nat → zV) (Q : zQt) : zT :=
  zri Q
def aX13_form_94 (mc ms : Nat) (X : Nat → zV) (Q : zQt) : zT :=
  zsi 4 <| zli 4 <| zc (.int 75) <| zic (fun x y => x = y) (zj X 111 [0, 1, 2]) <| zli 4 <| zcs mc ms 1 wX13_isOfficer <| kX13_form_108 mc ms X Q
def aX13_form_111 (mc ms : Nat) (X : Nat → zV) (Q : zQt) : zT :=
  zla 0 <| zli 1 <| zc (.int 1) <| zii (fun x y => x + y) <| zli 1 <| zli 2 <| zii (fun x y => x + y) <| zcv mc ms 13 2 wX13_manForm <| kX13_form_121 mc ms X Q
def aX13_form_129 (mc ms : Nat) (X : Nat → zV) (Q : zQt) : zT :=
  zri Q
def aX13_form_146 (mc ms : Nat) (X : Nat → zV) (Q : zQt) : zT :=
  zri Q
def lvX13_form : Nat → List Nat := fun L => match L with
  | 0 => [0, 1, 2]
  | 10 => [0, 1, 2]
  | 15 => [0, 1, 2]
  | 19 => [0, 1, 2, 3, 4]
  | 51 => [0, 1, 2, 4]
  | 59 => [0, 1, 2, 4]
  | 66 => [0, 1, 2, 3]
  | 80 => []
  | 94 => [0, 1, 2]
  | 111 => [0, 1, 2]
  | 129 => []
  | 146 => []
  | _ => []
def wX13_form : zSp := fun mc ms av M Q => ((zlay av).length ≤ 5 ∧ zpick (zlay av) [0, 1, 2] = some av) ∧ ∀ X : Nat → zV, zin 5 [0, 1, 2] (aX13_form_0 mc ms X Q) X 0 → zin 5 [0, 1, 2] (aX13_form_10 mc ms X Q) X 10 → zin 5 [0, 1, 2] (aX13_form_15 mc ms X Q) X 15 → zin 5 [0, 1, 2, 3, 4] (aX13_form_19 mc ms X Q) X 19 → zin 5 [0, 1, 2, 4] (aX13_form_51 mc ms X Q) X 51 → zin 5 [0, 1, 2, 4] (aX13_form_59 mc ms X Q) X 59 → zin 5 [0, 1, 2, 3] (aX13_form_66 mc ms X Q) X 66 → zin 5 [] (aX13_form_80 mc ms X Q) X 80 → zin 5 [0, 1, 2] (aX13_form_94 mc ms X Q) X 94 → zin 5 [0, 1, 2] (aX13_form_111 mc ms X Q) X 111 → zin 5 [] (aX13_form_129 mc ms X Q) X 129 → zin 5 [] (aX13_form_146 mc ms X Q) X 146 → X 0 0 0 av [] M
set_option maxRecDepth 100000 in
set_option maxHeartbeats 4000000 in
theorem sX13_form (l : Launch) (G : zG) : zSnd l G yX13_form cX13_form 5 (some .int) 2 45 wX13_form := by
  refine zmk [0, 1, 2] (by decide) (fun mc ms av M Q h => h.1) ?_
  intro p e R s m args below meth c mc ms av M Q hC hRf hRl hr hnm h lv hlv
  obtain ⟨X, hXe⟩ : ∃ X : Nat → zV, X = fun L u v vs st M => ∀ lv, zpick lv (lvX13_form L) = some vs → zAt p l e R s m args below meth c (MQ below (zQ G Q) args s mc ms (zA G)) G 5 L u v lv st M := ⟨_, rfl⟩
  have hJ : ∀ L, zOk p l e R s m args below meth c (MQ below (zQ G Q) args s mc ms (zA G)) G 5 L (zj X L (lvX13_form L)) := fun L => S_jump (fun u v lv vs st M hp hx => by rw [hXe] at hx; exact hx lv hp)
  have hB0 : zin 5 [0, 1, 2] (aX13_form_0 mc ms X Q) X 0 := by
    intro u v vs st M hb
    rw [hXe]
    refine fun lv hp => S_block (L := 0) (live := [0, 1, 2]) ?_ u v lv vs st M hp hb
    unfold aX13_form_0
    refine S_iload_n (pc := 0) hC dX13_form_0 rfl ?_
    refine S_iconst (pc := 1) hC dX13_form_1 (by decide) ?_
    refine S_icmp_eq (pc := 2) (tgt := 10) hC dX13_form_2 (by decide) ?_ ?_
    · exact hJ 10
    · refine S_iload_n (pc := 5) hC dX13_form_5 rfl ?_
      refine S_iconst (pc := 6) hC dX13_form_6 (by decide) ?_
      refine S_icmp_ne (pc := 7) (tgt := 14) hC dX13_form_7 (by decide) ?_ ?_
      · refine S_iconst (pc := 14) hC dX13_form_14 (by decide) ?_
        exact hJ 15
      · exact hJ 10
  have hB10 : zin 5 [0, 1, 2] (aX13_form_10 mc ms X Q) X 10 := by
    intro u v vs st M hb
    rw [hXe]
    refine fun lv hp => S_block (L := 10) (live := [0, 1, 2]) ?_ u v lv vs st M hp hb
    unfold aX13_form_10
    refine S_iconst (pc := 10) hC dX13_form_10 (by decide) ?_
    refine S_goto (pc := 11) (tgt := 15) hC dX13_form_11 (by decide) ?_
    exact hJ 15
  have hB15 : zin 5 [0, 1, 2] (aX13_form_15 mc ms X Q) X 15 := by
    intro u v vs st M hb
    rw [hXe]
    refine fun lv hp => S_block (L := 15) (live := [0, 1, 2]) ?_ u v lv vs st M hp hb
    unfold aX13_form_15
    refine S_istore_n (pc := 15) hC dX13_form_15 rfl (by decide) ?_
    refine S_iconst (pc := 16) hC dX13_form_16 (by decide) ?_
    refine S_istore (pc := 17) hC dX13_form_17 (by decide) ?_
    exact hJ 19
  have hB19 : zin 5 [0, 1, 2, 3, 4] (aX13_form_19 mc ms X Q) X 19 := by
    intro u v vs st M hb
    rw [hXe]
    refine fun lv hp => S_block (L := 19) (live := [0, 1, 2, 3, 4]) ?_ u v lv vs st M hp hb
    unfold aX13_form_19
    refine S_iload (pc := 19) hC dX13_form_19 ?_
    refine S_iload_n (pc := 21) hC dX13_form_21 rfl ?_
    refine S_icmp_ge (pc := 22) (tgt := 66) hC dX13_form_22 (by decide) ?_ ?_
    · exact hJ 66
    · refine S_iload_n (pc := 25) hC dX13_form_25 rfl ?_
      refine S_if_eq (pc := 26) (tgt := 66) hC dX13_form_26 (by decide) ?_ ?_
      · exact hJ 66
      · refine S_aload_n (pc := 29) hC dX13_form_29 rfl ?_
        refine S_iload_n (pc := 30) hC dX13_form_30 rfl ?_
        refine S_iload (pc := 31) hC dX13_form_31 ?_
        refine S_iadd (pc := 33) hC dX13_form_33 ?_
        refine S_callV (pc := 34) hC (sX13_sign l G) rfl wd_1516 wd_1518 ws_88 wd_12 wd_1519 (by decide +kernel) ⟨by rw [hRf]; decide, by rw [hRl]; decide⟩ dX13_form_34 ?_
        unfold kX13_form_37
        refine S_iload (pc := 37) hC dX13_form_37 ?_
        refine S_iconst (pc := 39) hC dX13_form_39 (by decide) ?_
        refine S_irem (pc := 40) hC dX13_form_40 ?_
        refine S_if_ne (pc := 41) (tgt := 49) hC dX13_form_41 (by decide) ?_ ?_
        · refine S_bipush (pc := 49) hC dX13_form_49 (by decide) ?_
          exact hJ 51
        · refine S_bipush (pc := 44) hC dX13_form_44 (by decide) ?_
          refine S_goto (pc := 46) (tgt := 51) hC dX13_form_46 (by decide) ?_
          exact hJ 51
  have hB51 : zin 5 [0, 1, 2, 4] (aX13_form_51 mc ms X Q) X 51 := by
    intro u v vs st M hb
    rw [hXe]
    refine fun lv hp => S_block (L := 51) (live := [0, 1, 2, 4]) ?_ u v lv vs st M hp hb
    unfold aX13_form_51
    refine S_icmp_ne (pc := 51) (tgt := 58) hC dX13_form_51 (by decide) ?_ ?_
    · refine S_iconst (pc := 58) hC dX13_form_58 (by decide) ?_
      exact hJ 59
    · refine S_iconst (pc := 54) hC dX13_form_54 (by decide) ?_
      refine S_goto (pc := 55) (tgt := 59) hC dX13_form_55 (by decide) ?_
      exact hJ 59
  have hB59 : zin 5 [0, 1, 2, 4] (aX13_form_59 mc ms X Q) X 59 := by
    intro u v vs st M hb
    rw [hXe]
    refine fun lv hp => S_block (L := 59) (live := [0, 1, 2, 4]) ?_ u v lv vs st M hp hb
    unfold aX13_form_59
    refine S_istore_n (pc := 59) hC dX13_form_59 rfl (by decide) ?_
    refine S_iinc (pc := 60) hC dX13_form_60 (by decide) (by decide) ?_
    refine S_goto (pc := 63) (tgt := 19) hC dX13_form_63 (by decide) ?_
    exact hJ 19
  have hB66 : zin 5 [0, 1, 2, 3] (aX13_form_66 mc ms X Q) X 66 := by
    intro u v vs st M hb
    rw [hXe]
    refine fun lv hp => S_block (L := 66) (live := [0, 1, 2, 3]) ?_ u v lv vs st M hp hb
    unfold aX13_form_66
    refine S_iload_n (pc := 66) hC dX13_form_66 rfl ?_
    refine S_if_eq (pc := 67) (tgt := 81) hC dX13_form_67 (by decide) ?_ ?_
    · refine S_iload_n (pc := 81) hC dX13_form_81 rfl ?_
      refine S_if_le (pc := 82) (tgt := 93) hC dX13_form_82 (by decide) ?_ ?_
      · refine S_iconst (pc := 93) hC dX13_form_93 (by decide) ?_
        exact hJ 94
      · refine S_aload_n (pc := 85) hC dX13_form_85 rfl ?_
        refine S_iload_n (pc := 86) hC dX13_form_86 rfl ?_
        refine S_callV (pc := 87) hC (sX13_sign l G) rfl wd_1516 wd_1518 ws_88 wd_12 wd_1519 (by decide +kernel) ⟨by rw [hRf]; decide, by rw [hRl]; decide⟩ dX13_form_87 ?_
        unfold kX13_form_90
        refine S_goto (pc := 90) (tgt := 94) hC dX13_form_90 (by decide) ?_
        exact hJ 94
    · refine S_iload_n (pc := 70) hC dX13_form_70 rfl ?_
      refine S_iconst (pc := 71) hC dX13_form_71 (by decide) ?_
      refine S_icmp_ne (pc := 72) (tgt := 79) hC dX13_form_72 (by decide) ?_ ?_
      · refine S_iconst (pc := 79) hC dX13_form_79 (by decide) ?_
        exact hJ 80
      · refine S_iconst (pc := 75) hC dX13_form_75 (by decide) ?_
        refine S_goto (pc := 76) (tgt := 80) hC dX13_form_76 (by decide) ?_
        exact hJ 80
  have hB80 : zin 5 [] (aX13_form_80 mc ms X Q) X 80 := by
    intro u v vs st M hb
    rw [hXe]
    refine fun lv hp => S_block (L := 80) (live := []) ?_ u v lv vs st M hp hb
    unfold aX13_form_80
    exact S_ireturn (pc := 80) hC hr dX13_form_80
  have hB94 : zin 5 [0, 1, 2] (aX13_form_94 mc ms X Q) X 94 := by
    intro u v vs st M hb
    rw [hXe]
    refine fun lv hp => S_block (L := 94) (live := [0, 1, 2]) ?_ u v lv vs st M hp hb
    unfold aX13_form_94
    refine S_istore (pc := 94) hC dX13_form_94 (by decide) ?_
    refine S_iload (pc := 96) hC dX13_form_96 ?_
    refine S_bipush (pc := 98) hC dX13_form_98 (by decide) ?_
    refine S_icmp_eq (pc := 100) (tgt := 111) hC dX13_form_100 (by decide) ?_ ?_
    · exact hJ 111
    · refine S_iload (pc := 103) hC dX13_form_103 ?_
      refine S_callS (pc := 105) hC (sX13_isOfficer l G) wd_1524 wd_1525 wd_12 wd_1526 (by decide +kernel) ⟨by rw [hRf]; decide, by rw [hRl]; decide⟩ dX13_form_105 ?_
      unfold kX13_form_108
      refine S_if_eq (pc := 108) (tgt := 130) hC dX13_form_108 (by decide) ?_ ?_
      · refine S_aload_n (pc := 130) hC dX13_form_130 rfl ?_
        refine S_iload_n (pc := 131) hC dX13_form_131 rfl ?_
        refine S_iload_n (pc := 132) hC dX13_form_132 rfl ?_
        refine S_iload_n (pc := 133) hC dX13_form_133 rfl ?_
        refine S_iadd (pc := 134) hC dX13_form_134 ?_
        refine S_callV (pc := 135) hC (sX13_pawnForm l G) rfl wd_1537 wd_1539 ws_91 wd_12 wd_1540 (by decide +kernel) ⟨by rw [hRf]; decide, by rw [hRl]; decide⟩ dX13_form_135 ?_
        unfold kX13_form_138
        refine S_if_eq (pc := 138) (tgt := 145) hC dX13_form_138 (by decide) ?_ ?_
        · refine S_iconst (pc := 145) hC dX13_form_145 (by decide) ?_
          exact hJ 146
        · refine S_iconst (pc := 141) hC dX13_form_141 (by decide) ?_
          refine S_goto (pc := 142) (tgt := 146) hC dX13_form_142 (by decide) ?_
          exact hJ 146
      · exact hJ 111
  have hB111 : zin 5 [0, 1, 2] (aX13_form_111 mc ms X Q) X 111 := by
    intro u v vs st M hb
    rw [hXe]
    refine fun lv hp => S_block (L := 111) (live := [0, 1, 2]) ?_ u v lv vs st M hp hb
    unfold aX13_form_111
    refine S_aload_n (pc := 111) hC dX13_form_111 rfl ?_
    refine S_iload_n (pc := 112) hC dX13_form_112 rfl ?_
    refine S_iconst (pc := 113) hC dX13_form_113 (by decide) ?_
    refine S_iadd (pc := 114) hC dX13_form_114 ?_
    refine S_iload_n (pc := 115) hC dX13_form_115 rfl ?_
    refine S_iload_n (pc := 116) hC dX13_form_116 rfl ?_
    refine S_iadd (pc := 117) hC dX13_form_117 ?_
    refine S_callV (pc := 118) hC (sX13_manForm l G) rfl wd_1527 wd_1529 ws_90 wd_12 wd_1530 (by decide +kernel) ⟨by rw [hRf]; decide, by rw [hRl]; decide⟩ dX13_form_118 ?_
    unfold kX13_form_121
    refine S_if_eq (pc := 121) (tgt := 128) hC dX13_form_121 (by decide) ?_ ?_
    · refine S_iconst (pc := 128) hC dX13_form_128 (by decide) ?_
      exact hJ 129
    · refine S_iconst (pc := 124) hC dX13_form_124 (by decide) ?_
      refine S_goto (pc := 125) (tgt := 129) hC dX13_form_125 (by decide) ?_
      exact hJ 129
  have hB129 : zin 5 [] (aX13_form_129 mc ms X Q) X 129 := by
    intro u v vs st M hb
    rw [hXe]
    refine fun lv hp => S_block (L := 129) (live := []) ?_ u v lv vs st M hp hb
    unfold aX13_form_129
    exact S_ireturn (pc := 129) hC hr dX13_form_129
  have hB146 : zin 5 [] (aX13_form_146 mc ms X Q) X 146 := by
    intro u v vs st M hb
    rw [hXe]
    refine fun lv hp => S_block (L := 146) (live := []) ?_ u v lv vs st M hp hb
    unfold aX13_form_146
    exact S_ireturn (pc := 146) hC hr dX13_form_146
  have := h.2 X hB0 hB10 hB15 hB19 hB51 hB59 hB66 hB80 hB94 hB111 hB129 hB146
  rw [hXe] at this
  exact this lv hlv
theorem vX13_form_0 {mc ms : Nat} {X : Nat → zV} {Q : zQt} {M : zM} {x1 : Int32} {x2 : Int32} (hW : zFix M)  (h : (x2 = (3 : Int32) → X 10 0 0 [.ref 55, .int x1, .int x2] [] M) ∧ (¬ x2 = (3 : Int32) → (x2 = (5 : Int32) → X 10 0 0 [.ref 55, .int x1, .int x2] [] M) ∧ (¬ x2 = (5 : Int32) → X 15 0 0 [.ref 55, .int x1, .int x2] [.int 0] M))) : aX13_form_0 mc ms X Q 0 0 [some (.ref 55), some (.int x1), some (.int x2), none, none] [] M := ⟨fun c2 => (h.1 c2), fun c2 => ⟨fun c7 => ((h.2 c2).1 c7), fun c7 => ((h.2 c2).2 c7)⟩⟩
theorem vX13_form_10 {mc ms : Nat} {X : Nat → zV} {Q : zQt} {M : zM} {x1 : Int32} {x2 : Int32} (hW : zFix M)  (h : X 15 0 0 [.ref 55, .int x1, .int x2] [.int 1] M) : aX13_form_10 mc ms X Q 0 0 [some (.ref 55), some (.int x1), some (.int x2), none, none] [] M := h
theorem vX13_form_15 {mc ms : Nat} {X : Nat → zV} {Q : zQt} {M : zM} {x1 : Int32} {x2 : Int32} {s0 : Int32} (hW : zFix M)  (h : X 19 0 0 [.ref 55, .int x1, .int x2, .int s0, .int 0] [] M) : aX13_form_15 mc ms X Q 0 0 [some (.ref 55), some (.int x1), some (.int x2), none, none] [.int s0] M := h
theorem vX13_form_19 {mc ms : Nat} {X : Nat → zV} {Q : zQt} {M : zM} {x1 : Int32} {x2 : Int32} {x3 : Int32} {x4 : Int32} (hW : zFix M)  (h : (x2 ≤ x4 → X 66 0 0 [.ref 55, .int x1, .int x2, .int x3] [] M) ∧ (¬ x2 ≤ x4 → (x3 = 0 → X 66 0 0 [.ref 55, .int x1, .int x2, .int x3] [] M) ∧ (¬ x3 = 0 → wX13_sign 0 0 [.ref 55, .int (x1 + x4)] M (fun r M1 => kX13_form_37 mc ms X Q 0 0 [some (.ref 55), some (.int x1), some (.int x2), some (.int x3), some (.int x4)] (r.toList ++ []) M1)))) : aX13_form_19 mc ms X Q 0 0 [some (.ref 55), some (.int x1), some (.int x2), some (.int x3), some (.int x4)] [] M := ⟨fun c22 => (h.1 c22), fun c22 => ⟨fun c26 => ((h.2 c22).1 c26), fun c26 => ⟨Nat.le_of_ble_eq_true rfl, rfl, (fxs_55 hW), 0, 0, Nat.zero_le _, Nat.zero_le _, ((h.2 c22).2 c26)⟩⟩⟩
theorem vX13_form_51 {mc ms : Nat} {X : Nat → zV} {Q : zQt} {M : zM} {x1 : Int32} {x2 : Int32} {x4 : Int32} {s0 : Int32} {s1 : Int32} (hW : zFix M)  (h : (s1 = s0 → X 59 0 0 [.ref 55, .int x1, .int x2, .int x4] [.int 1] M) ∧ (¬ s1 = s0 → X 59 0 0 [.ref 55, .int x1, .int x2, .int x4] [.int 0] M)) : aX13_form_51 mc ms X Q 0 0 [some (.ref 55), some (.int x1), some (.int x2), none, some (.int x4)] [.int s0, .int s1] M := ⟨fun c51 => (h.1 c51), fun c51 => (h.2 c51)⟩
theorem vX13_form_59 {mc ms : Nat} {X : Nat → zV} {Q : zQt} {M : zM} {x1 : Int32} {x2 : Int32} {x4 : Int32} {s0 : Int32} (hW : zFix M)  (h : X 19 0 0 [.ref 55, .int x1, .int x2, .int s0, .int (x4 + 1)] [] M) : aX13_form_59 mc ms X Q 0 0 [some (.ref 55), some (.int x1), some (.int x2), none, some (.int x4)] [.int s0] M := h
theorem vX13_form_66 {mc ms : Nat} {X : Nat → zV} {Q : zQt} {M : zM} {x1 : Int32} {x2 : Int32} {x3 : Int32} (hW : zFix M)  (h : (x3 = 0 → (x2 ≤ 0 → X 94 0 0 [.ref 55, .int x1, .int x2] [.int 0] M) ∧ (¬ x2 ≤ 0 → wX13_sign 0 0 [.ref 55, .int x1] M (fun r M1 => kX13_form_90 mc ms X Q 0 0 [some (.ref 55), some (.int x1), some (.int x2), some (.int x3), none] (r.toList ++ []) M1))) ∧ (¬ x3 = 0 → (x2 = (3 : Int32) → X 80 0 0 [] [.int 1] M) ∧ (¬ x2 = (3 : Int32) → X 80 0 0 [] [.int 2] M))) : aX13_form_66 mc ms X Q 0 0 [some (.ref 55), some (.int x1), some (.int x2), some (.int x3), none] [] M := ⟨fun c67 => ⟨fun c82 => ((h.1 c67).1 c82), fun c82 => ⟨Nat.le_of_ble_eq_true rfl, rfl, (fxs_55 hW), 0, 0, Nat.zero_le _, Nat.zero_le _, ((h.1 c67).2 c82)⟩⟩, fun c67 => ⟨fun c72 => ((h.2 c67).1 c72), fun c72 => ((h.2 c67).2 c72)⟩⟩
theorem vX13_form_80 {mc ms : Nat} {X : Nat → zV} {Q : zQt} {M : zM} {s0 : Int32} (hW : zFix M)  (h : Q (some (.int s0)) M) : aX13_form_80 mc ms X Q 0 0 [none, none, none, none, none] [.int s0] M := h
theorem vX13_form_94 {mc ms : Nat} {X : Nat → zV} {Q : zQt} {M : zM} {x1 : Int32} {x2 : Int32} {s0 : Int32} (hW : zFix M)  (h : (s0 = (75 : Int32) → X 111 0 0 [.ref 55, .int x1, .int x2] [] M) ∧ (¬ s0 = (75 : Int32) → wX13_isOfficer 0 0 [.int s0] M (fun r M1 => kX13_form_108 mc ms X Q 0 0 [some (.ref 55), some (.int x1), some (.int x2), none, some (.int s0)] (r.toList ++ []) M1))) : aX13_form_94 mc ms X Q 0 0 [some (.ref 55), some (.int x1), some (.int x2), none, none] [.int s0] M := ⟨fun c100 => (h.1 c100), fun c100 => ⟨Nat.le_of_ble_eq_true rfl, rfl, 0, 0, Nat.zero_le _, Nat.zero_le _, (h.2 c100)⟩⟩
theorem vX13_form_111 {mc ms : Nat} {X : Nat → zV} {Q : zQt} {M : zM} {x1 : Int32} {x2 : Int32} (hW : zFix M)  (h : wX13_manForm 0 0 [.ref 55, .int (x1 + (1 : Int32)), .int (x1 + x2)] M (fun r M1 => kX13_form_121 mc ms X Q 0 0 [some (.ref 55), some (.int x1), some (.int x2), none, none] (r.toList ++ []) M1)) : aX13_form_111 mc ms X Q 0 0 [some (.ref 55), some (.int x1), some (.int x2), none, none] [] M := ⟨Nat.le_of_ble_eq_true rfl, rfl, (fxs_55 hW), 0, 0, Nat.zero_le _, Nat.zero_le _, h⟩
theorem vX13_form_129 {mc ms : Nat} {X : Nat → zV} {Q : zQt} {M : zM} {s0 : Int32} (hW : zFix M)  (h : Q (some (.int s0)) M) : aX13_form_129 mc ms X Q 0 0 [none, none, none, none, none] [.int s0] M := h
theorem vX13_form_146 {mc ms : Nat} {X : Nat → zV} {Q : zQt} {M : zM} {s0 : Int32} (hW : zFix M)  (h : Q (some (.int s0)) M) : aX13_form_146 mc ms X Q 0 0 [none, none, none, none, none] [.int s0] M := h
theorem vkX13_form_37 {mc ms : Nat} {X : Nat → zV} {Q : zQt} {M : zM} {x1 : Int32} {x2 : Int32} {x3 : Int32} {x4 : Int32} {s0 : Int32} (hW : zFix M)  (h : ((x4 - x4 / (2 : Int32) * (2 : Int32)) = 0 → X 51 0 0 [.ref 55, .int x1, .int x2, .int x4] [.int 48, .int s0] M) ∧ (¬ (x4 - x4 / (2 : Int32) * (2 : Int32)) = 0 → X 51 0 0 [.ref 55, .int x1, .int x2, .int x4] [.int 45, .int s0] M)) : kX13_form_37 mc ms X Q 0 0 [some (.ref 55), some (.int x1), some (.int x2), some (.int x3), some (.int x4)] [.int s0] M := ⟨by decide, ⟨fun c41 => (h.1 c41), fun c41 => (h.2 c41)⟩⟩
theorem vkX13_form_90 {mc ms : Nat} {X : Nat → zV} {Q : zQt} {M : zM} {x1 : Int32} {x2 : Int32} {x3 : Int32} {s0 : Int32} (hW : zFix M)  (h : X 94 0 0 [.ref 55, .int x1, .int x2] [.int s0] M) : kX13_form_90 mc ms X Q 0 0 [some (.ref 55), some (.int x1), some (.int x2), some (.int x3), none] [.int s0] M := h
theorem vkX13_form_108 {mc ms : Nat} {X : Nat → zV} {Q : zQt} {M : zM} {x1 : Int32} {x2 : Int32} {x4 : Int32} {s0 : Int32} (hW : zFix M)  (h : (s0 = 0 → wX13_pawnForm 0 0 [.ref 55, .int x1, .int (x1 + x2)] M (fun r M1 => kX13_form_138 mc ms X Q 0 0 [some (.ref 55), some (.int x1), some (.int x2), none, some (.int x4)] (r.toList ++ []) M1)) ∧ (¬ s0 = 0 → X 111 0 0 [.ref 55, .int x1, .int x2] [] M)) : kX13_form_108 mc ms X Q 0 0 [some (.ref 55), some (.int x1), some (.int x2), none, some (.int x4)] [.int s0] M := ⟨fun c108 => ⟨Nat.le_of_ble_eq_true rfl, rfl, (fxs_55 hW), 0, 0, Nat.zero_le _, Nat.zero_le _, (h.1 c108)⟩, fun c108 => (h.2 c108)⟩
theorem vkX13_form_121 {mc ms : Nat} {X : Nat → zV} {Q : zQt} {M : zM} {x1 : Int32} {x2 : Int32} {s0 : Int32} (hW : zFix M)  (h : (s0 = 0 → X 129 0 0 [] [.int 0] M) ∧ (¬ s0 = 0 → X 129 0 0 [] [.int 3] M)) : kX13_form_121 mc ms X Q 0 0 [some (.ref 55), some (.int x1), some (.int x2), none, none] [.int s0] M := ⟨fun c121 => (h.1 c121), fun c121 => (h.2 c121)⟩
theorem vkX13_form_138 {mc ms : Nat} {X : Nat → zV} {Q : zQt} {M : zM} {x1 : Int32} {x2 : Int32} {x4 : Int32} {s0 : Int32} (hW : zFix M)  (h : (s0 = 0 → X 146 0 0 [] [.int 0] M) ∧ (¬ s0 = 0 → X 146 0 0 [] [.int 4] M)) : kX13_form_138 mc ms X Q 0 0 [some (.ref 55), some (.int x1), some (.int x2), none, some (.int x4)] [.int s0] M := ⟨fun c138 => (h.1 c138), fun c138 => (h.2 c138)⟩
theorem dX13_find_0 : decode cX13_find 0 = .ok (.iload_n 2, 1) := by decide +kernel
theorem dX13_find_1 : decode cX13_find 1 = .ok (.ifCond .le 35, 3) := by decide +kernel
theorem dX13_find_4 : decode cX13_find 4 = .ok (.aload_n 0, 1) := by decide +kernel
theorem dX13_find_5 : decode cX13_find 5 = .ok (.iload_n 1, 1) := by decide +kernel
theorem dX13_find_6 : decode cX13_find 6 = .ok (.iload_n 2, 1) := by decide +kernel
theorem dX13_find_7 : decode cX13_find 7 = .ok (.iadd, 1) := by decide +kernel
theorem dX13_find_8 : decode cX13_find 8 = .ok (.iconst 1, 1) := by decide +kernel
theorem dX13_find_9 : decode cX13_find 9 = .ok (.isub, 1) := by decide +kernel
theorem dX13_find_10 : decode cX13_find 10 = .ok (.invokevirtual 255, 3) := by decide +kernel
theorem dX13_find_13 : decode cX13_find 13 = .ok (.bipush 43, 2) := by decide +kernel
theorem dX13_find_15 : decode cX13_find 15 = .ok (.if_icmp .eq 17, 3) := by decide +kernel
theorem dX13_find_18 : decode cX13_find 18 = .ok (.aload_n 0, 1) := by decide +kernel
theorem dX13_find_19 : decode cX13_find 19 = .ok (.iload_n 1, 1) := by decide +kernel
theorem dX13_find_20 : decode cX13_find 20 = .ok (.iload_n 2, 1) := by decide +kernel
theorem dX13_find_21 : decode cX13_find 21 = .ok (.iadd, 1) := by decide +kernel
theorem dX13_find_22 : decode cX13_find 22 = .ok (.iconst 1, 1) := by decide +kernel
theorem dX13_find_23 : decode cX13_find 23 = .ok (.isub, 1) := by decide +kernel
theorem dX13_find_24 : decode cX13_find 24 = .ok (.invokevirtual 255, 3) := by decide +kernel
theorem dX13_find_27 : decode cX13_find 27 = .ok (.bipush 35, 2) := by decide +kernel
theorem dX13_find_29 : decode cX13_find 29 = .ok (.if_icmp .ne 7, 3) := by decide +kernel
theorem dX13_find_32 : decode cX13_find 32 = .ok (.iconst 1, 1) := by decide +kernel
theorem dX13_find_33 : decode cX13_find 33 = .ok (.goto 4, 3) := by decide +kernel
theorem dX13_find_36 : decode cX13_find 36 = .ok (.iconst 0, 1) := by decide +kernel
theorem dX13_find_37 : decode cX13_find 37 = .ok (.istore_n 3, 1) := by decide +kernel
theorem dX13_find_38 : decode cX13_find 38 = .ok (.iload_n 3, 1) := by decide +kernel
theorem dX13_find_39 : decode cX13_find 39 = .ok (.ifCond .eq 9, 3) := by decide +kernel
theorem dX13_find_42 : decode cX13_find 42 = .ok (.iload_n 2, 1) := by decide +kernel
theorem dX13_find_43 : decode cX13_find 43 = .ok (.iconst 1, 1) := by decide +kernel
theorem dX13_find_44 : decode cX13_find 44 = .ok (.isub, 1) := by decide +kernel
theorem dX13_find_45 : decode cX13_find 45 = .ok (.goto 4, 3) := by decide +kernel
theorem dX13_find_48 : decode cX13_find 48 = .ok (.iload_n 2, 1) := by decide +kernel
theorem dX13_find_49 : decode cX13_find 49 = .ok (.istore 4, 2) := by decide +kernel
theorem dX13_find_51 : decode cX13_find 51 = .ok (.aload_n 0, 1) := by decide +kernel
theorem dX13_find_52 : decode cX13_find 52 = .ok (.iload_n 1, 1) := by decide +kernel
theorem dX13_find_53 : decode cX13_find 53 = .ok (.iload 4, 2) := by decide +kernel
theorem dX13_find_55 : decode cX13_find 55 = .ok (.invokevirtual 273, 3) := by decide +kernel
theorem dX13_find_58 : decode cX13_find 58 = .ok (.istore 5, 2) := by decide +kernel
theorem dX13_find_60 : decode cX13_find 60 = .ok (.iload 5, 2) := by decide +kernel
theorem dX13_find_62 : decode cX13_find 62 = .ok (.ifCond .ne 6, 3) := by decide +kernel
theorem dX13_find_65 : decode cX13_find 65 = .ok (.bipush (-21), 2) := by decide +kernel
theorem dX13_find_67 : decode cX13_find 67 = .ok (.ireturn, 1) := by decide +kernel
theorem dX13_find_68 : decode cX13_find 68 = .ok (.bipush (-22), 2) := by decide +kernel
theorem dX13_find_70 : decode cX13_find 70 = .ok (.istore 6, 2) := by decide +kernel
theorem dX13_find_72 : decode cX13_find 72 = .ok (.iconst 0, 1) := by decide +kernel
theorem dX13_find_73 : decode cX13_find 73 = .ok (.istore 7, 2) := by decide +kernel
theorem dX13_find_75 : decode cX13_find 75 = .ok (.iload 7, 2) := by decide +kernel
theorem dX13_find_77 : decode cX13_find 77 = .ok (.aload_n 0, 1) := by decide +kernel
theorem dX13_find_78 : decode cX13_find 78 = .ok (.getfield 49, 3) := by decide +kernel
theorem dX13_find_81 : decode cX13_find 81 = .ok (.iconst 0, 1) := by decide +kernel
theorem dX13_find_82 : decode cX13_find 82 = .ok (.iaload, 1) := by decide +kernel
theorem dX13_find_83 : decode cX13_find 83 = .ok (.if_icmp .ge 107, 3) := by decide +kernel
theorem dX13_find_86 : decode cX13_find 86 = .ok (.aload_n 0, 1) := by decide +kernel
theorem dX13_find_87 : decode cX13_find 87 = .ok (.aload_n 0, 1) := by decide +kernel
theorem dX13_find_88 : decode cX13_find 88 = .ok (.getfield 46, 3) := by decide +kernel
theorem dX13_find_91 : decode cX13_find 91 = .ok (.iload 7, 2) := by decide +kernel
theorem dX13_find_93 : decode cX13_find 93 = .ok (.iaload, 1) := by decide +kernel
theorem dX13_find_94 : decode cX13_find 94 = .ok (.iload 5, 2) := by decide +kernel
theorem dX13_find_96 : decode cX13_find 96 = .ok (.iload_n 1, 1) := by decide +kernel
theorem dX13_find_97 : decode cX13_find 97 = .ok (.iload 4, 2) := by decide +kernel
theorem dX13_find_99 : decode cX13_find 99 = .ok (.invokevirtual 276, 3) := by decide +kernel
theorem dX13_find_102 : decode cX13_find 102 = .ok (.ifCond .eq 82, 3) := by decide +kernel
theorem dX13_find_105 : decode cX13_find 105 = .ok (.aload_n 0, 1) := by decide +kernel
theorem dX13_find_106 : decode cX13_find 106 = .ok (.aload_n 0, 1) := by decide +kernel
theorem dX13_find_107 : decode cX13_find 107 = .ok (.getfield 46, 3) := by decide +kernel
theorem dX13_find_110 : decode cX13_find 110 = .ok (.iload 7, 2) := by decide +kernel
theorem dX13_find_112 : decode cX13_find 112 = .ok (.iaload, 1) := by decide +kernel
theorem dX13_find_113 : decode cX13_find 113 = .ok (.invokevirtual 280, 3) := by decide +kernel
theorem dX13_find_116 : decode cX13_find 116 = .ok (.aload_n 0, 1) := by decide +kernel
theorem dX13_find_117 : decode cX13_find 117 = .ok (.iload_n 1, 1) := by decide +kernel
theorem dX13_find_118 : decode cX13_find 118 = .ok (.iload 4, 2) := by decide +kernel
theorem dX13_find_120 : decode cX13_find 120 = .ok (.invokevirtual 283, 3) := by decide +kernel
theorem dX13_find_123 : decode cX13_find 123 = .ok (.istore 8, 2) := by decide +kernel
theorem dX13_find_125 : decode cX13_find 125 = .ok (.iload 8, 2) := by decide +kernel
theorem dX13_find_127 : decode cX13_find 127 = .ok (.ifCond .eq 8, 3) := by decide +kernel
theorem dX13_find_130 : decode cX13_find 130 = .ok (.bipush (-24), 2) := by decide +kernel
theorem dX13_find_132 : decode cX13_find 132 = .ok (.goto 17, 3) := by decide +kernel
theorem dX13_find_135 : decode cX13_find 135 = .ok (.iload 6, 2) := by decide +kernel
theorem dX13_find_137 : decode cX13_find 137 = .ok (.bipush (-24), 2) := by decide +kernel
theorem dX13_find_139 : decode cX13_find 139 = .ok (.if_icmp .ne 8, 3) := by decide +kernel
theorem dX13_find_142 : decode cX13_find 142 = .ok (.bipush (-24), 2) := by decide +kernel
theorem dX13_find_144 : decode cX13_find 144 = .ok (.goto 5, 3) := by decide +kernel
theorem dX13_find_147 : decode cX13_find 147 = .ok (.bipush (-23), 2) := by decide +kernel
theorem dX13_find_149 : decode cX13_find 149 = .ok (.istore 6, 2) := by decide +kernel
theorem dX13_find_151 : decode cX13_find 151 = .ok (.iload 8, 2) := by decide +kernel
theorem dX13_find_153 : decode cX13_find 153 = .ok (.ifCond .eq 31, 3) := by decide +kernel
theorem dX13_find_156 : decode cX13_find 156 = .ok (.aload_n 0, 1) := by decide +kernel
theorem dX13_find_157 : decode cX13_find 157 = .ok (.aload_n 0, 1) := by decide +kernel
theorem dX13_find_158 : decode cX13_find 158 = .ok (.getfield 46, 3) := by decide +kernel
theorem dX13_find_161 : decode cX13_find 161 = .ok (.iload 7, 2) := by decide +kernel
theorem dX13_find_163 : decode cX13_find 163 = .ok (.iaload, 1) := by decide +kernel
theorem dX13_find_164 : decode cX13_find 164 = .ok (.invokevirtual 286, 3) := by decide +kernel
theorem dX13_find_167 : decode cX13_find 167 = .ok (.aload_n 0, 1) := by decide +kernel
theorem dX13_find_168 : decode cX13_find 168 = .ok (.iload_n 1, 1) := by decide +kernel
theorem dX13_find_169 : decode cX13_find 169 = .ok (.iload_n 2, 1) := by decide +kernel
theorem dX13_find_170 : decode cX13_find 170 = .ok (.invokevirtual 283, 3) := by decide +kernel
theorem dX13_find_173 : decode cX13_find 173 = .ok (.ifCond .eq 11, 3) := by decide +kernel
theorem dX13_find_176 : decode cX13_find 176 = .ok (.aload_n 0, 1) := by decide +kernel
theorem dX13_find_177 : decode cX13_find 177 = .ok (.getfield 46, 3) := by decide +kernel
theorem dX13_find_180 : decode cX13_find 180 = .ok (.iload 7, 2) := by decide +kernel
theorem dX13_find_182 : decode cX13_find 182 = .ok (.iaload, 1) := by decide +kernel
theorem dX13_find_183 : decode cX13_find 183 = .ok (.ireturn, 1) := by decide +kernel
theorem dX13_find_184 : decode cX13_find 184 = .ok (.iinc 7 1, 3) := by decide +kernel
theorem dX13_find_187 : decode cX13_find 187 = .ok (.goto (-112), 3) := by decide +kernel
theorem dX13_find_190 : decode cX13_find 190 = .ok (.iload 6, 2) := by decide +kernel
theorem dX13_find_192 : decode cX13_find 192 = .ok (.ireturn, 1) := by decide +kernel
def kX13_find_27 (mc ms : Nat) (X : Nat → zV) (Q : zQt) : zT :=
  zc (.int 35) <| zic (fun x y => x = y) (zj X 32 [0, 1, 2]) <| zj X 36 [0, 1, 2]
def kX13_find_13 (mc ms : Nat) (X : Nat → zV) (Q : zQt) : zT :=
  zc (.int 43) <| zic (fun x y => x = y) (zj X 32 [0, 1, 2]) <| zla 0 <| zli 1 <| zli 2 <| zii (fun x y => x + y) <| zc (.int 1) <| zii (fun x y => x - y) <| zcv mc ms 13 1 wX13_sign <| kX13_find_27 mc ms X Q
def kX13_find_58 (mc ms : Nat) (X : Nat → zV) (Q : zQt) : zT :=
  zsi 5 <| zli 5 <| zif (fun x => x = 0) (zc (.int (-21)) <| zri Q) <| zc (.int (-22)) <| zsi 6 <| zc (.int 0) <| zsi 7 <| zj X 75 [0, 1, 2, 4, 5, 6, 7]
def kX13_find_123 (mc ms : Nat) (X : Nat → zV) (Q : zQt) : zT :=
  zsi 8 <| zli 8 <| zif (fun x => x = 0) (zli 6 <| zc (.int (-24)) <| zic (fun x y => x = y) (zc (.int (-24)) <| zj X 149 [0, 1, 2, 4, 5, 7, 8]) <| zc (.int (-23)) <| zj X 149 [0, 1, 2, 4, 5, 7, 8]) <| zc (.int (-24)) <| zj X 149 [0, 1, 2, 4, 5, 7, 8]
def kX13_find_116 (mc ms : Nat) (X : Nat → zV) (Q : zQt) : zT :=
  zla 0 <| zli 1 <| zli 4 <| zcv mc ms 13 2 wX13_isText <| kX13_find_123 mc ms X Q
def kX13_find_102 (mc ms : Nat) (X : Nat → zV) (Q : zQt) : zT :=
  zif (fun x => x = 0) (zj X 184 [0, 1, 2, 4, 5, 6, 7]) <| zla 0 <| zla 0 <| zgR 13 17 <| zli 7 <| zal 1 <| zcv mc ms 13 1 wX13_spell <| kX13_find_116 mc ms X Q
def kX13_find_173 (mc ms : Nat) (X : Nat → zV) (Q : zQt) : zT :=
  zif (fun x => x = 0) (zj X 184 [0, 1, 2, 4, 5, 6, 7]) <| zla 0 <| zgR 13 17 <| zli 7 <| zal 1 <| zri Q
def kX13_find_167 (mc ms : Nat) (X : Nat → zV) (Q : zQt) : zT :=
  zla 0 <| zli 1 <| zli 2 <| zcv mc ms 13 2 wX13_isText <| kX13_find_173 mc ms X Q
def aX13_find_0 (mc ms : Nat) (X : Nat → zV) (Q : zQt) : zT :=
  zli 2 <| zif (fun x => x ≤ 0) (zj X 36 [0, 1, 2]) <| zla 0 <| zli 1 <| zli 2 <| zii (fun x y => x + y) <| zc (.int 1) <| zii (fun x y => x - y) <| zcv mc ms 13 1 wX13_sign <| kX13_find_13 mc ms X Q
def aX13_find_32 (mc ms : Nat) (X : Nat → zV) (Q : zQt) : zT :=
  zc (.int 1) <| zj X 37 [0, 1, 2]
def aX13_find_36 (mc ms : Nat) (X : Nat → zV) (Q : zQt) : zT :=
  zc (.int 0) <| zj X 37 [0, 1, 2]
def aX13_find_37 (mc ms : Nat) (X : Nat → zV) (Q : zQt) : zT :=
  zsi 3 <| zli 3 <| zif (fun x => x = 0) (zli 2 <| zj X 49 [0, 1, 2]) <| zli 2 <| zc (.int 1) <| zii (fun x y => x - y) <| zj X 49 [0, 1, 2]
def aX13_find_49 (mc ms : Nat) (X : Nat → zV) (Q : zQt) : zT :=
  zsi 4 <| zla 0 <| zli 1 <| zli 4 <| zcv mc ms 13 2 wX13_form <| kX13_find_58 mc ms X Q
def aX13_find_75 (mc ms : Nat) (X : Nat → zV) (Q : zQt) : zT :=
  zli 7 <| zla 0 <| zgR 13 18 <| zc (.int 0) <| zal 1 <| zic (fun x y => y ≤ x) (zli 6 <| zri Q) <| zla 0 <| zla 0 <| zgR 13 17 <| zli 7 <| zal 1 <| zli 5 <| zli 1 <| zli 4 <| zcv mc ms 13 4 wX13_isLike <| kX13_find_102 mc ms X Q
def aX13_find_149 (mc ms : Nat) (X : Nat → zV) (Q : zQt) : zT :=
  zsi 6 <| zli 8 <| zif (fun x => x = 0) (zj X 184 [0, 1, 2, 4, 5, 6, 7]) <| zla 0 <| zla 0 <| zgR 13 17 <| zli 7 <| zal 1 <| zcv mc ms 13 1 wX13_saySign <| kX13_find_167 mc ms X Q
def aX13_find_184 (mc ms : Nat) (X : Nat → zV) (Q : zQt) : zT :=
  zinc 7 1 <| zj X 75 [0, 1, 2, 4, 5, 6, 7]
def lvX13_find : Nat → List Nat := fun L => match L with
  | 0 => [0, 1, 2]
  | 32 => [0, 1, 2]
  | 36 => [0, 1, 2]
  | 37 => [0, 1, 2]
  | 49 => [0, 1, 2]
  | 75 => [0, 1, 2, 4, 5, 6, 7]
  | 149 => [0, 1, 2, 4, 5, 7, 8]
  | 184 => [0, 1, 2, 4, 5, 6, 7]
  | _ => []
def wX13_find : zSp := fun mc ms av M Q => ((zlay av).length ≤ 9 ∧ zpick (zlay av) [0, 1, 2] = some av) ∧ ∀ X : Nat → zV, zin 9 [0, 1, 2] (aX13_find_0 mc ms X Q) X 0 → zin 9 [0, 1, 2] (aX13_find_32 mc ms X Q) X 32 → zin 9 [0, 1, 2] (aX13_find_36 mc ms X Q) X 36 → zin 9 [0, 1, 2] (aX13_find_37 mc ms X Q) X 37 → zin 9 [0, 1, 2] (aX13_find_49 mc ms X Q) X 49 → zin 9 [0, 1, 2, 4, 5, 6, 7] (aX13_find_75 mc ms X Q) X 75 → zin 9 [0, 1, 2, 4, 5, 7, 8] (aX13_find_149 mc ms X Q) X 149 → zin 9 [0, 1, 2, 4, 5, 6, 7] (aX13_find_184 mc ms X Q) X 184 → X 0 0 0 av [] M
set_option maxRecDepth 100000 in
set_option maxHeartbeats 4000000 in
theorem sX13_find (l : Launch) (G : zG) : zSnd l G yX13_find cX13_find 9 (some .int) 8 202 wX13_find := by
  refine zmk [0, 1, 2] (by decide) (fun mc ms av M Q h => h.1) ?_
  intro p e R s m args below meth c mc ms av M Q hC hRf hRl hr hnm h lv hlv
  obtain ⟨X, hXe⟩ : ∃ X : Nat → zV, X = fun L u v vs st M => ∀ lv, zpick lv (lvX13_find L) = some vs → zAt p l e R s m args below meth c (MQ below (zQ G Q) args s mc ms (zA G)) G 9 L u v lv st M := ⟨_, rfl⟩
  have hJ : ∀ L, zOk p l e R s m args below meth c (MQ below (zQ G Q) args s mc ms (zA G)) G 9 L (zj X L (lvX13_find L)) := fun L => S_jump (fun u v lv vs st M hp hx => by rw [hXe] at hx; exact hx lv hp)
  have hB0 : zin 9 [0, 1, 2] (aX13_find_0 mc ms X Q) X 0 := by
    intro u v vs st M hb
    rw [hXe]
    refine fun lv hp => S_block (L := 0) (live := [0, 1, 2]) ?_ u v lv vs st M hp hb
    unfold aX13_find_0
    refine S_iload_n (pc := 0) hC dX13_find_0 rfl ?_
    refine S_if_le (pc := 1) (tgt := 36) hC dX13_find_1 (by decide) ?_ ?_
    · exact hJ 36
    · refine S_aload_n (pc := 4) hC dX13_find_4 rfl ?_
      refine S_iload_n (pc := 5) hC dX13_find_5 rfl ?_
      refine S_iload_n (pc := 6) hC dX13_find_6 rfl ?_
      refine S_iadd (pc := 7) hC dX13_find_7 ?_
      refine S_iconst (pc := 8) hC dX13_find_8 (by decide) ?_
      refine S_isub (pc := 9) hC dX13_find_9 ?_
      refine S_callV (pc := 10) hC (sX13_sign l G) rfl wd_1516 wd_1518 ws_88 wd_12 wd_1519 (by decide +kernel) ⟨by rw [hRf]; decide, by rw [hRl]; decide⟩ dX13_find_10 ?_
      unfold kX13_find_13
      refine S_bipush (pc := 13) hC dX13_find_13 (by decide) ?_
      refine S_icmp_eq (pc := 15) (tgt := 32) hC dX13_find_15 (by decide) ?_ ?_
      · exact hJ 32
      · refine S_aload_n (pc := 18) hC dX13_find_18 rfl ?_
        refine S_iload_n (pc := 19) hC dX13_find_19 rfl ?_
        refine S_iload_n (pc := 20) hC dX13_find_20 rfl ?_
        refine S_iadd (pc := 21) hC dX13_find_21 ?_
        refine S_iconst (pc := 22) hC dX13_find_22 (by decide) ?_
        refine S_isub (pc := 23) hC dX13_find_23 ?_
        refine S_callV (pc := 24) hC (sX13_sign l G) rfl wd_1516 wd_1518 ws_88 wd_12 wd_1519 (by decide +kernel) ⟨by rw [hRf]; decide, by rw [hRl]; decide⟩ dX13_find_24 ?_
        unfold kX13_find_27
        refine S_bipush (pc := 27) hC dX13_find_27 (by decide) ?_
        refine S_icmp_ne (pc := 29) (tgt := 36) hC dX13_find_29 (by decide) ?_ ?_
        · exact hJ 36
        · exact hJ 32
  have hB32 : zin 9 [0, 1, 2] (aX13_find_32 mc ms X Q) X 32 := by
    intro u v vs st M hb
    rw [hXe]
    refine fun lv hp => S_block (L := 32) (live := [0, 1, 2]) ?_ u v lv vs st M hp hb
    unfold aX13_find_32
    refine S_iconst (pc := 32) hC dX13_find_32 (by decide) ?_
    refine S_goto (pc := 33) (tgt := 37) hC dX13_find_33 (by decide) ?_
    exact hJ 37
  have hB36 : zin 9 [0, 1, 2] (aX13_find_36 mc ms X Q) X 36 := by
    intro u v vs st M hb
    rw [hXe]
    refine fun lv hp => S_block (L := 36) (live := [0, 1, 2]) ?_ u v lv vs st M hp hb
    unfold aX13_find_36
    refine S_iconst (pc := 36) hC dX13_find_36 (by decide) ?_
    exact hJ 37
  have hB37 : zin 9 [0, 1, 2] (aX13_find_37 mc ms X Q) X 37 := by
    intro u v vs st M hb
    rw [hXe]
    refine fun lv hp => S_block (L := 37) (live := [0, 1, 2]) ?_ u v lv vs st M hp hb
    unfold aX13_find_37
    refine S_istore_n (pc := 37) hC dX13_find_37 rfl (by decide) ?_
    refine S_iload_n (pc := 38) hC dX13_find_38 rfl ?_
    refine S_if_eq (pc := 39) (tgt := 48) hC dX13_find_39 (by decide) ?_ ?_
    · refine S_iload_n (pc := 48) hC dX13_find_48 rfl ?_
      exact hJ 49
    · refine S_iload_n (pc := 42) hC dX13_find_42 rfl ?_
      refine S_iconst (pc := 43) hC dX13_find_43 (by decide) ?_
      refine S_isub (pc := 44) hC dX13_find_44 ?_
      refine S_goto (pc := 45) (tgt := 49) hC dX13_find_45 (by decide) ?_
      exact hJ 49
  have hB49 : zin 9 [0, 1, 2] (aX13_find_49 mc ms X Q) X 49 := by
    intro u v vs st M hb
    rw [hXe]
    refine fun lv hp => S_block (L := 49) (live := [0, 1, 2]) ?_ u v lv vs st M hp hb
    unfold aX13_find_49
    refine S_istore (pc := 49) hC dX13_find_49 (by decide) ?_
    refine S_aload_n (pc := 51) hC dX13_find_51 rfl ?_
    refine S_iload_n (pc := 52) hC dX13_find_52 rfl ?_
    refine S_iload (pc := 53) hC dX13_find_53 ?_
    refine S_callV (pc := 55) hC (sX13_form l G) rfl wd_1520 wd_1522 ws_89 wd_12 wd_1523 (by decide +kernel) ⟨by rw [hRf]; decide, by rw [hRl]; decide⟩ dX13_find_55 ?_
    unfold kX13_find_58
    refine S_istore (pc := 58) hC dX13_find_58 (by decide) ?_
    refine S_iload (pc := 60) hC dX13_find_60 ?_
    refine S_if_ne (pc := 62) (tgt := 68) hC dX13_find_62 (by decide) ?_ ?_
    · refine S_bipush (pc := 68) hC dX13_find_68 (by decide) ?_
      refine S_istore (pc := 70) hC dX13_find_70 (by decide) ?_
      refine S_iconst (pc := 72) hC dX13_find_72 (by decide) ?_
      refine S_istore (pc := 73) hC dX13_find_73 (by decide) ?_
      exact hJ 75
    · refine S_bipush (pc := 65) hC dX13_find_65 (by decide) ?_
      exact S_ireturn (pc := 67) hC hr dX13_find_67
  have hB75 : zin 9 [0, 1, 2, 4, 5, 6, 7] (aX13_find_75 mc ms X Q) X 75 := by
    intro u v vs st M hb
    rw [hXe]
    refine fun lv hp => S_block (L := 75) (live := [0, 1, 2, 4, 5, 6, 7]) ?_ u v lv vs st M hp hb
    unfold aX13_find_75
    refine S_iload (pc := 75) hC dX13_find_75 ?_
    refine S_aload_n (pc := 77) hC dX13_find_77 rfl ?_
    refine S_getR (pc := 78) hC cfX13 (by decide) (Or.inr ⟨_, rfl⟩) wd_1273 dX13_find_78 ?_
    refine S_iconst (pc := 81) hC dX13_find_81 (by decide) ?_
    refine S_iaload (pc := 82) hC dX13_find_82 ?_
    refine S_icmp_ge (pc := 83) (tgt := 190) hC dX13_find_83 (by decide) ?_ ?_
    · refine S_iload (pc := 190) hC dX13_find_190 ?_
      exact S_ireturn (pc := 192) hC hr dX13_find_192
    · refine S_aload_n (pc := 86) hC dX13_find_86 rfl ?_
      refine S_aload_n (pc := 87) hC dX13_find_87 rfl ?_
      refine S_getR (pc := 88) hC cfX13 (by decide) (Or.inr ⟨_, rfl⟩) wd_1272 dX13_find_88 ?_
      refine S_iload (pc := 91) hC dX13_find_91 ?_
      refine S_iaload (pc := 93) hC dX13_find_93 ?_
      refine S_iload (pc := 94) hC dX13_find_94 ?_
      refine S_iload_n (pc := 96) hC dX13_find_96 rfl ?_
      refine S_iload (pc := 97) hC dX13_find_97 ?_
      refine S_callV (pc := 99) hC (sX13_isLike l G) rfl wd_1541 wd_1543 ws_92 wd_12 wd_1544 (by decide +kernel) ⟨by rw [hRf]; decide, by rw [hRl]; decide⟩ dX13_find_99 ?_
      unfold kX13_find_102
      refine S_if_eq (pc := 102) (tgt := 184) hC dX13_find_102 (by decide) ?_ ?_
      · exact hJ 184
      · refine S_aload_n (pc := 105) hC dX13_find_105 rfl ?_
        refine S_aload_n (pc := 106) hC dX13_find_106 rfl ?_
        refine S_getR (pc := 107) hC cfX13 (by decide) (Or.inr ⟨_, rfl⟩) wd_1272 dX13_find_107 ?_
        refine S_iload (pc := 110) hC dX13_find_110 ?_
        refine S_iaload (pc := 112) hC dX13_find_112 ?_
        refine S_callV (pc := 113) hC (sX13_spell l G) rfl wd_1549 wd_1551 ws_94 wd_12 wd_1552 (by decide +kernel) ⟨by rw [hRf]; decide, by rw [hRl]; decide⟩ dX13_find_113 ?_
        unfold kX13_find_116
        refine S_aload_n (pc := 116) hC dX13_find_116 rfl ?_
        refine S_iload_n (pc := 117) hC dX13_find_117 rfl ?_
        refine S_iload (pc := 118) hC dX13_find_118 ?_
        refine S_callV (pc := 120) hC (sX13_isText l G) rfl wd_1569 wd_1571 ws_99 wd_12 wd_1572 (by decide +kernel) ⟨by rw [hRf]; decide, by rw [hRl]; decide⟩ dX13_find_120 ?_
        unfold kX13_find_123
        refine S_istore (pc := 123) hC dX13_find_123 (by decide) ?_
        refine S_iload (pc := 125) hC dX13_find_125 ?_
        refine S_if_eq (pc := 127) (tgt := 135) hC dX13_find_127 (by decide) ?_ ?_
        · refine S_iload (pc := 135) hC dX13_find_135 ?_
          refine S_bipush (pc := 137) hC dX13_find_137 (by decide) ?_
          refine S_icmp_ne (pc := 139) (tgt := 147) hC dX13_find_139 (by decide) ?_ ?_
          · refine S_bipush (pc := 147) hC dX13_find_147 (by decide) ?_
            exact hJ 149
          · refine S_bipush (pc := 142) hC dX13_find_142 (by decide) ?_
            refine S_goto (pc := 144) (tgt := 149) hC dX13_find_144 (by decide) ?_
            exact hJ 149
        · refine S_bipush (pc := 130) hC dX13_find_130 (by decide) ?_
          refine S_goto (pc := 132) (tgt := 149) hC dX13_find_132 (by decide) ?_
          exact hJ 149
  have hB149 : zin 9 [0, 1, 2, 4, 5, 7, 8] (aX13_find_149 mc ms X Q) X 149 := by
    intro u v vs st M hb
    rw [hXe]
    refine fun lv hp => S_block (L := 149) (live := [0, 1, 2, 4, 5, 7, 8]) ?_ u v lv vs st M hp hb
    unfold aX13_find_149
    refine S_istore (pc := 149) hC dX13_find_149 (by decide) ?_
    refine S_iload (pc := 151) hC dX13_find_151 ?_
    refine S_if_eq (pc := 153) (tgt := 184) hC dX13_find_153 (by decide) ?_ ?_
    · exact hJ 184
    · refine S_aload_n (pc := 156) hC dX13_find_156 rfl ?_
      refine S_aload_n (pc := 157) hC dX13_find_157 rfl ?_
      refine S_getR (pc := 158) hC cfX13 (by decide) (Or.inr ⟨_, rfl⟩) wd_1272 dX13_find_158 ?_
      refine S_iload (pc := 161) hC dX13_find_161 ?_
      refine S_iaload (pc := 163) hC dX13_find_163 ?_
      refine S_callV (pc := 164) hC (sX13_saySign l G) rfl wd_1573 wd_1575 ws_100 wd_12 wd_1576 (by decide +kernel) ⟨by rw [hRf]; decide, by rw [hRl]; decide⟩ dX13_find_164 ?_
      unfold kX13_find_167
      refine S_aload_n (pc := 167) hC dX13_find_167 rfl ?_
      refine S_iload_n (pc := 168) hC dX13_find_168 rfl ?_
      refine S_iload_n (pc := 169) hC dX13_find_169 rfl ?_
      refine S_callV (pc := 170) hC (sX13_isText l G) rfl wd_1569 wd_1571 ws_99 wd_12 wd_1572 (by decide +kernel) ⟨by rw [hRf]; decide, by rw [hRl]; decide⟩ dX13_find_170 ?_
      unfold kX13_find_173
      refine S_if_eq (pc := 173) (tgt := 184) hC dX13_find_173 (by decide) ?_ ?_
      · exact hJ 184
      · refine S_aload_n (pc := 176) hC dX13_find_176 rfl ?_
        refine S_getR (pc := 177) hC cfX13 (by decide) (Or.inr ⟨_, rfl⟩) wd_1272 dX13_find_177 ?_
        refine S_iload (pc := 180) hC dX13_find_180 ?_
        refine S_iaload (pc := 182) hC dX13_find_182 ?_
        exact S_ireturn (pc := 183) hC hr dX13_find_183
  have hB184 : zin 9 [0, 1, 2, 4, 5, 6, 7] (aX13_find_184 mc ms X Q) X 184 := by
    intro u v vs st M hb
    rw [hXe]
    refine fun lv hp => S_block (L := 184) (live := [0, 1, 2, 4, 5, 6, 7]) ?_ u v lv vs st M hp hb
    unfold aX13_find_184
    refine S_iinc (pc := 184) hC dX13_find_184 (by decide) (by decide) ?_
    refine S_goto (pc := 187) (tgt := 75) hC dX13_find_187 (by decide) ?_
    exact hJ 75
  have := h.2 X hB0 hB32 hB36 hB37 hB49 hB75 hB149 hB184
  rw [hXe] at this
  exact this lv hlv
theorem vX13_find_0 {mc ms : Nat} {X : Nat → zV} {Q : zQt} {M : zM} {x1 : Int32} {x2 : Int32} (hW : zFix M)  (h : (x2 ≤ 0 → X 36 0 0 [.ref 55, .int x1, .int x2] [] M) ∧ (¬ x2 ≤ 0 → wX13_sign 0 0 [.ref 55, .int ((x1 + x2) - (1 : Int32))] M (fun r M1 => kX13_find_13 mc ms X Q 0 0 [some (.ref 55), some (.int x1), some (.int x2), none, none, none, none, none, none] (r.toList ++ []) M1))) : aX13_find_0 mc ms X Q 0 0 [some (.ref 55), some (.int x1), some (.int x2), none, none, none, none, none, none] [] M := ⟨fun c1 => (h.1 c1), fun c1 => ⟨Nat.le_of_ble_eq_true rfl, rfl, (fxs_55 hW), 0, 0, Nat.zero_le _, Nat.zero_le _, (h.2 c1)⟩⟩
theorem vX13_find_32 {mc ms : Nat} {X : Nat → zV} {Q : zQt} {M : zM} {x1 : Int32} {x2 : Int32} (hW : zFix M)  (h : X 37 0 0 [.ref 55, .int x1, .int x2] [.int 1] M) : aX13_find_32 mc ms X Q 0 0 [some (.ref 55), some (.int x1), some (.int x2), none, none, none, none, none, none] [] M := h
theorem vX13_find_36 {mc ms : Nat} {X : Nat → zV} {Q : zQt} {M : zM} {x1 : Int32} {x2 : Int32} (hW : zFix M)  (h : X 37 0 0 [.ref 55, .int x1, .int x2] [.int 0] M) : aX13_find_36 mc ms X Q 0 0 [some (.ref 55), some (.int x1), some (.int x2), none, none, none, none, none, none] [] M := h
theorem vX13_find_37 {mc ms : Nat} {X : Nat → zV} {Q : zQt} {M : zM} {x1 : Int32} {x2 : Int32} {s0 : Int32} (hW : zFix M)  (h : (s0 = 0 → X 49 0 0 [.ref 55, .int x1, .int x2] [.int x2] M) ∧ (¬ s0 = 0 → X 49 0 0 [.ref 55, .int x1, .int x2] [.int (x2 - (1 : Int32))] M)) : aX13_find_37 mc ms X Q 0 0 [some (.ref 55), some (.int x1), some (.int x2), none, none, none, none, none, none] [.int s0] M := ⟨fun c39 => (h.1 c39), fun c39 => (h.2 c39)⟩
theorem vX13_find_49 {mc ms : Nat} {X : Nat → zV} {Q : zQt} {M : zM} {x1 : Int32} {x2 : Int32} {s0 : Int32} (hW : zFix M)  (h : wX13_form 0 0 [.ref 55, .int x1, .int s0] M (fun r M1 => kX13_find_58 mc ms X Q 0 0 [some (.ref 55), some (.int x1), some (.int x2), none, some (.int s0), none, none, none, none] (r.toList ++ []) M1)) : aX13_find_49 mc ms X Q 0 0 [some (.ref 55), some (.int x1), some (.int x2), none, none, none, none, none, none] [.int s0] M := ⟨Nat.le_of_ble_eq_true rfl, rfl, (fxs_55 hW), 0, 0, Nat.zero_le _, Nat.zero_le _, h⟩
theorem vX13_find_75 {mc ms : Nat} {X : Nat → zV} {Q : zQt} {M : zM} {x1 : Int32} {x2 : Int32} {x4 : Int32} {x5 : Int32} {x6 : Int32} {x7 : Int32} (hW : zFix M)  (h : (((M : zM).1 67 (0 : Int32).toNatClampNeg) ≤ x7 → Q (some (.int x6)) M) ∧ (¬ ((M : zM).1 67 (0 : Int32).toNatClampNeg) ≤ x7 → vp_in x7 1980 ∧ wX13_isLike 0 0 [.ref 55, .int ((M : zM).1 66 (x7 : Int32).toNatClampNeg), .int x5, .int x1, .int x4] M (fun r M1 => kX13_find_102 mc ms X Q 0 0 [some (.ref 55), some (.int x1), some (.int x2), none, some (.int x4), some (.int x5), some (.int x6), some (.int x7), none] (r.toList ++ []) M1))) : aX13_find_75 mc ms X Q 0 0 [some (.ref 55), some (.int x1), some (.int x2), none, some (.int x4), some (.int x5), some (.int x6), some (.int x7), none] [] M := ⟨(fxs_55 hW), 67, (fxr_55_18 hW), ⟨6, (fxs_67 hW), by unfold vp_in; decide, ⟨fun c83 => (h.1 c83), fun c83 => ⟨(fxs_55 hW), 66, (fxr_55_17 hW), ⟨1980, (fxs_66 hW), (h.2 c83).1, ⟨Nat.le_of_ble_eq_true rfl, rfl, (fxs_55 hW), 0, 0, Nat.zero_le _, Nat.zero_le _, (h.2 c83).2⟩⟩⟩⟩⟩⟩
theorem vX13_find_149 {mc ms : Nat} {X : Nat → zV} {Q : zQt} {M : zM} {x1 : Int32} {x2 : Int32} {x4 : Int32} {x5 : Int32} {x7 : Int32} {x8 : Int32} {s0 : Int32} (hW : zFix M)  (h : (x8 = 0 → X 184 0 0 [.ref 55, .int x1, .int x2, .int x4, .int x5, .int s0, .int x7] [] M) ∧ (¬ x8 = 0 → vp_in x7 1980 ∧ wX13_saySign 0 0 [.ref 55, .int ((M : zM).1 66 (x7 : Int32).toNatClampNeg)] M (fun r M1 => kX13_find_167 mc ms X Q 0 0 [some (.ref 55), some (.int x1), some (.int x2), none, some (.int x4), some (.int x5), some (.int s0), some (.int x7), some (.int x8)] (r.toList ++ []) M1))) : aX13_find_149 mc ms X Q 0 0 [some (.ref 55), some (.int x1), some (.int x2), none, some (.int x4), some (.int x5), none, some (.int x7), some (.int x8)] [.int s0] M := ⟨fun c153 => (h.1 c153), fun c153 => ⟨(fxs_55 hW), 66, (fxr_55_17 hW), ⟨1980, (fxs_66 hW), (h.2 c153).1, ⟨Nat.le_of_ble_eq_true rfl, rfl, (fxs_55 hW), 0, 0, Nat.zero_le _, Nat.zero_le _, (h.2 c153).2⟩⟩⟩⟩
theorem vX13_find_184 {mc ms : Nat} {X : Nat → zV} {Q : zQt} {M : zM} {x1 : Int32} {x2 : Int32} {x4 : Int32} {x5 : Int32} {x6 : Int32} {x7 : Int32} (hW : zFix M)  (h : X 75 0 0 [.ref 55, .int x1, .int x2, .int x4, .int x5, .int x6, .int (x7 + 1)] [] M) : aX13_find_184 mc ms X Q 0 0 [some (.ref 55), some (.int x1), some (.int x2), none, some (.int x4), some (.int x5), some (.int x6), some (.int x7), none] [] M := h
theorem vkX13_find_13 {mc ms : Nat} {X : Nat → zV} {Q : zQt} {M : zM} {x1 : Int32} {x2 : Int32} {s0 : Int32} (hW : zFix M)  (h : (s0 = (43 : Int32) → X 32 0 0 [.ref 55, .int x1, .int x2] [] M) ∧ (¬ s0 = (43 : Int32) → wX13_sign 0 0 [.ref 55, .int ((x1 + x2) - (1 : Int32))] M (fun r M1 => kX13_find_27 mc ms X Q 0 0 [some (.ref 55), some (.int x1), some (.int x2), none, none, none, none, none, none] (r.toList ++ []) M1))) : kX13_find_13 mc ms X Q 0 0 [some (.ref 55), some (.int x1), some (.int x2), none, none, none, none, none, none] [.int s0] M := ⟨fun c15 => (h.1 c15), fun c15 => ⟨Nat.le_of_ble_eq_true rfl, rfl, (fxs_55 hW), 0, 0, Nat.zero_le _, Nat.zero_le _, (h.2 c15)⟩⟩
theorem vkX13_find_27 {mc ms : Nat} {X : Nat → zV} {Q : zQt} {M : zM} {x1 : Int32} {x2 : Int32} {s0 : Int32} (hW : zFix M)  (h : (s0 = (35 : Int32) → X 32 0 0 [.ref 55, .int x1, .int x2] [] M) ∧ (¬ s0 = (35 : Int32) → X 36 0 0 [.ref 55, .int x1, .int x2] [] M)) : kX13_find_27 mc ms X Q 0 0 [some (.ref 55), some (.int x1), some (.int x2), none, none, none, none, none, none] [.int s0] M := ⟨fun c29 => (h.1 c29), fun c29 => (h.2 c29)⟩
theorem vkX13_find_58 {mc ms : Nat} {X : Nat → zV} {Q : zQt} {M : zM} {x1 : Int32} {x2 : Int32} {x4 : Int32} {s0 : Int32} (hW : zFix M)  (h : (s0 = 0 → Q (some (.int ((-21)))) M) ∧ (¬ s0 = 0 → X 75 0 0 [.ref 55, .int x1, .int x2, .int x4, .int s0, .int (-22), .int 0] [] M)) : kX13_find_58 mc ms X Q 0 0 [some (.ref 55), some (.int x1), some (.int x2), none, some (.int x4), none, none, none, none] [.int s0] M := ⟨fun c62 => (h.1 c62), fun c62 => (h.2 c62)⟩
theorem vkX13_find_102 {mc ms : Nat} {X : Nat → zV} {Q : zQt} {M : zM} {x1 : Int32} {x2 : Int32} {x4 : Int32} {x5 : Int32} {x6 : Int32} {x7 : Int32} {s0 : Int32} (hW : zFix M)  (h : (s0 = 0 → X 184 0 0 [.ref 55, .int x1, .int x2, .int x4, .int x5, .int x6, .int x7] [] M) ∧ (¬ s0 = 0 → vp_in x7 1980 ∧ wX13_spell 0 0 [.ref 55, .int ((M : zM).1 66 (x7 : Int32).toNatClampNeg)] M (fun r M1 => kX13_find_116 mc ms X Q 0 0 [some (.ref 55), some (.int x1), some (.int x2), none, some (.int x4), some (.int x5), some (.int x6), some (.int x7), none] (r.toList ++ []) M1))) : kX13_find_102 mc ms X Q 0 0 [some (.ref 55), some (.int x1), some (.int x2), none, some (.int x4), some (.int x5), some (.int x6), some (.int x7), none] [.int s0] M := ⟨fun c102 => (h.1 c102), fun c102 => ⟨(fxs_55 hW), 66, (fxr_55_17 hW), ⟨1980, (fxs_66 hW), (h.2 c102).1, ⟨Nat.le_of_ble_eq_true rfl, rfl, (fxs_55 hW), 0, 0, Nat.zero_le _, Nat.zero_le _, (h.2 c102).2⟩⟩⟩⟩
theorem vkX13_find_116 {mc ms : Nat} {X : Nat → zV} {Q : zQt} {M : zM} {x1 : Int32} {x2 : Int32} {x4 : Int32} {x5 : Int32} {x6 : Int32} {x7 : Int32} (hW : zFix M)  (h : wX13_isText 0 0 [.ref 55, .int x1, .int x4] M (fun r M1 => kX13_find_123 mc ms X Q 0 0 [some (.ref 55), some (.int x1), some (.int x2), none, some (.int x4), some (.int x5), some (.int x6), some (.int x7), none] (r.toList ++ []) M1)) : kX13_find_116 mc ms X Q 0 0 [some (.ref 55), some (.int x1), some (.int x2), none, some (.int x4), some (.int x5), some (.int x6), some (.int x7), none] [] M := ⟨Nat.le_of_ble_eq_true rfl, rfl, (fxs_55 hW), 0, 0, Nat.zero_le _, Nat.zero_le _, h⟩
theorem vkX13_find_123 {mc ms : Nat} {X : Nat → zV} {Q : zQt} {M : zM} {x1 : Int32} {x2 : Int32} {x4 : Int32} {x5 : Int32} {x6 : Int32} {x7 : Int32} {s0 : Int32} (hW : zFix M)  (h : (s0 = 0 → (x6 = ((-24) : Int32) → X 149 0 0 [.ref 55, .int x1, .int x2, .int x4, .int x5, .int x7, .int s0] [.int (-24)] M) ∧ (¬ x6 = ((-24) : Int32) → X 149 0 0 [.ref 55, .int x1, .int x2, .int x4, .int x5, .int x7, .int s0] [.int (-23)] M)) ∧ (¬ s0 = 0 → X 149 0 0 [.ref 55, .int x1, .int x2, .int x4, .int x5, .int x7, .int s0] [.int (-24)] M)) : kX13_find_123 mc ms X Q 0 0 [some (.ref 55), some (.int x1), some (.int x2), none, some (.int x4), some (.int x5), some (.int x6), some (.int x7), none] [.int s0] M := ⟨fun c127 => ⟨fun c139 => ((h.1 c127).1 c139), fun c139 => ((h.1 c127).2 c139)⟩, fun c127 => (h.2 c127)⟩
theorem vkX13_find_167 {mc ms : Nat} {X : Nat → zV} {Q : zQt} {M : zM} {x1 : Int32} {x2 : Int32} {x4 : Int32} {x5 : Int32} {x6 : Int32} {x7 : Int32} {x8 : Int32} (hW : zFix M)  (h : wX13_isText 0 0 [.ref 55, .int x1, .int x2] M (fun r M1 => kX13_find_173 mc ms X Q 0 0 [some (.ref 55), some (.int x1), some (.int x2), none, some (.int x4), some (.int x5), some (.int x6), some (.int x7), some (.int x8)] (r.toList ++ []) M1)) : kX13_find_167 mc ms X Q 0 0 [some (.ref 55), some (.int x1), some (.int x2), none, some (.int x4), some (.int x5), some (.int x6), some (.int x7), some (.int x8)] [] M := ⟨Nat.le_of_ble_eq_true rfl, rfl, (fxs_55 hW), 0, 0, Nat.zero_le _, Nat.zero_le _, h⟩
theorem vkX13_find_173 {mc ms : Nat} {X : Nat → zV} {Q : zQt} {M : zM} {x1 : Int32} {x2 : Int32} {x4 : Int32} {x5 : Int32} {x6 : Int32} {x7 : Int32} {x8 : Int32} {s0 : Int32} (hW : zFix M)  (h : (s0 = 0 → X 184 0 0 [.ref 55, .int x1, .int x2, .int x4, .int x5, .int x6, .int x7] [] M) ∧ (¬ s0 = 0 → vp_in x7 1980 ∧ Q (some (.int (((M : zM).1 66 (x7 : Int32).toNatClampNeg)))) M)) : kX13_find_173 mc ms X Q 0 0 [some (.ref 55), some (.int x1), some (.int x2), none, some (.int x4), some (.int x5), some (.int x6), some (.int x7), some (.int x8)] [.int s0] M := ⟨fun c173 => (h.1 c173), fun c173 => ⟨(fxs_55 hW), 66, (fxr_55_17 hW), ⟨1980, (fxs_66 hW), (h.2 c173).1, (h.2 c173).2⟩⟩⟩
