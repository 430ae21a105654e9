theorem dX11_spelling_0 : decode cX11_spelling 0 = .ok (.aload_n 0, 1) := by decide +kernel
theorem dX11_spelling_1 : decode cX11_spelling 1 = .ok (.iload_n 1, 1) := by decide +kernel
theorem dX11_spelling_2 : decode cX11_spelling 2 = .ok (.invokevirtual 138, 3) := by decide +kernel
theorem dX11_spelling_5 : decode cX11_spelling 5 = .ok (.ifCond .ne 11, 3) := by decide +kernel
theorem dX11_spelling_8 : decode cX11_spelling 8 = .ok (.new 120, 3) := by decide +kernel
theorem dX11_spelling_11 : decode cX11_spelling 11 = .ok (.dup, 1) := by decide +kernel
theorem dX11_spelling_12 : decode cX11_spelling 12 = .ok (.invokespecial 122, 3) := by decide +kernel
theorem dX11_spelling_15 : decode cX11_spelling 15 = .ok (.athrow, 1) := by decide +kernel
theorem dX11_spelling_16 : decode cX11_spelling 16 = .ok (.aload_n 0, 1) := by decide +kernel
theorem dX11_spelling_17 : decode cX11_spelling 17 = .ok (.getfield 19, 3) := by decide +kernel
theorem dX11_spelling_20 : decode cX11_spelling 20 = .ok (.aload_n 0, 1) := by decide +kernel
theorem dX11_spelling_21 : decode cX11_spelling 21 = .ok (.getfield 58, 3) := by decide +kernel
theorem dX11_spelling_24 : decode cX11_spelling 24 = .ok (.iload_n 1, 1) := by decide +kernel
theorem dX11_spelling_25 : decode cX11_spelling 25 = .ok (.invokevirtual 142, 3) := by decide +kernel
theorem dX11_spelling_28 : decode cX11_spelling 28 = .ok (.lreturn, 1) := by decide +kernel
def kX11_spelling_28 (mc ms : Nat) (X : Nat → zV) (Q : zQt) : zT :=
  zrl Q
def kX11_spelling_5 (mc ms : Nat) (X : Nat → zV) (Q : zQt) : zT :=
  zif (fun x => x = 0) (zno) <| zla 0 <| zgR 11 2 <| zla 0 <| zgR 11 6 <| zli 1 <| zcv mc ms 9 2 wX9_whole <| kX11_spelling_28 mc ms X Q
def aX11_spelling_0 (mc ms : Nat) (X : Nat → zV) (Q : zQt) : zT :=
  zla 0 <| zli 1 <| zcv mc ms 11 1 wX11_hasPlace <| kX11_spelling_5 mc ms X Q
def lvX11_spelling : Nat → List Nat := fun L => match L with
  | 0 => [0, 1]
  | _ => []
def wX11_spelling : zSp := fun mc ms av M Q => ((zlay av).length ≤ 2 ∧ zpick (zlay av) [0, 1] = some av) ∧ ∀ X : Nat → zV, zin 2 [0, 1] (aX11_spelling_0 mc ms X Q) X 0 → X 0 0 0 av [] M
set_option maxRecDepth 100000 in
set_option maxHeartbeats 4000000 in
theorem sX11_spelling (l : Launch) (G : zG) (hE : zXt G) : zSnd l G yX11_spelling cX11_spelling 2 (some .long) 7 180 wX11_spelling := by
  refine zmk [0, 1] (by decide) (fun mc ms av M Q h => h.1) ?_
  intro p e R s m args below meth c mc ms av M Q hC hRf hRl hr hnm h lv hlv
  obtain ⟨X, hXe⟩ : ∃ X : Nat → zV, X = fun L u v vs st M => ∀ lv, zpick lv (lvX11_spelling L) = some vs → zAt p l e R s m args below meth c (MQ below (zQ G Q) args s mc ms (zA G)) G 2 L u v lv st M := ⟨_, rfl⟩
  have hJ : ∀ L, zOk p l e R s m args below meth c (MQ below (zQ G Q) args s mc ms (zA G)) G 2 L (zj X L (lvX11_spelling L)) := fun L => S_jump (fun u v lv vs st M hp hx => by rw [hXe] at hx; exact hx lv hp)
  have hB0 : zin 2 [0, 1] (aX11_spelling_0 mc ms X Q) X 0 := by
    intro u v vs st M hb
    rw [hXe]
    refine fun lv hp => S_block (L := 0) (live := [0, 1]) ?_ u v lv vs st M hp hb
    unfold aX11_spelling_0
    refine S_aload_n (pc := 0) hC dX11_spelling_0 rfl ?_
    refine S_iload_n (pc := 1) hC dX11_spelling_1 rfl ?_
    refine S_callV (pc := 2) hC (sX11_hasPlace l G) rfl wd_985 wd_987 ws_40 wd_1 wd_988 (by decide +kernel) ⟨by rw [hRf]; decide, by rw [hRl]; decide⟩ dX11_spelling_2 ?_
    unfold kX11_spelling_5
    refine S_if_ne (pc := 5) (tgt := 16) hC dX11_spelling_5 (by decide) ?_ ?_
    · refine S_aload_n (pc := 16) hC dX11_spelling_16 rfl ?_
      refine S_getR (pc := 17) hC cfX11 (by decide) (Or.inl ⟨_, rfl⟩) wd_348 dX11_spelling_17 ?_
      refine S_aload_n (pc := 20) hC dX11_spelling_20 rfl ?_
      refine S_getR (pc := 21) hC cfX11 (by decide) (Or.inl ⟨_, rfl⟩) wd_352 dX11_spelling_21 ?_
      refine S_iload_n (pc := 24) hC dX11_spelling_24 rfl ?_
      refine S_callV (pc := 25) hC (sX9_whole l G hE) rfl wd_996 wd_997 wd_998 wd_3 wd_999 (by decide +kernel) ⟨by rw [hRf]; decide, by rw [hRl]; decide⟩ dX11_spelling_25 ?_
      unfold kX11_spelling_28
      exact S_lreturn (pc := 28) hC hr dX11_spelling_28
    · exact S_no
  have := h.2 X hB0
  rw [hXe] at this
  exact this lv hlv
theorem vX11_spelling_0 {mc ms : Nat} {X : Nat → zV} {Q : zQt} {M : zM} {g : Nat} {x1 : Int32} (hW : zWd M g)  (h : wX11_hasPlace 0 0 [.ref 16, .int x1] M (fun r M1 => kX11_spelling_5 mc ms X Q 0 0 [some (.ref 16), some (.int x1)] (r.toList ++ []) M1)) : aX11_spelling_0 mc ms X Q 0 0 [some (.ref 16), some (.int x1)] [] M := ⟨Nat.le_of_ble_eq_true rfl, rfl, (fxs_16 hW.1), 0, 0, Nat.zero_le _, Nat.zero_le _, h⟩
theorem vkX11_spelling_5 {mc ms : Nat} {X : Nat → zV} {Q : zQt} {M : zM} {g : Nat} {x1 : Int32} {s0 : Int32} (hW : zWd M g)  (h : (s0 = 0 → False) ∧ (¬ s0 = 0 → ∃ r21, ((M : zM).2.2.1 16 6) = some r21 ∧ zsh M r21 = some (0, 4) ∧ wX9_whole 0 0 [.ref 25, .ref r21, .int x1] M (fun r M1 => kX11_spelling_28 mc ms X Q 0 0 [some (.ref 16), some (.int x1)] (r.toList ++ []) M1))) : kX11_spelling_5 mc ms X Q 0 0 [some (.ref 16), some (.int x1)] [.int s0] M := ⟨fun c5 => (h.1 c5), fun c5 => ⟨(fxs_16 hW.1), 25, (fxr_16_2 hW.1), (let ⟨r21, q21, hr21, h21⟩ := (h.2 c5); ⟨(fxs_16 hW.1), r21, q21, ⟨Nat.le_of_ble_eq_true rfl, rfl, (fxs_25 hW.1), 0, 0, Nat.zero_le _, Nat.zero_le _, h21⟩⟩)⟩⟩
theorem vkX11_spelling_28 {mc ms : Nat} {X : Nat → zV} {Q : zQt} {M : zM} {g : Nat} {x1 : Int32} {s0 : Int64} (hW : zWd M g)  (h : Q (some (.long s0)) M) : kX11_spelling_28 mc ms X Q 0 0 [some (.ref 16), some (.int x1)] [.long s0] M := h
theorem dX11_linesTo_0 : decode cX11_linesTo 0 = .ok (.aload_n 0, 1) := by decide +kernel
theorem dX11_linesTo_1 : decode cX11_linesTo 1 = .ok (.getfield 65, 3) := by decide +kernel
theorem dX11_linesTo_4 : decode cX11_linesTo 4 = .ok (.ifCond .ne 11, 3) := by decide +kernel
theorem dX11_linesTo_7 : decode cX11_linesTo 7 = .ok (.new 114, 3) := by decide +kernel
theorem dX11_linesTo_10 : decode cX11_linesTo 10 = .ok (.dup, 1) := by decide +kernel
theorem dX11_linesTo_11 : decode cX11_linesTo 11 = .ok (.invokespecial 116, 3) := by decide +kernel
theorem dX11_linesTo_14 : decode cX11_linesTo 14 = .ok (.athrow, 1) := by decide +kernel
theorem dX11_linesTo_15 : decode cX11_linesTo 15 = .ok (.iload_n 1, 1) := by decide +kernel
theorem dX11_linesTo_16 : decode cX11_linesTo 16 = .ok (.ifCond .lt 11, 3) := by decide +kernel
theorem dX11_linesTo_19 : decode cX11_linesTo 19 = .ok (.iload_n 1, 1) := by decide +kernel
theorem dX11_linesTo_20 : decode cX11_linesTo 20 = .ok (.aload_n 0, 1) := by decide +kernel
theorem dX11_linesTo_21 : decode cX11_linesTo 21 = .ok (.invokevirtual 155, 3) := by decide +kernel
theorem dX11_linesTo_24 : decode cX11_linesTo 24 = .ok (.if_icmp .le 11, 3) := by decide +kernel
theorem dX11_linesTo_27 : decode cX11_linesTo 27 = .ok (.new 86, 3) := by decide +kernel
theorem dX11_linesTo_30 : decode cX11_linesTo 30 = .ok (.dup, 1) := by decide +kernel
theorem dX11_linesTo_31 : decode cX11_linesTo 31 = .ok (.invokespecial 88, 3) := by decide +kernel
theorem dX11_linesTo_34 : decode cX11_linesTo 34 = .ok (.athrow, 1) := by decide +kernel
theorem dX11_linesTo_35 : decode cX11_linesTo 35 = .ok (.aload_n 0, 1) := by decide +kernel
theorem dX11_linesTo_36 : decode cX11_linesTo 36 = .ok (.getfield 42, 3) := by decide +kernel
theorem dX11_linesTo_39 : decode cX11_linesTo 39 = .ok (.aload_n 0, 1) := by decide +kernel
theorem dX11_linesTo_40 : decode cX11_linesTo 40 = .ok (.getfield 58, 3) := by decide +kernel
theorem dX11_linesTo_43 : decode cX11_linesTo 43 = .ok (.iload_n 1, 1) := by decide +kernel
theorem dX11_linesTo_44 : decode cX11_linesTo 44 = .ok (.invokevirtual 158, 3) := by decide +kernel
theorem dX11_linesTo_47 : decode cX11_linesTo 47 = .ok (.lreturn, 1) := by decide +kernel
def kX11_linesTo_47 (mc ms : Nat) (X : Nat → zV) (Q : zQt) : zT :=
  zrl Q
def kX11_linesTo_24 (mc ms : Nat) (X : Nat → zV) (Q : zQt) : zT :=
  zic (fun x y => x ≤ y) (zla 0 <| zgR 11 4 <| zla 0 <| zgR 11 6 <| zli 1 <| zcv mc ms 8 2 wX8_lines <| kX11_linesTo_47 mc ms X Q) <| zj X 27 []
def aX11_linesTo_0 (mc ms : Nat) (X : Nat → zV) (Q : zQt) : zT :=
  zla 0 <| zgi 11 8 <| zif (fun x => x = 0) (zno) <| zli 1 <| zif (fun x => x < 0) (zj X 27 []) <| zli 1 <| zla 0 <| zcv mc ms 11 0 wX11_shortDepth <| kX11_linesTo_24 mc ms X Q
def aX11_linesTo_27 (mc ms : Nat) (X : Nat → zV) (Q : zQt) : zT :=
  zno
def lvX11_linesTo : Nat → List Nat := fun L => match L with
  | 0 => [0, 1]
  | 27 => []
  | _ => []
def wX11_linesTo : zSp := fun mc ms av M Q => ((zlay av).length ≤ 2 ∧ zpick (zlay av) [0, 1] = some av) ∧ ∀ X : Nat → zV, zin 2 [0, 1] (aX11_linesTo_0 mc ms X Q) X 0 → zin 2 [] (aX11_linesTo_27 mc ms X Q) X 27 → X 0 0 0 av [] M
set_option maxRecDepth 100000 in
set_option maxHeartbeats 4000000 in
theorem sX11_linesTo (l : Launch) (G : zG) (hE : zXt G) : zSnd l G yX11_linesTo cX11_linesTo 2 (some .long) 13 349 wX11_linesTo := by
  refine zmk [0, 1] (by decide) (fun mc ms av M Q h => h.1) ?_
  intro p e R s m args below meth c mc ms av M Q hC hRf hRl hr hnm h lv hlv
  obtain ⟨X, hXe⟩ : ∃ X : Nat → zV, X = fun L u v vs st M => ∀ lv, zpick lv (lvX11_linesTo L) = some vs → zAt p l e R s m args below meth c (MQ below (zQ G Q) args s mc ms (zA G)) G 2 L u v lv st M := ⟨_, rfl⟩
  have hJ : ∀ L, zOk p l e R s m args below meth c (MQ below (zQ G Q) args s mc ms (zA G)) G 2 L (zj X L (lvX11_linesTo L)) := fun L => S_jump (fun u v lv vs st M hp hx => by rw [hXe] at hx; exact hx lv hp)
  have hB0 : zin 2 [0, 1] (aX11_linesTo_0 mc ms X Q) X 0 := by
    intro u v vs st M hb
    rw [hXe]
    refine fun lv hp => S_block (L := 0) (live := [0, 1]) ?_ u v lv vs st M hp hb
    unfold aX11_linesTo_0
    refine S_aload_n (pc := 0) hC dX11_linesTo_0 rfl ?_
    refine S_geti (pc := 1) hC cfX11 (by decide) (Or.inr rfl) wd_354 dX11_linesTo_1 ?_
    refine S_if_ne (pc := 4) (tgt := 15) hC dX11_linesTo_4 (by decide) ?_ ?_
    · refine S_iload_n (pc := 15) hC dX11_linesTo_15 rfl ?_
      refine S_if_lt (pc := 16) (tgt := 27) hC dX11_linesTo_16 (by decide) ?_ ?_
      · exact hJ 27
      · refine S_iload_n (pc := 19) hC dX11_linesTo_19 rfl ?_
        refine S_aload_n (pc := 20) hC dX11_linesTo_20 rfl ?_
        refine S_callV (pc := 21) hC (sX11_shortDepth l G) rfl wd_1008 wd_1010 ws_41 wd_1 wd_1011 (by decide +kernel) ⟨by rw [hRf]; decide, by rw [hRl]; decide⟩ dX11_linesTo_21 ?_
        unfold kX11_linesTo_24
        refine S_icmp_le (pc := 24) (tgt := 35) hC dX11_linesTo_24 (by decide) ?_ ?_
        · refine S_aload_n (pc := 35) hC dX11_linesTo_35 rfl ?_
          refine S_getR (pc := 36) hC cfX11 (by decide) (Or.inl ⟨_, rfl⟩) wd_350 dX11_linesTo_36 ?_
          refine S_aload_n (pc := 39) hC dX11_linesTo_39 rfl ?_
          refine S_getR (pc := 40) hC cfX11 (by decide) (Or.inl ⟨_, rfl⟩) wd_352 dX11_linesTo_40 ?_
          refine S_iload_n (pc := 43) hC dX11_linesTo_43 rfl ?_
          refine S_callV (pc := 44) hC (sX8_lines l G hE) rfl wd_1012 wd_1013 wd_1014 wd_7 wd_1015 (by decide +kernel) ⟨by rw [hRf]; decide, by rw [hRl]; decide⟩ dX11_linesTo_44 ?_
          unfold kX11_linesTo_47
          exact S_lreturn (pc := 47) hC hr dX11_linesTo_47
        · exact hJ 27
    · exact S_no
  have hB27 : zin 2 [] (aX11_linesTo_27 mc ms X Q) X 27 := by
    intro u v vs st M hb
    rw [hXe]
    refine fun lv hp => S_block (L := 27) (live := []) ?_ u v lv vs st M hp hb
    unfold aX11_linesTo_27
    exact S_no
  have := h.2 X hB0 hB27
  rw [hXe] at this
  exact this lv hlv
theorem vX11_linesTo_0 {mc ms : Nat} {X : Nat → zV} {Q : zQt} {M : zM} {g : Nat} {x1 : Int32} (hW : zWd M g)  (h : ((M.1 16 8) = 0 → False) ∧ (¬ (M.1 16 8) = 0 → (x1 < 0 → X 27 0 0 [] [] M) ∧ (¬ x1 < 0 → wX11_shortDepth 0 0 [.ref 16] M (fun r M1 => kX11_linesTo_24 mc ms X Q 0 0 [some (.ref 16), some (.int x1)] (r.toList ++ [.int x1]) M1)))) : aX11_linesTo_0 mc ms X Q 0 0 [some (.ref 16), some (.int x1)] [] M := ⟨(fxs_16 hW.1), ⟨fun c4 => (h.1 c4), fun c4 => ⟨fun c16 => ((h.2 c4).1 c16), fun c16 => ⟨Nat.le_of_ble_eq_true rfl, rfl, (fxs_16 hW.1), 0, 0, Nat.zero_le _, Nat.zero_le _, ((h.2 c4).2 c16)⟩⟩⟩⟩
theorem vX11_linesTo_27 {mc ms : Nat} {X : Nat → zV} {Q : zQt} {M : zM} {g : Nat}  (hW : zWd M g)  (h : False) : aX11_linesTo_27 mc ms X Q 0 0 [none, none] [] M := h
theorem vkX11_linesTo_24 {mc ms : Nat} {X : Nat → zV} {Q : zQt} {M : zM} {g : Nat} {x1 : Int32} {s0 : Int32} {s1 : Int32} (hW : zWd M g)  (h : (s1 ≤ s0 → ∃ r40, ((M : zM).2.2.1 16 6) = some r40 ∧ zsh M r40 = some (0, 4) ∧ wX8_lines 0 0 [.ref 31, .ref r40, .int x1] M (fun r M1 => kX11_linesTo_47 mc ms X Q 0 0 [some (.ref 16), some (.int x1)] (r.toList ++ []) M1)) ∧ (¬ s1 ≤ s0 → X 27 0 0 [] [] M)) : kX11_linesTo_24 mc ms X Q 0 0 [some (.ref 16), some (.int x1)] [.int s0, .int s1] M := ⟨fun c24 => ⟨(fxs_16 hW.1), 31, (fxr_16_4 hW.1), (let ⟨r40, q40, hr40, h40⟩ := (h.1 c24); ⟨(fxs_16 hW.1), r40, q40, ⟨Nat.le_of_ble_eq_true rfl, rfl, (fxs_31 hW.1), 0, 0, Nat.zero_le _, Nat.zero_le _, h40⟩⟩)⟩, fun c24 => (h.2 c24)⟩
theorem vkX11_linesTo_47 {mc ms : Nat} {X : Nat → zV} {Q : zQt} {M : zM} {g : Nat} {x1 : Int32} {s0 : Int64} (hW : zWd M g)  (h : Q (some (.long s0)) M) : kX11_linesTo_47 mc ms X Q 0 0 [some (.ref 16), some (.int x1)] [.long s0] M := h
theorem dX11_valueAt_0 : decode cX11_valueAt 0 = .ok (.aload_n 0, 1) := by decide +kernel
theorem dX11_valueAt_1 : decode cX11_valueAt 1 = .ok (.getfield 65, 3) := by decide +kernel
theorem dX11_valueAt_4 : decode cX11_valueAt 4 = .ok (.ifCond .ne 11, 3) := by decide +kernel
theorem dX11_valueAt_7 : decode cX11_valueAt 7 = .ok (.new 114, 3) := by decide +kernel
theorem dX11_valueAt_10 : decode cX11_valueAt 10 = .ok (.dup, 1) := by decide +kernel
theorem dX11_valueAt_11 : decode cX11_valueAt 11 = .ok (.invokespecial 116, 3) := by decide +kernel
theorem dX11_valueAt_14 : decode cX11_valueAt 14 = .ok (.athrow, 1) := by decide +kernel
theorem dX11_valueAt_15 : decode cX11_valueAt 15 = .ok (.iload_n 1, 1) := by decide +kernel
theorem dX11_valueAt_16 : decode cX11_valueAt 16 = .ok (.ifCond .lt 11, 3) := by decide +kernel
theorem dX11_valueAt_19 : decode cX11_valueAt 19 = .ok (.iload_n 1, 1) := by decide +kernel
theorem dX11_valueAt_20 : decode cX11_valueAt 20 = .ok (.aload_n 0, 1) := by decide +kernel
theorem dX11_valueAt_21 : decode cX11_valueAt 21 = .ok (.invokevirtual 161, 3) := by decide +kernel
theorem dX11_valueAt_24 : decode cX11_valueAt 24 = .ok (.if_icmp .le 11, 3) := by decide +kernel
theorem dX11_valueAt_27 : decode cX11_valueAt 27 = .ok (.new 86, 3) := by decide +kernel
theorem dX11_valueAt_30 : decode cX11_valueAt 30 = .ok (.dup, 1) := by decide +kernel
theorem dX11_valueAt_31 : decode cX11_valueAt 31 = .ok (.invokespecial 88, 3) := by decide +kernel
theorem dX11_valueAt_34 : decode cX11_valueAt 34 = .ok (.athrow, 1) := by decide +kernel
theorem dX11_valueAt_35 : decode cX11_valueAt 35 = .ok (.aload_n 0, 1) := by decide +kernel
theorem dX11_valueAt_36 : decode cX11_valueAt 36 = .ok (.getfield 42, 3) := by decide +kernel
theorem dX11_valueAt_39 : decode cX11_valueAt 39 = .ok (.aload_n 0, 1) := by decide +kernel
theorem dX11_valueAt_40 : decode cX11_valueAt 40 = .ok (.getfield 58, 3) := by decide +kernel
theorem dX11_valueAt_43 : decode cX11_valueAt 43 = .ok (.iload_n 1, 1) := by decide +kernel
theorem dX11_valueAt_44 : decode cX11_valueAt 44 = .ok (.invokevirtual 164, 3) := by decide +kernel
theorem dX11_valueAt_47 : decode cX11_valueAt 47 = .ok (.aload_n 0, 1) := by decide +kernel
theorem dX11_valueAt_48 : decode cX11_valueAt 48 = .ok (.getfield 42, 3) := by decide +kernel
theorem dX11_valueAt_51 : decode cX11_valueAt 51 = .ok (.getfield 168, 3) := by decide +kernel
theorem dX11_valueAt_54 : decode cX11_valueAt 54 = .ok (.ireturn, 1) := by decide +kernel
def kX11_valueAt_47 (mc ms : Nat) (X : Nat → zV) (Q : zQt) : zT :=
  zla 0 <| zgR 11 4 <| zgi 8 1 <| zri Q
def kX11_valueAt_24 (mc ms : Nat) (X : Nat → zV) (Q : zQt) : zT :=
  zic (fun x y => x ≤ y) (zla 0 <| zgR 11 4 <| zla 0 <| zgR 11 6 <| zli 1 <| zcv mc ms 8 2 wX8_look <| kX11_valueAt_47 mc ms X Q) <| zj X 27 []
def aX11_valueAt_0 (mc ms : Nat) (X : Nat → zV) (Q : zQt) : zT :=
  zla 0 <| zgi 11 8 <| zif (fun x => x = 0) (zno) <| zli 1 <| zif (fun x => x < 0) (zj X 27 []) <| zli 1 <| zla 0 <| zcv mc ms 11 0 wX11_lookDepth <| kX11_valueAt_24 mc ms X Q
def aX11_valueAt_27 (mc ms : Nat) (X : Nat → zV) (Q : zQt) : zT :=
  zno
def lvX11_valueAt : Nat → List Nat := fun L => match L with
  | 0 => [0, 1]
  | 27 => []
  | _ => []
def wX11_valueAt : zSp := fun mc ms av M Q => ((zlay av).length ≤ 2 ∧ zpick (zlay av) [0, 1] = some av) ∧ ∀ X : Nat → zV, zin 2 [0, 1] (aX11_valueAt_0 mc ms X Q) X 0 → zin 2 [] (aX11_valueAt_27 mc ms X Q) X 27 → X 0 0 0 av [] M
set_option maxRecDepth 100000 in
set_option maxHeartbeats 4000000 in
theorem sX11_valueAt (l : Launch) (G : zG) (hE : zXt G) : zSnd l G yX11_valueAt cX11_valueAt 2 (some .int) 13 372 wX11_valueAt := by
  refine zmk [0, 1] (by decide) (fun mc ms av M Q h => h.1) ?_
  intro p e R s m args below meth c mc ms av M Q hC hRf hRl hr hnm h lv hlv
  obtain ⟨X, hXe⟩ : ∃ X : Nat → zV, X = fun L u v vs st M => ∀ lv, zpick lv (lvX11_valueAt L) = some vs → zAt p l e R s m args below meth c (MQ below (zQ G Q) args s mc ms (zA G)) G 2 L u v lv st M := ⟨_, rfl⟩
  have hJ : ∀ L, zOk p l e R s m args below meth c (MQ below (zQ G Q) args s mc ms (zA G)) G 2 L (zj X L (lvX11_valueAt L)) := fun L => S_jump (fun u v lv vs st M hp hx => by rw [hXe] at hx; exact hx lv hp)
  have hB0 : zin 2 [0, 1] (aX11_valueAt_0 mc ms X Q) X 0 := by
    intro u v vs st M hb
    rw [hXe]
    refine fun lv hp => S_block (L := 0) (live := [0, 1]) ?_ u v lv vs st M hp hb
    unfold aX11_valueAt_0
    refine S_aload_n (pc := 0) hC dX11_valueAt_0 rfl ?_
    refine S_geti (pc := 1) hC cfX11 (by decide) (Or.inr rfl) wd_354 dX11_valueAt_1 ?_
    refine S_if_ne (pc := 4) (tgt := 15) hC dX11_valueAt_4 (by decide) ?_ ?_
    · refine S_iload_n (pc := 15) hC dX11_valueAt_15 rfl ?_
      refine S_if_lt (pc := 16) (tgt := 27) hC dX11_valueAt_16 (by decide) ?_ ?_
      · exact hJ 27
      · refine S_iload_n (pc := 19) hC dX11_valueAt_19 rfl ?_
        refine S_aload_n (pc := 20) hC dX11_valueAt_20 rfl ?_
        refine S_callV (pc := 21) hC (sX11_lookDepth l G) rfl wd_1029 wd_1031 ws_42 wd_1 wd_1032 (by decide +kernel) ⟨by rw [hRf]; decide, by rw [hRl]; decide⟩ dX11_valueAt_21 ?_
        unfold kX11_valueAt_24
        refine S_icmp_le (pc := 24) (tgt := 35) hC dX11_valueAt_24 (by decide) ?_ ?_
        · refine S_aload_n (pc := 35) hC dX11_valueAt_35 rfl ?_
          refine S_getR (pc := 36) hC cfX11 (by decide) (Or.inl ⟨_, rfl⟩) wd_350 dX11_valueAt_36 ?_
          refine S_aload_n (pc := 39) hC dX11_valueAt_39 rfl ?_
          refine S_getR (pc := 40) hC cfX11 (by decide) (Or.inl ⟨_, rfl⟩) wd_352 dX11_valueAt_40 ?_
          refine S_iload_n (pc := 43) hC dX11_valueAt_43 rfl ?_
          refine S_callV (pc := 44) hC (sX8_look l G hE) rfl wd_1033 wd_1034 wd_1035 wd_7 wd_1036 (by decide +kernel) ⟨by rw [hRf]; decide, by rw [hRl]; decide⟩ dX11_valueAt_44 ?_
          unfold kX11_valueAt_47
          refine S_aload_n (pc := 47) hC dX11_valueAt_47 rfl ?_
          refine S_getR (pc := 48) hC cfX11 (by decide) (Or.inl ⟨_, rfl⟩) wd_350 dX11_valueAt_48 ?_
          refine S_geti (pc := 51) hC cfX8 (by decide) (Or.inl rfl) wd_175 dX11_valueAt_51 ?_
          exact S_ireturn (pc := 54) hC hr dX11_valueAt_54
        · exact hJ 27
    · exact S_no
  have hB27 : zin 2 [] (aX11_valueAt_27 mc ms X Q) X 27 := by
    intro u v vs st M hb
    rw [hXe]
    refine fun lv hp => S_block (L := 27) (live := []) ?_ u v lv vs st M hp hb
    unfold aX11_valueAt_27
    exact S_no
  have := h.2 X hB0 hB27
  rw [hXe] at this
  exact this lv hlv
theorem vX11_valueAt_0 {mc ms : Nat} {X : Nat → zV} {Q : zQt} {M : zM} {g : Nat} {x1 : Int32} (hW : zWd M g)  (h : ((M.1 16 8) = 0 → False) ∧ (¬ (M.1 16 8) = 0 → (x1 < 0 → X 27 0 0 [] [] M) ∧ (¬ x1 < 0 → wX11_lookDepth 0 0 [.ref 16] M (fun r M1 => kX11_valueAt_24 mc ms X Q 0 0 [some (.ref 16), some (.int x1)] (r.toList ++ [.int x1]) M1)))) : aX11_valueAt_0 mc ms X Q 0 0 [some (.ref 16), some (.int x1)] [] M := ⟨(fxs_16 hW.1), ⟨fun c4 => (h.1 c4), fun c4 => ⟨fun c16 => ((h.2 c4).1 c16), fun c16 => ⟨Nat.le_of_ble_eq_true rfl, rfl, (fxs_16 hW.1), 0, 0, Nat.zero_le _, Nat.zero_le _, ((h.2 c4).2 c16)⟩⟩⟩⟩
theorem vX11_valueAt_27 {mc ms : Nat} {X : Nat → zV} {Q : zQt} {M : zM} {g : Nat}  (hW : zWd M g)  (h : False) : aX11_valueAt_27 mc ms X Q 0 0 [none, none] [] M := h
theorem vkX11_valueAt_24 {mc ms : Nat} {X : Nat → zV} {Q : zQt} {M : zM} {g : Nat} {x1 : Int32} {s0 : Int32} {s1 : Int32} (hW : zWd M g)  (h : (s1 ≤ s0 → ∃ r40, ((M : zM).2.2.1 16 6) = some r40 ∧ zsh M r40 = some (0, 4) ∧ wX8_look 0 0 [.ref 31, .ref r40, .int x1] M (fun r M1 => kX11_valueAt_47 mc ms X Q 0 0 [some (.ref 16), some (.int x1)] (r.toList ++ []) M1)) ∧ (¬ s1 ≤ s0 → X 27 0 0 [] [] M)) : kX11_valueAt_24 mc ms X Q 0 0 [some (.ref 16), some (.int x1)] [.int s0, .int s1] M := ⟨fun c24 => ⟨(fxs_16 hW.1), 31, (fxr_16_4 hW.1), (let ⟨r40, q40, hr40, h40⟩ := (h.1 c24); ⟨(fxs_16 hW.1), r40, q40, ⟨Nat.le_of_ble_eq_true rfl, rfl, (fxs_31 hW.1), 0, 0, Nat.zero_le _, Nat.zero_le _, h40⟩⟩)⟩, fun c24 => (h.2 c24)⟩
theorem vkX11_valueAt_47 {mc ms : Nat} {X : Nat → zV} {Q : zQt} {M : zM} {g : Nat} {x1 : Int32} (hW : zWd M g)  (h : Q (some (.int ((M.1 31 1)))) M) : kX11_valueAt_47 mc ms X Q 0 0 [some (.ref 16), some (.int x1)] [] M := ⟨(fxs_16 hW.1), 31, (fxr_16_4 hW.1), ⟨(fxs_31 hW.1), h⟩⟩
theorem dX11_bestAt_0 : decode cX11_bestAt 0 = .ok (.aload_n 0, 1) := by decide +kernel
theorem dX11_bestAt_1 : decode cX11_bestAt 1 = .ok (.getfield 65, 3) := by decide +kernel
theorem dX11_bestAt_4 : decode cX11_bestAt 4 = .ok (.ifCond .ne 11, 3) := by decide +kernel
theorem dX11_bestAt_7 : decode cX11_bestAt 7 = .ok (.new 114, 3) := by decide +kernel
theorem dX11_bestAt_10 : decode cX11_bestAt 10 = .ok (.dup, 1) := by decide +kernel
theorem dX11_bestAt_11 : decode cX11_bestAt 11 = .ok (.invokespecial 116, 3) := by decide +kernel
theorem dX11_bestAt_14 : decode cX11_bestAt 14 = .ok (.athrow, 1) := by decide +kernel
theorem dX11_bestAt_15 : decode cX11_bestAt 15 = .ok (.iload_n 1, 1) := by decide +kernel
theorem dX11_bestAt_16 : decode cX11_bestAt 16 = .ok (.ifCond .lt 11, 3) := by decide +kernel
theorem dX11_bestAt_19 : decode cX11_bestAt 19 = .ok (.iload_n 1, 1) := by decide +kernel
theorem dX11_bestAt_20 : decode cX11_bestAt 20 = .ok (.aload_n 0, 1) := by decide +kernel
theorem dX11_bestAt_21 : decode cX11_bestAt 21 = .ok (.invokevirtual 161, 3) := by decide +kernel
theorem dX11_bestAt_24 : decode cX11_bestAt 24 = .ok (.if_icmp .le 11, 3) := by decide +kernel
theorem dX11_bestAt_27 : decode cX11_bestAt 27 = .ok (.new 86, 3) := by decide +kernel
theorem dX11_bestAt_30 : decode cX11_bestAt 30 = .ok (.dup, 1) := by decide +kernel
theorem dX11_bestAt_31 : decode cX11_bestAt 31 = .ok (.invokespecial 88, 3) := by decide +kernel
theorem dX11_bestAt_34 : decode cX11_bestAt 34 = .ok (.athrow, 1) := by decide +kernel
theorem dX11_bestAt_35 : decode cX11_bestAt 35 = .ok (.aload_n 0, 1) := by decide +kernel
theorem dX11_bestAt_36 : decode cX11_bestAt 36 = .ok (.getfield 42, 3) := by decide +kernel
theorem dX11_bestAt_39 : decode cX11_bestAt 39 = .ok (.aload_n 0, 1) := by decide +kernel
theorem dX11_bestAt_40 : decode cX11_bestAt 40 = .ok (.getfield 58, 3) := by decide +kernel
theorem dX11_bestAt_43 : decode cX11_bestAt 43 = .ok (.iload_n 1, 1) := by decide +kernel
theorem dX11_bestAt_44 : decode cX11_bestAt 44 = .ok (.invokevirtual 164, 3) := by decide +kernel
theorem dX11_bestAt_47 : decode cX11_bestAt 47 = .ok (.aload_n 0, 1) := by decide +kernel
theorem dX11_bestAt_48 : decode cX11_bestAt 48 = .ok (.getfield 42, 3) := by decide +kernel
theorem dX11_bestAt_51 : decode cX11_bestAt 51 = .ok (.getfield 174, 3) := by decide +kernel
theorem dX11_bestAt_54 : decode cX11_bestAt 54 = .ok (.ireturn, 1) := by decide +kernel
def kX11_bestAt_47 (mc ms : Nat) (X : Nat → zV) (Q : zQt) : zT :=
  zla 0 <| zgR 11 4 <| zgi 8 2 <| zri Q
def kX11_bestAt_24 (mc ms : Nat) (X : Nat → zV) (Q : zQt) : zT :=
  zic (fun x y => x ≤ y) (zla 0 <| zgR 11 4 <| zla 0 <| zgR 11 6 <| zli 1 <| zcv mc ms 8 2 wX8_look <| kX11_bestAt_47 mc ms X Q) <| zj X 27 []
def aX11_bestAt_0 (mc ms : Nat) (X : Nat → zV) (Q : zQt) : zT :=
  zla 0 <| zgi 11 8 <| zif (fun x => x = 0) (zno) <| zli 1 <| zif (fun x => x < 0) (zj X 27 []) <| zli 1 <| zla 0 <| zcv mc ms 11 0 wX11_lookDepth <| kX11_bestAt_24 mc ms X Q
def aX11_bestAt_27 (mc ms : Nat) (X : Nat → zV) (Q : zQt) : zT :=
  zno
def lvX11_bestAt : Nat → List Nat := fun L => match L with
  | 0 => [0, 1]
  | 27 => []
  | _ => []
def wX11_bestAt : zSp := fun mc ms av M Q => ((zlay av).length ≤ 2 ∧ zpick (zlay av) [0, 1] = some av) ∧ ∀ X : Nat → zV, zin 2 [0, 1] (aX11_bestAt_0 mc ms X Q) X 0 → zin 2 [] (aX11_bestAt_27 mc ms X Q) X 27 → X 0 0 0 av [] M
set_option maxRecDepth 100000 in
set_option maxHeartbeats 4000000 in
theorem sX11_bestAt (l : Launch) (G : zG) (hE : zXt G) : zSnd l G yX11_bestAt cX11_bestAt 2 (some .int) 13 372 wX11_bestAt := by
  refine zmk [0, 1] (by decide) (fun mc ms av M Q h => h.1) ?_
  intro p e R s m args below meth c mc ms av M Q hC hRf hRl hr hnm h lv hlv
  obtain ⟨X, hXe⟩ : ∃ X : Nat → zV, X = fun L u v vs st M => ∀ lv, zpick lv (lvX11_bestAt L) = some vs → zAt p l e R s m args below meth c (MQ below (zQ G Q) args s mc ms (zA G)) G 2 L u v lv st M := ⟨_, rfl⟩
  have hJ : ∀ L, zOk p l e R s m args below meth c (MQ below (zQ G Q) args s mc ms (zA G)) G 2 L (zj X L (lvX11_bestAt L)) := fun L => S_jump (fun u v lv vs st M hp hx => by rw [hXe] at hx; exact hx lv hp)
  have hB0 : zin 2 [0, 1] (aX11_bestAt_0 mc ms X Q) X 0 := by
    intro u v vs st M hb
    rw [hXe]
    refine fun lv hp => S_block (L := 0) (live := [0, 1]) ?_ u v lv vs st M hp hb
    unfold aX11_bestAt_0
    refine S_aload_n (pc := 0) hC dX11_bestAt_0 rfl ?_
    refine S_geti (pc := 1) hC cfX11 (by decide) (Or.inr rfl) wd_354 dX11_bestAt_1 ?_
    refine S_if_ne (pc := 4) (tgt := 15) hC dX11_bestAt_4 (by decide) ?_ ?_
    · refine S_iload_n (pc := 15) hC dX11_bestAt_15 rfl ?_
      refine S_if_lt (pc := 16) (tgt := 27) hC dX11_bestAt_16 (by decide) ?_ ?_
      · exact hJ 27
      · refine S_iload_n (pc := 19) hC dX11_bestAt_19 rfl ?_
        refine S_aload_n (pc := 20) hC dX11_bestAt_20 rfl ?_
        refine S_callV (pc := 21) hC (sX11_lookDepth l G) rfl wd_1029 wd_1031 ws_42 wd_1 wd_1032 (by decide +kernel) ⟨by rw [hRf]; decide, by rw [hRl]; decide⟩ dX11_bestAt_21 ?_
        unfold kX11_bestAt_24
        refine S_icmp_le (pc := 24) (tgt := 35) hC dX11_bestAt_24 (by decide) ?_ ?_
        · refine S_aload_n (pc := 35) hC dX11_bestAt_35 rfl ?_
          refine S_getR (pc := 36) hC cfX11 (by decide) (Or.inl ⟨_, rfl⟩) wd_350 dX11_bestAt_36 ?_
          refine S_aload_n (pc := 39) hC dX11_bestAt_39 rfl ?_
          refine S_getR (pc := 40) hC cfX11 (by decide) (Or.inl ⟨_, rfl⟩) wd_352 dX11_bestAt_40 ?_
          refine S_iload_n (pc := 43) hC dX11_bestAt_43 rfl ?_
          refine S_callV (pc := 44) hC (sX8_look l G hE) rfl wd_1033 wd_1034 wd_1035 wd_7 wd_1036 (by decide +kernel) ⟨by rw [hRf]; decide, by rw [hRl]; decide⟩ dX11_bestAt_44 ?_
          unfold kX11_bestAt_47
          refine S_aload_n (pc := 47) hC dX11_bestAt_47 rfl ?_
          refine S_getR (pc := 48) hC cfX11 (by decide) (Or.inl ⟨_, rfl⟩) wd_350 dX11_bestAt_48 ?_
          refine S_geti (pc := 51) hC cfX8 (by decide) (Or.inl rfl) wd_177 dX11_bestAt_51 ?_
          exact S_ireturn (pc := 54) hC hr dX11_bestAt_54
        · exact hJ 27
    · exact S_no
  have hB27 : zin 2 [] (aX11_bestAt_27 mc ms X Q) X 27 := by
    intro u v vs st M hb
    rw [hXe]
    refine fun lv hp => S_block (L := 27) (live := []) ?_ u v lv vs st M hp hb
    unfold aX11_bestAt_27
    exact S_no
  have := h.2 X hB0 hB27
  rw [hXe] at this
  exact this lv hlv
theorem vX11_bestAt_0 {mc ms : Nat} {X : Nat → zV} {Q : zQt} {M : zM} {g : Nat} {x1 : Int32} (hW : zWd M g)  (h : ((M.1 16 8) = 0 → False) ∧ (¬ (M.1 16 8) = 0 → (x1 < 0 → X 27 0 0 [] [] M) ∧ (¬ x1 < 0 → wX11_lookDepth 0 0 [.ref 16] M (fun r M1 => kX11_bestAt_24 mc ms X Q 0 0 [some (.ref 16), some (.int x1)] (r.toList ++ [.int x1]) M1)))) : aX11_bestAt_0 mc ms X Q 0 0 [some (.ref 16), some (.int x1)] [] M := ⟨(fxs_16 hW.1), ⟨fun c4 => (h.1 c4), fun c4 => ⟨fun c16 => ((h.2 c4).1 c16), fun c16 => ⟨Nat.le_of_ble_eq_true rfl, rfl, (fxs_16 hW.1), 0, 0, Nat.zero_le _, Nat.zero_le _, ((h.2 c4).2 c16)⟩⟩⟩⟩
theorem vX11_bestAt_27 {mc ms : Nat} {X : Nat → zV} {Q : zQt} {M : zM} {g : Nat}  (hW : zWd M g)  (h : False) : aX11_bestAt_27 mc ms X Q 0 0 [none, none] [] M := h
theorem vkX11_bestAt_24 {mc ms : Nat} {X : Nat → zV} {Q : zQt} {M : zM} {g : Nat} {x1 : Int32} {s0 : Int32} {s1 : Int32} (hW : zWd M g)  (h : (s1 ≤ s0 → ∃ r40, ((M : zM).2.2.1 16 6) = some r40 ∧ zsh M r40 = some (0, 4) ∧ wX8_look 0 0 [.ref 31, .ref r40, .int x1] M (fun r M1 => kX11_bestAt_47 mc ms X Q 0 0 [some (.ref 16), some (.int x1)] (r.toList ++ []) M1)) ∧ (¬ s1 ≤ s0 → X 27 0 0 [] [] M)) : kX11_bestAt_24 mc ms X Q 0 0 [some (.ref 16), some (.int x1)] [.int s0, .int s1] M := ⟨fun c24 => ⟨(fxs_16 hW.1), 31, (fxr_16_4 hW.1), (let ⟨r40, q40, hr40, h40⟩ := (h.1 c24); ⟨(fxs_16 hW.1), r40, q40, ⟨Nat.le_of_ble_eq_true rfl, rfl, (fxs_31 hW.1), 0, 0, Nat.zero_le _, Nat.zero_le _, h40⟩⟩)⟩, fun c24 => (h.2 c24)⟩
theorem vkX11_bestAt_47 {mc ms : Nat} {X : Nat → zV} {Q : zQt} {M : zM} {g : Nat} {x1 : Int32} (hW : zWd M g)  (h : Q (some (.int ((M.1 31 2)))) M) : kX11_bestAt_47 mc ms X Q 0 0 [some (.ref 16), some (.int x1)] [] M := ⟨(fxs_16 hW.1), 31, (fxr_16_4 hW.1), ⟨(fxs_31 hW.1), h⟩⟩
theorem dX6_readRecord_0 : decode cX6_readRecord 0 = .ok (.aload_n 0, 1) := by decide +kernel
theorem dX6_readRecord_1 : decode cX6_readRecord 1 = .ok (.iconst 0, 1) := by decide +kernel
theorem dX6_readRecord_2 : decode cX6_readRecord 2 = .ok (.putfield 26, 3) := by decide +kernel
theorem dX6_readRecord_5 : decode cX6_readRecord 5 = .ok (.aload_n 0, 1) := by decide +kernel
theorem dX6_readRecord_6 : decode cX6_readRecord 6 = .ok (.iload_n 2, 1) := by decide +kernel
theorem dX6_readRecord_7 : decode cX6_readRecord 7 = .ok (.putfield 30, 3) := by decide +kernel
theorem dX6_readRecord_10 : decode cX6_readRecord 10 = .ok (.aload_n 1, 1) := by decide +kernel
theorem dX6_readRecord_11 : decode cX6_readRecord 11 = .ok (.invokevirtual 33, 3) := by decide +kernel
theorem dX6_readRecord_14 : decode cX6_readRecord 14 = .ok (.aload_n 0, 1) := by decide +kernel
theorem dX6_readRecord_15 : decode cX6_readRecord 15 = .ok (.aload_n 1, 1) := by decide +kernel
theorem dX6_readRecord_16 : decode cX6_readRecord 16 = .ok (.invokevirtual 38, 3) := by decide +kernel
theorem dX6_readRecord_19 : decode cX6_readRecord 19 = .ok (.ifCond .eq 10, 3) := by decide +kernel
theorem dX6_readRecord_22 : decode cX6_readRecord 22 = .ok (.aload_n 0, 1) := by decide +kernel
theorem dX6_readRecord_23 : decode cX6_readRecord 23 = .ok (.invokevirtual 42, 3) := by decide +kernel
theorem dX6_readRecord_26 : decode cX6_readRecord 26 = .ok (.ifCond .ne 5, 3) := by decide +kernel
theorem dX6_readRecord_29 : decode cX6_readRecord 29 = .ok (.iconst 1, 1) := by decide +kernel
theorem dX6_readRecord_30 : decode cX6_readRecord 30 = .ok (.ireturn, 1) := by decide +kernel
theorem dX6_readRecord_31 : decode cX6_readRecord 31 = .ok (.aload_n 0, 1) := by decide +kernel
theorem dX6_readRecord_32 : decode cX6_readRecord 32 = .ok (.aload_n 1, 1) := by decide +kernel
theorem dX6_readRecord_33 : decode cX6_readRecord 33 = .ok (.invokevirtual 46, 3) := by decide +kernel
theorem dX6_readRecord_36 : decode cX6_readRecord 36 = .ok (.ifCond .eq 10, 3) := by decide +kernel
theorem dX6_readRecord_39 : decode cX6_readRecord 39 = .ok (.aload_n 0, 1) := by decide +kernel
theorem dX6_readRecord_40 : decode cX6_readRecord 40 = .ok (.invokevirtual 42, 3) := by decide +kernel
theorem dX6_readRecord_43 : decode cX6_readRecord 43 = .ok (.ifCond .ne 5, 3) := by decide +kernel
theorem dX6_readRecord_46 : decode cX6_readRecord 46 = .ok (.iconst 2, 1) := by decide +kernel
theorem dX6_readRecord_47 : decode cX6_readRecord 47 = .ok (.ireturn, 1) := by decide +kernel
theorem dX6_readRecord_48 : decode cX6_readRecord 48 = .ok (.aload_n 0, 1) := by decide +kernel
theorem dX6_readRecord_49 : decode cX6_readRecord 49 = .ok (.aload_n 1, 1) := by decide +kernel
theorem dX6_readRecord_50 : decode cX6_readRecord 50 = .ok (.invokevirtual 49, 3) := by decide +kernel
theorem dX6_readRecord_53 : decode cX6_readRecord 53 = .ok (.ifCond .eq 10, 3) := by decide +kernel
theorem dX6_readRecord_56 : decode cX6_readRecord 56 = .ok (.aload_n 0, 1) := by decide +kernel
theorem dX6_readRecord_57 : decode cX6_readRecord 57 = .ok (.invokevirtual 42, 3) := by decide +kernel
theorem dX6_readRecord_60 : decode cX6_readRecord 60 = .ok (.ifCond .ne 5, 3) := by decide +kernel
theorem dX6_readRecord_63 : decode cX6_readRecord 63 = .ok (.iconst 3, 1) := by decide +kernel
theorem dX6_readRecord_64 : decode cX6_readRecord 64 = .ok (.ireturn, 1) := by decide +kernel
theorem dX6_readRecord_65 : decode cX6_readRecord 65 = .ok (.aload_n 0, 1) := by decide +kernel
theorem dX6_readRecord_66 : decode cX6_readRecord 66 = .ok (.aload_n 1, 1) := by decide +kernel
theorem dX6_readRecord_67 : decode cX6_readRecord 67 = .ok (.invokevirtual 52, 3) := by decide +kernel
theorem dX6_readRecord_70 : decode cX6_readRecord 70 = .ok (.ifCond .eq 10, 3) := by decide +kernel
theorem dX6_readRecord_73 : decode cX6_readRecord 73 = .ok (.aload_n 0, 1) := by decide +kernel
theorem dX6_readRecord_74 : decode cX6_readRecord 74 = .ok (.invokevirtual 42, 3) := by decide +kernel
theorem dX6_readRecord_77 : decode cX6_readRecord 77 = .ok (.ifCond .ne 5, 3) := by decide +kernel
theorem dX6_readRecord_80 : decode cX6_readRecord 80 = .ok (.iconst 4, 1) := by decide +kernel
theorem dX6_readRecord_81 : decode cX6_readRecord 81 = .ok (.ireturn, 1) := by decide +kernel
theorem dX6_readRecord_82 : decode cX6_readRecord 82 = .ok (.aload_n 1, 1) := by decide +kernel
theorem dX6_readRecord_83 : decode cX6_readRecord 83 = .ok (.aload_n 0, 1) := by decide +kernel
theorem dX6_readRecord_84 : decode cX6_readRecord 84 = .ok (.sipush 999, 3) := by decide +kernel
theorem dX6_readRecord_87 : decode cX6_readRecord 87 = .ok (.invokevirtual 55, 3) := by decide +kernel
theorem dX6_readRecord_90 : decode cX6_readRecord 90 = .ok (.putfield 59, 3) := by decide +kernel
theorem dX6_readRecord_93 : decode cX6_readRecord 93 = .ok (.aload_n 1, 1) := by decide +kernel
theorem dX6_readRecord_94 : decode cX6_readRecord 94 = .ok (.getfield 59, 3) := by decide +kernel
theorem dX6_readRecord_97 : decode cX6_readRecord 97 = .ok (.iconst (-1), 1) := by decide +kernel
theorem dX6_readRecord_98 : decode cX6_readRecord 98 = .ok (.if_icmp .eq 10, 3) := by decide +kernel
theorem dX6_readRecord_101 : decode cX6_readRecord 101 = .ok (.aload_n 0, 1) := by decide +kernel
theorem dX6_readRecord_102 : decode cX6_readRecord 102 = .ok (.invokevirtual 42, 3) := by decide +kernel
theorem dX6_readRecord_105 : decode cX6_readRecord 105 = .ok (.ifCond .ne 5, 3) := by decide +kernel
theorem dX6_readRecord_108 : decode cX6_readRecord 108 = .ok (.iconst 5, 1) := by decide +kernel
theorem dX6_readRecord_109 : decode cX6_readRecord 109 = .ok (.ireturn, 1) := by decide +kernel
theorem dX6_readRecord_110 : decode cX6_readRecord 110 = .ok (.aload_n 1, 1) := by decide +kernel
theorem dX6_readRecord_111 : decode cX6_readRecord 111 = .ok (.aload_n 0, 1) := by decide +kernel
theorem dX6_readRecord_112 : decode cX6_readRecord 112 = .ok (.sipush 9999, 3) := by decide +kernel
theorem dX6_readRecord_115 : decode cX6_readRecord 115 = .ok (.invokevirtual 55, 3) := by decide +kernel
theorem dX6_readRecord_118 : decode cX6_readRecord 118 = .ok (.putfield 62, 3) := by decide +kernel
theorem dX6_readRecord_121 : decode cX6_readRecord 121 = .ok (.aload_n 1, 1) := by decide +kernel
theorem dX6_readRecord_122 : decode cX6_readRecord 122 = .ok (.getfield 62, 3) := by decide +kernel
theorem dX6_readRecord_125 : decode cX6_readRecord 125 = .ok (.iconst 1, 1) := by decide +kernel
theorem dX6_readRecord_126 : decode cX6_readRecord 126 = .ok (.if_icmp .lt 28, 3) := by decide +kernel
theorem dX6_readRecord_129 : decode cX6_readRecord 129 = .ok (.aload_n 0, 1) := by decide +kernel
theorem dX6_readRecord_130 : decode cX6_readRecord 130 = .ok (.getfield 26, 3) := by decide +kernel
theorem dX6_readRecord_133 : decode cX6_readRecord 133 = .ok (.aload_n 0, 1) := by decide +kernel
theorem dX6_readRecord_134 : decode cX6_readRecord 134 = .ok (.getfield 30, 3) := by decide +kernel
theorem dX6_readRecord_137 : decode cX6_readRecord 137 = .ok (.if_icmp .ge 20, 3) := by decide +kernel
theorem dX6_readRecord_140 : decode cX6_readRecord 140 = .ok (.aload_n 0, 1) := by decide +kernel
theorem dX6_readRecord_141 : decode cX6_readRecord 141 = .ok (.getfield 9, 3) := by decide +kernel
theorem dX6_readRecord_144 : decode cX6_readRecord 144 = .ok (.aload_n 0, 1) := by decide +kernel
theorem dX6_readRecord_145 : decode cX6_readRecord 145 = .ok (.getfield 26, 3) := by decide +kernel
theorem dX6_readRecord_148 : decode cX6_readRecord 148 = .ok (.caload, 1) := by decide +kernel
theorem dX6_readRecord_149 : decode cX6_readRecord 149 = .ok (.bipush 32, 2) := by decide +kernel
theorem dX6_readRecord_151 : decode cX6_readRecord 151 = .ok (.if_icmp .eq 6, 3) := by decide +kernel
theorem dX6_readRecord_154 : decode cX6_readRecord 154 = .ok (.bipush 6, 2) := by decide +kernel
theorem dX6_readRecord_156 : decode cX6_readRecord 156 = .ok (.ireturn, 1) := by decide +kernel
theorem dX6_readRecord_157 : decode cX6_readRecord 157 = .ok (.aload_n 0, 1) := by decide +kernel
theorem dX6_readRecord_158 : decode cX6_readRecord 158 = .ok (.aload_n 1, 1) := by decide +kernel
theorem dX6_readRecord_159 : decode cX6_readRecord 159 = .ok (.invokevirtual 65, 3) := by decide +kernel
theorem dX6_readRecord_162 : decode cX6_readRecord 162 = .ok (.ireturn, 1) := by decide +kernel
def kX6_readRecord_118 (mc ms : Nat) (X : Nat → zV) (Q : zQt) : zT :=
  zpi 0 8 <| zla 1 <| zgi 0 8 <| zc (.int 1) <| zic (fun x y => x < y) (zj X 154 []) <| zla 0 <| zgi 6 3 <| zla 0 <| zgi 6 4 <| zic (fun x y => y ≤ x) (zj X 157 [0, 1]) <| zla 0 <| zgR 6 0 <| zla 0 <| zgi 6 3 <| zal 4 <| zc (.int 32) <| zic (fun x y => x = y) (zj X 157 [0, 1]) <| zj X 154 []
def kX6_readRecord_105 (mc ms : Nat) (X : Nat → zV) (Q : zQt) : zT :=
  zif (fun x => x = 0) (zj X 108 []) <| zla 1 <| zla 0 <| zc (.int 9999) <| zcv mc ms 6 1 wX6_readNumber <| kX6_readRecord_118 mc ms X Q
def kX6_readRecord_90 (mc ms : Nat) (X : Nat → zV) (Q : zQt) : zT :=
  zpi 0 7 <| zla 1 <| zgi 0 7 <| zc (.int (-1)) <| zic (fun x y => x = y) (zj X 108 []) <| zla 0 <| zcv mc ms 6 0 wX6_skipBlank <| kX6_readRecord_105 mc ms X Q
def kX6_readRecord_77 (mc ms : Nat) (X : Nat → zV) (Q : zQt) : zT :=
  zif (fun x => x = 0) (zj X 80 []) <| zla 1 <| zla 0 <| zc (.int 999) <| zcv mc ms 6 1 wX6_readNumber <| kX6_readRecord_90 mc ms X Q
def kX6_readRecord_70 (mc ms : Nat) (X : Nat → zV) (Q : zQt) : zT :=
  zif (fun x => x = 0) (zj X 80 []) <| zla 0 <| zcv mc ms 6 0 wX6_skipBlank <| kX6_readRecord_77 mc ms X Q
def kX6_readRecord_60 (mc ms : Nat) (X : Nat → zV) (Q : zQt) : zT :=
  zif (fun x => x = 0) (zj X 63 []) <| zla 0 <| zla 1 <| zcv mc ms 6 1 wX6_readPassant <| kX6_readRecord_70 mc ms X Q
def kX6_readRecord_53 (mc ms : Nat) (X : Nat → zV) (Q : zQt) : zT :=
  zif (fun x => x = 0) (zj X 63 []) <| zla 0 <| zcv mc ms 6 0 wX6_skipBlank <| kX6_readRecord_60 mc ms X Q
def kX6_readRecord_43 (mc ms : Nat) (X : Nat → zV) (Q : zQt) : zT :=
  zif (fun x => x = 0) (zj X 46 []) <| zla 0 <| zla 1 <| zcv mc ms 6 1 wX6_readRights <| kX6_readRecord_53 mc ms X Q
def kX6_readRecord_36 (mc ms : Nat) (X : Nat → zV) (Q : zQt) : zT :=
  zif (fun x => x = 0) (zj X 46 []) <| zla 0 <| zcv mc ms 6 0 wX6_skipBlank <| kX6_readRecord_43 mc ms X Q
def kX6_readRecord_26 (mc ms : Nat) (X : Nat → zV) (Q : zQt) : zT :=
  zif (fun x => x = 0) (zj X 29 []) <| zla 0 <| zla 1 <| zcv mc ms 6 1 wX6_readSide <| kX6_readRecord_36 mc ms X Q
def kX6_readRecord_19 (mc ms : Nat) (X : Nat → zV) (Q : zQt) : zT :=
  zif (fun x => x = 0) (zj X 29 []) <| zla 0 <| zcv mc ms 6 0 wX6_skipBlank <| kX6_readRecord_26 mc ms X Q
def kX6_readRecord_14 (mc ms : Nat) (X : Nat → zV) (Q : zQt) : zT :=
  zla 0 <| zla 1 <| zcv mc ms 6 1 wX6_readMen <| kX6_readRecord_19 mc ms X Q
def kX6_readRecord_162 (mc ms : Nat) (X : Nat → zV) (Q : zQt) : zT :=
  zri Q
def aX6_readRecord_0 (mc ms : Nat) (X : Nat → zV) (Q : zQt) : zT :=
  zla 0 <| zc (.int 0) <| zpi 6 3 <| zla 0 <| zli 2 <| zpi 6 4 <| zla 1 <| zcv mc ms 0 0 wX0_clear <| kX6_readRecord_14 mc ms X Q
def aX6_readRecord_29 (mc ms : Nat) (X : Nat → zV) (Q : zQt) : zT :=
  zc (.int 1) <| zri Q
def aX6_readRecord_46 (mc ms : Nat) (X : Nat → zV) (Q : zQt) : zT :=
  zc (.int 2) <| zri Q
def aX6_readRecord_63 (mc ms : Nat) (X : Nat → zV) (Q : zQt) : zT :=
  zc (.int 3) <| zri Q
def aX6_readRecord_80 (mc ms : Nat) (X : Nat → zV) (Q : zQt) : zT :=
  zc (.int 4) <| zri Q
def aX6_readRecord_108 (mc ms : Nat) (X : Nat → zV) (Q : zQt) : zT :=
  zc (.int 5) <| zri Q
def aX6_readRecord_154 (mc ms : Nat) (X : Nat → zV) (Q : zQt) : zT :=
  zc (.int 6) <| zri Q
def aX6_readRecord_157 (mc ms : Nat) (X : Nat → zV) (Q : zQt) : zT :=
  zla 0 <| zla 1 <| zcv mc ms 6 1 wX6_wrong <| kX6_readRecord_162 mc ms X Q
def lvX6_readRecord : Nat → List Nat := fun L => match L with
  | 0 => [0, 1, 2]
  | 29 => []
  | 46 => []
  | 63 => []
  | 80 => []
  | 108 => []
  | 154 => []
  | 157 => [0, 1]
  | _ => []
def wX6_readRecord : zSp := fun mc ms av M Q => ((zlay av).length ≤ 3 ∧ zpick (zlay av) [0, 1, 2] = some av) ∧ ∀ X : Nat → zV, zin 3 [0, 1, 2] (aX6_readRecord_0 mc ms X Q) X 0 → zin 3 [] (aX6_readRecord_29 mc ms X Q) X 29 → zin 3 [] (aX6_readRecord_46 mc ms X Q) X 46 → zin 3 [] (aX6_readRecord_63 mc ms X Q) X 63 → zin 3 [] (aX6_readRecord_80 mc ms X Q) X 80 → zin 3 [] (aX6_readRecord_108 mc ms X Q) X 108 → zin 3 [] (aX6_readRecord_154 mc ms X Q) X 154 → zin 3 [0, 1] (aX6_readRecord_157 mc ms X Q) X 157 → X 0 0 0 av [] M
set_option maxRecDepth 100000 in
set_option maxHeartbeats 4000000 in
theorem sX6_readRecord (l : Launch) (G : zG) (hE : zXt G) : zSnd l G yX6_readRecord cX6_readRecord 3 (some .int) 6 140 wX6_readRecord := by
  refine zmk [0, 1, 2] (by decide) (fun mc ms av M Q h => h.1) ?_
  intro p e R s m args below meth c mc ms av M Q hC hRf hRl hr hnm h lv hlv
  obtain ⟨X, hXe⟩ : ∃ X : Nat → zV, X = fun L u v vs st M => ∀ lv, zpick lv (lvX6_readRecord L) = some vs → zAt p l e R s m args below meth c (MQ below (zQ G Q) args s mc ms (zA G)) G 3 L u v lv st M := ⟨_, rfl⟩
  have hJ : ∀ L, zOk p l e R s m args below meth c (MQ below (zQ G Q) args s mc ms (zA G)) G 3 L (zj X L (lvX6_readRecord L)) := fun L => S_jump (fun u v lv vs st M hp hx => by rw [hXe] at hx; exact hx lv hp)
  have hB0 : zin 3 [0, 1, 2] (aX6_readRecord_0 mc ms X Q) X 0 := by
    intro u v vs st M hb
    rw [hXe]
    refine fun lv hp => S_block (L := 0) (live := [0, 1, 2]) ?_ u v lv vs st M hp hb
    unfold aX6_readRecord_0
    refine S_aload_n (pc := 0) hC dX6_readRecord_0 rfl ?_
    refine S_iconst (pc := 1) hC dX6_readRecord_1 (by decide) ?_
    refine S_puti (pc := 2) hC cfX6 (by decide) rfl (Or.inl rfl) wd_141 dX6_readRecord_2 ?_
    refine S_aload_n (pc := 5) hC dX6_readRecord_5 rfl ?_
    refine S_iload_n (pc := 6) hC dX6_readRecord_6 rfl ?_
    refine S_puti (pc := 7) hC cfX6 (by decide) rfl (Or.inl rfl) wd_142 dX6_readRecord_7 ?_
    refine S_aload_n (pc := 10) hC dX6_readRecord_10 rfl ?_
    refine S_callV (pc := 11) hC (sX0_clear l G) rfl wd_671 wd_672 wd_673 wd_10 wd_674 (by decide +kernel) ⟨by rw [hRf]; decide, by rw [hRl]; decide⟩ dX6_readRecord_11 ?_
    unfold kX6_readRecord_14
    refine S_aload_n (pc := 14) hC dX6_readRecord_14 rfl ?_
    refine S_aload_n (pc := 15) hC dX6_readRecord_15 rfl ?_
    refine S_callV (pc := 16) hC (sX6_readMen l G hE) rfl wd_681 wd_683 ws_14 wd_4 wd_684 (by decide +kernel) ⟨by rw [hRf]; decide, by rw [hRl]; decide⟩ dX6_readRecord_16 ?_
    unfold kX6_readRecord_19
    refine S_if_eq (pc := 19) (tgt := 29) hC dX6_readRecord_19 (by decide) ?_ ?_
    · exact hJ 29
    · refine S_aload_n (pc := 22) hC dX6_readRecord_22 rfl ?_
      refine S_callV (pc := 23) hC (sX6_skipBlank l G) rfl wd_759 wd_761 ws_17 wd_4 wd_762 (by decide +kernel) ⟨by rw [hRf]; decide, by rw [hRl]; decide⟩ dX6_readRecord_23 ?_
      unfold kX6_readRecord_26
      refine S_if_ne (pc := 26) (tgt := 31) hC dX6_readRecord_26 (by decide) ?_ ?_
      · refine S_aload_n (pc := 31) hC dX6_readRecord_31 rfl ?_
        refine S_aload_n (pc := 32) hC dX6_readRecord_32 rfl ?_
        refine S_callV (pc := 33) hC (sX6_readSide l G) rfl wd_763 wd_765 ws_18 wd_4 wd_766 (by decide +kernel) ⟨by rw [hRf]; decide, by rw [hRl]; decide⟩ dX6_readRecord_33 ?_
        unfold kX6_readRecord_36
        refine S_if_eq (pc := 36) (tgt := 46) hC dX6_readRecord_36 (by decide) ?_ ?_
        · exact hJ 46
        · refine S_aload_n (pc := 39) hC dX6_readRecord_39 rfl ?_
          refine S_callV (pc := 40) hC (sX6_skipBlank l G) rfl wd_759 wd_761 ws_17 wd_4 wd_762 (by decide +kernel) ⟨by rw [hRf]; decide, by rw [hRl]; decide⟩ dX6_readRecord_40 ?_
          unfold kX6_readRecord_43
          refine S_if_ne (pc := 43) (tgt := 48) hC dX6_readRecord_43 (by decide) ?_ ?_
          · refine S_aload_n (pc := 48) hC dX6_readRecord_48 rfl ?_
            refine S_aload_n (pc := 49) hC dX6_readRecord_49 rfl ?_
            refine S_callV (pc := 50) hC (sX6_readRights l G hE) rfl wd_767 wd_769 ws_19 wd_4 wd_770 (by decide +kernel) ⟨by rw [hRf]; decide, by rw [hRl]; decide⟩ dX6_readRecord_50 ?_
            unfold kX6_readRecord_53
            refine S_if_eq (pc := 53) (tgt := 63) hC dX6_readRecord_53 (by decide) ?_ ?_
            · exact hJ 63
            · refine S_aload_n (pc := 56) hC dX6_readRecord_56 rfl ?_
              refine S_callV (pc := 57) hC (sX6_skipBlank l G) rfl wd_759 wd_761 ws_17 wd_4 wd_762 (by decide +kernel) ⟨by rw [hRf]; decide, by rw [hRl]; decide⟩ dX6_readRecord_57 ?_
              unfold kX6_readRecord_60
              refine S_if_ne (pc := 60) (tgt := 65) hC dX6_readRecord_60 (by decide) ?_ ?_
              · refine S_aload_n (pc := 65) hC dX6_readRecord_65 rfl ?_
                refine S_aload_n (pc := 66) hC dX6_readRecord_66 rfl ?_
                refine S_callV (pc := 67) hC (sX6_readPassant l G) rfl wd_773 wd_775 ws_20 wd_4 wd_776 (by decide +kernel) ⟨by rw [hRf]; decide, by rw [hRl]; decide⟩ dX6_readRecord_67 ?_
                unfold kX6_readRecord_70
                refine S_if_eq (pc := 70) (tgt := 80) hC dX6_readRecord_70 (by decide) ?_ ?_
                · exact hJ 80
                · refine S_aload_n (pc := 73) hC dX6_readRecord_73 rfl ?_
                  refine S_callV (pc := 74) hC (sX6_skipBlank l G) rfl wd_759 wd_761 ws_17 wd_4 wd_762 (by decide +kernel) ⟨by rw [hRf]; decide, by rw [hRl]; decide⟩ dX6_readRecord_74 ?_
                  unfold kX6_readRecord_77
                  refine S_if_ne (pc := 77) (tgt := 82) hC dX6_readRecord_77 (by decide) ?_ ?_
                  · refine S_aload_n (pc := 82) hC dX6_readRecord_82 rfl ?_
                    refine S_aload_n (pc := 83) hC dX6_readRecord_83 rfl ?_
                    refine S_sipush (pc := 84) hC dX6_readRecord_84 (by decide) ?_
                    refine S_callV (pc := 87) hC (sX6_readNumber l G) rfl wd_777 wd_779 ws_21 wd_4 wd_780 (by decide +kernel) ⟨by rw [hRf]; decide, by rw [hRl]; decide⟩ dX6_readRecord_87 ?_
                    unfold kX6_readRecord_90
                    refine S_puti (pc := 90) hC cfX0 (by decide) rfl (Or.inl rfl) wd_251 dX6_readRecord_90 ?_
                    refine S_aload_n (pc := 93) hC dX6_readRecord_93 rfl ?_
                    refine S_geti (pc := 94) hC cfX0 (by decide) (Or.inl rfl) wd_251 dX6_readRecord_94 ?_
                    refine S_iconst (pc := 97) hC dX6_readRecord_97 (by decide) ?_
                    refine S_icmp_eq (pc := 98) (tgt := 108) hC dX6_readRecord_98 (by decide) ?_ ?_
                    · exact hJ 108
                    · refine S_aload_n (pc := 101) hC dX6_readRecord_101 rfl ?_
                      refine S_callV (pc := 102) hC (sX6_skipBlank l G) rfl wd_759 wd_761 ws_17 wd_4 wd_762 (by decide +kernel) ⟨by rw [hRf]; decide, by rw [hRl]; decide⟩ dX6_readRecord_102 ?_
                      unfold kX6_readRecord_105
                      refine S_if_ne (pc := 105) (tgt := 110) hC dX6_readRecord_105 (by decide) ?_ ?_
                      · refine S_aload_n (pc := 110) hC dX6_readRecord_110 rfl ?_
                        refine S_aload_n (pc := 111) hC dX6_readRecord_111 rfl ?_
                        refine S_sipush (pc := 112) hC dX6_readRecord_112 (by decide) ?_
                        refine S_callV (pc := 115) hC (sX6_readNumber l G) rfl wd_777 wd_779 ws_21 wd_4 wd_780 (by decide +kernel) ⟨by rw [hRf]; decide, by rw [hRl]; decide⟩ dX6_readRecord_115 ?_
                        unfold kX6_readRecord_118
                        refine S_puti (pc := 118) hC cfX0 (by decide) rfl (Or.inl rfl) wd_256 dX6_readRecord_118 ?_
                        refine S_aload_n (pc := 121) hC dX6_readRecord_121 rfl ?_
                        refine S_geti (pc := 122) hC cfX0 (by decide) (Or.inl rfl) wd_256 dX6_readRecord_122 ?_
                        refine S_iconst (pc := 125) hC dX6_readRecord_125 (by decide) ?_
                        refine S_icmp_lt (pc := 126) (tgt := 154) hC dX6_readRecord_126 (by decide) ?_ ?_
                        · exact hJ 154
                        · refine S_aload_n (pc := 129) hC dX6_readRecord_129 rfl ?_
                          refine S_geti (pc := 130) hC cfX6 (by decide) (Or.inl rfl) wd_141 dX6_readRecord_130 ?_
                          refine S_aload_n (pc := 133) hC dX6_readRecord_133 rfl ?_
                          refine S_geti (pc := 134) hC cfX6 (by decide) (Or.inl rfl) wd_142 dX6_readRecord_134 ?_
                          refine S_icmp_ge (pc := 137) (tgt := 157) hC dX6_readRecord_137 (by decide) ?_ ?_
                          · exact hJ 157
                          · refine S_aload_n (pc := 140) hC dX6_readRecord_140 rfl ?_
                            refine S_getR (pc := 141) hC cfX6 (by decide) (Or.inr ⟨_, rfl⟩) wd_138 dX6_readRecord_141 ?_
                            refine S_aload_n (pc := 144) hC dX6_readRecord_144 rfl ?_
                            refine S_geti (pc := 145) hC cfX6 (by decide) (Or.inl rfl) wd_141 dX6_readRecord_145 ?_
                            refine S_caload (pc := 148) hC dX6_readRecord_148 ?_
                            refine S_bipush (pc := 149) hC dX6_readRecord_149 (by decide) ?_
                            refine S_icmp_eq (pc := 151) (tgt := 157) hC dX6_readRecord_151 (by decide) ?_ ?_
                            · exact hJ 157
                            · exact hJ 154
                      · exact hJ 108
                  · exact hJ 80
              · exact hJ 63
          · exact hJ 46
      · exact hJ 29
  have hB29 : zin 3 [] (aX6_readRecord_29 mc ms X Q) X 29 := by
    intro u v vs st M hb
    rw [hXe]
    refine fun lv hp => S_block (L := 29) (live := []) ?_ u v lv vs st M hp hb
    unfold aX6_readRecord_29
    refine S_iconst (pc := 29) hC dX6_readRecord_29 (by decide) ?_
    exact S_ireturn (pc := 30) hC hr dX6_readRecord_30
  have hB46 : zin 3 [] (aX6_readRecord_46 mc ms X Q) X 46 := by
    intro u v vs st M hb
    rw [hXe]
    refine fun lv hp => S_block (L := 46) (live := []) ?_ u v lv vs st M hp hb
    unfold aX6_readRecord_46
    refine S_iconst (pc := 46) hC dX6_readRecord_46 (by decide) ?_
    exact S_ireturn (pc := 47) hC hr dX6_readRecord_47
  have hB63 : zin 3 [] (aX6_readRecord_63 mc ms X Q) X 63 := by
    intro u v vs st M hb
    rw [hXe]
    refine fun lv hp => S_block (L := 63) (live := []) ?_ u v lv vs st M hp hb
    unfold aX6_readRecord_63
    refine S_iconst (pc := 63) hC dX6_readRecord_63 (by decide) ?_
    exact S_ireturn (pc := 64) hC hr dX6_readRecord_64
  have hB80 : zin 3 [] (aX6_readRecord_80 mc ms X Q) X 80 := by
    intro u v vs st M hb
    rw [hXe]
    refine fun lv hp => S_block (L := 80) (live := []) ?_ u v lv vs st M hp hb
    unfold aX6_readRecord_80
    refine S_iconst (pc := 80) hC dX6_readRecord_80 (by decide) ?_
    exact S_ireturn (pc := 81) hC hr dX6_readRecord_81
  have hB108 : zin 3 [] (aX6_readRecord_108 mc ms X Q) X 108 := by
    intro u v vs st M hb
    rw [hXe]
    refine fun lv hp => S_block (L := 108) (live := []) ?_ u v lv vs st M hp hb
    unfold aX6_readRecord_108
    refine S_iconst (pc := 108) hC dX6_readRecord_108 (by decide) ?_
    exact S_ireturn (pc := 109) hC hr dX6_readRecord_109
  have hB154 : zin 3 [] (aX6_readRecord_154 mc ms X Q) X 154 := by
    intro u v vs st M hb
    rw [hXe]
    refine fun lv hp => S_block (L := 154) (live := []) ?_ u v lv vs st M hp hb
    unfold aX6_readRecord_154
    refine S_bipush (pc := 154) hC dX6_readRecord_154 (by decide) ?_
    exact S_ireturn (pc := 156) hC hr dX6_readRecord_156
  have hB157 : zin 3 [0, 1] (aX6_readRecord_157 mc ms X Q) X 157 := by
    intro u v vs st M hb
    rw [hXe]
    refine fun lv hp => S_block (L := 157) (live := [0, 1]) ?_ u v lv vs st M hp hb
    unfold aX6_readRecord_157
    refine S_aload_n (pc := 157) hC dX6_readRecord_157 rfl ?_
    refine S_aload_n (pc := 158) hC dX6_readRecord_158 rfl ?_
    refine S_callV (pc := 159) hC (sX6_wrong l G) rfl wd_782 wd_784 ws_22 wd_4 wd_785 (by decide +kernel) ⟨by rw [hRf]; decide, by rw [hRl]; decide⟩ dX6_readRecord_159 ?_
    unfold kX6_readRecord_162
    exact S_ireturn (pc := 162) hC hr dX6_readRecord_162
  have := h.2 X hB0 hB29 hB46 hB63 hB80 hB108 hB154 hB157
  rw [hXe] at this
  exact this lv hlv
theorem vX6_readRecord_0 {mc ms : Nat} {X : Nat → zV} {Q : zQt} {M : zM} {g : Nat} {x2 : Int32} (hW : zWd M g)  (h : ∀ M2 : zM, M2 = (zsI M 27 3 0) → ∀ M7 : zM, M7 = (zsI M2 27 4 x2) → wX0_clear 0 0 [.ref (g + 1)] M7 (fun r M1 => kX6_readRecord_14 mc ms X Q 0 0 [some (.ref 27), some (.ref (g + 1)), some (.int x2)] (r.toList ++ []) M1)) : aX6_readRecord_0 mc ms X Q 0 0 [some (.ref 27), some (.ref (g + 1)), some (.int x2)] [] M := ⟨(fxs_27 hW.1), (have h2 := h _ rfl; ⟨(fxs_27 hW.1), (have h7 := h2 _ rfl; ⟨Nat.le_of_ble_eq_true rfl, rfl, (fgs_1 hW), 0, 0, Nat.zero_le _, Nat.zero_le _, h7⟩)⟩)⟩
theorem vX6_readRecord_29 {mc ms : Nat} {X : Nat → zV} {Q : zQt} {M : zM} {g : Nat}  (hW : zWd M g)  (h : Q (some (.int 1)) M) : aX6_readRecord_29 mc ms X Q 0 0 [none, none, none] [] M := h
theorem vX6_readRecord_46 {mc ms : Nat} {X : Nat → zV} {Q : zQt} {M : zM} {g : Nat}  (hW : zWd M g)  (h : Q (some (.int 2)) M) : aX6_readRecord_46 mc ms X Q 0 0 [none, none, none] [] M := h
theorem vX6_readRecord_63 {mc ms : Nat} {X : Nat → zV} {Q : zQt} {M : zM} {g : Nat}  (hW : zWd M g)  (h : Q (some (.int 3)) M) : aX6_readRecord_63 mc ms X Q 0 0 [none, none, none] [] M := h
theorem vX6_readRecord_80 {mc ms : Nat} {X : Nat → zV} {Q : zQt} {M : zM} {g : Nat}  (hW : zWd M g)  (h : Q (some (.int 4)) M) : aX6_readRecord_80 mc ms X Q 0 0 [none, none, none] [] M := h
theorem vX6_readRecord_108 {mc ms : Nat} {X : Nat → zV} {Q : zQt} {M : zM} {g : Nat}  (hW : zWd M g)  (h : Q (some (.int 5)) M) : aX6_readRecord_108 mc ms X Q 0 0 [none, none, none] [] M := h
theorem vX6_readRecord_154 {mc ms : Nat} {X : Nat → zV} {Q : zQt} {M : zM} {g : Nat}  (hW : zWd M g)  (h : Q (some (.int 6)) M) : aX6_readRecord_154 mc ms X Q 0 0 [none, none, none] [] M := h
theorem vX6_readRecord_157 {mc ms : Nat} {X : Nat → zV} {Q : zQt} {M : zM} {g : Nat}  (hW : zWd M g)  (h : wX6_wrong 0 0 [.ref 27, .ref (g + 1)] M (fun r M1 => kX6_readRecord_162 mc ms X Q 0 0 [some (.ref 27), some (.ref (g + 1)), none] (r.toList ++ []) M1)) : aX6_readRecord_157 mc ms X Q 0 0 [some (.ref 27), some (.ref (g + 1)), none] [] M := ⟨Nat.le_of_ble_eq_true rfl, rfl, (fxs_27 hW.1), 0, 0, Nat.zero_le _, Nat.zero_le _, h⟩
theorem vkX6_readRecord_14 {mc ms : Nat} {X : Nat → zV} {Q : zQt} {M : zM} {g : Nat} {x2 : Int32} (hW : zWd M g)  (h : wX6_readMen 0 0 [.ref 27, .ref (g + 1)] M (fun r M1 => kX6_readRecord_19 mc ms X Q 0 0 [some (.ref 27), some (.ref (g + 1)), some (.int x2)] (r.toList ++ []) M1)) : kX6_readRecord_14 mc ms X Q 0 0 [some (.ref 27), some (.ref (g + 1)), some (.int x2)] [] M := ⟨Nat.le_of_ble_eq_true rfl, rfl, (fxs_27 hW.1), 0, 0, Nat.zero_le _, Nat.zero_le _, h⟩
theorem vkX6_readRecord_19 {mc ms : Nat} {X : Nat → zV} {Q : zQt} {M : zM} {g : Nat} {x2 : Int32} {s0 : Int32} (hW : zWd M g)  (h : (s0 = 0 → X 29 0 0 [] [] M) ∧ (¬ s0 = 0 → wX6_skipBlank 0 0 [.ref 27] M (fun r M1 => kX6_readRecord_26 mc ms X Q 0 0 [some (.ref 27), some (.ref (g + 1)), some (.int x2)] (r.toList ++ []) M1))) : kX6_readRecord_19 mc ms X Q 0 0 [some (.ref 27), some (.ref (g + 1)), some (.int x2)] [.int s0] M := ⟨fun c19 => (h.1 c19), fun c19 => ⟨Nat.le_of_ble_eq_true rfl, rfl, (fxs_27 hW.1), 0, 0, Nat.zero_le _, Nat.zero_le _, (h.2 c19)⟩⟩
theorem vkX6_readRecord_26 {mc ms : Nat} {X : Nat → zV} {Q : zQt} {M : zM} {g : Nat} {x2 : Int32} {s0 : Int32} (hW : zWd M g)  (h : (s0 = 0 → X 29 0 0 [] [] M) ∧ (¬ s0 = 0 → wX6_readSide 0 0 [.ref 27, .ref (g + 1)] M (fun r M1 => kX6_readRecord_36 mc ms X Q 0 0 [some (.ref 27), some (.ref (g + 1)), some (.int x2)] (r.toList ++ []) M1))) : kX6_readRecord_26 mc ms X Q 0 0 [some (.ref 27), some (.ref (g + 1)), some (.int x2)] [.int s0] M := ⟨fun c26 => (h.1 c26), fun c26 => ⟨Nat.le_of_ble_eq_true rfl, rfl, (fxs_27 hW.1), 0, 0, Nat.zero_le _, Nat.zero_le _, (h.2 c26)⟩⟩
theorem vkX6_readRecord_36 {mc ms : Nat} {X : Nat → zV} {Q : zQt} {M : zM} {g : Nat} {x2 : Int32} {s0 : Int32} (hW : zWd M g)  (h : (s0 = 0 → X 46 0 0 [] [] M) ∧ (¬ s0 = 0 → wX6_skipBlank 0 0 [.ref 27] M (fun r M1 => kX6_readRecord_43 mc ms X Q 0 0 [some (.ref 27), some (.ref (g + 1)), some (.int x2)] (r.toList ++ []) M1))) : kX6_readRecord_36 mc ms X Q 0 0 [some (.ref 27), some (.ref (g + 1)), some (.int x2)] [.int s0] M := ⟨fun c36 => (h.1 c36), fun c36 => ⟨Nat.le_of_ble_eq_true rfl, rfl, (fxs_27 hW.1), 0, 0, Nat.zero_le _, Nat.zero_le _, (h.2 c36)⟩⟩
theorem vkX6_readRecord_43 {mc ms : Nat} {X : Nat → zV} {Q : zQt} {M : zM} {g : Nat} {x2 : Int32} {s0 : Int32} (hW : zWd M g)  (h : (s0 = 0 → X 46 0 0 [] [] M) ∧ (¬ s0 = 0 → wX6_readRights 0 0 [.ref 27, .ref (g + 1)] M (fun r M1 => kX6_readRecord_53 mc ms X Q 0 0 [some (.ref 27), some (.ref (g + 1)), some (.int x2)] (r.toList ++ []) M1))) : kX6_readRecord_43 mc ms X Q 0 0 [some (.ref 27), some (.ref (g + 1)), some (.int x2)] [.int s0] M := ⟨fun c43 => (h.1 c43), fun c43 => ⟨Nat.le_of_ble_eq_true rfl, rfl, (fxs_27 hW.1), 0, 0, Nat.zero_le _, Nat.zero_le _, (h.2 c43)⟩⟩
theorem vkX6_readRecord_53 {mc ms : Nat} {X : Nat → zV} {Q : zQt} {M : zM} {g : Nat} {x2 : Int32} {s0 : Int32} (hW : zWd M g)  (h : (s0 = 0 → X 63 0 0 [] [] M) ∧ (¬ s0 = 0 → wX6_skipBlank 0 0 [.ref 27] M (fun r M1 => kX6_readRecord_60 mc ms X Q 0 0 [some (.ref 27), some (.ref (g + 1)), some (.int x2)] (r.toList ++ []) M1))) : kX6_readRecord_53 mc ms X Q 0 0 [some (.ref 27), some (.ref (g + 1)), some (.int x2)] [.int s0] M := ⟨fun c53 => (h.1 c53), fun c53 => ⟨Nat.le_of_ble_eq_true rfl, rfl, (fxs_27 hW.1), 0, 0, Nat.zero_le _, Nat.zero_le _, (h.2 c53)⟩⟩
theorem vkX6_readRecord_60 {mc ms : Nat} {X : Nat → zV} {Q : zQt} {M : zM} {g : Nat} {x2 : Int32} {s0 : Int32} (hW : zWd M g)  (h : (s0 = 0 → X 63 0 0 [] [] M) ∧ (¬ s0 = 0 → wX6_readPassant 0 0 [.ref 27, .ref (g + 1)] M (fun r M1 => kX6_readRecord_70 mc ms X Q 0 0 [some (.ref 27), some (.ref (g + 1)), some (.int x2)] (r.toList ++ []) M1))) : kX6_readRecord_60 mc ms X Q 0 0 [some (.ref 27), some (.ref (g + 1)), some (.int x2)] [.int s0] M := ⟨fun c60 => (h.1 c60), fun c60 => ⟨Nat.le_of_ble_eq_true rfl, rfl, (fxs_27 hW.1), 0, 0, Nat.zero_le _, Nat.zero_le _, (h.2 c60)⟩⟩
theorem vkX6_readRecord_70 {mc ms : Nat} {X : Nat → zV} {Q : zQt} {M : zM} {g : Nat} {x2 : Int32} {s0 : Int32} (hW : zWd M g)  (h : (s0 = 0 → X 80 0 0 [] [] M) ∧ (¬ s0 = 0 → wX6_skipBlank 0 0 [.ref 27] M (fun r M1 => kX6_readRecord_77 mc ms X Q 0 0 [some (.ref 27), some (.ref (g + 1)), some (.int x2)] (r.toList ++ []) M1))) : kX6_readRecord_70 mc ms X Q 0 0 [some (.ref 27), some (.ref (g + 1)), some (.int x2)] [.int s0] M := ⟨fun c70 => (h.1 c70), fun c70 => ⟨Nat.le_of_ble_eq_true rfl, rfl, (fxs_27 hW.1), 0, 0, Nat.zero_le _, Nat.zero_le _, (h.2 c70)⟩⟩
theorem vkX6_readRecord_77 {mc ms : Nat} {X : Nat → zV} {Q : zQt} {M : zM} {g : Nat} {x2 : Int32} {s0 : Int32} (hW : zWd M g)  (h : (s0 = 0 → X 80 0 0 [] [] M) ∧ (¬ s0 = 0 → wX6_readNumber 0 0 [.ref 27, .int 999] M (fun r M1 => kX6_readRecord_90 mc ms X Q 0 0 [some (.ref 27), some (.ref (g + 1)), some (.int x2)] (r.toList ++ [.ref (g + 1)]) M1))) : kX6_readRecord_77 mc ms X Q 0 0 [some (.ref 27), some (.ref (g + 1)), some (.int x2)] [.int s0] M := ⟨fun c77 => (h.1 c77), fun c77 => ⟨Nat.le_of_ble_eq_true rfl, rfl, (fxs_27 hW.1), 0, 0, Nat.zero_le _, Nat.zero_le _, (h.2 c77)⟩⟩
theorem vkX6_readRecord_90 {mc ms : Nat} {X : Nat → zV} {Q : zQt} {M : zM} {g : Nat} {x2 : Int32} {s0 : Int32} (hW : zWd M g)  (h : ∀ M90 : zM, M90 = (zsI M ((g + 1)) 7 s0) → ((M90.1 ((g + 1)) 7) = ((-1) : Int32) → X 108 0 0 [] [] M90) ∧ (¬ (M90.1 ((g + 1)) 7) = ((-1) : Int32) → wX6_skipBlank 0 0 [.ref 27] M90 (fun r M1 => kX6_readRecord_105 mc ms X Q 0 0 [some (.ref 27), some (.ref (g + 1)), some (.int x2)] (r.toList ++ []) M1))) : kX6_readRecord_90 mc ms X Q 0 0 [some (.ref 27), some (.ref (g + 1)), some (.int x2)] [.int s0, .ref (g + 1)] M := ⟨(fgs_1 hW), (have h90 := h _ rfl; ⟨(fgs_1 hW), ⟨fun c98 => (h90.1 c98), fun c98 => ⟨Nat.le_of_ble_eq_true rfl, rfl, (fxs_27 hW.1), 0, 0, Nat.zero_le _, Nat.zero_le _, (h90.2 c98)⟩⟩⟩)⟩
theorem vkX6_readRecord_105 {mc ms : Nat} {X : Nat → zV} {Q : zQt} {M : zM} {g : Nat} {x2 : Int32} {s0 : Int32} (hW : zWd M g)  (h : (s0 = 0 → X 108 0 0 [] [] M) ∧ (¬ s0 = 0 → wX6_readNumber 0 0 [.ref 27, .int 9999] M (fun r M1 => kX6_readRecord_118 mc ms X Q 0 0 [some (.ref 27), some (.ref (g + 1)), some (.int x2)] (r.toList ++ [.ref (g + 1)]) M1))) : kX6_readRecord_105 mc ms X Q 0 0 [some (.ref 27), some (.ref (g + 1)), some (.int x2)] [.int s0] M := ⟨fun c105 => (h.1 c105), fun c105 => ⟨Nat.le_of_ble_eq_true rfl, rfl, (fxs_27 hW.1), 0, 0, Nat.zero_le _, Nat.zero_le _, (h.2 c105)⟩⟩
theorem vkX6_readRecord_118 {mc ms : Nat} {X : Nat → zV} {Q : zQt} {M : zM} {g : Nat} {x2 : Int32} {s0 : Int32} (hW : zWd M g)  (h : ∀ M118 : zM, M118 = (zsI M ((g + 1)) 8 s0) → ((M118.1 ((g + 1)) 8) < (1 : Int32) → X 154 0 0 [] [] M118) ∧ (¬ (M118.1 ((g + 1)) 8) < (1 : Int32) → ((M118.1 27 4) ≤ (M118.1 27 3) → X 157 0 0 [.ref 27, .ref (g + 1)] [] M118) ∧ (¬ (M118.1 27 4) ≤ (M118.1 27 3) → vp_in ((M118.1 27 3)) 8180 ∧ (((M118 : zM).1 24 ((M118.1 27 3) : Int32).toNatClampNeg) = (32 : Int32) → X 157 0 0 [.ref 27, .ref (g + 1)] [] M118) ∧ (¬ ((M118 : zM).1 24 ((M118.1 27 3) : Int32).toNatClampNeg) = (32 : Int32) → X 154 0 0 [] [] M118)))) : kX6_readRecord_118 mc ms X Q 0 0 [some (.ref 27), some (.ref (g + 1)), some (.int x2)] [.int s0, .ref (g + 1)] M := ⟨(fgs_1 hW), (have h118 := h _ rfl; ⟨(fgs_1 hW), ⟨fun c126 => (h118.1 c126), fun c126 => ⟨(fxs_27 hW.1), ⟨(fxs_27 hW.1), ⟨fun c137 => ((h118.2 c126).1 c137), fun c137 => ⟨(fxs_27 hW.1), 24, (fxr_27_0 hW.1), ⟨(fxs_27 hW.1), ⟨8180, (fxs_24 hW.1), ((h118.2 c126).2 c137).1, ⟨fun c151 => (((h118.2 c126).2 c137).2.1 c151), fun c151 => (((h118.2 c126).2 c137).2.2 c151)⟩⟩⟩⟩⟩⟩⟩⟩⟩)⟩
theorem vkX6_readRecord_162 {mc ms : Nat} {X : Nat → zV} {Q : zQt} {M : zM} {g : Nat} {s0 : Int32} (hW : zWd M g)  (h : Q (some (.int s0)) M) : kX6_readRecord_162 mc ms X Q 0 0 [some (.ref 27), some (.ref (g + 1)), none] [.int s0] M := h
theorem dX6_readMoves_0 : decode cX6_readMoves 0 = .ok (.iconst 0, 1) := by decide +kernel
theorem dX6_readMoves_1 : decode cX6_readMoves 1 = .ok (.istore_n 2, 1) := by decide +kernel
theorem dX6_readMoves_2 : decode cX6_readMoves 2 = .ok (.iload_n 2, 1) := by decide +kernel
theorem dX6_readMoves_3 : decode cX6_readMoves 3 = .ok (.sipush 600, 3) := by decide +kernel
theorem dX6_readMoves_6 : decode cX6_readMoves 6 = .ok (.if_icmp .gt 137, 3) := by decide +kernel
theorem dX6_readMoves_9 : decode cX6_readMoves 9 = .ok (.aload_n 0, 1) := by decide +kernel
theorem dX6_readMoves_10 : decode cX6_readMoves 10 = .ok (.getfield 26, 3) := by decide +kernel
theorem dX6_readMoves_13 : decode cX6_readMoves 13 = .ok (.aload_n 0, 1) := by decide +kernel
theorem dX6_readMoves_14 : decode cX6_readMoves 14 = .ok (.getfield 30, 3) := by decide +kernel
theorem dX6_readMoves_17 : decode cX6_readMoves 17 = .ok (.if_icmp .ge 126, 3) := by decide +kernel
theorem dX6_readMoves_20 : decode cX6_readMoves 20 = .ok (.aload_n 1, 1) := by decide +kernel
theorem dX6_readMoves_21 : decode cX6_readMoves 21 = .ok (.invokevirtual 145, 3) := by decide +kernel
theorem dX6_readMoves_24 : decode cX6_readMoves 24 = .ok (.ifCond .ne 10, 3) := by decide +kernel
theorem dX6_readMoves_27 : decode cX6_readMoves 27 = .ok (.aload_n 1, 1) := by decide +kernel
theorem dX6_readMoves_28 : decode cX6_readMoves 28 = .ok (.invokevirtual 150, 3) := by decide +kernel
theorem dX6_readMoves_31 : decode cX6_readMoves 31 = .ok (.ifCond .eq 6, 3) := by decide +kernel
theorem dX6_readMoves_34 : decode cX6_readMoves 34 = .ok (.bipush 20, 2) := by decide +kernel
theorem dX6_readMoves_36 : decode cX6_readMoves 36 = .ok (.ireturn, 1) := by decide +kernel
theorem dX6_readMoves_37 : decode cX6_readMoves 37 = .ok (.aload_n 0, 1) := by decide +kernel
theorem dX6_readMoves_38 : decode cX6_readMoves 38 = .ok (.getfield 26, 3) := by decide +kernel
theorem dX6_readMoves_41 : decode cX6_readMoves 41 = .ok (.iconst 1, 1) := by decide +kernel
theorem dX6_readMoves_42 : decode cX6_readMoves 42 = .ok (.iadd, 1) := by decide +kernel
theorem dX6_readMoves_43 : decode cX6_readMoves 43 = .ok (.istore_n 3, 1) := by decide +kernel
theorem dX6_readMoves_44 : decode cX6_readMoves 44 = .ok (.aload_n 0, 1) := by decide +kernel
theorem dX6_readMoves_45 : decode cX6_readMoves 45 = .ok (.aload_n 0, 1) := by decide +kernel
theorem dX6_readMoves_46 : decode cX6_readMoves 46 = .ok (.iload_n 3, 1) := by decide +kernel
theorem dX6_readMoves_47 : decode cX6_readMoves 47 = .ok (.invokevirtual 153, 3) := by decide +kernel
theorem dX6_readMoves_50 : decode cX6_readMoves 50 = .ok (.putfield 26, 3) := by decide +kernel
theorem dX6_readMoves_53 : decode cX6_readMoves 53 = .ok (.aload_n 0, 1) := by decide +kernel
theorem dX6_readMoves_54 : decode cX6_readMoves 54 = .ok (.getfield 22, 3) := by decide +kernel
theorem dX6_readMoves_57 : decode cX6_readMoves 57 = .ok (.aload_n 0, 1) := by decide +kernel
theorem dX6_readMoves_58 : decode cX6_readMoves 58 = .ok (.getfield 9, 3) := by decide +kernel
theorem dX6_readMoves_61 : decode cX6_readMoves 61 = .ok (.iload_n 3, 1) := by decide +kernel
theorem dX6_readMoves_62 : decode cX6_readMoves 62 = .ok (.aload_n 0, 1) := by decide +kernel
theorem dX6_readMoves_63 : decode cX6_readMoves 63 = .ok (.getfield 26, 3) := by decide +kernel
theorem dX6_readMoves_66 : decode cX6_readMoves 66 = .ok (.invokevirtual 156, 3) := by decide +kernel
theorem dX6_readMoves_69 : decode cX6_readMoves 69 = .ok (.ifCond .ne 6, 3) := by decide +kernel
theorem dX6_readMoves_72 : decode cX6_readMoves 72 = .ok (.bipush 21, 2) := by decide +kernel
theorem dX6_readMoves_74 : decode cX6_readMoves 74 = .ok (.ireturn, 1) := by decide +kernel
theorem dX6_readMoves_75 : decode cX6_readMoves 75 = .ok (.aload_n 0, 1) := by decide +kernel
theorem dX6_readMoves_76 : decode cX6_readMoves 76 = .ok (.getfield 15, 3) := by decide +kernel
theorem dX6_readMoves_79 : decode cX6_readMoves 79 = .ok (.aload_n 1, 1) := by decide +kernel
theorem dX6_readMoves_80 : decode cX6_readMoves 80 = .ok (.aload_n 0, 1) := by decide +kernel
theorem dX6_readMoves_81 : decode cX6_readMoves 81 = .ok (.getfield 22, 3) := by decide +kernel
theorem dX6_readMoves_84 : decode cX6_readMoves 84 = .ok (.invokevirtual 160, 3) := by decide +kernel
theorem dX6_readMoves_87 : decode cX6_readMoves 87 = .ok (.istore 4, 2) := by decide +kernel
theorem dX6_readMoves_89 : decode cX6_readMoves 89 = .ok (.iload 4, 2) := by decide +kernel
theorem dX6_readMoves_91 : decode cX6_readMoves 91 = .ok (.ifCond .ge 7, 3) := by decide +kernel
theorem dX6_readMoves_94 : decode cX6_readMoves 94 = .ok (.iload 4, 2) := by decide +kernel
theorem dX6_readMoves_96 : decode cX6_readMoves 96 = .ok (.ineg, 1) := by decide +kernel
theorem dX6_readMoves_97 : decode cX6_readMoves 97 = .ok (.ireturn, 1) := by decide +kernel
theorem dX6_readMoves_98 : decode cX6_readMoves 98 = .ok (.aload_n 0, 1) := by decide +kernel
theorem dX6_readMoves_99 : decode cX6_readMoves 99 = .ok (.getfield 15, 3) := by decide +kernel
theorem dX6_readMoves_102 : decode cX6_readMoves 102 = .ok (.aload_n 1, 1) := by decide +kernel
theorem dX6_readMoves_103 : decode cX6_readMoves 103 = .ok (.aload_n 1, 1) := by decide +kernel
theorem dX6_readMoves_104 : decode cX6_readMoves 104 = .ok (.getfield 166, 3) := by decide +kernel
theorem dX6_readMoves_107 : decode cX6_readMoves 107 = .ok (.iload 4, 2) := by decide +kernel
theorem dX6_readMoves_109 : decode cX6_readMoves 109 = .ok (.iaload, 1) := by decide +kernel
theorem dX6_readMoves_110 : decode cX6_readMoves 110 = .ok (.invokevirtual 169, 3) := by decide +kernel
theorem dX6_readMoves_113 : decode cX6_readMoves 113 = .ok (.aload_n 0, 1) := by decide +kernel
theorem dX6_readMoves_114 : decode cX6_readMoves 114 = .ok (.getfield 22, 3) := by decide +kernel
theorem dX6_readMoves_117 : decode cX6_readMoves 117 = .ok (.getfield 172, 3) := by decide +kernel
theorem dX6_readMoves_120 : decode cX6_readMoves 120 = .ok (.if_icmp .eq 6, 3) := by decide +kernel
theorem dX6_readMoves_123 : decode cX6_readMoves 123 = .ok (.bipush 24, 2) := by decide +kernel
theorem dX6_readMoves_125 : decode cX6_readMoves 125 = .ok (.ireturn, 1) := by decide +kernel
theorem dX6_readMoves_126 : decode cX6_readMoves 126 = .ok (.aload_n 1, 1) := by decide +kernel
theorem dX6_readMoves_127 : decode cX6_readMoves 127 = .ok (.aload_n 1, 1) := by decide +kernel
theorem dX6_readMoves_128 : decode cX6_readMoves 128 = .ok (.getfield 166, 3) := by decide +kernel
theorem dX6_readMoves_131 : decode cX6_readMoves 131 = .ok (.iload 4, 2) := by decide +kernel
theorem dX6_readMoves_133 : decode cX6_readMoves 133 = .ok (.iaload, 1) := by decide +kernel
theorem dX6_readMoves_134 : decode cX6_readMoves 134 = .ok (.invokevirtual 174, 3) := by decide +kernel
theorem dX6_readMoves_137 : decode cX6_readMoves 137 = .ok (.iinc 2 1, 3) := by decide +kernel
theorem dX6_readMoves_140 : decode cX6_readMoves 140 = .ok (.goto (-138), 3) := by decide +kernel
theorem dX6_readMoves_143 : decode cX6_readMoves 143 = .ok (.iconst 0, 1) := by decide +kernel
theorem dX6_readMoves_144 : decode cX6_readMoves 144 = .ok (.ireturn, 1) := by decide +kernel
def kX6_readMoves_137 (mc ms : Nat) (X : Nat → zV) (Q : zQt) : zT :=
  zinc 2 1 <| zj X 2 [0, 1, 2]
def kX6_readMoves_113 (mc ms : Nat) (X : Nat → zV) (Q : zQt) : zT :=
  zla 0 <| zgR 6 2 <| zgi 10 5 <| zic (fun x y => x = y) (zla 1 <| zla 1 <| zgR 4 2 <| zli 4 <| zal 1 <| zcv mc ms 4 1 wX4_add <| kX6_readMoves_137 mc ms X Q) <| zc (.int 24) <| zri Q
def kX6_readMoves_87 (mc ms : Nat) (X : Nat → zV) (Q : zQt) : zT :=
  zsi 4 <| zli 4 <| zif (fun x => 0 ≤ x) (zla 0 <| zgR 6 1 <| zla 1 <| zla 1 <| zgR 4 2 <| zli 4 <| zal 1 <| zcv mc ms 9 2 wX9_sign <| kX6_readMoves_113 mc ms X Q) <| zli 4 <| zi1 (fun x => -x) <| zri Q
def kX6_readMoves_69 (mc ms : Nat) (X : Nat → zV) (Q : zQt) : zT :=
  zif (fun x => x = 0) (zc (.int 21) <| zri Q) <| zla 0 <| zgR 6 1 <| zla 1 <| zla 0 <| zgR 6 2 <| zcv mc ms 9 2 wX9_choose <| kX6_readMoves_87 mc ms X Q
def kX6_readMoves_50 (mc ms : Nat) (X : Nat → zV) (Q : zQt) : zT :=
  zpi 6 3 <| zla 0 <| zgR 6 2 <| zla 0 <| zgR 6 0 <| zli 3 <| zla 0 <| zgi 6 3 <| zcv mc ms 10 3 wX10_read <| kX6_readMoves_69 mc ms X Q
def kX6_readMoves_31 (mc ms : Nat) (X : Nat → zV) (Q : zQt) : zT :=
  zif (fun x => x = 0) (zla 0 <| zgi 6 3 <| zc (.int 1) <| zii (fun x y => x + y) <| zsi 3 <| zla 0 <| zla 0 <| zli 3 <| zcv mc ms 6 1 wX6_wordEnd <| kX6_readMoves_50 mc ms X Q) <| zj X 34 []
def kX6_readMoves_24 (mc ms : Nat) (X : Nat → zV) (Q : zQt) : zT :=
  zif (fun x => x = 0) (zla 1 <| zcv mc ms 4 0 wX4_isFull <| kX6_readMoves_31 mc ms X Q) <| zj X 34 []
def aX6_readMoves_0 (mc ms : Nat) (X : Nat → zV) (Q : zQt) : zT :=
  zc (.int 0) <| zsi 2 <| zj X 2 [0, 1, 2]
def aX6_readMoves_2 (mc ms : Nat) (X : Nat → zV) (Q : zQt) : zT :=
  zli 2 <| zc (.int 600) <| zic (fun x y => y < x) (zj X 143 []) <| zla 0 <| zgi 6 3 <| zla 0 <| zgi 6 4 <| zic (fun x y => y ≤ x) (zj X 143 []) <| zla 1 <| zcv mc ms 4 0 wX4_isOver <| kX6_readMoves_24 mc ms X Q
def aX6_readMoves_34 (mc ms : Nat) (X : Nat → zV) (Q : zQt) : zT :=
  zc (.int 20) <| zri Q
def aX6_readMoves_143 (mc ms : Nat) (X : Nat → zV) (Q : zQt) : zT :=
  zc (.int 0) <| zri Q
def lvX6_readMoves : Nat → List Nat := fun L => match L with
  | 0 => [0, 1]
  | 2 => [0, 1, 2]
  | 34 => []
  | 143 => []
  | _ => []
def wX6_readMoves : zSp := fun mc ms av M Q => ((zlay av).length ≤ 5 ∧ zpick (zlay av) [0, 1] = some av) ∧ ∀ X : Nat → zV, zin 5 [0, 1] (aX6_readMoves_0 mc ms X Q) X 0 → zin 5 [0, 1, 2] (aX6_readMoves_2 mc ms X Q) X 2 → zin 5 [] (aX6_readMoves_34 mc ms X Q) X 34 → zin 5 [] (aX6_readMoves_143 mc ms X Q) X 143 → X 0 0 0 av [] M
set_option maxRecDepth 100000 in
set_option maxHeartbeats 4000000 in
theorem sX6_readMoves (l : Launch) (G : zG) (hE : zXt G) : zSnd l G yX6_readMoves cX6_readMoves 5 (some .int) 6 155 wX6_readMoves := by
  refine zmk [0, 1] (by decide) (fun mc ms av M Q h => h.1) ?_
  intro p e R s m args below meth c mc ms av M Q hC hRf hRl hr hnm h lv hlv
  obtain ⟨X, hXe⟩ : ∃ X : Nat → zV, X = fun L u v vs st M => ∀ lv, zpick lv (lvX6_readMoves L) = some vs → zAt p l e R s m args below meth c (MQ below (zQ G Q) args s mc ms (zA G)) G 5 L u v lv st M := ⟨_, rfl⟩
  have hJ : ∀ L, zOk p l e R s m args below meth c (MQ below (zQ G Q) args s mc ms (zA G)) G 5 L (zj X L (lvX6_readMoves L)) := fun L => S_jump (fun u v lv vs st M hp hx => by rw [hXe] at hx; exact hx lv hp)
  have hB0 : zin 5 [0, 1] (aX6_readMoves_0 mc ms X Q) X 0 := by
    intro u v vs st M hb
    rw [hXe]
    refine fun lv hp => S_block (L := 0) (live := [0, 1]) ?_ u v lv vs st M hp hb
    unfold aX6_readMoves_0
    refine S_iconst (pc := 0) hC dX6_readMoves_0 (by decide) ?_
    refine S_istore_n (pc := 1) hC dX6_readMoves_1 rfl (by decide) ?_
    exact hJ 2
  have hB2 : zin 5 [0, 1, 2] (aX6_readMoves_2 mc ms X Q) X 2 := by
    intro u v vs st M hb
    rw [hXe]
    refine fun lv hp => S_block (L := 2) (live := [0, 1, 2]) ?_ u v lv vs st M hp hb
    unfold aX6_readMoves_2
    refine S_iload_n (pc := 2) hC dX6_readMoves_2 rfl ?_
    refine S_sipush (pc := 3) hC dX6_readMoves_3 (by decide) ?_
    refine S_icmp_gt (pc := 6) (tgt := 143) hC dX6_readMoves_6 (by decide) ?_ ?_
    · exact hJ 143
    · refine S_aload_n (pc := 9) hC dX6_readMoves_9 rfl ?_
      refine S_geti (pc := 10) hC cfX6 (by decide) (Or.inl rfl) wd_141 dX6_readMoves_10 ?_
      refine S_aload_n (pc := 13) hC dX6_readMoves_13 rfl ?_
      refine S_geti (pc := 14) hC cfX6 (by decide) (Or.inl rfl) wd_142 dX6_readMoves_14 ?_
      refine S_icmp_ge (pc := 17) (tgt := 143) hC dX6_readMoves_17 (by decide) ?_ ?_
      · exact hJ 143
      · refine S_aload_n (pc := 20) hC dX6_readMoves_20 rfl ?_
        refine S_callV (pc := 21) hC (sX4_isOver l G) rfl wd_865 wd_866 wd_867 wd_9 wd_868 (by decide +kernel) ⟨by rw [hRf]; decide, by rw [hRl]; decide⟩ dX6_readMoves_21 ?_
        unfold kX6_readMoves_24
        refine S_if_ne (pc := 24) (tgt := 34) hC dX6_readMoves_24 (by decide) ?_ ?_
        · exact hJ 34
        · refine S_aload_n (pc := 27) hC dX6_readMoves_27 rfl ?_
          refine S_callV (pc := 28) hC (sX4_isFull l G) rfl wd_870 wd_871 wd_872 wd_9 wd_873 (by decide +kernel) ⟨by rw [hRf]; decide, by rw [hRl]; decide⟩ dX6_readMoves_28 ?_
          unfold kX6_readMoves_31
          refine S_if_eq (pc := 31) (tgt := 37) hC dX6_readMoves_31 (by decide) ?_ ?_
          · refine S_aload_n (pc := 37) hC dX6_readMoves_37 rfl ?_
            refine S_geti (pc := 38) hC cfX6 (by decide) (Or.inl rfl) wd_141 dX6_readMoves_38 ?_
            refine S_iconst (pc := 41) hC dX6_readMoves_41 (by decide) ?_
            refine S_iadd (pc := 42) hC dX6_readMoves_42 ?_
            refine S_istore_n (pc := 43) hC dX6_readMoves_43 rfl (by decide) ?_
            refine S_aload_n (pc := 44) hC dX6_readMoves_44 rfl ?_
            refine S_aload_n (pc := 45) hC dX6_readMoves_45 rfl ?_
            refine S_iload_n (pc := 46) hC dX6_readMoves_46 rfl ?_
            refine S_callV (pc := 47) hC (sX6_wordEnd l G) rfl wd_874 wd_876 ws_33 wd_4 wd_877 (by decide +kernel) ⟨by rw [hRf]; decide, by rw [hRl]; decide⟩ dX6_readMoves_47 ?_
            unfold kX6_readMoves_50
            refine S_puti (pc := 50) hC cfX6 (by decide) rfl (Or.inl rfl) wd_141 dX6_readMoves_50 ?_
            refine S_aload_n (pc := 53) hC dX6_readMoves_53 rfl ?_
            refine S_getR (pc := 54) hC cfX6 (by decide) (Or.inl ⟨_, rfl⟩) wd_140 dX6_readMoves_54 ?_
            refine S_aload_n (pc := 57) hC dX6_readMoves_57 rfl ?_
            refine S_getR (pc := 58) hC cfX6 (by decide) (Or.inr ⟨_, rfl⟩) wd_138 dX6_readMoves_58 ?_
            refine S_iload_n (pc := 61) hC dX6_readMoves_61 rfl ?_
            refine S_aload_n (pc := 62) hC dX6_readMoves_62 rfl ?_
            refine S_geti (pc := 63) hC cfX6 (by decide) (Or.inl rfl) wd_141 dX6_readMoves_63 ?_
            refine S_callV (pc := 66) hC (sX10_read l G hE) rfl wd_878 wd_879 wd_880 wd_5 wd_881 (by decide +kernel) ⟨by rw [hRf]; decide, by rw [hRl]; decide⟩ dX6_readMoves_66 ?_
            unfold kX6_readMoves_69
            refine S_if_ne (pc := 69) (tgt := 75) hC dX6_readMoves_69 (by decide) ?_ ?_
            · refine S_aload_n (pc := 75) hC dX6_readMoves_75 rfl ?_
              refine S_getR (pc := 76) hC cfX6 (by decide) (Or.inl ⟨_, rfl⟩) wd_139 dX6_readMoves_76 ?_
              refine S_aload_n (pc := 79) hC dX6_readMoves_79 rfl ?_
              refine S_aload_n (pc := 80) hC dX6_readMoves_80 rfl ?_
              refine S_getR (pc := 81) hC cfX6 (by decide) (Or.inl ⟨_, rfl⟩) wd_140 dX6_readMoves_81 ?_
              refine S_callV (pc := 84) hC (sX9_choose l G hE) rfl wd_905 wd_906 wd_907 wd_3 wd_908 (by decide +kernel) ⟨by rw [hRf]; decide, by rw [hRl]; decide⟩ dX6_readMoves_84 ?_
              unfold kX6_readMoves_87
              refine S_istore (pc := 87) hC dX6_readMoves_87 (by decide) ?_
              refine S_iload (pc := 89) hC dX6_readMoves_89 ?_
              refine S_if_ge (pc := 91) (tgt := 98) hC dX6_readMoves_91 (by decide) ?_ ?_
              · refine S_aload_n (pc := 98) hC dX6_readMoves_98 rfl ?_
                refine S_getR (pc := 99) hC cfX6 (by decide) (Or.inl ⟨_, rfl⟩) wd_139 dX6_readMoves_99 ?_
                refine S_aload_n (pc := 102) hC dX6_readMoves_102 rfl ?_
                refine S_aload_n (pc := 103) hC dX6_readMoves_103 rfl ?_
                refine S_getR (pc := 104) hC cfX4 (by decide) (Or.inr ⟨_, rfl⟩) wd_320 dX6_readMoves_104 ?_
                refine S_iload (pc := 107) hC dX6_readMoves_107 ?_
                refine S_iaload (pc := 109) hC dX6_readMoves_109 ?_
                refine S_callV (pc := 110) hC (sX9_sign l G hE.1) rfl wd_927 wd_928 wd_929 wd_3 wd_930 (by decide +kernel) ⟨by rw [hRf]; decide, by rw [hRl]; decide⟩ dX6_readMoves_110 ?_
                unfold kX6_readMoves_113
                refine S_aload_n (pc := 113) hC dX6_readMoves_113 rfl ?_
                refine S_getR (pc := 114) hC cfX6 (by decide) (Or.inl ⟨_, rfl⟩) wd_140 dX6_readMoves_114 ?_
                refine S_geti (pc := 117) hC cfX10 (by decide) (Or.inl rfl) wd_124 dX6_readMoves_117 ?_
                refine S_icmp_eq (pc := 120) (tgt := 126) hC dX6_readMoves_120 (by decide) ?_ ?_
                · refine S_aload_n (pc := 126) hC dX6_readMoves_126 rfl ?_
                  refine S_aload_n (pc := 127) hC dX6_readMoves_127 rfl ?_
                  refine S_getR (pc := 128) hC cfX4 (by decide) (Or.inr ⟨_, rfl⟩) wd_320 dX6_readMoves_128 ?_
                  refine S_iload (pc := 131) hC dX6_readMoves_131 ?_
                  refine S_iaload (pc := 133) hC dX6_readMoves_133 ?_
                  refine S_callV (pc := 134) hC (sX4_add l G hE.1) rfl wd_935 wd_808 wd_809 wd_9 wd_810 (by decide +kernel) ⟨by rw [hRf]; decide, by rw [hRl]; decide⟩ dX6_readMoves_134 ?_
                  unfold kX6_readMoves_137
                  refine S_iinc (pc := 137) hC dX6_readMoves_137 (by decide) (by decide) ?_
                  refine S_goto (pc := 140) (tgt := 2) hC dX6_readMoves_140 (by decide) ?_
                  exact hJ 2
                · refine S_bipush (pc := 123) hC dX6_readMoves_123 (by decide) ?_
                  exact S_ireturn (pc := 125) hC hr dX6_readMoves_125
              · refine S_iload (pc := 94) hC dX6_readMoves_94 ?_
                refine S_ineg (pc := 96) hC dX6_readMoves_96 ?_
                exact S_ireturn (pc := 97) hC hr dX6_readMoves_97
            · refine S_bipush (pc := 72) hC dX6_readMoves_72 (by decide) ?_
              exact S_ireturn (pc := 74) hC hr dX6_readMoves_74
          · exact hJ 34
  have hB34 : zin 5 [] (aX6_readMoves_34 mc ms X Q) X 34 := by
    intro u v vs st M hb
    rw [hXe]
    refine fun lv hp => S_block (L := 34) (live := []) ?_ u v lv vs st M hp hb
    unfold aX6_readMoves_34
    refine S_bipush (pc := 34) hC dX6_readMoves_34 (by decide) ?_
    exact S_ireturn (pc := 36) hC hr dX6_readMoves_36
  have hB143 : zin 5 [] (aX6_readMoves_143 mc ms X Q) X 143 := by
    intro u v vs st M hb
    rw [hXe]
    refine fun lv hp => S_block (L := 143) (live := []) ?_ u v lv vs st M hp hb
    unfold aX6_readMoves_143
    refine S_iconst (pc := 143) hC dX6_readMoves_143 (by decide) ?_
    exact S_ireturn (pc := 144) hC hr dX6_readMoves_144
  have := h.2 X hB0 hB2 hB34 hB143
  rw [hXe] at this
  exact this lv hlv
theorem vX6_readMoves_0 {mc ms : Nat} {X : Nat → zV} {Q : zQt} {M : zM} {g : Nat}  (hW : zWd M g)  (h : X 2 0 0 [.ref 27, .ref g, .int 0] [] M) : aX6_readMoves_0 mc ms X Q 0 0 [some (.ref 27), some (.ref g), none, none, none] [] M := h
theorem vX6_readMoves_2 {mc ms : Nat} {X : Nat → zV} {Q : zQt} {M : zM} {g : Nat} {x2 : Int32} (hW : zWd M g)  (h : ((600 : Int32) < x2 → X 143 0 0 [] [] M) ∧ (¬ (600 : Int32) < x2 → ((M.1 27 4) ≤ (M.1 27 3) → X 143 0 0 [] [] M) ∧ (¬ (M.1 27 4) ≤ (M.1 27 3) → wX4_isOver 0 0 [.ref g] M (fun r M1 => kX6_readMoves_24 mc ms X Q 0 0 [some (.ref 27), some (.ref g), some (.int x2), none, none] (r.toList ++ []) M1)))) : aX6_readMoves_2 mc ms X Q 0 0 [some (.ref 27), some (.ref g), some (.int x2), none, none] [] M := ⟨fun c6 => (h.1 c6), fun c6 => ⟨(fxs_27 hW.1), ⟨(fxs_27 hW.1), ⟨fun c17 => ((h.2 c6).1 c17), fun c17 => ⟨Nat.le_of_ble_eq_true rfl, rfl, (fgs_0 hW), 0, 0, Nat.zero_le _, Nat.zero_le _, ((h.2 c6).2 c17)⟩⟩⟩⟩⟩
theorem vX6_readMoves_34 {mc ms : Nat} {X : Nat → zV} {Q : zQt} {M : zM} {g : Nat}  (hW : zWd M g)  (h : Q (some (.int 20)) M) : aX6_readMoves_34 mc ms X Q 0 0 [none, none, none, none, none] [] M := h
theorem vX6_readMoves_143 {mc ms : Nat} {X : Nat → zV} {Q : zQt} {M : zM} {g : Nat}  (hW : zWd M g)  (h : Q (some (.int 0)) M) : aX6_readMoves_143 mc ms X Q 0 0 [none, none, none, none, none] [] M := h
theorem vkX6_readMoves_24 {mc ms : Nat} {X : Nat → zV} {Q : zQt} {M : zM} {g : Nat} {x2 : Int32} {s0 : Int32} (hW : zWd M g)  (h : (s0 = 0 → wX4_isFull 0 0 [.ref g] M (fun r M1 => kX6_readMoves_31 mc ms X Q 0 0 [some (.ref 27), some (.ref g), some (.int x2), none, none] (r.toList ++ []) M1)) ∧ (¬ s0 = 0 → X 34 0 0 [] [] M)) : kX6_readMoves_24 mc ms X Q 0 0 [some (.ref 27), some (.ref g), some (.int x2), none, none] [.int s0] M := ⟨fun c24 => ⟨Nat.le_of_ble_eq_true rfl, rfl, (fgs_0 hW), 0, 0, Nat.zero_le _, Nat.zero_le _, (h.1 c24)⟩, fun c24 => (h.2 c24)⟩
theorem vkX6_readMoves_31 {mc ms : Nat} {X : Nat → zV} {Q : zQt} {M : zM} {g : Nat} {x2 : Int32} {s0 : Int32} (hW : zWd M g)  (h : (s0 = 0 → wX6_wordEnd 0 0 [.ref 27, .int ((M.1 27 3) + (1 : Int32))] M (fun r M1 => kX6_readMoves_50 mc ms X Q 0 0 [some (.ref 27), some (.ref g), some (.int x2), some (.int ((M.1 27 3) + (1 : Int32))), none] (r.toList ++ [.ref 27]) M1)) ∧ (¬ s0 = 0 → X 34 0 0 [] [] M)) : kX6_readMoves_31 mc ms X Q 0 0 [some (.ref 27), some (.ref g), some (.int x2), none, none] [.int s0] M := ⟨fun c31 => ⟨(fxs_27 hW.1), ⟨Nat.le_of_ble_eq_true rfl, rfl, (fxs_27 hW.1), 0, 0, Nat.zero_le _, Nat.zero_le _, (h.1 c31)⟩⟩, fun c31 => (h.2 c31)⟩
theorem vkX6_readMoves_50 {mc ms : Nat} {X : Nat → zV} {Q : zQt} {M : zM} {g : Nat} {x2 : Int32} {x3 : Int32} {s0 : Int32} (hW : zWd M g)  (h : ∀ M50 : zM, M50 = (zsI M 27 3 s0) → wX10_read 0 0 [.ref 28, .ref 24, .int x3, .int (M50.1 27 3)] M50 (fun r M1 => kX6_readMoves_69 mc ms X Q 0 0 [some (.ref 27), some (.ref g), some (.int x2), some (.int x3), none] (r.toList ++ []) M1)) : kX6_readMoves_50 mc ms X Q 0 0 [some (.ref 27), some (.ref g), some (.int x2), some (.int x3), none] [.int s0, .ref 27] M := ⟨(fxs_27 hW.1), (have h50 := h _ rfl; ⟨(fxs_27 hW.1), 28, (fxr_27_2 hW.1), ⟨(fxs_27 hW.1), 24, (fxr_27_0 hW.1), ⟨(fxs_27 hW.1), ⟨Nat.le_of_ble_eq_true rfl, rfl, (fxs_28 hW.1), 0, 0, Nat.zero_le _, Nat.zero_le _, h50⟩⟩⟩⟩)⟩
theorem vkX6_readMoves_69 {mc ms : Nat} {X : Nat → zV} {Q : zQt} {M : zM} {g : Nat} {x2 : Int32} {x3 : Int32} {s0 : Int32} (hW : zWd M g)  (h : (s0 = 0 → Q (some (.int 21)) M) ∧ (¬ s0 = 0 → wX9_choose 0 0 [.ref 25, .ref g, .ref 28] M (fun r M1 => kX6_readMoves_87 mc ms X Q 0 0 [some (.ref 27), some (.ref g), some (.int x2), some (.int x3), none] (r.toList ++ []) M1))) : kX6_readMoves_69 mc ms X Q 0 0 [some (.ref 27), some (.ref g), some (.int x2), some (.int x3), none] [.int s0] M := ⟨fun c69 => (h.1 c69), fun c69 => ⟨(fxs_27 hW.1), 25, (fxr_27_1 hW.1), ⟨(fxs_27 hW.1), 28, (fxr_27_2 hW.1), ⟨Nat.le_of_ble_eq_true rfl, rfl, (fxs_25 hW.1), 0, 0, Nat.zero_le _, Nat.zero_le _, (h.2 c69)⟩⟩⟩⟩
theorem vkX6_readMoves_87 {mc ms : Nat} {X : Nat → zV} {Q : zQt} {M : zM} {g : Nat} {x2 : Int32} {x3 : Int32} {s0 : Int32} (hW : zWd M g)  (h : (0 ≤ s0 → vp_in s0 384 ∧ wX9_sign 0 0 [.ref 25, .ref g, .int ((M : zM).1 ((g + 7)) (s0 : Int32).toNatClampNeg)] M (fun r M1 => kX6_readMoves_113 mc ms X Q 0 0 [some (.ref 27), some (.ref g), some (.int x2), some (.int x3), some (.int s0)] (r.toList ++ []) M1)) ∧ (¬ 0 ≤ s0 → Q (some (.int ((-s0)))) M)) : kX6_readMoves_87 mc ms X Q 0 0 [some (.ref 27), some (.ref g), some (.int x2), some (.int x3), none] [.int s0] M := ⟨fun c91 => ⟨(fxs_27 hW.1), 25, (fxr_27_1 hW.1), ⟨(fgs_0 hW), (g + 7), (fgr_0_2 hW), ⟨384, (fgs_7 hW), (h.1 c91).1, ⟨Nat.le_of_ble_eq_true rfl, rfl, (fxs_25 hW.1), 0, 0, Nat.zero_le _, Nat.zero_le _, (h.1 c91).2⟩⟩⟩⟩, fun c91 => (h.2 c91)⟩
theorem vkX6_readMoves_113 {mc ms : Nat} {X : Nat → zV} {Q : zQt} {M : zM} {g : Nat} {x2 : Int32} {x3 : Int32} {x4 : Int32} {s0 : Int32} (hW : zWd M g)  (h : (s0 = (M.1 28 5) → vp_in x4 384 ∧ wX4_add 0 0 [.ref g, .int ((M : zM).1 ((g + 7)) (x4 : Int32).toNatClampNeg)] M (fun r M1 => kX6_readMoves_137 mc ms X Q 0 0 [some (.ref 27), some (.ref g), some (.int x2), some (.int x3), some (.int x4)] (r.toList ++ []) M1)) ∧ (¬ s0 = (M.1 28 5) → Q (some (.int 24)) M)) : kX6_readMoves_113 mc ms X Q 0 0 [some (.ref 27), some (.ref g), some (.int x2), some (.int x3), some (.int x4)] [.int s0] M := ⟨(fxs_27 hW.1), 28, (fxr_27_2 hW.1), ⟨(fxs_28 hW.1), ⟨fun c120 => ⟨(fgs_0 hW), (g + 7), (fgr_0_2 hW), ⟨384, (fgs_7 hW), (h.1 c120).1, ⟨Nat.le_of_ble_eq_true rfl, rfl, (fgs_0 hW), 0, 0, Nat.zero_le _, Nat.zero_le _, (h.1 c120).2⟩⟩⟩, fun c120 => (h.2 c120)⟩⟩⟩
theorem vkX6_readMoves_137 {mc ms : Nat} {X : Nat → zV} {Q : zQt} {M : zM} {g : Nat} {x2 : Int32} {x3 : Int32} {x4 : Int32} (hW : zWd M g)  (h : X 2 0 0 [.ref 27, .ref g, .int (x2 + 1)] [] M) : kX6_readMoves_137 mc ms X Q 0 0 [some (.ref 27), some (.ref g), some (.int x2), some (.int x3), some (.int x4)] [] M := h
theorem dX7_eight_0 : decode cX7_eight 0 = .ok (.iload_n 2, 1) := by decide +kernel
theorem dX7_eight_1 : decode cX7_eight 1 = .ok (.ifCond .lt 9, 3) := by decide +kernel
theorem dX7_eight_4 : decode cX7_eight 4 = .ok (.iload_n 2, 1) := by decide +kernel
theorem dX7_eight_5 : decode cX7_eight 5 = .ok (.bipush 13, 2) := by decide +kernel
theorem dX7_eight_7 : decode cX7_eight 7 = .ok (.if_icmp .lt 5, 3) := by decide +kernel
theorem dX7_eight_10 : decode cX7_eight 10 = .ok (.lconst 0, 1) := by decide +kernel
theorem dX7_eight_11 : decode cX7_eight 11 = .ok (.lreturn, 1) := by decide +kernel
theorem dX7_eight_12 : decode cX7_eight 12 = .ok (.aload_n 0, 1) := by decide +kernel
theorem dX7_eight_13 : decode cX7_eight 13 = .ok (.aload_n 1, 1) := by decide +kernel
theorem dX7_eight_14 : decode cX7_eight 14 = .ok (.invokevirtual 15, 3) := by decide +kernel
theorem dX7_eight_17 : decode cX7_eight 17 = .ok (.lconst 0, 1) := by decide +kernel
theorem dX7_eight_18 : decode cX7_eight 18 = .ok (.lstore_n 3, 1) := by decide +kernel
theorem dX7_eight_19 : decode cX7_eight 19 = .ok (.bipush 8, 2) := by decide +kernel
theorem dX7_eight_21 : decode cX7_eight 21 = .ok (.iload_n 2, 1) := by decide +kernel
theorem dX7_eight_22 : decode cX7_eight 22 = .ok (.imul, 1) := by decide +kernel
theorem dX7_eight_23 : decode cX7_eight 23 = .ok (.istore 5, 2) := by decide +kernel
theorem dX7_eight_25 : decode cX7_eight 25 = .ok (.iload 5, 2) := by decide +kernel
theorem dX7_eight_27 : decode cX7_eight 27 = .ok (.bipush 8, 2) := by decide +kernel
theorem dX7_eight_29 : decode cX7_eight 29 = .ok (.iload_n 2, 1) := by decide +kernel
theorem dX7_eight_30 : decode cX7_eight 30 = .ok (.imul, 1) := by decide +kernel
theorem dX7_eight_31 : decode cX7_eight 31 = .ok (.bipush 8, 2) := by decide +kernel
theorem dX7_eight_33 : decode cX7_eight 33 = .ok (.iadd, 1) := by decide +kernel
theorem dX7_eight_34 : decode cX7_eight 34 = .ok (.if_icmp .ge 36, 3) := by decide +kernel
theorem dX7_eight_37 : decode cX7_eight 37 = .ok (.lload_n 3, 1) := by decide +kernel
theorem dX7_eight_38 : decode cX7_eight 38 = .ok (.bipush 8, 2) := by decide +kernel
theorem dX7_eight_40 : decode cX7_eight 40 = .ok (.lshl, 1) := by decide +kernel
theorem dX7_eight_41 : decode cX7_eight 41 = .ok (.iload 5, 2) := by decide +kernel
theorem dX7_eight_43 : decode cX7_eight 43 = .ok (.aload_n 0, 1) := by decide +kernel
theorem dX7_eight_44 : decode cX7_eight 44 = .ok (.getfield 19, 3) := by decide +kernel
theorem dX7_eight_47 : decode cX7_eight 47 = .ok (.if_icmp .ge 13, 3) := by decide +kernel
theorem dX7_eight_50 : decode cX7_eight 50 = .ok (.aload_n 0, 1) := by decide +kernel
theorem dX7_eight_51 : decode cX7_eight 51 = .ok (.getfield 11, 3) := by decide +kernel
theorem dX7_eight_54 : decode cX7_eight 54 = .ok (.iload 5, 2) := by decide +kernel
theorem dX7_eight_56 : decode cX7_eight 56 = .ok (.caload, 1) := by decide +kernel
theorem dX7_eight_57 : decode cX7_eight 57 = .ok (.goto 4, 3) := by decide +kernel
theorem dX7_eight_60 : decode cX7_eight 60 = .ok (.iconst 0, 1) := by decide +kernel
theorem dX7_eight_61 : decode cX7_eight 61 = .ok (.i2l, 1) := by decide +kernel
theorem dX7_eight_62 : decode cX7_eight 62 = .ok (.lor, 1) := by decide +kernel
theorem dX7_eight_63 : decode cX7_eight 63 = .ok (.lstore_n 3, 1) := by decide +kernel
theorem dX7_eight_64 : decode cX7_eight 64 = .ok (.iinc 5 1, 3) := by decide +kernel
theorem dX7_eight_67 : decode cX7_eight 67 = .ok (.goto (-42), 3) := by decide +kernel
theorem dX7_eight_70 : decode cX7_eight 70 = .ok (.lload_n 3, 1) := by decide +kernel
theorem dX7_eight_71 : decode cX7_eight 71 = .ok (.lreturn, 1) := by decide +kernel
def kX7_eight_17 (mc ms : Nat) (X : Nat → zV) (Q : zQt) : zT :=
  zc (.long 0) <| zsl 3 <| zc (.int 8) <| zli 2 <| zii (fun x y => x * y) <| zsi 5 <| zj X 25 [0, 2, 3, 5]
def aX7_eight_0 (mc ms : Nat) (X : Nat → zV) (Q : zQt) : zT :=
  zli 2 <| zif (fun x => x < 0) (zj X 10 []) <| zli 2 <| zc (.int 13) <| zic (fun x y => x < y) (zla 0 <| zla 1 <| zcv mc ms 7 1 wX7_write <| kX7_eight_17 mc ms X Q) <| zj X 10 []
def aX7_eight_10 (mc ms : Nat) (X : Nat → zV) (Q : zQt) : zT :=
  zc (.long 0) <| zrl Q
def aX7_eight_25 (mc ms : Nat) (X : Nat → zV) (Q : zQt) : zT :=
  zli 5 <| zc (.int 8) <| zli 2 <| zii (fun x y => x * y) <| zc (.int 8) <| zii (fun x y => x + y) <| zic (fun x y => y ≤ x) (zll 3 <| zrl Q) <| zll 3 <| zc (.int 8) <| zji (fun x y => x <<< (y.toInt64 &&& 63)) <| zli 5 <| zla 0 <| zgi 7 1 <| zic (fun x y => y ≤ x) (zc (.int 0) <| zj X 61 [0, 2, 5]) <| zla 0 <| zgR 7 0 <| zli 5 <| zal 4 <| zj X 61 [0, 2, 5]
def aX7_eight_61 (mc ms : Nat) (X : Nat → zV) (Q : zQt) : zT :=
  zi2l <| zjj (fun x y => x ||| y) <| zsl 3 <| zinc 5 1 <| zj X 25 [0, 2, 3, 5]
def lvX7_eight : Nat → List Nat := fun L => match L with
  | 0 => [0, 1, 2]
  | 10 => []
  | 25 => [0, 2, 3, 5]
  | 61 => [0, 2, 5]
  | _ => []
def wX7_eight : zSp := fun mc ms av M Q => ((zlay av).length ≤ 6 ∧ zpick (zlay av) [0, 1, 2] = some av) ∧ ∀ X : Nat → zV, zin 6 [0, 1, 2] (aX7_eight_0 mc ms X Q) X 0 → zin 6 [] (aX7_eight_10 mc ms X Q) X 10 → zin 6 [0, 2, 3, 5] (aX7_eight_25 mc ms X Q) X 25 → zin 6 [0, 2, 5] (aX7_eight_61 mc ms X Q) X 61 → X 0 0 0 av [] M
set_option maxRecDepth 100000 in
set_option maxHeartbeats 4000000 in
theorem sX7_eight (l : Launch) (G : zG) (hE : zXt G) : zSnd l G yX7_eight cX7_eight 6 (some .long) 6 132 wX7_eight := by
  refine zmk [0, 1, 2] (by decide) (fun mc ms av M Q h => h.1) ?_
  intro p e R s m args below meth c mc ms av M Q hC hRf hRl hr hnm h lv hlv
  obtain ⟨X, hXe⟩ : ∃ X : Nat → zV, X = fun L u v vs st M => ∀ lv, zpick lv (lvX7_eight L) = some vs → zAt p l e R s m args below meth c (MQ below (zQ G Q) args s mc ms (zA G)) G 6 L u v lv st M := ⟨_, rfl⟩
  have hJ : ∀ L, zOk p l e R s m args below meth c (MQ below (zQ G Q) args s mc ms (zA G)) G 6 L (zj X L (lvX7_eight L)) := fun L => S_jump (fun u v lv vs st M hp hx => by rw [hXe] at hx; exact hx lv hp)
  have hB0 : zin 6 [0, 1, 2] (aX7_eight_0 mc ms X Q) X 0 := by
    intro u v vs st M hb
    rw [hXe]
    refine fun lv hp => S_block (L := 0) (live := [0, 1, 2]) ?_ u v lv vs st M hp hb
    unfold aX7_eight_0
    refine S_iload_n (pc := 0) hC dX7_eight_0 rfl ?_
    refine S_if_lt (pc := 1) (tgt := 10) hC dX7_eight_1 (by decide) ?_ ?_
    · exact hJ 10
    · refine S_iload_n (pc := 4) hC dX7_eight_4 rfl ?_
      refine S_bipush (pc := 5) hC dX7_eight_5 (by decide) ?_
      refine S_icmp_lt (pc := 7) (tgt := 12) hC dX7_eight_7 (by decide) ?_ ?_
      · refine S_aload_n (pc := 12) hC dX7_eight_12 rfl ?_
        refine S_aload_n (pc := 13) hC dX7_eight_13 rfl ?_
        refine S_callV (pc := 14) hC (sX7_write l G hE) rfl wd_499 wd_501 ws_7 wd_6 wd_502 (by decide +kernel) ⟨by rw [hRf]; decide, by rw [hRl]; decide⟩ dX7_eight_14 ?_
        unfold kX7_eight_17
        refine S_lconst (pc := 17) hC dX7_eight_17 (by decide) ?_
        refine S_lstore_n (pc := 18) hC dX7_eight_18 rfl (by decide) ?_
        refine S_bipush (pc := 19) hC dX7_eight_19 (by decide) ?_
        refine S_iload_n (pc := 21) hC dX7_eight_21 rfl ?_
        refine S_imul (pc := 22) hC dX7_eight_22 ?_
        refine S_istore (pc := 23) hC dX7_eight_23 (by decide) ?_
        exact hJ 25
      · exact hJ 10
  have hB10 : zin 6 [] (aX7_eight_10 mc ms X Q) X 10 := by
    intro u v vs st M hb
    rw [hXe]
    refine fun lv hp => S_block (L := 10) (live := []) ?_ u v lv vs st M hp hb
    unfold aX7_eight_10
    refine S_lconst (pc := 10) hC dX7_eight_10 (by decide) ?_
    exact S_lreturn (pc := 11) hC hr dX7_eight_11
  have hB25 : zin 6 [0, 2, 3, 5] (aX7_eight_25 mc ms X Q) X 25 := by
    intro u v vs st M hb
    rw [hXe]
    refine fun lv hp => S_block (L := 25) (live := [0, 2, 3, 5]) ?_ u v lv vs st M hp hb
    unfold aX7_eight_25
    refine S_iload (pc := 25) hC dX7_eight_25 ?_
    refine S_bipush (pc := 27) hC dX7_eight_27 (by decide) ?_
    refine S_iload_n (pc := 29) hC dX7_eight_29 rfl ?_
    refine S_imul (pc := 30) hC dX7_eight_30 ?_
    refine S_bipush (pc := 31) hC dX7_eight_31 (by decide) ?_
    refine S_iadd (pc := 33) hC dX7_eight_33 ?_
    refine S_icmp_ge (pc := 34) (tgt := 70) hC dX7_eight_34 (by decide) ?_ ?_
    · refine S_lload_n (pc := 70) hC dX7_eight_70 rfl ?_
      exact S_lreturn (pc := 71) hC hr dX7_eight_71
    · refine S_lload_n (pc := 37) hC dX7_eight_37 rfl ?_
      refine S_bipush (pc := 38) hC dX7_eight_38 (by decide) ?_
      refine S_lshl (pc := 40) hC dX7_eight_40 ?_
      refine S_iload (pc := 41) hC dX7_eight_41 ?_
      refine S_aload_n (pc := 43) hC dX7_eight_43 rfl ?_
      refine S_geti (pc := 44) hC cfX7 (by decide) (Or.inl rfl) wd_161 dX7_eight_44 ?_
      refine S_icmp_ge (pc := 47) (tgt := 60) hC dX7_eight_47 (by decide) ?_ ?_
      · refine S_iconst (pc := 60) hC dX7_eight_60 (by decide) ?_
        exact hJ 61
      · refine S_aload_n (pc := 50) hC dX7_eight_50 rfl ?_
        refine S_getR (pc := 51) hC cfX7 (by decide) (Or.inr ⟨_, rfl⟩) wd_160 dX7_eight_51 ?_
        refine S_iload (pc := 54) hC dX7_eight_54 ?_
        refine S_caload (pc := 56) hC dX7_eight_56 ?_
        refine S_goto (pc := 57) (tgt := 61) hC dX7_eight_57 (by decide) ?_
        exact hJ 61
  have hB61 : zin 6 [0, 2, 5] (aX7_eight_61 mc ms X Q) X 61 := by
    intro u v vs st M hb
    rw [hXe]
    refine fun lv hp => S_block (L := 61) (live := [0, 2, 5]) ?_ u v lv vs st M hp hb
    unfold aX7_eight_61
    refine S_i2l (pc := 61) hC dX7_eight_61 ?_
    refine S_lor (pc := 62) hC dX7_eight_62 ?_
    refine S_lstore_n (pc := 63) hC dX7_eight_63 rfl (by decide) ?_
    refine S_iinc (pc := 64) hC dX7_eight_64 (by decide) (by decide) ?_
    refine S_goto (pc := 67) (tgt := 25) hC dX7_eight_67 (by decide) ?_
    exact hJ 25
  have := h.2 X hB0 hB10 hB25 hB61
  rw [hXe] at this
  exact this lv hlv
theorem vX7_eight_0 {mc ms : Nat} {X : Nat → zV} {Q : zQt} {M : zM} {g : Nat} {x2 : Int32} (hW : zWd M g)  (h : (x2 < 0 → X 10 0 0 [] [] M) ∧ (¬ x2 < 0 → (x2 < (13 : Int32) → wX7_write 0 0 [.ref 29, .ref (g + 1)] M (fun r M1 => kX7_eight_17 mc ms X Q 0 0 [some (.ref 29), some (.ref (g + 1)), some (.int x2), none, none, none] (r.toList ++ []) M1)) ∧ (¬ x2 < (13 : Int32) → X 10 0 0 [] [] M))) : aX7_eight_0 mc ms X Q 0 0 [some (.ref 29), some (.ref (g + 1)), some (.int x2), none, none, none] [] M := ⟨fun c1 => (h.1 c1), fun c1 => ⟨fun c7 => ⟨Nat.le_of_ble_eq_true rfl, rfl, (fxs_29 hW.1), 0, 0, Nat.zero_le _, Nat.zero_le _, ((h.2 c1).1 c7)⟩, fun c7 => ((h.2 c1).2 c7)⟩⟩
theorem vX7_eight_10 {mc ms : Nat} {X : Nat → zV} {Q : zQt} {M : zM} {g : Nat}  (hW : zWd M g)  (h : Q (some (.long 0)) M) : aX7_eight_10 mc ms X Q 0 0 [none, none, none, none, none, none] [] M := h
theorem vX7_eight_25 {mc ms : Nat} {X : Nat → zV} {Q : zQt} {M : zM} {g : Nat} {x2 : Int32} {x3 : Int64} {x5 : Int32} (hW : zWd M g)  (h : ((((8 : Int32) * x2) + (8 : Int32)) ≤ x5 → Q (some (.long x3)) M) ∧ (¬ (((8 : Int32) * x2) + (8 : Int32)) ≤ x5 → ((M.1 29 1) ≤ x5 → X 61 0 0 [.ref 29, .int x2, .int x5] [.int 0, .long (x3 <<< ((8 : Int32).toInt64 &&& 63))] M) ∧ (¬ (M.1 29 1) ≤ x5 → vp_in x5 104 ∧ X 61 0 0 [.ref 29, .int x2, .int x5] [.int ((M : zM).1 30 (x5 : Int32).toNatClampNeg), .long (x3 <<< ((8 : Int32).toInt64 &&& 63))] M))) : aX7_eight_25 mc ms X Q 0 0 [some (.ref 29), none, some (.int x2), some (.long x3), none, some (.int x5)] [] M := ⟨fun c34 => (h.1 c34), fun c34 => ⟨(fxs_29 hW.1), ⟨fun c47 => ((h.2 c34).1 c47), fun c47 => ⟨(fxs_29 hW.1), 30, (fxr_29_0 hW.1), ⟨104, (fxs_30 hW.1), ((h.2 c34).2 c47).1, ((h.2 c34).2 c47).2⟩⟩⟩⟩⟩
theorem vX7_eight_61 {mc ms : Nat} {X : Nat → zV} {Q : zQt} {M : zM} {g : Nat} {x2 : Int32} {x5 : Int32} {s0 : Int32} {s1 : Int64} (hW : zWd M g)  (h : X 25 0 0 [.ref 29, .int x2, .long (s1 ||| (s0 : Int32).toInt64), .int (x5 + 1)] [] M) : aX7_eight_61 mc ms X Q 0 0 [some (.ref 29), none, some (.int x2), none, none, some (.int x5)] [.int s0, .long s1] M := h
theorem vkX7_eight_17 {mc ms : Nat} {X : Nat → zV} {Q : zQt} {M : zM} {g : Nat} {x2 : Int32} (hW : zWd M g)  (h : X 25 0 0 [.ref 29, .int x2, .long 0, .int ((8 : Int32) * x2)] [] M) : kX7_eight_17 mc ms X Q 0 0 [some (.ref 29), some (.ref (g + 1)), some (.int x2), none, none, none] [] M := h
theorem dX11_submit_0 : decode cX11_submit 0 = .ok (.iload_n 1, 1) := by decide +kernel
theorem dX11_submit_1 : decode cX11_submit 1 = .ok (.iconst 1, 1) := by decide +kernel
theorem dX11_submit_2 : decode cX11_submit 2 = .ok (.if_icmp .lt 9, 3) := by decide +kernel
theorem dX11_submit_5 : decode cX11_submit 5 = .ok (.iload_n 1, 1) := by decide +kernel
theorem dX11_submit_6 : decode cX11_submit 6 = .ok (.bipush 20, 2) := by decide +kernel
theorem dX11_submit_8 : decode cX11_submit 8 = .ok (.if_icmp .le 11, 3) := by decide +kernel
theorem dX11_submit_11 : decode cX11_submit 11 = .ok (.new 86, 3) := by decide +kernel
theorem dX11_submit_14 : decode cX11_submit 14 = .ok (.dup, 1) := by decide +kernel
theorem dX11_submit_15 : decode cX11_submit 15 = .ok (.invokespecial 88, 3) := by decide +kernel
theorem dX11_submit_18 : decode cX11_submit 18 = .ok (.athrow, 1) := by decide +kernel
theorem dX11_submit_19 : decode cX11_submit 19 = .ok (.aload_n 0, 1) := by decide +kernel
theorem dX11_submit_20 : decode cX11_submit 20 = .ok (.getfield 69, 3) := by decide +kernel
theorem dX11_submit_23 : decode cX11_submit 23 = .ok (.ifCond .ne 7, 3) := by decide +kernel
theorem dX11_submit_26 : decode cX11_submit 26 = .ok (.iconst 0, 1) := by decide +kernel
theorem dX11_submit_27 : decode cX11_submit 27 = .ok (.goto 12, 3) := by decide +kernel
theorem dX11_submit_30 : decode cX11_submit 30 = .ok (.aload_n 0, 1) := by decide +kernel
theorem dX11_submit_31 : decode cX11_submit 31 = .ok (.getfield 69, 3) := by decide +kernel
theorem dX11_submit_34 : decode cX11_submit 34 = .ok (.bipush 20, 2) := by decide +kernel
theorem dX11_submit_36 : decode cX11_submit 36 = .ok (.isub, 1) := by decide +kernel
theorem dX11_submit_37 : decode cX11_submit 37 = .ok (.iload_n 1, 1) := by decide +kernel
theorem dX11_submit_38 : decode cX11_submit 38 = .ok (.iadd, 1) := by decide +kernel
theorem dX11_submit_39 : decode cX11_submit 39 = .ok (.istore_n 2, 1) := by decide +kernel
theorem dX11_submit_40 : decode cX11_submit 40 = .ok (.aload_n 0, 1) := by decide +kernel
theorem dX11_submit_41 : decode cX11_submit 41 = .ok (.iconst 0, 1) := by decide +kernel
theorem dX11_submit_42 : decode cX11_submit 42 = .ok (.putfield 69, 3) := by decide +kernel
theorem dX11_submit_45 : decode cX11_submit 45 = .ok (.aload_n 0, 1) := by decide +kernel
theorem dX11_submit_46 : decode cX11_submit 46 = .ok (.aload_n 0, 1) := by decide +kernel
theorem dX11_submit_47 : decode cX11_submit 47 = .ok (.getfield 28, 3) := by decide +kernel
theorem dX11_submit_50 : decode cX11_submit 50 = .ok (.aload_n 0, 1) := by decide +kernel
theorem dX11_submit_51 : decode cX11_submit 51 = .ok (.getfield 62, 3) := by decide +kernel
theorem dX11_submit_54 : decode cX11_submit 54 = .ok (.getfield 89, 3) := by decide +kernel
theorem dX11_submit_57 : decode cX11_submit 57 = .ok (.iload_n 2, 1) := by decide +kernel
theorem dX11_submit_58 : decode cX11_submit 58 = .ok (.invokevirtual 93, 3) := by decide +kernel
theorem dX11_submit_61 : decode cX11_submit 61 = .ok (.putfield 73, 3) := by decide +kernel
theorem dX11_submit_64 : decode cX11_submit 64 = .ok (.aload_n 0, 1) := by decide +kernel
theorem dX11_submit_65 : decode cX11_submit 65 = .ok (.iconst (-1), 1) := by decide +kernel
theorem dX11_submit_66 : decode cX11_submit 66 = .ok (.putfield 76, 3) := by decide +kernel
theorem dX11_submit_69 : decode cX11_submit 69 = .ok (.aload_n 0, 1) := by decide +kernel
theorem dX11_submit_70 : decode cX11_submit 70 = .ok (.getfield 73, 3) := by decide +kernel
theorem dX11_submit_73 : decode cX11_submit 73 = .ok (.ifCond .ne 49, 3) := by decide +kernel
theorem dX11_submit_76 : decode cX11_submit 76 = .ok (.aload_n 0, 1) := by decide +kernel
theorem dX11_submit_77 : decode cX11_submit 77 = .ok (.getfield 62, 3) := by decide +kernel
theorem dX11_submit_80 : decode cX11_submit 80 = .ok (.invokevirtual 97, 3) := by decide +kernel
theorem dX11_submit_83 : decode cX11_submit 83 = .ok (.aload_n 0, 1) := by decide +kernel
theorem dX11_submit_84 : decode cX11_submit 84 = .ok (.aload_n 0, 1) := by decide +kernel
theorem dX11_submit_85 : decode cX11_submit 85 = .ok (.getfield 28, 3) := by decide +kernel
theorem dX11_submit_88 : decode cX11_submit 88 = .ok (.aload_n 0, 1) := by decide +kernel
theorem dX11_submit_89 : decode cX11_submit 89 = .ok (.getfield 62, 3) := by decide +kernel
theorem dX11_submit_92 : decode cX11_submit 92 = .ok (.invokevirtual 100, 3) := by decide +kernel
theorem dX11_submit_95 : decode cX11_submit 95 = .ok (.putfield 73, 3) := by decide +kernel
theorem dX11_submit_98 : decode cX11_submit 98 = .ok (.aload_n 0, 1) := by decide +kernel
theorem dX11_submit_99 : decode cX11_submit 99 = .ok (.aload_n 0, 1) := by decide +kernel
theorem dX11_submit_100 : decode cX11_submit 100 = .ok (.getfield 73, 3) := by decide +kernel
theorem dX11_submit_103 : decode cX11_submit 103 = .ok (.ifCond .ne 7, 3) := by decide +kernel
theorem dX11_submit_106 : decode cX11_submit 106 = .ok (.iconst (-1), 1) := by decide +kernel
theorem dX11_submit_107 : decode cX11_submit 107 = .ok (.goto 12, 3) := by decide +kernel
theorem dX11_submit_110 : decode cX11_submit 110 = .ok (.aload_n 0, 1) := by decide +kernel
theorem dX11_submit_111 : decode cX11_submit 111 = .ok (.getfield 62, 3) := by decide +kernel
theorem dX11_submit_114 : decode cX11_submit 114 = .ok (.getfield 104, 3) := by decide +kernel
theorem dX11_submit_117 : decode cX11_submit 117 = .ok (.iconst 1, 1) := by decide +kernel
theorem dX11_submit_118 : decode cX11_submit 118 = .ok (.isub, 1) := by decide +kernel
theorem dX11_submit_119 : decode cX11_submit 119 = .ok (.putfield 76, 3) := by decide +kernel
theorem dX11_submit_122 : decode cX11_submit 122 = .ok (.aload_n 0, 1) := by decide +kernel
theorem dX11_submit_123 : decode cX11_submit 123 = .ok (.getfield 73, 3) := by decide +kernel
theorem dX11_submit_126 : decode cX11_submit 126 = .ok (.ifCond .eq 5, 3) := by decide +kernel
theorem dX11_submit_129 : decode cX11_submit 129 = .ok (.iconst (-1), 1) := by decide +kernel
theorem dX11_submit_130 : decode cX11_submit 130 = .ok (.ireturn, 1) := by decide +kernel
theorem dX11_submit_131 : decode cX11_submit 131 = .ok (.aload_n 0, 1) := by decide +kernel
theorem dX11_submit_132 : decode cX11_submit 132 = .ok (.getfield 62, 3) := by decide +kernel
theorem dX11_submit_135 : decode cX11_submit 135 = .ok (.astore_n 3, 1) := by decide +kernel
theorem dX11_submit_136 : decode cX11_submit 136 = .ok (.aload_n 0, 1) := by decide +kernel
theorem dX11_submit_137 : decode cX11_submit 137 = .ok (.aload_n 0, 1) := by decide +kernel
theorem dX11_submit_138 : decode cX11_submit 138 = .ok (.getfield 58, 3) := by decide +kernel
theorem dX11_submit_141 : decode cX11_submit 141 = .ok (.putfield 62, 3) := by decide +kernel
theorem dX11_submit_144 : decode cX11_submit 144 = .ok (.aload_n 0, 1) := by decide +kernel
theorem dX11_submit_145 : decode cX11_submit 145 = .ok (.aload_n 3, 1) := by decide +kernel
theorem dX11_submit_146 : decode cX11_submit 146 = .ok (.putfield 58, 3) := by decide +kernel
theorem dX11_submit_149 : decode cX11_submit 149 = .ok (.aload_n 0, 1) := by decide +kernel
theorem dX11_submit_150 : decode cX11_submit 150 = .ok (.iconst 1, 1) := by decide +kernel
theorem dX11_submit_151 : decode cX11_submit 151 = .ok (.putfield 65, 3) := by decide +kernel
theorem dX11_submit_154 : decode cX11_submit 154 = .ok (.aload_n 0, 1) := by decide +kernel
theorem dX11_submit_155 : decode cX11_submit 155 = .ok (.dup, 1) := by decide +kernel
theorem dX11_submit_156 : decode cX11_submit 156 = .ok (.getfield 79, 3) := by decide +kernel
theorem dX11_submit_159 : decode cX11_submit 159 = .ok (.iconst 1, 1) := by decide +kernel
theorem dX11_submit_160 : decode cX11_submit 160 = .ok (.iadd, 1) := by decide +kernel
theorem dX11_submit_161 : decode cX11_submit 161 = .ok (.putfield 79, 3) := by decide +kernel
theorem dX11_submit_164 : decode cX11_submit 164 = .ok (.aload_n 0, 1) := by decide +kernel
theorem dX11_submit_165 : decode cX11_submit 165 = .ok (.getfield 58, 3) := by decide +kernel
theorem dX11_submit_168 : decode cX11_submit 168 = .ok (.getfield 104, 3) := by decide +kernel
theorem dX11_submit_171 : decode cX11_submit 171 = .ok (.iconst 1, 1) := by decide +kernel
theorem dX11_submit_172 : decode cX11_submit 172 = .ok (.isub, 1) := by decide +kernel
theorem dX11_submit_173 : decode cX11_submit 173 = .ok (.ireturn, 1) := by decide +kernel
def kX11_submit_95 (mc ms : Nat) (X : Nat → zV) (Q : zQt) : zT :=
  zpi 11 10 <| zla 0 <| zla 0 <| zgi 11 10 <| zif (fun x => x = 0) (zc (.int (-1)) <| zj X 119 [0]) <| zla 0 <| zgR 11 7 <| zgi 4 4 <| zc (.int 1) <| zii (fun x y => x - y) <| zj X 119 [0]
def kX11_submit_83 (mc ms : Nat) (X : Nat → zV) (Q : zQt) : zT :=
  zla 0 <| zla 0 <| zgR 11 1 <| zla 0 <| zgR 11 7 <| zcv mc ms 6 1 wX6_readMoves <| kX11_submit_95 mc ms X Q
def kX11_submit_61 (mc ms : Nat) (X : Nat → zV) (Q : zQt) : zT :=
  zpi 11 10 <| zla 0 <| zc (.int (-1)) <| zpi 11 11 <| zla 0 <| zgi 11 10 <| zif (fun x => x = 0) (zla 0 <| zgR 11 7 <| zcv mc ms 4 0 wX4_begin <| kX11_submit_83 mc ms X Q) <| zj X 122 [0]
def aX11_submit_0 (mc ms : Nat) (X : Nat → zV) (Q : zQt) : zT :=
  zli 1 <| zc (.int 1) <| zic (fun x y => x < y) (zj X 11 []) <| zli 1 <| zc (.int 20) <| zic (fun x y => x ≤ y) (zla 0 <| zgi 11 9 <| zif (fun x => x = 0) (zc (.int 0) <| zj X 39 [0]) <| zla 0 <| zgi 11 9 <| zc (.int 20) <| zii (fun x y => x - y) <| zli 1 <| zii (fun x y => x + y) <| zj X 39 [0]) <| zj X 11 []
def aX11_submit_11 (mc ms : Nat) (X : Nat → zV) (Q : zQt) : zT :=
  zno
def aX11_submit_39 (mc ms : Nat) (X : Nat → zV) (Q : zQt) : zT :=
  zsi 2 <| zla 0 <| zc (.int 0) <| zpi 11 9 <| zla 0 <| zla 0 <| zgR 11 1 <| zla 0 <| zgR 11 7 <| zgR 4 0 <| zli 2 <| zcv mc ms 6 2 wX6_readRecord <| kX11_submit_61 mc ms X Q
def aX11_submit_119 (mc ms : Nat) (X : Nat → zV) (Q : zQt) : zT :=
  zpi 11 11 <| zj X 122 [0]
def aX11_submit_122 (mc ms : Nat) (X : Nat → zV) (Q : zQt) : zT :=
  zla 0 <| zgi 11 10 <| zif (fun x => x = 0) (zla 0 <| zgR 11 7 <| zsa 3 <| zla 0 <| zla 0 <| zgR 11 6 <| zpr 11 7 <| zla 0 <| zla 3 <| zpr 11 6 <| zla 0 <| zc (.int 1) <| zpz 11 8 <| zla 0 <| zdup <| zgi 11 12 <| zc (.int 1) <| zii (fun x y => x + y) <| zpi 11 12 <| zla 0 <| zgR 11 6 <| zgi 4 4 <| zc (.int 1) <| zii (fun x y => x - y) <| zri Q) <| zc (.int (-1)) <| zri Q
def lvX11_submit : Nat → List Nat := fun L => match L with
  | 0 => [0, 1]
  | 11 => []
  | 39 => [0]
  | 119 => [0]
  | 122 => [0]
  | _ => []
def wX11_submit : zSp := fun mc ms av M Q => ((zlay av).length ≤ 4 ∧ zpick (zlay av) [0, 1] = some av) ∧ ∀ X : Nat → zV, zin 4 [0, 1] (aX11_submit_0 mc ms X Q) X 0 → zin 4 [] (aX11_submit_11 mc ms X Q) X 11 → zin 4 [0] (aX11_submit_39 mc ms X Q) X 39 → zin 4 [0] (aX11_submit_119 mc ms X Q) X 119 → zin 4 [0] (aX11_submit_122 mc ms X Q) X 122 → X 0 0 0 av [] M
set_option maxRecDepth 100000 in
set_option maxHeartbeats 4000000 in
theorem sX11_submit (l : Launch) (G : zG) (hE : zXt G) : zSnd l G yX11_submit cX11_submit 4 (some .int) 7 179 wX11_submit := by
  refine zmk [0, 1] (by decide) (fun mc ms av M Q h => h.1) ?_
  intro p e R s m args below meth c mc ms av M Q hC hRf hRl hr hnm h lv hlv
  obtain ⟨X, hXe⟩ : ∃ X : Nat → zV, X = fun L u v vs st M => ∀ lv, zpick lv (lvX11_submit L) = some vs → zAt p l e R s m args below meth c (MQ below (zQ G Q) args s mc ms (zA G)) G 4 L u v lv st M := ⟨_, rfl⟩
  have hJ : ∀ L, zOk p l e R s m args below meth c (MQ below (zQ G Q) args s mc ms (zA G)) G 4 L (zj X L (lvX11_submit L)) := fun L => S_jump (fun u v lv vs st M hp hx => by rw [hXe] at hx; exact hx lv hp)
  have hB0 : zin 4 [0, 1] (aX11_submit_0 mc ms X Q) X 0 := by
    intro u v vs st M hb
    rw [hXe]
    refine fun lv hp => S_block (L := 0) (live := [0, 1]) ?_ u v lv vs st M hp hb
    unfold aX11_submit_0
    refine S_iload_n (pc := 0) hC dX11_submit_0 rfl ?_
    refine S_iconst (pc := 1) hC dX11_submit_1 (by decide) ?_
    refine S_icmp_lt (pc := 2) (tgt := 11) hC dX11_submit_2 (by decide) ?_ ?_
    · exact hJ 11
    · refine S_iload_n (pc := 5) hC dX11_submit_5 rfl ?_
      refine S_bipush (pc := 6) hC dX11_submit_6 (by decide) ?_
      refine S_icmp_le (pc := 8) (tgt := 19) hC dX11_submit_8 (by decide) ?_ ?_
      · refine S_aload_n (pc := 19) hC dX11_submit_19 rfl ?_
        refine S_geti (pc := 20) hC cfX11 (by decide) (Or.inl rfl) wd_355 dX11_submit_20 ?_
        refine S_if_ne (pc := 23) (tgt := 30) hC dX11_submit_23 (by decide) ?_ ?_
        · refine S_aload_n (pc := 30) hC dX11_submit_30 rfl ?_
          refine S_geti (pc := 31) hC cfX11 (by decide) (Or.inl rfl) wd_355 dX11_submit_31 ?_
          refine S_bipush (pc := 34) hC dX11_submit_34 (by decide) ?_
          refine S_isub (pc := 36) hC dX11_submit_36 ?_
          refine S_iload_n (pc := 37) hC dX11_submit_37 rfl ?_
          refine S_iadd (pc := 38) hC dX11_submit_38 ?_
          exact hJ 39
        · refine S_iconst (pc := 26) hC dX11_submit_26 (by decide) ?_
          refine S_goto (pc := 27) (tgt := 39) hC dX11_submit_27 (by decide) ?_
          exact hJ 39
      · exact hJ 11
  have hB11 : zin 4 [] (aX11_submit_11 mc ms X Q) X 11 := by
    intro u v vs st M hb
    rw [hXe]
    refine fun lv hp => S_block (L := 11) (live := []) ?_ u v lv vs st M hp hb
    unfold aX11_submit_11
    exact S_no
  have hB39 : zin 4 [0] (aX11_submit_39 mc ms X Q) X 39 := by
    intro u v vs st M hb
    rw [hXe]
    refine fun lv hp => S_block (L := 39) (live := [0]) ?_ u v lv vs st M hp hb
    unfold aX11_submit_39
    refine S_istore_n (pc := 39) hC dX11_submit_39 rfl (by decide) ?_
    refine S_aload_n (pc := 40) hC dX11_submit_40 rfl ?_
    refine S_iconst (pc := 41) hC dX11_submit_41 (by decide) ?_
    refine S_puti (pc := 42) hC cfX11 (by decide) rfl (Or.inl rfl) wd_355 dX11_submit_42 ?_
    refine S_aload_n (pc := 45) hC dX11_submit_45 rfl ?_
    refine S_aload_n (pc := 46) hC dX11_submit_46 rfl ?_
    refine S_getR (pc := 47) hC cfX11 (by decide) (Or.inl ⟨_, rfl⟩) wd_347 dX11_submit_47 ?_
    refine S_aload_n (pc := 50) hC dX11_submit_50 rfl ?_
    refine S_getR (pc := 51) hC cfX11 (by decide) (Or.inl ⟨_, rfl⟩) wd_353 dX11_submit_51 ?_
    refine S_getR (pc := 54) hC cfX4 (by decide) (Or.inl ⟨_, rfl⟩) wd_311 dX11_submit_54 ?_
    refine S_iload_n (pc := 57) hC dX11_submit_57 rfl ?_
    refine S_callV (pc := 58) hC (sX6_readRecord l G hE) rfl wd_667 wd_668 wd_669 wd_4 wd_670 (by decide +kernel) ⟨by rw [hRf]; decide, by rw [hRl]; decide⟩ dX11_submit_58 ?_
    unfold kX11_submit_61
    refine S_puti (pc := 61) hC cfX11 (by decide) rfl (Or.inl rfl) wd_356 dX11_submit_61 ?_
    refine S_aload_n (pc := 64) hC dX11_submit_64 rfl ?_
    refine S_iconst (pc := 65) hC dX11_submit_65 (by decide) ?_
    refine S_puti (pc := 66) hC cfX11 (by decide) rfl (Or.inl rfl) wd_357 dX11_submit_66 ?_
    refine S_aload_n (pc := 69) hC dX11_submit_69 rfl ?_
    refine S_geti (pc := 70) hC cfX11 (by decide) (Or.inl rfl) wd_356 dX11_submit_70 ?_
    refine S_if_ne (pc := 73) (tgt := 122) hC dX11_submit_73 (by decide) ?_ ?_
    · exact hJ 122
    · refine S_aload_n (pc := 76) hC dX11_submit_76 rfl ?_
      refine S_getR (pc := 77) hC cfX11 (by decide) (Or.inl ⟨_, rfl⟩) wd_353 dX11_submit_77 ?_
      refine S_callV (pc := 80) hC (sX4_begin l G hE.1) rfl wd_803 wd_804 wd_805 wd_9 wd_806 (by decide +kernel) ⟨by rw [hRf]; decide, by rw [hRl]; decide⟩ dX11_submit_80 ?_
      unfold kX11_submit_83
      refine S_aload_n (pc := 83) hC dX11_submit_83 rfl ?_
      refine S_aload_n (pc := 84) hC dX11_submit_84 rfl ?_
      refine S_getR (pc := 85) hC cfX11 (by decide) (Or.inl ⟨_, rfl⟩) wd_347 dX11_submit_85 ?_
      refine S_aload_n (pc := 88) hC dX11_submit_88 rfl ?_
      refine S_getR (pc := 89) hC cfX11 (by decide) (Or.inl ⟨_, rfl⟩) wd_353 dX11_submit_89 ?_
      refine S_callV (pc := 92) hC (sX6_readMoves l G hE) rfl wd_861 wd_862 wd_863 wd_4 wd_864 (by decide +kernel) ⟨by rw [hRf]; decide, by rw [hRl]; decide⟩ dX11_submit_92 ?_
      unfold kX11_submit_95
      refine S_puti (pc := 95) hC cfX11 (by decide) rfl (Or.inl rfl) wd_356 dX11_submit_95 ?_
      refine S_aload_n (pc := 98) hC dX11_submit_98 rfl ?_
      refine S_aload_n (pc := 99) hC dX11_submit_99 rfl ?_
      refine S_geti (pc := 100) hC cfX11 (by decide) (Or.inl rfl) wd_356 dX11_submit_100 ?_
      refine S_if_ne (pc := 103) (tgt := 110) hC dX11_submit_103 (by decide) ?_ ?_
      · refine S_aload_n (pc := 110) hC dX11_submit_110 rfl ?_
        refine S_getR (pc := 111) hC cfX11 (by decide) (Or.inl ⟨_, rfl⟩) wd_353 dX11_submit_111 ?_
        refine S_geti (pc := 114) hC cfX4 (by decide) (Or.inl rfl) wd_327 dX11_submit_114 ?_
        refine S_iconst (pc := 117) hC dX11_submit_117 (by decide) ?_
        refine S_isub (pc := 118) hC dX11_submit_118 ?_
        exact hJ 119
      · refine S_iconst (pc := 106) hC dX11_submit_106 (by decide) ?_
        refine S_goto (pc := 107) (tgt := 119) hC dX11_submit_107 (by decide) ?_
        exact hJ 119
  have hB119 : zin 4 [0] (aX11_submit_119 mc ms X Q) X 119 := by
    intro u v vs st M hb
    rw [hXe]
    refine fun lv hp => S_block (L := 119) (live := [0]) ?_ u v lv vs st M hp hb
    unfold aX11_submit_119
    refine S_puti (pc := 119) hC cfX11 (by decide) rfl (Or.inl rfl) wd_357 dX11_submit_119 ?_
    exact hJ 122
  have hB122 : zin 4 [0] (aX11_submit_122 mc ms X Q) X 122 := by
    intro u v vs st M hb
    rw [hXe]
    refine fun lv hp => S_block (L := 122) (live := [0]) ?_ u v lv vs st M hp hb
    unfold aX11_submit_122
    refine S_aload_n (pc := 122) hC dX11_submit_122 rfl ?_
    refine S_geti (pc := 123) hC cfX11 (by decide) (Or.inl rfl) wd_356 dX11_submit_123 ?_
    refine S_if_eq (pc := 126) (tgt := 131) hC dX11_submit_126 (by decide) ?_ ?_
    · refine S_aload_n (pc := 131) hC dX11_submit_131 rfl ?_
      refine S_getR (pc := 132) hC cfX11 (by decide) (Or.inl ⟨_, rfl⟩) wd_353 dX11_submit_132 ?_
      refine S_astore_n (pc := 135) hC dX11_submit_135 rfl (by decide) ?_
      refine S_aload_n (pc := 136) hC dX11_submit_136 rfl ?_
      refine S_aload_n (pc := 137) hC dX11_submit_137 rfl ?_
      refine S_getR (pc := 138) hC cfX11 (by decide) (Or.inl ⟨_, rfl⟩) wd_352 dX11_submit_138 ?_
      refine S_putr (pc := 141) hC cfX11 (by decide) (Or.inl ⟨_, rfl⟩) (Or.inl rfl) wd_353 dX11_submit_141 ?_
      refine S_aload_n (pc := 144) hC dX11_submit_144 rfl ?_
      refine S_aload_n (pc := 145) hC dX11_submit_145 rfl ?_
      refine S_putr (pc := 146) hC cfX11 (by decide) (Or.inl ⟨_, rfl⟩) (Or.inl rfl) wd_352 dX11_submit_146 ?_
      refine S_aload_n (pc := 149) hC dX11_submit_149 rfl ?_
      refine S_iconst (pc := 150) hC dX11_submit_150 (by decide) ?_
      refine S_putz (pc := 151) hC cfX11 (by decide) rfl (Or.inl rfl) wd_354 dX11_submit_151 ?_
      refine S_aload_n (pc := 154) hC dX11_submit_154 rfl ?_
      refine S_dup (pc := 155) hC dX11_submit_155 ?_
      refine S_geti (pc := 156) hC cfX11 (by decide) (Or.inl rfl) wd_358 dX11_submit_156 ?_
      refine S_iconst (pc := 159) hC dX11_submit_159 (by decide) ?_
      refine S_iadd (pc := 160) hC dX11_submit_160 ?_
      refine S_puti (pc := 161) hC cfX11 (by decide) rfl (Or.inl rfl) wd_358 dX11_submit_161 ?_
      refine S_aload_n (pc := 164) hC dX11_submit_164 rfl ?_
      refine S_getR (pc := 165) hC cfX11 (by decide) (Or.inl ⟨_, rfl⟩) wd_352 dX11_submit_165 ?_
      refine S_geti (pc := 168) hC cfX4 (by decide) (Or.inl rfl) wd_327 dX11_submit_168 ?_
      refine S_iconst (pc := 171) hC dX11_submit_171 (by decide) ?_
      refine S_isub (pc := 172) hC dX11_submit_172 ?_
      exact S_ireturn (pc := 173) hC hr dX11_submit_173
    · refine S_iconst (pc := 129) hC dX11_submit_129 (by decide) ?_
      exact S_ireturn (pc := 130) hC hr dX11_submit_130
  have := h.2 X hB0 hB11 hB39 hB119 hB122
  rw [hXe] at this
  exact this lv hlv
theorem vX11_submit_0 {mc ms : Nat} {X : Nat → zV} {Q : zQt} {M : zM} {g : Nat} {x1 : Int32} (hW : zWd M g)  (h : (x1 < (1 : Int32) → X 11 0 0 [] [] M) ∧ (¬ x1 < (1 : Int32) → (x1 ≤ (20 : Int32) → ((M.1 16 9) = 0 → X 39 0 0 [.ref 16] [.int 0] M) ∧ (¬ (M.1 16 9) = 0 → X 39 0 0 [.ref 16] [.int (((M.1 16 9) - (20 : Int32)) + x1)] M)) ∧ (¬ x1 ≤ (20 : Int32) → X 11 0 0 [] [] M))) : aX11_submit_0 mc ms X Q 0 0 [some (.ref 16), some (.int x1), none, none] [] M := ⟨fun c2 => (h.1 c2), fun c2 => ⟨fun c8 => ⟨(fxs_16 hW.1), ⟨fun c23 => (((h.2 c2).1 c8).1 c23), fun c23 => ⟨(fxs_16 hW.1), (((h.2 c2).1 c8).2 c23)⟩⟩⟩, fun c8 => ((h.2 c2).2 c8)⟩⟩
theorem vX11_submit_11 {mc ms : Nat} {X : Nat → zV} {Q : zQt} {M : zM} {g : Nat}  (hW : zWd M g)  (h : False) : aX11_submit_11 mc ms X Q 0 0 [none, none, none, none] [] M := h
theorem vX11_submit_39 {mc ms : Nat} {X : Nat → zV} {Q : zQt} {M : zM} {g : Nat} {s0 : Int32} (hW : zWd M g)  (h : ∀ M42 : zM, M42 = (zsI M 16 9 0) → ∃ r51, ((M42 : zM).2.2.1 16 7) = some r51 ∧ zsh M42 r51 = some (0, 4) ∧ ∃ r54, ((M42 : zM).2.2.1 r51 0) = some r54 ∧ zsh M42 r54 = some (0, 0) ∧ wX6_readRecord 0 0 [.ref 27, .ref r54, .int s0] M42 (fun r M1 => kX11_submit_61 mc ms X Q 0 0 [some (.ref 16), none, some (.int s0), none] (r.toList ++ [.ref 16]) M1)) : aX11_submit_39 mc ms X Q 0 0 [some (.ref 16), none, none, none] [.int s0] M := ⟨(fxs_16 hW.1), (have h42 := h _ rfl; ⟨(fxs_16 hW.1), 27, (fxr_16_1 hW.1), (let ⟨r51, q51, hr51, h51⟩ := h42; ⟨(fxs_16 hW.1), r51, q51, (let ⟨r54, q54, hr54, h54⟩ := h51; ⟨hr51, r54, q54, ⟨Nat.le_of_ble_eq_true rfl, rfl, (fxs_27 hW.1), 0, 0, Nat.zero_le _, Nat.zero_le _, h54⟩⟩)⟩)⟩)⟩
theorem vX11_submit_119 {mc ms : Nat} {X : Nat → zV} {Q : zQt} {M : zM} {g : Nat} {s0 : Int32} (hW : zWd M g)  (h : ∀ M119 : zM, M119 = (zsI M 16 11 s0) → X 122 0 0 [.ref 16] [] M119) : aX11_submit_119 mc ms X Q 0 0 [some (.ref 16), none, none, none] [.int s0, .ref 16] M := ⟨(fxs_16 hW.1), (have h119 := h _ rfl; h119)⟩
theorem vX11_submit_122 {mc ms : Nat} {X : Nat → zV} {Q : zQt} {M : zM} {g : Nat}  (hW : zWd M g)  (h : ((M.1 16 10) = 0 → ∃ r132, ((M : zM).2.2.1 16 7) = some r132 ∧ zsh M r132 = some (0, 4) ∧ ∃ r138, ((M : zM).2.2.1 16 6) = some r138 ∧ zsh M r138 = some (0, 4) ∧ ∀ M141 : zM, M141 = (zsR M 16 7 (some r138)) → ∀ M146 : zM, M146 = (zsR M141 16 6 (some r132)) → ∀ M151 : zM, M151 = (zsI M146 16 8 1) → ∀ M161 : zM, M161 = (zsI M151 16 12 (((M151.1 16 12) + (1 : Int32)))) → ∃ r165, ((M161 : zM).2.2.1 16 6) = some r165 ∧ zsh M161 r165 = some (0, 4) ∧ Q (some (.int (((M161.1 r165 4) - (1 : Int32))))) M161) ∧ (¬ (M.1 16 10) = 0 → Q (some (.int ((-1)))) M)) : aX11_submit_122 mc ms X Q 0 0 [some (.ref 16), none, none, none] [] M := ⟨(fxs_16 hW.1), ⟨fun c126 => (let ⟨r132, q132, hr132, h132⟩ := (h.1 c126); ⟨(fxs_16 hW.1), r132, q132, (let ⟨r138, q138, hr138, h138⟩ := h132; ⟨(fxs_16 hW.1), r138, q138, ⟨(fxs_16 hW.1), (have h141 := h138 _ rfl; ⟨(fxs_16 (zWd.r7 hW).1), (have h146 := h141 _ rfl; ⟨(fxs_16 (zWd.r6 (zWd.r7 hW)).1), rfl, (have h151 := h146 _ rfl; ⟨(fxs_16 (zWd.r6 (zWd.r7 hW)).1), ⟨(fxs_16 (zWd.r6 (zWd.r7 hW)).1), (have h161 := h151 _ rfl; (let ⟨r165, q165, hr165, h165⟩ := h161; ⟨(fxs_16 (zWd.r6 (zWd.r7 hW)).1), r165, q165, ⟨hr165, h165⟩⟩))⟩⟩)⟩)⟩)⟩⟩)⟩), fun c126 => (h.2 c126)⟩⟩
theorem vkX11_submit_61 {mc ms : Nat} {X : Nat → zV} {Q : zQt} {M : zM} {g : Nat} {x2 : Int32} {s0 : Int32} (hW : zWd M g)  (h : ∀ M61 : zM, M61 = (zsI M 16 10 s0) → ∀ M66 : zM, M66 = (zsI M61 16 11 ((-1))) → ((M66.1 16 10) = 0 → ∃ r77, ((M66 : zM).2.2.1 16 7) = some r77 ∧ zsh M66 r77 = some (0, 4) ∧ wX4_begin 0 0 [.ref r77] M66 (fun r M1 => kX11_submit_83 mc ms X Q 0 0 [some (.ref 16), none, some (.int x2), none] (r.toList ++ []) M1)) ∧ (¬ (M66.1 16 10) = 0 → X 122 0 0 [.ref 16] [] M66)) : kX11_submit_61 mc ms X Q 0 0 [some (.ref 16), none, some (.int x2), none] [.int s0, .ref 16] M := ⟨(fxs_16 hW.1), (have h61 := h _ rfl; ⟨(fxs_16 hW.1), (have h66 := h61 _ rfl; ⟨(fxs_16 hW.1), ⟨fun c73 => (let ⟨r77, q77, hr77, h77⟩ := (h66.1 c73); ⟨(fxs_16 hW.1), r77, q77, ⟨Nat.le_of_ble_eq_true rfl, rfl, hr77, 0, 0, Nat.zero_le _, Nat.zero_le _, h77⟩⟩), fun c73 => (h66.2 c73)⟩⟩)⟩)⟩
theorem vkX11_submit_83 {mc ms : Nat} {X : Nat → zV} {Q : zQt} {M : zM} {g : Nat} {x2 : Int32} (hW : zWd M g)  (h : ∃ r89, ((M : zM).2.2.1 16 7) = some r89 ∧ zsh M r89 = some (0, 4) ∧ wX6_readMoves 0 0 [.ref 27, .ref r89] M (fun r M1 => kX11_submit_95 mc ms X Q 0 0 [some (.ref 16), none, some (.int x2), none] (r.toList ++ [.ref 16]) M1)) : kX11_submit_83 mc ms X Q 0 0 [some (.ref 16), none, some (.int x2), none] [] M := ⟨(fxs_16 hW.1), 27, (fxr_16_1 hW.1), (let ⟨r89, q89, hr89, h89⟩ := h; ⟨(fxs_16 hW.1), r89, q89, ⟨Nat.le_of_ble_eq_true rfl, rfl, (fxs_27 hW.1), 0, 0, Nat.zero_le _, Nat.zero_le _, h89⟩⟩)⟩
theorem vkX11_submit_95 {mc ms : Nat} {X : Nat → zV} {Q : zQt} {M : zM} {g : Nat} {x2 : Int32} {s0 : Int32} (hW : zWd M g)  (h : ∀ M95 : zM, M95 = (zsI M 16 10 s0) → ((M95.1 16 10) = 0 → X 119 0 0 [.ref 16] [.int (-1), .ref 16] M95) ∧ (¬ (M95.1 16 10) = 0 → ∃ r111, ((M95 : zM).2.2.1 16 7) = some r111 ∧ zsh M95 r111 = some (0, 4) ∧ X 119 0 0 [.ref 16] [.int ((M95.1 r111 4) - (1 : Int32)), .ref 16] M95)) : kX11_submit_95 mc ms X Q 0 0 [some (.ref 16), none, some (.int x2), none] [.int s0, .ref 16] M := ⟨(fxs_16 hW.1), (have h95 := h _ rfl; ⟨(fxs_16 hW.1), ⟨fun c103 => (h95.1 c103), fun c103 => (let ⟨r111, q111, hr111, h111⟩ := (h95.2 c103); ⟨(fxs_16 hW.1), r111, q111, ⟨hr111, h111⟩⟩)⟩⟩)⟩
theorem dX11_recordAt_0 : decode cX11_recordAt 0 = .ok (.aload_n 0, 1) := by decide +kernel
theorem dX11_recordAt_1 : decode cX11_recordAt 1 = .ok (.getfield 65, 3) := by decide +kernel
theorem dX11_recordAt_4 : decode cX11_recordAt 4 = .ok (.ifCond .eq 21, 3) := by decide +kernel
theorem dX11_recordAt_7 : decode cX11_recordAt 7 = .ok (.aload_n 0, 1) := by decide +kernel
theorem dX11_recordAt_8 : decode cX11_recordAt 8 = .ok (.getfield 35, 3) := by decide +kernel
theorem dX11_recordAt_11 : decode cX11_recordAt 11 = .ok (.aload_n 0, 1) := by decide +kernel
theorem dX11_recordAt_12 : decode cX11_recordAt 12 = .ok (.getfield 58, 3) := by decide +kernel
theorem dX11_recordAt_15 : decode cX11_recordAt 15 = .ok (.getfield 89, 3) := by decide +kernel
theorem dX11_recordAt_18 : decode cX11_recordAt 18 = .ok (.iload_n 1, 1) := by decide +kernel
theorem dX11_recordAt_19 : decode cX11_recordAt 19 = .ok (.invokevirtual 146, 3) := by decide +kernel
theorem dX11_recordAt_22 : decode cX11_recordAt 22 = .ok (.goto 4, 3) := by decide +kernel
theorem dX11_recordAt_25 : decode cX11_recordAt 25 = .ok (.lconst 0, 1) := by decide +kernel
theorem dX11_recordAt_26 : decode cX11_recordAt 26 = .ok (.lreturn, 1) := by decide +kernel
def kX11_recordAt_22 (mc ms : Nat) (X : Nat → zV) (Q : zQt) : zT :=
  zj X 26 []
def aX11_recordAt_0 (mc ms : Nat) (X : Nat → zV) (Q : zQt) : zT :=
  zla 0 <| zgi 11 8 <| zif (fun x => x = 0) (zc (.long 0) <| zj X 26 []) <| zla 0 <| zgR 11 3 <| zla 0 <| zgR 11 6 <| zgR 4 0 <| zli 1 <| zcv mc ms 7 2 wX7_eight <| kX11_recordAt_22 mc ms X Q
def aX11_recordAt_26 (mc ms : Nat) (X : Nat → zV) (Q : zQt) : zT :=
  zrl Q
def lvX11_recordAt : Nat → List Nat := fun L => match L with
  | 0 => [0, 1]
  | 26 => []
  | _ => []
def wX11_recordAt : zSp := fun mc ms av M Q => ((zlay av).length ≤ 2 ∧ zpick (zlay av) [0, 1] = some av) ∧ ∀ X : Nat → zV, zin 2 [0, 1] (aX11_recordAt_0 mc ms X Q) X 0 → zin 2 [] (aX11_recordAt_26 mc ms X Q) X 26 → X 0 0 0 av [] M
set_option maxRecDepth 100000 in
set_option maxHeartbeats 4000000 in
theorem sX11_recordAt (l : Launch) (G : zG) (hE : zXt G) : zSnd l G yX11_recordAt cX11_recordAt 2 (some .long) 7 157 wX11_recordAt := by
  refine zmk [0, 1] (by decide) (fun mc ms av M Q h => h.1) ?_
  intro p e R s m args below meth c mc ms av M Q hC hRf hRl hr hnm h lv hlv
  obtain ⟨X, hXe⟩ : ∃ X : Nat → zV, X = fun L u v vs st M => ∀ lv, zpick lv (lvX11_recordAt L) = some vs → zAt p l e R s m args below meth c (MQ below (zQ G Q) args s mc ms (zA G)) G 2 L u v lv st M := ⟨_, rfl⟩
  have hJ : ∀ L, zOk p l e R s m args below meth c (MQ below (zQ G Q) args s mc ms (zA G)) G 2 L (zj X L (lvX11_recordAt L)) := fun L => S_jump (fun u v lv vs st M hp hx => by rw [hXe] at hx; exact hx lv hp)
  have hB0 : zin 2 [0, 1] (aX11_recordAt_0 mc ms X Q) X 0 := by
    intro u v vs st M hb
    rw [hXe]
    refine fun lv hp => S_block (L := 0) (live := [0, 1]) ?_ u v lv vs st M hp hb
    unfold aX11_recordAt_0
    refine S_aload_n (pc := 0) hC dX11_recordAt_0 rfl ?_
    refine S_geti (pc := 1) hC cfX11 (by decide) (Or.inr rfl) wd_354 dX11_recordAt_1 ?_
    refine S_if_eq (pc := 4) (tgt := 25) hC dX11_recordAt_4 (by decide) ?_ ?_
    · refine S_lconst (pc := 25) hC dX11_recordAt_25 (by decide) ?_
      exact hJ 26
    · refine S_aload_n (pc := 7) hC dX11_recordAt_7 rfl ?_
      refine S_getR (pc := 8) hC cfX11 (by decide) (Or.inl ⟨_, rfl⟩) wd_349 dX11_recordAt_8 ?_
      refine S_aload_n (pc := 11) hC dX11_recordAt_11 rfl ?_
      refine S_getR (pc := 12) hC cfX11 (by decide) (Or.inl ⟨_, rfl⟩) wd_352 dX11_recordAt_12 ?_
      refine S_getR (pc := 15) hC cfX4 (by decide) (Or.inl ⟨_, rfl⟩) wd_311 dX11_recordAt_15 ?_
      refine S_iload_n (pc := 18) hC dX11_recordAt_18 rfl ?_
      refine S_callV (pc := 19) hC (sX7_eight l G hE) rfl wd_495 wd_496 wd_497 wd_6 wd_498 (by decide +kernel) ⟨by rw [hRf]; decide, by rw [hRl]; decide⟩ dX11_recordAt_19 ?_
      unfold kX11_recordAt_22
      refine S_goto (pc := 22) (tgt := 26) hC dX11_recordAt_22 (by decide) ?_
      exact hJ 26
  have hB26 : zin 2 [] (aX11_recordAt_26 mc ms X Q) X 26 := by
    intro u v vs st M hb
    rw [hXe]
    refine fun lv hp => S_block (L := 26) (live := []) ?_ u v lv vs st M hp hb
    unfold aX11_recordAt_26
    exact S_lreturn (pc := 26) hC hr dX11_recordAt_26
  have := h.2 X hB0 hB26
  rw [hXe] at this
  exact this lv hlv
theorem vX11_recordAt_0 {mc ms : Nat} {X : Nat → zV} {Q : zQt} {M : zM} {g : Nat} {x1 : Int32} (hW : zWd M g)  (h : ((M.1 16 8) = 0 → X 26 0 0 [] [.long 0] M) ∧ (¬ (M.1 16 8) = 0 → ∃ r12, ((M : zM).2.2.1 16 6) = some r12 ∧ zsh M r12 = some (0, 4) ∧ ∃ r15, ((M : zM).2.2.1 r12 0) = some r15 ∧ zsh M r15 = some (0, 0) ∧ wX7_eight 0 0 [.ref 29, .ref r15, .int x1] M (fun r M1 => kX11_recordAt_22 mc ms X Q 0 0 [some (.ref 16), some (.int x1)] (r.toList ++ []) M1))) : aX11_recordAt_0 mc ms X Q 0 0 [some (.ref 16), some (.int x1)] [] M := ⟨(fxs_16 hW.1), ⟨fun c4 => (h.1 c4), fun c4 => ⟨(fxs_16 hW.1), 29, (fxr_16_3 hW.1), (let ⟨r12, q12, hr12, h12⟩ := (h.2 c4); ⟨(fxs_16 hW.1), r12, q12, (let ⟨r15, q15, hr15, h15⟩ := h12; ⟨hr12, r15, q15, ⟨Nat.le_of_ble_eq_true rfl, rfl, (fxs_29 hW.1), 0, 0, Nat.zero_le _, Nat.zero_le _, h15⟩⟩)⟩)⟩⟩⟩
theorem vX11_recordAt_26 {mc ms : Nat} {X : Nat → zV} {Q : zQt} {M : zM} {g : Nat} {s0 : Int64} (hW : zWd M g)  (h : Q (some (.long s0)) M) : aX11_recordAt_26 mc ms X Q 0 0 [none, none] [.long s0] M := h
theorem vkX11_recordAt_22 {mc ms : Nat} {X : Nat → zV} {Q : zQt} {M : zM} {g : Nat} {x1 : Int32} {s0 : Int64} (hW : zWd M g)  (h : X 26 0 0 [] [.long s0] M) : kX11_recordAt_22 mc ms X Q 0 0 [some (.ref 16), some (.int x1)] [.long s0] M := h
