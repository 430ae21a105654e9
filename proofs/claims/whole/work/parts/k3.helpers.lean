/-! THE LAW'S HELPERS -/
def uX11_submit : zSpX := fun mc ms av M Q EX => wX11_submit mc ms av M Q ∨ wtX11_submit mc ms av M Q EX
theorem suX11_submit (l : Launch) (G : zG) (hE : zXt G) (hTh : zThr G) (hl : l.stackTraces = false) : zSndX l G yX11_submit cX11_submit 4 (some .int) 7 179 uX11_submit := zor (zlift (sX11_submit l G hE)) (stX11_submit l G hE hTh hl)
theorem wd_598 : (Jvm.Cond.codeWith ({ cls := "GameHallLaw", name := "submit", desc := "(LGameHall;I[J)I" } : Jvm.MethodName) method_3_code (4 : Nat) (Option.some Jvm.ClassFile.FieldType.int) [((0 : Nat), (9 : Nat), (12 : Nat), (13 : Nat))]) ∈ zgw := zwin2 (List.mem_of_getElem? (i := 118) rfl) rfl
theorem dL_submit_0 : decode cL_submit 0 = .ok (.aload_n 2, 1) := by decide +kernel
theorem dL_submit_1 : decode cL_submit 1 = .ok (.iconst 0, 1) := by decide +kernel
theorem dL_submit_2 : decode cL_submit 2 = .ok (.aload_n 0, 1) := by decide +kernel
theorem dL_submit_3 : decode cL_submit 3 = .ok (.iload_n 1, 1) := by decide +kernel
theorem dL_submit_4 : decode cL_submit 4 = .ok (.invokevirtual 7, 3) := by decide +kernel
theorem dL_submit_7 : decode cL_submit 7 = .ok (.i2l, 1) := by decide +kernel
theorem dL_submit_8 : decode cL_submit 8 = .ok (.lastore, 1) := by decide +kernel
theorem dL_submit_9 : decode cL_submit 9 = .ok (.goto 6, 3) := by decide +kernel
theorem dL_submit_12 : decode cL_submit 12 = .ok (.astore_n 3, 1) := by decide +kernel
theorem dL_submit_13 : decode cL_submit 13 = .ok (.iconst 1, 1) := by decide +kernel
theorem dL_submit_14 : decode cL_submit 14 = .ok (.ireturn, 1) := by decide +kernel
theorem dL_submit_15 : decode cL_submit 15 = .ok (.iconst 0, 1) := by decide +kernel
theorem dL_submit_16 : decode cL_submit 16 = .ok (.ireturn, 1) := by decide +kernel
def kL_submit_7 (mc ms : Nat) (X : Nat → zV) (Q : zQt) : zT :=
  zi2l <| zasl <| zc (.int 0) <| zri Q
def aL_submit_0 (mc ms : Nat) (X : Nat → zV) (Q : zQt) : zT :=
  zla 2 <| zc (.int 0) <| zla 0 <| zli 1 <| zcvx mc ms 11 1 uX11_submit [(eIA, 1)] Q <| kL_submit_7 mc ms X Q
def lvL_submit : Nat → List Nat := fun L => match L with
  | 0 => [0, 1, 2]
  | _ => []
def wL_submit : zSp := fun mc ms av M Q => ((zlay av).length ≤ 4 ∧ zpick (zlay av) [0, 1, 2] = some av) ∧ ∀ X : Nat → zV, zin 4 [0, 1, 2] (aL_submit_0 mc ms X Q) X 0 → X 0 0 0 av [] M
set_option maxRecDepth 100000 in
set_option maxHeartbeats 4000000 in
theorem sL_submit (l : Launch) (G : zG) (hE : zXt G) (hTh : zThr G) (hl : l.stackTraces = false) : zSndW l G yL_submit cL_submit 4 (some .int) [(0, 9, 12, 13)] 8 202 wL_submit := by
  refine zmkH [0, 1, 2] (by decide) (fun mc ms av M Q h => h.1) ?_
  intro p e R s m args below meth c mc ms av M Q hC ht hRf hRl hr hnm h lv hlv
  obtain ⟨X, hXe⟩ : ∃ X : Nat → zV, X = fun L u v vs st M => ∀ lv, zpick lv (lvL_submit L) = some vs → zAt p l e R s m args below meth c (MQ below (zQ G Q) args s mc ms (zA G)) G 4 L u v lv st M := ⟨_, rfl⟩
  have hJ : ∀ L, zOk p l e R s m args below meth c (MQ below (zQ G Q) args s mc ms (zA G)) G 4 L (zj X L (lvL_submit L)) := fun L => S_jump (fun u v lv vs st M hp hx => by rw [hXe] at hx; exact hx lv hp)
  have hB0 : zin 4 [0, 1, 2] (aL_submit_0 mc ms X Q) X 0 := by
    intro u v vs st M hb
    rw [hXe]
    refine fun lv hp => S_block (L := 0) (live := [0, 1, 2]) ?_ u v lv vs st M hp hb
    unfold aL_submit_0
    refine S_aload_n (pc := 0) hC dL_submit_0 rfl ?_
    refine S_iconst (pc := 1) hC dL_submit_1 (by decide) ?_
    refine S_aload_n (pc := 2) hC dL_submit_2 rfl ?_
    refine S_iload_n (pc := 3) hC dL_submit_3 rfl ?_
    refine S_callVX (pc := 4) (Q := Q) hC (suX11_submit l G hE hTh hl) rfl wd_600 wd_601 wd_602 wd_1 wd_603 (by decide +kernel) ⟨by rw [hRf]; decide, by rw [hRl]; decide⟩ dL_submit_4 ?_ ?_
    · intro t ht2
      simp only [List.mem_cons, List.not_mem_nil, or_false] at ht2
      subst ht2
      exact zHd_1 hC hTh hr ht rfl (by decide) (by decide) (by decide) wd_599 dL_submit_12 rfl (by decide) dL_submit_13 (by decide) dL_submit_14
    unfold kL_submit_7
    refine S_i2l (pc := 7) hC dL_submit_7 ?_
    refine S_lastore (pc := 8) hC dL_submit_8 ?_
    refine S_goto (pc := 9) (tgt := 15) hC dL_submit_9 (by decide) ?_
    refine S_iconst (pc := 15) hC dL_submit_15 (by decide) ?_
    exact S_ireturn (pc := 16) hC hr dL_submit_16
  have := h.2 X hB0
  rw [hXe] at this
  exact this lv hlv
def uX11_proceed : zSpX := fun mc ms av M Q EX => wX11_proceed mc ms av M Q ∨ wtX11_proceed mc ms av M Q EX
theorem suX11_proceed (l : Launch) (G : zG) (hE : zXt G) (hTh : zThr G) (hl : l.stackTraces = false) : zSndX l G yX11_proceed cX11_proceed 2 (some .int) 6 155 uX11_proceed := zor (zlift (sX11_proceed l G hE)) (stX11_proceed l G hE hTh hl)
theorem wd_938 : (Jvm.Cond.codeWith ({ cls := "GameHallLaw", name := "proceed", desc := "(LGameHall;I[J)I" } : Jvm.MethodName) method_4_code (4 : Nat) (Option.some Jvm.ClassFile.FieldType.int) [((0 : Nat), (9 : Nat), (12 : Nat), (18 : Nat)), ((0 : Nat), (9 : Nat), (15 : Nat), (20 : Nat))]) ∈ zgw := zwin3 (List.mem_of_getElem? (i := 218) rfl) rfl
theorem dL_proceed_0 : decode cL_proceed 0 = .ok (.aload_n 2, 1) := by decide +kernel
theorem dL_proceed_1 : decode cL_proceed 1 = .ok (.iconst 0, 1) := by decide +kernel
theorem dL_proceed_2 : decode cL_proceed 2 = .ok (.aload_n 0, 1) := by decide +kernel
theorem dL_proceed_3 : decode cL_proceed 3 = .ok (.iload_n 1, 1) := by decide +kernel
theorem dL_proceed_4 : decode cL_proceed 4 = .ok (.invokevirtual 15, 3) := by decide +kernel
theorem dL_proceed_7 : decode cL_proceed 7 = .ok (.i2l, 1) := by decide +kernel
theorem dL_proceed_8 : decode cL_proceed 8 = .ok (.lastore, 1) := by decide +kernel
theorem dL_proceed_9 : decode cL_proceed 9 = .ok (.goto 9, 3) := by decide +kernel
theorem dL_proceed_12 : decode cL_proceed 12 = .ok (.astore_n 3, 1) := by decide +kernel
theorem dL_proceed_13 : decode cL_proceed 13 = .ok (.iconst 1, 1) := by decide +kernel
theorem dL_proceed_14 : decode cL_proceed 14 = .ok (.ireturn, 1) := by decide +kernel
theorem dL_proceed_15 : decode cL_proceed 15 = .ok (.astore_n 3, 1) := by decide +kernel
theorem dL_proceed_16 : decode cL_proceed 16 = .ok (.iconst 2, 1) := by decide +kernel
theorem dL_proceed_17 : decode cL_proceed 17 = .ok (.ireturn, 1) := by decide +kernel
theorem dL_proceed_18 : decode cL_proceed 18 = .ok (.iconst 0, 1) := by decide +kernel
theorem dL_proceed_19 : decode cL_proceed 19 = .ok (.ireturn, 1) := by decide +kernel
def kL_proceed_7 (mc ms : Nat) (X : Nat → zV) (Q : zQt) : zT :=
  zi2l <| zasl <| zc (.int 0) <| zri Q
def aL_proceed_0 (mc ms : Nat) (X : Nat → zV) (Q : zQt) : zT :=
  zla 2 <| zc (.int 0) <| zla 0 <| zli 1 <| zcvx mc ms 11 1 uX11_proceed [(eIS, 1), (eIB, 2)] Q <| kL_proceed_7 mc ms X Q
def lvL_proceed : Nat → List Nat := fun L => match L with
  | 0 => [0, 1, 2]
  | _ => []
def wL_proceed : zSp := fun mc ms av M Q => ((zlay av).length ≤ 4 ∧ zpick (zlay av) [0, 1, 2] = some av) ∧ ∀ X : Nat → zV, zin 4 [0, 1, 2] (aL_proceed_0 mc ms X Q) X 0 → X 0 0 0 av [] M
set_option maxRecDepth 100000 in
set_option maxHeartbeats 4000000 in
theorem sL_proceed (l : Launch) (G : zG) (hE : zXt G) (hTh : zThr G) (hl : l.stackTraces = false) : zSndW l G yL_proceed cL_proceed 4 (some .int) [(0, 9, 12, 18), (0, 9, 15, 20)] 7 176 wL_proceed := by
  refine zmkH [0, 1, 2] (by decide) (fun mc ms av M Q h => h.1) ?_
  intro p e R s m args below meth c mc ms av M Q hC ht hRf hRl hr hnm h lv hlv
  obtain ⟨X, hXe⟩ : ∃ X : Nat → zV, X = fun L u v vs st M => ∀ lv, zpick lv (lvL_proceed L) = some vs → zAt p l e R s m args below meth c (MQ below (zQ G Q) args s mc ms (zA G)) G 4 L u v lv st M := ⟨_, rfl⟩
  have hJ : ∀ L, zOk p l e R s m args below meth c (MQ below (zQ G Q) args s mc ms (zA G)) G 4 L (zj X L (lvL_proceed L)) := fun L => S_jump (fun u v lv vs st M hp hx => by rw [hXe] at hx; exact hx lv hp)
  have hB0 : zin 4 [0, 1, 2] (aL_proceed_0 mc ms X Q) X 0 := by
    intro u v vs st M hb
    rw [hXe]
    refine fun lv hp => S_block (L := 0) (live := [0, 1, 2]) ?_ u v lv vs st M hp hb
    unfold aL_proceed_0
    refine S_aload_n (pc := 0) hC dL_proceed_0 rfl ?_
    refine S_iconst (pc := 1) hC dL_proceed_1 (by decide) ?_
    refine S_aload_n (pc := 2) hC dL_proceed_2 rfl ?_
    refine S_iload_n (pc := 3) hC dL_proceed_3 rfl ?_
    refine S_callVX (pc := 4) (Q := Q) hC (suX11_proceed l G hE hTh hl) rfl wd_941 wd_942 wd_943 wd_1 wd_944 (by decide +kernel) ⟨by rw [hRf]; decide, by rw [hRl]; decide⟩ dL_proceed_4 ?_ ?_
    · intro t ht2
      simp only [List.mem_cons, List.not_mem_nil, or_false] at ht2
      rcases ht2 with rfl | rfl
      · exact zHd_1 hC hTh hr ht rfl (by decide) (by decide) (by decide) wd_939 dL_proceed_12 rfl (by decide) dL_proceed_13 (by decide) dL_proceed_14
      · exact zHd_2 hC hTh hr ht rfl (by decide) (by decide) (by decide) (by decide) (by decide) (by decide) (by decide) wd_939 wd_940 dL_proceed_15 rfl (by decide) dL_proceed_16 (by decide) dL_proceed_17
    unfold kL_proceed_7
    refine S_i2l (pc := 7) hC dL_proceed_7 ?_
    refine S_lastore (pc := 8) hC dL_proceed_8 ?_
    refine S_goto (pc := 9) (tgt := 18) hC dL_proceed_9 (by decide) ?_
    refine S_iconst (pc := 18) hC dL_proceed_18 (by decide) ?_
    exact S_ireturn (pc := 19) hC hr dL_proceed_19
  have := h.2 X hB0
  rw [hXe] at this
  exact this lv hlv
def uX11_legalMove : zSpX := wtX11_legalMove
theorem suX11_legalMove (l : Launch) (G : zG) (hE : zXt G) (hTh : zThr G) (hl : l.stackTraces = false) : zSndX l G yX11_legalMove cX11_legalMove 2 (some .int) 6 81 uX11_legalMove := stX11_legalMove l G hE hTh hl
theorem wd_980 : (Jvm.Cond.codeWith ({ cls := "GameHallLaw", name := "legalMove", desc := "(LGameHall;I[J)I" } : Jvm.MethodName) method_5_code (4 : Nat) (Option.some Jvm.ClassFile.FieldType.int) [((0 : Nat), (9 : Nat), (12 : Nat), (20 : Nat))]) ∈ zgw := zwin4 (List.mem_of_getElem? (i := 20) rfl) rfl
theorem dL_legalMove_0 : decode cL_legalMove 0 = .ok (.aload_n 2, 1) := by decide +kernel
theorem dL_legalMove_1 : decode cL_legalMove 1 = .ok (.iconst 0, 1) := by decide +kernel
theorem dL_legalMove_2 : decode cL_legalMove 2 = .ok (.aload_n 0, 1) := by decide +kernel
theorem dL_legalMove_3 : decode cL_legalMove 3 = .ok (.iload_n 1, 1) := by decide +kernel
theorem dL_legalMove_4 : decode cL_legalMove 4 = .ok (.invokevirtual 22, 3) := by decide +kernel
theorem dL_legalMove_7 : decode cL_legalMove 7 = .ok (.i2l, 1) := by decide +kernel
theorem dL_legalMove_8 : decode cL_legalMove 8 = .ok (.lastore, 1) := by decide +kernel
theorem dL_legalMove_9 : decode cL_legalMove 9 = .ok (.goto 6, 3) := by decide +kernel
theorem dL_legalMove_12 : decode cL_legalMove 12 = .ok (.astore_n 3, 1) := by decide +kernel
theorem dL_legalMove_13 : decode cL_legalMove 13 = .ok (.iconst 1, 1) := by decide +kernel
theorem dL_legalMove_14 : decode cL_legalMove 14 = .ok (.ireturn, 1) := by decide +kernel
theorem dL_legalMove_15 : decode cL_legalMove 15 = .ok (.iconst 0, 1) := by decide +kernel
theorem dL_legalMove_16 : decode cL_legalMove 16 = .ok (.ireturn, 1) := by decide +kernel
def kL_legalMove_7 (mc ms : Nat) (X : Nat → zV) (Q : zQt) : zT :=
  zi2l <| zasl <| zc (.int 0) <| zri Q
def aL_legalMove_0 (mc ms : Nat) (X : Nat → zV) (Q : zQt) : zT :=
  zla 2 <| zc (.int 0) <| zla 0 <| zli 1 <| zcvx mc ms 11 1 uX11_legalMove [(eIB, 1)] Q <| kL_legalMove_7 mc ms X Q
def lvL_legalMove : Nat → List Nat := fun L => match L with
  | 0 => [0, 1, 2]
  | _ => []
def wL_legalMove : zSp := fun mc ms av M Q => ((zlay av).length ≤ 4 ∧ zpick (zlay av) [0, 1, 2] = some av) ∧ ∀ X : Nat → zV, zin 4 [0, 1, 2] (aL_legalMove_0 mc ms X Q) X 0 → X 0 0 0 av [] M
set_option maxRecDepth 100000 in
set_option maxHeartbeats 4000000 in
theorem sL_legalMove (l : Launch) (G : zG) (hE : zXt G) (hTh : zThr G) (hl : l.stackTraces = false) : zSndW l G yL_legalMove cL_legalMove 4 (some .int) [(0, 9, 12, 20)] 7 102 wL_legalMove := by
  refine zmkH [0, 1, 2] (by decide) (fun mc ms av M Q h => h.1) ?_
  intro p e R s m args below meth c mc ms av M Q hC ht hRf hRl hr hnm h lv hlv
  obtain ⟨X, hXe⟩ : ∃ X : Nat → zV, X = fun L u v vs st M => ∀ lv, zpick lv (lvL_legalMove L) = some vs → zAt p l e R s m args below meth c (MQ below (zQ G Q) args s mc ms (zA G)) G 4 L u v lv st M := ⟨_, rfl⟩
  have hJ : ∀ L, zOk p l e R s m args below meth c (MQ below (zQ G Q) args s mc ms (zA G)) G 4 L (zj X L (lvL_legalMove L)) := fun L => S_jump (fun u v lv vs st M hp hx => by rw [hXe] at hx; exact hx lv hp)
  have hB0 : zin 4 [0, 1, 2] (aL_legalMove_0 mc ms X Q) X 0 := by
    intro u v vs st M hb
    rw [hXe]
    refine fun lv hp => S_block (L := 0) (live := [0, 1, 2]) ?_ u v lv vs st M hp hb
    unfold aL_legalMove_0
    refine S_aload_n (pc := 0) hC dL_legalMove_0 rfl ?_
    refine S_iconst (pc := 1) hC dL_legalMove_1 (by decide) ?_
    refine S_aload_n (pc := 2) hC dL_legalMove_2 rfl ?_
    refine S_iload_n (pc := 3) hC dL_legalMove_3 rfl ?_
    refine S_callVX (pc := 4) (Q := Q) hC (suX11_legalMove l G hE hTh hl) rfl wd_981 wd_982 wd_983 wd_1 wd_984 (by decide +kernel) ⟨by rw [hRf]; decide, by rw [hRl]; decide⟩ dL_legalMove_4 ?_ ?_
    · intro t ht2
      simp only [List.mem_cons, List.not_mem_nil, or_false] at ht2
      subst ht2
      exact zHd_1 hC hTh hr ht rfl (by decide) (by decide) (by decide) wd_940 dL_legalMove_12 rfl (by decide) dL_legalMove_13 (by decide) dL_legalMove_14
    unfold kL_legalMove_7
    refine S_i2l (pc := 7) hC dL_legalMove_7 ?_
    refine S_lastore (pc := 8) hC dL_legalMove_8 ?_
    refine S_goto (pc := 9) (tgt := 15) hC dL_legalMove_9 (by decide) ?_
    refine S_iconst (pc := 15) hC dL_legalMove_15 (by decide) ?_
    exact S_ireturn (pc := 16) hC hr dL_legalMove_16
  have := h.2 X hB0
  rw [hXe] at this
  exact this lv hlv
def uX11_spelling : zSpX := fun mc ms av M Q EX => wX11_spelling mc ms av M Q ∨ wtX11_spelling mc ms av M Q EX
theorem suX11_spelling (l : Launch) (G : zG) (hE : zXt G) (hTh : zThr G) (hl : l.stackTraces = false) : zSndX l G yX11_spelling cX11_spelling 2 (some .long) 7 180 uX11_spelling := zor (zlift (sX11_spelling l G hE)) (stX11_spelling l G hE hTh hl)
theorem wd_991 : (Jvm.Cond.codeWith ({ cls := "GameHallLaw", name := "spelling", desc := "(LGameHall;I[J)I" } : Jvm.MethodName) method_6_code (4 : Nat) (Option.some Jvm.ClassFile.FieldType.int) [((0 : Nat), (8 : Nat), (11 : Nat), (20 : Nat))]) ∈ zgw := zwin4 (List.mem_of_getElem? (i := 31) rfl) rfl
theorem dL_spelling_0 : decode cL_spelling 0 = .ok (.aload_n 2, 1) := by decide +kernel
theorem dL_spelling_1 : decode cL_spelling 1 = .ok (.iconst 0, 1) := by decide +kernel
theorem dL_spelling_2 : decode cL_spelling 2 = .ok (.aload_n 0, 1) := by decide +kernel
theorem dL_spelling_3 : decode cL_spelling 3 = .ok (.iload_n 1, 1) := by decide +kernel
theorem dL_spelling_4 : decode cL_spelling 4 = .ok (.invokevirtual 25, 3) := by decide +kernel
theorem dL_spelling_7 : decode cL_spelling 7 = .ok (.lastore, 1) := by decide +kernel
theorem dL_spelling_8 : decode cL_spelling 8 = .ok (.goto 6, 3) := by decide +kernel
theorem dL_spelling_11 : decode cL_spelling 11 = .ok (.astore_n 3, 1) := by decide +kernel
theorem dL_spelling_12 : decode cL_spelling 12 = .ok (.iconst 1, 1) := by decide +kernel
theorem dL_spelling_13 : decode cL_spelling 13 = .ok (.ireturn, 1) := by decide +kernel
theorem dL_spelling_14 : decode cL_spelling 14 = .ok (.iconst 0, 1) := by decide +kernel
theorem dL_spelling_15 : decode cL_spelling 15 = .ok (.ireturn, 1) := by decide +kernel
def kL_spelling_7 (mc ms : Nat) (X : Nat → zV) (Q : zQt) : zT :=
  zasl <| zc (.int 0) <| zri Q
def aL_spelling_0 (mc ms : Nat) (X : Nat → zV) (Q : zQt) : zT :=
  zla 2 <| zc (.int 0) <| zla 0 <| zli 1 <| zcvx mc ms 11 1 uX11_spelling [(eIB, 1)] Q <| kL_spelling_7 mc ms X Q
def lvL_spelling : Nat → List Nat := fun L => match L with
  | 0 => [0, 1, 2]
  | _ => []
def wL_spelling : zSp := fun mc ms av M Q => ((zlay av).length ≤ 4 ∧ zpick (zlay av) [0, 1, 2] = some av) ∧ ∀ X : Nat → zV, zin 4 [0, 1, 2] (aL_spelling_0 mc ms X Q) X 0 → X 0 0 0 av [] M
set_option maxRecDepth 100000 in
set_option maxHeartbeats 4000000 in
theorem sL_spelling (l : Launch) (G : zG) (hE : zXt G) (hTh : zThr G) (hl : l.stackTraces = false) : zSndW l G yL_spelling cL_spelling 4 (some .int) [(0, 8, 11, 20)] 8 201 wL_spelling := by
  refine zmkH [0, 1, 2] (by decide) (fun mc ms av M Q h => h.1) ?_
  intro p e R s m args below meth c mc ms av M Q hC ht hRf hRl hr hnm h lv hlv
  obtain ⟨X, hXe⟩ : ∃ X : Nat → zV, X = fun L u v vs st M => ∀ lv, zpick lv (lvL_spelling L) = some vs → zAt p l e R s m args below meth c (MQ below (zQ G Q) args s mc ms (zA G)) G 4 L u v lv st M := ⟨_, rfl⟩
  have hJ : ∀ L, zOk p l e R s m args below meth c (MQ below (zQ G Q) args s mc ms (zA G)) G 4 L (zj X L (lvL_spelling L)) := fun L => S_jump (fun u v lv vs st M hp hx => by rw [hXe] at hx; exact hx lv hp)
  have hB0 : zin 4 [0, 1, 2] (aL_spelling_0 mc ms X Q) X 0 := by
    intro u v vs st M hb
    rw [hXe]
    refine fun lv hp => S_block (L := 0) (live := [0, 1, 2]) ?_ u v lv vs st M hp hb
    unfold aL_spelling_0
    refine S_aload_n (pc := 0) hC dL_spelling_0 rfl ?_
    refine S_iconst (pc := 1) hC dL_spelling_1 (by decide) ?_
    refine S_aload_n (pc := 2) hC dL_spelling_2 rfl ?_
    refine S_iload_n (pc := 3) hC dL_spelling_3 rfl ?_
    refine S_callVX (pc := 4) (Q := Q) hC (suX11_spelling l G hE hTh hl) rfl wd_992 wd_993 wd_994 wd_1 wd_995 (by decide +kernel) ⟨by rw [hRf]; decide, by rw [hRl]; decide⟩ dL_spelling_4 ?_ ?_
    · intro t ht2
      simp only [List.mem_cons, List.not_mem_nil, or_false] at ht2
      subst ht2
      exact zHd_1 hC hTh hr ht rfl (by decide) (by decide) (by decide) wd_940 dL_spelling_11 rfl (by decide) dL_spelling_12 (by decide) dL_spelling_13
    unfold kL_spelling_7
    refine S_lastore (pc := 7) hC dL_spelling_7 ?_
    refine S_goto (pc := 8) (tgt := 14) hC dL_spelling_8 (by decide) ?_
    refine S_iconst (pc := 14) hC dL_spelling_14 (by decide) ?_
    exact S_ireturn (pc := 15) hC hr dL_spelling_15
  have := h.2 X hB0
  rw [hXe] at this
  exact this lv hlv
def uX11_linesTo : zSpX := fun mc ms av M Q EX => wX11_linesTo mc ms av M Q ∨ wtX11_linesTo mc ms av M Q EX
theorem suX11_linesTo (l : Launch) (G : zG) (hE : zXt G) (hTh : zThr G) (hl : l.stackTraces = false) : zSndX l G yX11_linesTo cX11_linesTo 2 (some .long) 13 349 uX11_linesTo := zor (zlift (sX11_linesTo l G hE)) (stX11_linesTo l G hE hTh hl)
theorem wd_1003 : (Jvm.Cond.codeWith ({ cls := "GameHallLaw", name := "linesTo", desc := "(LGameHall;I[J)I" } : Jvm.MethodName) method_7_code (4 : Nat) (Option.some Jvm.ClassFile.FieldType.int) [((0 : Nat), (8 : Nat), (11 : Nat), (18 : Nat)), ((0 : Nat), (8 : Nat), (14 : Nat), (13 : Nat))]) ∈ zgw := zwin4 (List.mem_of_getElem? (i := 43) rfl) rfl
theorem dL_linesTo_0 : decode cL_linesTo 0 = .ok (.aload_n 2, 1) := by decide +kernel
theorem dL_linesTo_1 : decode cL_linesTo 1 = .ok (.iconst 0, 1) := by decide +kernel
theorem dL_linesTo_2 : decode cL_linesTo 2 = .ok (.aload_n 0, 1) := by decide +kernel
theorem dL_linesTo_3 : decode cL_linesTo 3 = .ok (.iload_n 1, 1) := by decide +kernel
theorem dL_linesTo_4 : decode cL_linesTo 4 = .ok (.invokevirtual 29, 3) := by decide +kernel
theorem dL_linesTo_7 : decode cL_linesTo 7 = .ok (.lastore, 1) := by decide +kernel
theorem dL_linesTo_8 : decode cL_linesTo 8 = .ok (.goto 9, 3) := by decide +kernel
theorem dL_linesTo_11 : decode cL_linesTo 11 = .ok (.astore_n 3, 1) := by decide +kernel
theorem dL_linesTo_12 : decode cL_linesTo 12 = .ok (.iconst 1, 1) := by decide +kernel
theorem dL_linesTo_13 : decode cL_linesTo 13 = .ok (.ireturn, 1) := by decide +kernel
theorem dL_linesTo_14 : decode cL_linesTo 14 = .ok (.astore_n 3, 1) := by decide +kernel
theorem dL_linesTo_15 : decode cL_linesTo 15 = .ok (.iconst 2, 1) := by decide +kernel
theorem dL_linesTo_16 : decode cL_linesTo 16 = .ok (.ireturn, 1) := by decide +kernel
theorem dL_linesTo_17 : decode cL_linesTo 17 = .ok (.iconst 0, 1) := by decide +kernel
theorem dL_linesTo_18 : decode cL_linesTo 18 = .ok (.ireturn, 1) := by decide +kernel
def kL_linesTo_7 (mc ms : Nat) (X : Nat → zV) (Q : zQt) : zT :=
  zasl <| zc (.int 0) <| zri Q
def aL_linesTo_0 (mc ms : Nat) (X : Nat → zV) (Q : zQt) : zT :=
  zla 2 <| zc (.int 0) <| zla 0 <| zli 1 <| zcvx mc ms 11 1 uX11_linesTo [(eIS, 1), (eIA, 2)] Q <| kL_linesTo_7 mc ms X Q
def lvL_linesTo : Nat → List Nat := fun L => match L with
  | 0 => [0, 1, 2]
  | _ => []
def wL_linesTo : zSp := fun mc ms av M Q => ((zlay av).length ≤ 4 ∧ zpick (zlay av) [0, 1, 2] = some av) ∧ ∀ X : Nat → zV, zin 4 [0, 1, 2] (aL_linesTo_0 mc ms X Q) X 0 → X 0 0 0 av [] M
set_option maxRecDepth 100000 in
set_option maxHeartbeats 4000000 in
theorem sL_linesTo (l : Launch) (G : zG) (hE : zXt G) (hTh : zThr G) (hl : l.stackTraces = false) : zSndW l G yL_linesTo cL_linesTo 4 (some .int) [(0, 8, 11, 18), (0, 8, 14, 13)] 14 370 wL_linesTo := by
  refine zmkH [0, 1, 2] (by decide) (fun mc ms av M Q h => h.1) ?_
  intro p e R s m args below meth c mc ms av M Q hC ht hRf hRl hr hnm h lv hlv
  obtain ⟨X, hXe⟩ : ∃ X : Nat → zV, X = fun L u v vs st M => ∀ lv, zpick lv (lvL_linesTo L) = some vs → zAt p l e R s m args below meth c (MQ below (zQ G Q) args s mc ms (zA G)) G 4 L u v lv st M := ⟨_, rfl⟩
  have hJ : ∀ L, zOk p l e R s m args below meth c (MQ below (zQ G Q) args s mc ms (zA G)) G 4 L (zj X L (lvL_linesTo L)) := fun L => S_jump (fun u v lv vs st M hp hx => by rw [hXe] at hx; exact hx lv hp)
  have hB0 : zin 4 [0, 1, 2] (aL_linesTo_0 mc ms X Q) X 0 := by
    intro u v vs st M hb
    rw [hXe]
    refine fun lv hp => S_block (L := 0) (live := [0, 1, 2]) ?_ u v lv vs st M hp hb
    unfold aL_linesTo_0
    refine S_aload_n (pc := 0) hC dL_linesTo_0 rfl ?_
    refine S_iconst (pc := 1) hC dL_linesTo_1 (by decide) ?_
    refine S_aload_n (pc := 2) hC dL_linesTo_2 rfl ?_
    refine S_iload_n (pc := 3) hC dL_linesTo_3 rfl ?_
    refine S_callVX (pc := 4) (Q := Q) hC (suX11_linesTo l G hE hTh hl) rfl wd_1004 wd_1005 wd_1006 wd_1 wd_1007 (by decide +kernel) ⟨by rw [hRf]; decide, by rw [hRl]; decide⟩ dL_linesTo_4 ?_ ?_
    · intro t ht2
      simp only [List.mem_cons, List.not_mem_nil, or_false] at ht2
      rcases ht2 with rfl | rfl
      · exact zHd_1 hC hTh hr ht rfl (by decide) (by decide) (by decide) wd_939 dL_linesTo_11 rfl (by decide) dL_linesTo_12 (by decide) dL_linesTo_13
      · exact zHd_2 hC hTh hr ht rfl (by decide) (by decide) (by decide) (by decide) (by decide) (by decide) (by decide) wd_939 wd_599 dL_linesTo_14 rfl (by decide) dL_linesTo_15 (by decide) dL_linesTo_16
    unfold kL_linesTo_7
    refine S_lastore (pc := 7) hC dL_linesTo_7 ?_
    refine S_goto (pc := 8) (tgt := 17) hC dL_linesTo_8 (by decide) ?_
    refine S_iconst (pc := 17) hC dL_linesTo_17 (by decide) ?_
    exact S_ireturn (pc := 18) hC hr dL_linesTo_18
  have := h.2 X hB0
  rw [hXe] at this
  exact this lv hlv
def uX11_valueAt : zSpX := fun mc ms av M Q EX => wX11_valueAt mc ms av M Q ∨ wtX11_valueAt mc ms av M Q EX
theorem suX11_valueAt (l : Launch) (G : zG) (hE : zXt G) (hTh : zThr G) (hl : l.stackTraces = false) : zSndX l G yX11_valueAt cX11_valueAt 2 (some .int) 13 372 uX11_valueAt := zor (zlift (sX11_valueAt l G hE)) (stX11_valueAt l G hE hTh hl)
theorem wd_1024 : (Jvm.Cond.codeWith ({ cls := "GameHallLaw", name := "valueAt", desc := "(LGameHall;I[J)I" } : Jvm.MethodName) method_8_code (4 : Nat) (Option.some Jvm.ClassFile.FieldType.int) [((0 : Nat), (9 : Nat), (12 : Nat), (18 : Nat)), ((0 : Nat), (9 : Nat), (15 : Nat), (13 : Nat))]) ∈ zgw := zwin4 (List.mem_of_getElem? (i := 64) rfl) rfl
theorem dL_valueAt_0 : decode cL_valueAt 0 = .ok (.aload_n 2, 1) := by decide +kernel
theorem dL_valueAt_1 : decode cL_valueAt 1 = .ok (.iconst 0, 1) := by decide +kernel
theorem dL_valueAt_2 : decode cL_valueAt 2 = .ok (.aload_n 0, 1) := by decide +kernel
theorem dL_valueAt_3 : decode cL_valueAt 3 = .ok (.iload_n 1, 1) := by decide +kernel
theorem dL_valueAt_4 : decode cL_valueAt 4 = .ok (.invokevirtual 32, 3) := by decide +kernel
theorem dL_valueAt_7 : decode cL_valueAt 7 = .ok (.i2l, 1) := by decide +kernel
theorem dL_valueAt_8 : decode cL_valueAt 8 = .ok (.lastore, 1) := by decide +kernel
theorem dL_valueAt_9 : decode cL_valueAt 9 = .ok (.goto 9, 3) := by decide +kernel
theorem dL_valueAt_12 : decode cL_valueAt 12 = .ok (.astore_n 3, 1) := by decide +kernel
theorem dL_valueAt_13 : decode cL_valueAt 13 = .ok (.iconst 1, 1) := by decide +kernel
theorem dL_valueAt_14 : decode cL_valueAt 14 = .ok (.ireturn, 1) := by decide +kernel
theorem dL_valueAt_15 : decode cL_valueAt 15 = .ok (.astore_n 3, 1) := by decide +kernel
theorem dL_valueAt_16 : decode cL_valueAt 16 = .ok (.iconst 2, 1) := by decide +kernel
theorem dL_valueAt_17 : decode cL_valueAt 17 = .ok (.ireturn, 1) := by decide +kernel
theorem dL_valueAt_18 : decode cL_valueAt 18 = .ok (.iconst 0, 1) := by decide +kernel
theorem dL_valueAt_19 : decode cL_valueAt 19 = .ok (.ireturn, 1) := by decide +kernel
def kL_valueAt_7 (mc ms : Nat) (X : Nat → zV) (Q : zQt) : zT :=
  zi2l <| zasl <| zc (.int 0) <| zri Q
def aL_valueAt_0 (mc ms : Nat) (X : Nat → zV) (Q : zQt) : zT :=
  zla 2 <| zc (.int 0) <| zla 0 <| zli 1 <| zcvx mc ms 11 1 uX11_valueAt [(eIS, 1), (eIA, 2)] Q <| kL_valueAt_7 mc ms X Q
def lvL_valueAt : Nat → List Nat := fun L => match L with
  | 0 => [0, 1, 2]
  | _ => []
def wL_valueAt : zSp := fun mc ms av M Q => ((zlay av).length ≤ 4 ∧ zpick (zlay av) [0, 1, 2] = some av) ∧ ∀ X : Nat → zV, zin 4 [0, 1, 2] (aL_valueAt_0 mc ms X Q) X 0 → X 0 0 0 av [] M
set_option maxRecDepth 100000 in
set_option maxHeartbeats 4000000 in
theorem sL_valueAt (l : Launch) (G : zG) (hE : zXt G) (hTh : zThr G) (hl : l.stackTraces = false) : zSndW l G yL_valueAt cL_valueAt 4 (some .int) [(0, 9, 12, 18), (0, 9, 15, 13)] 14 393 wL_valueAt := by
  refine zmkH [0, 1, 2] (by decide) (fun mc ms av M Q h => h.1) ?_
  intro p e R s m args below meth c mc ms av M Q hC ht hRf hRl hr hnm h lv hlv
  obtain ⟨X, hXe⟩ : ∃ X : Nat → zV, X = fun L u v vs st M => ∀ lv, zpick lv (lvL_valueAt L) = some vs → zAt p l e R s m args below meth c (MQ below (zQ G Q) args s mc ms (zA G)) G 4 L u v lv st M := ⟨_, rfl⟩
  have hJ : ∀ L, zOk p l e R s m args below meth c (MQ below (zQ G Q) args s mc ms (zA G)) G 4 L (zj X L (lvL_valueAt L)) := fun L => S_jump (fun u v lv vs st M hp hx => by rw [hXe] at hx; exact hx lv hp)
  have hB0 : zin 4 [0, 1, 2] (aL_valueAt_0 mc ms X Q) X 0 := by
    intro u v vs st M hb
    rw [hXe]
    refine fun lv hp => S_block (L := 0) (live := [0, 1, 2]) ?_ u v lv vs st M hp hb
    unfold aL_valueAt_0
    refine S_aload_n (pc := 0) hC dL_valueAt_0 rfl ?_
    refine S_iconst (pc := 1) hC dL_valueAt_1 (by decide) ?_
    refine S_aload_n (pc := 2) hC dL_valueAt_2 rfl ?_
    refine S_iload_n (pc := 3) hC dL_valueAt_3 rfl ?_
    refine S_callVX (pc := 4) (Q := Q) hC (suX11_valueAt l G hE hTh hl) rfl wd_1025 wd_1026 wd_1027 wd_1 wd_1028 (by decide +kernel) ⟨by rw [hRf]; decide, by rw [hRl]; decide⟩ dL_valueAt_4 ?_ ?_
    · intro t ht2
      simp only [List.mem_cons, List.not_mem_nil, or_false] at ht2
      rcases ht2 with rfl | rfl
      · exact zHd_1 hC hTh hr ht rfl (by decide) (by decide) (by decide) wd_939 dL_valueAt_12 rfl (by decide) dL_valueAt_13 (by decide) dL_valueAt_14
      · exact zHd_2 hC hTh hr ht rfl (by decide) (by decide) (by decide) (by decide) (by decide) (by decide) (by decide) wd_939 wd_599 dL_valueAt_15 rfl (by decide) dL_valueAt_16 (by decide) dL_valueAt_17
    unfold kL_valueAt_7
    refine S_i2l (pc := 7) hC dL_valueAt_7 ?_
    refine S_lastore (pc := 8) hC dL_valueAt_8 ?_
    refine S_goto (pc := 9) (tgt := 18) hC dL_valueAt_9 (by decide) ?_
    refine S_iconst (pc := 18) hC dL_valueAt_18 (by decide) ?_
    exact S_ireturn (pc := 19) hC hr dL_valueAt_19
  have := h.2 X hB0
  rw [hXe] at this
  exact this lv hlv
def uX11_bestAt : zSpX := fun mc ms av M Q EX => wX11_bestAt mc ms av M Q ∨ wtX11_bestAt mc ms av M Q EX
theorem suX11_bestAt (l : Launch) (G : zG) (hE : zXt G) (hTh : zThr G) (hl : l.stackTraces = false) : zSndX l G yX11_bestAt cX11_bestAt 2 (some .int) 13 372 uX11_bestAt := zor (zlift (sX11_bestAt l G hE)) (stX11_bestAt l G hE hTh hl)
theorem wd_1044 : (Jvm.Cond.codeWith ({ cls := "GameHallLaw", name := "bestAt", desc := "(LGameHall;I[J)I" } : Jvm.MethodName) method_9_code (4 : Nat) (Option.some Jvm.ClassFile.FieldType.int) [((0 : Nat), (9 : Nat), (12 : Nat), (18 : Nat)), ((0 : Nat), (9 : Nat), (15 : Nat), (13 : Nat))]) ∈ zgw := zwin4 (List.mem_of_getElem? (i := 84) rfl) rfl
theorem dL_bestAt_0 : decode cL_bestAt 0 = .ok (.aload_n 2, 1) := by decide +kernel
theorem dL_bestAt_1 : decode cL_bestAt 1 = .ok (.iconst 0, 1) := by decide +kernel
theorem dL_bestAt_2 : decode cL_bestAt 2 = .ok (.aload_n 0, 1) := by decide +kernel
theorem dL_bestAt_3 : decode cL_bestAt 3 = .ok (.iload_n 1, 1) := by decide +kernel
theorem dL_bestAt_4 : decode cL_bestAt 4 = .ok (.invokevirtual 35, 3) := by decide +kernel
theorem dL_bestAt_7 : decode cL_bestAt 7 = .ok (.i2l, 1) := by decide +kernel
theorem dL_bestAt_8 : decode cL_bestAt 8 = .ok (.lastore, 1) := by decide +kernel
theorem dL_bestAt_9 : decode cL_bestAt 9 = .ok (.goto 9, 3) := by decide +kernel
theorem dL_bestAt_12 : decode cL_bestAt 12 = .ok (.astore_n 3, 1) := by decide +kernel
theorem dL_bestAt_13 : decode cL_bestAt 13 = .ok (.iconst 1, 1) := by decide +kernel
theorem dL_bestAt_14 : decode cL_bestAt 14 = .ok (.ireturn, 1) := by decide +kernel
theorem dL_bestAt_15 : decode cL_bestAt 15 = .ok (.astore_n 3, 1) := by decide +kernel
theorem dL_bestAt_16 : decode cL_bestAt 16 = .ok (.iconst 2, 1) := by decide +kernel
theorem dL_bestAt_17 : decode cL_bestAt 17 = .ok (.ireturn, 1) := by decide +kernel
theorem dL_bestAt_18 : decode cL_bestAt 18 = .ok (.iconst 0, 1) := by decide +kernel
theorem dL_bestAt_19 : decode cL_bestAt 19 = .ok (.ireturn, 1) := by decide +kernel
def kL_bestAt_7 (mc ms : Nat) (X : Nat → zV) (Q : zQt) : zT :=
  zi2l <| zasl <| zc (.int 0) <| zri Q
def aL_bestAt_0 (mc ms : Nat) (X : Nat → zV) (Q : zQt) : zT :=
  zla 2 <| zc (.int 0) <| zla 0 <| zli 1 <| zcvx mc ms 11 1 uX11_bestAt [(eIS, 1), (eIA, 2)] Q <| kL_bestAt_7 mc ms X Q
def lvL_bestAt : Nat → List Nat := fun L => match L with
  | 0 => [0, 1, 2]
  | _ => []
def wL_bestAt : zSp := fun mc ms av M Q => ((zlay av).length ≤ 4 ∧ zpick (zlay av) [0, 1, 2] = some av) ∧ ∀ X : Nat → zV, zin 4 [0, 1, 2] (aL_bestAt_0 mc ms X Q) X 0 → X 0 0 0 av [] M
set_option maxRecDepth 100000 in
set_option maxHeartbeats 4000000 in
theorem sL_bestAt (l : Launch) (G : zG) (hE : zXt G) (hTh : zThr G) (hl : l.stackTraces = false) : zSndW l G yL_bestAt cL_bestAt 4 (some .int) [(0, 9, 12, 18), (0, 9, 15, 13)] 14 393 wL_bestAt := by
  refine zmkH [0, 1, 2] (by decide) (fun mc ms av M Q h => h.1) ?_
  intro p e R s m args below meth c mc ms av M Q hC ht hRf hRl hr hnm h lv hlv
  obtain ⟨X, hXe⟩ : ∃ X : Nat → zV, X = fun L u v vs st M => ∀ lv, zpick lv (lvL_bestAt L) = some vs → zAt p l e R s m args below meth c (MQ below (zQ G Q) args s mc ms (zA G)) G 4 L u v lv st M := ⟨_, rfl⟩
  have hJ : ∀ L, zOk p l e R s m args below meth c (MQ below (zQ G Q) args s mc ms (zA G)) G 4 L (zj X L (lvL_bestAt L)) := fun L => S_jump (fun u v lv vs st M hp hx => by rw [hXe] at hx; exact hx lv hp)
  have hB0 : zin 4 [0, 1, 2] (aL_bestAt_0 mc ms X Q) X 0 := by
    intro u v vs st M hb
    rw [hXe]
    refine fun lv hp => S_block (L := 0) (live := [0, 1, 2]) ?_ u v lv vs st M hp hb
    unfold aL_bestAt_0
    refine S_aload_n (pc := 0) hC dL_bestAt_0 rfl ?_
    refine S_iconst (pc := 1) hC dL_bestAt_1 (by decide) ?_
    refine S_aload_n (pc := 2) hC dL_bestAt_2 rfl ?_
    refine S_iload_n (pc := 3) hC dL_bestAt_3 rfl ?_
    refine S_callVX (pc := 4) (Q := Q) hC (suX11_bestAt l G hE hTh hl) rfl wd_1045 wd_1046 wd_1047 wd_1 wd_1048 (by decide +kernel) ⟨by rw [hRf]; decide, by rw [hRl]; decide⟩ dL_bestAt_4 ?_ ?_
    · intro t ht2
      simp only [List.mem_cons, List.not_mem_nil, or_false] at ht2
      rcases ht2 with rfl | rfl
      · exact zHd_1 hC hTh hr ht rfl (by decide) (by decide) (by decide) wd_939 dL_bestAt_12 rfl (by decide) dL_bestAt_13 (by decide) dL_bestAt_14
      · exact zHd_2 hC hTh hr ht rfl (by decide) (by decide) (by decide) (by decide) (by decide) (by decide) (by decide) wd_939 wd_599 dL_bestAt_15 rfl (by decide) dL_bestAt_16 (by decide) dL_bestAt_17
    unfold kL_bestAt_7
    refine S_i2l (pc := 7) hC dL_bestAt_7 ?_
    refine S_lastore (pc := 8) hC dL_bestAt_8 ?_
    refine S_goto (pc := 9) (tgt := 18) hC dL_bestAt_9 (by decide) ?_
    refine S_iconst (pc := 18) hC dL_bestAt_18 (by decide) ?_
    exact S_ireturn (pc := 19) hC hr dL_bestAt_19
  have := h.2 X hB0
  rw [hXe] at this
  exact this lv hlv
def uX11_distanceToMate : zSpX := fun mc ms av M Q EX => wX11_distanceToMate mc ms av M Q ∨ wtX11_distanceToMate mc ms av M Q EX
theorem suX11_distanceToMate (l : Launch) (G : zG) (hE : zXt G) (hTh : zThr G) (hl : l.stackTraces = false) : zSndX l G yX11_distanceToMate cX11_distanceToMate 1 (some .int) 6 158 uX11_distanceToMate := zor (zlift (sX11_distanceToMate l G)) (stX11_distanceToMate l G hE hTh hl)
theorem wd_1051 : (Jvm.Cond.codeWith ({ cls := "GameHallLaw", name := "distanceToMate", desc := "(LGameHall;[J)I" } : Jvm.MethodName) method_10_code (3 : Nat) (Option.some Jvm.ClassFile.FieldType.int) [((0 : Nat), (8 : Nat), (11 : Nat), (18 : Nat))]) ∈ zgw := zwin4 (List.mem_of_getElem? (i := 91) rfl) rfl
theorem dL_distanceToMate_0 : decode cL_distanceToMate 0 = .ok (.aload_n 1, 1) := by decide +kernel
theorem dL_distanceToMate_1 : decode cL_distanceToMate 1 = .ok (.iconst 0, 1) := by decide +kernel
theorem dL_distanceToMate_2 : decode cL_distanceToMate 2 = .ok (.aload_n 0, 1) := by decide +kernel
theorem dL_distanceToMate_3 : decode cL_distanceToMate 3 = .ok (.invokevirtual 38, 3) := by decide +kernel
theorem dL_distanceToMate_6 : decode cL_distanceToMate 6 = .ok (.i2l, 1) := by decide +kernel
theorem dL_distanceToMate_7 : decode cL_distanceToMate 7 = .ok (.lastore, 1) := by decide +kernel
theorem dL_distanceToMate_8 : decode cL_distanceToMate 8 = .ok (.goto 6, 3) := by decide +kernel
theorem dL_distanceToMate_11 : decode cL_distanceToMate 11 = .ok (.astore_n 2, 1) := by decide +kernel
theorem dL_distanceToMate_12 : decode cL_distanceToMate 12 = .ok (.iconst 1, 1) := by decide +kernel
theorem dL_distanceToMate_13 : decode cL_distanceToMate 13 = .ok (.ireturn, 1) := by decide +kernel
theorem dL_distanceToMate_14 : decode cL_distanceToMate 14 = .ok (.iconst 0, 1) := by decide +kernel
theorem dL_distanceToMate_15 : decode cL_distanceToMate 15 = .ok (.ireturn, 1) := by decide +kernel
def kL_distanceToMate_6 (mc ms : Nat) (X : Nat → zV) (Q : zQt) : zT :=
  zi2l <| zasl <| zc (.int 0) <| zri Q
def aL_distanceToMate_0 (mc ms : Nat) (X : Nat → zV) (Q : zQt) : zT :=
  zla 1 <| zc (.int 0) <| zla 0 <| zcvx mc ms 11 0 uX11_distanceToMate [(eIS, 1)] Q <| kL_distanceToMate_6 mc ms X Q
def lvL_distanceToMate : Nat → List Nat := fun L => match L with
  | 0 => [0, 1]
  | _ => []
def wL_distanceToMate : zSp := fun mc ms av M Q => ((zlay av).length ≤ 3 ∧ zpick (zlay av) [0, 1] = some av) ∧ ∀ X : Nat → zV, zin 3 [0, 1] (aL_distanceToMate_0 mc ms X Q) X 0 → X 0 0 0 av [] M
set_option maxRecDepth 100000 in
set_option maxHeartbeats 4000000 in
theorem sL_distanceToMate (l : Launch) (G : zG) (hE : zXt G) (hTh : zThr G) (hl : l.stackTraces = false) : zSndW l G yL_distanceToMate cL_distanceToMate 3 (some .int) [(0, 8, 11, 18)] 7 178 wL_distanceToMate := by
  refine zmkH [0, 1] (by decide) (fun mc ms av M Q h => h.1) ?_
  intro p e R s m args below meth c mc ms av M Q hC ht hRf hRl hr hnm h lv hlv
  obtain ⟨X, hXe⟩ : ∃ X : Nat → zV, X = fun L u v vs st M => ∀ lv, zpick lv (lvL_distanceToMate L) = some vs → zAt p l e R s m args below meth c (MQ below (zQ G Q) args s mc ms (zA G)) G 3 L u v lv st M := ⟨_, rfl⟩
  have hJ : ∀ L, zOk p l e R s m args below meth c (MQ below (zQ G Q) args s mc ms (zA G)) G 3 L (zj X L (lvL_distanceToMate L)) := fun L => S_jump (fun u v lv vs st M hp hx => by rw [hXe] at hx; exact hx lv hp)
  have hB0 : zin 3 [0, 1] (aL_distanceToMate_0 mc ms X Q) X 0 := by
    intro u v vs st M hb
    rw [hXe]
    refine fun lv hp => S_block (L := 0) (live := [0, 1]) ?_ u v lv vs st M hp hb
    unfold aL_distanceToMate_0
    refine S_aload_n (pc := 0) hC dL_distanceToMate_0 rfl ?_
    refine S_iconst (pc := 1) hC dL_distanceToMate_1 (by decide) ?_
    refine S_aload_n (pc := 2) hC dL_distanceToMate_2 rfl ?_
    refine S_callVX (pc := 3) (Q := Q) hC (suX11_distanceToMate l G hE hTh hl) rfl wd_1052 wd_1053 wd_1054 wd_1 wd_1055 (by decide +kernel) ⟨by rw [hRf]; decide, by rw [hRl]; decide⟩ dL_distanceToMate_3 ?_ ?_
    · intro t ht2
      simp only [List.mem_cons, List.not_mem_nil, or_false] at ht2
      subst ht2
      exact zHd_1 hC hTh hr ht rfl (by decide) (by decide) (by decide) wd_939 dL_distanceToMate_11 rfl (by decide) dL_distanceToMate_12 (by decide) dL_distanceToMate_13
    unfold kL_distanceToMate_6
    refine S_i2l (pc := 6) hC dL_distanceToMate_6 ?_
    refine S_lastore (pc := 7) hC dL_distanceToMate_7 ?_
    refine S_goto (pc := 8) (tgt := 14) hC dL_distanceToMate_8 (by decide) ?_
    refine S_iconst (pc := 14) hC dL_distanceToMate_14 (by decide) ?_
    exact S_ireturn (pc := 15) hC hr dL_distanceToMate_15
  have := h.2 X hB0
  rw [hXe] at this
  exact this lv hlv
def uX11_matingMove : zSpX := fun mc ms av M Q EX => wX11_matingMove mc ms av M Q ∨ wtX11_matingMove mc ms av M Q EX
theorem suX11_matingMove (l : Launch) (G : zG) (hE : zXt G) (hTh : zThr G) (hl : l.stackTraces = false) : zSndX l G yX11_matingMove cX11_matingMove 1 (some .int) 7 182 uX11_matingMove := zor (zlift (sX11_matingMove l G hE)) (stX11_matingMove l G hE hTh hl)
theorem wd_1166 : (Jvm.Cond.codeWith ({ cls := "GameHallLaw", name := "matingMove", desc := "(LGameHall;[J)I" } : Jvm.MethodName) method_11_code (3 : Nat) (Option.some Jvm.ClassFile.FieldType.int) [((0 : Nat), (8 : Nat), (11 : Nat), (18 : Nat))]) ∈ zgw := zwin4 (List.mem_of_getElem? (i := 206) rfl) rfl
theorem dL_matingMove_0 : decode cL_matingMove 0 = .ok (.aload_n 1, 1) := by decide +kernel
theorem dL_matingMove_1 : decode cL_matingMove 1 = .ok (.iconst 0, 1) := by decide +kernel
theorem dL_matingMove_2 : decode cL_matingMove 2 = .ok (.aload_n 0, 1) := by decide +kernel
theorem dL_matingMove_3 : decode cL_matingMove 3 = .ok (.invokevirtual 42, 3) := by decide +kernel
theorem dL_matingMove_6 : decode cL_matingMove 6 = .ok (.i2l, 1) := by decide +kernel
theorem dL_matingMove_7 : decode cL_matingMove 7 = .ok (.lastore, 1) := by decide +kernel
theorem dL_matingMove_8 : decode cL_matingMove 8 = .ok (.goto 6, 3) := by decide +kernel
theorem dL_matingMove_11 : decode cL_matingMove 11 = .ok (.astore_n 2, 1) := by decide +kernel
theorem dL_matingMove_12 : decode cL_matingMove 12 = .ok (.iconst 1, 1) := by decide +kernel
theorem dL_matingMove_13 : decode cL_matingMove 13 = .ok (.ireturn, 1) := by decide +kernel
theorem dL_matingMove_14 : decode cL_matingMove 14 = .ok (.iconst 0, 1) := by decide +kernel
theorem dL_matingMove_15 : decode cL_matingMove 15 = .ok (.ireturn, 1) := by decide +kernel
def kL_matingMove_6 (mc ms : Nat) (X : Nat → zV) (Q : zQt) : zT :=
  zi2l <| zasl <| zc (.int 0) <| zri Q
def aL_matingMove_0 (mc ms : Nat) (X : Nat → zV) (Q : zQt) : zT :=
  zla 1 <| zc (.int 0) <| zla 0 <| zcvx mc ms 11 0 uX11_matingMove [(eIS, 1)] Q <| kL_matingMove_6 mc ms X Q
def lvL_matingMove : Nat → List Nat := fun L => match L with
  | 0 => [0, 1]
  | _ => []
def wL_matingMove : zSp := fun mc ms av M Q => ((zlay av).length ≤ 3 ∧ zpick (zlay av) [0, 1] = some av) ∧ ∀ X : Nat → zV, zin 3 [0, 1] (aL_matingMove_0 mc ms X Q) X 0 → X 0 0 0 av [] M
set_option maxRecDepth 100000 in
set_option maxHeartbeats 4000000 in
theorem sL_matingMove (l : Launch) (G : zG) (hE : zXt G) (hTh : zThr G) (hl : l.stackTraces = false) : zSndW l G yL_matingMove cL_matingMove 3 (some .int) [(0, 8, 11, 18)] 8 202 wL_matingMove := by
  refine zmkH [0, 1] (by decide) (fun mc ms av M Q h => h.1) ?_
  intro p e R s m args below meth c mc ms av M Q hC ht hRf hRl hr hnm h lv hlv
  obtain ⟨X, hXe⟩ : ∃ X : Nat → zV, X = fun L u v vs st M => ∀ lv, zpick lv (lvL_matingMove L) = some vs → zAt p l e R s m args below meth c (MQ below (zQ G Q) args s mc ms (zA G)) G 3 L u v lv st M := ⟨_, rfl⟩
  have hJ : ∀ L, zOk p l e R s m args below meth c (MQ below (zQ G Q) args s mc ms (zA G)) G 3 L (zj X L (lvL_matingMove L)) := fun L => S_jump (fun u v lv vs st M hp hx => by rw [hXe] at hx; exact hx lv hp)
  have hB0 : zin 3 [0, 1] (aL_matingMove_0 mc ms X Q) X 0 := by
    intro u v vs st M hb
    rw [hXe]
    refine fun lv hp => S_block (L := 0) (live := [0, 1]) ?_ u v lv vs st M hp hb
    unfold aL_matingMove_0
    refine S_aload_n (pc := 0) hC dL_matingMove_0 rfl ?_
    refine S_iconst (pc := 1) hC dL_matingMove_1 (by decide) ?_
    refine S_aload_n (pc := 2) hC dL_matingMove_2 rfl ?_
    refine S_callVX (pc := 3) (Q := Q) hC (suX11_matingMove l G hE hTh hl) rfl wd_1167 wd_1168 wd_1169 wd_1 wd_1170 (by decide +kernel) ⟨by rw [hRf]; decide, by rw [hRl]; decide⟩ dL_matingMove_3 ?_ ?_
    · intro t ht2
      simp only [List.mem_cons, List.not_mem_nil, or_false] at ht2
      subst ht2
      exact zHd_1 hC hTh hr ht rfl (by decide) (by decide) (by decide) wd_939 dL_matingMove_11 rfl (by decide) dL_matingMove_12 (by decide) dL_matingMove_13
    unfold kL_matingMove_6
    refine S_i2l (pc := 6) hC dL_matingMove_6 ?_
    refine S_lastore (pc := 7) hC dL_matingMove_7 ?_
    refine S_goto (pc := 8) (tgt := 14) hC dL_matingMove_8 (by decide) ?_
    refine S_iconst (pc := 14) hC dL_matingMove_14 (by decide) ?_
    exact S_ireturn (pc := 15) hC hr dL_matingMove_15
  have := h.2 X hB0
  rw [hXe] at this
  exact this lv hlv
def uX11_historyOf : zSpX := wtX11_historyOf
theorem suX11_historyOf (l : Launch) (G : zG) (hE : zXt G) (hTh : zThr G) (hl : l.stackTraces = false) : zSndX l G yX11_historyOf cX11_historyOf 3 (some .int) 6 81 uX11_historyOf := stX11_historyOf l G hE hTh hl
theorem wd_1180 : (Jvm.Cond.codeWith ({ cls := "GameHallLaw", name := "historyOf", desc := "(LGameHall;II[J)I" } : Jvm.MethodName) method_12_code (5 : Nat) (Option.some Jvm.ClassFile.FieldType.int) [((0 : Nat), (10 : Nat), (13 : Nat), (20 : Nat))]) ∈ zgw := zwin4 (List.mem_of_getElem? (i := 220) rfl) rfl
theorem dL_historyOf_0 : decode cL_historyOf 0 = .ok (.aload_n 3, 1) := by decide +kernel
theorem dL_historyOf_1 : decode cL_historyOf 1 = .ok (.iconst 0, 1) := by decide +kernel
theorem dL_historyOf_2 : decode cL_historyOf 2 = .ok (.aload_n 0, 1) := by decide +kernel
theorem dL_historyOf_3 : decode cL_historyOf 3 = .ok (.iload_n 1, 1) := by decide +kernel
theorem dL_historyOf_4 : decode cL_historyOf 4 = .ok (.iload_n 2, 1) := by decide +kernel
theorem dL_historyOf_5 : decode cL_historyOf 5 = .ok (.invokevirtual 45, 3) := by decide +kernel
theorem dL_historyOf_8 : decode cL_historyOf 8 = .ok (.i2l, 1) := by decide +kernel
theorem dL_historyOf_9 : decode cL_historyOf 9 = .ok (.lastore, 1) := by decide +kernel
theorem dL_historyOf_10 : decode cL_historyOf 10 = .ok (.goto 7, 3) := by decide +kernel
theorem dL_historyOf_13 : decode cL_historyOf 13 = .ok (.astore 4, 2) := by decide +kernel
theorem dL_historyOf_15 : decode cL_historyOf 15 = .ok (.iconst 1, 1) := by decide +kernel
theorem dL_historyOf_16 : decode cL_historyOf 16 = .ok (.ireturn, 1) := by decide +kernel
theorem dL_historyOf_17 : decode cL_historyOf 17 = .ok (.iconst 0, 1) := by decide +kernel
theorem dL_historyOf_18 : decode cL_historyOf 18 = .ok (.ireturn, 1) := by decide +kernel
def kL_historyOf_8 (mc ms : Nat) (X : Nat → zV) (Q : zQt) : zT :=
  zi2l <| zasl <| zc (.int 0) <| zri Q
def aL_historyOf_0 (mc ms : Nat) (X : Nat → zV) (Q : zQt) : zT :=
  zla 3 <| zc (.int 0) <| zla 0 <| zli 1 <| zli 2 <| zcvx mc ms 11 2 uX11_historyOf [(eIB, 1)] Q <| kL_historyOf_8 mc ms X Q
def lvL_historyOf : Nat → List Nat := fun L => match L with
  | 0 => [0, 1, 2, 3]
  | _ => []
def wL_historyOf : zSp := fun mc ms av M Q => ((zlay av).length ≤ 5 ∧ zpick (zlay av) [0, 1, 2, 3] = some av) ∧ ∀ X : Nat → zV, zin 5 [0, 1, 2, 3] (aL_historyOf_0 mc ms X Q) X 0 → X 0 0 0 av [] M
set_option maxRecDepth 100000 in
set_option maxHeartbeats 4000000 in
theorem sL_historyOf (l : Launch) (G : zG) (hE : zXt G) (hTh : zThr G) (hl : l.stackTraces = false) : zSndW l G yL_historyOf cL_historyOf 5 (some .int) [(0, 10, 13, 20)] 7 103 wL_historyOf := by
  refine zmkH [0, 1, 2, 3] (by decide) (fun mc ms av M Q h => h.1) ?_
  intro p e R s m args below meth c mc ms av M Q hC ht hRf hRl hr hnm h lv hlv
  obtain ⟨X, hXe⟩ : ∃ X : Nat → zV, X = fun L u v vs st M => ∀ lv, zpick lv (lvL_historyOf L) = some vs → zAt p l e R s m args below meth c (MQ below (zQ G Q) args s mc ms (zA G)) G 5 L u v lv st M := ⟨_, rfl⟩
  have hJ : ∀ L, zOk p l e R s m args below meth c (MQ below (zQ G Q) args s mc ms (zA G)) G 5 L (zj X L (lvL_historyOf L)) := fun L => S_jump (fun u v lv vs st M hp hx => by rw [hXe] at hx; exact hx lv hp)
  have hB0 : zin 5 [0, 1, 2, 3] (aL_historyOf_0 mc ms X Q) X 0 := by
    intro u v vs st M hb
    rw [hXe]
    refine fun lv hp => S_block (L := 0) (live := [0, 1, 2, 3]) ?_ u v lv vs st M hp hb
    unfold aL_historyOf_0
    refine S_aload_n (pc := 0) hC dL_historyOf_0 rfl ?_
    refine S_iconst (pc := 1) hC dL_historyOf_1 (by decide) ?_
    refine S_aload_n (pc := 2) hC dL_historyOf_2 rfl ?_
    refine S_iload_n (pc := 3) hC dL_historyOf_3 rfl ?_
    refine S_iload_n (pc := 4) hC dL_historyOf_4 rfl ?_
    refine S_callVX (pc := 5) (Q := Q) hC (suX11_historyOf l G hE hTh hl) rfl wd_1181 wd_1182 wd_1183 wd_1 wd_1184 (by decide +kernel) ⟨by rw [hRf]; decide, by rw [hRl]; decide⟩ dL_historyOf_5 ?_ ?_
    · intro t ht2
      simp only [List.mem_cons, List.not_mem_nil, or_false] at ht2
      subst ht2
      exact zHd_1w hC hTh hr ht rfl (by decide) (by decide) (by decide) wd_940 dL_historyOf_13 (by decide) dL_historyOf_15 (by decide) dL_historyOf_16
    unfold kL_historyOf_8
    refine S_i2l (pc := 8) hC dL_historyOf_8 ?_
    refine S_lastore (pc := 9) hC dL_historyOf_9 ?_
    refine S_goto (pc := 10) (tgt := 17) hC dL_historyOf_10 (by decide) ?_
    refine S_iconst (pc := 17) hC dL_historyOf_17 (by decide) ?_
    exact S_ireturn (pc := 18) hC hr dL_historyOf_18
  have := h.2 X hB0
  rw [hXe] at this
  exact this lv hlv
