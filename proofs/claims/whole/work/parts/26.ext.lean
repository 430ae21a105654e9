/-! STRINGS, NEST MATES, ROWS OF REFERENCES: what stands outside the program's cells -/
def zno : zT := fun _ _ _ _ _ => False
def zslen : List Nat := [13, 4]
def zsbyt : List (List Int32) := [[32, 80, 78, 66, 82, 81, 75, 112, 110, 98, 114, 113, 107], [75, 81, 107, 113]]
def zstab : List (String × Nat × String × Nat) := [("GameHall$RecordWriter", 67, " PNBRQKpnbrqk", 0), ("GameHall$RecordWriter", 39, "KQkq", 1), ("GameHall$Reader", 77, " PNBRQKpnbrqk", 0), ("GameHall$Reader", 91, "KQkq", 1), ("GameHall$Word", 36, " PNBRQKpnbrqk", 0), ("GameHall$Speller", 49, " PNBRQKpnbrqk", 0)]
/-- the strings are the cells 5 and 6, their bytes the cells 7 and 8 -/
def zStr (G : zG) : Prop := ∀ (U : State) (H : Heap), G.2.2.2.2 U H → vk_S 2 zslen zsbyt (fun i => G.2.1 (5 + i)) (fun i => G.2.1 (7 + i)) (zA G) U H ∧ (∀ t ∈ zstab, vk_R t.1 t.2.1 t.2.2.1 (G.2.1 (5 + t.2.2.2)) U) ∧ va_Z "java/lang/String" "COMPACT_STRINGS" "Z" (.int 1) (zA G) U H
def zNst (G : zG) : Prop := ∀ (U : State) (H : Heap), G.2.2.2.2 U H → va_Nw (.methodLinkNest "GameHall$Reader" 21 yX10_init "GameHall") U ∧ va_Nw (.methodLinkNest "GameHallModel" 338 yX12_distanceOf "GameHallModel") U ∧ va_AO RX2 U
/-- the formatter of the JDK's refusals: null or the cell 9 -/
def zFmt (G : zG) : Prop := ∀ (U : State) (H : Heap), G.2.2.2.2 U H → va_Z "jdk/internal/util/Preconditions" "SIOOBE_FORMATTER" "Ljava/util/function/BiFunction;" .null (zA G) U H ∨ va_Z "jdk/internal/util/Preconditions" "SIOOBE_FORMATTER" "Ljava/util/function/BiFunction;" (.ref (G.2.1 9)) (zA G) U H
def zXt (G : zG) : Prop := zStat G ∧ zStr G ∧ zNst G ∧ zFmt G
def zgq (k : zT) : zT := fun u v lv st M => k u v lv (.null :: st) M ∧ k u v lv (.ref 9 :: st) M
def zgz (k : zT) : zT := fun u v lv st M => k u v lv (.int 1 :: st) M
def zxc (k : zT) : zT := fun u v lv st M => match st with
  | .ref a :: r => (a = 5 ∨ a = 6) ∧ k u v lv (.int 0 :: r) M
  | _ => False
def zxv (k : zT) : zT := fun u v lv st M => match st with
  | .ref a :: r => (a = 5 ∨ a = 6) ∧ k u v lv (.ref (a + 2) :: r) M
  | _ => False
def zxa (k : zT) : zT := fun u v lv st M => match st with
  | .ref a :: r => (a = 7 ∨ a = 8) ∧ k u v lv (.int (Int32.ofNat (zslen.getD (a - 7) 0)) :: r) M
  | _ => False
def zxb (k : zT) : zT := fun u v lv st M => match st with
  | .int i :: .ref a :: r => (a = 7 ∨ a = 8) ∧ vp_in i (zslen.getD (a - 7) 0) ∧ k u v lv (.int ((zsbyt.getD (a - 7) []).getD i.toNatClampNeg 0) :: r) M
  | _ => False
def zcx (mc ms n : Nat) (Sp : zSp) (k : zT) : zT := fun u v lv st M => zrm (st.drop (n + 1)) ∧ match (st.take (n + 1)).reverse with
  | .ref a :: As => As.length = n ∧ (a = 5 ∨ a = 6) ∧ ∃ kc ks, u + kc ≤ mc ∧ v + ks ≤ ms ∧ Sp kc ks (.ref a :: As) M (fun r M' => k (u + kc) (v + ks) lv (r.toList ++ st.drop (n + 1)) M')
  | _ => False
def zmn (k : zT) : zT := fun u v lv st M => match st with
  | .int y :: .int x :: r => zrm r ∧ k u v lv (.int (if y < x then y else x) :: r) M
  | _ => False
section ZEX
variable {p : Program} {l : Launch} {e : Env} {R : Room} {s : State} {m : MethodId} {args : Array Value} {below : List Frame} {meth : Method} {c : Code} {Qs : State → Prop} {G : zG} {cc : ByteArray} {nL : Nat} {own : String} {mc ms : Nat} {pc : Nat} {k t : zT}
theorem S_min (hC : zCx p R s m args meth c G cc nL own mc ms) {ix : Nat} (hl : Cond.methodLink own ix Lib.Math.min.name ∈ zgw) (hst : Cond.static Lib.Math.min.name ∈ zgw) (hi : Cond.initialized "java/lang/Math" ∈ zgw) (hcd : Cond.code Lib.Math.min.name Lib.Math.min.code 2 (some .int) ∈ zgw) (hfr : 1 ≤ R.frames) (hlo : 21 ≤ R.locals) (hdg : decode cc pc = .ok (.invokestatic ix, 3)) (hk : zOk p l e R s m args below meth c Qs G nL (pc + 3) k) : zOk p l e R s m args below meth c Qs G nL pc (zmn k) := by
  intro u v lv st M h H locs ls hP hS hL hu hv
  unfold zmn at h
  split at h
  case h_1 y x r =>
    have h1 := h.1
    unfold zrm at h1
    rw [← zup_cats G] at h1
    exact va_mmin hC.1 hC.2.1 (hC.2.2.1.trans hL.1.symm) hC.2.2.2.1 (hC.2.2.2.2.1 _ hl) (hC.2.2.2.2.1 _ hst) (hC.2.2.2.2.1 _ hi) (hC.2.2.2.2.1 _ hcd) hfr (by omega) hu hv hdg (hk _ _ _ _ _ h.2 H locs ls hP hS hL hu hv)
  case h_2 => exact h.elim
theorem S_no : zOk p l e R s m args below meth c Qs G nL pc zno := fun _ _ _ _ _ h => h.elim
theorem zF_now (hC : zCx p R s m args meth c G cc nL own mc ms) : G.2.2.2.2 s s.heap := hC.2.2.2.2.2.2.1.2.2 s s.heap (z_wrefl s) (fun _ _ => rfl)
theorem zad_ext (G : zG) {a : Nat} (h : a < 16) : zad G a = G.2.1 a := by
  unfold zad
  rw [if_pos h]
theorem S_ldcS (hC : zCx p R s m args meth c G cc nL own mc ms) (hG : zStr G) {ix w : Nat} {tx : String} (ht : (own, ix, tx, w) ∈ zstab) (hw : w < 2) (hdg : decode cc pc = .ok (.ldc ix, 2)) (hk : zOk p l e R s m args below meth c Qs G nL (pc + 2) k) : zOk p l e R s m args below meth c Qs G nL pc (zgs (5 + w) k) := by
  intro u v lv st M h H locs ls hP hS hL hu hv
  have hR := (hG s s.heap (zF_now hC)).2.1 _ ht
  refine va_ldcS hC.1 hC.2.1 hC.2.2.2.1 hR hdg ?_
  have : zup G (.ref (5 + w)) = .ref (G.2.1 (5 + w)) := by
    show Value.ref (zad G (5 + w)) = _
    rw [zad_ext G (by omega)]
  rw [← this]
  exact hk _ _ _ _ _ h H locs ls hP hS hL hu hv
theorem S_getz (hC : zCx p R s m args meth c G cc nL own mc ms) (hG : zStr G) {ix : Nat} (hlink : Cond.fieldLink own ix "java/lang/String" "COMPACT_STRINGS" "Z" ∈ zgw) (hdg : decode cc pc = .ok (.getstatic ix, 3)) (hk : zOk p l e R s m args below meth c Qs G nL (pc + 3) k) : zOk p l e R s m args below meth c Qs G nL pc (zgz k) := by
  intro u v lv st M h H locs ls hP hS hL hu hv
  exact va_gets hC.1 hC.2.1 (hG s s.heap (zF_now hC)).2.2 hS hC.2.2.2.1 (hC.2.2.2.2.1 _ hlink) (fun _ h9 => h9) hdg (hk _ _ _ _ _ h H locs ls hP hS hL hu hv)
theorem S_getq (hC : zCx p R s m args meth c G cc nL own mc ms) (hG : zFmt G) {ix : Nat} (hlink : Cond.fieldLink own ix "jdk/internal/util/Preconditions" "SIOOBE_FORMATTER" "Ljava/util/function/BiFunction;" ∈ zgw) (hdg : decode cc pc = .ok (.getstatic ix, 3)) (hk : zOk p l e R s m args below meth c Qs G nL (pc + 3) k) : zOk p l e R s m args below meth c Qs G nL pc (zgq k) := by
  intro u v lv st M h H locs ls hP hS hL hu hv
  rcases hG s s.heap (zF_now hC) with hZ | hZ
  · exact va_gets hC.1 hC.2.1 hZ hS hC.2.2.2.1 (hC.2.2.2.2.1 _ hlink) (fun _ h9 => h9) hdg (hk _ _ _ _ _ h.1 H locs ls hP hS hL hu hv)
  · refine va_gets hC.1 hC.2.1 hZ hS hC.2.2.2.1 (hC.2.2.2.2.1 _ hlink) (fun _ h9 => h9) hdg ?_
    have : zup G (.ref 9) = .ref (G.2.1 9) := by
      show Value.ref (zad G 9) = _
      rw [zad_ext G (by omega)]
    rw [← this]
    exact hk _ _ _ _ _ h.2 H locs ls hP hS hL hu hv
theorem S_xcoder (hC : zCx p R s m args meth c G cc nL own mc ms) (hG : zStr G) {ix : Nat} (hlink : Cond.fieldLink own ix "java/lang/String" "coder" "B" ∈ zgw) (hdg : decode cc pc = .ok (.getfield ix, 3)) (hk : zOk p l e R s m args below meth c Qs G nL (pc + 3) k) : zOk p l e R s m args below meth c Qs G nL pc (zxc k) := by
  intro u v lv st M h H locs ls hP hS hL hu hv
  unfold zxc at h
  split at h
  case h_1 a r =>
    have hE := (hG s s.heap (zF_now hC)).1.1
    obtain ⟨i, hi, rfl⟩ : ∃ i : Nat, i < 2 ∧ a = 5 + i := by
      rcases h.1 with q | q
      · exact ⟨0, by omega, q⟩
      · exact ⟨1, by omega, q⟩
    show W p l e R s m args below meth c H locs u v Qs (F0 m pc ls (.ref (zad G (5 + i)) :: r.map (zup G)))
    rw [zad_ext G (by omega)]
    exact vk_getf hC.1 hC.2.1 (hE i hi).2.1 hS hC.2.2.2.1 (hC.2.2.2.2.1 _ hlink) (fun _ h9 => h9) hdg (hk _ _ _ _ _ h.2 H locs ls hP hS hL hu hv)
  case h_2 => exact h.elim
theorem S_xvalue (hC : zCx p R s m args meth c G cc nL own mc ms) (hG : zStr G) {ix : Nat} (hlink : Cond.fieldLink own ix "java/lang/String" "value" "[B" ∈ zgw) (hdg : decode cc pc = .ok (.getfield ix, 3)) (hk : zOk p l e R s m args below meth c Qs G nL (pc + 3) k) : zOk p l e R s m args below meth c Qs G nL pc (zxv k) := by
  intro u v lv st M h H locs ls hP hS hL hu hv
  unfold zxv at h
  split at h
  case h_1 a r =>
    have hE := (hG s s.heap (zF_now hC)).1.1
    obtain ⟨i, hi, rfl⟩ : ∃ i : Nat, i < 2 ∧ a = 5 + i := by
      rcases h.1 with q | q
      · exact ⟨0, by omega, q⟩
      · exact ⟨1, by omega, q⟩
    show W p l e R s m args below meth c H locs u v Qs (F0 m pc ls (.ref (zad G (5 + i)) :: r.map (zup G)))
    rw [zad_ext G (by omega)]
    refine vk_getf hC.1 hC.2.1 (hE i hi).2.2.1 hS hC.2.2.2.1 (hC.2.2.2.2.1 _ hlink) (fun _ h9 => h9) hdg ?_
    have : zup G (.ref (5 + i + 2)) = .ref (G.2.1 (7 + i)) := by
      show Value.ref (zad G (5 + i + 2)) = _
      rw [zad_ext G (by omega), show 5 + i + 2 = 7 + i by omega]
    rw [← this]
    exact hk _ _ _ _ _ h.2 H locs ls hP hS hL hu hv
  case h_2 => exact h.elim
theorem S_xalen (hC : zCx p R s m args meth c G cc nL own mc ms) (hG : zStr G) (hdg : decode cc pc = .ok (.arraylength, 1)) (hk : zOk p l e R s m args below meth c Qs G nL (pc + 1) k) : zOk p l e R s m args below meth c Qs G nL pc (zxa k) := by
  intro u v lv st M h H locs ls hP hS hL hu hv
  unfold zxa at h
  split at h
  case h_1 a r =>
    have hE := (hG s s.heap (zF_now hC)).1.1
    obtain ⟨i, hi, rfl⟩ : ∃ i : Nat, i < 2 ∧ a = 7 + i := by
      rcases h.1 with q | q
      · exact ⟨0, by omega, q⟩
      · exact ⟨1, by omega, q⟩
    show W p l e R s m args below meth c H locs u v Qs (F0 m pc ls (.ref (zad G (7 + i)) :: r.map (zup G)))
    rw [zad_ext G (by omega)]
    have h2 := h.2
    rw [show 7 + i - 7 = i by omega] at h2
    exact va_tlen hC.1 hC.2.1 (hE i hi).2.2.2 hS rfl hdg (hk _ _ _ _ _ h2 H locs ls hP hS hL hu hv)
  case h_2 => exact h.elim
theorem S_xbload (hC : zCx p R s m args meth c G cc nL own mc ms) (hG : zStr G) (hdg : decode cc pc = .ok (.baload, 1)) (hk : zOk p l e R s m args below meth c Qs G nL (pc + 1) k) : zOk p l e R s m args below meth c Qs G nL pc (zxb k) := by
  intro u v lv st M h H locs ls hP hS hL hu hv
  unfold zxb at h
  split at h
  case h_1 j a r =>
    have hE := (hG s s.heap (zF_now hC)).1.1
    obtain ⟨i, hi, rfl⟩ : ∃ i : Nat, i < 2 ∧ a = 7 + i := by
      rcases h.1 with q | q
      · exact ⟨0, by omega, q⟩
      · exact ⟨1, by omega, q⟩
    show W p l e R s m args below meth c H locs u v Qs (F0 m pc ls (.int j :: .ref (zad G (7 + i)) :: r.map (zup G)))
    rw [zad_ext G (by omega)]
    obtain ⟨-, h2, h3⟩ := h
    rw [show 7 + i - 7 = i by omega] at h2 h3
    exact va_tb hC.1 hC.2.1 (hE i hi).2.2.2 hS h2 rfl hdg (hk _ _ _ _ _ h3 H locs ls hP hS hL hu hv)
  case h_2 => exact h.elim
theorem S_callX (hC : zCx p R s m args meth c G cc nL own mc ms) (hG : zStr G) {n ix maxL fr lo : Nat} {y : MethodName} {bytes : ByteArray} {ret : Option FieldType} {Sp : zSp} (hM : zSnd l G y bytes maxL ret fr lo Sp) (hl : Cond.methodLink own ix y ∈ zgw) (hi : Cond.instanceMethod y ∈ zgw) (hs : Cond.selects "java/lang/String" y y ∈ zgw) (hni : Cond.initialized "java/lang/String" ∈ zgw) (hcd : Cond.code y bytes maxL ret ∈ zgw)
    (hd : y.cls = "java/lang/String" ∧ y.cls ≠ "java/lang/invoke/MethodHandle" ∧ y.cls ≠ "java/lang/invoke/VarHandle" ∧ (parseMethodDescriptor y.desc).map (fun d => d.parameters.length) = some n) (hR : fr + 1 ≤ R.frames ∧ 8 + (maxL + 11) + lo ≤ R.locals) (hdg : decode cc pc = .ok (.invokevirtual ix, 3)) (hk : zOk p l e R s m args below meth c Qs G nL (pc + 3) k) : zOk p l e R s m args below meth c Qs G nL pc (zcx mc ms n Sp k) := by
  intro u v lv st M h H locs ls hP hS hL hu hv
  obtain ⟨hrm, h⟩ := h
  split at h
  case h_1 a As hst =>
    obtain ⟨hlen, hae, kc, ks, hc1, hc2, hsp⟩ := h
    have hRc : R.cells = mc := hC.2.2.2.2.2.2.2.1
    have hRs : R.slots = ms := hC.2.2.2.2.2.2.2.2
    have hE := hC.2.2.2.2.2.2.1
    have hMet := hM kc ks (.ref a :: As) M _ hsp
    have hT : GoodIn zgw (wsV own ix "java/lang/String" y (.code y bytes maxL ret :: zgw)) := zgood (fun w hw => by
      simp only [wsV, List.mem_append, List.mem_cons, List.not_mem_nil, or_false] at hw
      rcases hw with (rfl | rfl | rfl | rfl) | rfl | hw
      · exact hl
      · exact hi
      · exact hs
      · exact hni
      · exact hcd
      · exact hw)
    have hrecv : ∃ cell : Cell, H[zad G a]? = some cell ∧ cell.vm.isStatics = false ∧ s.vm.findClass "java/lang/String" = some cell.cls := by
      rcases hae with q | q <;> subst q
      · rw [zad_ext G (by omega)]
        exact vk_recv (i := 0) (hG s s.heap (zF_now hC)).1 (by omega) hS
      · rw [zad_ext G (by omega)]
        exact vk_recv (i := 1) (hG s s.heap (zF_now hC)).1 (by omega) hS
    have hrun := va_runV (Ts := zgw) (As := As.map (zup G)) (b := zad G a) (rest := (st.drop (n + 1)).map (zup G)) (g := F0 m pc ls (st.map (zup G))) (locs := locs) (below := below) (meth := meth) (cells := u) (slots := v) (e := e) ⟨hC.1, hC.2.1, hC.2.2.1, hC.2.2.2.1, hC.2.2.2.2.1⟩ hMet (cwV n hC.2.2.2.2.1 hT rfl rfl rfl hd hR) ⟨z_blind, hrecv, fun U hU hW => ⟨rfl, z_pre hE hP hS hU hW⟩⟩ rfl (by rw [List.length_map]; exact hlen) hL.1 (by show st.map (zup G) = _; rw [z_split hst]; rfl) (z_room hrm) hdg ⟨by rw [hRc]; exact hc1, by rw [hRs]; exact hc2⟩
    refine z_run hrun hS (fun r M' H1 locs1 hq hP1 hS1 => ?_)
    rw [z_toList]
    exact hk _ _ _ _ _ hq H1 locs1 ls hP1 hS1 hL (by rw [hRc]; exact hc1) (by rw [hRs]; exact hc2)
  case h_2 => exact h.elim
/-! calls to a nest mate's private methods -/
theorem S_callIN (hC : zCx p R s m args meth c G cc nL own mc ms) {n ix maxL fr lo : Nat} {y : MethodName} {host : String} {bytes : ByteArray} {Sp : zSp} (hM : zSnd l G y bytes maxL none fr lo Sp) (hl : va_Nw (.methodLinkNest own ix y host) s) (hi : Cond.instanceMethod y ∈ zgw) (hni : Cond.initialized y.cls ∈ zgw) (hcd : Cond.code y bytes maxL none ∈ zgw) (hy1 : y.name = "<init>")
    (hd : y.cls ≠ "java/lang/invoke/MethodHandle" ∧ y.cls ≠ "java/lang/invoke/VarHandle" ∧ (parseMethodDescriptor y.desc).map (fun d => d.parameters.length) = some n) (hR : fr + 1 ≤ R.frames ∧ 8 + (maxL + 11) + lo ≤ R.locals) (hdg : decode cc pc = .ok (.invokespecial ix, 3)) (hk : zOk p l e R s m args below meth c Qs G nL (pc + 3) k) : zOk p l e R s m args below meth c Qs G nL pc (zci mc ms n Sp k) := by
  intro u v lv st M h H locs ls hP hS hL hu hv
  obtain ⟨hrm, h⟩ := h
  split at h
  case h_1 a As hst =>
    obtain ⟨hlen, kc, ks, hc1, hc2, hsp⟩ := h
    have hRc : R.cells = mc := hC.2.2.2.2.2.2.2.1
    have hRs : R.slots = ms := hC.2.2.2.2.2.2.2.2
    have hE := hC.2.2.2.2.2.2.1
    have hMet := hM kc ks (.ref a :: As) M _ hsp
    have hT : GoodIn zgw (.code y bytes maxL none :: zgw) := zgood (fun w hw => by
      rcases List.mem_cons.mp hw with rfl | hw
      · exact hcd
      · exact hw)
    have hrun := va_runIN (host := host) (Ts := zgw) (As := As.map (zup G)) (b := zad G a) (rest := (st.drop (n + 1)).map (zup G)) (g := F0 m pc ls (st.map (zup G))) (locs := locs) (below := below) (meth := meth) (cells := u) (slots := v) (e := e) ⟨hC.1, hC.2.1, hC.2.2.1, hC.2.2.2.1, hC.2.2.2.2.1⟩ hMet ⟨va_cnB n hC.2.2.2.2.1 hT rfl rfl rfl hl (hC.2.2.2.2.1 _ hni) hd hR, hy1, hC.2.2.2.2.1 _ hi⟩ ⟨z_blind, fun U hU hW => ⟨rfl, z_pre hE hP hS hU hW⟩⟩ rfl (by rw [List.length_map]; exact hlen) hL.1 (by show st.map (zup G) = _; rw [z_split hst]; rfl) (z_room hrm) hdg ⟨by rw [hRc]; exact hc1, by rw [hRs]; exact hc2⟩
    refine z_run hrun hS (fun r M' H1 locs1 hq hP1 hS1 => ?_)
    rw [z_toList]
    exact hk _ _ _ _ _ hq H1 locs1 ls hP1 hS1 hL (by rw [hRc]; exact hc1) (by rw [hRs]; exact hc2)
  case h_2 => exact h.elim
theorem S_callVN (hC : zCx p R s m args meth c G cc nL own mc ms) {ci n ix N maxL fr lo : Nat} {C : String} {T : u_T} {y : MethodName} {host : String} {bytes : ByteArray} {ret : Option FieldType} {Sp : zSp} (hM : zSnd l G y bytes maxL ret fr lo Sp) (hF : vwCl[ci]? = some (C, T, N)) (hl : va_Nw (.methodLinkNest own ix y host) s) (hi : Cond.instanceMethod y ∈ zgw) (hs : Cond.selects C y y ∈ zgw) (hni : Cond.initialized y.cls ∈ zgw) (hcd : Cond.code y bytes maxL ret ∈ zgw)
    (hd : y.cls ≠ "java/lang/invoke/MethodHandle" ∧ y.cls ≠ "java/lang/invoke/VarHandle" ∧ (parseMethodDescriptor y.desc).map (fun d => d.parameters.length) = some n) (hR : fr + 1 ≤ R.frames ∧ 8 + (maxL + 11) + lo ≤ R.locals) (hdg : decode cc pc = .ok (.invokevirtual ix, 3)) (hk : zOk p l e R s m args below meth c Qs G nL (pc + 3) k) : zOk p l e R s m args below meth c Qs G nL pc (zcv mc ms ci n Sp k) := by
  intro u v lv st M h H locs ls hP hS hL hu hv
  obtain ⟨hrm, h⟩ := h
  split at h
  case h_1 a As hst =>
    obtain ⟨hlen, hsh, kc, ks, hc1, hc2, hsp⟩ := h
    have hRc : R.cells = mc := hC.2.2.2.2.2.2.2.1
    have hRs : R.slots = ms := hC.2.2.2.2.2.2.2.2
    have hE := hC.2.2.2.2.2.2.1
    have hMet := hM kc ks (.ref a :: As) M _ hsp
    have hT : GoodIn zgw (.code y bytes maxL ret :: zgw) := zgood (fun w hw => by
      rcases List.mem_cons.mp hw with rfl | hw
      · exact hcd
      · exact hw)
    have hrecv := va_recv hE.1 (hP.at hsh (show (0 : Nat) < 7 by decide)) (ci := ci) (q0 := 0) hF rfl
    have hrun := va_runVN (host := host) (Ts := zgw) (C := C) (As := As.map (zup G)) (b := zad G a) (rest := (st.drop (n + 1)).map (zup G)) (g := F0 m pc ls (st.map (zup G))) (locs := locs) (below := below) (meth := meth) (cells := u) (slots := v) (e := e) ⟨hC.1, hC.2.1, hC.2.2.1, hC.2.2.2.1, hC.2.2.2.2.1⟩ hMet ⟨va_cnB n hC.2.2.2.2.1 hT rfl rfl rfl hl (hC.2.2.2.2.1 _ hni) hd hR, hC.2.2.2.2.1 _ hi, hC.2.2.2.2.1 _ hs⟩ ⟨z_blind, hrecv, fun U hU hW => ⟨rfl, z_pre hE hP hS hU hW⟩⟩ rfl (by rw [List.length_map]; exact hlen) hL.1 (by show st.map (zup G) = _; rw [z_split hst]; rfl) (z_room hrm) hdg ⟨by rw [hRc]; exact hc1, by rw [hRs]; exact hc2⟩
    refine z_run hrun hS (fun r M' H1 locs1 hq hP1 hS1 => ?_)
    rw [z_toList]
    exact hk _ _ _ _ _ hq H1 locs1 ls hP1 hS1 hL (by rw [hRc]; exact hc1) (by rw [hRs]; exact hc2)
  case h_2 => exact h.elim
end ZEX
