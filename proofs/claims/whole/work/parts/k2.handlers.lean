/-! METHODS WITH HANDLERS -/
def zSndW (l : Launch) (G : zG) (y : MethodName) (cc : ByteArray) (maxL : Nat) (ret : Option FieldType) (hh : List (Nat × Nat × Nat × Nat)) (fr lo : Nat) (Sp : zSp) : Prop :=
  ∀ (mc ms : Nat) (av : List Value) (M : zM) (Q : zQt), Sp mc ms av M Q → Met l y (.codeWith y cc maxL ret hh :: zgw) { frames := fr, cells := mc, slots := ms, locals := lo } (va_Pc (av.map (zup G)) (fun U => zP G M U.heap ∧ zEnv G U)) (zQ G Q) mc ms (zA G)
theorem zmkH {l : Launch} {G : zG} {y : MethodName} {cc : ByteArray} {maxL fr lo : Nat} {ret : Option FieldType} {hh : List (Nat × Nat × Nat × Nat)} {Sp : zSp} (live : List Nat) (hy : plainName y.cls = true) (hlen : ∀ mc ms av M Q, Sp mc ms av M Q → (zlay av).length ≤ maxL ∧ zpick (zlay av) live = some av)
    (body : ∀ (p : Program) (e : Env) (R : Room) (s : State) (m : MethodId) (args : Array Value) (below : List Frame) (meth : Method) (c : Code) (mc ms : Nat) (av : List Value) (M : zM) (Q : zQt), zCx p R s m args meth c G cc maxL y.cls mc ms → c.exceptionTable.toList = tableOf hh → R.frames = fr → R.locals = lo → meth.sig.returnType = ret → meth.name = y.name → Sp mc ms av M Q →
      ∀ lv : List (Option Value), zpick lv live = some av → zAt p l e R s m args below meth c (MQ below (zQ G Q) args s mc ms (zA G)) G maxL 0 0 0 lv [] M) : zSndW l G y cc maxL ret hh fr lo Sp := by
  intro mc ms av M Q hsp
  have hv : vx_Met l y (.codeWith y cc maxL ret hh :: zgw) { frames := fr, cells := mc, slots := ms, locals := lo } (va_Pc (av.map (zup G)) (fun U => zP G M U.heap ∧ zEnv G U)) (zQ G Q) (fun _ _ _ => False) mc ms (zA G) := by
    refine vx_ofWH (cc := cc) (maxL := maxL) (ret := ret) (hh := hh) hy rfl ?_
    intro p e s m args below meth c s₁ B hml hv
    obtain ⟨rfl, hP, hE⟩ := hv
    obtain ⟨hl1, hl2⟩ := hlen mc ms av M Q hsp
    have hts := atoms_spec (ws := (.codeWith y cc maxL ret hh :: zgw)) B.pre
    have hown : s.vm.findClass y.cls = some m.cls := findClass_of_methodNamed B.named
    obtain ⟨lv, ls, h1, h2, h3⟩ := zent0 (G := G) hl1 hl2
    rw [h3 m]
    exact vx_ret (body p e _ s m _ below meth c mc ms av M Q ⟨B.exec, B.bytes, hml, hown, fun w hw => hts w (List.mem_cons_of_mem _ hw), B.notSynchronized, hE, rfl, rfl⟩ (vx_table (x := y) B (hts _ List.mem_cons_self)) rfl rfl B.returns (name_of_methodNamed B.named B.method).1 hsp lv h1 s.heap [] ls hP va_S.rf h2 (Nat.zero_le _) (Nat.zero_le _))
  intro p e ha hc hk s m args below h1 h2 h3 h4
  obtain ⟨n, o, a, b, c, d⟩ := hv p e ha hc hk s m args below h1 h2 h3 h4
  rcases d with d | ⟨q, -, E, ce, L, hf, -⟩
  · exact ⟨n, o, a, b, c, d⟩
  · exact hf.elim
theorem zor {l : Launch} {G : zG} {y : MethodName} {cc : ByteArray} {maxL fr lo : Nat} {ret : Option FieldType} {S1 S2 : zSpX} (h1 : zSndX l G y cc maxL ret fr lo S1) (h2 : zSndX l G y cc maxL ret fr lo S2) : zSndX l G y cc maxL ret fr lo (fun mc ms av M Q EX => S1 mc ms av M Q EX ∨ S2 mc ms av M Q EX) := fun mc ms av M Q EX h => h.elim (h1 mc ms av M Q EX) (h2 mc ms av M Q EX)
section ZHX
variable {p : Program} {l : Launch} {e : Env} {R : Room} {s : State} {m : MethodId} {args : Array Value} {below : List Frame} {meth : Method} {c : Code} {G : zG} {cc : ByteArray} {nL : Nat} {own : String} {mc ms : Nat} {pc : Nat} {k : zT} {Q : zQt}
/-- a call that may throw; a caught exception ends the method with its number -/
def zcvx (mc ms ci n : Nat) (Sp : zSpX) (tab : List (String × Int32)) (Q : zQt) (k : zT) : zT := fun u v lv st M => zrm (st.drop (n + 1)) ∧ match (st.take (n + 1)).reverse with
  | .ref a :: As => As.length = n ∧ zsh M a = some (0, ci) ∧ ∃ kc ks, u + kc ≤ mc ∧ v + ks ≤ ms ∧ Sp kc ks (.ref a :: As) M (fun r M' => k (u + kc) (v + ks) lv (r.toList ++ st.drop (n + 1)) M') (fun E M' => ∃ r, (E, r) ∈ tab ∧ Q (some (.int r)) M')
  | _ => False
/-- what the handlers owe -/
def zHd (p : Program) (l : Launch) (e : Env) (R : Room) (s : State) (m : MethodId) (args : Array Value) (below : List Frame) (meth : Method) (c : Code) (Qs : State → Prop) (G : zG) (nL pc : Nat) (Q : zQt) (E : String) (r : Int32) : Prop :=
  ∀ (u v : Nat) (M : zM) (H : Heap) (locs : List Loc) (ls : Array Slot) (rest : List Value) (q : Addr) (ce : Cell), Q (some (.int r)) M → zP G M H → va_S (zA G) s.heap H locs → lv_has ls nL [] → H[q]? = some ce → ce.vm = .none → s.vm.findClass E = some ce.cls → u ≤ R.cells → v ≤ R.slots → vx_W p l e R s m args below meth c H locs u v Qs (F0 m pc ls rest) q
theorem z_tail (hC : zCx p R s m args meth c G cc nL own mc ms) (hr : meth.sig.returnType = some .int) {n : Int} {r : Int32} {hp : Nat} (d1 : decode cc hp = .ok (.iconst n, 1)) (hx : Int32.ofInt n = r) (d2 : decode cc (hp + 1) = .ok (.ireturn, 1)) {u v : Nat} {M : zM} {H : Heap} {locs : List Loc} {ls : Array Slot} (hq : Q (some (.int r)) M) (hP : zP G M H) (hS : va_S (zA G) s.heap H locs) (hL : lv_has ls nL []) (hu : u ≤ R.cells) (hv : v ≤ R.slots) : W p l e R s m args below meth c H locs u v (MQ below (zQ G Q) args s mc ms (zA G)) (F0 m hp ls []) := by
  have h1 : zOk p l e R s m args below meth c (MQ below (zQ G Q) args s mc ms (zA G)) G nL hp (zc (.int r) (zri Q)) := S_iconst (pc := hp) hC d1 hx (S_ireturn hC hr d2)
  exact h1 u v (List.replicate nL none) [] M hq H locs ls hP hS ⟨hL.1, hL.2.1, List.length_replicate, fun i x h => by
    have := List.eq_of_mem_replicate (List.mem_of_getElem? h)
    cases this⟩ hu hv
theorem z_hand (hC : zCx p R s m args meth c G cc nL own mc ms) (hr : meth.sig.returnType = some .int) {kk : Fin 4} {i : Nat} {n : Int} {r : Int32} {hp : Nat} (d0 : decode cc hp = .ok (.astore_n kk, 1)) (hi : (kk : Nat) = i) (hn : i < nL) (d1 : decode cc (hp + 1) = .ok (.iconst n, 1)) (hx : Int32.ofInt n = r) (d2 : decode cc (hp + 2) = .ok (.ireturn, 1)) {u v : Nat} {M : zM} {H : Heap} {locs : List Loc} {ls : Array Slot} {q : Addr} (hq : Q (some (.int r)) M) (hP : zP G M H) (hS : va_S (zA G) s.heap H locs) (hL : lv_has ls nL []) (hu : u ≤ R.cells) (hv : v ≤ R.slots) : W p l e R s m args below meth c H locs u v (MQ below (zQ G Q) args s mc ms (zA G)) (F0 m hp ls [.ref q]) :=
  lv_astore_n hC.1 hC.2.1 d0 hi hL hn rfl (fun ls' h' => z_tail hC hr d1 hx d2 hq hP hS ⟨h'.1, h'.2.1, fun q hq => absurd hq List.not_mem_nil⟩ hu hv)
theorem z_hand2 (hC : zCx p R s m args meth c G cc nL own mc ms) (hr : meth.sig.returnType = some .int) {i : Nat} {n : Int} {r : Int32} {hp : Nat} (d0 : decode cc hp = .ok (.astore i, 2)) (hn : i < nL) (d1 : decode cc (hp + 2) = .ok (.iconst n, 1)) (hx : Int32.ofInt n = r) (d2 : decode cc (hp + 3) = .ok (.ireturn, 1)) {u v : Nat} {M : zM} {H : Heap} {locs : List Loc} {ls : Array Slot} {q : Addr} (hq : Q (some (.int r)) M) (hP : zP G M H) (hS : va_S (zA G) s.heap H locs) (hL : lv_has ls nL []) (hu : u ≤ R.cells) (hv : v ≤ R.slots) : W p l e R s m args below meth c H locs u v (MQ below (zQ G Q) args s mc ms (zA G)) (F0 m hp ls [.ref q]) :=
  lv_astore hC.1 hC.2.1 d0 hL hn rfl (fun ls' h' => z_tail hC hr d1 hx d2 hq hP hS ⟨h'.1, h'.2.1, fun q hq => absurd hq List.not_mem_nil⟩ hu hv)
theorem z_cast (hC : zCx p R s m args meth c G cc nL own mc ms) (hT : zThr G) {E : String} (hE : E ∈ thE) : (Cond.castable E E).before args s = true :=
  ((hT s s.heap (zF_now hC)).2.1 E hE _ (by simp [thB])).use rfl
theorem z_nocast (hC : zCx p R s m args meth c G cc nL own mc ms) (hT : zThr G) {E F : String} (hE : E ∈ thE) (hF : F ∈ thE) (h : E ≠ F) : va_Nc E F s := (hT s s.heap (zF_now hC)).2.2 E hE F hF h
/-- the first row of the table takes it -/
theorem zHd_1 (hC : zCx p R s m args meth c G cc nL own mc ms) (hT : zThr G) (hr : meth.sig.returnType = some .int) {hh : List (Nat × Nat × Nat × Nat)} (ht : c.exceptionTable.toList = tableOf hh) {a b hp ix : Nat} {suf : List (Nat × Nat × Nat × Nat)} (hs : hh = (a, b, hp, ix) :: suf) (hcv : a ≤ pc ∧ pc < b) (h0 : ix ≠ 0) {E : String} (hE : E ∈ thE) (hl : Cond.classLink own ix E ∈ zgw)
    {kk : Fin 4} {i : Nat} {n : Int} {r : Int32} (d0 : decode cc hp = .ok (.astore_n kk, 1)) (hi : (kk : Nat) = i) (hn : i < nL) (d1 : decode cc (hp + 1) = .ok (.iconst n, 1)) (hx : Int32.ofInt n = r) (d2 : decode cc (hp + 2) = .ok (.ireturn, 1)) : zHd p l e R s m args below meth c (MQ below (zQ G Q) args s mc ms (zA G)) G nL pc Q E r := by
  intro u v M H locs ls rest q ce hq hP hS hL hcell hvm hcl hu hv
  refine zx_catch1 (own := own) (name := E) hC.2.2.2.1 ⟨a, b, hp, ix⟩ (tableOf suf) (by rw [ht, hs]; rfl) (by simp [covers, hcv]) h0 (hC.2.2.2.2.1 _ hl) (z_cast hC hT hE) hcell hvm hcl ?_
  exact z_hand hC hr d0 hi hn d1 hx d2 hq hP hS hL hu hv
theorem zHd_1w (hC : zCx p R s m args meth c G cc nL own mc ms) (hT : zThr G) (hr : meth.sig.returnType = some .int) {hh : List (Nat × Nat × Nat × Nat)} (ht : c.exceptionTable.toList = tableOf hh) {a b hp ix : Nat} {suf : List (Nat × Nat × Nat × Nat)} (hs : hh = (a, b, hp, ix) :: suf) (hcv : a ≤ pc ∧ pc < b) (h0 : ix ≠ 0) {E : String} (hE : E ∈ thE) (hl : Cond.classLink own ix E ∈ zgw)
    {i : Nat} {n : Int} {r : Int32} (d0 : decode cc hp = .ok (.astore i, 2)) (hn : i < nL) (d1 : decode cc (hp + 2) = .ok (.iconst n, 1)) (hx : Int32.ofInt n = r) (d2 : decode cc (hp + 3) = .ok (.ireturn, 1)) : zHd p l e R s m args below meth c (MQ below (zQ G Q) args s mc ms (zA G)) G nL pc Q E r := by
  intro u v M H locs ls rest q ce hq hP hS hL hcell hvm hcl hu hv
  refine zx_catch1 (own := own) (name := E) hC.2.2.2.1 ⟨a, b, hp, ix⟩ (tableOf suf) (by rw [ht, hs]; rfl) (by simp [covers, hcv]) h0 (hC.2.2.2.2.1 _ hl) (z_cast hC hT hE) hcell hvm hcl ?_
  exact z_hand2 hC hr d0 hn d1 hx d2 hq hP hS hL hu hv
/-- the second row takes it -/
theorem zHd_2 (hC : zCx p R s m args meth c G cc nL own mc ms) (hT : zThr G) (hr : meth.sig.returnType = some .int) {hh : List (Nat × Nat × Nat × Nat)} (ht : c.exceptionTable.toList = tableOf hh) {a0 b0 hp0 ix0 a b hp ix : Nat} {suf : List (Nat × Nat × Nat × Nat)} (hs : hh = (a0, b0, hp0, ix0) :: (a, b, hp, ix) :: suf) (hcv0 : a0 ≤ pc ∧ pc < b0) (hcv : a ≤ pc ∧ pc < b) (h00 : ix0 ≠ 0) (h0 : ix ≠ 0) {F E : String} (hF : F ∈ thE) (hE : E ∈ thE) (hne : E ≠ F) (hl0 : Cond.classLink own ix0 F ∈ zgw) (hl : Cond.classLink own ix E ∈ zgw)
    {kk : Fin 4} {i : Nat} {n : Int} {r : Int32} (d0 : decode cc hp = .ok (.astore_n kk, 1)) (hi : (kk : Nat) = i) (hn : i < nL) (d1 : decode cc (hp + 1) = .ok (.iconst n, 1)) (hx : Int32.ofInt n = r) (d2 : decode cc (hp + 2) = .ok (.ireturn, 1)) : zHd p l e R s m args below meth c (MQ below (zQ G Q) args s mc ms (zA G)) G nL pc Q E r := by
  intro u v M H locs ls rest q ce hq hP hS hL hcell hvm hcl hu hv
  refine zx_catch2 (own := own) (name := E) (nm := F) hC.2.2.2.1 ⟨a0, b0, hp0, ix0⟩ ⟨a, b, hp, ix⟩ (tableOf suf) (by rw [ht, hs]; rfl) (by simp [covers, hcv0]) (by simp [covers, hcv]) h00 h0 (hC.2.2.2.2.1 _ hl0) (z_nocast hC hT hE hF hne) (hC.2.2.2.2.1 _ hl) (z_cast hC hT hE) hcell hvm hcl ?_
  exact z_hand hC hr d0 hi hn d1 hx d2 hq hP hS hL hu hv
theorem S_callVX {Qs : State → Prop} (hC : zCx p R s m args meth c G cc nL own mc ms) {ci n ix N maxL fr lo : Nat} {C : String} {T : u_T} {y : MethodName} {bytes : ByteArray} {ret : Option FieldType} {Sp : zSpX} (hM : zSndX l G y bytes maxL ret fr lo Sp) (hF : vwCl[ci]? = some (C, T, N)) (hl : Cond.methodLink own ix y ∈ zgw) (hi : Cond.instanceMethod y ∈ zgw) (hs : Cond.selects C y y ∈ zgw) (hni : Cond.initialized C ∈ zgw) (hcd : Cond.code y bytes maxL ret ∈ zgw)
    (hd : y.cls = C ∧ y.cls ≠ "java/lang/invoke/MethodHandle" ∧ y.cls ≠ "java/lang/invoke/VarHandle" ∧ (parseMethodDescriptor y.desc).map (fun d => d.parameters.length) = some n) (hR : fr + 1 ≤ R.frames ∧ 8 + (maxL + 11) + lo ≤ R.locals) (hdg : decode cc pc = .ok (.invokevirtual ix, 3)) {tab : List (String × Int32)} (hx : ∀ t ∈ tab, zHd p l e R s m args below meth c Qs G nL pc Q t.1 t.2) (hk : zOk p l e R s m args below meth c Qs G nL (pc + 3) k) : zOk p l e R s m args below meth c Qs G nL pc (zcvx mc ms ci n Sp tab Q k) := by
  intro u v lv st M h H locs ls hP hS hL hu hv
  obtain ⟨hrm, h⟩ := h
  split at h
  case h_1 a As hst =>
    obtain ⟨hlen, hsh, kc, ks, hc1, hc2, hsp⟩ := h
    have hRc : R.cells = mc := hC.2.2.2.2.2.2.2.1
    have hRs : R.slots = ms := hC.2.2.2.2.2.2.2.2
    have hE := hC.2.2.2.2.2.2.1
    have hMet := hM kc ks (.ref a :: As) M _ _ hsp
    have hT : GoodIn zgw (wsV own ix C y (.code y bytes maxL ret :: zgw)) := zgood (fun w hw => by
      simp only [wsV, List.mem_append, List.mem_cons, List.not_mem_nil, or_false] at hw
      rcases hw with (rfl | rfl | rfl | rfl) | rfl | hw
      · exact hl
      · exact hi
      · exact hs
      · exact hni
      · exact hcd
      · exact hw)
    have hrecv := va_recv hE.1 (hP.at hsh (show (0 : Nat) < 7 by decide)) (ci := ci) (q0 := 0) hF rfl
    have hrun := vx_runV (Ts := zgw) (As := As.map (zup G)) (b := zad G a) (rest := (st.drop (n + 1)).map (zup G)) (g := F0 m pc ls (st.map (zup G))) (locs := locs) (below := below) (meth := meth) (cells := u) (slots := v) (e := e) ⟨hC.1, hC.2.1, hC.2.2.1, hC.2.2.2.1, hC.2.2.2.2.1⟩ hMet (cwV n hC.2.2.2.2.1 hT rfl rfl rfl hd hR) ⟨z_blind, hrecv, fun U hU hW => ⟨rfl, z_pre hE hP hS hU hW⟩⟩ rfl (by rw [List.length_map]; exact hlen) hL.1 (by show st.map (zup G) = _; rw [z_split hst]; rfl) (z_room hrm) hdg ⟨by rw [hRc]; exact hc1, by rw [hRs]; exact hc2⟩
    intro T hT X
    rcases hrun T hT X with ⟨w, st₀, t, T', L, h0, X', hL2, e1, e2, ⟨⟨r, M', hv2, hq, hP1⟩, hz, hk2⟩, sg⟩ | ⟨q, st₀, t, T', L, E, ce, h0, X', hL2, e1, e2, ⟨⟨M', ⟨r, hr1, hr2⟩, hP1⟩, hz, hk2⟩, hce, hcv, hcl, sg⟩
    · cases hv2
      rw [h0] at hz hk2
      have hS1 : va_S (zA G) s.heap T'.heap (locs ++ L) := ⟨Nat.le_trans hS.1 (by rw [e1]; exact hz), fun q h1 h2 => by rw [e1, hk2 q (Nat.lt_of_lt_of_le h1 hS.1) h2]; exact hS.2.1 q h1 h2, fun q hq => by
        rcases List.mem_append.mp hq with h | h
        · exact hS.2.2 q h
        · exact hL2 q h⟩
      have := hk _ _ _ _ _ hq T'.heap (locs ++ L) ls (by rw [e1]; exact hP1) hS1 hL (by rw [hRc]; exact hc1) (by rw [hRs]; exact hc2)
      rw [← z_toList] at this
      obtain ⟨t2, a1, b1⟩ := this T' rfl X'
      exact ⟨t2, sg t2 a1, b1⟩
    · rw [h0] at hz hk2
      have hS1 : va_S (zA G) s.heap T'.heap (locs ++ L) := ⟨Nat.le_trans hS.1 (by rw [e1]; exact hz), fun q h1 h2 => by rw [e1, hk2 q (Nat.lt_of_lt_of_le h1 hS.1) h2]; exact hS.2.1 q h1 h2, fun q hq => by
        rcases List.mem_append.mp hq with h | h
        · exact hS.2.2 q h
        · exact hL2 q h⟩
      obtain ⟨t2, a1, b1⟩ := hx (E, r) hr1 (u + kc) (v + ks) M' T'.heap (locs ++ L) ls ((st.drop (n + 1)).map (zup G)) q ce hr2 (by rw [e1]; exact hP1) hS1 ⟨hL.1, hL.2.1, fun q hq => absurd hq List.not_mem_nil⟩ (by rw [e1]; exact hce) hcv hcl (by rw [hRc]; exact hc1) (by rw [hRs]; exact hc2) T' rfl X'
      exact ⟨t2, sg.trans a1, b1⟩
  case h_2 => exact h.elim
theorem S_callSW {Qs : State → Prop} (hC : zCx p R s m args meth c G cc nL own mc ms) {n ix maxL fr lo : Nat} {y : MethodName} {bytes : ByteArray} {ret : Option FieldType} {hh : List (Nat × Nat × Nat × Nat)} {Sp : zSp} (hM : zSndW l G y bytes maxL ret hh fr lo Sp) (hl : Cond.methodLink own ix y ∈ zgw) (hi : Cond.static y ∈ zgw) (hni : Cond.initialized y.cls ∈ zgw) (hcd : Cond.codeWith y bytes maxL ret hh ∈ zgw)
    (hd : y.cls ≠ "java/lang/invoke/MethodHandle" ∧ y.cls ≠ "java/lang/invoke/VarHandle" ∧ (parseMethodDescriptor y.desc).map (fun d => d.parameters.length) = some n) (hR : fr + 1 ≤ R.frames ∧ 8 + (maxL + 11) + lo ≤ R.locals) (hdg : decode cc pc = .ok (.invokestatic ix, 3)) (hk : zOk p l e R s m args below meth c Qs G nL (pc + 3) k) : zOk p l e R s m args below meth c Qs G nL pc (zcs mc ms n Sp k) := by
  intro u v lv st M h H locs ls hP hS hL hu hv
  obtain ⟨hrm, hlen, kc, ks, hc1, hc2, hsp⟩ := h
  have hRc : R.cells = mc := hC.2.2.2.2.2.2.2.1
  have hRs : R.slots = ms := hC.2.2.2.2.2.2.2.2
  have hE := hC.2.2.2.2.2.2.1
  have hMet := hM kc ks (st.take n).reverse M _ hsp
  have hT : GoodIn zgw (va_wsS own ix y (.codeWith y bytes maxL ret hh :: zgw)) := zgood (fun w hw => by
    simp only [va_wsS, List.mem_append, List.mem_cons, List.not_mem_nil, or_false] at hw
    rcases hw with (rfl | rfl | rfl) | rfl | hw
    · exact hl
    · exact hi
    · exact hni
    · exact hcd
    · exact hw)
  have hst : st.map (zup G) = ((st.take n).reverse.map (zup G)).reverse ++ (st.drop n).map (zup G) := by
    rw [List.map_reverse, List.reverse_reverse, ← List.map_append, List.take_append_drop]
  have hrun := vx_runSW (Ts := zgw) (hh := hh) (As := (st.take n).reverse.map (zup G)) (rest := (st.drop n).map (zup G)) (g := F0 m pc ls (st.map (zup G))) (locs := locs) (below := below) (meth := meth) (cells := u) (slots := v) (e := e) ⟨hC.1, hC.2.1, hC.2.2.1, hC.2.2.2.1, hC.2.2.2.2.1⟩ hMet (vx_cwSW n hC.2.2.2.2.1 hT rfl rfl rfl hd hR) ⟨z_blind, fun U hU hW => ⟨rfl, z_pre hE hP hS hU hW⟩⟩ rfl (by rw [List.length_map, List.length_reverse]; exact hlen) hL.1 hst (z_room hrm) hdg ⟨by rw [hRc]; exact hc1, by rw [hRs]; exact hc2⟩
  refine z_run hrun hS (fun r M' H1 locs1 hq hP1 hS1 => ?_)
  rw [z_toList]
  exact hk _ _ _ _ _ hq H1 locs1 ls hP1 hS1 hL (by rw [hRc]; exact hc1) (by rw [hRs]; exact hc2)
end ZHX
