/-! CALLS; a method's contract out of its blocks -/
def zSnd (l : Launch) (G : zG) (y : MethodName) (cc : ByteArray) (maxL : Nat) (ret : Option FieldType) (fr lo : Nat) (Sp : zSp) : Prop :=
  ∀ (mc ms : Nat) (av : List Value) (M : zM) (Q : zQt), Sp mc ms av M Q → Met l y (.code y cc maxL ret :: zgw) { frames := fr, cells := mc, slots := ms, locals := lo } (va_Pc (av.map (zup G)) (fun U => zP G M U.heap ∧ zEnv G U)) (zQ G Q) mc ms (zA G)
theorem zgood {ws : List Cond} (h : ∀ w ∈ ws, w ∈ zgw) : GoodIn zgw ws := fun w hw => ⟨h w hw, zgw_good (h w hw)⟩
theorem z_blind {G : zG} {M : zM} {av : List Value} : FrameBlind (va_Pc av (fun U => zP G M U.heap ∧ zEnv G U)) := fun a U g mk q => ⟨q.1, q.2.1, q.2.2.step (U := U.calling g mk a) (z_wrefl U) (fun _ _ => rfl) q.2.2.2.1⟩
section ZC
variable {p : Program} {l : Launch} {e : Env} {R : Room} {s : State} {m : MethodId} {args : Array Value} {below : List Frame} {meth : Method} {c : Code} {Qs : State → Prop} {G : zG} {cc : ByteArray} {nL : Nat} {own : String} {mc ms : Nat} {pc : Nat} {k t : zT}
variable {H : Heap} {locs : List Loc} {ls : Array Slot} {u v : Nat} {rest : List Value}
theorem z_run {kc ks : Nat} {st0 : List Value} {Q : zQt} {a : Array Value} (hr : va_Run p l e R s m args below meth c H locs u v kc ks (F0 m pc ls st0) rest (zQ G Q a) (zA G)) (hS : va_S (zA G) s.heap H locs)
    (kk : ∀ (r : Option Value) (M' : zM) (H1 : Heap) (locs1 : List Loc), Q r M' → zP G M' H1 → va_S (zA G) s.heap H1 locs1 → W p l e R s m args below meth c H1 locs1 (u + kc) (v + ks) Qs (F0 m (pc + 3) ls ((r.map (zup G)).toList ++ rest))) : W p l e R s m args below meth c H locs u v Qs (F0 m pc ls st0) := by
  intro T hT X
  obtain ⟨w, st₀, t, T', L, h0, X', hL, e1, e2, ⟨⟨r, M', hv, hq, hP1⟩, hz, hk⟩, st⟩ := hr T hT X
  cases hv
  rw [h0] at hz hk
  obtain ⟨t2, a1, b1⟩ := kk r M' T'.heap (locs ++ L) hq (by rw [e1]; exact hP1)
    ⟨Nat.le_trans hS.1 (by rw [e1]; exact hz), fun q h1 h2 => by rw [e1, hk q (Nat.lt_of_lt_of_le h1 hS.1) h2]; exact hS.2.1 q h1 h2, fun q hq => by
      rcases List.mem_append.mp hq with h | h
      · exact hS.2.2 q h
      · exact hL q h⟩ T' rfl X'
  exact ⟨t2, st t2 a1, b1⟩
/-- what a callee finds -/
theorem z_pre (hE : zEnv G s) {M : zM} (hP : zP G M H) (hS : va_S (zA G) s.heap H locs) {U : State} (hU : U.heap = H) (hW : s.WarmedH U.vm) : zP G M U.heap ∧ zEnv G U := by
  refine ⟨by rw [hU]; exact hP, hE.step hW (fun q hq => ?_) ?_⟩
  · rw [hU]
    exact hS.2.1 q (Nat.lt_of_lt_of_le hq hE.2.1) (fun h => Nat.lt_irrefl _ (Nat.lt_of_lt_of_le hq h))
  · rw [hU]
    exact Nat.le_trans hE.2.1 hS.1
theorem z_toList (r : Option Value) (st : List Value) : (r.map (zup G)).toList ++ st.map (zup G) = (r.toList ++ st).map (zup G) := by cases r <;> simp
theorem z_room {st : List Value} (h : zrm st) {st2 : List Value} : 2 * (F0 m pc ls st2).monitorRoom + ((st.map (zup G)).map fun v => v.category).sum ≤ 8 := by
  unfold zrm at h
  rw [← zup_cats G] at h
  exact lv_room (m := m) (pc := pc) (ls := ls) (rest := st2) h
theorem z_split {st : List Value} {n : Nat} {x : Value} {As : List Value} (h : (st.take (n + 1)).reverse = x :: As) : st.map (zup G) = (As.map (zup G)).reverse ++ zup G x :: (st.drop (n + 1)).map (zup G) := by
  have h1 : st.take (n + 1) = (x :: As).reverse := by rw [← h, List.reverse_reverse]
  have h2 : st = (x :: As).reverse ++ st.drop (n + 1) := by rw [← h1, List.take_append_drop]
  calc st.map (zup G) = ((x :: As).reverse ++ st.drop (n + 1)).map (zup G) := by rw [← h2]
    _ = _ := by simp
theorem S_callV (hC : zCx p R s m args meth c G cc nL own mc ms) {ci n ix N maxL fr lo : Nat} {C : String} {T : u_T} {y : MethodName} {bytes : ByteArray} {ret : Option FieldType} {Sp : zSp} (hM : zSnd l G y bytes maxL ret fr lo Sp) (hF : vwCl[ci]? = some (C, T, N)) (hl : Cond.methodLink own ix y ∈ zgw) (hi : Cond.instanceMethod y ∈ zgw) (hs : Cond.selects C y y ∈ zgw) (hni : Cond.initialized C ∈ zgw) (hcd : Cond.code y bytes maxL ret ∈ zgw)
    (hd : y.cls = C ∧ y.cls ≠ "java/lang/invoke/MethodHandle" ∧ y.cls ≠ "java/lang/invoke/VarHandle" ∧ (parseMethodDescriptor y.desc).map (fun d => d.parameters.length) = some n) (hR : fr + 1 ≤ R.frames ∧ 8 + (maxL + 11) + lo ≤ R.locals) (hdg : decode cc pc = .ok (.invokevirtual ix, 3)) (hk : zOk p l e R s m args below meth c Qs G nL (pc + 3) k) : zOk p l e R s m args below meth c Qs G nL pc (zcv mc ms ci n Sp k) := by
  intro u v lv st M h H locs ls hP hS hL hu hv
  obtain ⟨hrm, h⟩ := h
  split at h
  case h_1 a As hst =>
    obtain ⟨hlen, hsh, kc, ks, hc1, hc2, hsp⟩ := h
    have hRc : R.cells = mc := hC.2.2.2.2.2.2.2.1
    have hRs : R.slots = ms := hC.2.2.2.2.2.2.2.2
    have hE := hC.2.2.2.2.2.2.1
    have hMet := hM kc ks (.ref a :: As) M _ hsp
    have hT : GoodIn zgw (wsV own ix C y (.code y bytes maxL ret :: zgw)) := zgood (fun w hw => by
      simp only [wsV, List.mem_append, List.mem_cons, List.not_mem_nil, or_false] at hw
      rcases hw with (rfl | rfl | rfl | rfl) | rfl | hw
      · exact hl
      · exact hi
      · exact hs
      · exact hni
      · exact hcd
      · exact hw)
    have hrecv := va_recv hE.1 (hP.at hsh (show (0 : Nat) < 7 by decide)) (ci := ci) (q0 := 0) hF rfl
    have hrun := va_runV (Ts := zgw) (As := As.map (zup G)) (b := zad G a) (rest := (st.drop (n + 1)).map (zup G)) (g := F0 m pc ls (st.map (zup G))) (locs := locs) (below := below) (meth := meth) (cells := u) (slots := v) (e := e) ⟨hC.1, hC.2.1, hC.2.2.1, hC.2.2.2.1, hC.2.2.2.2.1⟩ hMet (cwV n hC.2.2.2.2.1 hT rfl rfl rfl hd hR) ⟨z_blind, hrecv, fun U hU hW => ⟨rfl, z_pre hE hP hS hU hW⟩⟩ rfl (by rw [List.length_map]; exact hlen) hL.1 (by show st.map (zup G) = _; rw [z_split hst]; rfl) (z_room hrm) hdg ⟨by rw [hRc]; exact hc1, by rw [hRs]; exact hc2⟩
    refine z_run hrun hS (fun r M' H1 locs1 hq hP1 hS1 => ?_)
    rw [z_toList]
    exact hk _ _ _ _ _ hq H1 locs1 ls hP1 hS1 hL (by rw [hRc]; exact hc1) (by rw [hRs]; exact hc2)
  case h_2 => exact h.elim
theorem S_callI (hC : zCx p R s m args meth c G cc nL own mc ms) {n ix maxL fr lo : Nat} {y : MethodName} {bytes : ByteArray} {Sp : zSp} (hM : zSnd l G y bytes maxL none fr lo Sp) (hl : Cond.methodLink own ix y ∈ zgw) (hi : Cond.instanceMethod y ∈ zgw) (hni : Cond.initialized y.cls ∈ zgw) (hcd : Cond.code y bytes maxL none ∈ zgw) (hy1 : y.name = "<init>")
    (hd : y.cls ≠ "java/lang/invoke/MethodHandle" ∧ y.cls ≠ "java/lang/invoke/VarHandle" ∧ (parseMethodDescriptor y.desc).map (fun d => d.parameters.length) = some n) (hR : fr + 1 ≤ R.frames ∧ 8 + (maxL + 11) + lo ≤ R.locals) (hdg : decode cc pc = .ok (.invokespecial ix, 3)) (hk : zOk p l e R s m args below meth c Qs G nL (pc + 3) k) : zOk p l e R s m args below meth c Qs G nL pc (zci mc ms n Sp k) := by
  intro u v lv st M h H locs ls hP hS hL hu hv
  obtain ⟨hrm, h⟩ := h
  split at h
  case h_1 a As hst =>
    obtain ⟨hlen, kc, ks, hc1, hc2, hsp⟩ := h
    have hRc : R.cells = mc := hC.2.2.2.2.2.2.2.1
    have hRs : R.slots = ms := hC.2.2.2.2.2.2.2.2
    have hE := hC.2.2.2.2.2.2.1
    have hMet := hM kc ks (.ref a :: As) M _ hsp
    have hT : GoodIn zgw (.code y bytes maxL none :: zgw) := zgood (fun w hw => by
      rcases List.mem_cons.mp hw with rfl | hw
      · exact hcd
      · exact hw)
    have hrun := va_runI (Ts := zgw) (As := As.map (zup G)) (b := zad G a) (rest := (st.drop (n + 1)).map (zup G)) (g := F0 m pc ls (st.map (zup G))) (locs := locs) (below := below) (meth := meth) (cells := u) (slots := v) (e := e) ⟨hC.1, hC.2.1, hC.2.2.1, hC.2.2.2.1, hC.2.2.2.2.1⟩ hMet (cwI n hC.2.2.2.2.1 hT rfl rfl rfl (hC.2.2.2.2.1 _ hni) (hC.2.2.2.2.1 _ hl) (hC.2.2.2.2.1 _ hi) hy1 hd hR) ⟨z_blind, fun U hU hW => ⟨rfl, z_pre hE hP hS hU hW⟩⟩ rfl (by rw [List.length_map]; exact hlen) hL.1 (by show st.map (zup G) = _; rw [z_split hst]; rfl) (z_room hrm) hdg ⟨by rw [hRc]; exact hc1, by rw [hRs]; exact hc2⟩
    refine z_run hrun hS (fun r M' H1 locs1 hq hP1 hS1 => ?_)
    rw [z_toList]
    exact hk _ _ _ _ _ hq H1 locs1 ls hP1 hS1 hL (by rw [hRc]; exact hc1) (by rw [hRs]; exact hc2)
  case h_2 => exact h.elim
theorem S_callS (hC : zCx p R s m args meth c G cc nL own mc ms) {n ix maxL fr lo : Nat} {y : MethodName} {bytes : ByteArray} {ret : Option FieldType} {Sp : zSp} (hM : zSnd l G y bytes maxL ret fr lo Sp) (hl : Cond.methodLink own ix y ∈ zgw) (hi : Cond.static y ∈ zgw) (hni : Cond.initialized y.cls ∈ zgw) (hcd : Cond.code y bytes maxL ret ∈ zgw)
    (hd : y.cls ≠ "java/lang/invoke/MethodHandle" ∧ y.cls ≠ "java/lang/invoke/VarHandle" ∧ (parseMethodDescriptor y.desc).map (fun d => d.parameters.length) = some n) (hR : fr + 1 ≤ R.frames ∧ 8 + (maxL + 11) + lo ≤ R.locals) (hdg : decode cc pc = .ok (.invokestatic ix, 3)) (hk : zOk p l e R s m args below meth c Qs G nL (pc + 3) k) : zOk p l e R s m args below meth c Qs G nL pc (zcs mc ms n Sp k) := by
  intro u v lv st M h H locs ls hP hS hL hu hv
  obtain ⟨hrm, hlen, kc, ks, hc1, hc2, hsp⟩ := h
  have hRc : R.cells = mc := hC.2.2.2.2.2.2.2.1
  have hRs : R.slots = ms := hC.2.2.2.2.2.2.2.2
  have hE := hC.2.2.2.2.2.2.1
  have hMet := hM kc ks (st.take n).reverse M _ hsp
  have hG : GoodIn zgw (.code y bytes maxL ret :: zgw) := zgood (fun w hw => by
    rcases List.mem_cons.mp hw with rfl | hw
    · exact hcd
    · exact hw)
  have hst : st.map (zup G) = ((st.take n).reverse.map (zup G)).reverse ++ (st.drop n).map (zup G) := by
    rw [List.map_reverse, List.reverse_reverse, ← List.map_append, List.take_append_drop]
  have hrun := va_runS (Ts := zgw) (As := (st.take n).reverse.map (zup G)) (rest := (st.drop n).map (zup G)) (g := F0 m pc ls (st.map (zup G))) (locs := locs) (below := below) (meth := meth) (cells := u) (slots := v) (e := e) ⟨hC.1, hC.2.1, hC.2.2.1, hC.2.2.2.1, hC.2.2.2.2.1⟩ hMet ⟨callB_of n hC.2.2.2.2.1 hG rfl rfl rfl (hC.2.2.2.2.1 _ hni) (hC.2.2.2.2.1 _ hl) hd hR, hC.2.2.2.2.1 _ hi⟩ ⟨z_blind, fun U hU hW => ⟨rfl, z_pre hE hP hS hU hW⟩⟩ rfl (by rw [List.length_map, List.length_reverse]; exact hlen) hL.1 hst (z_room hrm) hdg ⟨by rw [hRc]; exact hc1, by rw [hRs]; exact hc2⟩
  refine z_run hrun hS (fun r M' H1 locs1 hq hP1 hS1 => ?_)
  rw [z_toList]
  exact hk _ _ _ _ _ hq H1 locs1 ls hP1 hS1 hL (by rw [hRc]; exact hc1) (by rw [hRs]; exact hc2)
end ZC
/-! a method's entry -/
def zlay : List Value → List (Option Value)
  | [] => []
  | .long x :: vs => some (.long x) :: none :: zlay vs
  | .double x :: vs => some (.double x) :: none :: zlay vs
  | w :: vs => some w :: zlay vs
theorem zlay_cons (w : Value) (vs : List Value) : zlay (w :: vs) = if w.category = 2 then some w :: none :: zlay vs else some w :: zlay vs := by
  cases w <;> rfl
theorem zlay_len (G : zG) (av : List Value) : (zlay av).length = (lg_sl (av.map (zup G))).length := by
  induction av with
  | nil => rfl
  | cons w vs ih =>
    rw [zlay_cons]
    have : lg_sl ((w :: vs).map (zup G)) = (if (zup G w).category = 2 then [.val (zup G w), .second] else [.val (zup G w)]) ++ lg_sl (vs.map (zup G)) := by
      simp [lg_sl]
    rw [this, zup_cat]
    by_cases h : w.category = 2
    · rw [if_pos h, if_pos h]; simp [ih]
    · rw [if_neg h, if_neg h]; simp [ih]
theorem zlay_at (G : zG) (av : List Value) : ∀ (i j : Nat) (x : Value), (zlay av)[j]? = some (some x) → (i + j, zup G x) ∈ lv_args i (av.map (zup G)) := by
  induction av with
  | nil => intro i j x h; simp [zlay] at h
  | cons w vs ih =>
    intro i j x h
    rw [zlay_cons] at h
    simp only [List.map_cons, lv_args, zup_cat]
    by_cases hc : w.category = 2
    · rw [if_pos hc] at h ⊢
      match j with
      | 0 => simp at h; subst h; exact List.mem_cons_self
      | 1 => simp at h
      | j + 2 =>
        have := ih (i + 2) j x (by simpa using h)
        rw [show i + (j + 2) = i + 2 + j by omega]
        exact List.mem_cons_of_mem _ this
    · rw [if_neg hc] at h ⊢
      match j with
      | 0 => simp at h; subst h; exact List.mem_cons_self
      | j + 1 =>
        have := ih (i + 1) j x (by simpa using h)
        rw [show i + (j + 1) = i + 1 + j by omega]
        exact List.mem_cons_of_mem _ this
/-- the contract of a method, out of what its first block asks -/
theorem zmk {l : Launch} {G : zG} {y : MethodName} {cc : ByteArray} {maxL fr lo : Nat} {ret : Option FieldType} {Sp : zSp} (live : List Nat) (hy : plainName y.cls = true) (hlen : ∀ mc ms av M Q, Sp mc ms av M Q → (zlay av).length ≤ maxL ∧ zpick (zlay av) live = some av)
    (body : ∀ (p : Program) (e : Env) (R : Room) (s : State) (m : MethodId) (args : Array Value) (below : List Frame) (meth : Method) (c : Code) (mc ms : Nat) (av : List Value) (M : zM) (Q : zQt), zCx p R s m args meth c G cc maxL y.cls mc ms → R.frames = fr → R.locals = lo → meth.sig.returnType = ret → meth.name = y.name → Sp mc ms av M Q →
      ∀ lv : List (Option Value), zpick lv live = some av → zAt p l e R s m args below meth c (MQ below (zQ G Q) args s mc ms (zA G)) G maxL 0 0 0 lv [] M) : zSnd l G y cc maxL ret fr lo Sp := by
  intro mc ms av M Q hsp
  refine Met.ofW (cc := cc) (maxL := maxL) (ret := ret) hy rfl ?_
  intro p e s m args below meth c s₁ B hml hv
  obtain ⟨rfl, hP, hE⟩ := hv
  obtain ⟨hl1, hl2⟩ := hlen mc ms av M Q hsp
  have hts := atoms_spec (ws := (.code y cc maxL ret :: zgw)) B.pre
  have hown : s.vm.findClass y.cls = some m.cls := findClass_of_methodNamed B.named
  have hlo := lv_entry (av.map (zup G)) (n := maxL) (by rw [← zlay_len]; exact hl1)
  rw [lg_entry_eq]
  generalize (lg_sl (av.map (zup G)) ++ List.replicate (maxL - (lg_sl (av.map (zup G))).length) Slot.unset).toArray = ls at hlo ⊢
  have hpk : ∀ (js : List Nat) (vs : List Value), zpick (zlay av) js = some vs → zpick (zlay av ++ List.replicate (maxL - (zlay av).length) none) js = some vs := by
    intro js
    induction js with
    | nil => intro vs h; exact h
    | cons j js ih =>
      intro vs h
      unfold zpick at h ⊢
      split at h
      case h_2 => cases h
      case h_1 x hx =>
        have hj : j < (zlay av).length := (List.getElem?_eq_some_iff.mp hx).1
        rw [List.getElem?_append_left hj, hx]
        split at h
        case h_2 => cases h
        case h_1 ws hw =>
          cases h
          rw [ih ws hw]
  refine body p e _ s m _ below meth c mc ms av M Q ⟨B.exec, B.bytes, hml, hown, fun w hw => hts w (List.mem_cons_of_mem _ hw), B.notSynchronized, hE, rfl, rfl⟩ rfl rfl B.returns (name_of_methodNamed B.named B.method).1 hsp (zlay av ++ List.replicate (maxL - (zlay av).length) none) (hpk _ _ hl2) s.heap [] ls hP va_S.rf ⟨hlo.1, hlo.2.1, ?_, fun i x hx => ?_⟩ (Nat.zero_le _) (Nat.zero_le _)
  · rw [List.length_append, List.length_replicate]; omega
  · by_cases hi : i < (zlay av).length
    · rw [List.getElem?_append_left hi] at hx
      have := zlay_at G av 0 i x hx
      rw [Nat.zero_add] at this
      exact hlo.2.2 _ this
    · rw [List.getElem?_append_right (by omega)] at hx
      have := List.eq_of_mem_replicate (List.mem_of_getElem? hx)
      cases this
