/-! AN EXCEPTION IS CAUGHT -/
section ZXC
variable {p : Program} {l : Launch} {e : Env} {R : Room} {s : State} {m : MethodId} {args : Array Value} {below : List Frame} {meth : Method} {c : Code} {H : Heap} {locs : List Loc} {cells slots : Nat} {Q : State → Prop}
/-- one row of the table: it takes the object, or the search goes on -/
theorem zx_row {Qh : Handler → Pre} {E : CtlPost} {d : Bool} {acts : List Action} {S : State} {f : JFrame} {a : Addr} {x : ExceptionTableEntry} {t : List ExceptionTableEntry} {k : ClassId} {cell : Cell} (hx : covers x f.pc = true) (h0 : x.catchType ≠ 0)
    (hl : S.vm.ClassLinks e.platform f.method.cls x.catchType k) (hcell : S.heap[a]? = some cell) (hobj : ∀ j, cell.vm ≠ .statics j) (hk : ∃ y, S.vm.classes[cell.cls]? = some y) (hc : ∃ y, S.vm.classes[k]? = some y) :
    wp (findHandler.go f a (x :: t)) Qh E e d acts S ↔ (if S.vm.assignable cell.cls k = true then Qh (.found x.handlerPc) d acts (S.setVm (S.vm.noted f.method.cls x.catchType (.cls k))) else wp (findHandler.go f a t) Qh E e d acts (S.setVm (S.vm.noted f.method.cls x.catchType (.cls k)))) := by
  have hx2 := hx
  unfold covers at hx2
  obtain ⟨r1, r2⟩ := (resolveClass_links e.toSetting hl).op (op := VmOp.resolveClass f.method.cls x.catchType) rfl
  have al : S.vm.Alike (S.vm.noted f.method.cls x.catchType (.cls k)) := (Vm.Alike.refl S.vm).noted _ _ _
  obtain ⟨y1, h1⟩ := hk
  obtain ⟨y2, h2⟩ := hc
  obtain ⟨z1, g1, -⟩ := al.2.2 _ _ h1
  obtain ⟨z2, g2, -⟩ := al.2.2 _ _ h2
  have as : (S.vm.noted f.method.cls x.catchType (.cls k)).assignable cell.cls k = S.vm.assignable cell.cls k := al.assignable _ _
  by_cases q : S.vm.assignable cell.cls k = true
  · simp [findHandler.go, hx2, h0, r1, r2, hcell, hobj, g1, g2, as, q, VmOp.dirties, VmOp.acts]
  · simp [findHandler.go, hx2, h0, r1, r2, hcell, hobj, g1, g2, as, q, VmOp.dirties, VmOp.acts]
/-- the search of a frame ends at a handler: the machine goes on there -/
theorem zx_step {tb : Tables} {S target : State} {g : JFrame} {a : Addr} {pc : Nat} {vm2 : Vm} (h : At S g.method c below)
    (hf : ∀ (Qh : Handler → Pre) (E : CtlPost) (d : Bool) (acts : List Action), wp (findHandler g a) Qh E e d acts ((S.setTop g).pushFrame (.throwing a)) ↔ Qh (.found pc) d acts (((S.setTop g).pushFrame (.throwing a)).setVm vm2))
    (hrest : Steps tb e below ((S.setVm vm2).setTop { g with pc := pc, stack := [.ref a] }) target) : Steps tb e below ((S.setTop g).pushFrame (.throwing a)) target := by
  obtain ⟨h1, h2⟩ := h.throwing a
  refine Steps.head h1 h2 ?_
  obtain ⟨g0, hg⟩ := Option.isSome_iff_exists.mp h.top
  obtain ⟨r, hr⟩ := State.topJava?_eq_some.mp hg
  have one : (stepThrowing e ((S.setTop g).pushFrame (.throwing a)) a (.java g :: S.frames.tail)).1 = (((S.setTop g).pushFrame (.throwing a)).setVm vm2).setFrames (.java { g with pc := pc, stack := [.ref a] } :: S.frames.tail) := by
    simp only [stepThrowing, searchFrame, vmDo]
    generalize hres : Sem.go _ e false [] _ = res
    obtain ⟨as, rfl, ha⟩ := Sem.eq_ok_of hres (a := Handler.found pc) (s' := ((S.setTop g).pushFrame (.throwing a)).setVm vm2) (acts' := []) (by simp [hf _ _ _ _])
    rfl
  rw [stepThread_throwing (frames_entered h.top _), one]
  have hr2 : (S.setVm vm2).frames = .java g0 :: r := hr
  rw [State.setTop_of_frames _ hr2] at hrest
  have e1 : (((S.setTop g).pushFrame (.throwing a)).setVm vm2).setFrames (.java { g with pc := pc, stack := [.ref a] } :: S.frames.tail) = (S.setVm vm2).setFrames (.java { g with pc := pc, stack := [.ref a] } :: r) := by
    have cm : ∀ (u : State) (F : List Frame), (u.setFrames F).setVm vm2 = (u.setVm vm2).setFrames F := fun _ _ => rfl
    rw [State.pushFrame, State.setTop_of_frames _ hr, hr, State.setFrames_setFrames, cm, State.setFrames_setFrames]
    rfl
  rw [e1]
  exact hrest
/-- a row's class, as the machine finds it later -/
theorem zx_link {T : State} {own name : String} {x : ExceptionTableEntry} (X : Stand p l e R s m args below meth c T locs cells slots) (hown : s.vm.findClass own = some m.cls) (hlink : (Cond.classLink own x.catchType name).before args s = true) : ∃ k, s.vm.findClass name = some k ∧ s.vm.ClassLinks e.platform m.cls x.catchType k := by
  have hpl : e.platform.magicAccessors = ({} : Platform).magicAccessors := by rw [X.admits.platform]
  exact Cond.classLink_spec hown hlink e.platform hpl
theorem zx_catch1 {own name E : String} {ce : Cell} {q : Addr} {pc : Nat} {ls : Array Slot} {rest : List Value} (hown : s.vm.findClass own = some m.cls) (x : ExceptionTableEntry) (suf : List ExceptionTableEntry) (hsplit : c.exceptionTable.toList = x :: suf) (hx : covers x pc = true) (h0 : x.catchType ≠ 0)
    (hlink : (Cond.classLink own x.catchType name).before args s = true) (hcast : (Cond.castable E name).before args s = true) (hcell : H[q]? = some ce) (hv : ce.vm = .none) (hcl : s.vm.findClass E = some ce.cls)
    (kk : W p l e R s m args below meth c H locs cells slots Q (F0 m x.handlerPc ls [.ref q])) : vx_W p l e R s m args below meth c H locs cells slots Q (F0 m pc ls rest) q := by
  intro T hT X
  obtain ⟨k, hk1, hk2⟩ := zx_link X hown hlink
  obtain ⟨c3, c4, hc3, hc4, hasg⟩ := Cond.castable_spec hcast
  cases Option.some.inj (hc3.symm.trans hcl)
  cases Option.some.inj (hc4.symm.trans hk1)
  obtain ⟨kE, hkE, -⟩ := Vm.findClass_spec hcl
  obtain ⟨dk, _, _, kt, hd, _, _, _, _, hkt, _, hopen⟩ := hk2.here
  obtain ⟨kE', hkE', -⟩ := X.warmed.alike.2.2 _ _ hkE
  obtain ⟨kt', hkt', -⟩ := X.warmed.alike.2.2 _ _ hkt
  have hW2 := X.warmed.noted hd hopen (State.rightAt_cls hk2)
  have hcellT : T.heap[q]? = some ce := by rw [hT]; exact hcell
  obtain ⟨t, h1, h2⟩ := kk (T.setVm (T.vm.noted m.cls x.catchType (.cls k))) hT (X.noted hW2)
  refine ⟨t, zx_step (c := c) (pc := x.handlerPc) (vm2 := T.vm.noted m.cls x.catchType (.cls k)) X.here (fun Qh E2 d acts => ?_) h1, h2⟩
  rw [Jvm.W.findHandler_eq (meth := meth) (code := c) X.method' X.code, hsplit]
  have row := zx_row (e := e) (Qh := Qh) (E := E2) (d := d) (acts := acts) (S := (T.setTop (F0 m pc ls rest)).pushFrame (.throwing q)) (f := F0 m pc ls rest) (a := q) (x := x) (t := suf) (k := k) (cell := ce) hx h0 (X.warmed.classLinks hk2) hcellT (VmData.ne_statics_of (by rw [hv]; rfl)) ⟨kE', hkE'⟩ ⟨kt', hkt'⟩
  rw [row, if_pos (by show T.vm.assignable ce.cls k = true; rw [X.warmed.alike.assignable]; exact hasg)]
  exact Iff.rfl
theorem zx_catch2 {own name nm E : String} {ce : Cell} {q : Addr} {pc : Nat} {ls : Array Slot} {rest : List Value} (hown : s.vm.findClass own = some m.cls) (z x : ExceptionTableEntry) (suf : List ExceptionTableEntry) (hsplit : c.exceptionTable.toList = z :: x :: suf) (hz : covers z pc = true) (hx : covers x pc = true) (z0 : z.catchType ≠ 0) (h0 : x.catchType ≠ 0)
    (zlink : (Cond.classLink own z.catchType nm).before args s = true) (hno : va_Nc E nm s) (hlink : (Cond.classLink own x.catchType name).before args s = true) (hcast : (Cond.castable E name).before args s = true) (hcell : H[q]? = some ce) (hv : ce.vm = .none) (hcl : s.vm.findClass E = some ce.cls)
    (kk : W p l e R s m args below meth c H locs cells slots Q (F0 m x.handlerPc ls [.ref q])) : vx_W p l e R s m args below meth c H locs cells slots Q (F0 m pc ls rest) q := by
  intro T hT X
  obtain ⟨k, hk1, hk2⟩ := zx_link X hown hlink
  obtain ⟨j, hj1, hj2⟩ := zx_link X hown zlink
  obtain ⟨c3, c4, hc3, hc4, hasg⟩ := Cond.castable_spec hcast
  cases Option.some.inj (hc3.symm.trans hcl)
  cases Option.some.inj (hc4.symm.trans hk1)
  obtain ⟨n1, n2, hn1, hn2, hn3⟩ := hno
  cases Option.some.inj (hn1.symm.trans hcl)
  cases Option.some.inj (hn2.symm.trans hj1)
  obtain ⟨kE, hkE, -⟩ := Vm.findClass_spec hcl
  obtain ⟨dk, _, _, kt, hd, _, _, _, _, hkt, _, hopen⟩ := hk2.here
  obtain ⟨dj, _, _, jt, hdj, _, _, _, _, hjt, _, hopenj⟩ := hj2.here
  obtain ⟨kE', hkE', -⟩ := X.warmed.alike.2.2 _ _ hkE
  obtain ⟨jt', hjt', -⟩ := X.warmed.alike.2.2 _ _ hjt
  have hW1 := X.warmed.noted hdj hopenj (State.rightAt_cls hj2)
  obtain ⟨kE2, hkE2, -⟩ := hW1.alike.2.2 _ _ hkE
  obtain ⟨kt2, hkt2, -⟩ := hW1.alike.2.2 _ _ hkt
  have hW2 := hW1.noted hd hopen (State.rightAt_cls hk2)
  have hcellT : T.heap[q]? = some ce := by rw [hT]; exact hcell
  obtain ⟨t, h1, h2⟩ := kk (T.setVm ((T.vm.noted m.cls z.catchType (.cls j)).noted m.cls x.catchType (.cls k))) hT (X.noted hW2)
  refine ⟨t, zx_step (c := c) (pc := x.handlerPc) (vm2 := (T.vm.noted m.cls z.catchType (.cls j)).noted m.cls x.catchType (.cls k)) X.here (fun Qh E2 d acts => ?_) h1, h2⟩
  rw [Jvm.W.findHandler_eq (meth := meth) (code := c) X.method' X.code, hsplit]
  have ob := VmData.ne_statics_of (x := ce.vm) (by rw [hv]; rfl)
  have row1 := zx_row (e := e) (Qh := Qh) (E := E2) (d := d) (acts := acts) (S := (T.setTop (F0 m pc ls rest)).pushFrame (.throwing q)) (f := F0 m pc ls rest) (a := q) (x := z) (t := x :: suf) (k := j) (cell := ce) hz z0 (X.warmed.classLinks hj2) hcellT ob ⟨kE', hkE'⟩ ⟨jt', hjt'⟩
  rw [row1, if_neg (by show ¬ T.vm.assignable ce.cls j = true; rw [X.warmed.alike.assignable, hn3]; decide)]
  have row2 := zx_row (e := e) (Qh := Qh) (E := E2) (d := d) (acts := acts) (S := ((T.setTop (F0 m pc ls rest)).pushFrame (.throwing q)).setVm (T.vm.noted m.cls z.catchType (.cls j))) (f := F0 m pc ls rest) (a := q) (x := x) (t := suf) (k := k) (cell := ce) hx h0 (hW1.classLinks hk2) hcellT ob ⟨kE2, hkE2⟩ ⟨kt2, hkt2⟩
  refine Iff.trans row2 ?_
  rw [if_pos (by show (T.vm.noted m.cls z.catchType (.cls j)).assignable ce.cls k = true; rw [hW1.alike.assignable]; exact hasg)]
  exact Iff.rfl
end ZXC
