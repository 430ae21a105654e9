/-! THE LAW'S FRAME (the skeleton's own rows), the script, the end -/
def R_law : String := "GameHallLaw"
def lw_P (b : Addr) (xs : List Int32) (args : Array Value) (s : State) : Prop := args = #[.ref b] ∧ s.IntsAt b xs ∧ xs.length ≤ 385 ∧ (Jvm.Cond.and given_1 narrow_1).before args s = true
def lw_Q (_ : Array Value) (s : State) (o : Outcome) (t : State) : Prop := o = .returned (some (.int 1)) ∧ Framed s o t [] 600128 7301064
def lw_Z (below : List Frame) (a : Array Value) (s : State) : State → Prop := fun t => ∃ o, t.status = .running ∧ Ended t below o ∧ lw_Q a s o t
/-- the law's own end, with 1 on the stack, nothing written that was there before, its room as the claim has it -/
theorem lw_ret {p : Program} {l : Launch} {e : Env} {s : State} {m : MethodId} {below : List Frame} {meth : Method} {c : Code} {b : Nat} (hx : p.tables.exec = Jvm.exec) (hb : c.code = code) (hr : meth.sig.returnType = ret) (hlocks : meth.locks = false) {pc : Nat} {H : Heap} {ls : Array Slot} (hdg : decode code pc = .ok (.ireturn, 1)) : W p l e room_1 s m #[Value.ref b] below meth c H [] 600128 7301064 (lw_Z below #[Value.ref b] s) (F0 m pc ls [.int 1]) := by
  intro T hT X
  obtain ⟨fs, hret, hrun, hended, hW, hframe⟩ := X.leave (v := some (.int 1)) (hlocks := hlocks) (fun h => by rw [hr] at h; cases h)
  have hmeth' : T.vm.method? m = some meth := X.method'
  refine ⟨T.setFrames fs, ?_, .returned (some (.int 1)), hrun, hended, rfl, ⟨_, rfl⟩, hW, hframe⟩
  jvm_step X.here [X.here.top, hx, hb, hdg, hmeth', hr, ret, narrow_b1]
  (try refine ⟨rfl, ?_⟩); (try refine ⟨rfl, ?_⟩)
  first | (intro acts; rw [hret _ acts rfl rfl rfl]) | rw [hret _ _ rfl rfl rfl]
  exact Steps.refl _
/-- what holds at the law's entry: the machine, the code, the tables' words (any of lw_tbl by 'hts w (by decide +kernel)'), the script of L ints xs at the cell b, what the Statement gives of the start (any of its parts by flat_of_before) -/
def lw_At (p : Program) (s : State) (m : MethodId) (meth : Method) (c : Code) (b L : Nat) (xs : Nat → Int32) : Prop :=
  p.tables.exec = Jvm.exec ∧ c.code = code ∧ meth.sig.returnType = ret ∧ c.maxLocals = 8 ∧ s.vm.findClass R_law = some m.cls ∧ (∀ w ∈ lw_tbl, w.before #[Value.ref b] s = true) ∧ va_X b L xs s s.heap ∧ b < s.heap.size ∧ meth.locks = false ∧ (Jvm.Cond.and given_1 narrow_1).before #[Value.ref b] s = true
/-- the script lies outside, as cell 10 -/
def zScr (G : zG) (L : Nat) (xs : Nat → Int32) : Prop := ∀ (U : State) (H : Heap), G.2.2.2.2 U H → va_X (G.2.1 10) L xs U H ∧ G.2.1 10 < G.1
def zxs (L : Nat) (xs : Nat → Int32) (k : zT) : zT := fun u v lv st M => match st with
  | .int i :: .ref a :: r => a = 10 ∧ vp_in i L ∧ k u v lv (.int (xs i.toNatClampNeg) :: r) M
  | _ => False
def zxn (L : Nat) (k : zT) : zT := fun u v lv st M => match st with
  | .ref a :: r => a = 10 ∧ k u v lv (.int (Int32.ofNat L) :: r) M
  | _ => False
def zEnd : zT := fun _ _ _ st _ => st = [.int 1]
section ZLW
variable {p : Program} {l : Launch} {e : Env} {R : Room} {s : State} {m : MethodId} {args : Array Value} {below : List Frame} {meth : Method} {c : Code} {Qs : State → Prop} {G : zG} {cc : ByteArray} {nL : Nat} {own : String} {mc ms : Nat} {pc : Nat} {k : zT}
theorem S_xs (hC : zCx p R s m args meth c G cc nL own mc ms) {L : Nat} {xs : Nat → Int32} (hScr : zScr G L xs) (hdg : decode cc pc = .ok (.iaload, 1)) (hk : zOk p l e R s m args below meth c Qs G nL (pc + 1) k) : zOk p l e R s m args below meth c Qs G nL pc (zxs L xs k) := by
  intro u v lv st M h H locs ls hP hS hL hu hv
  unfold zxs at h
  split at h
  case h_1 i a r =>
    obtain ⟨rfl, h1, h2⟩ := h
    have hE := hC.2.2.2.2.2.2.1
    obtain ⟨x1, x2⟩ := hScr s s.heap (zF_now hC)
    have : zup G (.ref 10) = .ref (G.2.1 10) := rfl
    show W p l e R s m args below meth c H locs u v Qs (F0 m pc ls (.int i :: zup G (.ref 10) :: r.map (zup G)))
    rw [this]
    exact va_sld hC.1 hC.2.1 x1 (Nat.lt_of_lt_of_le x2 hE.2.1) (fun y => Nat.lt_irrefl _ (Nat.lt_of_lt_of_le x2 y)) hS h1 hdg (hk _ _ _ _ _ h2 H locs ls hP hS hL hu hv)
  case h_2 => exact h.elim
theorem S_xn (hC : zCx p R s m args meth c G cc nL own mc ms) {L : Nat} {xs : Nat → Int32} (hScr : zScr G L xs) (hdg : decode cc pc = .ok (.arraylength, 1)) (hk : zOk p l e R s m args below meth c Qs G nL (pc + 1) k) : zOk p l e R s m args below meth c Qs G nL pc (zxn L k) := by
  intro u v lv st M h H locs ls hP hS hL hu hv
  unfold zxn at h
  split at h
  case h_1 a r =>
    obtain ⟨rfl, h2⟩ := h
    have hE := hC.2.2.2.2.2.2.1
    obtain ⟨x1, x2⟩ := hScr s s.heap (zF_now hC)
    have : zup G (.ref 10) = .ref (G.2.1 10) := rfl
    show W p l e R s m args below meth c H locs u v Qs (F0 m pc ls (zup G (.ref 10) :: r.map (zup G)))
    rw [this]
    exact va_slen hC.1 hC.2.1 x1 (Nat.lt_of_lt_of_le x2 hE.2.1) (fun y => Nat.lt_irrefl _ (Nat.lt_of_lt_of_le x2 y)) hS hdg (hk _ _ _ _ _ h2 H locs ls hP hS hL hu hv)
  case h_2 => exact h.elim
theorem S_end {b : Nat} (hC : zCx p room_1 s m #[Value.ref b] meth c G code nL own 600128 7301064) (hr : meth.sig.returnType = ret) (hG1 : G.1 = s.heap.size) (hdg : decode code pc = .ok (.ireturn, 1)) : zOk p l e room_1 s m #[Value.ref b] below meth c (lw_Z below #[Value.ref b] s) G nL pc zEnd := by
  intro u v lv st M h H locs ls hP hS hL hu hv
  cases h
  refine va_forget (fun q hq => by rw [← hG1]; exact hS.2.2 q hq) (W.widen (k := 600128) (n := 7301064) hu hv ?_)
  exact lw_ret hC.1 hC.2.1 hr hC.2.2.2.2.2.1 hdg
end ZLW
