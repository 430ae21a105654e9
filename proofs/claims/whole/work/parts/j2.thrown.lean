/-! METHODS THAT MAY THROW -/
abbrev zEt : Type := String → zM → Prop
abbrev zSpX : Type := Nat → Nat → List Value → zM → zQt → zEt → Prop
/-- cells behind the program's own that nothing is known of -/
def zEx (M : zM) (n : Nat) : zM := (M.1, M.2.1, M.2.2.1, M.2.2.2 ++ List.replicate n (7, 0))
theorem zP.ex {G : zG} {M : zM} {H H1 : Heap} (h : zP G M H) (h1 : H.size ≤ H1.size) (h2 : ∀ q : Nat, q < H.size → H1[q]? = H[q]?) : zP G (zEx M (H1.size - H.size)) H1 := by
  obtain ⟨a, b, c⟩ := h
  refine ⟨?_, ?_, fun k sh hk hs => ?_⟩
  · show 16 ≤ (M.2.2.2 ++ _).length
    rw [List.length_append]; omega
  · show _ = G.1 + ((M.2.2.2 ++ _).length - 16)
    rw [List.length_append, List.length_replicate]; omega
  · have hk : (M.2.2.2 ++ List.replicate (H1.size - H.size) (7, 0))[k]? = some sh := hk
    by_cases z : k < M.2.2.2.length
    · rw [List.getElem?_append_left z] at hk
      obtain ⟨k1, k2⟩ := c k sh hk hs
      exact ⟨k1, k2.kept (h2 _ k2.lt)⟩
    · rw [List.getElem?_append_right (by omega)] at hk
      have := List.eq_of_mem_replicate (List.mem_of_getElem? hk)
      rw [this] at hs
      exact absurd hs (by decide)
def zXC (G : zG) (EX : zEt) : String → State → State → Prop := fun E st t => (∃ M' : zM, EX E M' ∧ zP G M' t.heap) ∧ va_F (zA G) st t
def zSndX (l : Launch) (G : zG) (y : MethodName) (cc : ByteArray) (maxL : Nat) (ret : Option FieldType) (fr lo : Nat) (Sp : zSpX) : Prop :=
  ∀ (mc ms : Nat) (av : List Value) (M : zM) (Q : zQt) (EX : zEt), Sp mc ms av M Q EX → vx_Met l y (.code y cc maxL ret :: zgw) { frames := fr, cells := mc, slots := ms, locals := lo } (va_Pc (av.map (zup G)) (fun U => zP G M U.heap ∧ zEnv G U)) (zQ G Q) (zXC G EX) mc ms (zA G)
theorem zlift {l : Launch} {G : zG} {y : MethodName} {cc : ByteArray} {maxL fr lo : Nat} {ret : Option FieldType} {Sp : zSp} (h : zSnd l G y cc maxL ret fr lo Sp) : zSndX l G y cc maxL ret fr lo (fun mc ms av M Q _ => Sp mc ms av M Q) := by
  intro mc ms av M Q EX hsp
  intro p e ha hc hk s m args below h1 h2 h3 h4
  obtain ⟨n, o, a, b, c, d⟩ := h mc ms av M Q hsp p e ha hc hk s m args below h1 h2 h3 h4
  exact ⟨n, o, a, b, c, Or.inl d⟩
/-- where a method begins -/
theorem zent0 {G : zG} {av : List Value} {maxL : Nat} {live : List Nat} (hl1 : (zlay av).length ≤ maxL) (hl2 : zpick (zlay av) live = some av) : ∃ (lv : List (Option Value)) (ls : Array Slot), zpick lv live = some av ∧ zL G ls maxL lv ∧ ∀ m : MethodId, entryFrame m (av.map (zup G)).toArray maxL = F0 m 0 ls [] := by
  have hlo := lv_entry (av.map (zup G)) (n := maxL) (by rw [← zlay_len]; exact hl1)
  have hpk : ∀ (js : List Nat) (vs : List Value), zpick (zlay av) js = some vs → zpick (zlay av ++ List.replicate (maxL - (zlay av).length) none) js = some vs := by
    intro js
    induction js with
    | nil => intro vs h; exact h
    | cons j js ih =>
      intro vs h
      unfold zpick at h ⊢
      split at h
      case h_2 => cases h
      case h_1 x hx =>
        have hj : j < (zlay av).length := (List.getElem?_eq_some_iff.mp hx).1
        rw [List.getElem?_append_left hj, hx]
        split at h
        case h_2 => cases h
        case h_1 ws hw =>
          cases h
          rw [ih ws hw]
  refine ⟨zlay av ++ List.replicate (maxL - (zlay av).length) none, (lg_sl (av.map (zup G)) ++ List.replicate (maxL - (lg_sl (av.map (zup G))).length) Slot.unset).toArray, hpk _ _ hl2, ⟨hlo.1, hlo.2.1, ?_, fun i x hx => ?_⟩, fun m => lg_entry_eq m _ _⟩
  · rw [List.length_append, List.length_replicate]; omega
  · by_cases hi : i < (zlay av).length
    · rw [List.getElem?_append_left hi] at hx
      have := zlay_at G av 0 i x hx
      rw [Nat.zero_add] at this
      exact hlo.2.2 _ this
    · rw [List.getElem?_append_right (by omega)] at hx
      have := List.eq_of_mem_replicate (List.mem_of_getElem? hx)
      cases this
theorem zmkX {l : Launch} {G : zG} {y : MethodName} {cc : ByteArray} {maxL fr lo : Nat} {ret : Option FieldType} {Sp : zSpX} (live : List Nat) (hy : plainName y.cls = true) (hlen : ∀ mc ms av M Q EX, Sp mc ms av M Q EX → (zlay av).length ≤ maxL ∧ zpick (zlay av) live = some av)
    (body : ∀ (p : Program) (e : Env) (R : Room) (s : State) (m : MethodId) (args : Array Value) (below : List Frame) (meth : Method) (c : Code) (mc ms : Nat) (av : List Value) (M : zM) (Q : zQt) (EX : zEt), zCx p R s m args meth c G cc maxL y.cls mc ms → (∀ x ∈ c.exceptionTable.toList, False) → R.frames = fr → R.locals = lo → meth.sig.returnType = ret → meth.name = y.name → Sp mc ms av M Q EX →
      ∀ lv : List (Option Value), zpick lv live = some av → zAt p l e R s m args below meth c (vx_MQ below (zQ G Q) (zXC G EX) args s mc ms (zA G)) G maxL 0 0 0 lv [] M) : zSndX l G y cc maxL ret fr lo Sp := by
  intro mc ms av M Q EX hsp
  refine vx_ofW (cc := cc) (maxL := maxL) (ret := ret) hy rfl ?_
  intro p e s m args below meth c s₁ B hml ht hv
  obtain ⟨rfl, hP, hE⟩ := hv
  obtain ⟨hl1, hl2⟩ := hlen mc ms av M Q EX hsp
  have hts := atoms_spec (ws := (.code y cc maxL ret :: zgw)) B.pre
  have hown : s.vm.findClass y.cls = some m.cls := findClass_of_methodNamed B.named
  obtain ⟨lv, ls, h1, h2, h3⟩ := zent0 (G := G) hl1 hl2
  rw [h3 m]
  exact body p e _ s m _ below meth c mc ms av M Q EX ⟨B.exec, B.bytes, hml, hown, fun w hw => hts w (List.mem_cons_of_mem _ hw), B.notSynchronized, hE, rfl, rfl⟩ ht rfl rfl B.returns (name_of_methodNamed B.named B.method).1 hsp lv h1 s.heap [] ls hP va_S.rf h2 (Nat.zero_le _) (Nat.zero_le _)
section ZT
variable {p : Program} {l : Launch} {e : Env} {R : Room} {s : State} {m : MethodId} {args : Array Value} {below : List Frame} {meth : Method} {c : Code} {G : zG} {cc : ByteArray} {nL : Nat} {own : String} {mc ms : Nat} {pc : Nat} {k : zT} {Q : zQt} {EX : zEt}
theorem zX_ret (h : zOk p l e R s m args below meth c (MQ below (zQ G Q) args s mc ms (zA G)) G nL pc k) : zOk p l e R s m args below meth c (vx_MQ below (zQ G Q) (zXC G EX) args s mc ms (zA G)) G nL pc k := fun u v lv st M hk H locs ls a b d f g => vx_ret (h u v lv st M hk H locs ls a b d f g)
/-- an exception of the program is made and thrown -/
def zth (mc ms : Nat) (E : String) (EX : zEt) : zT := fun u v _ st M => st = [] ∧ u + 1 ≤ mc ∧ v + 6 ≤ ms ∧ ∀ n, EX E (zEx M n)
def thN : List String := ["java/lang/RuntimeException", "java/lang/Exception"]
def thB (E : String) : List Cond := [.declares ⟨"java/lang/RuntimeException", "<init>", "()V"⟩, .declares ⟨"java/lang/Exception", "<init>", "()V"⟩, .declares ⟨"java/lang/Throwable", "<init>", "()V"⟩, .castable E E]
def thE : List String := ["java/lang/IllegalArgumentException", "java/lang/IllegalStateException", "java/lang/IndexOutOfBoundsException"]
/-- what throwing needs of the rest of the world -/
def zThr (G : zG) : Prop := ∀ (U : State) (H : Heap), G.2.2.2.2 U H → (vx_Zq Bundle.tN "UNASSIGNED_STACK" Bundle.steD (zA G) U H ∧ vx_Zq Bundle.tN "SUPPRESSED_SENTINEL" Bundle.listD (zA G) U H) ∧ (∀ E ∈ thE, ∀ w ∈ thB E, va_Nw w U) ∧ ∀ E ∈ thE, ∀ F ∈ thE, E ≠ F → va_Nc E F U
theorem S_th (hC : zCx p R s m args meth c G cc nL own mc ms) (hT : zThr G) (hl : l.stackTraces = false) (hx : ∀ x ∈ c.exceptionTable.toList, False) {E : String} {ik ic : Nat} (hE : E ∈ thE) (hfit : Bundle.fit E = true) (hk : Cond.classLink own ik E ∈ zgw) (hi : Cond.initialized E ∈ zgw)
    (hg1 : ((vx_at0 own ic E thN).filter goodWord).all (fun w => decide (w ∈ lw_tbl)) = true) (hg2 : ((vx_at0 own ic E thN).filter (fun w => !goodWord w)).all (fun w => decide (w ∈ thB E)) = true) (hg3 : (vx_at0 own ic E thN).all vx_ot = true)
    (d0 : decode cc pc = .ok (.new ik, 3)) (d3 : decode cc (pc + 3) = .ok (.dup, 1)) (d4 : decode cc (pc + 4) = .ok (.invokespecial ic, 3)) (d7 : decode cc (pc + 7) = .ok (.athrow, 1)) (hRf : 6 ≤ R.frames) (hRl : 81 ≤ R.locals) : zOk p l e R s m args below meth c (vx_MQ below (zQ G Q) (zXC G EX) args s mc ms (zA G)) G nL pc (zth mc ms E EX) := by
  intro u v lv st M h H locs ls hP hS hL hu hv
  obtain ⟨rfl, h1, h2, h3⟩ := h
  have hRc : R.cells = mc := hC.2.2.2.2.2.2.2.1
  have hRs : R.slots = ms := hC.2.2.2.2.2.2.2.2
  obtain ⟨⟨z1, z2⟩, z3, z4⟩ := hT s s.heap (zF_now hC)
  have hw := hC.2.2.2.2.1
  have thBt : ∀ w ∈ thB E, w.onTables = true := fun w h => by
    simp only [thB, List.mem_cons, List.not_mem_nil, or_false] at h
    rcases h with rfl | rfl | rfl | rfl <;> rfl
  refine vx_throw0 (cls := E) (names := thN) (ik := ik) (ic := ic) (A := zA G) hC.1 hC.2.1 hl hC.2.2.2.1 hfit (by decide) (hw _ hk) (hw _ hi) ?_ ?_ z1 z2 hS (hL.1.trans hC.2.2.1.symm) d0 d3 d4 d7 (fun x hxx => (hx x hxx).elim) (by show 2 + 3 < R.frames; omega) (by show 0 + (13 * (2 + 1) + 42) ≤ R.locals; omega) (by omega) (by omega) hC.2.2.2.2.2.1 ?_ hS.2.2 h1 h2
  · refine vx_hat (B := thB E) (fun w h => ?_) (fun w h => of_decide_eq_true (List.all_eq_true.mp hg2 w h)) (fun w h => (z3 E hE w h).use (thBt w h))
    have q := of_decide_eq_true (List.all_eq_true.mp hg1 w h)
    exact hw w (List.mem_filter.mpr ⟨q, (List.mem_filter.mp h).2⟩)
  · intro w h
    rcases List.mem_cons.mp h with rfl | h
    · rfl
    · rcases List.mem_cons.mp h with rfl | h
      · rfl
      · exact List.all_eq_true.mp hg3 w h
  · intro t ha hsz hq
    refine ⟨⟨_, h3 _, hP.ex hsz hq⟩, ?_, fun q q1 q2 => ?_⟩
    · exact Nat.le_trans hS.1 hsz
    · rw [hq q (Nat.lt_of_lt_of_le q1 hS.1)]
      exact hS.2.1 q q1 q2
end ZT
