/-! Math.max and Math.abs, by the library's rows -/
def zmx (k : zT) : zT := fun u v lv st M => match st with
  | .int y :: .int x :: r => zrm r ∧ k u v lv (.int (if x < y then y else x) :: r) M
  | _ => False
def zab (k : zT) : zT := fun u v lv st M => match st with
  | .int x :: r => zrm r ∧ k u v lv (.int (if 0 ≤ x then x else 0 - x) :: r) M
  | _ => False
section ZMA
variable {p : Program} {l : Launch} {e : Env} {R : Room} {s : State} {m : MethodId} {args : Array Value} {below : List Frame} {meth : Method} {c : Code} {Qs : State → Prop} {G : zG} {cc : ByteArray} {nL : Nat} {own : String} {mc ms : Nat} {pc : Nat} {k t : zT}
theorem S_max (hC : zCx p R s m args meth c G cc nL own mc ms) {ix : Nat} (hl : Cond.methodLink own ix Lib.Math.max.name ∈ zgw) (hst : Cond.static Lib.Math.max.name ∈ zgw) (hi : Cond.initialized "java/lang/Math" ∈ zgw) (hcd : Cond.code Lib.Math.max.name Lib.Math.max.code 2 (some .int) ∈ zgw) (hfr : 1 ≤ R.frames) (hlo : 21 ≤ R.locals) (hdg : decode cc pc = .ok (.invokestatic ix, 3)) (hk : zOk p l e R s m args below meth c Qs G nL (pc + 3) k) : zOk p l e R s m args below meth c Qs G nL pc (zmx k) := by
  intro u v lv st M h H locs ls hP hS hL hu hv
  unfold zmx at h
  split at h
  case h_1 y x r =>
    have h1 := h.1
    unfold zrm at h1
    rw [← zup_cats G] at h1
    exact va_mmax hC.1 hC.2.1 (hC.2.2.1.trans hL.1.symm) hC.2.2.2.1 (hC.2.2.2.2.1 _ hl) (hC.2.2.2.2.1 _ hst) (hC.2.2.2.2.1 _ hi) (hC.2.2.2.2.1 _ hcd) hfr (by omega) hu hv hdg (hk _ _ _ _ _ h.2 H locs ls hP hS hL hu hv)
  case h_2 => exact h.elim
theorem S_abs (hC : zCx p R s m args meth c G cc nL own mc ms) {ix : Nat} (hl : Cond.methodLink own ix Lib.Math.abs.name ∈ zgw) (hst : Cond.static Lib.Math.abs.name ∈ zgw) (hi : Cond.initialized "java/lang/Math" ∈ zgw) (hcd : Cond.code Lib.Math.abs.name Lib.Math.abs.code 1 (some .int) ∈ zgw) (hfr : 1 ≤ R.frames) (hlo : 21 ≤ R.locals) (hdg : decode cc pc = .ok (.invokestatic ix, 3)) (hk : zOk p l e R s m args below meth c Qs G nL (pc + 3) k) : zOk p l e R s m args below meth c Qs G nL pc (zab k) := by
  intro u v lv st M h H locs ls hP hS hL hu hv
  unfold zab at h
  split at h
  case h_1 x r =>
    have h1 := h.1
    unfold zrm at h1
    rw [← zup_cats G] at h1
    exact va_mabs hC.1 hC.2.1 (hC.2.2.1.trans hL.1.symm) hC.2.2.2.1 (hC.2.2.2.2.1 _ hl) (hC.2.2.2.2.1 _ hst) (hC.2.2.2.2.1 _ hi) (hC.2.2.2.2.1 _ hcd) hfr (by omega) hu hv hdg (hk _ _ _ _ _ h.2 H locs ls hP hS hL hu hv)
  case h_2 => exact h.elim
end ZMA
/-! stores that give the value a name -/
def zsiN (i : Nat) (k : zT) : zT := fun u v lv st M => match st with
  | .int x :: r => ∀ y : Int32, y = x → k u v (zset1 lv i (.int y)) r M
  | _ => False
def zslN (i : Nat) (k : zT) : zT := fun u v lv st M => match st with
  | .long x :: r => ∀ y : Int64, y = x → k u v (zset2 lv i (.long y)) r M
  | _ => False
theorem zsiN_of {i : Nat} {k : zT} {u v : Nat} {lv : List (Option Value)} {st : List Value} {M : zM} (h : zsiN i k u v lv st M) : zsi i k u v lv st M := by
  unfold zsiN at h
  unfold zsi
  split at h
  case h_1 x r => exact h x rfl
  case h_2 => exact h.elim
theorem zslN_of {i : Nat} {k : zT} {u v : Nat} {lv : List (Option Value)} {st : List Value} {M : zM} (h : zslN i k u v lv st M) : zsl i k u v lv st M := by
  unfold zslN at h
  unfold zsl
  split at h
  case h_1 x r => exact h x rfl
  case h_2 => exact h.elim
section ZMN
variable {p : Program} {l : Launch} {e : Env} {R : Room} {s : State} {m : MethodId} {args : Array Value} {below : List Frame} {meth : Method} {c : Code} {Qs : State → Prop} {G : zG} {cc : ByteArray} {nL : Nat} {own : String} {mc ms : Nat} {pc : Nat} {k t : zT}
theorem S_istore_n_N (hC : zCx p R s m args meth c G cc nL own mc ms) {n : Fin 4} {i : Nat} (hdg : decode cc pc = .ok (.istore_n n, 1)) (hi : (n : Nat) = i) (hn : i < nL) (hk : zOk p l e R s m args below meth c Qs G nL (pc + 1) k) : zOk p l e R s m args below meth c Qs G nL pc (zsiN i k) := fun u v lv st M h => S_istore_n hC hdg hi hn hk u v lv st M (zsiN_of h)
theorem S_istore_N (hC : zCx p R s m args meth c G cc nL own mc ms) {i : Nat} (hdg : decode cc pc = .ok (.istore i, 2)) (hn : i < nL) (hk : zOk p l e R s m args below meth c Qs G nL (pc + 2) k) : zOk p l e R s m args below meth c Qs G nL pc (zsiN i k) := fun u v lv st M h => S_istore hC hdg hn hk u v lv st M (zsiN_of h)
theorem S_lstore_n_N (hC : zCx p R s m args meth c G cc nL own mc ms) {n : Fin 4} {i : Nat} (hdg : decode cc pc = .ok (.lstore_n n, 1)) (hi : (n : Nat) = i) (hn : i + 1 < nL) (hk : zOk p l e R s m args below meth c Qs G nL (pc + 1) k) : zOk p l e R s m args below meth c Qs G nL pc (zslN i k) := fun u v lv st M h => S_lstore_n hC hdg hi hn hk u v lv st M (zslN_of h)
theorem S_lstore_N (hC : zCx p R s m args meth c G cc nL own mc ms) {i : Nat} (hdg : decode cc pc = .ok (.lstore i, 2)) (hn : i + 1 < nL) (hk : zOk p l e R s m args below meth c Qs G nL (pc + 2) k) : zOk p l e R s m args below meth c Qs G nL pc (zslN i k) := fun u v lv st M h => S_lstore hC hdg hn hk u v lv st M (zslN_of h)
end ZMN
