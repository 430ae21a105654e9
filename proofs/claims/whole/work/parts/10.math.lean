/-! Math.max and Math.abs, by the library's rows -/
def zmx (k : zT) : zT := fun u v lv st M => match st with
  | .int y :: .int x :: r => zrm r ∧ k u v lv (.int (if x < y then y else x) :: r) M
  | _ => False
def zab (k : zT) : zT := fun u v lv st M => match st with
  | .int x :: r => zrm r ∧ k u v lv (.int (if 0 ≤ x then x else 0 - x) :: r) M
  | _ => False
section ZMA
variable {p : Program} {l : Launch} {e : Env} {R : Room} {s : State} {m : MethodId} {args : Array Value} {below : List Frame} {meth : Method} {c : Code} {Qs : State → Prop} {G : zG} {cc : ByteArray} {nL : Nat} {own : String} {mc ms : Nat} {pc : Nat} {k t : zT}
theorem S_max (hC : zCx p R s m args meth c G cc nL own mc ms) {ix : Nat} (hl : Cond.methodLink own ix Lib.Math.max.name ∈ zgw) (hst : Cond.static Lib.Math.max.name ∈ zgw) (hi : Cond.initialized "java/lang/Math" ∈ zgw) (hcd : Cond.code Lib.Math.max.name Lib.Math.max.code 2 (some .int) ∈ zgw) (hfr : 1 ≤ R.frames) (hlo : 21 ≤ R.locals) (hdg : decode cc pc = .ok (.invokestatic ix, 3)) (hk : zOk p l e R s m args below meth c Qs G nL (pc + 3) k) : zOk p l e R s m args below meth c Qs G nL pc (zmx k) := by
  intro u v lv st M h H locs ls hP hS hL hu hv
  unfold zmx at h
  split at h
  case h_1 y x r =>
    have h1 := h.1
    unfold zrm at h1
    rw [← zup_cats G] at h1
    exact va_mmax hC.1 hC.2.1 (hC.2.2.1.trans hL.1.symm) hC.2.2.2.1 (hC.2.2.2.2.1 _ hl) (hC.2.2.2.2.1 _ hst) (hC.2.2.2.2.1 _ hi) (hC.2.2.2.2.1 _ hcd) hfr (by omega) hu hv hdg (hk _ _ _ _ _ h.2 H locs ls hP hS hL hu hv)
  case h_2 => exact h.elim
theorem S_abs (hC : zCx p R s m args meth c G cc nL own mc ms) {ix : Nat} (hl : Cond.methodLink own ix Lib.Math.abs.name ∈ zgw) (hst : Cond.static Lib.Math.abs.name ∈ zgw) (hi : Cond.initialized "java/lang/Math" ∈ zgw) (hcd : Cond.code Lib.Math.abs.name Lib.Math.abs.code 1 (some .int) ∈ zgw) (hfr : 1 ≤ R.frames) (hlo : 21 ≤ R.locals) (hdg : decode cc pc = .ok (.invokestatic ix, 3)) (hk : zOk p l e R s m args below meth c Qs G nL (pc + 3) k) : zOk p l e R s m args below meth c Qs G nL pc (zab k) := by
  intro u v lv st M h H locs ls hP hS hL hu hv
  unfold zab at h
  split at h
  case h_1 x r =>
    have h1 := h.1
    unfold zrm at h1
    rw [← zup_cats G] at h1
    exact va_mabs hC.1 hC.2.1 (hC.2.2.1.trans hL.1.symm) hC.2.2.2.1 (hC.2.2.2.2.1 _ hl) (hC.2.2.2.2.1 _ hst) (hC.2.2.2.2.1 _ hi) (hC.2.2.2.2.1 _ hcd) hfr (by omega) hu hv hdg (hk _ _ _ _ _ h.2 H locs ls hP hS hL hu hv)
  case h_2 => exact h.elim
end ZMA
/-! stores that give the value a name -/
def zsiN (i : Nat) (k : zT) : zT := fun u v lv st M => match st with
  | .int x :: r => ∀ y : Int32, y = x → k u v (zset1 lv i (.int y)) r M
  | _ => False
def zslN (i : Nat) (k : zT) : zT := fun u v lv st M => match st with
  | .long x :: r => ∀ y : Int64, y = x → k u v (zset2 lv i (.long y)) r M
  | _ => False
theorem zsiN_of {i : Nat} {k : zT} {u v : Nat} {lv : List (Option Value)} {st : List Value} {M : zM} (h : zsiN i k u v lv st M) : zsi i k u v lv st M := by
  unfold zsiN at h
  unfold zsi
  split at h
  case h_1 x r => exact h x rfl
  case h_2 => exact h.elim
theorem zslN_of {i : Nat} {k : zT} {u v : Nat} {lv : List (Option Value)} {st : List Value} {M : zM} (h : zslN i k u v lv st M) : zsl i k u v lv st M := by
  unfold zslN at h
  unfold zsl
  split at h
  case h_1 x r => exact h x rfl
  case h_2 => exact h.elim
section ZMN
variable {p : Program} {l : Launch} {e : Env} {R : Room} {s : State} {m : MethodId} {args : Array Value} {below : List Frame} {meth : Method} {c : Code} {Qs : State → Prop} {G : zG} {cc : ByteArray} {nL : Nat} {own : String} {mc ms : Nat} {pc : Nat} {k t : zT}
theorem S_istore_n_N (hC : zCx p R s m args meth c G cc nL own mc ms) {n : Fin 4} {i : Nat} (hdg : decode cc pc = .ok (.istore_n n, 1)) (hi : (n : Nat) = i) (hn : i < nL) (hk : zOk p l e R s m args below meth c Qs G nL (pc + 1) k) : zOk p l e R s m args below meth c Qs G nL pc (zsiN i k) := fun u v lv st M h => S_istore_n hC hdg hi hn hk u v lv st M (zsiN_of h)
theorem S_istore_N (hC : zCx p R s m args meth c G cc nL own mc ms) {i : Nat} (hdg : decode cc pc = .ok (.istore i, 2)) (hn : i < nL) (hk : zOk p l e R s m args below meth c Qs G nL (pc + 2) k) : zOk p l e R s m args below meth c Qs G nL pc (zsiN i k) := fun u v lv st M h => S_istore hC hdg hn hk u v lv st M (zsiN_of h)
theorem S_lstore_n_N (hC : zCx p R s m args meth c G cc nL own mc ms) {n : Fin 4} {i : Nat} (hdg : decode cc pc = .ok (.lstore_n n, 1)) (hi : (n : Nat) = i) (hn : i + 1 < nL) (hk : zOk p l e R s m args below meth c Qs G nL (pc + 1) k) : zOk p l e R s m args below meth c Qs G nL pc (zslN i k) := fun u v lv st M h => S_lstore_n hC hdg hi hn hk u v lv st M (zslN_of h)
theorem S_lstore_N (hC : zCx p R s m args meth c G cc nL own mc ms) {i : Nat} (hdg : decode cc pc = .ok (.lstore i, 2)) (hn : i + 1 < nL) (hk : zOk p l e R s m args below meth c Qs G nL (pc + 2) k) : zOk p l e R s m args below meth c Qs G nL pc (zslN i k) := fun u v lv st M h => S_lstore hC hdg hn hk u v lv st M (zslN_of h)
end ZMN
/-! lookupswitch -/
def zlks (u v : Nat) (lv : List (Option Value)) (r : List Value) (M : zM) (z : Int) (d : zT) : List (Int × zT) → Prop
  | [] => d u v lv r M
  | q :: qs => (z = q.1 → q.2 u v lv r M) ∧ (¬ z = q.1 → zlks u v lv r M z d qs)
def zlk (qs : List (Int × zT)) (d : zT) : zT := fun u v lv st M => match st with
  | .int x :: r => zlks u v lv r M x.toInt d qs
  | _ => False
def zlkOk (P : Nat → zT → Prop) (pc : Nat) : List (Int × Int) → List (Int × zT) → Prop
  | [], [] => True
  | a :: as, q :: qs => a.1 = q.1 ∧ ∃ tgt : Nat, (pc : Int) + a.2 = (tgt : Int) ∧ P tgt q.2 ∧ zlkOk P pc as qs
  | _, _ => False
theorem zlks_at {P : Nat → zT → Prop} {pc tgd : Nat} {dflt : Int} {d : zT} (htd : (pc : Int) + dflt = (tgd : Int)) (hd : P tgd d) {u v : Nat} {lv : List (Option Value)} {r : List Value} {M : zM} {z : Int} : ∀ (as : List (Int × Int)) (qs : List (Int × zT)), zlkOk P pc as qs → zlks u v lv r M z d qs → ∃ (tgt : Nat) (t : zT), (pc : Int) + Op.lookupswitch.offset as dflt z = (tgt : Int) ∧ P tgt t ∧ t u v lv r M
  | [], [], _, h => ⟨tgd, d, htd, hd, h⟩
  | [], _ :: _, h, _ => h.elim
  | _ :: _, [], h, _ => h.elim
  | a :: as, q :: qs, hk, h => by
    obtain ⟨h1, tgt, h2, h3, h4⟩ := hk
    by_cases e : z = q.1
    · refine ⟨tgt, q.2, ?_, h3, h.1 e⟩
      rw [show a = (a.1, a.2) from rfl, Op.lookupswitch.offset_cons, if_pos (by rw [h1, e])]
      exact h2
    · obtain ⟨tg, t, g1, g2, g3⟩ := zlks_at htd hd as qs h4 (h.2 e)
      refine ⟨tg, t, ?_, g2, g3⟩
      rw [show a = (a.1, a.2) from rfl, Op.lookupswitch.offset_cons, if_neg (by rw [h1]; exact fun q => e q.symm)]
      exact g1
section ZLK
variable {p : Program} {l : Launch} {e : Env} {R : Room} {s : State} {m : MethodId} {args : Array Value} {below : List Frame} {meth : Method} {c : Code} {Qs : State → Prop} {G : zG} {cc : ByteArray} {nL : Nat} {own : String} {mc ms : Nat} {pc : Nat}
theorem S_lookup (hC : zCx p R s m args meth c G cc nL own mc ms) {dflt : Int} {ps : Array (Int × Int)} {len tgd : Nat} {qs : List (Int × zT)} {d : zT} (hdg : decode cc pc = .ok (.lookupswitch dflt ps, len)) (hps : (ps.toList.zip (ps.toList.drop 1)).all (fun (a, next) => a.1 < next.1) = true) (htd : (pc : Int) + dflt = (tgd : Int)) (hd : zOk p l e R s m args below meth c Qs G nL tgd d) (hk : zlkOk (fun tgt t => zOk p l e R s m args below meth c Qs G nL tgt t) pc ps.toList qs) : zOk p l e R s m args below meth c Qs G nL pc (zlk qs d) := by
  intro u v lv st M h H locs ls hP hS hL hu hv
  unfold zlk at h
  split at h
  case h_1 x r =>
    obtain ⟨tgt, t, g1, g2, g3⟩ := zlks_at (P := fun tgt t => zOk p l e R s m args below meth c Qs G nL tgt t) htd hd ps.toList qs hk h
    exact lv_lookup hC.1 hC.2.1 hdg hps rfl g1 (g2 _ _ _ _ _ g3 H locs ls hP hS hL hu hv)
  case h_2 => exact h.elim
end ZLK
