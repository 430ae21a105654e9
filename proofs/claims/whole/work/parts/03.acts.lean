/-! THE ACTS: an instruction is what it asks of the state before it, given what is asked behind it. -/
abbrev zT : Type := Nat → Nat → List (Option Value) → List Value → zM → Prop
abbrev zV : Type := Nat → Nat → List Value → List Value → zM → Prop
abbrev zQt : Type := Option Value → zM → Prop
abbrev zSp : Type := Nat → Nat → List Value → zM → zQt → Prop
def zgw : List Cond := lw_tbl.filter goodWord
theorem zgw_good {w : Cond} (h : w ∈ zgw) : (w.onTables && w.keeps) = true ∨ ∃ ty, w = .arrayClass ty := good_of_word (List.mem_filter.mp h).2
def zrf (o : Option Nat) : Value := match o with
  | none => .null
  | some a => .ref a
def zc (x : Value) (k : zT) : zT := fun u v lv st M => k u v lv (x :: st) M
def zli (i : Nat) (k : zT) : zT := fun u v lv st M => match lv[i]? with
  | some (some (.int x)) => k u v lv (.int x :: st) M
  | _ => False
def zll (i : Nat) (k : zT) : zT := fun u v lv st M => match lv[i]? with
  | some (some (.long x)) => k u v lv (.long x :: st) M
  | _ => False
def zla (i : Nat) (k : zT) : zT := fun u v lv st M => match lv[i]? with
  | some (some (.ref x)) => k u v lv (.ref x :: st) M
  | some (some .null) => k u v lv (.null :: st) M
  | _ => False
def zsi (i : Nat) (k : zT) : zT := fun u v lv st M => match st with
  | .int x :: r => k u v (zset1 lv i (.int x)) r M
  | _ => False
def zsl (i : Nat) (k : zT) : zT := fun u v lv st M => match st with
  | .long x :: r => k u v (zset2 lv i (.long x)) r M
  | _ => False
def zsa (i : Nat) (k : zT) : zT := fun u v lv st M => match st with
  | .ref x :: r => k u v (zset1 lv i (.ref x)) r M
  | .null :: r => k u v (zset1 lv i .null) r M
  | _ => False
def zinc (i : Nat) (n : Int32) (k : zT) : zT := fun u v lv st M => match lv[i]? with
  | some (some (.int x)) => k u v (zset1 lv i (.int (x + n))) st M
  | _ => False
def zii (f : Int32 → Int32 → Int32) (k : zT) : zT := fun u v lv st M => match st with
  | .int y :: .int x :: r => k u v lv (.int (f x y) :: r) M
  | _ => False
def zid (f : Int32 → Int32 → Int32) (k : zT) : zT := fun u v lv st M => match st with
  | .int y :: .int x :: r => ¬ y = 0 ∧ k u v lv (.int (f x y) :: r) M
  | _ => False
def zi1 (f : Int32 → Int32) (k : zT) : zT := fun u v lv st M => match st with
  | .int x :: r => k u v lv (.int (f x) :: r) M
  | _ => False
def zjj (f : Int64 → Int64 → Int64) (k : zT) : zT := fun u v lv st M => match st with
  | .long y :: .long x :: r => k u v lv (.long (f x y) :: r) M
  | _ => False
def zj1 (f : Int64 → Int64) (k : zT) : zT := fun u v lv st M => match st with
  | .long x :: r => k u v lv (.long (f x) :: r) M
  | _ => False
def zji (f : Int64 → Int32 → Int64) (k : zT) : zT := fun u v lv st M => match st with
  | .int y :: .long x :: r => k u v lv (.long (f x y) :: r) M
  | _ => False
def zi2l (k : zT) : zT := fun u v lv st M => match st with
  | .int x :: r => k u v lv (.long x.toInt64 :: r) M
  | _ => False
def zl2i (k : zT) : zT := fun u v lv st M => match st with
  | .long x :: r => k u v lv (.int x.toInt32 :: r) M
  | _ => False
def zlc (k : zT) : zT := fun u v lv st M => match st with
  | .long y :: .long x :: r => k u v lv (.int (lg_cmp x y) :: r) M
  | _ => False
def zdup (k : zT) : zT := fun u v lv st M => match st with
  | .int x :: r => k u v lv (.int x :: .int x :: r) M
  | .ref x :: r => k u v lv (.ref x :: .ref x :: r) M
  | _ => False
def zdp2 (k : zT) : zT := fun u v lv st M => match st with
  | .int x :: .ref a :: r => k u v lv (.int x :: .ref a :: .int x :: .ref a :: r) M
  | .int x :: .int y :: r => k u v lv (.int x :: .int y :: .int x :: .int y :: r) M
  | .long x :: r => k u v lv (.long x :: .long x :: r) M
  | _ => False
def zpop (k : zT) : zT := fun u v lv st M => match st with
  | .int _ :: r => k u v lv r M
  | .ref _ :: r => k u v lv r M
  | _ => False
def zif (f : Int32 → Prop) (t k : zT) : zT := fun u v lv st M => match st with
  | .int x :: r => (f x → t u v lv r M) ∧ (¬ f x → k u v lv r M)
  | _ => False
def zic (f : Int32 → Int32 → Prop) (t k : zT) : zT := fun u v lv st M => match st with
  | .int y :: .int x :: r => (f x y → t u v lv r M) ∧ (¬ f x y → k u v lv r M)
  | _ => False
/-- null goes to t, a reference to k -/
def znl (t k : zT) : zT := fun u v lv st M => match st with
  | .null :: r => t u v lv r M
  | .ref _ :: r => k u v lv r M
  | _ => False
def zsws (u v : Nat) (lv : List (Option Value)) (r : List Value) (M : zM) (z : Int) : Int → List zT → Prop
  | _, [] => True
  | lo, t :: ts => (z = lo → t u v lv r M) ∧ zsws u v lv r M z (lo + 1) ts
def zsw (lo hi : Int) (ts : List zT) (d : zT) : zT := fun u v lv st M => match st with
  | .int x :: r => (x.toInt < lo ∨ hi < x.toInt → d u v lv r M) ∧ zsws u v lv r M x.toInt lo ts
  | _ => False
def zpick (lv : List (Option Value)) : List Nat → Option (List Value)
  | [] => some []
  | i :: is => match lv[i]? with
    | some (some x) => (match zpick lv is with
      | some vs => some (x :: vs)
      | none => none)
    | _ => none
def zj (X : Nat → zV) (L : Nat) (live : List Nat) : zT := fun u v lv st M => match zpick lv live with
  | some vs => X L u v vs st M
  | none => False
def zspr (i : Nat) : Nat → List Nat → List Value → List (Option Value)
  | 0, _, _ => []
  | c + 1, j :: js, x :: xs => if i = j then some x :: zspr (i + 1) c js xs else none :: zspr (i + 1) c (j :: js) (x :: xs)
  | c + 1, _, _ => none :: zspr (i + 1) c [] []
/-- a block at a label: its live locals are given -/
def zb (n : Nat) (live : List Nat) (k : zT) : zV := fun u v vs st M => vs.length = live.length ∧ k u v (zspr 0 n live vs) st M
def zri (Q : zQt) : zT := fun _ _ _ st M => match st with
  | [.int x] => Q (some (.int x)) M
  | _ => False
def zrz (ty : FieldType) (Q : zQt) : zT := fun _ _ _ st M => match st with
  | [.int x] => narrow ty (.int x) = .int x ∧ Q (some (.int x)) M
  | _ => False
def zrl (Q : zQt) : zT := fun _ _ _ st M => match st with
  | [.long x] => Q (some (.long x)) M
  | _ => False
def zra (Q : zQt) : zT := fun _ _ _ st M => match st with
  | [.ref x] => Q (some (.ref x)) M
  | [.null] => Q (some .null) M
  | _ => False
def zrv (Q : zQt) : zT := fun _ _ _ st M => match st with
  | [] => Q none M
  | _ => False
/-! the heap -/
def zgi (ci j : Nat) (k : zT) : zT := fun u v lv st M => match st with
  | .ref a :: r => zsh M a = some (0, ci) ∧ k u v lv (.int (M.1 a j) :: r) M
  | _ => False
def zgl (ci j : Nat) (k : zT) : zT := fun u v lv st M => match st with
  | .ref a :: r => zsh M a = some (0, ci) ∧ k u v lv (.long (M.2.1 a j) :: r) M
  | _ => False
def zgr (ci j : Nat) (k : zT) : zT := fun u v lv st M => match st with
  | .ref a :: r => zsh M a = some (0, ci) ∧ k u v lv (zrf (M.2.2.1 a j) :: r) M
  | _ => False
def zpi (ci j : Nat) (k : zT) : zT := fun u v lv st M => match st with
  | .int x :: .ref a :: r => zsh M a = some (0, ci) ∧ k u v lv r (zsI M a j x)
  | _ => False
def zpz (ci j : Nat) (k : zT) : zT := fun u v lv st M => match st with
  | .int x :: .ref a :: r => zsh M a = some (0, ci) ∧ narrow .boolean (.int x) = .int x ∧ k u v lv r (zsI M a j x)
  | _ => False
def zpl (ci j : Nat) (k : zT) : zT := fun u v lv st M => match st with
  | .long x :: .ref a :: r => zsh M a = some (0, ci) ∧ k u v lv r (zsJ M a j x)
  | _ => False
def zpr (ci j : Nat) (k : zT) : zT := fun u v lv st M => match st with
  | .ref b :: .ref a :: r => zsh M a = some (0, ci) ∧ k u v lv r (zsR M a j (some b))
  | .null :: .ref a :: r => zsh M a = some (0, ci) ∧ k u v lv r (zsR M a j none)
  | _ => False
/-- an int is read of an array of kind c (int 1, byte 3, char 4, boolean 5) -/
def zal (c : Nat) (k : zT) : zT := fun u v lv st M => match st with
  | .int i :: .ref a :: r => ∃ n, zsh M a = some (c, n) ∧ vp_in i n ∧ k u v lv (.int (M.1 a i.toNatClampNeg) :: r) M
  | _ => False
def zall (k : zT) : zT := fun u v lv st M => match st with
  | .int i :: .ref a :: r => ∃ n, zsh M a = some (2, n) ∧ vp_in i n ∧ k u v lv (.long (M.2.1 a i.toNatClampNeg) :: r) M
  | _ => False
def zalr (k : zT) : zT := fun u v lv st M => match st with
  | .int i :: .ref a :: r => ∃ n, zsh M a = some (6, n) ∧ vp_in i n ∧ k u v lv (zrf (M.2.2.1 a i.toNatClampNeg) :: r) M
  | _ => False
def zas (c : Nat) (f : Int32 → Int32) (k : zT) : zT := fun u v lv st M => match st with
  | .int x :: .int i :: .ref a :: r => ∃ n, zsh M a = some (c, n) ∧ vp_in i n ∧ k u v lv r (zsI M a i.toNatClampNeg (f x))
  | _ => False
def zasl (k : zT) : zT := fun u v lv st M => match st with
  | .long x :: .int i :: .ref a :: r => ∃ n, zsh M a = some (2, n) ∧ vp_in i n ∧ k u v lv r (zsJ M a i.toNatClampNeg x)
  | _ => False
def zasr (k : zT) : zT := fun u v lv st M => match st with
  | .ref b :: .int i :: .ref a :: r => ∃ n, zsh M a = some (6, n) ∧ zsh M b = some (0, 2) ∧ vp_in i n ∧ k u v lv r (zsR M a i.toNatClampNeg (some b))
  | _ => False
def zlen (k : zT) : zT := fun u v lv st M => match st with
  | .ref a :: r => ∃ c n, zsh M a = some (c, n) ∧ 1 ≤ c ∧ c < 7 ∧ k u v lv (.int (Int32.ofNat n) :: r) M
  | _ => False
def znew (mc ms ci : Nat) (k : zT) : zT := fun u v lv st M => u + 1 ≤ mc ∧ v + zN ci ≤ ms ∧ k (u + 1) (v + zN ci) lv (.ref M.2.2.2.length :: st) (zNew M (0, ci))
def zna (mc ms c : Nat) (k : zT) : zT := fun u v lv st M => match st with
  | .int n :: r => ¬ n < 0 ∧ n.toNatClampNeg ≤ 1000000 ∧ u + 1 ≤ mc ∧ v + n.toNatClampNeg ≤ ms ∧ k (u + 1) (v + n.toNatClampNeg) lv (.ref M.2.2.2.length :: r) (zNew M (c, n.toNatClampNeg))
  | _ => False
/-! calls: n arguments beside the receiver -/
def zrm (st : List Value) : Prop := (st.map fun v => v.category).sum ≤ 8
def zcv (mc ms ci n : Nat) (Sp : zSp) (k : zT) : zT := fun u v lv st M => zrm (st.drop (n + 1)) ∧ match (st.take (n + 1)).reverse with
  | .ref a :: As => As.length = n ∧ zsh M a = some (0, ci) ∧ ∃ kc ks, u + kc ≤ mc ∧ v + ks ≤ ms ∧ Sp kc ks (.ref a :: As) M (fun r M' => k (u + kc) (v + ks) lv (r.toList ++ st.drop (n + 1)) M')
  | _ => False
def zci (mc ms n : Nat) (Sp : zSp) (k : zT) : zT := fun u v lv st M => zrm (st.drop (n + 1)) ∧ match (st.take (n + 1)).reverse with
  | .ref a :: As => As.length = n ∧ ∃ kc ks, u + kc ≤ mc ∧ v + ks ≤ ms ∧ Sp kc ks (.ref a :: As) M (fun r M' => k (u + kc) (v + ks) lv (r.toList ++ st.drop (n + 1)) M')
  | _ => False
def zcs (mc ms n : Nat) (Sp : zSp) (k : zT) : zT := fun u v lv st M => zrm (st.drop n) ∧ (st.take n).length = n ∧ ∃ kc ks, u + kc ≤ mc ∧ v + ks ≤ ms ∧ Sp kc ks (st.take n).reverse M (fun r M' => k (u + kc) (v + ks) lv (r.toList ++ st.drop n) M')
def zoi (k : zT) : zT := fun u v lv st M => match st with
  | .ref _ :: r => zrm r ∧ k u v lv r M
  | _ => False

/-! WHAT THE ACTS MEAN -/
/-- from here the machine comes to its end -/
def zAt (p : Program) (l : Launch) (e : Env) (R : Room) (s : State) (m : MethodId) (args : Array Value) (below : List Frame) (meth : Method) (c : Code) (Qs : State → Prop) (G : zG) (nL pc u v : Nat) (lv : List (Option Value)) (st : List Value) (M : zM) : Prop :=
  ∀ (H : Heap) (locs : List Loc) (ls : Array Slot), zP G M H → va_S (zA G) s.heap H locs → zL G ls nL lv → u ≤ R.cells → v ≤ R.slots → W p l e R s m args below meth c H locs u v Qs (F0 m pc ls (st.map (zup G)))
def zOk (p : Program) (l : Launch) (e : Env) (R : Room) (s : State) (m : MethodId) (args : Array Value) (below : List Frame) (meth : Method) (c : Code) (Qs : State → Prop) (G : zG) (nL pc : Nat) (k : zT) : Prop :=
  ∀ (u v : Nat) (lv : List (Option Value)) (st : List Value) (M : zM), k u v lv st M → zAt p l e R s m args below meth c Qs G nL pc u v lv st M
def zOkL (p : Program) (l : Launch) (e : Env) (R : Room) (s : State) (m : MethodId) (args : Array Value) (below : List Frame) (meth : Method) (c : Code) (Qs : State → Prop) (G : zG) (nL pc : Nat) (live : List Nat) (k : zV) : Prop :=
  ∀ (u v : Nat) (lv : List (Option Value)) (vs st : List Value) (M : zM), zpick lv live = some vs → k u v vs st M → zAt p l e R s m args below meth c Qs G nL pc u v lv st M
def zCx (p : Program) (R : Room) (s : State) (m : MethodId) (args : Array Value) (meth : Method) (c : Code) (G : zG) (cc : ByteArray) (nL : Nat) (own : String) (mc ms : Nat) : Prop :=
  p.tables.exec = Jvm.exec ∧ c.code = cc ∧ c.maxLocals = nL ∧ s.vm.findClass own = some m.cls ∧ (∀ w ∈ zgw, w.before args s = true) ∧ meth.locks = false ∧ zEnv G s ∧ R.cells = mc ∧ R.slots = ms
def zQ (G : zG) (Q : zQt) : Array Value → State → Outcome → State → Prop := fun _ st o t => (∃ (r : Option Value) (M' : zM), o = .returned (r.map (zup G)) ∧ Q r M' ∧ zP G M' t.heap) ∧ va_F (zA G) st t
section ZS
variable {p : Program} {l : Launch} {e : Env} {R : Room} {s : State} {m : MethodId} {args : Array Value} {below : List Frame} {meth : Method} {c : Code} {Qs : State → Prop} {G : zG} {cc : ByteArray} {nL : Nat} {own : String} {mc ms : Nat} {pc : Nat} {k t : zT}

theorem S_iconst (hC : zCx p R s m args meth c G cc nL own mc ms) {n : Int} {x : Int32} (hdg : decode cc pc = .ok (.iconst n, 1)) (hx : Int32.ofInt n = x) (hk : zOk p l e R s m args below meth c Qs G nL (pc + 1) k) : zOk p l e R s m args below meth c Qs G nL pc (zc (.int x) k) := by
  intro u v lv st M h H locs ls hP hS hL hu hv
  exact lv_iconst hC.1 hC.2.1 hdg hx (hk _ _ _ _ _ h H locs ls hP hS hL hu hv)
theorem S_bipush (hC : zCx p R s m args meth c G cc nL own mc ms) {n : Int} {x : Int32} (hdg : decode cc pc = .ok (.bipush n, 2)) (hx : (Int8.ofInt n).toInt32 = x) (hk : zOk p l e R s m args below meth c Qs G nL (pc + 2) k) : zOk p l e R s m args below meth c Qs G nL pc (zc (.int x) k) := by
  intro u v lv st M h H locs ls hP hS hL hu hv
  exact lv_bipush hC.1 hC.2.1 hdg hx (hk _ _ _ _ _ h H locs ls hP hS hL hu hv)
theorem S_sipush (hC : zCx p R s m args meth c G cc nL own mc ms) {n : Int} {x : Int32} (hdg : decode cc pc = .ok (.sipush n, 3)) (hx : (Int16.ofInt n).toInt32 = x) (hk : zOk p l e R s m args below meth c Qs G nL (pc + 3) k) : zOk p l e R s m args below meth c Qs G nL pc (zc (.int x) k) := by
  intro u v lv st M h H locs ls hP hS hL hu hv
  exact lv_sipush hC.1 hC.2.1 hdg hx (hk _ _ _ _ _ h H locs ls hP hS hL hu hv)
theorem S_lconst (hC : zCx p R s m args meth c G cc nL own mc ms) {n : Fin 2} {x : Int64} (hdg : decode cc pc = .ok (.lconst n, 1)) (hx : Int64.ofNat (n : Nat) = x) (hk : zOk p l e R s m args below meth c Qs G nL (pc + 1) k) : zOk p l e R s m args below meth c Qs G nL pc (zc (.long x) k) := by
  intro u v lv st M h H locs ls hP hS hL hu hv
  exact lv_lconst hC.1 hC.2.1 hdg hx (hk _ _ _ _ _ h H locs ls hP hS hL hu hv)
theorem S_null (hC : zCx p R s m args meth c G cc nL own mc ms) (hdg : decode cc pc = .ok (.aconst_null, 1)) (hk : zOk p l e R s m args below meth c Qs G nL (pc + 1) k) : zOk p l e R s m args below meth c Qs G nL pc (zc .null k) := by
  intro u v lv st M h H locs ls hP hS hL hu hv
  exact lv_null hC.1 hC.2.1 hdg (hk _ _ _ _ _ h H locs ls hP hS hL hu hv)
theorem S_ldc (hC : zCx p R s m args meth c G cc nL own mc ms) {ix : Nat} {x : Int32} (hw : Cond.constant own ix x ∈ zgw) (hdg : decode cc pc = .ok (.ldc ix, 2)) (hk : zOk p l e R s m args below meth c Qs G nL (pc + 2) k) : zOk p l e R s m args below meth c Qs G nL pc (zc (.int x) k) := by
  intro u v lv st M h H locs ls hP hS hL hu hv
  exact lv_ldc hC.1 hC.2.1 hC.2.2.2.1 (hC.2.2.2.2.1 _ hw) hdg (hk _ _ _ _ _ h H locs ls hP hS hL hu hv)
theorem S_ldc2 (hC : zCx p R s m args meth c G cc nL own mc ms) {ix : Nat} {x : Int64} (hw : Cond.constantLong own ix x ∈ zgw) (hdg : decode cc pc = .ok (.ldc2_w ix, 3)) (hk : zOk p l e R s m args below meth c Qs G nL (pc + 3) k) : zOk p l e R s m args below meth c Qs G nL pc (zc (.long x) k) := by
  intro u v lv st M h H locs ls hP hS hL hu hv
  exact lv_ldc2 hC.1 hC.2.1 hC.2.2.2.1 (hC.2.2.2.2.1 _ hw) hdg (hk _ _ _ _ _ h H locs ls hP hS hL hu hv)
theorem S_iload_n (hC : zCx p R s m args meth c G cc nL own mc ms) {n : Fin 4} {i : Nat} (hdg : decode cc pc = .ok (.iload_n n, 1)) (hi : (n : Nat) = i) (hk : zOk p l e R s m args below meth c Qs G nL (pc + 1) k) : zOk p l e R s m args below meth c Qs G nL pc (zli i k) := by
  intro u v lv st M h H locs ls hP hS hL hu hv
  unfold zli at h
  split at h
  case h_1 x hx => exact lv_iload_n hC.1 hC.2.1 hdg hi (hL.2.2.2 _ _ hx) (hk _ _ _ _ _ h H locs ls hP hS hL hu hv)
  case h_2 => exact h.elim
theorem S_iload (hC : zCx p R s m args meth c G cc nL own mc ms) {i : Nat} (hdg : decode cc pc = .ok (.iload i, 2)) (hk : zOk p l e R s m args below meth c Qs G nL (pc + 2) k) : zOk p l e R s m args below meth c Qs G nL pc (zli i k) := by
  intro u v lv st M h H locs ls hP hS hL hu hv
  unfold zli at h
  split at h
  case h_1 x hx => exact lv_iload hC.1 hC.2.1 hdg (hL.2.2.2 _ _ hx) (hk _ _ _ _ _ h H locs ls hP hS hL hu hv)
  case h_2 => exact h.elim
theorem S_lload_n (hC : zCx p R s m args meth c G cc nL own mc ms) {n : Fin 4} {i : Nat} (hdg : decode cc pc = .ok (.lload_n n, 1)) (hi : (n : Nat) = i) (hk : zOk p l e R s m args below meth c Qs G nL (pc + 1) k) : zOk p l e R s m args below meth c Qs G nL pc (zll i k) := by
  intro u v lv st M h H locs ls hP hS hL hu hv
  unfold zll at h
  split at h
  case h_1 x hx => exact lv_lload_n hC.1 hC.2.1 hdg hi (hL.2.2.2 _ _ hx) (hk _ _ _ _ _ h H locs ls hP hS hL hu hv)
  case h_2 => exact h.elim
theorem S_lload (hC : zCx p R s m args meth c G cc nL own mc ms) {i : Nat} (hdg : decode cc pc = .ok (.lload i, 2)) (hk : zOk p l e R s m args below meth c Qs G nL (pc + 2) k) : zOk p l e R s m args below meth c Qs G nL pc (zll i k) := by
  intro u v lv st M h H locs ls hP hS hL hu hv
  unfold zll at h
  split at h
  case h_1 x hx => exact lv_lload hC.1 hC.2.1 hdg (hL.2.2.2 _ _ hx) (hk _ _ _ _ _ h H locs ls hP hS hL hu hv)
  case h_2 => exact h.elim
theorem S_aload_n (hC : zCx p R s m args meth c G cc nL own mc ms) {n : Fin 4} {i : Nat} (hdg : decode cc pc = .ok (.aload_n n, 1)) (hi : (n : Nat) = i) (hk : zOk p l e R s m args below meth c Qs G nL (pc + 1) k) : zOk p l e R s m args below meth c Qs G nL pc (zla i k) := by
  intro u v lv st M h H locs ls hP hS hL hu hv
  unfold zla at h
  split at h
  case h_1 x hx => exact lv_aload_n hC.1 hC.2.1 hdg hi (hL.2.2.2 _ _ hx) (hk _ _ _ _ _ h H locs ls hP hS hL hu hv)
  case h_2 hx => exact lv_aload_nN hC.1 hC.2.1 hdg hi (hL.2.2.2 _ _ hx) (hk _ _ _ _ _ h H locs ls hP hS hL hu hv)
  case h_3 => exact h.elim
theorem S_aload (hC : zCx p R s m args meth c G cc nL own mc ms) {i : Nat} (hdg : decode cc pc = .ok (.aload i, 2)) (hk : zOk p l e R s m args below meth c Qs G nL (pc + 2) k) : zOk p l e R s m args below meth c Qs G nL pc (zla i k) := by
  intro u v lv st M h H locs ls hP hS hL hu hv
  unfold zla at h
  split at h
  case h_1 x hx => exact lv_aload hC.1 hC.2.1 hdg (hL.2.2.2 _ _ hx) (hk _ _ _ _ _ h H locs ls hP hS hL hu hv)
  case h_2 hx => exact lv_aloadN hC.1 hC.2.1 hdg (hL.2.2.2 _ _ hx) (hk _ _ _ _ _ h H locs ls hP hS hL hu hv)
  case h_3 => exact h.elim
theorem S_istore_n (hC : zCx p R s m args meth c G cc nL own mc ms) {n : Fin 4} {i : Nat} (hdg : decode cc pc = .ok (.istore_n n, 1)) (hi : (n : Nat) = i) (hn : i < nL) (hk : zOk p l e R s m args below meth c Qs G nL (pc + 1) k) : zOk p l e R s m args below meth c Qs G nL pc (zsi i k) := by
  intro u v lv st M h H locs ls hP hS hL hu hv
  unfold zsi at h
  split at h
  case h_1 x r => exact lv_istore_n hC.1 hC.2.1 hdg hi hL.has hn rfl (fun ls' h' => hk _ _ _ _ _ h H locs ls' hP hS (hL.set1 h') hu hv)
  case h_2 => exact h.elim
theorem S_istore (hC : zCx p R s m args meth c G cc nL own mc ms) {i : Nat} (hdg : decode cc pc = .ok (.istore i, 2)) (hn : i < nL) (hk : zOk p l e R s m args below meth c Qs G nL (pc + 2) k) : zOk p l e R s m args below meth c Qs G nL pc (zsi i k) := by
  intro u v lv st M h H locs ls hP hS hL hu hv
  unfold zsi at h
  split at h
  case h_1 x r => exact lv_istore hC.1 hC.2.1 hdg hL.has hn rfl (fun ls' h' => hk _ _ _ _ _ h H locs ls' hP hS (hL.set1 h') hu hv)
  case h_2 => exact h.elim
theorem S_lstore_n (hC : zCx p R s m args meth c G cc nL own mc ms) {n : Fin 4} {i : Nat} (hdg : decode cc pc = .ok (.lstore_n n, 1)) (hi : (n : Nat) = i) (hn : i + 1 < nL) (hk : zOk p l e R s m args below meth c Qs G nL (pc + 1) k) : zOk p l e R s m args below meth c Qs G nL pc (zsl i k) := by
  intro u v lv st M h H locs ls hP hS hL hu hv
  unfold zsl at h
  split at h
  case h_1 x r => exact lv_lstore_n hC.1 hC.2.1 hdg hi hL.has hn rfl (fun ls' h' => hk _ _ _ _ _ h H locs ls' hP hS (hL.set2 h') hu hv)
  case h_2 => exact h.elim
theorem S_lstore (hC : zCx p R s m args meth c G cc nL own mc ms) {i : Nat} (hdg : decode cc pc = .ok (.lstore i, 2)) (hn : i + 1 < nL) (hk : zOk p l e R s m args below meth c Qs G nL (pc + 2) k) : zOk p l e R s m args below meth c Qs G nL pc (zsl i k) := by
  intro u v lv st M h H locs ls hP hS hL hu hv
  unfold zsl at h
  split at h
  case h_1 x r => exact lv_lstore hC.1 hC.2.1 hdg hL.has hn rfl (fun ls' h' => hk _ _ _ _ _ h H locs ls' hP hS (hL.set2 h') hu hv)
  case h_2 => exact h.elim
theorem S_astore_n (hC : zCx p R s m args meth c G cc nL own mc ms) {n : Fin 4} {i : Nat} (hdg : decode cc pc = .ok (.astore_n n, 1)) (hi : (n : Nat) = i) (hn : i < nL) (hk : zOk p l e R s m args below meth c Qs G nL (pc + 1) k) : zOk p l e R s m args below meth c Qs G nL pc (zsa i k) := by
  intro u v lv st M h H locs ls hP hS hL hu hv
  unfold zsa at h
  split at h
  case h_1 x r => exact lv_astore_n hC.1 hC.2.1 hdg hi hL.has hn rfl (fun ls' h' => hk _ _ _ _ _ h H locs ls' hP hS (hL.set1 h') hu hv)
  case h_2 r => exact lv_astore_nN hC.1 hC.2.1 hdg hi hL.has hn rfl (fun ls' h' => hk _ _ _ _ _ h H locs ls' hP hS (hL.set1 (v := .null) h') hu hv)
  case h_3 => exact h.elim
theorem S_astore (hC : zCx p R s m args meth c G cc nL own mc ms) {i : Nat} (hdg : decode cc pc = .ok (.astore i, 2)) (hn : i < nL) (hk : zOk p l e R s m args below meth c Qs G nL (pc + 2) k) : zOk p l e R s m args below meth c Qs G nL pc (zsa i k) := by
  intro u v lv st M h H locs ls hP hS hL hu hv
  unfold zsa at h
  split at h
  case h_1 x r => exact lv_astore hC.1 hC.2.1 hdg hL.has hn rfl (fun ls' h' => hk _ _ _ _ _ h H locs ls' hP hS (hL.set1 h') hu hv)
  case h_2 r => exact lv_astoreN hC.1 hC.2.1 hdg hL.has hn rfl (fun ls' h' => hk _ _ _ _ _ h H locs ls' hP hS (hL.set1 (v := .null) h') hu hv)
  case h_3 => exact h.elim
theorem S_iinc (hC : zCx p R s m args meth c G cc nL own mc ms) {i : Nat} {n : Int} {z : Int32} (hdg : decode cc pc = .ok (.iinc i n, 3)) (hn2 : Int32.ofInt n = z) (hn : i < nL) (hk : zOk p l e R s m args below meth c Qs G nL (pc + 3) k) : zOk p l e R s m args below meth c Qs G nL pc (zinc i z k) := by
  intro u v lv st M h H locs ls hP hS hL hu hv
  unfold zinc at h
  split at h
  case h_1 x hx =>
    obtain ⟨q, hq⟩ := List.getElem?_of_mem (zprs_mem (G := G) hx)
    exact lv_iinc hC.1 hC.2.1 hdg hL.has hq (by rw [hn2]) hn rfl (fun ls' h' => hk _ _ _ _ _ h H locs ls' hP hS (hL.set1 (v := .int (x + z)) h') hu hv)
  case h_2 => exact h.elim
theorem S_iadd (hC : zCx p R s m args meth c G cc nL own mc ms) (hdg : decode cc pc = .ok (.iadd, 1)) (hk : zOk p l e R s m args below meth c Qs G nL (pc + 1) k) : zOk p l e R s m args below meth c Qs G nL pc (zii (fun x y => x + y) k) := by
  intro u v lv st M h H locs ls hP hS hL hu hv
  unfold zii at h
  split at h
  case h_1 y x r => exact lv_iadd hC.1 hC.2.1 hdg (hk _ _ _ _ _ h H locs ls hP hS hL hu hv)
  case h_2 => exact h.elim
theorem S_isub (hC : zCx p R s m args meth c G cc nL own mc ms) (hdg : decode cc pc = .ok (.isub, 1)) (hk : zOk p l e R s m args below meth c Qs G nL (pc + 1) k) : zOk p l e R s m args below meth c Qs G nL pc (zii (fun x y => x - y) k) := by
  intro u v lv st M h H locs ls hP hS hL hu hv
  unfold zii at h
  split at h
  case h_1 y x r => exact lv_isub hC.1 hC.2.1 hdg (hk _ _ _ _ _ h H locs ls hP hS hL hu hv)
  case h_2 => exact h.elim
theorem S_imul (hC : zCx p R s m args meth c G cc nL own mc ms) (hdg : decode cc pc = .ok (.imul, 1)) (hk : zOk p l e R s m args below meth c Qs G nL (pc + 1) k) : zOk p l e R s m args below meth c Qs G nL pc (zii (fun x y => x * y) k) := by
  intro u v lv st M h H locs ls hP hS hL hu hv
  unfold zii at h
  split at h
  case h_1 y x r => exact lv_imul hC.1 hC.2.1 hdg (hk _ _ _ _ _ h H locs ls hP hS hL hu hv)
  case h_2 => exact h.elim
theorem S_iand (hC : zCx p R s m args meth c G cc nL own mc ms) (hdg : decode cc pc = .ok (.iand, 1)) (hk : zOk p l e R s m args below meth c Qs G nL (pc + 1) k) : zOk p l e R s m args below meth c Qs G nL pc (zii (fun x y => x &&& y) k) := by
  intro u v lv st M h H locs ls hP hS hL hu hv
  unfold zii at h
  split at h
  case h_1 y x r => exact lv_iand hC.1 hC.2.1 hdg (hk _ _ _ _ _ h H locs ls hP hS hL hu hv)
  case h_2 => exact h.elim
theorem S_ior (hC : zCx p R s m args meth c G cc nL own mc ms) (hdg : decode cc pc = .ok (.ior, 1)) (hk : zOk p l e R s m args below meth c Qs G nL (pc + 1) k) : zOk p l e R s m args below meth c Qs G nL pc (zii (fun x y => x ||| y) k) := by
  intro u v lv st M h H locs ls hP hS hL hu hv
  unfold zii at h
  split at h
  case h_1 y x r => exact lv_ior hC.1 hC.2.1 hdg (hk _ _ _ _ _ h H locs ls hP hS hL hu hv)
  case h_2 => exact h.elim
theorem S_ixor (hC : zCx p R s m args meth c G cc nL own mc ms) (hdg : decode cc pc = .ok (.ixor, 1)) (hk : zOk p l e R s m args below meth c Qs G nL (pc + 1) k) : zOk p l e R s m args below meth c Qs G nL pc (zii (fun x y => x ^^^ y) k) := by
  intro u v lv st M h H locs ls hP hS hL hu hv
  unfold zii at h
  split at h
  case h_1 y x r => exact lv_ixor hC.1 hC.2.1 hdg (hk _ _ _ _ _ h H locs ls hP hS hL hu hv)
  case h_2 => exact h.elim
theorem S_ishl (hC : zCx p R s m args meth c G cc nL own mc ms) (hdg : decode cc pc = .ok (.ishl, 1)) (hk : zOk p l e R s m args below meth c Qs G nL (pc + 1) k) : zOk p l e R s m args below meth c Qs G nL pc (zii (fun x y => x <<< (y &&& 31)) k) := by
  intro u v lv st M h H locs ls hP hS hL hu hv
  unfold zii at h
  split at h
  case h_1 y x r => exact lv_ishl hC.1 hC.2.1 hdg (hk _ _ _ _ _ h H locs ls hP hS hL hu hv)
  case h_2 => exact h.elim
theorem S_ishr (hC : zCx p R s m args meth c G cc nL own mc ms) (hdg : decode cc pc = .ok (.ishr, 1)) (hk : zOk p l e R s m args below meth c Qs G nL (pc + 1) k) : zOk p l e R s m args below meth c Qs G nL pc (zii (fun x y => x >>> (y &&& 31)) k) := by
  intro u v lv st M h H locs ls hP hS hL hu hv
  unfold zii at h
  split at h
  case h_1 y x r => exact lv_ishr hC.1 hC.2.1 hdg (hk _ _ _ _ _ h H locs ls hP hS hL hu hv)
  case h_2 => exact h.elim
theorem S_iushr (hC : zCx p R s m args meth c G cc nL own mc ms) (hdg : decode cc pc = .ok (.iushr, 1)) (hk : zOk p l e R s m args below meth c Qs G nL (pc + 1) k) : zOk p l e R s m args below meth c Qs G nL pc (zii (fun x y => (x.toUInt32 >>> (y.toUInt32 &&& Int32.toUInt32 31)).toInt32) k) := by
  intro u v lv st M h H locs ls hP hS hL hu hv
  unfold zii at h
  split at h
  case h_1 y x r => exact lv_iushr hC.1 hC.2.1 hdg rfl (hk _ _ _ _ _ h H locs ls hP hS hL hu hv)
  case h_2 => exact h.elim
theorem S_idiv (hC : zCx p R s m args meth c G cc nL own mc ms) (hdg : decode cc pc = .ok (.idiv, 1)) (hk : zOk p l e R s m args below meth c Qs G nL (pc + 1) k) : zOk p l e R s m args below meth c Qs G nL pc (zid (fun x y => x / y) k) := by
  intro u v lv st M h H locs ls hP hS hL hu hv
  unfold zid at h
  split at h
  case h_1 y x r => exact lv_idiv hC.1 hC.2.1 hdg h.1 (hk _ _ _ _ _ h.2 H locs ls hP hS hL hu hv)
  case h_2 => exact h.elim
theorem S_irem (hC : zCx p R s m args meth c G cc nL own mc ms) (hdg : decode cc pc = .ok (.irem, 1)) (hk : zOk p l e R s m args below meth c Qs G nL (pc + 1) k) : zOk p l e R s m args below meth c Qs G nL pc (zid (fun x y => x - x / y * y) k) := by
  intro u v lv st M h H locs ls hP hS hL hu hv
  unfold zid at h
  split at h
  case h_1 y x r => exact lv_irem hC.1 hC.2.1 hdg h.1 (hk _ _ _ _ _ h.2 H locs ls hP hS hL hu hv)
  case h_2 => exact h.elim
theorem S_ineg (hC : zCx p R s m args meth c G cc nL own mc ms) (hdg : decode cc pc = .ok (.ineg, 1)) (hk : zOk p l e R s m args below meth c Qs G nL (pc + 1) k) : zOk p l e R s m args below meth c Qs G nL pc (zi1 (fun x => -x) k) := by
  intro u v lv st M h H locs ls hP hS hL hu hv
  unfold zi1 at h
  split at h
  case h_1 x r => exact lv_ineg hC.1 hC.2.1 hdg (hk _ _ _ _ _ h H locs ls hP hS hL hu hv)
  case h_2 => exact h.elim
theorem S_i2b (hC : zCx p R s m args meth c G cc nL own mc ms) (hdg : decode cc pc = .ok (.i2b, 1)) (hk : zOk p l e R s m args below meth c Qs G nL (pc + 1) k) : zOk p l e R s m args below meth c Qs G nL pc (zi1 (fun x => x.toInt8.toInt32) k) := by
  intro u v lv st M h H locs ls hP hS hL hu hv
  unfold zi1 at h
  split at h
  case h_1 x r => exact lv_i2b hC.1 hC.2.1 hdg rfl (hk _ _ _ _ _ h H locs ls hP hS hL hu hv)
  case h_2 => exact h.elim
theorem S_i2c (hC : zCx p R s m args meth c G cc nL own mc ms) (hdg : decode cc pc = .ok (.i2c, 1)) (hk : zOk p l e R s m args below meth c Qs G nL (pc + 1) k) : zOk p l e R s m args below meth c Qs G nL pc (zi1 (fun x => (x.toUInt32 % 65536).toInt32) k) := by
  intro u v lv st M h H locs ls hP hS hL hu hv
  unfold zi1 at h
  split at h
  case h_1 x r => exact lv_i2c hC.1 hC.2.1 hdg rfl (hk _ _ _ _ _ h H locs ls hP hS hL hu hv)
  case h_2 => exact h.elim
theorem S_lneg (hC : zCx p R s m args meth c G cc nL own mc ms) (hdg : decode cc pc = .ok (.lneg, 1)) (hk : zOk p l e R s m args below meth c Qs G nL (pc + 1) k) : zOk p l e R s m args below meth c Qs G nL pc (zj1 (fun x => -x) k) := by
  intro u v lv st M h H locs ls hP hS hL hu hv
  unfold zj1 at h
  split at h
  case h_1 x r => exact lv_lneg hC.1 hC.2.1 hdg (hk _ _ _ _ _ h H locs ls hP hS hL hu hv)
  case h_2 => exact h.elim
theorem S_i2l (hC : zCx p R s m args meth c G cc nL own mc ms) (hdg : decode cc pc = .ok (.i2l, 1)) (hk : zOk p l e R s m args below meth c Qs G nL (pc + 1) k) : zOk p l e R s m args below meth c Qs G nL pc (zi2l k) := by
  intro u v lv st M h H locs ls hP hS hL hu hv
  unfold zi2l at h
  split at h
  case h_1 x r => exact lv_i2l hC.1 hC.2.1 hdg rfl (hk _ _ _ _ _ h H locs ls hP hS hL hu hv)
  case h_2 => exact h.elim
theorem S_l2i (hC : zCx p R s m args meth c G cc nL own mc ms) (hdg : decode cc pc = .ok (.l2i, 1)) (hk : zOk p l e R s m args below meth c Qs G nL (pc + 1) k) : zOk p l e R s m args below meth c Qs G nL pc (zl2i k) := by
  intro u v lv st M h H locs ls hP hS hL hu hv
  unfold zl2i at h
  split at h
  case h_1 x r => exact lv_l2i hC.1 hC.2.1 hdg rfl (hk _ _ _ _ _ h H locs ls hP hS hL hu hv)
  case h_2 => exact h.elim
theorem S_ladd (hC : zCx p R s m args meth c G cc nL own mc ms) (hdg : decode cc pc = .ok (.ladd, 1)) (hk : zOk p l e R s m args below meth c Qs G nL (pc + 1) k) : zOk p l e R s m args below meth c Qs G nL pc (zjj (fun x y => x + y) k) := by
  intro u v lv st M h H locs ls hP hS hL hu hv
  unfold zjj at h
  split at h
  case h_1 y x r => exact lv_ladd hC.1 hC.2.1 hdg (hk _ _ _ _ _ h H locs ls hP hS hL hu hv)
  case h_2 => exact h.elim
theorem S_lsub (hC : zCx p R s m args meth c G cc nL own mc ms) (hdg : decode cc pc = .ok (.lsub, 1)) (hk : zOk p l e R s m args below meth c Qs G nL (pc + 1) k) : zOk p l e R s m args below meth c Qs G nL pc (zjj (fun x y => x - y) k) := by
  intro u v lv st M h H locs ls hP hS hL hu hv
  unfold zjj at h
  split at h
  case h_1 y x r => exact lv_lsub hC.1 hC.2.1 hdg (hk _ _ _ _ _ h H locs ls hP hS hL hu hv)
  case h_2 => exact h.elim
theorem S_land (hC : zCx p R s m args meth c G cc nL own mc ms) (hdg : decode cc pc = .ok (.land, 1)) (hk : zOk p l e R s m args below meth c Qs G nL (pc + 1) k) : zOk p l e R s m args below meth c Qs G nL pc (zjj (fun x y => x &&& y) k) := by
  intro u v lv st M h H locs ls hP hS hL hu hv
  unfold zjj at h
  split at h
  case h_1 y x r => exact lv_land hC.1 hC.2.1 hdg (hk _ _ _ _ _ h H locs ls hP hS hL hu hv)
  case h_2 => exact h.elim
theorem S_lor (hC : zCx p R s m args meth c G cc nL own mc ms) (hdg : decode cc pc = .ok (.lor, 1)) (hk : zOk p l e R s m args below meth c Qs G nL (pc + 1) k) : zOk p l e R s m args below meth c Qs G nL pc (zjj (fun x y => x ||| y) k) := by
  intro u v lv st M h H locs ls hP hS hL hu hv
  unfold zjj at h
  split at h
  case h_1 y x r => exact lv_lor hC.1 hC.2.1 hdg (hk _ _ _ _ _ h H locs ls hP hS hL hu hv)
  case h_2 => exact h.elim
theorem S_lxor (hC : zCx p R s m args meth c G cc nL own mc ms) (hdg : decode cc pc = .ok (.lxor, 1)) (hk : zOk p l e R s m args below meth c Qs G nL (pc + 1) k) : zOk p l e R s m args below meth c Qs G nL pc (zjj (fun x y => x ^^^ y) k) := by
  intro u v lv st M h H locs ls hP hS hL hu hv
  unfold zjj at h
  split at h
  case h_1 y x r => exact lv_lxor hC.1 hC.2.1 hdg (hk _ _ _ _ _ h H locs ls hP hS hL hu hv)
  case h_2 => exact h.elim
theorem S_lshl (hC : zCx p R s m args meth c G cc nL own mc ms) (hdg : decode cc pc = .ok (.lshl, 1)) (hk : zOk p l e R s m args below meth c Qs G nL (pc + 1) k) : zOk p l e R s m args below meth c Qs G nL pc (zji (fun x y => x <<< (y.toInt64 &&& 63)) k) := by
  intro u v lv st M h H locs ls hP hS hL hu hv
  unfold zji at h
  split at h
  case h_1 y x r => exact lv_lshl hC.1 hC.2.1 hdg rfl (hk _ _ _ _ _ h H locs ls hP hS hL hu hv)
  case h_2 => exact h.elim
theorem S_lushr (hC : zCx p R s m args meth c G cc nL own mc ms) (hdg : decode cc pc = .ok (.lushr, 1)) (hk : zOk p l e R s m args below meth c Qs G nL (pc + 1) k) : zOk p l e R s m args below meth c Qs G nL pc (zji (fun x y => (x.toUInt64 >>> (y.toInt64.toUInt64 &&& Int64.toUInt64 63)).toInt64) k) := by
  intro u v lv st M h H locs ls hP hS hL hu hv
  unfold zji at h
  split at h
  case h_1 y x r => exact lv_lushr hC.1 hC.2.1 hdg rfl (hk _ _ _ _ _ h H locs ls hP hS hL hu hv)
  case h_2 => exact h.elim
theorem S_lcmp (hC : zCx p R s m args meth c G cc nL own mc ms) (hdg : decode cc pc = .ok (.lcmp, 1)) (hk : zOk p l e R s m args below meth c Qs G nL (pc + 1) k) : zOk p l e R s m args below meth c Qs G nL pc (zlc k) := by
  intro u v lv st M h H locs ls hP hS hL hu hv
  unfold zlc at h
  split at h
  case h_1 y x r => exact W.lcmp hC.1 hC.2.1 hdg (hk _ _ _ _ _ h H locs ls hP hS hL hu hv)
  case h_2 => exact h.elim
theorem S_dup (hC : zCx p R s m args meth c G cc nL own mc ms) (hdg : decode cc pc = .ok (.dup, 1)) (hk : zOk p l e R s m args below meth c Qs G nL (pc + 1) k) : zOk p l e R s m args below meth c Qs G nL pc (zdup k) := by
  intro u v lv st M h H locs ls hP hS hL hu hv
  unfold zdup at h
  split at h
  case h_1 x r => exact lv_dup hC.1 hC.2.1 hdg rfl (hk _ _ _ _ _ h H locs ls hP hS hL hu hv)
  case h_2 x r => exact lv_dup hC.1 hC.2.1 hdg rfl (hk _ _ _ _ _ h H locs ls hP hS hL hu hv)
  case h_3 => exact h.elim
theorem S_dup2 (hC : zCx p R s m args meth c G cc nL own mc ms) (hdg : decode cc pc = .ok (.dup2, 1)) (hk : zOk p l e R s m args below meth c Qs G nL (pc + 1) k) : zOk p l e R s m args below meth c Qs G nL pc (zdp2 k) := by
  intro u v lv st M h H locs ls hP hS hL hu hv
  unfold zdp2 at h
  split at h
  case h_1 x a r => exact lv_dup2_11 hC.1 hC.2.1 hdg rfl rfl (hk _ _ _ _ _ h H locs ls hP hS hL hu hv)
  case h_2 x y r => exact lv_dup2_11 hC.1 hC.2.1 hdg rfl rfl (hk _ _ _ _ _ h H locs ls hP hS hL hu hv)
  case h_3 x r => exact lv_dup2_2 hC.1 hC.2.1 hdg rfl (hk _ _ _ _ _ h H locs ls hP hS hL hu hv)
  case h_4 => exact h.elim
theorem S_pop (hC : zCx p R s m args meth c G cc nL own mc ms) (hdg : decode cc pc = .ok (.pop, 1)) (hk : zOk p l e R s m args below meth c Qs G nL (pc + 1) k) : zOk p l e R s m args below meth c Qs G nL pc (zpop k) := by
  intro u v lv st M h H locs ls hP hS hL hu hv
  unfold zpop at h
  split at h
  case h_1 x r => exact lv_pop hC.1 hC.2.1 hdg rfl (hk _ _ _ _ _ h H locs ls hP hS hL hu hv)
  case h_2 x r => exact lv_pop hC.1 hC.2.1 hdg rfl (hk _ _ _ _ _ h H locs ls hP hS hL hu hv)
  case h_3 => exact h.elim
theorem S_if_eq (hC : zCx p R s m args meth c G cc nL own mc ms) {off : Int} {tgt : Nat} (hdg : decode cc pc = .ok (.ifCond .eq off, 3)) (htg : (pc : Int) + off = (tgt : Int)) (ht : zOk p l e R s m args below meth c Qs G nL tgt t) (hk : zOk p l e R s m args below meth c Qs G nL (pc + 3) k) : zOk p l e R s m args below meth c Qs G nL pc (zif (fun x => x = 0) t k) := by
  intro u v lv st M h H locs ls hP hS hL hu hv
  unfold zif at h
  split at h
  case h_1 x r => exact lv_if_eq hC.1 hC.2.1 hdg htg (fun q => ht _ _ _ _ _ (h.1 q) H locs ls hP hS hL hu hv) (fun q => hk _ _ _ _ _ (h.2 q) H locs ls hP hS hL hu hv)
  case h_2 => exact h.elim
theorem S_if_ne (hC : zCx p R s m args meth c G cc nL own mc ms) {off : Int} {tgt : Nat} (hdg : decode cc pc = .ok (.ifCond .ne off, 3)) (htg : (pc : Int) + off = (tgt : Int)) (ht : zOk p l e R s m args below meth c Qs G nL tgt t) (hk : zOk p l e R s m args below meth c Qs G nL (pc + 3) k) : zOk p l e R s m args below meth c Qs G nL pc (zif (fun x => x = 0) k t) := by
  intro u v lv st M h H locs ls hP hS hL hu hv
  unfold zif at h
  split at h
  case h_1 x r => exact lv_if_ne hC.1 hC.2.1 hdg htg (fun q => ht _ _ _ _ _ (h.2 q) H locs ls hP hS hL hu hv) (fun q => hk _ _ _ _ _ (h.1 q) H locs ls hP hS hL hu hv)
  case h_2 => exact h.elim
theorem S_if_lt (hC : zCx p R s m args meth c G cc nL own mc ms) {off : Int} {tgt : Nat} (hdg : decode cc pc = .ok (.ifCond .lt off, 3)) (htg : (pc : Int) + off = (tgt : Int)) (ht : zOk p l e R s m args below meth c Qs G nL tgt t) (hk : zOk p l e R s m args below meth c Qs G nL (pc + 3) k) : zOk p l e R s m args below meth c Qs G nL pc (zif (fun x => x < 0) t k) := by
  intro u v lv st M h H locs ls hP hS hL hu hv
  unfold zif at h
  split at h
  case h_1 x r => exact lv_if_lt hC.1 hC.2.1 hdg htg (fun q => ht _ _ _ _ _ (h.1 q) H locs ls hP hS hL hu hv) (fun q => hk _ _ _ _ _ (h.2 q) H locs ls hP hS hL hu hv)
  case h_2 => exact h.elim
theorem S_if_ge (hC : zCx p R s m args meth c G cc nL own mc ms) {off : Int} {tgt : Nat} (hdg : decode cc pc = .ok (.ifCond .ge off, 3)) (htg : (pc : Int) + off = (tgt : Int)) (ht : zOk p l e R s m args below meth c Qs G nL tgt t) (hk : zOk p l e R s m args below meth c Qs G nL (pc + 3) k) : zOk p l e R s m args below meth c Qs G nL pc (zif (fun x => 0 ≤ x) t k) := by
  intro u v lv st M h H locs ls hP hS hL hu hv
  unfold zif at h
  split at h
  case h_1 x r => exact lv_if_ge hC.1 hC.2.1 hdg htg (fun q => ht _ _ _ _ _ (h.1 q) H locs ls hP hS hL hu hv) (fun q => hk _ _ _ _ _ (h.2 q) H locs ls hP hS hL hu hv)
  case h_2 => exact h.elim
theorem S_if_gt (hC : zCx p R s m args meth c G cc nL own mc ms) {off : Int} {tgt : Nat} (hdg : decode cc pc = .ok (.ifCond .gt off, 3)) (htg : (pc : Int) + off = (tgt : Int)) (ht : zOk p l e R s m args below meth c Qs G nL tgt t) (hk : zOk p l e R s m args below meth c Qs G nL (pc + 3) k) : zOk p l e R s m args below meth c Qs G nL pc (zif (fun x => 0 < x) t k) := by
  intro u v lv st M h H locs ls hP hS hL hu hv
  unfold zif at h
  split at h
  case h_1 x r => exact lv_if_gt hC.1 hC.2.1 hdg htg (fun q => ht _ _ _ _ _ (h.1 q) H locs ls hP hS hL hu hv) (fun q => hk _ _ _ _ _ (h.2 q) H locs ls hP hS hL hu hv)
  case h_2 => exact h.elim
theorem S_if_le (hC : zCx p R s m args meth c G cc nL own mc ms) {off : Int} {tgt : Nat} (hdg : decode cc pc = .ok (.ifCond .le off, 3)) (htg : (pc : Int) + off = (tgt : Int)) (ht : zOk p l e R s m args below meth c Qs G nL tgt t) (hk : zOk p l e R s m args below meth c Qs G nL (pc + 3) k) : zOk p l e R s m args below meth c Qs G nL pc (zif (fun x => x ≤ 0) t k) := by
  intro u v lv st M h H locs ls hP hS hL hu hv
  unfold zif at h
  split at h
  case h_1 x r => exact lv_if_le hC.1 hC.2.1 hdg htg (fun q => ht _ _ _ _ _ (h.1 q) H locs ls hP hS hL hu hv) (fun q => hk _ _ _ _ _ (h.2 q) H locs ls hP hS hL hu hv)
  case h_2 => exact h.elim
theorem S_icmp_eq (hC : zCx p R s m args meth c G cc nL own mc ms) {off : Int} {tgt : Nat} (hdg : decode cc pc = .ok (.if_icmp .eq off, 3)) (htg : (pc : Int) + off = (tgt : Int)) (ht : zOk p l e R s m args below meth c Qs G nL tgt t) (hk : zOk p l e R s m args below meth c Qs G nL (pc + 3) k) : zOk p l e R s m args below meth c Qs G nL pc (zic (fun x y => x = y) t k) := by
  intro u v lv st M h H locs ls hP hS hL hu hv
  unfold zic at h
  split at h
  case h_1 y x r => exact lv_icmp_eq hC.1 hC.2.1 hdg htg (fun q => ht _ _ _ _ _ (h.1 q) H locs ls hP hS hL hu hv) (fun q => hk _ _ _ _ _ (h.2 q) H locs ls hP hS hL hu hv)
  case h_2 => exact h.elim
theorem S_icmp_ne (hC : zCx p R s m args meth c G cc nL own mc ms) {off : Int} {tgt : Nat} (hdg : decode cc pc = .ok (.if_icmp .ne off, 3)) (htg : (pc : Int) + off = (tgt : Int)) (ht : zOk p l e R s m args below meth c Qs G nL tgt t) (hk : zOk p l e R s m args below meth c Qs G nL (pc + 3) k) : zOk p l e R s m args below meth c Qs G nL pc (zic (fun x y => x = y) k t) := by
  intro u v lv st M h H locs ls hP hS hL hu hv
  unfold zic at h
  split at h
  case h_1 y x r => exact lv_icmp_ne hC.1 hC.2.1 hdg htg (fun q => ht _ _ _ _ _ (h.2 q) H locs ls hP hS hL hu hv) (fun q => hk _ _ _ _ _ (h.1 q) H locs ls hP hS hL hu hv)
  case h_2 => exact h.elim
theorem S_icmp_lt (hC : zCx p R s m args meth c G cc nL own mc ms) {off : Int} {tgt : Nat} (hdg : decode cc pc = .ok (.if_icmp .lt off, 3)) (htg : (pc : Int) + off = (tgt : Int)) (ht : zOk p l e R s m args below meth c Qs G nL tgt t) (hk : zOk p l e R s m args below meth c Qs G nL (pc + 3) k) : zOk p l e R s m args below meth c Qs G nL pc (zic (fun x y => x < y) t k) := by
  intro u v lv st M h H locs ls hP hS hL hu hv
  unfold zic at h
  split at h
  case h_1 y x r => exact lv_icmp_lt hC.1 hC.2.1 hdg htg (fun q => ht _ _ _ _ _ (h.1 q) H locs ls hP hS hL hu hv) (fun q => hk _ _ _ _ _ (h.2 q) H locs ls hP hS hL hu hv)
  case h_2 => exact h.elim
theorem S_icmp_ge (hC : zCx p R s m args meth c G cc nL own mc ms) {off : Int} {tgt : Nat} (hdg : decode cc pc = .ok (.if_icmp .ge off, 3)) (htg : (pc : Int) + off = (tgt : Int)) (ht : zOk p l e R s m args below meth c Qs G nL tgt t) (hk : zOk p l e R s m args below meth c Qs G nL (pc + 3) k) : zOk p l e R s m args below meth c Qs G nL pc (zic (fun x y => y ≤ x) t k) := by
  intro u v lv st M h H locs ls hP hS hL hu hv
  unfold zic at h
  split at h
  case h_1 y x r => exact lv_icmp_ge hC.1 hC.2.1 hdg htg (fun q => ht _ _ _ _ _ (h.1 q) H locs ls hP hS hL hu hv) (fun q => hk _ _ _ _ _ (h.2 q) H locs ls hP hS hL hu hv)
  case h_2 => exact h.elim
theorem S_icmp_gt (hC : zCx p R s m args meth c G cc nL own mc ms) {off : Int} {tgt : Nat} (hdg : decode cc pc = .ok (.if_icmp .gt off, 3)) (htg : (pc : Int) + off = (tgt : Int)) (ht : zOk p l e R s m args below meth c Qs G nL tgt t) (hk : zOk p l e R s m args below meth c Qs G nL (pc + 3) k) : zOk p l e R s m args below meth c Qs G nL pc (zic (fun x y => y < x) t k) := by
  intro u v lv st M h H locs ls hP hS hL hu hv
  unfold zic at h
  split at h
  case h_1 y x r => exact lv_icmp_gt hC.1 hC.2.1 hdg htg (fun q => ht _ _ _ _ _ (h.1 q) H locs ls hP hS hL hu hv) (fun q => hk _ _ _ _ _ (h.2 q) H locs ls hP hS hL hu hv)
  case h_2 => exact h.elim
theorem S_icmp_le (hC : zCx p R s m args meth c G cc nL own mc ms) {off : Int} {tgt : Nat} (hdg : decode cc pc = .ok (.if_icmp .le off, 3)) (htg : (pc : Int) + off = (tgt : Int)) (ht : zOk p l e R s m args below meth c Qs G nL tgt t) (hk : zOk p l e R s m args below meth c Qs G nL (pc + 3) k) : zOk p l e R s m args below meth c Qs G nL pc (zic (fun x y => x ≤ y) t k) := by
  intro u v lv st M h H locs ls hP hS hL hu hv
  unfold zic at h
  split at h
  case h_1 y x r => exact lv_icmp_le hC.1 hC.2.1 hdg htg (fun q => ht _ _ _ _ _ (h.1 q) H locs ls hP hS hL hu hv) (fun q => hk _ _ _ _ _ (h.2 q) H locs ls hP hS hL hu hv)
  case h_2 => exact h.elim
theorem S_ifnull (hC : zCx p R s m args meth c G cc nL own mc ms) {off : Int} {tgt : Nat} (hdg : decode cc pc = .ok (.ifnull off, 3)) (htg : (pc : Int) + off = (tgt : Int)) (ht : zOk p l e R s m args below meth c Qs G nL tgt t) (hk : zOk p l e R s m args below meth c Qs G nL (pc + 3) k) : zOk p l e R s m args below meth c Qs G nL pc (znl t k) := by
  intro u v lv st M h H locs ls hP hS hL hu hv
  unfold znl at h
  split at h
  case h_1 r => exact lv_ifnullN hC.1 hC.2.1 hdg htg (ht _ _ _ _ _ h H locs ls hP hS hL hu hv)
  case h_2 x r => exact lv_ifnull hC.1 hC.2.1 hdg (hk _ _ _ _ _ h H locs ls hP hS hL hu hv)
  case h_3 => exact h.elim
theorem S_ifnonnull (hC : zCx p R s m args meth c G cc nL own mc ms) {off : Int} {tgt : Nat} (hdg : decode cc pc = .ok (.ifnonnull off, 3)) (htg : (pc : Int) + off = (tgt : Int)) (ht : zOk p l e R s m args below meth c Qs G nL tgt t) (hk : zOk p l e R s m args below meth c Qs G nL (pc + 3) k) : zOk p l e R s m args below meth c Qs G nL pc (znl k t) := by
  intro u v lv st M h H locs ls hP hS hL hu hv
  unfold znl at h
  split at h
  case h_1 r => exact lv_ifnonnullN hC.1 hC.2.1 hdg (hk _ _ _ _ _ h H locs ls hP hS hL hu hv)
  case h_2 x r => exact lv_ifnonnull hC.1 hC.2.1 hdg htg (ht _ _ _ _ _ h H locs ls hP hS hL hu hv)
  case h_3 => exact h.elim
theorem S_goto (hC : zCx p R s m args meth c G cc nL own mc ms) {off : Int} {tgt : Nat} (hdg : decode cc pc = .ok (.goto off, 3)) (htg : (pc : Int) + off = (tgt : Int)) (hk : zOk p l e R s m args below meth c Qs G nL tgt k) : zOk p l e R s m args below meth c Qs G nL pc k := by
  intro u v lv st M h H locs ls hP hS hL hu hv
  exact lv_goto hC.1 hC.2.1 hdg htg (hk _ _ _ _ _ h H locs ls hP hS hL hu hv)
theorem zsws_at {u v : Nat} {lv : List (Option Value)} {r : List Value} {M : zM} {z : Int} : ∀ (ts : List zT) (lo : Int) (i : Nat) (t : zT), zsws u v lv r M z lo ts → ts[i]? = some t → z = lo + i → t u v lv r M
  | [], _, i, _, _, h, _ => by simp at h
  | t0 :: ts, lo, 0, t, h, ht, hz => by
    simp at ht
    subst ht
    exact h.1 (by omega)
  | t0 :: ts, lo, i + 1, t, h, ht, hz => zsws_at ts (lo + 1) i t h.2 (by simpa using ht) (by omega)
theorem S_table (hC : zCx p R s m args meth c G cc nL own mc ms) {dflt lo hi : Int} {offs : Array Int} {len : Nat} {tgd : Nat} {ts : List zT} {d : zT} (hdg : decode cc pc = .ok (.tableswitch dflt lo hi offs, len)) (htd : (pc : Int) + dflt = (tgd : Int)) (hkd : zOk p l e R s m args below meth c Qs G nL tgd d) (hts : ∀ i : Nat, (i : Int) ≤ hi - lo → ∃ (off : Int) (tgt : Nat) (t : zT), offs[i]? = some off ∧ (pc : Int) + off = (tgt : Int) ∧ ts[i]? = some t ∧ zOk p l e R s m args below meth c Qs G nL tgt t) : zOk p l e R s m args below meth c Qs G nL pc (zsw lo hi ts d) := by
  intro u v lv st M h H locs ls hP hS hL hu hv
  unfold zsw at h
  split at h
  case h_1 x r =>
    by_cases hd : x.toInt < lo ∨ hi < x.toInt
    · exact lv_tableOut hC.1 hC.2.1 hdg hd htd (hkd _ _ _ _ _ (h.1 hd) H locs ls hP hS hL hu hv)
    · have h1 : ¬ x.toInt < lo := fun q => hd (Or.inl q)
      have h2 : ¬ hi < x.toInt := fun q => hd (Or.inr q)
      obtain ⟨off, tgt, t, g1, g2, g3, g4⟩ := hts (x.toInt - lo).toNat (by omega)
      exact lv_tableIn hC.1 hC.2.1 hdg h1 h2 g1 g2 (g4 _ _ _ _ _ (zsws_at ts lo _ t h.2 g3 (by omega)) H locs ls hP hS hL hu hv)
  case h_2 => exact h.elim
theorem zspr_at (n : Nat) : ∀ (i : Nat) (live : List Nat) (vs : List Value) (j : Nat) (x : Value), (zspr i n live vs)[j]? = some (some x) → ∃ q : Nat, live[q]? = some (i + j) ∧ vs[q]? = some x := by
  induction n with
  | zero => intro i live vs j x h; simp [zspr] at h
  | succ n ih =>
    intro i live vs j x h
    match live, vs with
    | a :: js, y :: xs =>
      unfold zspr at h
      split at h
      · rename_i e
        match j with
        | 0 =>
          simp at h
          exact ⟨0, by simp [e], by simp [h]⟩
        | j + 1 =>
          obtain ⟨q, h1, h2⟩ := ih (i + 1) js xs j x (by simpa using h)
          exact ⟨q + 1, by rw [List.getElem?_cons_succ, h1]; congr 1; omega, by simpa using h2⟩
      · match j with
        | 0 => simp at h
        | j + 1 =>
          obtain ⟨q, h1, h2⟩ := ih (i + 1) (a :: js) (y :: xs) j x (by simpa using h)
          exact ⟨q, by rw [h1]; congr 1; omega, h2⟩
    | [], vs =>
      have h' : (none :: zspr (i + 1) n [] [])[j]? = some (some x) := by
        cases vs <;> simpa [zspr] using h
      match j with
      | 0 => simp at h'
      | j + 1 =>
        obtain ⟨q, h1, h2⟩ := ih (i + 1) [] [] j x (by simpa using h')
        simp at h1
    | a :: js, [] =>
      have h' : (none :: zspr (i + 1) n [] [])[j]? = some (some x) := by
        simpa [zspr] using h
      match j with
      | 0 => simp at h'
      | j + 1 =>
        obtain ⟨q, h1, h2⟩ := ih (i + 1) [] [] j x (by simpa using h')
        simp at h1
theorem zspr_len (n : Nat) : ∀ (i : Nat) (live : List Nat) (vs : List Value), (zspr i n live vs).length = n := by
  induction n with
  | zero => intro i live vs; simp [zspr]
  | succ n ih =>
    intro i live vs
    match live, vs with
    | a :: js, y :: xs =>
      unfold zspr
      split <;> simp [ih]
    | [], vs => cases vs <;> simp [zspr, ih]
    | a :: js, [] => simp [zspr, ih]
theorem zpick_at {lv : List (Option Value)} : ∀ (live : List Nat) (vs : List Value), zpick lv live = some vs → ∀ (q i : Nat) (x : Value), live[q]? = some i → vs[q]? = some x → lv[i]? = some (some x)
  | [], vs, h, q, i, x, h1, h2 => by simp at h1
  | a :: js, vs, h, q, i, x, h1, h2 => by
    unfold zpick at h
    split at h
    case h_2 => cases h
    case h_1 y hy =>
      split at h
      case h_2 => cases h
      case h_1 ws hw =>
        cases h
        match q with
        | 0 =>
          simp at h1 h2
          subst h1; subst h2
          exact hy
        | q + 1 => exact zpick_at js ws hw q i x (by simpa using h1) (by simpa using h2)
theorem S_jump {X : Nat → zV} {L : Nat} {live : List Nat} (hX : zOkL p l e R s m args below meth c Qs G nL L live (X L)) : zOk p l e R s m args below meth c Qs G nL L (zj X L live) := by
  intro u v lv st M h
  unfold zj at h
  split at h
  case h_1 vs hvs => exact hX u v lv vs st M hvs h
  case h_2 => exact h.elim
theorem S_block {L : Nat} {live : List Nat} (hk : zOk p l e R s m args below meth c Qs G nL L k) : zOkL p l e R s m args below meth c Qs G nL L live (zb nL live k) := by
  intro u v lv vs st M hvs h H locs ls hP hS hL hu hv
  refine hk u v _ st M h.2 H locs ls hP hS ⟨hL.1, hL.2.1, zspr_len _ _ _ _, fun i x hx => ?_⟩ hu hv
  obtain ⟨q, h1, h2⟩ := zspr_at _ _ _ _ _ _ hx
  rw [Nat.zero_add] at h1
  exact hL.2.2.2 i x (zpick_at live vs hvs q i x h1 h2)
end ZS
