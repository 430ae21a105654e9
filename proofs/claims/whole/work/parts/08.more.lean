/-! THE CLASSES' FACTS; static arrays; references that are there -/
theorem cfX0 : zCf 0 RX0 TX0 12 := ⟨rfl, by decide +kernel, by decide +kernel, nmX0⟩
theorem cfX1 : zCf 1 RX1 TX1 6 := ⟨rfl, by decide +kernel, by decide +kernel, nmX1⟩
theorem cfX2 : zCf 2 RX2 TX2 12 := ⟨rfl, by decide +kernel, by decide +kernel, nmX2⟩
theorem cfX3 : zCf 3 RX3 TX3 2 := ⟨rfl, by decide +kernel, by decide +kernel, nmX3⟩
theorem cfX4 : zCf 4 RX4 TX4 7 := ⟨rfl, by decide +kernel, by decide +kernel, nmX4⟩
theorem cfX5 : zCf 5 RX5 TX5 4 := ⟨rfl, by decide +kernel, by decide +kernel, nmX5⟩
theorem cfX6 : zCf 6 RX6 TX6 5 := ⟨rfl, by decide +kernel, by decide +kernel, nmX6⟩
theorem cfX7 : zCf 7 RX7 TX7 2 := ⟨rfl, by decide +kernel, by decide +kernel, nmX7⟩
theorem cfX8 : zCf 8 RX8 TX8 3 := ⟨rfl, by decide +kernel, by decide +kernel, nmX8⟩
theorem cfX9 : zCf 9 RX9 TX9 1 := ⟨rfl, by decide +kernel, by decide +kernel, nmX9⟩
theorem cfX10 : zCf 10 RX10 TX10 6 := ⟨rfl, by decide +kernel, by decide +kernel, nmX10⟩
theorem cfX11 : zCf 11 RX11 TX11 13 := ⟨rfl, by decide +kernel, by decide +kernel, nmX11⟩
theorem cfX12 : zCf 12 RX12 TX12 17 := ⟨rfl, by decide +kernel, by decide +kernel, nmX12⟩
theorem cfX13 : zCf 13 RX13 TX13 26 := ⟨rfl, by decide +kernel, by decide +kernel, nmX13⟩
/-- a field that holds a cell -/
def zgR (ci j : Nat) (k : zT) : zT := fun u v lv st M => match st with
  | .ref a :: r => zsh M a = some (0, ci) ∧ ∃ b, M.2.2.1 a j = some b ∧ k u v lv (.ref b :: r) M
  | _ => False
def zalR (k : zT) : zT := fun u v lv st M => match st with
  | .int i :: .ref a :: r => ∃ n, zsh M a = some (6, n) ∧ vp_in i n ∧ ∃ b, M.2.2.1 a i.toNatClampNeg = some b ∧ k u v lv (.ref b :: r) M
  | _ => False
/-! static arrays of ints: the cells 0 to 4 -/
def zstn : Nat → String × String × List Int32 := fun e => match e with
  | 0 => ("GameHall$Compass", "FILE_STEP", [1, 0, 1, -1, -1, 0, -1, 1])
  | 1 => ("GameHall$Compass", "RANK_STEP", [0, 1, 1, 1, 0, -1, -1, -1])
  | 2 => ("GameHall$Compass", "KNIGHT_FILE", [1, 2, 2, 1, -1, -2, -2, -1])
  | 3 => ("GameHall$Compass", "KNIGHT_RANK", [2, 1, -1, -2, -2, -1, 1, 2])
  | _ => ("GameHall$Board", "WORTH", [0, 1, 3, 3, 5, 9, 0, -1, -3, -3, -5, -9, 0])
def zStat (G : zG) : Prop := ∀ (U : State) (H : Heap), G.2.2.2.2 U H → ∀ e : Nat, e < 5 → va_Z (zstn e).1 (zstn e).2.1 "[I" (.ref (G.2.1 e)) (zA G) U H ∧ va_T .int (G.2.1 e) (zstn e).2.2.length (fun j => .int ((zstn e).2.2.getD j 0)) (zA G) U H
def zgs (e : Nat) (k : zT) : zT := fun u v lv st M => k u v lv (.ref e :: st) M
def zxl (e : Nat) (k : zT) : zT := fun u v lv st M => match st with
  | .int i :: .ref a :: r => a = e ∧ vp_in i (zstn e).2.2.length ∧ k u v lv (.int ((zstn e).2.2.getD i.toNatClampNeg 0) :: r) M
  | _ => False
section ZX
variable {p : Program} {l : Launch} {e : Env} {R : Room} {s : State} {m : MethodId} {args : Array Value} {below : List Frame} {meth : Method} {c : Code} {Qs : State → Prop} {G : zG} {cc : ByteArray} {nL : Nat} {own : String} {mc ms : Nat} {pc : Nat} {k t : zT}
theorem S_getR (hC : zCx p R s m args meth c G cc nL own mc ms) {ci j ix N : Nat} {C : String} {T : u_T} (hF : zCf ci C T N) (hj : j < N) (hty : (∃ z, zty ci j = .object z) ∨ ∃ z, zty ci j = .array z) (hlink : Cond.fieldLink own ix (T j).1 (T j).2.1 (T j).2.2.1 ∈ zgw) (hdg : decode cc pc = .ok (.getfield ix, 3)) (hk : zOk p l e R s m args below meth c Qs G nL (pc + 3) k) : zOk p l e R s m args below meth c Qs G nL pc (zgR ci j k) := by
  intro u v lv st M h
  refine S_getr hC hF hj hty hlink hdg hk u v lv st M ?_
  unfold zgR at h
  unfold zgr
  split at h
  case h_1 a r =>
    obtain ⟨h1, b, h2, h3⟩ := h
    refine ⟨h1, ?_⟩
    rw [h2]
    exact h3
  case h_2 => exact h.elim
theorem S_aaloadR (hC : zCx p R s m args meth c G cc nL own mc ms) (hdg : decode cc pc = .ok (.aaload, 1)) (hk : zOk p l e R s m args below meth c Qs G nL (pc + 1) k) : zOk p l e R s m args below meth c Qs G nL pc (zalR k) := by
  intro u v lv st M h
  refine S_aaload hC hdg hk u v lv st M ?_
  unfold zalR at h
  unfold zalr
  split at h
  case h_1 i a r =>
    obtain ⟨n, h1, h2, b, h3, h4⟩ := h
    refine ⟨n, h1, h2, ?_⟩
    rw [h3]
    exact h4
  case h_2 => exact h.elim
theorem S_gets (hC : zCx p R s m args meth c G cc nL own mc ms) (hG : zStat G) {e0 ix : Nat} (he : e0 < 5) (hlink : Cond.fieldLink own ix (zstn e0).1 (zstn e0).2.1 "[I" ∈ zgw) (hdg : decode cc pc = .ok (.getstatic ix, 3)) (hk : zOk p l e R s m args below meth c Qs G nL (pc + 3) k) : zOk p l e R s m args below meth c Qs G nL pc (zgs e0 k) := by
  intro u v lv st M h H locs ls hP hS hL hu hv
  have hE := hC.2.2.2.2.2.2.1
  have hZ := (hG s s.heap (hE.2.2 s s.heap (z_wrefl s) (fun _ _ => rfl)) e0 he).1
  refine va_gets hC.1 hC.2.1 hZ hS hC.2.2.2.1 (hC.2.2.2.2.1 _ hlink) (fun _ h9 => h9) hdg ?_
  have : zup G (.ref e0) = .ref (G.2.1 e0) := by
    show Value.ref (zad G e0) = _
    unfold zad
    rw [if_pos (by omega)]
  rw [← this]
  exact hk _ _ _ _ _ h H locs ls hP hS hL hu hv
theorem S_xload (hC : zCx p R s m args meth c G cc nL own mc ms) (hG : zStat G) {e0 : Nat} (he : e0 < 5) (hdg : decode cc pc = .ok (.iaload, 1)) (hk : zOk p l e R s m args below meth c Qs G nL (pc + 1) k) : zOk p l e R s m args below meth c Qs G nL pc (zxl e0 k) := by
  intro u v lv st M h H locs ls hP hS hL hu hv
  unfold zxl at h
  split at h
  case h_1 i a r =>
    obtain ⟨rfl, h2, h3⟩ := h
    have hE := hC.2.2.2.2.2.2.1
    have hT := (hG s s.heap (hE.2.2 s s.heap (z_wrefl s) (fun _ _ => rfl)) a he).2
    have : zup G (.ref a) = .ref (G.2.1 a) := by
      show Value.ref (zad G a) = _
      unfold zad
      rw [if_pos (by omega)]
    show W p l e R s m args below meth c H locs u v Qs (F0 m pc ls (.int i :: zup G (.ref a) :: r.map (zup G)))
    rw [this]
    exact va_ti hC.1 hC.2.1 hT hS h2 rfl hdg (hk _ _ _ _ _ h3 H locs ls hP hS hL hu hv)
  case h_2 => exact h.elim
end ZX
