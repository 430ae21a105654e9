/-! THE ACTS ON THE HEAP ARE SOUND -/
def zCf (ci : Nat) (C : String) (T : u_T) (N : Nat) : Prop := vwCl[ci]? = some (C, T, N) ∧ (∀ w ∈ u_ws C T N, w ∈ zgw) ∧ (∀ k, k < N → parseFieldDescriptor (T k).2.2.1 = some (zty ci k)) ∧ ∀ a, a < N → ∀ b, b < N → a ≠ b → (T a).2.1 ≠ (T b).2.1
theorem zfs_len (G : zG) (M : zM) (a ci : Nat) : (zfs G M a ci).length = zN ci := by simp [zfs]
theorem zfs_at {G : zG} {M : zM} {a ci j : Nat} (h : j < zN ci) : (zfs G M a ci)[j]? = some (zfv G M a (zty ci j) j) := by
  simp [zfs, h]
theorem zN_of {ci : Nat} {C : String} {T : u_T} {N : Nat} (h : vwCl[ci]? = some (C, T, N)) : zN ci = N := by
  unfold zN
  rw [List.getD_eq_getElem?_getD, h]
  rfl
theorem zP.at {G : zG} {M : zM} {H : Heap} {a : Nat} {sh : Nat × Nat} (hP : zP G M H) (h : zsh M a = some sh) (hk : sh.1 < 7) : va_P G.2.2.1 vwCl [(zad G a, zent G M a sh)] H := by
  intro k q hq
  have hk1 : k < 1 := (List.getElem?_eq_some_iff.mp hq).1
  have : k = 0 := by omega
  subst this
  simp at hq
  subst hq
  exact (hP.2.2 a sh h hk).2
theorem zP.ge {G : zG} {M : zM} {H : Heap} {a : Nat} {sh : Nat × Nat} (hP : zP G M H) (h : zsh M a = some sh) (hk : sh.1 < 7) : G.1 ≤ zad G a := zad_ge (hP.2.2 a sh h hk).1
theorem zfs_put {G : zG} {M N : zM} {a ci j : Nat} {x : Value} (hj : zfv G N a (zty ci j) j = x) (h : ∀ i, i ≠ j → zfv G N a (zty ci i) i = zfv G M a (zty ci i) i) : zfs G N a ci = (zfs G M a ci).set j x := by
  refine List.ext_getElem? (fun i => ?_)
  by_cases hi : i < zN ci
  · rw [zfs_at hi]
    by_cases e : i = j
    · subst e
      rw [List.getElem?_set_self (by rw [zfs_len]; exact hi), hj]
    · rw [List.getElem?_set_ne (fun q => e q.symm), zfs_at hi, h i e]
  · rw [List.getElem?_eq_none (by rw [zfs_len]; omega), List.getElem?_eq_none (by rw [List.length_set, zfs_len]; omega)]
theorem zfv_congr {G : zG} {M N : zM} {a j : Nat} (ty : FieldType) (h1 : N.1 a j = M.1 a j) (h2 : N.2.1 a j = M.2.1 a j) (h3 : N.2.2.1 a j = M.2.2.1 a j) : zfv G N a ty j = zfv G M a ty j := by
  unfold zfv
  rw [h1, h2, h3]
theorem va_S.put1 {A : Nat → Prop} {H0 H H1 : Heap} {locs : List Loc} {a k : Nat} (h : va_S A H0 H locs) (z : H1.size = H.size) (oq : ∀ q : Nat, q ≠ a → H1[q]? = H[q]?) (ha : A a) : va_S A H0 H1 (locs ++ [⟨a, k⟩]) := h.put z oq ha
section ZH
variable {p : Program} {l : Launch} {e : Env} {R : Room} {s : State} {m : MethodId} {args : Array Value} {below : List Frame} {meth : Method} {c : Code} {Qs : State → Prop} {G : zG} {cc : ByteArray} {nL : Nat} {own : String} {mc ms : Nat} {pc : Nat} {k t : zT}
variable {H : Heap} {locs : List Loc} {ls : Array Slot} {u v : Nat} {rest : List Value}
theorem z_getW (hC : zCx p R s m args meth c G cc nL own mc ms) {ci j ix N : Nat} {C : String} {T : u_T} (hF : zCf ci C T N) (hj : j < N) (hlink : Cond.fieldLink own ix (T j).1 (T j).2.1 (T j).2.2.1 ∈ zgw) {a : Nat} {M : zM} (hsh : zsh M a = some (0, ci)) (hP : zP G M H) (hdg : decode cc pc = .ok (.getfield ix, 3))
    (kk : W p l e R s m args below meth c H locs u v Qs (F0 m (pc + 3) ls (zfv G M a (zty ci j) j :: rest))) : W p l e R s m args below meth c H locs u v Qs (F0 m pc ls (.ref (zad G a) :: rest)) := by
  have hPa := hP.at hsh (show (0 : Nat) < 7 by decide)
  refine va_get (D := G.2.2.1) (ci := ci) (C := C) (T := T) (N := N) hC.1 hC.2.1 hC.2.2.2.2.1 hF.2.1 hC.2.2.2.1 hC.2.2.2.2.2.2.1.1 hPa 0 (fs := zfs G M a ci) rfl hF.1 j hj (hC.2.2.2.2.1 _ hlink) (fun _ h9 => h9) ?_ hdg kk
  rw [zfs_at (by rw [zN_of hF.1]; exact hj)]
theorem z_putW (hC : zCx p R s m args meth c G cc nL own mc ms) {ci j ix N : Nat} {C : String} {T : u_T} (hF : zCf ci C T N) (hj : j < N) (hlink : Cond.fieldLink own ix (T j).1 (T j).2.1 (T j).2.2.1 ∈ zgw) (hfin : (T j).2.2.2 = false ∨ ((T j).2.2.2 = true ∧ meth.name = "<init>" ∧ (T j).1 = own)) {x : Value} (hn : narrow (zty ci j) x = x) (hfit : fits (zty ci j) x = true) {a : Nat} {M N' : zM} (hsh : zsh M a = some (0, ci))
    (hNS : N'.2.2.2 = M.2.2.2) (h1 : ∀ b, b ≠ a → N'.1 b = M.1 b) (h2 : ∀ b, b ≠ a → N'.2.1 b = M.2.1 b) (h3 : ∀ b, b ≠ a → N'.2.2.1 b = M.2.2.1 b) (hent : zfs G N' a ci = (zfs G M a ci).set j x) (hP : zP G M H) (hS : va_S (zA G) s.heap H locs) (hdg : decode cc pc = .ok (.putfield ix, 3))
    (kk : ∀ (H1 : Heap) (locs1 : List Loc), zP G N' H1 → va_S (zA G) s.heap H1 locs1 → W p l e R s m args below meth c H1 locs1 u v Qs (F0 m (pc + 3) ls rest)) : W p l e R s m args below meth c H locs u v Qs (F0 m pc ls (x :: .ref (zad G a) :: rest)) := by
  obtain ⟨hx, hb, hml, hown, hts, hlk, hE, -, -⟩ := hC
  have hap := va_apart (own := own) hts hF.2.1 (zty ci) hF.2.2.1 hF.2.2.2 hE.1 hF.1
  obtain ⟨r, g1, cell, q1, q2, q3, q4⟩ := (hP.2.2 a _ hsh (show (0 : Nat) < 7 by decide)).2
  have hr : r = (C, T, N) := Option.some.inj (g1.symm.trans hF.1)
  subst hr
  obtain ⟨hSl, hfc, kC, hkC, hkind⟩ := hE.1.1 ci _ hF.1
  obtain ⟨cf, kf, fi, f, hi, hsl⟩ := hSl j hj
  have hlay := hts _ (hF.2.1 _ (u_in_lay hj))
  have hst := (u_facts hfc hkC (u_lays hts hF.2.1 hj) hi).1
  have hle : j < (zfs G M a ci).length := by rw [zfs_len, zN_of hF.1]; exact hj
  have fin : ∀ (H' : Heap) (lo : Loc), lo.base = zad G a → H'[zad G a]? = some (cell.setSlot f.slot x) → H'.size = H.size → (∀ q : Nat, q ≠ zad G a → H'[q]? = H[q]?) → W p l e R s m args below meth c H' (locs ++ [lo]) u v Qs (F0 m (pc + 3) ls rest) := by
    intro H' lo hlo e1 e2 e3
    rw [hsl] at e1
    obtain ⟨lb, lk⟩ := lo
    have hlo' : lb = zad G a := hlo
    subst hlo'
    refine kk H' _ (hP.put hsh (show (0 : Nat) < 7 by decide) hNS h1 h2 h3 ?_ e2 e3) (hS.put e2 e3 (hP.ge hsh (show (0 : Nat) < 7 by decide)))
    refine ⟨_, hF.1, ?_⟩
    show t_OB _ _ _ _ _ (vp_V (zfs G N' a ci))
    rw [hent]
    exact t_OB.to (V := updV (vp_V (zfs G M a ci)) j x) ⟨_, e1, q2, q3, t_set q4 hap hj x⟩ (fun i _ => vp_updV_set hle x i)
  rcases hfin with hfin | ⟨hfin, hname, hdecl⟩
  · unfold u_lay at hlay
    rw [if_neg (by rw [hfin]; decide)] at hlay
    have h6 := u_store hfc hkC hkind hlay hi (hF.2.2.1 j hj) hn hfit
    exact W.putK hx hb (f := f) ⟨hown, hts _ hlink, ⟨_, _, _, hi⟩, hst⟩ (by rw [q2]; exact h6) q1 q3 (by rw [hsl]; exact k2_hasslot (q4 j hj)) rfl rfl hdg (fun H' e1 e2 e3 => fin H' _ rfl e1 e2 e3)
  · unfold u_lay at hlay
    rw [if_pos hfin] at hlay
    have hcf : m.cls = cf := by
      obtain ⟨_, _, c', _, _, _, -, -, hf', -, -, -, hown2, -⟩ := Cond.laysFinal_spec hlay
      have e1 : c' = cf := by have := hi.symm.trans hf'; simp at this; exact this.1.symm
      rw [hdecl] at hown2
      rw [← e1]; exact Option.some.inj (hown.symm.trans hown2)
    have h6 := u_fits hfc hkC hkind (Or.inr hlay) hi (hF.2.2.1 j hj) hn hfit
    exact W.putFinK hx hb hown (hts _ hlink) hi hst hcf hname (by rw [q2]; exact h6) q1 q3 (by rw [hsl]; exact k2_hasslot (q4 j hj)) rfl rfl hdg (fun H' e1 e2 e3 => fin H' _ rfl e1 e2 e3)
theorem S_geti (hC : zCx p R s m args meth c G cc nL own mc ms) {ci j ix N : Nat} {C : String} {T : u_T} (hF : zCf ci C T N) (hj : j < N) (hty : zty ci j = .int ∨ zty ci j = .boolean) (hlink : Cond.fieldLink own ix (T j).1 (T j).2.1 (T j).2.2.1 ∈ zgw) (hdg : decode cc pc = .ok (.getfield ix, 3)) (hk : zOk p l e R s m args below meth c Qs G nL (pc + 3) k) : zOk p l e R s m args below meth c Qs G nL pc (zgi ci j k) := by
  intro u v lv st M h H locs ls hP hS hL hu hv
  unfold zgi at h
  split at h
  case h_1 a r =>
    refine z_getW hC hF hj hlink h.1 hP hdg ?_
    have : zfv G M a (zty ci j) j = .int (M.1 a j) := by rcases hty with q | q <;> rw [q] <;> rfl
    rw [this]
    exact hk _ _ _ _ _ h.2 H locs ls hP hS hL hu hv
  case h_2 => exact h.elim
theorem S_getl (hC : zCx p R s m args meth c G cc nL own mc ms) {ci j ix N : Nat} {C : String} {T : u_T} (hF : zCf ci C T N) (hj : j < N) (hty : zty ci j = .long) (hlink : Cond.fieldLink own ix (T j).1 (T j).2.1 (T j).2.2.1 ∈ zgw) (hdg : decode cc pc = .ok (.getfield ix, 3)) (hk : zOk p l e R s m args below meth c Qs G nL (pc + 3) k) : zOk p l e R s m args below meth c Qs G nL pc (zgl ci j k) := by
  intro u v lv st M h H locs ls hP hS hL hu hv
  unfold zgl at h
  split at h
  case h_1 a r =>
    refine z_getW hC hF hj hlink h.1 hP hdg ?_
    have : zfv G M a (zty ci j) j = .long (M.2.1 a j) := by rw [hty]; rfl
    rw [this]
    exact hk _ _ _ _ _ h.2 H locs ls hP hS hL hu hv
  case h_2 => exact h.elim
theorem zup_rf (G : zG) (o : Option Nat) : zup G (zrf o) = va_rf (o.map (zad G)) := by cases o <;> rfl
theorem S_getr (hC : zCx p R s m args meth c G cc nL own mc ms) {ci j ix N : Nat} {C : String} {T : u_T} (hF : zCf ci C T N) (hj : j < N) (hty : (∃ z, zty ci j = .object z) ∨ ∃ z, zty ci j = .array z) (hlink : Cond.fieldLink own ix (T j).1 (T j).2.1 (T j).2.2.1 ∈ zgw) (hdg : decode cc pc = .ok (.getfield ix, 3)) (hk : zOk p l e R s m args below meth c Qs G nL (pc + 3) k) : zOk p l e R s m args below meth c Qs G nL pc (zgr ci j k) := by
  intro u v lv st M h H locs ls hP hS hL hu hv
  unfold zgr at h
  split at h
  case h_1 a r =>
    refine z_getW hC hF hj hlink h.1 hP hdg ?_
    have : zfv G M a (zty ci j) j = zup G (zrf (M.2.2.1 a j)) := by rw [zup_rf]; rcases hty with ⟨z, q⟩ | ⟨z, q⟩ <;> rw [q] <;> rfl
    rw [this]
    exact hk _ _ _ _ _ h.2 H locs ls hP hS hL hu hv
  case h_2 => exact h.elim
theorem z_offI (M : zM) (a j : Nat) (x : Int32) : (zsI M a j x).2.2.2 = M.2.2.2 ∧ (∀ b, b ≠ a → (zsI M a j x).1 b = M.1 b) ∧ (∀ b, b ≠ a → (zsI M a j x).2.1 b = M.2.1 b) ∧ (∀ b, b ≠ a → (zsI M a j x).2.2.1 b = M.2.2.1 b) := ⟨rfl, fun b h => z2_off _ _ _ h, fun _ _ => rfl, fun _ _ => rfl⟩
theorem z_offJ (M : zM) (a j : Nat) (x : Int64) : (zsJ M a j x).2.2.2 = M.2.2.2 ∧ (∀ b, b ≠ a → (zsJ M a j x).1 b = M.1 b) ∧ (∀ b, b ≠ a → (zsJ M a j x).2.1 b = M.2.1 b) ∧ (∀ b, b ≠ a → (zsJ M a j x).2.2.1 b = M.2.2.1 b) := ⟨rfl, fun _ _ => rfl, fun b h => z2_off _ _ _ h, fun _ _ => rfl⟩
theorem z_offR (M : zM) (a j : Nat) (x : Option Nat) : (zsR M a j x).2.2.2 = M.2.2.2 ∧ (∀ b, b ≠ a → (zsR M a j x).1 b = M.1 b) ∧ (∀ b, b ≠ a → (zsR M a j x).2.1 b = M.2.1 b) ∧ (∀ b, b ≠ a → (zsR M a j x).2.2.1 b = M.2.2.1 b) := ⟨rfl, fun _ _ => rfl, fun _ _ => rfl, fun b h => z2_off _ _ _ h⟩
theorem zfs_I {G : zG} {M : zM} {a ci j : Nat} {x : Int32} (hty : zty ci j = .int ∨ zty ci j = .boolean) : zfs G (zsI M a j x) a ci = (zfs G M a ci).set j (.int x) := by
  refine zfs_put ?_ (fun i hi => zfv_congr _ ?_ rfl rfl)
  · rcases hty with q | q <;> rw [q] <;> simp [zfv, zsI, z2]
  · simp [zsI, z2, hi]
theorem zfs_J {G : zG} {M : zM} {a ci j : Nat} {x : Int64} (hty : zty ci j = .long) : zfs G (zsJ M a j x) a ci = (zfs G M a ci).set j (.long x) := by
  refine zfs_put ?_ (fun i hi => zfv_congr _ rfl ?_ rfl)
  · rw [hty]; simp [zfv, zsJ, z2]
  · simp [zsJ, z2, hi]
theorem zfs_R {G : zG} {M : zM} {a ci j : Nat} {x : Option Nat} (hty : (∃ z, zty ci j = .object z) ∨ ∃ z, zty ci j = .array z) : zfs G (zsR M a j x) a ci = (zfs G M a ci).set j (va_rf (x.map (zad G))) := by
  refine zfs_put ?_ (fun i hi => zfv_congr _ rfl rfl ?_)
  · rcases hty with ⟨z, q⟩ | ⟨z, q⟩ <;> rw [q] <;> simp [zfv, zsR, z2]
  · simp [zsR, z2, hi]
theorem S_puti (hC : zCx p R s m args meth c G cc nL own mc ms) {ci j ix N : Nat} {C : String} {T : u_T} (hF : zCf ci C T N) (hj : j < N) (hty : zty ci j = .int) (hfin : (T j).2.2.2 = false ∨ ((T j).2.2.2 = true ∧ meth.name = "<init>" ∧ (T j).1 = own)) (hlink : Cond.fieldLink own ix (T j).1 (T j).2.1 (T j).2.2.1 ∈ zgw) (hdg : decode cc pc = .ok (.putfield ix, 3)) (hk : zOk p l e R s m args below meth c Qs G nL (pc + 3) k) : zOk p l e R s m args below meth c Qs G nL pc (zpi ci j k) := by
  intro u v lv st M h H locs ls hP hS hL hu hv
  unfold zpi at h
  split at h
  case h_1 x a r =>
    obtain ⟨o1, o2, o3, o4⟩ := z_offI M a j x
    exact z_putW hC hF hj hlink hfin (by rw [hty]; rfl) (by rw [hty]; rfl) h.1 o1 o2 o3 o4 (zfs_I (Or.inl hty)) hP hS hdg (fun H1 locs1 hP1 hS1 => hk _ _ _ _ _ h.2 H1 locs1 ls hP1 hS1 hL hu hv)
  case h_2 => exact h.elim
theorem z_bool {x : Int32} (h : narrow .boolean (.int x) = .int x) : x = 0 ∨ x = 1 := by
  have h1 : x &&& 1 = x := by simpa [narrow] using h
  have h2 := pk_and x (m := 1) 1 (by decide)
  rw [h1] at h2
  rcases (show x.toBitVec.toNat % 2 ^ 1 = 0 ∨ x.toBitVec.toNat % 2 ^ 1 = 1 by omega) with q | q
  · left; rw [h2, q]; rfl
  · right; rw [h2, q]; rfl
theorem z_fitz {x : Int32} (h : narrow .boolean (.int x) = .int x) : fits .boolean (.int x) = true := by
  rcases z_bool h with q | q <;> rw [q] <;> rfl
theorem S_putz (hC : zCx p R s m args meth c G cc nL own mc ms) {ci j ix N : Nat} {C : String} {T : u_T} (hF : zCf ci C T N) (hj : j < N) (hty : zty ci j = .boolean) (hfin : (T j).2.2.2 = false ∨ ((T j).2.2.2 = true ∧ meth.name = "<init>" ∧ (T j).1 = own)) (hlink : Cond.fieldLink own ix (T j).1 (T j).2.1 (T j).2.2.1 ∈ zgw) (hdg : decode cc pc = .ok (.putfield ix, 3)) (hk : zOk p l e R s m args below meth c Qs G nL (pc + 3) k) : zOk p l e R s m args below meth c Qs G nL pc (zpz ci j k) := by
  intro u v lv st M h H locs ls hP hS hL hu hv
  unfold zpz at h
  split at h
  case h_1 x a r =>
    obtain ⟨o1, o2, o3, o4⟩ := z_offI M a j x
    exact z_putW hC hF hj hlink hfin (by rw [hty]; exact h.2.1) (by rw [hty]; exact z_fitz h.2.1) h.1 o1 o2 o3 o4 (zfs_I (Or.inr hty)) hP hS hdg (fun H1 locs1 hP1 hS1 => hk _ _ _ _ _ h.2.2 H1 locs1 ls hP1 hS1 hL hu hv)
  case h_2 => exact h.elim
theorem S_putl (hC : zCx p R s m args meth c G cc nL own mc ms) {ci j ix N : Nat} {C : String} {T : u_T} (hF : zCf ci C T N) (hj : j < N) (hty : zty ci j = .long) (hfin : (T j).2.2.2 = false ∨ ((T j).2.2.2 = true ∧ meth.name = "<init>" ∧ (T j).1 = own)) (hlink : Cond.fieldLink own ix (T j).1 (T j).2.1 (T j).2.2.1 ∈ zgw) (hdg : decode cc pc = .ok (.putfield ix, 3)) (hk : zOk p l e R s m args below meth c Qs G nL (pc + 3) k) : zOk p l e R s m args below meth c Qs G nL pc (zpl ci j k) := by
  intro u v lv st M h H locs ls hP hS hL hu hv
  unfold zpl at h
  split at h
  case h_1 x a r =>
    obtain ⟨o1, o2, o3, o4⟩ := z_offJ M a j x
    exact z_putW hC hF hj hlink hfin (by rw [hty]; rfl) (by rw [hty]; rfl) h.1 o1 o2 o3 o4 (zfs_J hty) hP hS hdg (fun H1 locs1 hP1 hS1 => hk _ _ _ _ _ h.2 H1 locs1 ls hP1 hS1 hL hu hv)
  case h_2 => exact h.elim
theorem S_putr (hC : zCx p R s m args meth c G cc nL own mc ms) {ci j ix N : Nat} {C : String} {T : u_T} (hF : zCf ci C T N) (hj : j < N) (hty : (∃ z, zty ci j = .object z) ∨ ∃ z, zty ci j = .array z) (hfin : (T j).2.2.2 = false ∨ ((T j).2.2.2 = true ∧ meth.name = "<init>" ∧ (T j).1 = own)) (hlink : Cond.fieldLink own ix (T j).1 (T j).2.1 (T j).2.2.1 ∈ zgw) (hdg : decode cc pc = .ok (.putfield ix, 3)) (hk : zOk p l e R s m args below meth c Qs G nL (pc + 3) k) : zOk p l e R s m args below meth c Qs G nL pc (zpr ci j k) := by
  intro u v lv st M h H locs ls hP hS hL hu hv
  have fin1 : ∀ q : Nat, narrow (zty ci j) (.ref q) = .ref q ∧ fits (zty ci j) (.ref q) = true := by
    intro q
    rcases hty with ⟨z, e⟩ | ⟨z, e⟩ <;> rw [e] <;> exact ⟨rfl, rfl⟩
  have fin2 : narrow (zty ci j) .null = .null ∧ fits (zty ci j) .null = true := by
    rcases hty with ⟨z, e⟩ | ⟨z, e⟩ <;> rw [e] <;> exact ⟨rfl, rfl⟩
  unfold zpr at h
  split at h
  case h_1 b a r =>
    obtain ⟨o1, o2, o3, o4⟩ := z_offR M a j (some b)
    exact z_putW hC hF hj hlink hfin (fin1 _).1 (fin1 _).2 h.1 o1 o2 o3 o4 (zfs_R hty) hP hS hdg (fun H1 locs1 hP1 hS1 => hk _ _ _ _ _ h.2 H1 locs1 ls hP1 hS1 hL hu hv)
  case h_2 a r =>
    obtain ⟨o1, o2, o3, o4⟩ := z_offR M a j none
    exact z_putW hC hF hj hlink hfin fin2.1 fin2.2 h.1 o1 o2 o3 o4 (zfs_R hty) hP hS hdg (fun H1 locs1 hP1 hS1 => hk _ _ _ _ _ h.2 H1 locs1 ls hP1 hS1 hL hu hv)
  case h_3 => exact h.elim
end ZH
