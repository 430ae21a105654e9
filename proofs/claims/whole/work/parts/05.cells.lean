/-! ARRAYS, NEW CELLS, RETURNS, CALLS -/
section ZR
variable {p : Program} {l : Launch} {e : Env} {R : Room} {s : State} {m : MethodId} {args : Array Value} {below : List Frame} {meth : Method} {c : Code} {Qs : State → Prop} {G : zG} {cc : ByteArray} {nL : Nat} {own : String} {mc ms : Nat} {pc : Nat} {k t : zT}
variable {H : Heap} {locs : List Loc} {ls : Array Slot} {u v : Nat} {rest : List Value}
theorem S_iaload (hC : zCx p R s m args meth c G cc nL own mc ms) (hdg : decode cc pc = .ok (.iaload, 1)) (hk : zOk p l e R s m args below meth c Qs G nL (pc + 1) k) : zOk p l e R s m args below meth c Qs G nL pc (zal 1 k) := by
  intro u v lv st M h H locs ls hP hS hL hu hv
  unfold zal at h
  split at h
  case h_1 i a r =>
    obtain ⟨n, h1, h2, h3⟩ := h
    exact va_iald (cA := G.2.2.2.1 1) (n := n) (f := M.1 a) hC.1 hC.2.1 hC.2.2.2.2.2.2.1.1 (hP.at h1 (show 1 < 7 by decide)) 0 0 rfl rfl h2 hdg (hk _ _ _ _ _ h3 H locs ls hP hS hL hu hv)
  case h_2 => exact h.elim
theorem S_baload (hC : zCx p R s m args meth c G cc nL own mc ms) (hdg : decode cc pc = .ok (.baload, 1)) (hk : zOk p l e R s m args below meth c Qs G nL (pc + 1) k) : zOk p l e R s m args below meth c Qs G nL pc (zal 3 k) := by
  intro u v lv st M h H locs ls hP hS hL hu hv
  unfold zal at h
  split at h
  case h_1 i a r =>
    obtain ⟨n, h1, h2, h3⟩ := h
    exact va_bald (cA := G.2.2.2.1 3) (n := n) (f := M.1 a) hC.1 hC.2.1 hC.2.2.2.2.2.2.1.1 (hP.at h1 (show 3 < 7 by decide)) 0 2 rfl rfl h2 hdg (hk _ _ _ _ _ h3 H locs ls hP hS hL hu hv)
  case h_2 => exact h.elim
theorem S_caload (hC : zCx p R s m args meth c G cc nL own mc ms) (hdg : decode cc pc = .ok (.caload, 1)) (hk : zOk p l e R s m args below meth c Qs G nL (pc + 1) k) : zOk p l e R s m args below meth c Qs G nL pc (zal 4 k) := by
  intro u v lv st M h H locs ls hP hS hL hu hv
  unfold zal at h
  split at h
  case h_1 i a r =>
    obtain ⟨n, h1, h2, h3⟩ := h
    exact va_cald (cA := G.2.2.2.1 4) (n := n) (f := M.1 a) hC.1 hC.2.1 hC.2.2.2.2.2.2.1.1 (hP.at h1 (show 4 < 7 by decide)) 0 3 rfl rfl h2 hdg (hk _ _ _ _ _ h3 H locs ls hP hS hL hu hv)
  case h_2 => exact h.elim
theorem S_zaload (hC : zCx p R s m args meth c G cc nL own mc ms) (hdg : decode cc pc = .ok (.baload, 1)) (hk : zOk p l e R s m args below meth c Qs G nL (pc + 1) k) : zOk p l e R s m args below meth c Qs G nL pc (zal 5 k) := by
  intro u v lv st M h H locs ls hP hS hL hu hv
  unfold zal at h
  split at h
  case h_1 i a r =>
    obtain ⟨n, h1, h2, h3⟩ := h
    exact va_zald (cA := G.2.2.2.1 5) (n := n) (f := M.1 a) hC.1 hC.2.1 hC.2.2.2.2.2.2.1.1 (hP.at h1 (show 5 < 7 by decide)) 0 4 rfl rfl h2 hdg (hk _ _ _ _ _ h3 H locs ls hP hS hL hu hv)
  case h_2 => exact h.elim
theorem S_laload (hC : zCx p R s m args meth c G cc nL own mc ms) (hdg : decode cc pc = .ok (.laload, 1)) (hk : zOk p l e R s m args below meth c Qs G nL (pc + 1) k) : zOk p l e R s m args below meth c Qs G nL pc (zall k) := by
  intro u v lv st M h H locs ls hP hS hL hu hv
  unfold zall at h
  split at h
  case h_1 i a r =>
    obtain ⟨n, h1, h2, h3⟩ := h
    exact va_lald (cA := G.2.2.2.1 2) (n := n) (f := M.2.1 a) hC.1 hC.2.1 hC.2.2.2.2.2.2.1.1 (hP.at h1 (show 2 < 7 by decide)) 0 1 rfl rfl h2 hdg (hk _ _ _ _ _ h3 H locs ls hP hS hL hu hv)
  case h_2 => exact h.elim
theorem S_aaload (hC : zCx p R s m args meth c G cc nL own mc ms) (hdg : decode cc pc = .ok (.aaload, 1)) (hk : zOk p l e R s m args below meth c Qs G nL (pc + 1) k) : zOk p l e R s m args below meth c Qs G nL pc (zalr k) := by
  intro u v lv st M h H locs ls hP hS hL hu hv
  unfold zalr at h
  split at h
  case h_1 i a r =>
    obtain ⟨n, h1, h2, h3⟩ := h
    refine va_aldq (cA := G.2.2.2.1 6) (C := RX2) (n := n) (f := fun j => (M.2.2.1 a j).map (zad G)) hC.1 hC.2.1 hC.2.2.2.2.2.2.1.1 (hP.at h1 (show 6 < 7 by decide)) 0 5 rfl rfl h2 hdg ?_
    rw [← zup_rf]
    exact hk _ _ _ _ _ h3 H locs ls hP hS hL hu hv
  case h_2 => exact h.elim
theorem S_iastore (hC : zCx p R s m args meth c G cc nL own mc ms) (hdg : decode cc pc = .ok (.iastore, 1)) (hk : zOk p l e R s m args below meth c Qs G nL (pc + 1) k) : zOk p l e R s m args below meth c Qs G nL pc (zas 1 (fun x => x) k) := by
  intro u v lv st M h H locs ls hP hS hL hu hv
  unfold zas at h
  split at h
  case h_1 x i a r =>
    obtain ⟨n, h1, h2, h3⟩ := h
    have hc : H[zad G a]? = some (vp_cell (G.2.2.2.1 1) (n, .inl (M.1 a))) := (hP.2.2 a _ h1 (show 1 < 7 by decide)).2
    obtain ⟨o1, o2, o3, o4⟩ := z_offI M a i.toNatClampNeg ((fun x => x) x)
    refine W.iast hC.1 hC.2.1 hc ((hC.2.2.2.2.2.2.1.1.2 0 _ rfl).1 n (fun j => .int (M.1 a j))) (fun q => by cases q) (by show ¬ (i < 0 ∨ (arrV _ _ _).slots.size ≤ _); rw [arrV_size]; exact h2) rfl rfl hdg fun H1 e1 e2 e3 => ?_
    refine hk _ _ _ _ _ h3 H1 _ ls (hP.put h1 (show 1 < 7 by decide) o1 o2 o3 o4 ?_ e2 e3) (hS.put e2 e3 (hP.ge h1 (show 1 < 7 by decide))) hL hu hv
    show H1[zad G a]? = some (vp_cell (G.2.2.2.1 1) (n, .inl ((zsI M a i.toNatClampNeg ((fun x => x) x)).1 a)))
    rw [e1, vp_cell_i, vp_cell_i, arrV_store]
    congr 2
    funext q
    by_cases hq : q = i.toNatClampNeg
    · subst hq
      simp [updV, zsI, z2, vp_nar]
      try rfl
    · simp [updV, zsI, z2, hq]
  case h_2 => exact h.elim
theorem S_bastore (hC : zCx p R s m args meth c G cc nL own mc ms) (hdg : decode cc pc = .ok (.bastore, 1)) (hk : zOk p l e R s m args below meth c Qs G nL (pc + 1) k) : zOk p l e R s m args below meth c Qs G nL pc (zas 3 (vp_nar .byte) k) := by
  intro u v lv st M h H locs ls hP hS hL hu hv
  unfold zas at h
  split at h
  case h_1 x i a r =>
    obtain ⟨n, h1, h2, h3⟩ := h
    have hc : H[zad G a]? = some (vp_cell (G.2.2.2.1 3) (n, .inl (M.1 a))) := (hP.2.2 a _ h1 (show 3 < 7 by decide)).2
    obtain ⟨o1, o2, o3, o4⟩ := z_offI M a i.toNatClampNeg ((vp_nar .byte) x)
    refine W.bast hC.1 hC.2.1 hc ((hC.2.2.2.2.2.2.1.1.2 2 _ rfl).1 n (fun j => .int (M.1 a j))) (fun q => by cases q) (by show ¬ (i < 0 ∨ (arrV _ _ _).slots.size ≤ _); rw [arrV_size]; exact h2) rfl rfl hdg fun H1 e1 e2 e3 => ?_
    refine hk _ _ _ _ _ h3 H1 _ ls (hP.put h1 (show 3 < 7 by decide) o1 o2 o3 o4 ?_ e2 e3) (hS.put e2 e3 (hP.ge h1 (show 3 < 7 by decide))) hL hu hv
    show H1[zad G a]? = some (vp_cell (G.2.2.2.1 3) (n, .inl ((zsI M a i.toNatClampNeg ((vp_nar .byte) x)).1 a)))
    rw [e1, vp_cell_i, vp_cell_i, arrV_store]
    congr 2
    funext q
    by_cases hq : q = i.toNatClampNeg
    · subst hq
      simp [updV, zsI, z2, vp_nar]
      try rfl
    · simp [updV, zsI, z2, hq]
  case h_2 => exact h.elim
theorem S_castore (hC : zCx p R s m args meth c G cc nL own mc ms) (hdg : decode cc pc = .ok (.castore, 1)) (hk : zOk p l e R s m args below meth c Qs G nL (pc + 1) k) : zOk p l e R s m args below meth c Qs G nL pc (zas 4 (vp_nar .char) k) := by
  intro u v lv st M h H locs ls hP hS hL hu hv
  unfold zas at h
  split at h
  case h_1 x i a r =>
    obtain ⟨n, h1, h2, h3⟩ := h
    have hc : H[zad G a]? = some (vp_cell (G.2.2.2.1 4) (n, .inl (M.1 a))) := (hP.2.2 a _ h1 (show 4 < 7 by decide)).2
    obtain ⟨o1, o2, o3, o4⟩ := z_offI M a i.toNatClampNeg ((vp_nar .char) x)
    refine W.cast hC.1 hC.2.1 hc ((hC.2.2.2.2.2.2.1.1.2 3 _ rfl).1 n (fun j => .int (M.1 a j))) (fun q => by cases q) (by show ¬ (i < 0 ∨ (arrV _ _ _).slots.size ≤ _); rw [arrV_size]; exact h2) rfl rfl hdg fun H1 e1 e2 e3 => ?_
    refine hk _ _ _ _ _ h3 H1 _ ls (hP.put h1 (show 4 < 7 by decide) o1 o2 o3 o4 ?_ e2 e3) (hS.put e2 e3 (hP.ge h1 (show 4 < 7 by decide))) hL hu hv
    show H1[zad G a]? = some (vp_cell (G.2.2.2.1 4) (n, .inl ((zsI M a i.toNatClampNeg ((vp_nar .char) x)).1 a)))
    rw [e1, vp_cell_i, vp_cell_i, arrV_store]
    congr 2
    funext q
    by_cases hq : q = i.toNatClampNeg
    · subst hq
      simp [updV, zsI, z2, vp_nar]
      try rfl
    · simp [updV, zsI, z2, hq]
  case h_2 => exact h.elim
theorem S_zastore (hC : zCx p R s m args meth c G cc nL own mc ms) (hdg : decode cc pc = .ok (.bastore, 1)) (hk : zOk p l e R s m args below meth c Qs G nL (pc + 1) k) : zOk p l e R s m args below meth c Qs G nL pc (zas 5 (vp_nar .boolean) k) := by
  intro u v lv st M h H locs ls hP hS hL hu hv
  unfold zas at h
  split at h
  case h_1 x i a r =>
    obtain ⟨n, h1, h2, h3⟩ := h
    have hc : H[zad G a]? = some (vp_cell (G.2.2.2.1 5) (n, .inl (M.1 a))) := (hP.2.2 a _ h1 (show 5 < 7 by decide)).2
    obtain ⟨o1, o2, o3, o4⟩ := z_offI M a i.toNatClampNeg ((vp_nar .boolean) x)
    refine W.zast hC.1 hC.2.1 hc ((hC.2.2.2.2.2.2.1.1.2 4 _ rfl).1 n (fun j => .int (M.1 a j))) (fun q => by cases q) (by show ¬ (i < 0 ∨ (arrV _ _ _).slots.size ≤ _); rw [arrV_size]; exact h2) rfl rfl hdg fun H1 e1 e2 e3 => ?_
    refine hk _ _ _ _ _ h3 H1 _ ls (hP.put h1 (show 5 < 7 by decide) o1 o2 o3 o4 ?_ e2 e3) (hS.put e2 e3 (hP.ge h1 (show 5 < 7 by decide))) hL hu hv
    show H1[zad G a]? = some (vp_cell (G.2.2.2.1 5) (n, .inl ((zsI M a i.toNatClampNeg ((vp_nar .boolean) x)).1 a)))
    rw [e1, vp_cell_i, vp_cell_i, arrV_store]
    congr 2
    funext q
    by_cases hq : q = i.toNatClampNeg
    · subst hq
      simp [updV, zsI, z2, vp_nar]
      try rfl
    · simp [updV, zsI, z2, hq]
  case h_2 => exact h.elim
theorem S_lastore (hC : zCx p R s m args meth c G cc nL own mc ms) (hdg : decode cc pc = .ok (.lastore, 1)) (hk : zOk p l e R s m args below meth c Qs G nL (pc + 1) k) : zOk p l e R s m args below meth c Qs G nL pc (zasl k) := by
  intro u v lv st M h H locs ls hP hS hL hu hv
  unfold zasl at h
  split at h
  case h_1 x i a r =>
    obtain ⟨n, h1, h2, h3⟩ := h
    have hc : H[zad G a]? = some (vp_cell (G.2.2.2.1 2) (n, .inr (.inl (M.2.1 a)))) := (hP.2.2 a _ h1 (show 2 < 7 by decide)).2
    obtain ⟨o1, o2, o3, o4⟩ := z_offJ M a i.toNatClampNeg x
    refine W.last hC.1 hC.2.1 hc ((hC.2.2.2.2.2.2.1.1.2 1 _ rfl).1 n (fun j => .long (M.2.1 a j))) (fun q => by cases q) (by show ¬ (i < 0 ∨ (arrV _ _ _).slots.size ≤ _); rw [arrV_size]; exact h2) rfl rfl hdg fun H1 e1 e2 e3 => ?_
    refine hk _ _ _ _ _ h3 H1 _ ls (hP.put h1 (show 2 < 7 by decide) o1 o2 o3 o4 ?_ e2 e3) (hS.put e2 e3 (hP.ge h1 (show 2 < 7 by decide))) hL hu hv
    show H1[zad G a]? = some (vp_cell (G.2.2.2.1 2) (n, .inr (.inl ((zsJ M a i.toNatClampNeg x).2.1 a))))
    rw [e1, vp_cell_l, vp_cell_l, arrV_store]
    congr 2
    funext q
    by_cases hq : q = i.toNatClampNeg
    · subst hq
      simp [updV, zsJ, z2]
    · simp [updV, zsJ, z2, hq]
  case h_2 => exact h.elim
theorem S_aastore (hC : zCx p R s m args meth c G cc nL own mc ms) (hdg : decode cc pc = .ok (.aastore, 1)) (hk : zOk p l e R s m args below meth c Qs G nL (pc + 1) k) : zOk p l e R s m args below meth c Qs G nL pc (zasr k) := by
  intro u v lv st M h H locs ls hP hS hL hu hv
  unfold zasr at h
  split at h
  case h_1 b i a r =>
    obtain ⟨n, h1, hb, h2, h3⟩ := h
    have hc : H[zad G a]? = some (vp_cell (G.2.2.2.1 6) (n, .inr (.inr (.inr (.inr (fun j => (M.2.2.1 a j).map (zad G))))))) := (hP.2.2 a _ h1 (show 6 < 7 by decide)).2
    obtain ⟨o1, o2, o3, o4⟩ := z_offR M a i.toNatClampNeg (some b)
    have hK := hC.2.2.2.2.2.2.1.1
    have hlt : i.toNatClampNeg < n := Nat.not_le.mp fun q => h2 (Or.inr q)
    have h0 : ¬ i < 0 := fun q => h2 (Or.inl q)
    obtain ⟨r', hr', cellV, g1, g2, g3, -⟩ := (hP.2.2 b _ hb (show 0 < 7 by decide)).2
    have hcls := (hK.1 2 (RX2, TX2, 12) rfl).2
    obtain ⟨kA, comp, k1, k2, k3, -⟩ := (hK.2 5 _ rfl).2
    have hcomp : comp = G.2.2.1.1 2 := Option.some.inj (k3.symm.trans hcls.1)
    subst hcomp
    obtain ⟨kC, hkC, -⟩ := hcls.2
    refine W.aast hC.1 hC.2.1 hc (fun q h => by cases h) (fun h => by cases h) k1 k2 rfl hkC ⟨h0, by show _ < (arrV _ _ _).slots.size; rw [arrV_size]; exact hlt⟩ g1 (fun q h => by rw [g3] at h; cases h) (by rw [g2]; exact hkC) (by rw [g2]; exact va_assign hcls) rfl rfl hdg fun H1 e1 e2 e3 => ?_
    refine hk _ _ _ _ _ h3 H1 _ ls (hP.put h1 (show 6 < 7 by decide) o1 o2 o3 o4 ?_ e2 e3) (hS.put e2 e3 (hP.ge h1 (show 6 < 7 by decide))) hL hu hv
    show H1[zad G a]? = some (vp_cell (G.2.2.2.1 6) (n, .inr (.inr (.inr (.inr (fun j => ((zsR M a i.toNatClampNeg (some b)).2.2.1 a j).map (zad G)))))))
    rw [e1, vp_cell_q, vp_cell_q, arrV_store]
    congr 2
    funext q
    by_cases hq : q = i.toNatClampNeg
    · subst hq
      simp [updV, zsR, z2, va_rf]
    · simp [updV, zsR, z2, hq]
  case h_2 => exact h.elim
theorem S_alen (hC : zCx p R s m args meth c G cc nL own mc ms) (hdg : decode cc pc = .ok (.arraylength, 1)) (hk : zOk p l e R s m args below meth c Qs G nL (pc + 1) k) : zOk p l e R s m args below meth c Qs G nL pc (zlen k) := by
  intro u v lv st M h H locs ls hP hS hL hu hv
  unfold zlen at h
  split at h
  case h_1 a r =>
    obtain ⟨c1, n, h1, h2, h3, h4⟩ := h
    have hK := hC.2.2.2.2.2.2.1.1
    have hPa := hP.at h1 h3
    have hz := hk _ _ _ _ _ h4 H locs ls hP hS hL hu hv
    match c1, h2, h3, hPa with
    | 1, _, _, hPa => exact va_alen (x := (n, .inl (M.1 a))) hC.1 hC.2.1 hK hPa 0 0 rfl rfl rfl hdg hz
    | 2, _, _, hPa => exact va_alen (x := (n, .inr (.inl (M.2.1 a)))) hC.1 hC.2.1 hK hPa 0 1 rfl rfl rfl hdg hz
    | 3, _, _, hPa => exact va_alen (x := (n, .inl (M.1 a))) hC.1 hC.2.1 hK hPa 0 2 rfl rfl rfl hdg hz
    | 4, _, _, hPa => exact va_alen (x := (n, .inl (M.1 a))) hC.1 hC.2.1 hK hPa 0 3 rfl rfl rfl hdg hz
    | 5, _, _, hPa => exact va_alen (x := (n, .inl (M.1 a))) hC.1 hC.2.1 hK hPa 0 4 rfl rfl rfl hdg hz
    | 6, _, _, hPa => exact va_alen (x := (n, .inr (.inr (.inr (.inr (fun j => (M.2.2.1 a j).map (zad G))))))) hC.1 hC.2.1 hK hPa 0 5 rfl rfl rfl hdg hz
    | 0, h2, _, _ => exact absurd h2 (by decide)
    | c1 + 7, _, h3, _ => exact absurd h3 (by simp)
  case h_2 => exact h.elim
theorem S_newa_int (hC : zCx p R s m args meth c G cc nL own mc ms) (hw : Cond.arrayClass .int ∈ zgw) (hdg : decode cc pc = .ok (.newarray .int, 2)) (hk : zOk p l e R s m args below meth c Qs G nL (pc + 2) k) : zOk p l e R s m args below meth c Qs G nL pc (zna mc ms 1 k) := by
  intro u v lv st M h H locs ls hP hS hL hu hv
  unfold zna at h
  split at h
  case h_1 n r =>
    obtain ⟨h1, h2, h3, h4, h5⟩ := h
    have hz : H.size = zad G M.2.2.2.length := by
      unfold zad
      rw [if_neg (by have := hP.1; omega), hP.2.1]
    have hRc : R.cells = mc := hC.2.2.2.2.2.2.2.1
    have hRs : R.slots = ms := hC.2.2.2.2.2.2.2.2
    refine va_newaK (atype := .int) hC.1 hC.2.1 (hC.2.2.2.2.1 _ hw) rfl hdg rfl h1 rfl (by show _ * 4 ≤ _; omega) (by rw [hRc]; exact h3) (by rw [hRs]; exact h4) rfl fun H1 cA e1 z1 o1 hAr hNm => ?_
    have hcA : cA = G.2.2.2.1 1 := Option.some.inj (hNm.symm.trans (hC.2.2.2.2.2.2.1.1.2 0 _ rfl).2)
    subst hcA
    rw [hz]
    refine hk _ _ _ _ _ h5 H1 locs ls (hP.new ?_ z1 o1) ⟨Nat.le_trans hS.1 (by omega), fun x h1 h2 => (o1 x (Nat.lt_of_lt_of_le h1 hS.1)).trans (hS.2.1 x h1 h2), hS.2.2⟩ hL (by rw [hRc]; exact h3) (by rw [hRs]; exact h4)
    show H1[H.size]? = some (vp_cell (G.2.2.2.1 1) (n.toNatClampNeg, .inl ((zNew M (1, n.toNatClampNeg)).1 M.2.2.2.length)))
    rw [show (zNew M (1, n.toNatClampNeg)).1 M.2.2.2.length = fun _ => 0 from by funext i; simp [zNew]]
    exact e1
  case h_2 => exact h.elim
theorem S_newa_long (hC : zCx p R s m args meth c G cc nL own mc ms) (hw : Cond.arrayClass .long ∈ zgw) (hdg : decode cc pc = .ok (.newarray .long, 2)) (hk : zOk p l e R s m args below meth c Qs G nL (pc + 2) k) : zOk p l e R s m args below meth c Qs G nL pc (zna mc ms 2 k) := by
  intro u v lv st M h H locs ls hP hS hL hu hv
  unfold zna at h
  split at h
  case h_1 n r =>
    obtain ⟨h1, h2, h3, h4, h5⟩ := h
    have hz : H.size = zad G M.2.2.2.length := by
      unfold zad
      rw [if_neg (by have := hP.1; omega), hP.2.1]
    have hRc : R.cells = mc := hC.2.2.2.2.2.2.2.1
    have hRs : R.slots = ms := hC.2.2.2.2.2.2.2.2
    refine va_newaK (atype := .long) hC.1 hC.2.1 (hC.2.2.2.2.1 _ hw) rfl hdg rfl h1 rfl (by show _ * 8 ≤ _; omega) (by rw [hRc]; exact h3) (by rw [hRs]; exact h4) rfl fun H1 cA e1 z1 o1 hAr hNm => ?_
    have hcA : cA = G.2.2.2.1 2 := Option.some.inj (hNm.symm.trans (hC.2.2.2.2.2.2.1.1.2 1 _ rfl).2)
    subst hcA
    rw [hz]
    refine hk _ _ _ _ _ h5 H1 locs ls (hP.new ?_ z1 o1) ⟨Nat.le_trans hS.1 (by omega), fun x h1 h2 => (o1 x (Nat.lt_of_lt_of_le h1 hS.1)).trans (hS.2.1 x h1 h2), hS.2.2⟩ hL (by rw [hRc]; exact h3) (by rw [hRs]; exact h4)
    show H1[H.size]? = some (vp_cell (G.2.2.2.1 2) (n.toNatClampNeg, .inr (.inl ((zNew M (2, n.toNatClampNeg)).2.1 M.2.2.2.length))))
    rw [show (zNew M (2, n.toNatClampNeg)).2.1 M.2.2.2.length = fun _ => 0 from by funext i; simp [zNew]]
    exact e1
  case h_2 => exact h.elim
theorem S_newa_byte (hC : zCx p R s m args meth c G cc nL own mc ms) (hw : Cond.arrayClass .byte ∈ zgw) (hdg : decode cc pc = .ok (.newarray .byte, 2)) (hk : zOk p l e R s m args below meth c Qs G nL (pc + 2) k) : zOk p l e R s m args below meth c Qs G nL pc (zna mc ms 3 k) := by
  intro u v lv st M h H locs ls hP hS hL hu hv
  unfold zna at h
  split at h
  case h_1 n r =>
    obtain ⟨h1, h2, h3, h4, h5⟩ := h
    have hz : H.size = zad G M.2.2.2.length := by
      unfold zad
      rw [if_neg (by have := hP.1; omega), hP.2.1]
    have hRc : R.cells = mc := hC.2.2.2.2.2.2.2.1
    have hRs : R.slots = ms := hC.2.2.2.2.2.2.2.2
    refine va_newaK (atype := .byte) hC.1 hC.2.1 (hC.2.2.2.2.1 _ hw) rfl hdg rfl h1 rfl (by show _ * 1 ≤ _; omega) (by rw [hRc]; exact h3) (by rw [hRs]; exact h4) rfl fun H1 cA e1 z1 o1 hAr hNm => ?_
    have hcA : cA = G.2.2.2.1 3 := Option.some.inj (hNm.symm.trans (hC.2.2.2.2.2.2.1.1.2 2 _ rfl).2)
    subst hcA
    rw [hz]
    refine hk _ _ _ _ _ h5 H1 locs ls (hP.new ?_ z1 o1) ⟨Nat.le_trans hS.1 (by omega), fun x h1 h2 => (o1 x (Nat.lt_of_lt_of_le h1 hS.1)).trans (hS.2.1 x h1 h2), hS.2.2⟩ hL (by rw [hRc]; exact h3) (by rw [hRs]; exact h4)
    show H1[H.size]? = some (vp_cell (G.2.2.2.1 3) (n.toNatClampNeg, .inl ((zNew M (3, n.toNatClampNeg)).1 M.2.2.2.length)))
    rw [show (zNew M (3, n.toNatClampNeg)).1 M.2.2.2.length = fun _ => 0 from by funext i; simp [zNew]]
    exact e1
  case h_2 => exact h.elim
theorem S_newa_char (hC : zCx p R s m args meth c G cc nL own mc ms) (hw : Cond.arrayClass .char ∈ zgw) (hdg : decode cc pc = .ok (.newarray .char, 2)) (hk : zOk p l e R s m args below meth c Qs G nL (pc + 2) k) : zOk p l e R s m args below meth c Qs G nL pc (zna mc ms 4 k) := by
  intro u v lv st M h H locs ls hP hS hL hu hv
  unfold zna at h
  split at h
  case h_1 n r =>
    obtain ⟨h1, h2, h3, h4, h5⟩ := h
    have hz : H.size = zad G M.2.2.2.length := by
      unfold zad
      rw [if_neg (by have := hP.1; omega), hP.2.1]
    have hRc : R.cells = mc := hC.2.2.2.2.2.2.2.1
    have hRs : R.slots = ms := hC.2.2.2.2.2.2.2.2
    refine va_newaK (atype := .char) hC.1 hC.2.1 (hC.2.2.2.2.1 _ hw) rfl hdg rfl h1 rfl (by show _ * 2 ≤ _; omega) (by rw [hRc]; exact h3) (by rw [hRs]; exact h4) rfl fun H1 cA e1 z1 o1 hAr hNm => ?_
    have hcA : cA = G.2.2.2.1 4 := Option.some.inj (hNm.symm.trans (hC.2.2.2.2.2.2.1.1.2 3 _ rfl).2)
    subst hcA
    rw [hz]
    refine hk _ _ _ _ _ h5 H1 locs ls (hP.new ?_ z1 o1) ⟨Nat.le_trans hS.1 (by omega), fun x h1 h2 => (o1 x (Nat.lt_of_lt_of_le h1 hS.1)).trans (hS.2.1 x h1 h2), hS.2.2⟩ hL (by rw [hRc]; exact h3) (by rw [hRs]; exact h4)
    show H1[H.size]? = some (vp_cell (G.2.2.2.1 4) (n.toNatClampNeg, .inl ((zNew M (4, n.toNatClampNeg)).1 M.2.2.2.length)))
    rw [show (zNew M (4, n.toNatClampNeg)).1 M.2.2.2.length = fun _ => 0 from by funext i; simp [zNew]]
    exact e1
  case h_2 => exact h.elim
theorem S_newa_boolean (hC : zCx p R s m args meth c G cc nL own mc ms) (hw : Cond.arrayClass .boolean ∈ zgw) (hdg : decode cc pc = .ok (.newarray .boolean, 2)) (hk : zOk p l e R s m args below meth c Qs G nL (pc + 2) k) : zOk p l e R s m args below meth c Qs G nL pc (zna mc ms 5 k) := by
  intro u v lv st M h H locs ls hP hS hL hu hv
  unfold zna at h
  split at h
  case h_1 n r =>
    obtain ⟨h1, h2, h3, h4, h5⟩ := h
    have hz : H.size = zad G M.2.2.2.length := by
      unfold zad
      rw [if_neg (by have := hP.1; omega), hP.2.1]
    have hRc : R.cells = mc := hC.2.2.2.2.2.2.2.1
    have hRs : R.slots = ms := hC.2.2.2.2.2.2.2.2
    refine va_newaK (atype := .boolean) hC.1 hC.2.1 (hC.2.2.2.2.1 _ hw) rfl hdg rfl h1 rfl (by show _ * 1 ≤ _; omega) (by rw [hRc]; exact h3) (by rw [hRs]; exact h4) rfl fun H1 cA e1 z1 o1 hAr hNm => ?_
    have hcA : cA = G.2.2.2.1 5 := Option.some.inj (hNm.symm.trans (hC.2.2.2.2.2.2.1.1.2 4 _ rfl).2)
    subst hcA
    rw [hz]
    refine hk _ _ _ _ _ h5 H1 locs ls (hP.new ?_ z1 o1) ⟨Nat.le_trans hS.1 (by omega), fun x h1 h2 => (o1 x (Nat.lt_of_lt_of_le h1 hS.1)).trans (hS.2.1 x h1 h2), hS.2.2⟩ hL (by rw [hRc]; exact h3) (by rw [hRs]; exact h4)
    show H1[H.size]? = some (vp_cell (G.2.2.2.1 5) (n.toNatClampNeg, .inl ((zNew M (5, n.toNatClampNeg)).1 M.2.2.2.length)))
    rw [show (zNew M (5, n.toNatClampNeg)).1 M.2.2.2.length = fun _ => 0 from by funext i; simp [zNew]]
    exact e1
  case h_2 => exact h.elim
theorem S_anewa (hC : zCx p R s m args meth c G cc nL own mc ms) {ix : Nat} (hcl : Cond.classLink own ix RX2 ∈ zgw) (hov : va_AO RX2 s) (hdg : decode cc pc = .ok (.anewarray ix, 3)) (hk : zOk p l e R s m args below meth c Qs G nL (pc + 3) k) : zOk p l e R s m args below meth c Qs G nL pc (zna mc ms 6 k) := by
  intro u v lv st M h H locs ls hP hS hL hu hv
  unfold zna at h
  split at h
  case h_1 n r =>
    obtain ⟨h1, h2, h3, h4, h5⟩ := h
    have hz : H.size = zad G M.2.2.2.length := by
      unfold zad
      rw [if_neg (by have := hP.1; omega), hP.2.1]
    have hRc : R.cells = mc := hC.2.2.2.2.2.2.2.1
    have hRs : R.slots = ms := hC.2.2.2.2.2.2.2.2
    refine W.anew hC.1 hC.2.1 hC.2.2.2.1 (hC.2.2.2.2.1 _ hcl) (va_AO.use hov) rfl hdg rfl h1 (by omega) (by rw [hRc]; exact h3) (by rw [hRs]; exact h4) fun cA kA comp f1 f2 f3 f4 => ?_
    generalize hH1 : H.push ({ cls := cA, slots := Array.replicate n.toNatClampNeg .null, vm := .none } : Cell) = H1
    have z1 : H1.size = H.size + 1 := by rw [← hH1, Array.size_push]
    have e1 : H1[H.size]? = some (arrV cA n.toNatClampNeg (fun _ => .null)) := by rw [← hH1, Array.getElem?_push_size, ← arrV_new]
    have o1 : ∀ q : Nat, q < H.size → H1[q]? = H[q]? := fun q hq => by rw [← hH1, Array.getElem?_push, if_neg (Nat.ne_of_lt hq)]
    obtain ⟨kA', comp', k1, k2, k3, k4⟩ := (hC.2.2.2.2.2.2.1.1.2 5 _ rfl).2
    have hcA : cA = G.2.2.2.1 6 := Option.some.inj (f1.symm.trans k4)
    subst hcA
    rw [hz]
    refine hk _ _ _ _ _ h5 H1 locs ls (hP.new ?_ z1 o1) ⟨Nat.le_trans hS.1 (by omega), fun x h1 h2 => (o1 x (Nat.lt_of_lt_of_le h1 hS.1)).trans (hS.2.1 x h1 h2), hS.2.2⟩ hL (by rw [hRc]; exact h3) (by rw [hRs]; exact h4)
    show H1[H.size]? = some (vp_cell (G.2.2.2.1 6) (n.toNatClampNeg, .inr (.inr (.inr (.inr (fun j => ((zNew M (6, n.toNatClampNeg)).2.2.1 M.2.2.2.length j).map (zad G)))))))
    rw [show (fun j => ((zNew M (6, n.toNatClampNeg)).2.2.1 M.2.2.2.length j).map (zad G)) = fun _ => none from by funext i; simp [zNew]]
    rw [vp_cell_q]
    exact e1
  case h_2 => exact h.elim
def zplain (ty : FieldType) : Bool := match ty with
  | .float => false
  | .double => false
  | _ => true
theorem S_new (hC : zCx p R s m args meth c G cc nL own mc ms) {ci ix N : Nat} {C : String} {T : u_T} (hF : zCf ci C T N) (hpl : ∀ j, j < N → zplain (zty ci j) = true) (hcl : Cond.classLink own ix C ∈ zgw) (hin : Cond.instantiable C N ∈ zgw) (hini : Cond.initialized C ∈ zgw) (hdg : decode cc pc = .ok (.new ix, 3)) (hk : zOk p l e R s m args below meth c Qs G nL (pc + 3) k) : zOk p l e R s m args below meth c Qs G nL pc (znew mc ms ci k) := by
  intro u v lv st M h H locs ls hP hS hL hu hv
  obtain ⟨h3, h4, h5⟩ := h
  have hz : H.size = zad G M.2.2.2.length := by
    unfold zad
    rw [if_neg (by have := hP.1; omega), hP.2.1]
  have hRc : R.cells = mc := hC.2.2.2.2.2.2.2.1
  have hRs : R.slots = ms := hC.2.2.2.2.2.2.2.2
  have hKn := hC.2.2.2.2.2.2.1.1.1 ci _ hF.1
  have hNe := zN_of hF.1
  refine W.newcK (n := N) hC.1 hC.2.1 hC.2.2.2.1 (hC.2.2.2.2.1 _ hcl) (hC.2.2.2.2.1 _ hin) (hC.2.2.2.2.1 _ hini) rfl hdg (by rw [hRc]; exact h3) (by rw [hRs, ← hNe]; exact h4) hKn.2.1 rfl fun H1 kC hkC e1 z1 o1 => ?_
  rw [hz, ← hNe]
  refine hk _ _ _ _ _ h5 H1 locs ls (hP.new ?_ z1 o1) ⟨Nat.le_trans hS.1 (by omega), fun x h1 h2 => (o1 x (Nat.lt_of_lt_of_le h1 hS.1)).trans (hS.2.1 x h1 h2), hS.2.2⟩ hL (by rw [hRc]; exact h3) (by rw [hRs]; exact h4)
  refine ⟨_, hF.1, (u_born (zty ci) hC.2.2.2.2.1 hF.2.1 hKn hkC e1 hF.2.2.1).to (fun j hj => ?_)⟩
  show _ = vp_V (zfs G (zNew M (0, ci)) M.2.2.2.length ci) j
  unfold vp_V
  rw [List.getD_eq_getElem?_getD, zfs_at (by rw [hNe]; exact hj)]
  have hp := hpl j hj
  show defaultValue (zty ci j) = zfv G (zNew M (0, ci)) M.2.2.2.length (zty ci j) j
  generalize zty ci j = ty at hp ⊢
  cases ty <;> first | (exact absurd hp (by decide)) | simp [zfv, zNew, defaultValue, va_rf]
theorem S_objInit (hC : zCx p R s m args meth c G cc nL own mc ms) {ix : Nat} (hl : Cond.methodLink own ix objectInit ∈ zgw) (hi : Cond.instanceMethod objectInit ∈ zgw) (hcd : Cond.code objectInit ⟨#[0xb1]⟩ 1 none ∈ zgw) (hfr : 1 ≤ R.frames) (hlo : 20 ≤ R.locals) (hdg : decode cc pc = .ok (.invokespecial ix, 3)) (hk : zOk p l e R s m args below meth c Qs G nL (pc + 3) k) : zOk p l e R s m args below meth c Qs G nL pc (zoi k) := by
  intro u v lv st M h H locs ls hP hS hL hu hv
  unfold zoi at h
  split at h
  case h_1 a r =>
    refine W.objInit hC.1 hC.2.1 hC.2.2.2.1 (hC.2.2.2.2.1 _ hl) (hC.2.2.2.2.1 _ hi) (hC.2.2.2.2.1 _ hcd) rfl (by rw [hC.2.2.1]; exact hL.1) rfl hdg hfr ?_ ?_
    · have h1 := h.1
      unfold zrm at h1
      rw [← zup_cats G] at h1
      have h2 := lv_room (m := m) (pc := pc) (ls := ls) (rest := .ref (zad G a) :: r.map (zup G)) h1
      exact Nat.le_trans (Nat.add_le_add_right h2 12) hlo
    · exact hk _ _ _ _ _ h.2 H locs ls hP hS hL hu hv
  case h_2 => exact h.elim
theorem S_ireturn (hC : zCx p R s m args meth c G cc nL own mc ms) {Q : zQt} (hr : meth.sig.returnType = some .int) (hdg : decode cc pc = .ok (.ireturn, 1)) : zOk p l e R s m args below meth c (MQ below (zQ G Q) args s mc ms (zA G)) G nL pc (zri Q) := by
  intro u v lv st M h H locs ls hP hS hL hu hv
  have hRc : R.cells = mc := hC.2.2.2.2.2.2.2.1
  have hRs : R.slots = ms := hC.2.2.2.2.2.2.2.2
  have hlocks : meth.locks = false := hC.2.2.2.2.2.1
  unfold zri at h
  split at h
  case h_1 x => exact W.widen (k := mc) (n := ms) (by rw [← hRc]; exact hu) (by rw [← hRs]; exact hv) (W.iret (v := x) hC.1 hC.2.1 hr (fun t ht hW => ⟨⟨some (.int x), M, rfl, h, by rw [ht]; exact hP⟩, hS.F ht⟩) hS.2.2 hdg hlocks)
  case h_2 => exact h.elim
theorem S_zreturn (hC : zCx p R s m args meth c G cc nL own mc ms) {Q : zQt} {ty : FieldType} (hr : meth.sig.returnType = some ty) (hdg : decode cc pc = .ok (.ireturn, 1)) : zOk p l e R s m args below meth c (MQ below (zQ G Q) args s mc ms (zA G)) G nL pc (zrz ty Q) := by
  intro u v lv st M h H locs ls hP hS hL hu hv
  have hRc : R.cells = mc := hC.2.2.2.2.2.2.2.1
  have hRs : R.slots = ms := hC.2.2.2.2.2.2.2.2
  have hlocks : meth.locks = false := hC.2.2.2.2.2.1
  unfold zrz at h
  split at h
  case h_1 x => exact W.widen (k := mc) (n := ms) (by rw [← hRc]; exact hu) (by rw [← hRs]; exact hv) (W.zret (v := x) hC.1 hC.2.1 hr h.1 (fun t ht hW => ⟨⟨some (.int x), M, rfl, h.2, by rw [ht]; exact hP⟩, hS.F ht⟩) hS.2.2 hdg hlocks)
  case h_2 => exact h.elim
theorem S_lreturn (hC : zCx p R s m args meth c G cc nL own mc ms) {Q : zQt} (hr : meth.sig.returnType = some .long) (hdg : decode cc pc = .ok (.lreturn, 1)) : zOk p l e R s m args below meth c (MQ below (zQ G Q) args s mc ms (zA G)) G nL pc (zrl Q) := by
  intro u v lv st M h H locs ls hP hS hL hu hv
  have hRc : R.cells = mc := hC.2.2.2.2.2.2.2.1
  have hRs : R.slots = ms := hC.2.2.2.2.2.2.2.2
  have hlocks : meth.locks = false := hC.2.2.2.2.2.1
  unfold zrl at h
  split at h
  case h_1 x => exact W.widen (k := mc) (n := ms) (by rw [← hRc]; exact hu) (by rw [← hRs]; exact hv) (W.lret (v := x) hC.1 hC.2.1 hr (fun t ht hW => ⟨⟨some (.long x), M, rfl, h, by rw [ht]; exact hP⟩, hS.F ht⟩) hS.2.2 hdg hlocks)
  case h_2 => exact h.elim
theorem S_vreturn (hC : zCx p R s m args meth c G cc nL own mc ms) {Q : zQt} (hr : meth.sig.returnType = none) (hdg : decode cc pc = .ok (.return_, 1)) : zOk p l e R s m args below meth c (MQ below (zQ G Q) args s mc ms (zA G)) G nL pc (zrv Q) := by
  intro u v lv st M h H locs ls hP hS hL hu hv
  have hRc : R.cells = mc := hC.2.2.2.2.2.2.2.1
  have hRs : R.slots = ms := hC.2.2.2.2.2.2.2.2
  have hlocks : meth.locks = false := hC.2.2.2.2.2.1
  unfold zrv at h
  split at h
  case h_1 => exact W.widen (k := mc) (n := ms) (by rw [← hRc]; exact hu) (by rw [← hRs]; exact hv) (W.vret hC.1 hC.2.1 hr (fun t ht hW => ⟨⟨none, M, rfl, h, by rw [ht]; exact hP⟩, hS.F ht⟩) hS.2.2 hdg hlocks)
  case h_2 => exact h.elim
theorem S_areturn (hC : zCx p R s m args meth c G cc nL own mc ms) {Q : zQt} {rt : FieldType} (hrt : (∃ n, rt = .object n) ∨ ∃ t, rt = .array t) (hr : meth.sig.returnType = some rt) (hdg : decode cc pc = .ok (.areturn, 1)) : zOk p l e R s m args below meth c (MQ below (zQ G Q) args s mc ms (zA G)) G nL pc (zra Q) := by
  intro u v lv st M h H locs ls hP hS hL hu hv
  have hRc : R.cells = mc := hC.2.2.2.2.2.2.2.1
  have hRs : R.slots = ms := hC.2.2.2.2.2.2.2.2
  have hlocks : meth.locks = false := hC.2.2.2.2.2.1
  unfold zra at h
  split at h
  case h_1 x => exact W.widen (k := mc) (n := ms) (by rw [← hRc]; exact hu) (by rw [← hRs]; exact hv) (W.aret (v := .ref (zad G x)) hC.1 hC.2.1 hr hrt (Or.inr ⟨_, rfl⟩) (fun t ht hW => ⟨⟨some (.ref x), M, rfl, h, by rw [ht]; exact hP⟩, hS.F ht⟩) hS.2.2 hdg hlocks)
  case h_2 => exact W.widen (k := mc) (n := ms) (by rw [← hRc]; exact hu) (by rw [← hRs]; exact hv) (W.aret (v := .null) hC.1 hC.2.1 hr hrt (Or.inl rfl) (fun t ht hW => ⟨⟨some .null, M, rfl, h, by rw [ht]; exact hP⟩, hS.F ht⟩) hS.2.2 hdg hlocks)
  case h_3 => exact h.elim
end ZR
