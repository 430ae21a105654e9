/-! THE REFERENCE: distanceToMate, matingMove -/
theorem uvX13_matingMove_37 {mc ms u v : Nat} (hu : u ≤ mc) (hv : v ≤ ms) {X : Nat → zV} {Q : zQt} {M : zM} {x1 : Int32} {x2 : Int32} (hW : zFix M)  (h : (((M : zM).1 67 (0 : Int32).toNatClampNeg) ≤ x2 → X 81 u v [] [] M) ∧ (¬ ((M : zM).1 67 (0 : Int32).toNatClampNeg) ≤ x2 → (x1 ≤ 0 → X 81 u v [] [] M) ∧ (¬ x1 ≤ 0 → vp_in x2 1980 ∧ wX13_make 0 0 [.ref 55, .int 0, .int ((M : zM).1 66 (x2 : Int32).toNatClampNeg)] M (fun r M1 => kX13_matingMove_62 mc ms X Q u v [some (.ref 55), some (.int x1), some (.int x2)] (r.toList ++ []) M1)))) : aX13_matingMove_37 mc ms X Q u v [some (.ref 55), some (.int x1), some (.int x2)] [] M := ⟨(fxs_55 hW), 67, (fxr_55_18 hW), ⟨6, (fxs_67 hW), by unfold vp_in; decide, ⟨fun c44 => (h.1 c44), fun c44 => ⟨fun c48 => ((h.2 c44).1 c48), fun c48 => ⟨(fxs_55 hW), 66, (fxr_55_17 hW), ⟨1980, (fxs_66 hW), ((h.2 c44).2 c48).1, ⟨Nat.le_of_ble_eq_true rfl, rfl, (fxs_55 hW), 0, 0, hu, hv, ((h.2 c44).2 c48).2⟩⟩⟩⟩⟩⟩⟩
theorem uvX13_matingMove_81 {mc ms u v : Nat} (hu : u ≤ mc) (hv : v ≤ ms) {X : Nat → zV} {Q : zQt} {M : zM}  (hW : zFix M)  (h : Q (some (.int ((-1)))) M) : aX13_matingMove_81 mc ms X Q u v [none, none, none] [] M := h
theorem uvkX13_matingMove_34 {mc ms u v : Nat} (hu : u ≤ mc) (hv : v ≤ ms) {X : Nat → zV} {Q : zQt} {M : zM} {s0 : Int32} (hW : zFix M)  (h : X 37 u v [.ref 55, .int s0, .int 0] [] M) : kX13_matingMove_34 mc ms X Q u v [some (.ref 55), none, none] [.int s0] M := h
theorem uvkX13_matingMove_62 {mc ms u v : Nat} (hu : u ≤ mc) (hv : v ≤ ms) {X : Nat → zV} {Q : zQt} {M : zM} {x1 : Int32} {x2 : Int32} (hW : zFix M)  (h : wX13_distance 0 0 [.ref 55, .int 1] M (fun r M1 => kX13_matingMove_67 mc ms X Q u v [some (.ref 55), some (.int x1), some (.int x2)] (r.toList ++ []) M1)) : kX13_matingMove_62 mc ms X Q u v [some (.ref 55), some (.int x1), some (.int x2)] [] M := ⟨Nat.le_of_ble_eq_true rfl, rfl, (fxs_55 hW), 0, 0, hu, hv, h⟩
theorem uvkX13_matingMove_67 {mc ms u v : Nat} (hu : u ≤ mc) (hv : v ≤ ms) {X : Nat → zV} {Q : zQt} {M : zM} {x1 : Int32} {x2 : Int32} {s0 : Int32} (hW : zFix M)  (h : (s0 = (x1 - (1 : Int32)) → Q (some (.int x2)) M) ∧ (¬ s0 = (x1 - (1 : Int32)) → X 37 u v [.ref 55, .int x1, .int (x2 + 1)] [] M)) : kX13_matingMove_67 mc ms X Q u v [some (.ref 55), some (.int x1), some (.int x2)] [.int s0] M := ⟨fun c70 => (h.1 c70), fun c70 => (h.2 c70)⟩
theorem uvkX13_distanceToMate_34 {mc ms u v : Nat} (hu : u ≤ mc) (hv : v ≤ ms) {X : Nat → zV} {Q : zQt} {M : zM} {s0 : Int32} (hW : zFix M)  (h : Q (some (.int s0)) M) : kX13_distanceToMate_34 mc ms X Q u v [some (.ref 55)] [.int s0] M := h
theorem xFr.mono {C D : List Nat} {M K : zM} (h : xFr C M K) (hC : ∀ b ∈ C, b ∈ D) : xFr D M K := ⟨h.1, h.2.1, h.2.2.1, fun b hb q => h.2.2.2 b (fun z => hb (hC b z)) q⟩
theorem xFr.of {L C : List Nat} {M N : zM} (h : zSm L M N) (hL : ∀ b ∈ L, b ∈ C) (hW : zFix M) : xFr C M N := by
  refine ⟨h.fix hW, fun b sh q => by unfold zsh at q ⊢; rw [h.1]; exact q, by rw [h.1]; exact Nat.le_refl _, fun b hb _ => ?_⟩
  have n : b ∉ L := fun z => hb (hL b z)
  exact ⟨h.i n, h.j n, by rw [h.1]⟩
theorem xFr.sm {C : List Nat} {M K : zM} (h : xFr C M K) : zSm (C ++ List.range' M.2.2.2.length (K.2.2.2.length - M.2.2.2.length)) (M.1, M.2.1, K.2.2) K := by
  refine ⟨rfl, fun b hb => ?_⟩
  rw [List.mem_append, List.mem_range'_1] at hb
  have := h.2.2.1
  have q := h.2.2.2 b (fun z => hb (Or.inl z)) (by omega)
  exact ⟨q.1, q.2.1⟩
theorem xFr.i {C : List Nat} {M K : zM} (h : xFr C M K) (hW : zFix M) {b : Nat} (hb : b ∉ C) (h82 : b < 82) : K.1 b = M.1 b := (h.2.2.2 b hb (Or.inl (Nat.lt_of_lt_of_le h82 (fix_len hW)))).1
theorem eKn.fr {C : List Nat} {M K : zM} (hW : zFix M) {kn : Nat → Bool} (h : eKn M kn) (f : xFr C M K) (hC : (∀ b ∈ C, b < 82) ∧ 71 ∉ C ∧ 72 ∉ C ∧ 73 ∉ C ∧ 74 ∉ C ∧ 75 ∉ C) : eKn K kn := by
  obtain ⟨c0, c1, c2, c3, c4, c5⟩ := hC
  have l82 := fix_len hW
  refine ⟨?_, fun k k1 k5 => ⟨?_, fun z => ?_⟩⟩
  · unfold eTb
    rw [f.i hW c4 (by omega), f.i hW c5 (by omega)]
    exact h.1
  · rw [f.i hW c2 (by omega)]; exact (h.2 k k1 k5).1
  · obtain ⟨b1, b2, g, b3, b4, b5, b6⟩ := (h.2 k k1 k5).2 z
    have r71 : K.2.2.1 71 (slt k) = M.2.2.1 71 (slt k) := by rw [(f.2.2.2 71 c1 (Or.inl (by omega))).2.2]
    have rows : ∀ r, 82 ≤ r → r < M.2.2.2.length → K.1 r = M.1 r := fun r hr hl => (f.2.2.2 r (fun q => by have := c0 r q; omega) (Or.inl hl)).1
    exact ⟨b1.fr hW r71 f.2.1 rows, b2.fr hW r71 f.2.1 rows, g, b3, b4, by rw [f.i hW c3 (by omega)]; exact b5, b6⟩
abbrev rEC : List Nat := [55, 65, 66, 67, 71, 72, 73, 76, 77, 78, 79, 80]
/-- what a question about distances leaves of the reference -/
def rKx (M K : zM) : Prop := xFr rEC M K ∧ ∀ j, 2 ≤ j → j ≤ 7 → K.1 55 j = M.1 55 j
theorem rKx.tr {M N K : zM} (h : rKx M N) (g : rKx N K) : rKx M K := ⟨h.1.tr g.1, fun j a b => (g.2 j a b).trans (h.2 j a b)⟩
theorem rKx.of {L : List Nat} {M N : zM} (h : zSm L M N) (hL : ∀ b ∈ L, b ∈ [65, 66, 67]) (hW : zFix M) : rKx M N := ⟨xFr.of h (fun b hb => by have := hL b hb; simp at this; simp [rEC]; omega) hW, fun j _ _ => by rw [h.i (fun q => absurd (hL 55 q) (by decide))]⟩
theorem rKx.e {M N : zM} (h : xFr eKC M N) (hW : zFix M) : rKx M N := ⟨h.mono (by decide), fun j _ _ => by rw [h.i hW (by decide) (by omega)]⟩
theorem rKx.slot {M : zM} (hW : zFix M) {j : Nat} {v : Int32} (hj : j < 2 ∨ 7 < j) : rKx M (zsI M 55 j v) := ⟨xFr.of (L := [55]) (zSm.I (by decide)) (by decide) hW, fun i a b => zsI_n (by omega)⟩
theorem rKx.ref {M N : zM} (h : rKx M N) {A : Ah} (hR : rRef M A) : rRef N A := by
  obtain ⟨hW, hn, hT, h7, h3, h4, h5, g, hg1, hg, hG⟩ := hR
  have l82 := fix_len hW
  refine ⟨h.1.1, by rw [h.2 2 (by decide) (by decide)]; exact hn, fun i hi => by rw [h.1.i hW (by decide) (by omega)]; exact hT i hi, by rw [h.2 7 (by decide) (by decide)]; exact h7, by rw [h.2 3 (by decide) (by decide)]; exact h3, by rw [h.2 4 (by decide) (by decide)]; exact h4, by rw [h.2 5 (by decide) (by decide)]; exact h5, g, hg1, by rw [h.2 6 (by decide) (by decide)]; exact hg, fun t => ?_⟩
  have q : rGm (M.1, M.2.1, N.2.2) g (aG A).1 (aG A).2.1 (aG A).2.2 := hG t
  refine rGm_sm h.1.sm (fun b b1 b2 w => ?_) q
  rw [List.mem_append, List.mem_range'_1] at w
  rcases w with w | w
  · simp [rEC] at w; omega
  · omega
/-- the kings of a right position -/
theorem kPl_Gd {P : Ps} (h : Gd P) : kPl P.1 (kq P.1 0 64) (kq P.1 1 64) := by
  obtain ⟨a, a1, a2, a3, -⟩ := one_man h.2.1.1
  obtain ⟨b, b1, b2, b3, -⟩ := one_man h.2.1.2
  have ea : kq P.1 0 64 = a := kq_of (c := 0) a2 64 a1 (fun t ht hb => a3 t ht hb)
  have eb : kq P.1 1 64 = b := kq_of (c := 1) b2 64 b1 (fun t ht hb => b3 t ht hb)
  rw [ea, eb]
  exact ⟨a1, b1, fun s hs => ⟨a3 s hs, fun e => by rw [e]; exact a2⟩, fun s hs => ⟨b3 s hs, fun e => by rw [e]; exact b2⟩⟩
theorem hm_ge {B : Nat → Nat} {m s : Nat} (hs : s < 64) (h : B s = m) : 1 ≤ hm B m := by
  unfold hm
  rw [hm_filter]
  exact List.length_pos_of_mem (List.mem_filter.mpr ⟨List.mem_range.mpr hs, decide_eq_true h⟩)
theorem hm_ex {B : Nat → Nat} {m : Nat} (h : 1 ≤ hm B m) : ∃ s, s < 64 ∧ B s = m := by
  unfold hm at h
  rw [hm_filter] at h
  obtain ⟨s, hs⟩ := List.exists_mem_of_length_pos h
  rw [List.mem_filter, List.mem_range, decide_eq_true_eq] at hs
  exact ⟨s, hs⟩
theorem eKd_of {P : Ps} (h : eKd P ≠ 0) : ∃ q, q < 64 ∧ oL P.1 64 = [q] ∧ P.2.2.1 = 0 ∧ eKd P = kd (P.1 q) ∧ oB P.1 q = true ∧ ∀ s, s < 64 → oB P.1 s = true → s = q := by
  unfold eKd at h ⊢
  split at h
  · rename_i q e
    by_cases r : P.2.2.1 = 0
    · have mem : ∀ s, s ∈ oL P.1 64 ↔ s < 64 ∧ oB P.1 s = true := fun s => by unfold oL; rw [List.mem_filter, List.mem_range]
      have hq := (mem q).mp (by rw [e]; simp)
      refine ⟨q, hq.1, e, r, if_pos r, hq.2, fun s hs hb => ?_⟩
      have := (mem s).mpr ⟨hs, hb⟩
      rw [e] at this
      exact List.mem_singleton.mp this
    · rw [if_neg r] at h; exact absurd rfl h
  · exact absurd rfl h
/-- a move leads to no ending that is not worked out already -/
theorem eKd_mk {P : Ps} (hG : Gd P) {m : Nat} (hmv : m ∈ mvs P) (hPs : psOk (mkM P m)) (h : eKd P ≠ 0) (h2 : eKd (mkM P m) ≠ 0) {j : Nat} (hj : ndd (eKd (mkM P m)) j = true) : ndd (eKd P) j = true := by
  obtain ⟨q, q1, _, _, ek, q3, q4⟩ := eKd_of h
  obtain ⟨r, r1, _, _, ek2, r3, _⟩ := eKd_of h2
  have hO := hG.1
  obtain ⟨n1, n2⟩ := hm_mk hO (mvs_mvK hmv)
  have hpr := (mvs_mvK hmv).2.2.2
  have hc := hO.2.1
  have B1 : (mkM P m).1 = mkB P (m % 64) (m / 64 % 64) (m / 4096) := rfl
  have b12 := hPs.1 r r1
  have kr := (oB_kd b12).mp r3
  have kq := (oB_kd (hO.1 q q1)).mp q3
  have k6 : ∀ x, x ≤ 12 → kd x ≠ 6 → x ≠ 6 ∧ x ≠ 12 := fun x hx h => ⟨fun e => h ((kd_6 hx).mpr (Or.inl e)), fun e => h ((kd_6 hx).mpr (Or.inr e))⟩
  have r6 := k6 _ b12 kr.2
  have r0 := kr.1
  have ge := hm_ge r1 (rfl : (mkM P m).1 r = _)
  obtain ⟨x, hx⟩ : ∃ x, x = (mkM P m).1 r := ⟨_, rfl⟩
  rw [← hx] at ge ek2 b12 r6 r0
  rw [B1] at ge
  have same : ∀ y, y ≤ 12 → y ≠ 0 → y ≠ 6 ∧ y ≠ 12 → 1 ≤ hm P.1 y → y = P.1 q := fun y y12 y0 y6 hy => by
    obtain ⟨s, s1, s2⟩ := hm_ex hy
    have : oB P.1 s = true := (oB_kd (by omega)).mpr ⟨by omega, fun e => by
      rw [s2] at e
      rcases (kd_6 y12).mp e with e | e
      · exact y6.1 e
      · exact y6.2 e⟩
    rw [← q4 s s1 this, s2]
  by_cases own : 6 * P.2.1 + 1 ≤ x ∧ x ≤ 6 * P.2.1 + 6
  · have e := n1 x own.1 own.2
    by_cases z : m / 4096 = 0
    · rw [if_pos z, if_pos z] at e
      have := same x b12 r0 r6 (by omega)
      rw [ek2, this, ← ek] at hj
      exact hj
    · rw [if_neg z, if_neg z] at e
      by_cases y : x = 6 * P.2.1 + m / 4096
      · have e2 := n1 (6 * P.2.1 + 1) (by omega) (by omega)
        have p25 : 2 ≤ m / 4096 ∧ m / 4096 ≤ 5 := by
          rcases hpr with w | w
          · exact w.2
          · exact absurd w.2 z
        rw [if_neg z, if_neg z, if_pos rfl, if_neg (by omega)] at e2
        have := same (6 * P.2.1 + 1) (by omega) (by omega) (by omega) (by omega)
        have k1 : eKd P = 1 := by
          rw [ek, ← this]
          unfold kd
          split <;> omega
        have k2 : eKd (mkM P m) = m / 4096 := by
          rw [ek2, y]
          unfold kd
          split <;> omega
        rw [k2] at hj
        rw [k1]
        unfold ndd at hj ⊢
        simp at hj ⊢
        omega
      · rw [if_neg y] at e
        have := same x b12 r0 r6 (by omega)
        rw [ek2, this, ← ek] at hj
        exact hj
  · have e := (n2 x (by omega) (by omega)).1
    have := same x b12 r0 r6 (by omega)
    rw [ek2, this, ← ek] at hj
    exact hj
theorem knE_mk {P : Ps} (hG : Gd P) {m : Nat} (hm : m ∈ mvs P) (hPs : psOk (mkM P m)) (h : eKd P ≠ 0) (kn : Nat → Bool) : knE (knE kn P) (mkM P m) = knE kn P := by
  funext j
  rw [knE_n h]
  by_cases z : eKd (mkM P m) = 0
  · rw [knE_0 z]
  · rw [knE_n z]
    by_cases y : ndd (eKd (mkM P m)) j = true
    · show (kn j || ndd (eKd P) j || _) = (kn j || ndd (eKd P) j)
      rw [eKd_mk hG hm hPs h z y]; simp
    · show (kn j || ndd (eKd P) j || _) = (kn j || ndd (eKd P) j)
      rw [Bool.eq_false_iff.mpr y, Bool.or_false]
theorem eV_ex (k s p w : Nat) (sm : Bool) (N : Nat) : ∃ v, eV k s p w sm N v := by
  by_cases h : ∃ d, d < N ∧ isD k s p w sm d
  · obtain ⟨d, a, b⟩ := h
    exact ⟨nI d, Or.inl ⟨d, a, b, rfl⟩⟩
  · exact ⟨-1, Or.inr ⟨fun d hd q => h ⟨d, hd, q⟩, rfl⟩⟩
theorem dOf_ex (P : Ps) (a b : Nat) : ∃ v, dOf P a b v := by
  unfold dOf
  split
  · split
    · split
      · exact eV_ex _ _ _ _ _ _
      · exact eV_ex _ _ _ _ _ _
    · exact ⟨-1, rfl⟩
  · exact ⟨-1, rfl⟩
noncomputable def dsV (P : Ps) : Int32 := Classical.choose (dOf_ex P (kq P.1 0 64) (kq P.1 1 64))
theorem dsV_of {P : Ps} {v : Int32} (h : dOf P (kq P.1 0 64) (kq P.1 1 64) v) : v = dsV P := dOf_uniq h (Classical.choose_spec (dOf_ex P (kq P.1 0 64) (kq P.1 1 64)))
theorem dsV_n {P : Ps} (h : eKd P = 0) (hG : Gd P) : dsV P = -1 := by
  refine (dsV_of ?_).symm
  unfold dOf
  unfold eKd at h
  split
  · rename_i q e
    rw [e] at h
    have hq : q < 64 ∧ oB P.1 q = true := by
      have : q ∈ oL P.1 64 := by rw [e]; simp
      unfold oL at this
      rw [List.mem_filter, List.mem_range] at this
      exact this
    by_cases r : P.2.2.1 = 0
    · have h : (if P.2.2.1 = 0 then kd (P.1 q) else 0) = 0 := h
      rw [if_pos r] at h
      have := (oB_kd (hG.1.1 q hq.1)).mp hq.2
      unfold kd at h
      split at h <;> omega
    · rw [if_neg r]
  · rfl
/-- what matingMove answers -/
noncomputable def mmV (P : Ps) : Int32 := if dsV P ≤ 0 then -1 else match (mvs P).findIdx? (fun m => decide (dsV (mkM P m) = dsV P - 1)) with
  | some k => nI k
  | none => -1
noncomputable def knA (kn : Nat → Bool) (A : Ah) : Nat → Bool := if aTh A = true then knE kn (lst (aG A)) else kn
noncomputable def dmA (A : Ah) : Nat × Int32 := if aTh A = true then (0, dsV (lst (aG A))) else (1, 0)
noncomputable def mmA (A : Ah) : Nat × Int32 := if aTh A = true then (0, mmV (lst (aG A))) else (1, 0)
