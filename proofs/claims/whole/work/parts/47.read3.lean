/-! THE REFERENCE'S READING: readFields, readRecord -/
theorem rkS_le {T : Nat → Nat} {e : Nat} (hT : ∀ p, pk T e p < 256) : ∀ (n f : Nat) (d : Bool) (p : Nat) (r : Nat × List Nat), rkS T e n f d p = some r → ∀ x ∈ r.2, x ≤ 12 := by
  intro n
  induction n with
  | zero =>
    intro f d p r h x hx
    unfold rkS at h
    split at h
    · rw [← Option.some.inj h] at hx
      exact absurd hx (by simp)
    · exact absurd h (by simp)
  | succ n ih =>
    intro f d p r h x hx
    unfold rkS at h
    split at h
    · rw [← Option.some.inj h] at hx
      exact absurd hx (by simp)
    · split at h
      · obtain ⟨y, hy, e1⟩ := Option.map_eq_some_iff.mp h
        rw [← e1] at hx
        rcases List.mem_cons.mp hx with q | q
        · rw [q]; exact (mOf_le _ (hT p)).1
        · exact ih _ _ _ _ hy x q
      · split at h
        · obtain ⟨y, hy, e1⟩ := Option.map_eq_some_iff.mp h
          rw [← e1] at hx
          rcases List.mem_append.mp hx with q | q
          · rw [(List.mem_replicate.mp q).2]; omega
          · exact ih _ _ _ _ hy x q
        · exact absurd h (by simp)
theorem getD_le {L : List Nat} (h : ∀ x ∈ L, x ≤ 12) (i : Nat) : L.getD i 0 ≤ 12 := by
  rw [List.getD_eq_getElem?_getD]
  by_cases hi : i < L.length
  · rw [List.getElem?_eq_getElem hi]
    exact h _ (List.getElem_mem hi)
  · rw [List.getElem?_eq_none (by omega)]
    exact Nat.zero_le _
theorem rksS_le {T : Nat → Nat} {e : Nat} (hT : ∀ p, pk T e p < 256) : ∀ (n p : Nat) (r : Nat × (Nat → Nat)), rksS T e n p = some r → ∀ s, r.2 s ≤ 12 := by
  intro n
  induction n with
  | zero =>
    intro p r h s
    rw [← Option.some.inj h]
    exact Nat.zero_le _
  | succ n ih =>
    intro p r h s
    unfold rksS at h
    obtain ⟨x, hx, h⟩ := Option.bind_eq_some_iff.mp h
    have hl := rkS_le hT _ _ _ _ _ hx
    split at h
    · rw [← Option.some.inj h]
      exact getD_le hl _
    · split at h
      · obtain ⟨y, hy, e1⟩ := Option.map_eq_some_iff.mp h
        rw [← e1]
        show (if s / 8 = n then x.2.getD (s % 8) 0 else y.2 s) ≤ 12
        split
        · exact getD_le hl _
        · exact ih _ _ hy s
      · exact absurd h (by simp)
/-- a fault -/
def bad (k : Nat) : Nat × Nat × Ps := (k, 0, (fun _ => 0, 0, 0, 0, 0, 0))
def fd6 (T : Nat → Nat) (e : Nat) (B : Nat → Nat) (c r f v p : Nat) : Nat × Nat × Ps := match nmS T e 4 p with
  | none => bad 6
  | some x => if x.2 < 1 ∨ x.1 < e ∧ pk T e x.1 ≠ 32 then bad 6 else (0, x.1, (B, c, r, f, v, x.2))
def fd5 (T : Nat → Nat) (e : Nat) (B : Nat → Nat) (c r f p : Nat) : Nat × Nat × Ps := match nmS T e 3 p with
  | none => bad 5
  | some x => if pk T e x.1 = 32 then fd6 T e B c r f x.2 (x.1 + 1) else bad 5
def fd4 (T : Nat → Nat) (e : Nat) (B : Nat → Nat) (c r p : Nat) : Nat × Nat × Ps := match psS T e c p with
  | none => bad 4
  | some x => if pk T e x.1 = 32 then fd5 T e B c r x.2 (x.1 + 1) else bad 4
def fd3 (T : Nat → Nat) (e : Nat) (B : Nat → Nat) (c p : Nat) : Nat × Nat × Ps := match rgS T e p with
  | none => bad 3
  | some x => if pk T e x.1 = 32 then fd4 T e B c x.2 (x.1 + 1) else bad 3
def fd2 (T : Nat → Nat) (e : Nat) (B : Nat → Nat) (p : Nat) : Nat × Nat × Ps := if (pk T e p = 119 ∨ pk T e p = 98) ∧ pk T e (p + 1) = 32 then fd3 T e B (if pk T e p = 98 then 1 else 0) (p + 2) else bad 2
def fdS (T : Nat → Nat) (e p : Nat) : Nat × Nat × Ps := match rksS T e 8 p with
  | none => bad 1
  | some x => if pk T e x.1 = 32 then fd2 T e x.2 (x.1 + 1) else bad 1
set_option maxHeartbeats 8000000 in
theorem c_readFields {mc ms : Nat} {M : zM} (hW : zFix M) {T : Nat → Nat} {e p0 : Nat} (h0 : rAt M T e p0) (hp0 : p0 < 2 ^ 17) {Q : zQt} (qb : ∀ k q N, fdS T e p0 = bad k → 0 < k → k ≤ 6 → rdF M N q → Q (some (.int (nI k))) N) (qg : ∀ p P N, fdS T e p0 = (0, p, P) → rdF M N p → p ≤ p0 + 200 → rPs N 0 P → Q (some (.int 0)) N) : wX13_readFields mc ms [.ref 55] M Q := by
  refine ⟨⟨Nat.le_of_ble_eq_true rfl, rfl⟩, fun X l0 l16 l38 l57 l66 l84 l102 l135 l180 l185 l186 => ?_⟩
  have hT : ∀ p, pk T e p < 256 := fun p => pkb_lt h0.1
  have f16 : ∀ N q, fdS T e p0 = bad 1 → rdF M N q → X 16 0 0 [] [] N := fun N q h hN => l16 _ _ _ _ _ ⟨rfl, vX13_readFields_16 (hN.1.fix hW) (qb 1 q N h (by omega) (by omega) hN)⟩
  have f66 : ∀ N q, fdS T e p0 = bad 2 → rdF M N q → X 66 0 0 [] [] N := fun N q h hN => l66 _ _ _ _ _ ⟨rfl, vX13_readFields_66 (hN.1.fix hW) (qb 2 q N h (by omega) (by omega) hN)⟩
  have f84 : ∀ N q, fdS T e p0 = bad 3 → rdF M N q → X 84 0 0 [] [] N := fun N q h hN => l84 _ _ _ _ _ ⟨rfl, vX13_readFields_84 (hN.1.fix hW) (qb 3 q N h (by omega) (by omega) hN)⟩
  have f102 : ∀ N q, fdS T e p0 = bad 4 → rdF M N q → X 102 0 0 [] [] N := fun N q h hN => l102 _ _ _ _ _ ⟨rfl, vX13_readFields_102 (hN.1.fix hW) (qb 4 q N h (by omega) (by omega) hN)⟩
  have f135 : ∀ N q, fdS T e p0 = bad 5 → rdF M N q → X 135 0 0 [] [] N := fun N q h hN => l135 _ _ _ _ _ ⟨rfl, vX13_readFields_135 (hN.1.fix hW) (qb 5 q N h (by omega) (by omega) hN)⟩
  have f180 : ∀ N q, fdS T e p0 = bad 6 → rdF M N q → X 180 0 0 [] [] N := fun N q h hN => l180 _ _ _ _ _ ⟨rfl, vX13_readFields_180 (hN.1.fix hW) (l186 _ _ _ _ _ ⟨rfl, vX13_readFields_186 (hN.1.fix hW) (qb 6 q N h (by omega) (by omega) hN)⟩)⟩
  refine l0 _ _ _ _ _ ⟨rfl, vX13_readFields_0 hW ?_⟩
  refine c_readRanks hW h0 (by omega) (fun p1 B N hr hN hle1 hv => ?_) (fun p1 N hr hN => ?_)
  rotate_left
  · exact vkX13_readFields_4 (hN.1.fix hW) ⟨fun _ => f16 N p1 (by unfold fdS; rw [hr]) hN, fun a => absurd rfl a⟩
  have hB12 := rksS_le hT _ _ _ hr
  have hS1 : fdS T e p0 = if pk T e p1 = 32 then fd2 T e B (p1 + 1) else bad 1 := by unfold fdS; rw [hr]
  have hWN := hN.1.fix hW
  refine vkX13_readFields_4 hWN ⟨fun a => absurd a (by decide), fun _ => ?_⟩
  refine c_eat hWN (hN.at h0) (c := 32) (by omega) (by omega) (fun hc1 => ?_) (fun hc1 => ?_)
  rotate_left
  · exact vkX13_readFields_13 hWN ⟨fun _ => f16 N p1 (by rw [hS1, if_neg hc1]) hN, fun a => absurd rfl a⟩
  rw [if_pos hc1] at hS1
  obtain ⟨N1, hN1⟩ : ∃ N1, N1 = zsI N 55 21 (nI (p1 + 1)) := ⟨_, rfl⟩
  rw [← hN1]
  have r1 : rdF M N1 (p1 + 1) := by rw [hN1]; exact hN.go (by omega)
  have v1 : ∀ s, s < 64 → N1.1 65 s = nI (B s) := fun s hs => by rw [hN1, zsI_o (by decide)]; exact hv s hs
  have hW1 := r1.1.fix hW
  refine vkX13_readFields_13 hW1 ⟨fun a => absurd a (by decide), fun _ => c_peek hW1 (r1.at h0) ?_⟩
  obtain ⟨q, hq⟩ : ∃ q, q = p1 + 1 := ⟨_, rfl⟩
  rw [← hq] at hS1 r1 ⊢
  have f38 : ∀ c, c = (if pk T e q = 98 then 1 else 0) → X 38 0 0 [.ref 55] [.int (nI c), .int (nI 64), .ref 65] N1 := by
    intro c hc
    have hc1 : c ≤ 1 := by rw [hc]; split <;> omega
    refine l38 _ _ _ _ _ ⟨rfl, vX13_readFields_38 hW1 ?_⟩
    rw [nI_clamp (by omega)]
    refine ⟨vp_in_nI (by omega) (by omega), fun N2 hN2 => ?_⟩
    have r2 : rdF M N2 q := by rw [hN2]; exact r1.put
    have v2 : ∀ s, s < 64 → N2.1 65 s = nI (B s) := fun s hs => by rw [hN2, zsI_n (by omega)]; exact v1 s hs
    have c2 : N2.1 65 64 = nI c := by rw [hN2, zsI_s]
    have hW2 := r2.1.fix hW
    have f57 : ∀ N3, rdF M N3 (q + 1) → (∀ i, N3.1 65 i = N2.1 65 i) → (pk T e q = 119 ∨ pk T e q = 98) → X 57 0 0 [.ref 55] [] N3 := by
      intro N3 r3 o3 hcc
      have hW3 := r3.1.fix hW
      refine l57 _ _ _ _ _ ⟨rfl, vX13_readFields_57 hW3 ?_⟩
      refine c_eat hW3 (r3.at h0) (c := 32) (by omega) (by omega) (fun hc3 => ?_) (fun hc3 => ?_)
      rotate_left
      · refine vkX13_readFields_63 hW3 ⟨fun _ => f66 N3 _ ?_ r3, fun a => absurd rfl a⟩
        rw [hS1]; unfold fd2; rw [if_neg (fun z => hc3 z.2)]
      have hS2 : fdS T e p0 = fd3 T e B c (q + 2) := by
        rw [hS1]; unfold fd2; rw [if_pos ⟨hcc, hc3⟩, ← hc]
      have r4 := r3.go (q := q + 2) (by omega)
      have hW4 := r4.1.fix hW
      refine vkX13_readFields_63 hW4 ⟨fun a => absurd a (by decide), fun _ => ?_⟩
      refine c_readRights hW4 (r4.at h0) (by omega) (fun p2 r N5 hr2 hN5 hle2 hr16 hv5 ho5 => ?_) (fun p2 N5 hr2 hN5 => ?_)
      rotate_left
      · have r5 := r4.tr hN5
        refine vkX13_readFields_72 (r5.1.fix hW) ⟨fun _ => f84 N5 _ ?_ r5, fun a => absurd rfl a⟩
        rw [hS2]; unfold fd3; rw [hr2]
      have r5 := r4.tr hN5
      have hW5 := r5.1.fix hW
      have hS3 : fdS T e p0 = if pk T e p2 = 32 then fd4 T e B c r (p2 + 1) else bad 3 := by rw [hS2]; unfold fd3; rw [hr2]
      have o5 : ∀ i, i ≠ 65 → N5.1 65 i = N2.1 65 i := fun i hi => by rw [ho5 i hi, zsI_o (by decide)]; exact o3 i
      refine vkX13_readFields_72 hW5 ⟨fun a => absurd a (by decide), fun _ => ?_⟩
      refine c_eat hW5 (r5.at h0) (c := 32) (by omega) (by omega) (fun hc5 => ?_) (fun hc5 => ?_)
      rotate_left
      · exact vkX13_readFields_81 hW5 ⟨fun _ => f84 N5 _ (by rw [hS3, if_neg hc5]) r5, fun a => absurd rfl a⟩
      rw [if_pos hc5] at hS3
      have r6 := r5.go (q := p2 + 1) (by omega)
      have hW6 := r6.1.fix hW
      refine vkX13_readFields_81 hW6 ⟨fun a => absurd a (by decide), fun _ => ?_⟩
      refine c_readPassant hW6 (r6.at h0) (by omega) hc1 (by rw [zsI_o (by decide), o5 64 (by decide)]; exact c2) (fun p3 f N7 hr3 hN7 hle3 hf8 hv7 ho7 => ?_) (fun p3 N7 hr3 hN7 => ?_)
      rotate_left
      · have r7 := r6.tr hN7
        refine vkX13_readFields_90 (r7.1.fix hW) ⟨fun _ => f102 N7 _ ?_ r7, fun a => absurd rfl a⟩
        rw [hS3]; unfold fd4; rw [hr3]
      have r7 := r6.tr hN7
      have hW7 := r7.1.fix hW
      have hS4 : fdS T e p0 = if pk T e p3 = 32 then fd5 T e B c r f (p3 + 1) else bad 4 := by rw [hS3]; unfold fd4; rw [hr3]
      have o7 : ∀ i, i ≠ 65 → i ≠ 66 → N7.1 65 i = N2.1 65 i := fun i hi hi2 => by rw [ho7 i hi2, zsI_o (by decide)]; exact o5 i hi
      have w7 : N7.1 65 65 = nI r := by rw [ho7 65 (by decide), zsI_o (by decide)]; exact hv5
      refine vkX13_readFields_90 hW7 ⟨fun a => absurd a (by decide), fun _ => ?_⟩
      refine c_eat hW7 (r7.at h0) (c := 32) (by omega) (by omega) (fun hc7 => ?_) (fun hc7 => ?_)
      rotate_left
      · exact vkX13_readFields_99 hW7 ⟨fun _ => f102 N7 _ (by rw [hS4, if_neg hc7]) r7, fun a => absurd rfl a⟩
      rw [if_pos hc7] at hS4
      have r8 := r7.go (q := p3 + 1) (by omega)
      have hW8 := r8.1.fix hW
      refine vkX13_readFields_99 hW8 ⟨fun a => absurd a (by decide), fun _ => ?_⟩
      refine c_readNumber hW8 (r8.at h0) (by omega) (most := 3) (by omega) (fun p4 v N9 hr4 hN9 hle4 hv5' ho9 => ?_) (fun p4 N9 hr4 hN9 => ?_)
      rotate_left
      · have r9 := r8.tr hN9
        refine vkX13_readFields_115 (r9.1.fix hW) ⟨vp_in_nI (n := 67) (by omega) (by omega), fun N10 hN10 => ?_⟩
        rw [show (67 : Int32).toNatClampNeg = 67 from rfl] at hN10 ⊢
        have r10 : rdF M N10 p4 := by rw [hN10]; exact r9.put
        have z : N10.1 65 67 = -1 := by rw [hN10, zsI_s]
        rw [z]
        refine ⟨fun _ => f135 N10 _ ?_ r10, fun a => absurd (by decide) a⟩
        rw [hS4]; unfold fd5; rw [hr4]
      have r9 := r8.tr hN9
      have hS5 : fdS T e p0 = if pk T e p4 = 32 then fd6 T e B c r f v (p4 + 1) else bad 5 := by rw [hS4]; unfold fd5; rw [hr4]
      refine vkX13_readFields_115 (r9.1.fix hW) ⟨vp_in_nI (n := 67) (by omega) (by omega), fun N10 hN10 => ?_⟩
      rw [show (67 : Int32).toNatClampNeg = 67 from rfl] at hN10 ⊢
      have r10 : rdF M N10 p4 := by rw [hN10]; exact r9.put
      have hW10 := r10.1.fix hW
      have z10 : N10.1 65 67 = nI v := by rw [hN10, zsI_s]
      have o10 : ∀ i, i ≠ 67 → N10.1 65 i = N7.1 65 i := fun i hi => by rw [hN10, zsI_n hi, ho9, zsI_o (by decide)]
      rw [z10]
      refine ⟨fun a => absurd ((nI_ltI (a := v) (b := 0) (by omega) (by decide)).mp a) (by omega), fun _ => ?_⟩
      refine c_eat hW10 (r10.at h0) (c := 32) (by omega) (by omega) (fun hc10 => ?_) (fun hc10 => ?_)
      rotate_left
      · exact vkX13_readFields_132 hW10 ⟨fun _ => f135 N10 _ (by rw [hS5, if_neg hc10]) r10, fun a => absurd rfl a⟩
      rw [if_pos hc10] at hS5
      have r11 := r10.go (q := p4 + 1) (by omega)
      have hW11 := r11.1.fix hW
      refine vkX13_readFields_132 hW11 ⟨fun a => absurd a (by decide), fun _ => ?_⟩
      refine c_readNumber hW11 (r11.at h0) (by omega) (most := 4) (by omega) (fun p5 w N12 hr5 hN12 hle5 hw5 ho12 => ?_) (fun p5 N12 hr5 hN12 => ?_)
      rotate_left
      · have r12 := r11.tr hN12
        refine vkX13_readFields_148 (r12.1.fix hW) ⟨vp_in_nI (n := 68) (by omega) (by omega), fun N13 hN13 => ?_⟩
        rw [show (68 : Int32).toNatClampNeg = 68 from rfl] at hN13 ⊢
        have r13 : rdF M N13 p5 := by rw [hN13]; exact r12.put
        have z : N13.1 65 68 = -1 := by rw [hN13, zsI_s]
        rw [z]
        refine ⟨fun _ => f180 N13 _ ?_ r13, fun a => absurd (by decide) a⟩
        rw [hS5]; unfold fd6; rw [hr5]
      have r12 := r11.tr hN12
      have hS6 : fdS T e p0 = if w < 1 ∨ p5 < e ∧ pk T e p5 ≠ 32 then bad 6 else (0, p5, (B, c, r, f, v, w)) := by rw [hS5]; unfold fd6; rw [hr5]
      refine vkX13_readFields_148 (r12.1.fix hW) ⟨vp_in_nI (n := 68) (by omega) (by omega), fun N13 hN13 => ?_⟩
      rw [show (68 : Int32).toNatClampNeg = 68 from rfl] at hN13 ⊢
      have r13 : rdF M N13 p5 := by rw [hN13]; exact r12.put
      have hW13 := r13.1.fix hW
      have z13 : N13.1 65 68 = nI w := by rw [hN13, zsI_s]
      have o13 : ∀ i, i ≠ 68 → N13.1 65 i = N10.1 65 i := fun i hi => by rw [hN13, zsI_n hi, ho12, zsI_o (by decide)]
      have a13 := r13.at h0
      have he2 := a13.1.2.1
      rw [z13, a13.1.1, a13.2.1]
      have f185 : ¬ (w < 1 ∨ p5 < e ∧ pk T e p5 ≠ 32) → X 185 0 0 [] [] N13 := by
        intro hno
        rw [if_neg hno] at hS6
        refine l185 _ _ _ _ _ ⟨rfl, vX13_readFields_185 hW13 (l186 _ _ _ _ _ ⟨rfl, vX13_readFields_186 hW13 (qg p5 _ N13 hS6 r13 (by omega) ?_)⟩)⟩
        refine ⟨fun s hs => ⟨?_, hB12 s⟩, ⟨?_, hc1⟩, ⟨?_, hr16⟩, ⟨?_, hf8⟩, ⟨?_, by show v < 2 ^ 30; omega⟩, ?_, by show w < 2 ^ 30; omega⟩
        · rw [Nat.zero_add, o13 s (by omega), o10 s (by omega), o7 s (by omega) (by omega)]
          exact v2 s hs
        · show N13.1 65 64 = nI c
          rw [o13 64 (by decide), o10 64 (by decide), o7 64 (by decide) (by decide)]
          exact c2
        · show N13.1 65 65 = nI r
          rw [o13 65 (by decide), o10 65 (by decide)]
          exact w7
        · show N13.1 65 66 = pI f
          rw [o13 66 (by decide), o10 66 (by decide)]
          exact hv7
        · show N13.1 65 67 = nI v
          rw [o13 67 (by decide)]
          exact z10
        · exact z13
      have e1 := nI_ltI (a := w) (b := 1) (by omega) (by decide)
      have e2 := nI_leI (a := e) (b := p5) (by omega) (by have := a13.2.2; omega)
      have hb5 := hT p5
      have e3 := nI_eq (a := pk T e p5) (b := 32) (by omega) (by decide)
      refine ⟨fun a => f180 N13 _ ?_ r13, fun a => ⟨fun b => f185 ?_, fun b => c_peek hW13 a13 (vkX13_readFields_175 hW13 ⟨fun d => f185 ?_, fun d => f180 N13 _ ?_ r13⟩)⟩⟩
      · rw [hS6, if_pos (Or.inl (e1.mp a))]
      · have a' : ¬ w < 1 := fun z => a (e1.mpr z)
        have := e2.mp b
        omega
      · have a' : ¬ w < 1 := fun z => a (e1.mpr z)
        have := e3.mp d
        omega
      · have b' : ¬ e ≤ p5 := fun z => b (e2.mpr z)
        rw [hS6, if_pos (Or.inr ⟨by omega, fun z => d (e3.mpr z)⟩)]
    refine c_eat hW2 (r2.at h0) (c := 119) (by omega) (by omega) (fun hw => ?_) (fun hw => ?_)
    · have r3 := r2.go (q := q + 1) (by omega)
      exact vkX13_readFields_45 (r3.1.fix hW) ⟨fun a => absurd a (by decide), fun _ => f57 _ r3 (fun i => by rw [zsI_o (by decide)]) (Or.inl hw)⟩
    · refine vkX13_readFields_45 hW2 ⟨fun _ => ?_, fun a => absurd rfl a⟩
      refine c_eat hW2 (r2.at h0) (c := 98) (by omega) (by omega) (fun hb => ?_) (fun hb => ?_)
      · have r3 := r2.go (q := q + 1) (by omega)
        exact vkX13_readFields_54 (r3.1.fix hW) ⟨fun a => absurd a (by decide), fun _ => f57 _ r3 (fun i => by rw [zsI_o (by decide)]) (Or.inr hb)⟩
      · refine vkX13_readFields_54 hW2 ⟨fun _ => f66 N2 _ ?_ r2, fun a => absurd rfl a⟩
        rw [hS1]; unfold fd2
        rw [if_neg]
        rintro ⟨z | z, _⟩
        · exact hw z
        · exact hb z
  have hb1 := hT q
  have e98 := nI_eq (a := pk T e q) (b := 98) (by omega) (by decide)
  exact vkX13_readFields_28 hW1 ⟨fun a => f38 1 (by rw [if_pos (e98.mp a)]), fun a => f38 0 (by rw [if_neg (fun z => a (e98.mpr z))])⟩
noncomputable def ckB (B : Nat → Nat) (c : Nat) : Bool := @decide (chk B c) (Classical.propDecidable _)
theorem ckB_t {B : Nat → Nat} {c : Nat} : ckB B c = true ↔ chk B c := by
  unfold ckB
  exact @decide_eq_true_iff _ (Classical.propDecidable _)
/-- what keeps a position from being right: 0 if nothing does -/
noncomputable def rcF (P : Ps) : Nat := if hm P.1 6 ≠ 1 ∨ hm P.1 12 ≠ 1 then 7 else @ite _ (menOk P.1) (Classical.propDecidable _) (@ite _ (rgtOk P) (Classical.propDecidable _) (@ite _ (pstOk P) (Classical.propDecidable _) (if ckB P.1 (1 - P.2.1) = true then 11 else 0) 10) 9) 8
set_option maxHeartbeats 4000000 in
theorem c_readRecord {mc ms : Nat} {M : zM} (hW : zFix M) {T : Nat → Nat} {e p0 : Nat} (h0 : rAt M T e p0) (hp0 : p0 < 2 ^ 17) {Q : zQt} (qb : ∀ k q N, (fdS T e p0 = bad k ∧ 0 < k ∧ k ≤ 6 ∨ ∃ p P, fdS T e p0 = (0, p, P) ∧ rcF P = k ∧ 0 < k ∧ k ≤ 11) → rdF M N q → Q (some (.int (nI k))) N) (qg : ∀ p P N, fdS T e p0 = (0, p, P) → rcF P = 0 → rdF M N p → p ≤ p0 + 200 → rPs N 0 P → Q (some (.int 0)) N) : wX13_readRecord mc ms [.ref 55] M Q := by
  refine ⟨⟨Nat.le_of_ble_eq_true rfl, rfl⟩, fun X l0 l31 l93 => ?_⟩
  refine l0 _ _ _ _ _ ⟨rfl, vX13_readRecord_0 hW ?_⟩
  refine c_readFields hW h0 hp0 (fun k q N hk hk0 hk6 hN => ?_) (fun p P N hf hN hle hP => ?_)
  · exact vkX13_readRecord_4 (hN.1.fix hW) ⟨fun a => absurd ((nI_leI (a := k) (b := 0) (by omega) (by decide)).mp a) (by omega), fun _ => qb k q N (Or.inl ⟨hk, hk0, hk6⟩) hN⟩
  have hWN := hN.1.fix hW
  have h6 := hm_le P.1 6
  have h12 := hm_le P.1 12
  have e6 := nI_eq (a := hm P.1 6) (b := 1) (by omega) (by decide)
  have e12 := nI_eq (a := hm P.1 12) (b := 1) (by omega) (by decide)
  have f31 : (hm P.1 6 ≠ 1 ∨ hm P.1 12 ≠ 1) → X 31 0 0 [] [] N := fun h => l31 _ _ _ _ _ ⟨rfl, vX13_readRecord_31 hWN (qb 7 p N (Or.inr ⟨p, P, hf, by unfold rcF; rw [if_pos h], by omega, by omega⟩) hN)⟩
  have f93 : ∀ k, rcF P = k → 0 < k → k ≤ 11 → X 93 0 0 [] [.int (nI k)] N := fun k h1 h2 h3 => l93 _ _ _ _ _ ⟨rfl, vX13_readRecord_93 hWN (qb k p N (Or.inr ⟨p, P, hf, h1, h2, h3⟩) hN)⟩
  refine vkX13_readRecord_4 hWN ⟨fun _ => c_howMany hWN hP.1 (m := 6) (by omega) (vkX13_readRecord_17 hWN ⟨fun a => c_howMany hWN hP.1 (m := 12) (by omega) (vkX13_readRecord_27 hWN ⟨fun b => ?_, fun b => f31 (Or.inr (fun z => b (e12.mpr z)))⟩), fun a => f31 (Or.inl (fun z => a (e6.mpr z)))⟩), fun a => absurd (by decide) a⟩
  have hk : ¬ (hm P.1 6 ≠ 1 ∨ hm P.1 12 ≠ 1) := by
    have := e6.mp a
    have := e12.mp b
    omega
  refine c_menFit hWN hP.1 (fun h8 => ?_) (fun h8 => vkX13_readRecord_38 hWN ⟨fun _ => f93 8 (by unfold rcF; rw [if_neg hk, if_neg h8]) (by omega) (by omega), fun z => absurd rfl z⟩)
  refine vkX13_readRecord_38 hWN ⟨fun z => absurd z (by decide), fun _ => ?_⟩
  refine c_rightsFit hWN hP (fun h9 => ?_) (fun h9 => vkX13_readRecord_50 hWN ⟨fun _ => f93 9 (by unfold rcF; rw [if_neg hk, if_pos h8, if_neg h9]) (by omega) (by omega), fun z => absurd rfl z⟩)
  refine vkX13_readRecord_50 hWN ⟨fun z => absurd z (by decide), fun _ => ?_⟩
  refine c_passantFits hWN hP (fun h10 => ?_) (fun h10 => vkX13_readRecord_62 hWN ⟨fun _ => f93 10 (by unfold rcF; rw [if_neg hk, if_pos h8, if_pos h9, if_neg h10]) (by omega) (by omega), fun z => absurd rfl z⟩)
  refine vkX13_readRecord_62 hWN ⟨fun z => absurd z (by decide), fun _ => ?_⟩
  have b64 := hP.2.1.2
  rw [show (64 : Int32).toNatClampNeg = 64 from rfl, show N.1 65 64 = nI P.2.1 from hP.2.1.1, show (1 : Int32) - nI P.2.1 = nI (1 - P.2.1) from pk_sub (a := 1) (b := P.2.1) b64]
  refine c_isChecked hWN (p := 0) hP.1 (by omega) (by omega) (fun h11 => ?_) (fun h11 => ?_)
  · refine vkX13_readRecord_84 hWN ⟨fun z => absurd z (by decide), fun _ => f93 11 ?_ (by omega) (by omega)⟩
    unfold rcF; rw [if_neg hk, if_pos h8, if_pos h9, if_pos h10, if_pos (ckB_t.mpr h11)]
  · refine vkX13_readRecord_84 hWN ⟨fun _ => l93 _ _ _ _ _ ⟨rfl, vX13_readRecord_93 hWN (qg p P N hf ?_ hN hle hP)⟩, fun z => absurd rfl z⟩
    unfold rcF; rw [if_neg hk, if_pos h8, if_pos h9, if_pos h10, if_neg (fun z => h11 (ckB_t.mp z))]
