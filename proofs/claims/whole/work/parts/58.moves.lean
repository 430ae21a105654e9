/-! THE REFERENCE'S readMoves: the moves behind the record -/
theorem dg_bd {T : Nat → Nat} {e : Nat} : ∀ (k p v : Nat), ∃ j, j ≤ k ∧ (dg T e k p v).1 = p + j ∧ (dg T e k p v).2 < 10 ^ j * (v + 1)
  | 0, p, v => ⟨0, Nat.le_refl _, rfl, by show v < 10 ^ 0 * (v + 1); omega⟩
  | k + 1, p, v => by
    unfold dg
    split
    · obtain ⟨j, j1, j2, j3⟩ := dg_bd (T := T) (e := e) k (p + 1) (10 * v + (pk T e p - 48))
      refine ⟨j + 1, by omega, by omega, Nat.lt_of_lt_of_le j3 ?_⟩
      rw [Nat.pow_succ, Nat.mul_assoc]
      exact Nat.mul_le_mul_left _ (by omega)
    · exact ⟨0, Nat.zero_le _, rfl, by show v < 10 ^ 0 * (v + 1); omega⟩
theorem nmS_bd {T : Nat → Nat} {e most p : Nat} {x : Nat × Nat} (h : nmS T e most p = some x) : x.2 < 10 ^ most ∧ p ≤ x.1 := by
  unfold nmS at h
  obtain ⟨j, j1, j2, j3⟩ := dg_bd (T := T) (e := e) (most + 1) p 0
  split at h
  · exact absurd h (by simp)
  · rename_i hn
    have e1 := Option.some.inj h
    rw [e1] at j2 j3 hn
    have hj : j ≤ most := by omega
    refine ⟨Nat.lt_of_lt_of_le j3 ?_, by omega⟩
    rw [Nat.zero_add, Nat.mul_one]
    exact Nat.pow_le_pow_right (by decide) hj
theorem fdS_C {T : Nat → Nat} {e p p' : Nat} {P : Ps} (h : fdS T e p = (0, p', P)) : psC 0 P := by
  have nb : ∀ k, 0 < k → ¬ bad k = (0, p', P) := fun k hk q => by
    have := congrArg Prod.fst q
    have : k = 0 := this
    omega
  unfold fdS at h
  split at h
  · exact absurd h (nb 1 (by decide))
  split at h
  rotate_left
  · exact absurd h (nb 1 (by decide))
  unfold fd2 at h
  split at h
  rotate_left
  · exact absurd h (nb 2 (by decide))
  unfold fd3 at h
  split at h
  · exact absurd h (nb 3 (by decide))
  split at h
  rotate_left
  · exact absurd h (nb 3 (by decide))
  unfold fd4 at h
  split at h
  · exact absurd h (nb 4 (by decide))
  split at h
  rotate_left
  · exact absurd h (nb 4 (by decide))
  unfold fd5 at h
  split at h
  · exact absurd h (nb 5 (by decide))
  rename_i x5 h5
  split at h
  rotate_left
  · exact absurd h (nb 5 (by decide))
  unfold fd6 at h
  split at h
  · exact absurd h (nb 6 (by decide))
  rename_i x6 h6
  split at h
  · exact absurd h (nb 6 (by decide))
  have b5 := (nmS_bd h5).1
  have b6 := (nmS_bd h6).1
  have hP := congrArg (fun z => z.2.2) h
  have hP : _ = P := hP
  rw [← hP]
  exact ⟨by show x5.2 ≤ 1000 + 0; omega, by show x6.2 ≤ 10000 + 0; omega⟩
/-- where a word ends -/
def wE (T : Nat → Nat) (e : Nat) : Nat → Nat → Nat
  | 0, p => p
  | f + 1, p => if p < e ∧ T p ≠ 32 then wE T e f (p + 1) else p
theorem wE_bd {T : Nat → Nat} {e : Nat} : ∀ (r q : Nat), q + r = e → q ≤ wE T e r q ∧ wE T e r q ≤ e
  | 0, q, h => by unfold wE; omega
  | r + 1, q, h => by
    unfold wE
    split
    · have := wE_bd (T := T) (e := e) r (q + 1) (by omega)
      omega
    · omega
theorem fdL_bd {P : Ps} {T : Nat → Nat} {form a bare n : Nat} : ∀ (L : List Nat) (w : Nat), w ≤ 24 → 22 ≤ w → (∃ m ∈ L, fdL P T form a bare n L w = (m : Int)) ∨ ∃ k : Nat, 22 ≤ k ∧ k ≤ 24 ∧ fdL P T form a bare n L w = -(k : Int)
  | [], w, h, h2 => Or.inr ⟨w, h2, h, rfl⟩
  | m :: t, w, h, h2 => by
    have lift : ∀ x, (∃ m ∈ t, x = (m : Int)) ∨ (∃ k : Nat, 22 ≤ k ∧ k ≤ 24 ∧ x = -(k : Int)) → (∃ u ∈ m :: t, x = (u : Int)) ∨ (∃ k : Nat, 22 ≤ k ∧ k ≤ 24 ∧ x = -(k : Int)) := by
      intro x hx
      rcases hx with ⟨u, hu, hv⟩ | q
      · exact Or.inl ⟨u, List.mem_cons_of_mem _ hu, hv⟩
      · exact Or.inr q
    unfold fdL
    split
    · split
      · split
        · exact Or.inl ⟨m, List.mem_cons_self, rfl⟩
        · exact lift _ (fdL_bd t 24 (by omega) (by omega))
      · exact lift _ (fdL_bd t _ (by split <;> omega) (by split <;> omega))
    · exact lift _ (fdL_bd t w h h2)
theorem fnS_bd (P : Ps) (T : Nat → Nat) (a n : Nat) : (∃ m ∈ mvs P, fnS P T a n = (m : Int)) ∨ ∃ k : Nat, 21 ≤ k ∧ k ≤ 24 ∧ fnS P T a n = -(k : Int) := by
  unfold fnS
  split
  · exact Or.inr ⟨21, by omega, by omega, rfl⟩
  · rcases fdL_bd (P := P) (T := T) (form := fmS T a (fnB T a n)) (a := a) (bare := fnB T a n) (n := n) (mvs P) 22 (by omega) (by omega) with q | ⟨k, k1, k2, q⟩
    · exact Or.inl q
    · exact Or.inr ⟨k, by omega, k2, q⟩
/-- a game: how many positions, which, and the moves to them -/
abbrev Gm : Type := Nat × (Nat → Ps) × (Nat → Int32)
def lst (G : Gm) : Ps := G.2.1 (G.1 - 1)
noncomputable def vdG (G : Gm) : Nat := vdt (lst G) (cnt G.2.1 (G.1 - 1))
abbrev ended (v : Nat) : Prop := 0 < v ∧ v < 6
noncomputable def gmN (G : Gm) (m : Nat) : Gm := (G.1 + 1, updP G.2.1 G.1 (mkM (lst G) m), upd G.2.2 G.1 (nI m))
noncomputable def wdS (T : Nat → Nat) (e p : Nat) (G : Gm) : Int := if ended (vdG G) ∨ G.1 = 601 then -20 else fnS (lst G) T (p + 1) (wE T e (e - (p + 1)) (p + 1) - (p + 1))
noncomputable def rmS (T : Nat → Nat) (e : Nat) : Nat → Nat → Gm → Nat × Gm
  | 0, _, G => (0, G)
  | f + 1, p, G => if p < e then (if wdS T e p G < 0 then ((- wdS T e p G).toNat, G) else rmS T e f (wE T e (e - (p + 1)) (p + 1)) (gmN G (wdS T e p G).toNat)) else (0, G)
/-- a right game -/
def gmOk (G : Gm) : Prop := 0 < G.1 ∧ G.1 ≤ 601 ∧ (∀ i, i < G.1 → Gd (G.2.1 i) ∧ psC i (G.2.1 i)) ∧ ∀ i, i + 1 < G.1 → ∃ m ∈ mvs (G.2.1 i), G.2.1 (i + 1) = mkM (G.2.1 i) m ∧ G.2.2 (i + 1) = nI m
theorem gmOk.last {G : Gm} (h : gmOk G) : Gd (lst G) ∧ psC (G.1 - 1) (lst G) := h.2.2.1 (G.1 - 1) (by have := h.1; omega)
theorem gmOk.next {G : Gm} (h : gmOk G) (hn : G.1 < 601) {m : Nat} (hm : m ∈ mvs (lst G)) : gmOk (gmN G m) := by
  obtain ⟨h1, h2, h3, h4⟩ := h
  have hl := h3 (G.1 - 1) (by omega)
  refine ⟨by show 0 < G.1 + 1; omega, by show G.1 + 1 ≤ 601; omega, fun i hi => ?_, fun i hi => ?_⟩
  · have hi : i < G.1 + 1 := hi
    show Gd (updP G.2.1 G.1 (mkM (lst G) m) i) ∧ psC i (updP G.2.1 G.1 (mkM (lst G) m) i)
    by_cases q : i = G.1
    · rw [q, updP_s]
      refine ⟨Gd_mk hl.1 hl.2 (by omega) (mvs_mvK hm), ?_⟩
      have := psC_mk (hl.1.1.2.1) hl.2 (m % 64) (m / 64 % 64) (m / 4096)
      rw [show G.1 - 1 + 1 = G.1 by omega] at this
      exact this
    · rw [updP_n q]
      exact h3 i (by omega)
  · have hi : i + 1 < G.1 + 1 := hi
    by_cases q : i + 1 = G.1
    · refine ⟨m, ?_, ?_, ?_⟩
      · show m ∈ mvs (updP G.2.1 G.1 _ i)
        rw [updP_n (by omega)]
        have : i = G.1 - 1 := by omega
        rw [this]
        exact hm
      · show updP G.2.1 G.1 _ (i + 1) = mkM (updP G.2.1 G.1 _ i) m
        rw [q, updP_s, updP_n (by omega)]
        have : i = G.1 - 1 := by omega
        rw [this]
        rfl
      · show upd G.2.2 G.1 (nI m) (i + 1) = nI m
        rw [q]
        unfold upd
        rw [if_pos rfl]
    · obtain ⟨m', e1, e2, e3⟩ := h4 i (by omega)
      refine ⟨m', ?_, ?_, ?_⟩
      · show m' ∈ mvs (updP G.2.1 G.1 _ i)
        rw [updP_n (by omega)]
        exact e1
      · show updP G.2.1 G.1 _ (i + 1) = mkM (updP G.2.1 G.1 _ i) m'
        rw [updP_n q, updP_n (by omega)]
        exact e2
      · show upd G.2.2 G.1 (nI m) (i + 1) = nI m'
        unfold upd
        rw [if_neg q]
        exact e3
theorem gmOk.fit {G : Gm} (h : gmOk G) : psFit (lst G) := Gd_fit h.last.1 h.last.2 (by have := h.2.1; omega)
theorem gmOk.sm {G : Gm} (h : gmOk G) : psSm (lst G) := psC_sm h.last.2 (by have := h.2.1; omega)
/-- rows of the games are as they were -/
theorem rGm_sm {L : List Nat} {M N : zM} (h : zSm L M N) (hL : ∀ b, 57 ≤ b → b ≤ 64 → b ∉ L) {g n : Nat} {ps : Nat → Ps} {mv : Nat → Int32} (hG : rGm M g n ps mv) : rGm N g n ps mv := by
  unfold rGm rEnt at hG ⊢
  rw [h.i (hL 57 (by decide) (by decide)), h.i (hL 58 (by decide) (by decide)), h.i (hL 59 (by decide) (by decide)), h.i (hL 60 (by decide) (by decide)), h.i (hL 61 (by decide) (by decide)), h.i (hL 62 (by decide) (by decide)), h.i (hL 63 (by decide) (by decide)), h.i (hL 64 (by decide) (by decide))]
  exact hG
theorem rSh_sm {L : List Nat} {M N : zM} (h : zSm L M N) (hL : ∀ b, 65 ≤ b → b ≤ 67 → b ∉ L) {P : Ps} (hS : rSh M P) : rSh N P := by
  unfold rSh rPs rBd at hS ⊢
  rw [h.i (hL 65 (by decide) (by decide)), h.i (hL 66 (by decide) (by decide)), h.i (hL 67 (by decide) (by decide))]
  exact hS
