/-! CONSTRUCTORS: the compass -/
def m0 : zM := (fun _ _ => 0, fun _ _ => 0, fun _ _ => none, List.replicate 16 (7, 0))
def m1 : zM := zNew (zNew m0 (0, 11)) (0, 1)
def nwR (M : zM) (e j c n : Nat) : zM := zsR (zNew M (c, n)) e j (some M.2.2.2.length)
def m2 : zM := nwR (nwR (nwR (nwR (nwR (nwR m1 17 0 2 64) 17 1 2 64) 17 2 2 128) 17 3 2 512) 17 4 2 64) 17 5 2 64
theorem c_besideX {mc ms : Nat} {M : zM} {s : Nat} (hs : s < 64) {x y : Int32} {a b : Int} (hx : x = iI a) (hy : y = iI b) (ha : -20 ≤ a ∧ a ≤ 20) (hb : -20 ≤ b ∧ b ≤ 20) {Q : zQt} (hq : ∀ r, (∀ t, t < 64 → (bt r t = true ↔ dF s t = a ∧ dR s t = b)) → Q (some (.long r)) M) : wX1_beside mc ms [.int (nI s), .int x, .int y] M Q := by
  rw [hx, hy]; exact c_beside hs ha hb hq
theorem kn_all : (List.range 64).all (fun s => (List.range 64).all (fun t => (List.range 8).any (fun d => decide (dF s t = kfI d) && decide (dR s t = krI d)) == decide (aI (dF s t) * aI (dR s t) = 2))) = true := by decide +kernel
theorem ki_all : (List.range 64).all (fun s => (List.range 64).all (fun t => (List.range 8).any (fun d => decide (dF s t = fsI d) && decide (dR s t = rsI d)) == (decide (s ≠ t) && (decide (aI (dF s t) < 2) && decide (aI (dR s t) < 2))))) = true := by decide +kernel
theorem any8 {p : Nat → Prop} [DecidablePred p] : ((List.range 8).any (fun d => decide (p d)) = true ↔ ∃ d, d < 8 ∧ p d) := by
  rw [List.any_eq_true]
  exact ⟨fun ⟨d, h1, h2⟩ => ⟨d, List.mem_range.mp h1, of_decide_eq_true h2⟩, fun ⟨d, h1, h2⟩ => ⟨d, List.mem_range.mpr h1, decide_eq_true h2⟩⟩
theorem kn_8 {s t : Nat} (hs : s < 64) (ht : t < 64) : (∃ d, d < 8 ∧ dF s t = kfI d ∧ dR s t = krI d) ↔ knG s t := by
  have h := List.all_eq_true.mp (List.all_eq_true.mp kn_all s (List.mem_range.mpr hs)) t (List.mem_range.mpr ht)
  rw [beq_iff_eq] at h
  have h2 := Bool.eq_iff_iff.mp h
  rw [decide_eq_true_eq, List.any_eq_true] at h2
  unfold knG
  rw [← h2]
  constructor
  · rintro ⟨d, h1, h2, h3⟩
    exact ⟨d, List.mem_range.mpr h1, by rw [Bool.and_eq_true, decide_eq_true_eq, decide_eq_true_eq]; exact ⟨h2, h3⟩⟩
  · rintro ⟨d, h1, h2⟩
    rw [Bool.and_eq_true, decide_eq_true_eq, decide_eq_true_eq] at h2
    exact ⟨d, List.mem_range.mp h1, h2⟩
theorem ki_8 {s t : Nat} (hs : s < 64) (ht : t < 64) : (∃ d, d < 8 ∧ dF s t = fsI d ∧ dR s t = rsI d) ↔ kiG s t := by
  have h := List.all_eq_true.mp (List.all_eq_true.mp ki_all s (List.mem_range.mpr hs)) t (List.mem_range.mpr ht)
  rw [beq_iff_eq] at h
  have h2 := Bool.eq_iff_iff.mp h
  rw [Bool.and_eq_true, Bool.and_eq_true, decide_eq_true_eq, decide_eq_true_eq, decide_eq_true_eq, List.any_eq_true] at h2
  unfold kiG
  rw [← h2]
  constructor
  · rintro ⟨d, h1, h2, h3⟩
    exact ⟨d, List.mem_range.mpr h1, by rw [Bool.and_eq_true, decide_eq_true_eq, decide_eq_true_eq]; exact ⟨h2, h3⟩⟩
  · rintro ⟨d, h1, h2⟩
    rw [Bool.and_eq_true, decide_eq_true_eq, decide_eq_true_eq] at h2
    exact ⟨d, List.mem_range.mp h1, h2⟩
theorem pa_2 {s t : Nat} {b : Int} : ((dF s t = -1 ∧ dR s t = b) ∨ (dF s t = 1 ∧ dR s t = b)) ↔ aI (dF s t) = 1 ∧ dR s t = b := by
  unfold aI
  split <;> omega
theorem cr_4 {s t : Nat} (hs : s < 64) (ht : t < 64) : (ryG 0 s t = true ∨ ryG 1 s t = true) ∨ ryG 4 s t = true ∨ ryG 5 s t = true ↔ s ≠ t ∧ (dF s t = 0 ∨ dR s t = 0) := by
  rw [ray_st (by omega) hs ht, ray_st (by omega) hs ht, ray_st (by omega) hs ht, ray_st (by omega) hs ht]
  rw [show fsI 0 = 1 from rfl, show rsI 0 = 0 from rfl, show fsI 1 = 0 from rfl, show rsI 1 = 1 from rfl, show fsI 4 = -1 from rfl, show rsI 4 = 0 from rfl, show fsI 5 = 0 from rfl, show rsI 5 = -1 from rfl]
  have e1 : dF s t = ((t % 8 : Nat) : Int) - ((s % 8 : Nat) : Int) := rfl
  have e2 : dR s t = ((t / 8 : Nat) : Int) - ((s / 8 : Nat) : Int) := rfl
  constructor
  · rintro ((⟨k, a, b, c, d⟩ | ⟨k, a, b, c, d⟩) | ⟨k, a, b, c, d⟩ | ⟨k, a, b, c, d⟩) <;> omega
  · rintro ⟨hne, h⟩
    by_cases z : dR s t = 0
    · by_cases y : 0 < dF s t
      · exact Or.inl (Or.inl ⟨(dF s t).toNat, by omega, by omega, by omega, by omega⟩)
      · exact Or.inr (Or.inl ⟨(-(dF s t)).toNat, by omega, by omega, by omega, by omega⟩)
    · by_cases y : 0 < dR s t
      · exact Or.inl (Or.inr ⟨(dR s t).toNat, by omega, by omega, by omega, by omega⟩)
      · exact Or.inr (Or.inr ⟨(-(dR s t)).toNat, by omega, by omega, by omega, by omega⟩)
theorem sa_4 {s t : Nat} (hs : s < 64) (ht : t < 64) : (ryG 2 s t = true ∨ ryG 3 s t = true) ∨ ryG 6 s t = true ∨ ryG 7 s t = true ↔ s ≠ t ∧ aI (dF s t) = aI (dR s t) := by
  rw [ray_st (by omega) hs ht, ray_st (by omega) hs ht, ray_st (by omega) hs ht, ray_st (by omega) hs ht]
  rw [show fsI 2 = 1 from rfl, show rsI 2 = 1 from rfl, show fsI 3 = -1 from rfl, show rsI 3 = 1 from rfl, show fsI 6 = -1 from rfl, show rsI 6 = -1 from rfl, show fsI 7 = 1 from rfl, show rsI 7 = -1 from rfl]
  have e1 : dF s t = ((t % 8 : Nat) : Int) - ((s % 8 : Nat) : Int) := rfl
  have e2 : dR s t = ((t / 8 : Nat) : Int) - ((s / 8 : Nat) : Int) := rfl
  have a1 : aI (dF s t) = dF s t ∧ 0 ≤ dF s t ∨ aI (dF s t) = -dF s t ∧ dF s t < 0 := by unfold aI; split <;> omega
  have a2 : aI (dR s t) = dR s t ∧ 0 ≤ dR s t ∨ aI (dR s t) = -dR s t ∧ dR s t < 0 := by unfold aI; split <;> omega
  constructor
  · rintro ((⟨k, a, b, c, d⟩ | ⟨k, a, b, c, d⟩) | ⟨k, a, b, c, d⟩ | ⟨k, a, b, c, d⟩) <;> refine ⟨by omega, ?_⟩ <;> omega
  · rintro ⟨hne, h⟩
    have nz : dF s t ≠ 0 := fun q => hne (by omega)
    by_cases y : 0 < dF s t
    · by_cases z : 0 < dR s t
      · exact Or.inl (Or.inl ⟨(dF s t).toNat, by omega, by omega, by omega, by omega⟩)
      · exact Or.inr (Or.inr ⟨(dF s t).toNat, by omega, by omega, by omega, by omega⟩)
    · by_cases z : 0 < dR s t
      · exact Or.inl (Or.inr ⟨(dR s t).toNat, by omega, by omega, by omega, by omega⟩)
      · exact Or.inr (Or.inl ⟨(-(dF s t)).toNat, by omega, by omega, by omega, by omega⟩)
/-- how the compass stands before direction d of square c -/
def xS (M : zM) (c d : Nat) : Prop := (∀ s t, s < 64 → t < 64 → (bt (M.2.1 18 s) t = true ↔ (s < c ∧ knG s t) ∨ (s = c ∧ ∃ d', d' < d ∧ dF s t = kfI d' ∧ dR s t = krI d'))) ∧ (∀ s t, s < 64 → t < 64 → (bt (M.2.1 19 s) t = true ↔ (s < c ∧ kiG s t) ∨ (s = c ∧ ∃ d', d' < d ∧ dF s t = fsI d' ∧ dR s t = rsI d'))) ∧ (∀ d' s t, d' < 8 → s < 64 → t < 64 → (s < c ∨ (s = c ∧ d' < d)) → bt (M.2.1 21 (64 * d' + s)) t = ryG d' s t) ∧ (∀ b s t, b ≤ 1 → s < c → t < 64 → (bt (M.2.1 20 (64 * b + s)) t = true ↔ paG b s t)) ∧ (∀ s t, s < c → t < 64 → (bt (M.2.1 22 s) t = true ↔ s ≠ t ∧ (dF s t = 0 ∨ dR s t = 0))) ∧ ∀ s t, s < c → t < 64 → (bt (M.2.1 23 s) t = true ↔ s ≠ t ∧ aI (dF s t) = aI (dR s t))
theorem xS.end_ {M : zM} (h : xS M 64 0) : cOk M := by
  obtain ⟨h1, h2, h3, h4, h5, h6⟩ := h
  refine ⟨fun d s hd hs t ht => h3 d s t hd hs ht (Or.inl hs), fun s t hs ht => ?_, fun s t hs ht => ?_, fun c s t hc hs ht => h4 c s t hc hs ht, fun s t hs ht => h5 s t hs ht, fun s t hs ht => h6 s t hs ht⟩
  · rw [h1 s t hs ht]
    exact ⟨fun q => q.elim (fun q => q.2) (fun q => absurd q.1 (by omega)), fun q => Or.inl ⟨hs, q⟩⟩
  · rw [h2 s t hs ht]
    exact ⟨fun q => q.elim (fun q => q.2) (fun q => absurd q.1 (by omega)), fun q => Or.inl ⟨hs, q⟩⟩
