/-! CONSTRUCTORS: steps from a square -/
theorem nvcX1_beside_7 {mc ms : Nat} {X : Nat → zV} {Q : zQt} {M : zM}  {x0 : Int32} {x1 : Int32} {x2 : Int32} {x3 : Int32}   (h : (x3 < 0 → X 37 0 0 [] [] M) ∧ (¬ x3 < 0 → ((7 : Int32) < x3 → X 37 0 0 [] [] M) ∧ (¬ (7 : Int32) < x3 → (((x0 / (8 : Int32)) + x2) < 0 → X 37 0 0 [] [] M) ∧ (¬ ((x0 / (8 : Int32)) + x2) < 0 → (((x0 / (8 : Int32)) + x2) ≤ (7 : Int32) → X 50 0 0 [] [.long ((1 : Int64) <<< (((((x0 / (8 : Int32)) + x2) * (8 : Int32)) + x3).toInt64 &&& 63))] M) ∧ (¬ ((x0 / (8 : Int32)) + x2) ≤ (7 : Int32) → X 37 0 0 [] [] M))))) : kX1_beside_7 mc ms X Q 0 0 [some (.int x0), some (.int x1), some (.int x2), some (.int x3), none] [] M := ⟨by decide, ⟨fun c16 => (h.1 c16), fun c16 => ⟨fun c22 => ((h.2 c16).1 c22), fun c22 => ⟨fun c27 => (((h.2 c16).2 c22).1 c27), fun c27 => ⟨fun c34 => ((((h.2 c16).2 c22).2 c27).1 c34), fun c34 => ((((h.2 c16).2 c22).2 c27).2 c34)⟩⟩⟩⟩⟩
theorem nvX1_beside_0 {mc ms : Nat} {X : Nat → zV} {Q : zQt} {M : zM}  {x0 : Int32} {x1 : Int32} {x2 : Int32}   (h : ∀ y6 : Int32, y6 = ((x0 - x0 / (8 : Int32) * (8 : Int32)) + x1) → (y6 < 0 → X 37 0 0 [] [] M) ∧ (¬ y6 < 0 → ((7 : Int32) < y6 → X 37 0 0 [] [] M) ∧ (¬ (7 : Int32) < y6 → (((x0 / (8 : Int32)) + x2) < 0 → X 37 0 0 [] [] M) ∧ (¬ ((x0 / (8 : Int32)) + x2) < 0 → (((x0 / (8 : Int32)) + x2) ≤ (7 : Int32) → X 50 0 0 [] [.long ((1 : Int64) <<< (((((x0 / (8 : Int32)) + x2) * (8 : Int32)) + y6).toInt64 &&& 63))] M) ∧ (¬ ((x0 / (8 : Int32)) + x2) ≤ (7 : Int32) → X 37 0 0 [] [] M))))) : aX1_beside_0 mc ms X Q 0 0 [some (.int x0), some (.int x1), some (.int x2), none, none] [] M := ⟨by decide, (fun y6 e6 => have h6 := h y6 e6; (nvcX1_beside_7  h6))⟩
theorem nvX1_beside_37 {mc ms : Nat} {X : Nat → zV} {Q : zQt} {M : zM}     (h : X 50 0 0 [] [.long 0] M) : aX1_beside_37 mc ms X Q 0 0 [none, none, none, none, none] [] M := h
theorem nvX1_beside_50 {mc ms : Nat} {X : Nat → zV} {Q : zQt} {M : zM}  {s0 : Int64}   (h : Q (some (.long s0)) M) : aX1_beside_50 mc ms X Q 0 0 [none, none, none, none, none] [.long s0] M := h
theorem nvX1_wholeRay_0 {mc ms : Nat} {X : Nat → zV} {Q : zQt} {M : zM}  {x0 : Int32} {x1 : Int32}   (h : X 5 0 0 [.int x0, .int x1, .long 0, .int 1] [] M) : aX1_wholeRay_0 mc ms X Q 0 0 [some (.int x0), some (.int x1), none, none, none] [] M := h
theorem nvX1_wholeRay_5 {mc ms : Nat} {X : Nat → zV} {Q : zQt} {M : zM}  {x0 : Int32} {x1 : Int32} {x2 : Int64} {x4 : Int32}   (h : ((8 : Int32) ≤ x4 → Q (some (.long x2)) M) ∧ (¬ (8 : Int32) ≤ x4 → vp_in x1 8 ∧ vp_in x1 8 ∧ wX1_beside 0 0 [.int x0, .int (((zstn 0).2.2.getD (x1 : Int32).toNatClampNeg 0) * x4), .int (((zstn 1).2.2.getD (x1 : Int32).toNatClampNeg 0) * x4)] M (fun r M1 => kX1_wholeRay_33 mc ms X Q 0 0 [some (.int x0), some (.int x1), some (.long x2), none, some (.int x4)] (r.toList ++ [.long x2]) M1))) : aX1_wholeRay_5 mc ms X Q 0 0 [some (.int x0), some (.int x1), some (.long x2), none, some (.int x4)] [] M := ⟨fun c9 => (h.1 c9), fun c9 => ⟨rfl, (h.2 c9).1, ⟨rfl, (h.2 c9).2.1, ⟨Nat.le_of_ble_eq_true rfl, rfl, 0, 0, Nat.zero_le _, Nat.zero_le _, (h.2 c9).2.2⟩⟩⟩⟩
theorem nvkX1_wholeRay_33 {mc ms : Nat} {X : Nat → zV} {Q : zQt} {M : zM}  {x0 : Int32} {x1 : Int32} {x2 : Int64} {x4 : Int32} {s0 : Int64} {s1 : Int64}   (h : X 5 0 0 [.int x0, .int x1, .long (s1 ||| s0), .int (x4 + 1)] [] M) : kX1_wholeRay_33 mc ms X Q 0 0 [some (.int x0), some (.int x1), some (.long x2), none, some (.int x4)] [.long s0, .long s1] M := h
def fsI (d : Nat) : Int := [1, 0, 1, -1, -1, 0, -1, 1].getD d 0
def rsI (d : Nat) : Int := [0, 1, 1, 1, 0, -1, -1, -1].getD d 0
def kfI (d : Nat) : Int := [1, 2, 2, 1, -1, -2, -2, -1].getD d 0
def krI (d : Nat) : Int := [2, 1, -1, -2, -2, -1, 1, 2].getD d 0
theorem st_all : (List.range 8).all (fun d => decide ((zstn 0).2.2.getD d 0 = iI (fsI d)) && decide ((zstn 1).2.2.getD d 0 = iI (rsI d)) && decide ((zstn 2).2.2.getD d 0 = iI (kfI d)) && decide ((zstn 3).2.2.getD d 0 = iI (krI d)) && (decide (-2 ≤ fsI d ∧ fsI d ≤ 2) && decide (-2 ≤ rsI d ∧ rsI d ≤ 2) && decide (-2 ≤ kfI d ∧ kfI d ≤ 2) && decide (-2 ≤ krI d ∧ krI d ≤ 2))) = true := by decide +kernel
theorem st_of {d : Nat} (hd : d < 8) : ((zstn 0).2.2.getD d 0 = iI (fsI d) ∧ (zstn 1).2.2.getD d 0 = iI (rsI d) ∧ (zstn 2).2.2.getD d 0 = iI (kfI d) ∧ (zstn 3).2.2.getD d 0 = iI (krI d)) ∧ (-2 ≤ fsI d ∧ fsI d ≤ 2) ∧ (-2 ≤ rsI d ∧ rsI d ≤ 2) ∧ (-2 ≤ kfI d ∧ kfI d ≤ 2) ∧ (-2 ≤ krI d ∧ krI d ≤ 2) := by
  have h := List.all_eq_true.mp st_all d (List.mem_range.mpr hd)
  simp only [Bool.and_eq_true, decide_eq_true_eq] at h
  obtain ⟨⟨⟨⟨a, b⟩, c⟩, e⟩, ⟨⟨f, g⟩, i⟩, j⟩ := h
  exact ⟨⟨a, b, c, e⟩, f, g, i, j⟩
theorem c_beside {mc ms : Nat} {M : zM} {s : Nat} (hs : s < 64) {a b : Int} (ha : -20 ≤ a ∧ a ≤ 20) (hb : -20 ≤ b ∧ b ≤ 20) {Q : zQt} (hq : ∀ r, (∀ t, t < 64 → (bt r t = true ↔ dF s t = a ∧ dR s t = b)) → Q (some (.long r)) M) : wX1_beside mc ms [.int (nI s), .int (iI a), .int (iI b)] M Q := by
  refine ⟨⟨Nat.le_of_ble_eq_true rfl, rfl⟩, fun X l0 l37 l50 => l0 _ _ _ _ _ ⟨rfl, nvX1_beside_0 (fun y6 e6 => ?_)⟩⟩
  have e8 : nI s - nI s / (8 : Int32) * (8 : Int32) = nI (s % 8) := pk_rem (d := 8) (by omega) (by decide) (by decide)
  rw [e8, iI_nat, iI_add] at e6
  have er : nI s / (8 : Int32) + iI b = iI ((s / 8 : Nat) + b) := by
    rw [show nI s / (8 : Int32) = nI (s / 8) from pk_div (d := 8) (by omega) (by decide) (by decide), iI_nat, iI_add]
  have f50 : ∀ r, (∀ t, t < 64 → (bt r t = true ↔ dF s t = a ∧ dR s t = b)) → X 50 0 0 [] [.long r] M := fun r h => l50 _ _ _ _ _ ⟨rfl, nvX1_beside_50 (hq r h)⟩
  have f37 : ¬ (0 ≤ ((s % 8 : Nat) : Int) + a ∧ ((s % 8 : Nat) : Int) + a ≤ 7 ∧ 0 ≤ ((s / 8 : Nat) : Int) + b ∧ ((s / 8 : Nat) : Int) + b ≤ 7) → X 37 0 0 [] [] M := fun h => by
    refine l37 _ _ _ _ _ ⟨rfl, nvX1_beside_37 (f50 0 (fun t ht => ?_))⟩
    rw [bt_0]
    refine ⟨fun q => absurd q (by decide), fun ⟨q1, q2⟩ => absurd ?_ h⟩
    unfold dF at q1
    unfold dR at q2
    omega
  rw [e6, er]
  have lt0 : ∀ z : Int, -100 ≤ z → z ≤ 100 → (iI z < 0 ↔ z < 0) := fun z h1 h2 => iI_lt (b := 0) (by omega) (by omega) (by omega) (by omega)
  have gt7 : ∀ z : Int, -100 ≤ z → z ≤ 100 → ((7 : Int32) < iI z ↔ 7 < z) := fun z h1 h2 => iI_lt (a := 7) (by omega) (by omega) (by omega) (by omega)
  have le7 : ∀ z : Int, -100 ≤ z → z ≤ 100 → (iI z ≤ (7 : Int32) ↔ z ≤ 7) := fun z h1 h2 => iI_le (b := 7) (by omega) (by omega) (by omega) (by omega)
  refine ⟨fun c => f37 (fun q => ?_), fun c1 => ⟨fun c => f37 (fun q => ?_), fun c2 => ⟨fun c => f37 (fun q => ?_), fun c3 => ⟨fun c4 => ?_, fun c => f37 (fun q => ?_)⟩⟩⟩⟩
  · have := (lt0 _ (by omega) (by omega)).mp c; omega
  · have := (gt7 _ (by omega) (by omega)).mp c; omega
  · have := (lt0 _ (by omega) (by omega)).mp c; omega
  · have c1 : ¬ ((s % 8 : Nat) : Int) + a < 0 := fun q => c1 ((lt0 _ (by omega) (by omega)).mpr q)
    have c2 : ¬ 7 < ((s % 8 : Nat) : Int) + a := fun q => c2 ((gt7 _ (by omega) (by omega)).mpr q)
    have c3 : ¬ ((s / 8 : Nat) : Int) + b < 0 := fun q => c3 ((lt0 _ (by omega) (by omega)).mpr q)
    have c4 := (le7 _ (by omega) (by omega)).mp c4
    obtain ⟨f, hf⟩ : ∃ f : Nat, (f : Int) = ((s % 8 : Nat) : Int) + a := ⟨(((s % 8 : Nat) : Int) + a).toNat, by omega⟩
    obtain ⟨k, hk⟩ : ∃ k : Nat, (k : Int) = ((s / 8 : Nat) : Int) + b := ⟨(((s / 8 : Nat) : Int) + b).toNat, by omega⟩
    rw [← hf, ← hk]
    have e1 : iI (k : Int) * (8 : Int32) + iI (f : Int) = nI (k * 8 + f) := by
      rw [show iI (k : Int) * (8 : Int32) = nI (k * 8) from pk_mul k 8]
      exact nI_add _ _
    rw [e1]
    refine f50 _ (fun t ht => ?_)
    rw [bt_one (by omega), decide_eq_true_eq]
    unfold dF dR
    omega
  · have := mt (le7 _ (by omega) (by omega)).mpr c
    omega
theorem ray_all : (List.range 8).all (fun d => (List.range 64).all (fun s => (List.range 64).all (fun t => ryG d s t == (List.range 7).any (fun k => decide (dF s t = fsI d * ((k + 1 : Nat) : Int)) && decide (dR s t = rsI d * ((k + 1 : Nat) : Int)))))) = true := by decide +kernel
theorem ray_st {d s t : Nat} (hd : d < 8) (hs : s < 64) (ht : t < 64) : ryG d s t = true ↔ ∃ k : Nat, 1 ≤ k ∧ k < 8 ∧ dF s t = fsI d * (k : Int) ∧ dR s t = rsI d * (k : Int) := by
  have h := List.all_eq_true.mp (List.all_eq_true.mp (List.all_eq_true.mp ray_all d (List.mem_range.mpr hd)) s (List.mem_range.mpr hs)) t (List.mem_range.mpr ht)
  rw [beq_iff_eq] at h
  rw [h, List.any_eq_true]
  constructor
  · rintro ⟨k, hk, q⟩
    rw [Bool.and_eq_true, decide_eq_true_eq, decide_eq_true_eq] at q
    have := List.mem_range.mp hk
    exact ⟨k + 1, by omega, by omega, q.1, q.2⟩
  · rintro ⟨k, k1, k8, q1, q2⟩
    refine ⟨k - 1, List.mem_range.mpr (by omega), ?_⟩
    rw [Bool.and_eq_true, decide_eq_true_eq, decide_eq_true_eq, show k - 1 + 1 = k by omega]
    exact ⟨q1, q2⟩
