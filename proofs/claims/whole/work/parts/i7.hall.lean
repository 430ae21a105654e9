/-! CONSTRUCTORS: the class's hall -/
theorem m2_refs : ∀ b j, m2.2.2.1 b j = rfL [(17, 5, 23), (17, 4, 22), (17, 3, 21), (17, 2, 20), (17, 1, 19), (17, 0, 18)] b j := by
  have h0 : hZ 16 m0 m0 16 [] [] := ⟨rfl, fun _ _ => rfl, fun _ _ _ _ => rfl, fun _ _ => ⟨rfl, rfl⟩, by decide, by decide⟩
  have h1 : hZ 16 m0 m1 18 [] [] := (h0.new rfl rfl rfl).new rfl rfl rfl
  have h2 := (h1.new (x := (2, 64)) rfl rfl rfl).rR 17 0 18
  have h3 := (h2.new (x := (2, 64)) rfl rfl rfl).rR 17 1 19
  have h4 := (h3.new (x := (2, 128)) rfl rfl rfl).rR 17 2 20
  have h5 := (h4.new (x := (2, 512)) rfl rfl rfl).rR 17 3 21
  have h6 := (h5.new (x := (2, 64)) rfl rfl rfl).rR 17 4 22
  have h7 := (h6.new (x := (2, 64)) rfl rfl rfl).rR 17 5 23
  exact h7.2.1
theorem m2_ints (b i : Nat) : m2.1 b i = 0 := by
  show (if b = _ then (0 : Int32) else if b = _ then 0 else if b = _ then 0 else if b = _ then 0 else if b = _ then 0 else if b = _ then 0 else if b = _ then 0 else if b = _ then 0 else 0) = 0
  repeat (first | rfl | split)
theorem hall0 {K : zM} (s : zSm [18, 19, 20, 21, 22, 23] m2 K) : hZ 24 K K 24 [(17, 5, 23), (17, 4, 22), (17, 3, 21), (17, 2, 20), (17, 1, 19), (17, 0, 18)] [] := by
  refine ⟨by rw [s.1]; rfl, fun b j => by rw [s.1]; exact m2_refs b j, fun b i hb _ => ?_, fun _ _ => ⟨rfl, rfl⟩, by decide, by decide⟩
  rw [s.i (by simp; omega), m2_ints]
  rfl
def rH : List (Nat × Nat × Nat) := [(16, 7, 45), (45, 6, 54), (45, 5, 53), (45, 2, 52), (45, 1, 51), (51, 1, 17), (51, 0, 46), (45, 0, 46), (46, 10, 50), (46, 3, 49), (46, 2, 48), (46, 1, 47), (46, 0, 17), (16, 6, 35), (35, 6, 44), (35, 5, 43), (35, 2, 42), (35, 1, 41), (41, 1, 17), (41, 0, 36), (35, 0, 36), (36, 10, 40), (36, 3, 39), (36, 2, 38), (36, 1, 37), (36, 0, 17), (16, 5, 33), (33, 1, 34), (33, 0, 17), (16, 4, 31), (31, 0, 32), (16, 3, 29), (29, 0, 30), (16, 1, 27), (27, 2, 28), (27, 1, 25), (27, 0, 24), (16, 2, 25), (25, 0, 26), (16, 0, 24), (17, 5, 23), (17, 4, 22), (17, 3, 21), (17, 2, 20), (17, 1, 19), (17, 0, 18)]
/-- the class's hall as it is made -/
def hallS (K : zM) : Prop := K.2.2.2 = zsh0.take 55 ∧ (∀ b j, K.2.2.1 b j = rfL rH b j) ∧ cOk K ∧ (∀ i, K.1 24 i = 0) ∧ K.1 16 8 = 0 ∧ K.1 16 9 = 0 ∧ K.1 16 10 = 0 ∧ K.1 16 11 = -1 ∧ K.1 16 12 = 0
set_option maxHeartbeats 4000000 in
theorem c_hall {x : Int32} {Q : zQt} (hq : ∀ K, hallS K → Q none K) : wX11_init 60 60000 [.ref 16, .int x] (zNew m0 (0, 11)) Q := by
  refine ⟨⟨Nat.le_of_ble_eq_true rfl, rfl⟩, fun X l0 => l0 _ _ _ _ _ ⟨rfl, ⟨Nat.le_of_ble_eq_true rfl, ⟨by decide +kernel, by decide +kernel, ⟨Nat.le_of_ble_eq_true rfl, rfl, 6, 896, by decide +kernel, by decide +kernel, c_compass (Nat.le_refl _) (Nat.le_refl _) (fun K s hC => ?_)⟩⟩⟩⟩⟩
  have h : hZ 24 K K 24 [(17, 5, 23), (17, 4, 22), (17, 3, 21), (17, 2, 20), (17, 1, 19), (17, 0, 18)] [] := hall0 s
  have K0 := K
  clear K0
  revert hq
  generalize hKK : K = K0 at h hC
  intro hq
  clear hKK
  refine A_na h (sz := 8180) (by decide +kernel) (by decide +kernel) (by decide +kernel) rfl rfl rfl rfl (by decide) (by decide +kernel) (by decide +kernel) (fun K h => ?_)
  refine A_new h rfl rfl rfl (by decide +kernel) (by decide +kernel) (fun K h => ?_)
  refine ⟨Nat.le_of_ble_eq_true rfl, rfl, 1, 384, (by decide +kernel), (by decide +kernel), ?_⟩
  refine ⟨⟨Nat.le_of_ble_eq_true rfl, rfl⟩, fun X l0 => l0 _ _ _ _ _ ⟨rfl, ⟨Nat.le_of_ble_eq_true rfl, ?_⟩⟩⟩
  refine A_na h (sz := 384) (by decide +kernel) (by decide +kernel) (by decide +kernel) rfl rfl rfl rfl (by decide) (by decide +kernel) (by decide +kernel) (fun K h => ?_)
  refine A_pr h rfl (by decide) (fun K h => ?_)
  refine A_new h rfl rfl rfl (by decide +kernel) (by decide +kernel) (fun K h => ?_)
  refine A_gR h rfl (by decide) rfl ?_
  refine A_gR h rfl (by decide) rfl ?_
  refine ⟨Nat.le_of_ble_eq_true rfl, rfl, 1, 20, (by decide +kernel), (by decide +kernel), ?_⟩
  refine ⟨⟨Nat.le_of_ble_eq_true rfl, rfl⟩, fun X l0 => l0 _ _ _ _ _ ⟨rfl, ⟨Nat.le_of_ble_eq_true rfl, ?_⟩⟩⟩
  refine A_pr h rfl (by decide) (fun K h => ?_)
  refine A_pr h rfl (by decide) (fun K h => ?_)
  refine A_new h rfl rfl rfl (by decide +kernel) (by decide +kernel) (fun K h => ?_)
  refine ⟨Nat.le_of_ble_eq_true rfl, rfl, 0, 0, (by decide +kernel), (by decide +kernel), ?_⟩
  refine ⟨⟨Nat.le_of_ble_eq_true rfl, rfl⟩, fun X l0 => l0 _ _ _ _ _ ⟨rfl, ⟨Nat.le_of_ble_eq_true rfl, ?_⟩⟩⟩
  refine A_pr h rfl (by decide) (fun K h => ?_)
  refine A_pr h rfl (by decide) (fun K h => ?_)
  refine A_new h rfl rfl rfl (by decide +kernel) (by decide +kernel) (fun K h => ?_)
  refine ⟨Nat.le_of_ble_eq_true rfl, rfl, 1, 104, (by decide +kernel), (by decide +kernel), ?_⟩
  refine ⟨⟨Nat.le_of_ble_eq_true rfl, rfl⟩, fun X l0 => l0 _ _ _ _ _ ⟨rfl, ⟨Nat.le_of_ble_eq_true rfl, ?_⟩⟩⟩
  refine A_na h (sz := 104) (by decide +kernel) (by decide +kernel) (by decide +kernel) rfl rfl rfl rfl (by decide) (by decide +kernel) (by decide +kernel) (fun K h => ?_)
  refine A_pr h rfl (by decide) (fun K h => ?_)
  refine A_new h rfl rfl rfl (by decide +kernel) (by decide +kernel) (fun K h => ?_)
  refine ⟨Nat.le_of_ble_eq_true rfl, rfl, 1, 1920, (by decide +kernel), (by decide +kernel), ?_⟩
  refine ⟨⟨Nat.le_of_ble_eq_true rfl, rfl⟩, fun X l0 => l0 _ _ _ _ _ ⟨rfl, ⟨Nat.le_of_ble_eq_true rfl, ?_⟩⟩⟩
  refine A_na h (sz := 1920) (by decide +kernel) (by decide +kernel) (by decide +kernel) rfl rfl rfl rfl (by decide) (by decide +kernel) (by decide +kernel) (fun K h => ?_)
  refine A_pr h rfl (by decide) (fun K h => ?_)
  refine A_new h rfl rfl rfl (by decide +kernel) (by decide +kernel) (fun K h => ?_)
  refine ⟨Nat.le_of_ble_eq_true rfl, rfl, 1, 6, (by decide +kernel), (by decide +kernel), ?_⟩
  refine ⟨⟨Nat.le_of_ble_eq_true rfl, rfl⟩, fun X l0 => l0 _ _ _ _ _ ⟨rfl, ⟨Nat.le_of_ble_eq_true rfl, ?_⟩⟩⟩
  refine A_pr h rfl (by decide) (fun K h => ?_)
  refine A_na h (sz := 6) (by decide +kernel) (by decide +kernel) (by decide +kernel) rfl rfl rfl rfl (by decide) (by decide +kernel) (by decide +kernel) (fun K h => ?_)
  refine A_pr h rfl (by decide) (fun K h => ?_)
  refine A_new h rfl rfl rfl (by decide +kernel) (by decide +kernel) (fun K h => ?_)
  refine ⟨Nat.le_of_ble_eq_true rfl, rfl, 9, 9000, (by decide +kernel), (by decide +kernel), ?_⟩
  refine ⟨⟨Nat.le_of_ble_eq_true rfl, rfl⟩, fun X l0 => l0 _ _ _ _ _ ⟨rfl, ⟨Nat.le_of_ble_eq_true rfl, ?_⟩⟩⟩
  refine A_new h rfl rfl rfl (by decide +kernel) (by decide +kernel) (fun K h => ?_)
  refine ⟨Nat.le_of_ble_eq_true rfl, rfl, 4, 687, (by decide +kernel), (by decide +kernel), ?_⟩
  refine ⟨⟨Nat.le_of_ble_eq_true rfl, rfl⟩, fun X l0 => l0 _ _ _ _ _ ⟨rfl, ⟨Nat.le_of_ble_eq_true rfl, ?_⟩⟩⟩
  refine A_pr h rfl (by decide) (fun K h => ?_)
  refine A_na h (sz := 64) (by decide +kernel) (by decide +kernel) (by decide +kernel) rfl rfl rfl rfl (by decide) (by decide +kernel) (by decide +kernel) (fun K h => ?_)
  refine A_na h (sz := 13) (by decide +kernel) (by decide +kernel) (by decide +kernel) rfl rfl rfl rfl (by decide) (by decide +kernel) (by decide +kernel) (fun K h => ?_)
  refine A_na h (sz := 2) (by decide +kernel) (by decide +kernel) (by decide +kernel) rfl rfl rfl rfl (by decide) (by decide +kernel) (by decide +kernel) (fun K h => ?_)
  refine A_na h (sz := 608) (by decide +kernel) (by decide +kernel) (by decide +kernel) rfl rfl rfl rfl (by decide) (by decide +kernel) (by decide +kernel) (fun K h => ?_)
  refine A_pr h rfl (by decide) (fun K h => ?_)
  refine A_new h rfl rfl rfl (by decide +kernel) (by decide +kernel) (fun K h => ?_)
  refine A_gR h rfl (by decide) rfl ?_
  refine ⟨Nat.le_of_ble_eq_true rfl, rfl, 0, 0, (by decide +kernel), (by decide +kernel), ?_⟩
  refine ⟨⟨Nat.le_of_ble_eq_true rfl, rfl⟩, fun X l0 => l0 _ _ _ _ _ ⟨rfl, ⟨Nat.le_of_ble_eq_true rfl, ?_⟩⟩⟩
  refine A_pr h rfl (by decide) (fun K h => ?_)
  refine A_pr h rfl (by decide) (fun K h => ?_)
  refine A_pr h rfl (by decide) (fun K h => ?_)
  refine A_na h (sz := 384) (by decide +kernel) (by decide +kernel) (by decide +kernel) rfl rfl rfl rfl (by decide) (by decide +kernel) (by decide +kernel) (fun K h => ?_)
  refine A_na h (sz := 4808) (by decide +kernel) (by decide +kernel) (by decide +kernel) rfl rfl rfl rfl (by decide) (by decide +kernel) (by decide +kernel) (fun K h => ?_)
  refine A_na h (sz := 3005) (by decide +kernel) (by decide +kernel) (by decide +kernel) rfl rfl rfl rfl (by decide) (by decide +kernel) (by decide +kernel) (fun K h => ?_)
  refine A_pr h rfl (by decide) (fun K h => ?_)
  refine A_new h rfl rfl rfl (by decide +kernel) (by decide +kernel) (fun K h => ?_)
  refine ⟨Nat.le_of_ble_eq_true rfl, rfl, 9, 9000, (by decide +kernel), (by decide +kernel), ?_⟩
  refine ⟨⟨Nat.le_of_ble_eq_true rfl, rfl⟩, fun X l0 => l0 _ _ _ _ _ ⟨rfl, ⟨Nat.le_of_ble_eq_true rfl, ?_⟩⟩⟩
  refine A_new h rfl rfl rfl (by decide +kernel) (by decide +kernel) (fun K h => ?_)
  refine ⟨Nat.le_of_ble_eq_true rfl, rfl, 4, 687, (by decide +kernel), (by decide +kernel), ?_⟩
  refine ⟨⟨Nat.le_of_ble_eq_true rfl, rfl⟩, fun X l0 => l0 _ _ _ _ _ ⟨rfl, ⟨Nat.le_of_ble_eq_true rfl, ?_⟩⟩⟩
  refine A_pr h rfl (by decide) (fun K h => ?_)
  refine A_na h (sz := 64) (by decide +kernel) (by decide +kernel) (by decide +kernel) rfl rfl rfl rfl (by decide) (by decide +kernel) (by decide +kernel) (fun K h => ?_)
  refine A_na h (sz := 13) (by decide +kernel) (by decide +kernel) (by decide +kernel) rfl rfl rfl rfl (by decide) (by decide +kernel) (by decide +kernel) (fun K h => ?_)
  refine A_na h (sz := 2) (by decide +kernel) (by decide +kernel) (by decide +kernel) rfl rfl rfl rfl (by decide) (by decide +kernel) (by decide +kernel) (fun K h => ?_)
  refine A_na h (sz := 608) (by decide +kernel) (by decide +kernel) (by decide +kernel) rfl rfl rfl rfl (by decide) (by decide +kernel) (by decide +kernel) (fun K h => ?_)
  refine A_pr h rfl (by decide) (fun K h => ?_)
  refine A_new h rfl rfl rfl (by decide +kernel) (by decide +kernel) (fun K h => ?_)
  refine A_gR h rfl (by decide) rfl ?_
  refine ⟨Nat.le_of_ble_eq_true rfl, rfl, 0, 0, (by decide +kernel), (by decide +kernel), ?_⟩
  refine ⟨⟨Nat.le_of_ble_eq_true rfl, rfl⟩, fun X l0 => l0 _ _ _ _ _ ⟨rfl, ⟨Nat.le_of_ble_eq_true rfl, ?_⟩⟩⟩
  refine A_pr h rfl (by decide) (fun K h => ?_)
  refine A_pr h rfl (by decide) (fun K h => ?_)
  refine A_pr h rfl (by decide) (fun K h => ?_)
  refine A_na h (sz := 384) (by decide +kernel) (by decide +kernel) (by decide +kernel) rfl rfl rfl rfl (by decide) (by decide +kernel) (by decide +kernel) (fun K h => ?_)
  refine A_na h (sz := 4808) (by decide +kernel) (by decide +kernel) (by decide +kernel) rfl rfl rfl rfl (by decide) (by decide +kernel) (by decide +kernel) (fun K h => ?_)
  refine A_na h (sz := 3005) (by decide +kernel) (by decide +kernel) (by decide +kernel) rfl rfl rfl rfl (by decide) (by decide +kernel) (by decide +kernel) (fun K h => ?_)
  refine A_pr h rfl (by decide) (fun K h => ?_)
  have h16 : zsh K 16 = some (0, 11) := h.sh rfl (by decide)
  refine ⟨h16, rfl, ⟨h16, ⟨h16, ⟨h16, ⟨h16, hq _ ⟨h.1, h.2.1, ?_, fun i => ?_, ?_, ?_, ?_, ?_, ?_⟩⟩⟩⟩⟩⟩
  · have j : ∀ b, b < 24 → K.2.1 b = K0.2.1 b := fun b hb => (h.2.2.2.1 b hb).2
    unfold cOk cRay at hC ⊢
    show (∀ d s, d < 8 → s < 64 → ∀ t, t < 64 → bt (K.2.1 21 (64 * d + s)) t = ryG d s t) ∧ (∀ s t, s < 64 → t < 64 → (bt (K.2.1 18 s) t = true ↔ knG s t)) ∧ (∀ s t, s < 64 → t < 64 → (bt (K.2.1 19 s) t = true ↔ kiG s t)) ∧ (∀ c s t, c ≤ 1 → s < 64 → t < 64 → (bt (K.2.1 20 (64 * c + s)) t = true ↔ paG c s t)) ∧ (∀ s t, s < 64 → t < 64 → (bt (K.2.1 22 s) t = true ↔ s ≠ t ∧ (dF s t = 0 ∨ dR s t = 0))) ∧ ∀ s t, s < 64 → t < 64 → (bt (K.2.1 23 s) t = true ↔ s ≠ t ∧ aI (dF s t) = aI (dR s t))
    rw [j 18 (by decide), j 19 (by decide), j 20 (by decide), j 21 (by decide), j 22 (by decide), j 23 (by decide)]
    exact hC
  · rw [zsI_o (by decide), zsI_o (by decide), zsI_o (by decide), zsI_o (by decide), zsI_o (by decide)]
    exact h.2.2.1 24 i (by decide) (by decide)
  · rw [zsI_n (by decide), zsI_n (by decide), zsI_n (by decide), zsI_n (by decide), zsI_s]
  · rw [zsI_n (by decide), zsI_n (by decide), zsI_n (by decide), zsI_s]
  · rw [zsI_n (by decide), zsI_n (by decide), zsI_s]
  · rw [zsI_n (by decide), zsI_s]
  · rw [zsI_s]
