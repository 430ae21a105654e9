/-! CONSTRUCTORS: the class's hall -/
set_option maxHeartbeats 4000000 in
set_option maxRecDepth 4000 in
theorem c_hall {x : Int32} {Q : zQt} (hq : ∀ K : zM, K.2.2.2 = zsh0.take 55 → Q none K) : wX11_init 60 60000 [.ref 16, .int x] (zNew m0 (0, 11)) Q := by
  refine ⟨⟨Nat.le_of_ble_eq_true rfl, rfl⟩, fun X l0 => l0 _ _ _ _ _ ⟨rfl, ⟨Nat.le_of_ble_eq_true rfl, ⟨by decide +kernel, by decide +kernel, ⟨Nat.le_of_ble_eq_true rfl, rfl, 6, 896, by decide +kernel, by decide +kernel, c_compass (Nat.le_refl _) (Nat.le_refl _) (fun K s hC => ?_)⟩⟩⟩⟩⟩
  obtain ⟨I, J, q⟩ := K
  have e : q = m2.2.2 := s.1
  subst e
  refine ⟨by decide +kernel, by decide +kernel, by decide +kernel, by decide +kernel, ⟨rfl, ⟨by decide +kernel, by decide +kernel, ⟨Nat.le_of_ble_eq_true rfl, rfl, 1, 384, by decide +kernel, by decide +kernel, ?_⟩⟩⟩⟩
  refine ⟨⟨Nat.le_of_ble_eq_true rfl, rfl⟩, fun X l0 => l0 _ _ _ _ _ ⟨rfl, ⟨Nat.le_of_ble_eq_true rfl, ⟨by decide +kernel, by decide +kernel, by decide +kernel, by decide +kernel, ⟨rfl, ?_⟩⟩⟩⟩⟩
  refine ⟨rfl, ⟨by decide +kernel, by decide +kernel, ⟨rfl, 24, rfl, ⟨rfl, 25, rfl, ⟨Nat.le_of_ble_eq_true rfl, rfl, 1, 20, by decide +kernel, by decide +kernel, ?_⟩⟩⟩⟩⟩
  refine ⟨⟨Nat.le_of_ble_eq_true rfl, rfl⟩, fun X l0 => l0 _ _ _ _ _ ⟨rfl, ⟨Nat.le_of_ble_eq_true rfl, ⟨rfl, ⟨rfl, ⟨by decide +kernel, by decide +kernel, ⟨Nat.le_of_ble_eq_true rfl, rfl, 0, 0, by decide +kernel, by decide +kernel, ?_⟩⟩⟩⟩⟩⟩⟩
  refine ⟨⟨Nat.le_of_ble_eq_true rfl, rfl⟩, fun X l0 => l0 _ _ _ _ _ ⟨rfl, ⟨Nat.le_of_ble_eq_true rfl, ?_⟩⟩⟩
  refine ⟨rfl, ?_⟩
  refine ⟨rfl, ⟨by decide +kernel, by decide +kernel, ⟨Nat.le_of_ble_eq_true rfl, rfl, 1, 104, by decide +kernel, by decide +kernel, ?_⟩⟩⟩
  refine ⟨⟨Nat.le_of_ble_eq_true rfl, rfl⟩, fun X l0 => l0 _ _ _ _ _ ⟨rfl, ⟨Nat.le_of_ble_eq_true rfl, ⟨by decide +kernel, by decide +kernel, by decide +kernel, by decide +kernel, ⟨rfl, ?_⟩⟩⟩⟩⟩
  refine ⟨rfl, ⟨by decide +kernel, by decide +kernel, ⟨Nat.le_of_ble_eq_true rfl, rfl, 1, 1920, by decide +kernel, by decide +kernel, ?_⟩⟩⟩
  refine ⟨⟨Nat.le_of_ble_eq_true rfl, rfl⟩, fun X l0 => l0 _ _ _ _ _ ⟨rfl, ⟨Nat.le_of_ble_eq_true rfl, ⟨by decide +kernel, by decide +kernel, by decide +kernel, by decide +kernel, ⟨rfl, ?_⟩⟩⟩⟩⟩
  refine ⟨rfl, ⟨by decide +kernel, by decide +kernel, ⟨Nat.le_of_ble_eq_true rfl, rfl, 1, 6, by decide +kernel, by decide +kernel, ?_⟩⟩⟩
  refine ⟨⟨Nat.le_of_ble_eq_true rfl, rfl⟩, fun X l0 => l0 _ _ _ _ _ ⟨rfl, ⟨Nat.le_of_ble_eq_true rfl, ⟨rfl, ⟨by decide +kernel, by decide +kernel, by decide +kernel, by decide +kernel, ⟨rfl, ?_⟩⟩⟩⟩⟩⟩
  refine ⟨rfl, ⟨by decide +kernel, by decide +kernel, ⟨Nat.le_of_ble_eq_true rfl, rfl, 9, 9000, by decide +kernel, by decide +kernel, ?_⟩⟩⟩
  refine ⟨⟨Nat.le_of_ble_eq_true rfl, rfl⟩, fun X l0 => l0 _ _ _ _ _ ⟨rfl, ⟨Nat.le_of_ble_eq_true rfl, ⟨by decide +kernel, by decide +kernel, ⟨Nat.le_of_ble_eq_true rfl, rfl, 4, 687, by decide +kernel, by decide +kernel, ?_⟩⟩⟩⟩⟩
  refine ⟨⟨Nat.le_of_ble_eq_true rfl, rfl⟩, fun X l0 => l0 _ _ _ _ _ ⟨rfl, ⟨Nat.le_of_ble_eq_true rfl, ⟨rfl, ⟨by decide +kernel, by decide +kernel, by decide +kernel, by decide +kernel, ⟨rfl, ⟨by decide +kernel, by decide +kernel, by decide +kernel, by decide +kernel, ⟨rfl, ⟨by decide +kernel, by decide +kernel, by decide +kernel, by decide +kernel, ⟨rfl, ⟨by decide +kernel, by decide +kernel, by decide +kernel, by decide +kernel, ⟨rfl, ?_⟩⟩⟩⟩⟩⟩⟩⟩⟩⟩⟩⟩
  refine ⟨rfl, ⟨by decide +kernel, by decide +kernel, ⟨rfl, _, rfl, ⟨Nat.le_of_ble_eq_true rfl, rfl, 0, 0, by decide +kernel, by decide +kernel, ?_⟩⟩⟩⟩
  refine ⟨⟨Nat.le_of_ble_eq_true rfl, rfl⟩, fun X l0 => l0 _ _ _ _ _ ⟨rfl, ⟨Nat.le_of_ble_eq_true rfl, ⟨rfl, ⟨rfl, ?_⟩⟩⟩⟩⟩
  refine ⟨rfl, ⟨by decide +kernel, by decide +kernel, by decide +kernel, by decide +kernel, ⟨rfl, ⟨by decide +kernel, by decide +kernel, by decide +kernel, by decide +kernel, ⟨rfl, ⟨by decide +kernel, by decide +kernel, by decide +kernel, by decide +kernel, ⟨rfl, ?_⟩⟩⟩⟩⟩⟩⟩
  refine ⟨rfl, ⟨by decide +kernel, by decide +kernel, ⟨Nat.le_of_ble_eq_true rfl, rfl, 9, 9000, by decide +kernel, by decide +kernel, ?_⟩⟩⟩
  refine ⟨⟨Nat.le_of_ble_eq_true rfl, rfl⟩, fun X l0 => l0 _ _ _ _ _ ⟨rfl, ⟨Nat.le_of_ble_eq_true rfl, ⟨by decide +kernel, by decide +kernel, ⟨Nat.le_of_ble_eq_true rfl, rfl, 4, 687, by decide +kernel, by decide +kernel, ?_⟩⟩⟩⟩⟩
  refine ⟨⟨Nat.le_of_ble_eq_true rfl, rfl⟩, fun X l0 => l0 _ _ _ _ _ ⟨rfl, ⟨Nat.le_of_ble_eq_true rfl, ⟨rfl, ⟨by decide +kernel, by decide +kernel, by decide +kernel, by decide +kernel, ⟨rfl, ⟨by decide +kernel, by decide +kernel, by decide +kernel, by decide +kernel, ⟨rfl, ⟨by decide +kernel, by decide +kernel, by decide +kernel, by decide +kernel, ⟨rfl, ⟨by decide +kernel, by decide +kernel, by decide +kernel, by decide +kernel, ⟨rfl, ?_⟩⟩⟩⟩⟩⟩⟩⟩⟩⟩⟩⟩
  refine ⟨rfl, ⟨by decide +kernel, by decide +kernel, ⟨rfl, _, rfl, ⟨Nat.le_of_ble_eq_true rfl, rfl, 0, 0, by decide +kernel, by decide +kernel, ?_⟩⟩⟩⟩
  refine ⟨⟨Nat.le_of_ble_eq_true rfl, rfl⟩, fun X l0 => l0 _ _ _ _ _ ⟨rfl, ⟨Nat.le_of_ble_eq_true rfl, ⟨rfl, ⟨rfl, ?_⟩⟩⟩⟩⟩
  refine ⟨rfl, ⟨by decide +kernel, by decide +kernel, by decide +kernel, by decide +kernel, ⟨rfl, ⟨by decide +kernel, by decide +kernel, by decide +kernel, by decide +kernel, ⟨rfl, ⟨by decide +kernel, by decide +kernel, by decide +kernel, by decide +kernel, ⟨rfl, ?_⟩⟩⟩⟩⟩⟩⟩
  refine ⟨rfl, ⟨rfl, rfl, ⟨rfl, ⟨rfl, ⟨rfl, ⟨rfl, ?_⟩⟩⟩⟩⟩⟩
  exact hq _ rfl
