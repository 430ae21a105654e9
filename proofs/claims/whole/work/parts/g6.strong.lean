/-! THE CLASS'S ENDINGS: a step of the side with the man -/
theorem bt_mid : (List.range 64).all (fun s => bt (72057594037927680 : Int64) s == decide (s / 8 ≠ 0 ∧ s / 8 ≠ 7)) = true := by decide +kernel
theorem bt_mM {s : Nat} (hs : s < 64) : bt (72057594037927680 : Int64) s = decide (s / 8 ≠ 0 ∧ s / 8 ≠ 7) := by
  have := List.all_eq_true.mp bt_mid s (List.mem_range.mpr hs)
  rw [beq_iff_eq] at this
  exact this
theorem c_cameFrom {mc ms : Nat} {M : zM} {g : Nat} (hW : zWd M g) {e k : Nat} (hE : eSh M e) (hk : M.1 e 1 = nI k) (k5 : k ≤ 5) (hH : hiR M e k) {s p : Nat} (hs : s < 64) (hp : p < 64) (hv : slv k s p) {Q : zQt} (hq : ∀ r, (∀ q, q < 64 → (bt r q = true ↔ cmF k s p q)) → Q (some (.long r)) M) : wX2_cameFrom mc ms [.ref e, .int (nI p), .int (nI s)] M Q := by
  refine ⟨⟨Nat.le_of_ble_eq_true rfl, rfl⟩, fun X l0 l65 => l0 _ _ _ _ _ ⟨rfl, vX2_cameFrom_0 hW hE.1 (fun y7 e7 => ?_)⟩⟩
  have kI : M.1 e 1 = (1 : Int32) ↔ k = 1 := by rw [hk]; exact nI_eq (b := 1) (by omega) (by decide)
  have b7 : ∀ q, q < 64 → (bt y7 q = true ↔ q ≠ s) := fun q hq => by
    rw [e7, bt_not _ hq, bt_one hs, Bool.not_eq_true', decide_eq_false_iff_not]
    exact ⟨fun h e => h e.symm, fun h e => h e.symm⟩
  have f65 : ∀ r, (∀ q, q < 64 → (bt r q = true ↔ cmF k s p q)) → X 65 0 0 [] [.long r] M := fun r h => l65 _ _ _ _ _ ⟨rfl, vX2_cameFrom_65 hW (hq r h)⟩
  refine ⟨fun c y42 e42 => ?_, fun c => ⟨e + 1, 4096, hE.2.2.1.1, hE.2.2.2.1.1, ?_⟩⟩
  · have c : k = 1 := kI.mp c
    have p8 := hv.2 c
    have b42 : ∀ q, (bt y42 q = true ↔ q < 64 ∧ q + 8 = p ∧ q ≠ s ∧ q / 8 ≠ 0 ∧ q / 8 ≠ 7) := fun q => by
      by_cases hq : q < 64
      · rw [e42, show (8 : Int32) = nI 8 from rfl, bt_and, bt_and, bt_shr _ (by decide), bt_one hp, bt_mM hq, Bool.and_eq_true, Bool.and_eq_true, b7 q hq, decide_eq_true_eq, decide_eq_true_eq]
        constructor
        · rintro ⟨⟨a, b⟩, c⟩; exact ⟨hq, by omega, b, c⟩
        · rintro ⟨_, a, b, c⟩; exact ⟨⟨by omega, b⟩, c⟩
      · rw [bt_ge (by omega)]
        exact ⟨fun q => absurd q (by decide), fun q => absurd q.1 hq⟩
    rw [show nI p / (8 : Int32) = nI (p / 8) from pk_div (d := 8) (by omega) (by decide) (by decide)]
    refine ⟨fun z => f65 _ (fun q hq => ?_), fun z => f65 _ (fun q hq => ?_)⟩
    · have z : p / 8 = 3 := (nI_eq (b := 3) (by omega) (by decide)).mp z
      rw [show (8 : Int32) = nI 8 from rfl, bt_or, bt_shr _ (by decide), Bool.or_eq_true, b42 q, b42 (8 + q)]
      unfold cmF
      rw [if_pos c]
      constructor
      · rintro (⟨_, a, b⟩ | ⟨_, a, b, d, f⟩)
        · exact Or.inl ⟨a, b⟩
        · exact Or.inr ⟨z, by omega, by omega, by omega, by omega⟩
      · rintro (⟨a, b⟩ | ⟨_, a, b, d, f⟩)
        · exact Or.inl ⟨hq, a, b⟩
        · exact Or.inr ⟨by omega, by omega, by omega, by omega, by omega⟩
    · have z : ¬ p / 8 = 3 := fun q => z (by rw [q]; rfl)
      rw [b42 q]
      unfold cmF
      rw [if_pos c]
      exact ⟨fun h => Or.inl h.2, fun h => h.elim (fun h => ⟨hq, h⟩) (fun h => absurd h.1 z)⟩
  · have c : k ≠ 1 := fun q => c (kI.mpr q)
    rw [show nI p * (64 : Int32) = nI (p * 64) from pk_mul p 64, nI_add, nI_clamp (by omega), show p * 64 + s = 64 * p + s by omega]
    refine ⟨vp_in_nI (by omega) (by omega), hq _ (fun q hq => ?_)⟩
    rw [bt_and, Bool.and_eq_true, hH s p q hs hp hq, b7 q hq]
    unfold cmF
    rw [if_neg c]
    exact ⟨fun h => ⟨h.1.2, h.2⟩, fun h => ⟨⟨hv, h.1⟩, h.2⟩⟩
/-- won so far in this step: the slots below c are done, and D of slot (s, p) -/
def stT (k N c s p : Nat) (D : Nat → Nat → Nat → Prop) : Nat → Nat → Nat → Prop := fun s2 p2 w => pos5 k s2 p2 w true ∧ (¬ ∃ d, d < N ∧ isD k s2 p2 w true d) ∧ ((∃ s3 p3, s3 < 64 ∧ p3 < 64 ∧ 64 * p3 + s3 < c ∧ isD k s3 p3 w false (N - 1) ∧ mvR k s2 p2 w s3 p3) ∨ (isD k s p w false (N - 1) ∧ D s2 p2 w))
def anT (T : Nat → Nat → Nat → Prop) : Prop := ∃ s p w, s < 64 ∧ p < 64 ∧ w < 64 ∧ T s p w
/-- one gain within a step of the side with the man -/
theorem gain_s {mc ms : Nat} {M : zM} {g : Nat} (hW : zWd M g) {e k N : Nat} (hE : eSh M e) (hn : N < 64) (hN : N % 2 = 1) (hc : canR M e k true) {T : Nat → Nat → Nat → Prop} (hT : kR M e k N true T) {s p : Nat} (hs : s < 64) (hp : p < 64) (x : Int64) {T2 : Nat → Nat → Nat → Prop} (h2 : ∀ s2 p2 w, s2 < 64 → p2 < 64 → w < 64 → (T2 s2 p2 w ↔ T s2 p2 w ∨ (s2 = s ∧ p2 = p ∧ bt x w = true ∧ pos5 k s p w true ∧ ¬ ∃ d, d < N ∧ isD k s p w true d))) {Q : zQt} (hq : ∀ K r, zSm [e + 5, e + 7] M K → (∀ i, i < 20480 → K.2.1 (e + 7) i = M.2.1 (e + 7) i) → kR K e k N true T2 → (anT T2 ↔ anT T ∨ ¬ lg_cmp r 0 = 0) → Q (some (.long r)) K) : wX2_gain mc ms [.ref e, .int (nI (64 * p + s)), .long x, .int (nI N)] M Q := by
  refine c_gain hW hE hn (sm := true) ⟨fun _ => hN, fun _ => rfl⟩ hc hT hs hp x (fun K r sK iK vK rK => ?_)
  have cs : ∀ w, canS k true s p w ↔ pos5 k s p w true := fun w => by unfold canS; rw [if_pos rfl]
  rw [if_pos rfl] at sK
  refine hq K r sK (fun i h => iK i (by rw [if_pos rfl]; exact h)) (vK.congr (fun s2 p2 w hs2 hp2 hw => ?_)) ?_
  · rw [h2 s2 p2 w hs2 hp2 hw]
    unfold gT
    rw [cs]
  · constructor
    · rintro ⟨s2, p2, w, hs2, hp2, hw, h⟩
      rcases (h2 s2 p2 w hs2 hp2 hw).mp h with h | ⟨a, b, c, d, f⟩
      · exact Or.inl ⟨s2, p2, w, hs2, hp2, hw, h⟩
      · by_cases t : T s p w
        · exact Or.inl ⟨s, p, w, hs, hp, hw, t⟩
        · exact Or.inr (fun z => bt_ne.mpr ⟨w, hw, (rK w hw).mpr ⟨c, (cs w).mpr d, f, t⟩⟩ (lg0.mp z))
    · rintro (⟨s2, p2, w, hs2, hp2, hw, h⟩ | z)
      · exact ⟨s2, p2, w, hs2, hp2, hw, (h2 s2 p2 w hs2 hp2 hw).mpr (Or.inl h)⟩
      · obtain ⟨w, hw, h⟩ := bt_ne.mp (fun q => z (lg0.mpr q))
        obtain ⟨a, b, c, _⟩ := (rK w hw).mp h
        exact ⟨s, p, w, hs, hp, hw, (h2 s p w hs hp hw).mpr (Or.inr ⟨rfl, rfl, a, (cs w).mp b, c⟩)⟩
