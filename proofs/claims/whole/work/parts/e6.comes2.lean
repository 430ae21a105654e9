set_option maxHeartbeats 4000000 in
theorem e_comes {mc ms : Nat} {M : zM} (hW : zFix M) (hT : eTb M) {k s p w d : Nat} (k1 : 1 ≤ k) (k5 : k ≤ 5) (hs : s < 64) (hp : p < 64) (hw : w < 64) (d1 : 1 ≤ d) (d9 : d < 100) {sm : Bool} (hsm : sm = true ↔ d % 2 = 1) (hP : pos5 k s p w sm) (hno : ∀ e, e < d → ¬ isD k s p w sm e) (hR : eRd M k (!sm) d) (hR1 : k = 1 → ∀ j, 2 ≤ j → j ≤ 5 → eRd M j (!sm) 100) {Q : zQt} (q1 : isD k s p w sm d → ∀ K, zSm eC M K → Q (some (.int 1)) K) (q0 : ¬ isD k s p w sm d → ∀ K, zSm eC M K → Q (some (.int 0)) K) : wX12_comes mc ms [.ref 71, .int (nI k), .int (nI s), .int (nI p), .int (nI w), .int (nI d)] M Q := by
  refine ⟨⟨Nat.le_of_ble_eq_true rfl, rfl⟩, fun X l0 l13 l41 l46 l68 l87 l92 l108 l109 l129 => ?_⟩
  obtain ⟨N, eN⟩ : ∃ N : Nat → Nat, N = fun j => if j = k then d else 100 := ⟨_, rfl⟩
  have hN : ∀ j, d ≤ N j ∧ N j ≤ 100 := fun j => by rw [eN]; show d ≤ (if j = k then d else 100) ∧ (if j = k then d else 100) ≤ 100; split <;> omega
  have Nk : N k = d := by rw [eN]; exact if_pos rfl
  have No : ∀ j, j ≠ k → N j = 100 := fun j h => by rw [eN]; exact if_neg h
  have qb : ∀ b : Bool, (b = true ↔ isD k s p w sm d) → ∀ K, zSm eC M K → Q (some (.int (bI b))) K := fun b hb K hK => by
    cases b
    · exact q0 (fun h => absurd (hb.mpr h) (by decide)) K hK
    · exact q1 (hb.mp rfl) K hK
  have fin : ∀ (K : zM) (L : List (Nat × Nat × Nat × Nat × Nat)), zSm eC M K → eMl K L → (∀ m, m ∈ L → m.2.1 ≤ 5 ∧ m.2.2.1 < 64 ∧ m.2.2.2.1 < 64 ∧ m.2.2.2.2 < 64 ∧ (m.2.1 ≠ 0 → eRd M m.2.1 (!sm) (N m.2.1))) → (sm = true → ((∃ m, m ∈ L ∧ mAt (!sm) (d - 1) m) ↔ isD k s p w sm d)) → (sm = false → ((L ≠ [] ∧ ∀ m, m ∈ L → mOk (!sm) (N m.2.1) m) ↔ isD k s p w sm d)) → kX12_comes_26 mc ms X Q 0 0 [some (.ref 71), some (.int (nI k)), some (.int (nI s)), some (.int (nI p)), some (.int (nI w)), some (.int (nI d)), some (.int (bI sm)), none, none, none, none] [] K := by
    intro K L sK hL hm ht hf
    have hWK := sK.fix hW
    have run := e_comesL l46 l68 l87 l92 l108 l109 l129 hWK (hT.sm sK) hL d1 d9 (sm := sm) hN (fun m h => by
      obtain ⟨a, b, c, e, g⟩ := hm m h
      exact ⟨a, b, c, e, fun z => (g z).sm hW sK⟩) (fun b h1 h2 => qb b (by
      cases sm
      · exact (h2 rfl).trans (hf rfl)
      · exact (h1 rfl).trans (ht rfl)) K sK) L.length 0 false
    have hl := hL.2.1
    refine vkX12_comes_26 hWK ?_
    rw [hL.1]
    refine ⟨fun z => l41 _ _ _ _ _ ⟨rfl, vX12_comes_41 hWK (run false (by omega) (by simp) ?_)⟩, fun z => l41 _ _ _ _ _ ⟨rfl, vX12_comes_41 hWK (run true (by omega) (by simp) ?_)⟩⟩
    · have z := (nI_leI (a := L.length) (b := 0) (by omega) (by decide)).mp z
      have : L = [] := List.eq_nil_of_length_eq_zero (by omega)
      simp [this]
    · have z : ¬ L.length ≤ 0 := fun q => z ((nI_leI (a := L.length) (b := 0) (by omega) (by decide)).mpr q)
      have : L ≠ [] := fun q => z (by rw [q]; simp)
      simp [this]
  refine l0 _ _ _ _ _ ⟨rfl, vX12_comes_0 hW ?_⟩
  rw [show (nI d - nI d / (2 : Int32) * (2 : Int32)) = nI (d % 2) from pk_rem (d := 2) (by omega) (by decide) (by decide)]
  have e1 : nI (d % 2) = (1 : Int32) ↔ d % 2 = 1 := nI_eq (b := 1) (by omega) (by decide)
  refine ⟨fun z => ?_, fun z => ?_⟩
  · have hd := e1.mp z
    have ht : sm = true := hsm.mpr hd
    subst ht
    refine l13 _ _ _ _ _ ⟨rfl, vX12_comes_13 hW ?_⟩
    refine e_movesS hW k1 k5 hs hp hw hP.2.2.2.2.1 (fun K L sK hL hm => ?_)
    obtain ⟨n, en⟩ : ∃ n, d = 2 * n + 1 := ⟨d / 2, by omega⟩
    have hnS : ∀ j, j < n → ¬ Sc k (Ok k) j s p w := fun j hj q => by
      obtain ⟨e, a, b⟩ := Sc_isD.mp q
      exact hno e (by omega) b
    have man : ∀ m, stM k s p w m → m.2.1 ≠ 0 ∧ m.2.1 ≤ 5 ∧ m.2.2.1 < 64 ∧ m.2.2.2.1 < 64 ∧ m.2.2.2.2 < 64 ∧ eRd M m.2.1 (!true) (N m.2.1) := by
      intro m h
      rcases h with ⟨t, a, b, _, e⟩ | ⟨z2, h⟩ | ⟨z2, t, a, b, e⟩
      · subst e; exact ⟨by show k ≠ 0; omega, k5, a, hp, hw, by rw [Nk]; exact hR⟩
      · have hp8 := hP.2.2.2.2.1 z2
        rcases h with ⟨_, _, _, e⟩ | ⟨r1, _, _, _, _, e⟩ | ⟨r6, _, _, j, a, b, e⟩
        · subst e; exact ⟨by show (1 : Nat) ≠ 0; omega, by show 1 ≤ 5; omega, hs, by show p + 8 < 64; omega, hw, by show eRd M 1 _ (N 1); rw [← z2, Nk]; exact hR⟩
        · subst e; exact ⟨by show (1 : Nat) ≠ 0; omega, by show 1 ≤ 5; omega, hs, by show p + 16 < 64; omega, hw, by show eRd M 1 _ (N 1); rw [← z2, Nk]; exact hR⟩
        · subst e; exact ⟨by show j ≠ 0; omega, b, hs, by show p + 8 < 64; omega, hw, by show eRd M j _ (N j); rw [No j (by omega)]; exact hR1 z2 j a b⟩
      · subst e; exact ⟨by show k ≠ 0; omega, k5, hs, a, hw, by rw [Nk]; exact hR⟩
    refine fin K L sK hL (fun m h => let ⟨a0, a1, a2, a3, a4, a5⟩ := man m ((hm m).mp h); ⟨a1, a2, a3, a4, fun _ => a5⟩) (fun _ => ?_) (fun y => absurd y (by decide))
    have e2 : isD k s p w true d ↔ Sc k (Ok k) n s p w := by
      rw [isD_t]
      exact ⟨fun ⟨n2, a, b, _⟩ => by rw [show n = n2 by omega]; exact b, fun h => ⟨n, en, h, hnS⟩⟩
    rw [e2, rd_S k1 k5 hs hp hw hP hnS, show d - 1 = 2 * n by omega]
    exact ⟨fun ⟨m, a, b⟩ => ⟨m, (hm m).mp a, b.2⟩, fun ⟨m, a, b⟩ => ⟨m, (hm m).mpr a, (man m a).1, b⟩⟩
  · have hd : ¬ d % 2 = 1 := fun q => z (e1.mpr q)
    have ht : sm = false := by
      cases sm
      · rfl
      · exact absurd (hsm.mp rfl) hd
    subst ht
    refine l13 _ _ _ _ _ ⟨rfl, vX12_comes_13 hW ?_⟩
    refine e_movesW hW k1 k5 hs hp hw (fun K L sK hL hm => ?_)
    obtain ⟨n, en⟩ : ∃ n, d = 2 * (n + 1) := ⟨d / 2 - 1, by omega⟩
    have hnW : ∀ j, j < n + 1 → ¬ Wc k (Ok k) j s p w := fun j hj q => by
      obtain ⟨e, a, b⟩ := Wc_isD.mp q
      exact hno e (by omega) b
    refine fin K L sK hL (fun m h => ?_) (fun y => absurd y (by decide)) (fun _ => ?_)
    · obtain ⟨t, a, b, c⟩ := (hm m).mp h
      rcases c with ⟨_, _, e⟩ | ⟨_, e⟩
      · subst e; exact ⟨by show 0 ≤ 5; omega, hs, hp, a, fun q => absurd rfl q⟩
      · subst e; exact ⟨k5, hs, hp, a, fun _ => by rw [Nk]; exact hR⟩
    have e2 : isD k s p w false d ↔ Wc k (Ok k) (n + 1) s p w := by
      rw [isD_f]
      exact ⟨fun ⟨n2, a, b, _⟩ => by rw [show n + 1 = n2 by omega]; exact b, fun h => ⟨n + 1, en, h, hnW⟩⟩
    rw [e2, rd_W k1 hs hp hw hP (hnW n (by omega))]
    have mk : ∀ m t, wkM k s p w m t → (mOk (!false) (N m.2.1) m ↔ mOk (!false) (2 * (n + 1)) m) := fun m t h => by
      rcases h with ⟨_, _, e⟩ | ⟨_, e⟩
      · subst e; exact ⟨fun q => absurd rfl q.1, fun q => absurd rfl q.1⟩
      · subst e; show mOk _ (N k) _ ↔ _; rw [Nk, en]
    constructor
    · rintro ⟨a, b⟩
      refine ⟨?_, fun m t ht hk hwk => (mk m t hwk).mp (b m ((hm m).mpr ⟨t, ht, hk, hwk⟩))⟩
      cases L with
      | nil => exact absurd rfl a
      | cons m L =>
        obtain ⟨t, x, y, z2⟩ := (hm m).mp (by simp)
        exact ⟨m, t, x, y, z2⟩
    · rintro ⟨⟨m, t, x, y, z2⟩, b⟩
      refine ⟨fun q => ?_, fun m h => ?_⟩
      · have := (hm m).mpr ⟨t, x, y, z2⟩
        rw [q] at this
        exact absurd this (by simp)
      · obtain ⟨t, x, y, z2⟩ := (hm m).mp h
        exact (mk m t z2).mpr (b m t x y z2)
