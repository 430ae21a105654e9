/-! THE CLASS'S ENDINGS: squares beside some, what the man attacks -/
theorem shl_nn (x : Int64) {t : Nat} (ht : t < 64) : nn (x <<< ((nI t).toInt64 &&& 63)) = nn x * 2 ^ t % 2 ^ 64 := by
  rw [shB t ht]
  show (x <<< Int64.ofNat t).toBitVec.toNat = _
  rw [Int64.toBitVec_shiftLeft]
  have : ((Int64.ofNat t).toBitVec.smod 64) = BitVec.ofNat 64 t := by
    have h : ∀ t, t < 64 → ((Int64.ofNat t).toBitVec.smod 64) = BitVec.ofNat 64 t := by decide +kernel
    exact h t ht
  rw [this, BitVec.shiftLeft_eq', BitVec.toNat_shiftLeft, BitVec.toNat_ofNat, Nat.mod_eq_of_lt (show t < 2 ^ 64 by omega), Nat.shiftLeft_eq]
  rfl
theorem bt_shl (x : Int64) {t : Nat} (ht : t < 64) {s : Nat} (hs : s < 64) : bt (x <<< ((nI t).toInt64 &&& 63)) s = (decide (t ≤ s) && bt x (s - t)) := by
  unfold bt
  rw [shl_nn x ht, Nat.testBit_mod_two_pow, Nat.testBit_mul_two_pow, decide_eq_true hs, Bool.true_and]
theorem bt_H : (List.range 64).all (fun s => bt (9187201950435737471 : Int64) s == decide (s % 8 ≠ 7) && bt ((-72340172838076674) : Int64) s == decide (s % 8 ≠ 0)) = true := by decide +kernel
theorem bt_mH {s : Nat} (hs : s < 64) : bt (9187201950435737471 : Int64) s = decide (s % 8 ≠ 7) ∧ bt ((-72340172838076674) : Int64) s = decide (s % 8 ≠ 0) := by
  have := List.all_eq_true.mp bt_H s (List.mem_range.mpr hs)
  rw [Bool.and_eq_true, beq_iff_eq, beq_iff_eq] at this
  exact this
theorem kiG_of {w t : Nat} (hw : w < 64) (ht : t < 64) : kiG w t ↔ ((w % 8 ≠ 0 ∧ t = w - 1 ∨ w % 8 ≠ 7 ∧ t = w + 1) ∨ ((8 ≤ w ∧ (t = w - 8 ∨ ((w - 8) % 8 ≠ 0 ∧ t = w - 8 - 1 ∨ (w - 8) % 8 ≠ 7 ∧ t = w - 8 + 1))) ∨ (w < 56 ∧ (t = w + 8 ∨ ((w + 8) % 8 ≠ 0 ∧ t = w + 8 - 1 ∨ (w + 8) % 8 ≠ 7 ∧ t = w + 8 + 1))))) := kiG_dec w hw t ht
theorem c_spread {mc ms : Nat} {M : zM} {g : Nat} (hW : zWd M g) (x : Int64) {Q : zQt} (hq : ∀ r, (∀ t, t < 64 → (bt r t = true ↔ ∃ u, u < 64 ∧ kiG t u ∧ bt x u = true)) → Q (some (.long r)) M) : wX2_spread mc ms [.long x] M Q := by
  refine ⟨⟨Nat.le_of_ble_eq_true rfl, rfl⟩, fun X l0 => l0 _ _ _ _ _ ⟨rfl, vX2_spread_0 hW (fun y hy => hq _ (fun t ht => ?_))⟩⟩
  have asd : ∀ t, t < 64 → (bt y t = true ↔ (1 ≤ t ∧ t % 8 ≠ 0 ∧ bt x (t - 1) = true) ∨ (t + 1 < 64 ∧ t % 8 ≠ 7 ∧ bt x (t + 1) = true)) := by
    intro t ht
    rw [hy, show (1 : Int32) = nI 1 from rfl, bt_or, bt_shl (t := 1) _ (by decide) ht, bt_shr (t := 1) _ (by decide)]
    rw [Bool.or_eq_true, Bool.and_eq_true, bt_and, bt_and, Bool.and_eq_true, Bool.and_eq_true, decide_eq_true_eq]
    constructor
    · rintro (⟨a, b, c⟩ | ⟨b, c⟩)
      · rw [(bt_mH (by omega)).1, decide_eq_true_eq] at c
        exact Or.inl ⟨a, by omega, b⟩
      · by_cases z : t + 1 < 64
        · rw [(bt_mH (by omega)).2, decide_eq_true_eq] at c
          exact Or.inr ⟨z, by omega, by rw [Nat.add_comm]; exact b⟩
        · rw [bt_ge (by omega)] at b
          exact absurd b (by decide)
    · rintro (⟨a, b, c⟩ | ⟨a, b, c⟩)
      · refine Or.inl ⟨a, c, ?_⟩
        rw [(bt_mH (by omega)).1, decide_eq_true_eq]
        omega
      · refine Or.inr ⟨by rw [Nat.add_comm]; exact c, ?_⟩
        rw [(bt_mH (by omega)).2, decide_eq_true_eq]
        omega
  have row : ∀ t, bt (x ||| y) t = true ↔ bt x t = true ∨ bt y t = true := fun t => by rw [bt_or, Bool.or_eq_true]
  rw [show (8 : Int32) = nI 8 from rfl, bt_or, bt_or, bt_shl (t := 8) _ (by decide) ht, bt_shr (t := 8) _ (by decide), Bool.or_eq_true, Bool.or_eq_true, Bool.and_eq_true, decide_eq_true_eq, row, row, asd t ht]
  constructor
  · rintro ((h | ⟨h8, h⟩) | h)
    · rcases h with ⟨a, b, c⟩ | ⟨a, b, c⟩
      · exact ⟨t - 1, by omega, (kiG_of ht (by omega)).mpr (Or.inl (Or.inl ⟨b, rfl⟩)), c⟩
      · exact ⟨t + 1, a, (kiG_of ht a).mpr (Or.inl (Or.inr ⟨b, rfl⟩)), c⟩
    · rcases h with c | h
      · exact ⟨t - 8, by omega, (kiG_of ht (by omega)).mpr (Or.inr (Or.inl ⟨h8, Or.inl rfl⟩)), c⟩
      · rcases (asd (t - 8) (by omega)).mp h with ⟨a, b, c⟩ | ⟨a, b, c⟩
        · exact ⟨t - 8 - 1, by omega, (kiG_of ht (by omega)).mpr (Or.inr (Or.inl ⟨h8, Or.inr (Or.inl ⟨b, rfl⟩)⟩)), c⟩
        · exact ⟨t - 8 + 1, a, (kiG_of ht a).mpr (Or.inr (Or.inl ⟨h8, Or.inr (Or.inr ⟨b, rfl⟩)⟩)), c⟩
    · rcases h with c | h
      · have : 8 + t < 64 := by
          rcases Nat.lt_or_ge (8 + t) 64 with z | z
          · exact z
          · rw [bt_ge z] at c; exact absurd c (by decide)
        exact ⟨8 + t, this, (kiG_of ht this).mpr (Or.inr (Or.inr ⟨by omega, Or.inl (by omega)⟩)), c⟩
      · have : 8 + t < 64 := by
          rcases Nat.lt_or_ge (8 + t) 64 with z | z
          · exact z
          · rw [bt_ge z] at h; exact absurd h (by decide)
        rcases (asd (8 + t) this).mp h with ⟨a, b, c⟩ | ⟨a, b, c⟩
        · exact ⟨8 + t - 1, by omega, (kiG_of ht (by omega)).mpr (Or.inr (Or.inr ⟨by omega, Or.inr (Or.inl ⟨by omega, by omega⟩)⟩)), c⟩
        · exact ⟨8 + t + 1, a, (kiG_of ht a).mpr (Or.inr (Or.inr ⟨by omega, Or.inr (Or.inr ⟨by omega, by omega⟩)⟩)), c⟩
  · rintro ⟨u, hu, hk, hx⟩
    rcases (kiG_of ht hu).mp hk with (⟨a, e⟩ | ⟨a, e⟩) | ⟨h8, e | ⟨a, e⟩ | ⟨a, e⟩⟩ | ⟨h8, e | ⟨a, e⟩ | ⟨a, e⟩⟩
    · subst e; exact Or.inl (Or.inl (Or.inl ⟨by omega, a, hx⟩))
    · subst e; exact Or.inl (Or.inl (Or.inr ⟨hu, a, hx⟩))
    · subst e; exact Or.inl (Or.inr ⟨h8, Or.inl hx⟩)
    · subst e; exact Or.inl (Or.inr ⟨h8, Or.inr ((asd (t - 8) (by omega)).mpr (Or.inl ⟨by omega, a, hx⟩))⟩)
    · subst e; exact Or.inl (Or.inr ⟨h8, Or.inr ((asd (t - 8) (by omega)).mpr (Or.inr ⟨hu, a, hx⟩))⟩)
    · subst e; rw [Nat.add_comm] at hx; exact Or.inr (Or.inl hx)
    · rw [show 8 + t = t + 8 by omega]
      subst e; exact Or.inr (Or.inr ((asd (t + 8) (by omega)).mpr (Or.inl ⟨by omega, a, hx⟩)))
    · rw [show 8 + t = t + 8 by omega]
      subst e; exact Or.inr (Or.inr ((asd (t + 8) (by omega)).mpr (Or.inr ⟨hu, a, hx⟩)))
/-- an Ending's cells: itself, and its rows behind it -/
def eSh (M : zM) (e : Nat) : Prop := zsh M e = some (0, 2) ∧ M.2.2.1 e 0 = some 17 ∧ (M.2.2.1 e 4 = some (e + 1) ∧ M.2.2.1 e 5 = some (e + 2) ∧ M.2.2.1 e 6 = some (e + 3) ∧ M.2.2.1 e 7 = some (e + 4) ∧ M.2.2.1 e 8 = some (e + 5) ∧ M.2.2.1 e 9 = some (e + 6) ∧ M.2.2.1 e 10 = some (e + 7)) ∧ (zsh M (e + 1) = some (2, 4096) ∧ zsh M (e + 2) = some (2, 4096) ∧ zsh M (e + 3) = some (2, 4096) ∧ zsh M (e + 4) = some (2, 4096) ∧ zsh M (e + 5) = some (2, 4096) ∧ zsh M (e + 6) = some (2, 4096) ∧ zsh M (e + 7) = some (2, 40960)) ∧ 82 ≤ e
theorem eSh.sm {L : List Nat} {M N : zM} {e : Nat} (h : eSh M e) (s : zSm L M N) : eSh N e := by
  unfold eSh zsh at h ⊢
  rw [s.1]
  exact h
theorem opn_clr {s a b : Nat} (hs : s < 64) : clr ((1 : Int64) <<< ((nI s).toInt64 &&& 63)) a b ↔ opn s a b := by
  unfold clr opn
  refine forall_congr' (fun i => forall_congr' (fun _ => forall_congr' (fun _ => ?_)))
  rw [bt_one hs, decide_eq_false_iff_not]
  exact ⟨fun h e => h e.symm, fun h e => h e.symm⟩
theorem c_hitsOf {mc ms : Nat} {M : zM} {g : Nat} (hW : zWd M g) (hC : cOk M) {e k : Nat} (hE : eSh M e) (hk : M.1 e 1 = nI k) (kk : k = 1 ∨ k = 4 ∨ k = 5) {s p : Nat} (hs : s < 64) (hp : p < 64) {Q : zQt} (hq : ∀ r, (∀ t, t < 64 → (bt r t = true ↔ at5 k s p t)) → Q (some (.long r)) M) : wX2_hitsOf mc ms [.ref e, .int (nI p), .long ((1 : Int64) <<< ((nI s).toInt64 &&& 63))] M Q := by
  refine ⟨⟨Nat.le_of_ble_eq_true rfl, rfl⟩, fun X l0 l56 => l0 _ _ _ _ _ ⟨rfl, vX2_hitsOf_0 hW hE.1 ?_⟩⟩
  have kI : ∀ n : Nat, n < 2 ^ 31 → (M.1 e 1 = nI n ↔ k = n) := fun n hn => by rw [hk]; exact nI_eq (by omega) hn
  have f56 : ∀ r, (∀ t, t < 64 → (bt r t = true ↔ at5 k s p t)) → X 56 0 0 [] [.long r] M := fun r h => l56 _ _ _ _ _ ⟨rfl, vX2_hitsOf_56 hW (hq r h)⟩
  refine ⟨fun c => ⟨17, hE.2.1, fxs_17 hW.1, 20, 128, fxr_17_2 hW.1, fxs_20 hW.1, ?_⟩, fun c => ⟨17, hE.2.1, fxs_17 hW.1, ?_⟩⟩
  · have c : k = 1 := (kI 1 (by decide)).mp c
    refine ⟨vp_in_nI (by omega) (by omega), hq _ (fun t ht => ?_)⟩
    rw [nI_clamp (by omega)]
    have h := hC.2.2.2.1 0 p t (by omega) hp ht
    rw [show 64 * 0 + p = p by omega] at h
    rw [h]
    unfold paG at5
    rw [if_pos c, if_pos rfl]
  · have c : k ≠ 1 := fun q => c ((kI 1 (by decide)).mpr q)
    have k2 : k ≠ 2 := by omega
    refine c_lines hW hC.1 hp _ (f := 0) (by omega) (fun r hr => ?_)
    have hst : ∀ t, t < 64 → (bt r t = true ↔ p ≠ t ∧ (dF p t = 0 ∨ dR p t = 0) ∧ opn s p t) := fun t ht => by
      have a := and_st (X := True) (o := (1 : Int64) <<< ((nI s).toInt64 &&& 63)) hp ht
      rw [opn_clr hs] at a
      rw [hr t ht]
      simp only [true_and, Nat.zero_add] at a ⊢
      exact a
    refine vkX2_hitsOf_28 hW hE.1 ⟨fun c4 => f56 r (fun t ht => ?_), fun c4 => ⟨17, hE.2.1, fxs_17 hW.1, ?_⟩⟩
    · have c4 : k = 4 := (kI 4 (by decide)).mp c4
      rw [hst t ht]
      unfold at5 slides
      rw [if_neg c, if_neg k2]
      constructor
      · rintro ⟨a, b, d⟩
        exact ⟨a, Or.inl ⟨b, by omega⟩, d⟩
      · rintro ⟨a, b, d⟩
        rcases b with b | b
        · exact ⟨a, b.1, d⟩
        · exact absurd c4 b.2
    · have c5 : k = 5 := by
        rcases kk with q | q | q
        · exact absurd q c
        · exact absurd ((kI 4 (by decide)).mpr q) c4
        · exact q
      refine c_lines hW hC.1 hp _ (f := 2) (by omega) (fun r2 hr2 => ?_)
      refine vkX2_hitsOf_55 hW hE.1 (f56 _ (fun t ht => ?_))
      have a := and_ak (X := True) (o := (1 : Int64) <<< ((nI s).toInt64 &&& 63)) hp ht
      rw [opn_clr hs] at a
      have hak : bt r2 t = true ↔ p ≠ t ∧ aI (dF p t) = aI (dR p t) ∧ opn s p t := by
        rw [hr2 t ht]
        simp only [true_and] at a ⊢
        exact a
      rw [bt_or, Bool.or_eq_true, hst t ht, hak]
      unfold at5 slides
      rw [if_neg c, if_neg k2]
      constructor
      · rintro (⟨a, b, d⟩ | ⟨a, b, d⟩)
        · exact ⟨a, Or.inl ⟨b, by omega⟩, d⟩
        · exact ⟨a, Or.inr ⟨b, by omega⟩, d⟩
      · rintro ⟨a, b | b, d⟩
        · exact Or.inl ⟨a, b.1, d⟩
        · exact Or.inr ⟨a, b.1, d⟩
