/-- the method's directions and the man's moves -/
theorem kn_xy {x y : Int} (h1 : 0 ≤ x ∧ x < 8) (h2 : 0 ≤ y ∧ y < 8) : x * y = 2 ↔ x + y = 3 ∧ ¬ x = 0 ∧ ¬ y = 0 := by
  have : x = 0 ∨ x = 1 ∨ x = 2 ∨ x = 3 ∨ x = 4 ∨ x = 5 ∨ x = 6 ∨ x = 7 := by omega
  rcases this with e | e | e | e | e | e | e | e <;> rw [e] <;> omega
theorem gFR {df dr : Int} (a : -3 < df) (b : df < 3) (c : -3 < dr) (d : dr < 3) : ∃ i, i < 25 ∧ gF i = df ∧ gR i = dr :=
  ⟨(5 * (df + 2) + (dr + 2)).toNat, by omega, by unfold gF; omega, by unfold gR; omega⟩
theorem gM_kn {s p w : Nat} (hp : p < 64) (m : Nat × Nat × Nat × Nat × Nat) : (∃ c, c < 25 ∧ gM 2 s p w c m) ↔ ∃ t, t < 64 ∧ mmv 2 s p w t ∧ m = (p + 64 * t, 2, s, t, w) := by
  have sl : ∀ df dr, slB 2 df dr = false := fun df dr => decide_eq_false (fun h => by omega)
  have m2 : ∀ t, mmv 2 s p w t ↔ t ≠ s ∧ t ≠ w ∧ knG p t := fun t => Iff.rfl
  constructor
  · rintro ⟨c, hc, hor, n, t, n1, hs1, hin, e⟩
    have hn := hs1 (sl _ _)
    subst hn
    have hlp : lpB 2 (gF c) (gR c) = true := by
      rcases hor with z | z
      · exact z
      · rw [sl] at z; exact absurd z (by decide)
    have h3 := (of_decide_eq_true hlp).2
    obtain ⟨ht, b, d⟩ := hin.1
    refine ⟨t, ht, (m2 t).mpr ⟨hin.2.1, hin.2.2.1, ?_⟩, e⟩
    have eF : dF p t = gF c := by unfold dF; omega
    have eR : dR p t = gR c := by unfold dR; omega
    unfold knG
    have g1 : -3 < gF c ∧ gF c < 3 := by unfold gF; omega
    have g2 : -3 < gR c ∧ gR c < 3 := by unfold gR; omega
    have j1 : 0 ≤ aI (gF c) ∧ aI (gF c) < 3 := by unfold aI; split <;> omega
    have j2 : 0 ≤ aI (gR c) ∧ aI (gR c) < 3 := by unfold aI; split <;> omega
    rw [eF, eR, kn_xy (by omega) (by omega)]
    omega
  · rintro ⟨t, ht, hm, e⟩
    obtain ⟨a, b, hk⟩ := (m2 t).mp hm
    unfold knG at hk
    have kF := dF_bd (a := p) (b := t)
    have kR := dR_bd hp ht
    have jF := aI_bd kF
    have jR := aI_bd kR
    rw [kn_xy jF jR] at hk
    have b1 : -3 < dF p t ∧ dF p t < 3 := by
      have := hk.1
      have := hk.2.2
      have : aI (dF p t) < 3 := by omega
      unfold aI at this
      split at this <;> omega
    have b2 : -3 < dR p t ∧ dR p t < 3 := by
      have : aI (dR p t) < 3 := by omega
      unfold aI at this
      split at this <;> omega
    obtain ⟨c, hc, e1, e2⟩ := gFR b1.1 b1.2 b2.1 b2.2
    refine ⟨c, hc, Or.inl ?_, 1, t, Nat.le_refl 1, fun _ => rfl, ⟨⟨ht, ?_, ?_⟩, a, b, fun j u j1 j2 => absurd j2 (by omega)⟩, e⟩
    · rw [e1, e2]; exact decide_eq_true ⟨rfl, hk.1⟩
    · rw [e1, show ((1 : Nat) : Int) = 1 from rfl, Int.mul_one]; unfold dF; omega
    · rw [e2, show ((1 : Nat) : Int) = 1 from rfl, Int.mul_one]; unfold dR; omega
theorem gM_sl {k s p w : Nat} (k3 : 3 ≤ k) (k5 : k ≤ 5) (hp : p < 64) (m : Nat × Nat × Nat × Nat × Nat) : (∃ c, c < 25 ∧ gM k s p w c m) ↔ ∃ t, t < 64 ∧ mmv k s p w t ∧ m = (p + 64 * t, k, s, t, w) := by
  have lp : ∀ df dr, lpB k df dr = false := fun df dr => decide_eq_false (fun h => by omega)
  have mk : ∀ t, mmv k s p w t ↔ t ≠ s ∧ t ≠ w ∧ (p ≠ t ∧ slides k p t ∧ opn s p t ∧ opn w p t) := fun t => by
    unfold mmv
    rw [if_neg (by omega), if_neg (by omega)]
  constructor
  · rintro ⟨c, hc, hor, n, t, n1, -, hin, e⟩
    have hsl : slB k (gF c) (gR c) = true := by
      rcases hor with z | z
      · rw [lp] at z; exact absurd z (by decide)
      · exact z
    obtain ⟨h1, h2, h3⟩ := slB_of hsl
    have hs := of_decide_eq_true hsl
    obtain ⟨hne, gF1, gR1, gn, z1, z2, z3⟩ := dir_geo h1 h2 h3 n1 hin.1
    have ht := hin.1.1
    have aF : aI (gF c) = if gF c = 0 then 0 else 1 := by rcases h1 with x | x | x <;> rw [x] <;> decide
    have aR : aI (gR c) = if gR c = 0 then 0 else 1 := by rcases h2 with x | x | x <;> rw [x] <;> decide
    have hsum := hs.2.2.2.2
    rw [aF, aR] at hsum
    have hal : dF p t = 0 ∨ dR p t = 0 ∨ aI (dF p t) = aI (dR p t) := by
      by_cases x : gF c = 0
      · exact Or.inl (z1.mp x)
      · by_cases y : gR c = 0
        · exact Or.inr (Or.inl (z2.mp y))
        · exact Or.inr (Or.inr (z3 x y))
    have hop : ∀ q, (∀ j u, 1 ≤ j → j < n → dirT p (gF c) (gR c) j u → u ≠ q) → opn q p t := fun q hq j j1 j2 => by
      rw [gn] at j2
      have := dir_sq (j := j) hp ht hne hal (by omega)
      rw [gF1, gR1] at this
      exact hq j _ j1 j2 this
    refine ⟨t, ht, (mk t).mpr ⟨hin.2.1, hin.2.2.1, hne, ?_, hop s (fun j u a b d => (hin.2.2.2 j u a b d).1), hop w (fun j u a b d => (hin.2.2.2 j u a b d).2)⟩, e⟩
    unfold slides
    by_cases x : gF c = 0
    · refine Or.inl ⟨Or.inl (z1.mp x), ?_⟩
      rw [if_pos x] at hsum
      intro k3e
      have y : ¬ gR c = 0 := fun y => h3 ⟨x, y⟩
      rw [if_neg y] at hsum
      omega
    · by_cases y : gR c = 0
      · refine Or.inl ⟨Or.inr (z2.mp y), ?_⟩
        rw [if_neg x, if_pos y] at hsum
        intro k3e
        omega
      · refine Or.inr ⟨z3 x y, ?_⟩
        rw [if_neg x, if_neg y] at hsum
        intro k4e
        omega
  · rintro ⟨t, ht, hm, e⟩
    obtain ⟨a, b, hne, hs, o1, o2⟩ := (mk t).mp hm
    have hal : dF p t = 0 ∨ dR p t = 0 ∨ aI (dF p t) = aI (dR p t) := by
      rcases hs with q | q
      · rcases q.1 with z | z
        · exact Or.inl z
        · exact Or.inr (Or.inl z)
      · exact Or.inr (Or.inr q.1)
    have hd := al_of hp ht hne hal
    have hn := (line_of hp ht hne hal).1
    have z3 := sgn3 (dF p t)
    have z4 := sgn3 (dR p t)
    have y1 : sgn (dF p t) = 0 ↔ dF p t = 0 := by unfold sgn; split <;> (try split) <;> omega
    have y2 : sgn (dR p t) = 0 ↔ dR p t = 0 := by unfold sgn; split <;> (try split) <;> omega
    have h3 : ¬ (sgn (dF p t) = 0 ∧ sgn (dR p t) = 0) := by
      rintro ⟨u, v⟩
      have u := y1.mp u
      have v := y2.mp v
      unfold dF at u
      unfold dR at v
      omega
    obtain ⟨c, hc, e1, e2⟩ := gFR (df := sgn (dF p t)) (dr := sgn (dR p t)) (by omega) (by omega) (by omega) (by omega)
    have hsl : slB k (gF c) (gR c) = true := by
      rw [e1, e2]
      have aF : aI (sgn (dF p t)) = if sgn (dF p t) = 0 then 0 else 1 := by rcases z3 with x | x | x <;> rw [x] <;> decide
      have aR : aI (sgn (dR p t)) = if sgn (dR p t) = 0 then 0 else 1 := by rcases z4 with x | x | x <;> rw [x] <;> decide
      have zA : aI (dF p t) = 0 ↔ dF p t = 0 := by unfold aI; split <;> omega
      have zB : aI (dR p t) = 0 ↔ dR p t = 0 := by unfold aI; split <;> omega
      refine decide_eq_true ?_
      rw [aF, aR]
      unfold slides at hs
      by_cases x : sgn (dF p t) = 0
      · have y : ¬ sgn (dR p t) = 0 := fun y => h3 ⟨x, y⟩
        rw [if_pos x, if_neg y]
        refine ⟨k3, by omega, by omega, by omega, ?_⟩
        have nk : k ≠ 3 := by
          rcases hs with q | q
          · exact q.2
          · exact absurd (y2.mpr (zB.mp (by rw [← q.1]; exact zA.mpr (y1.mp x)))) y
        omega
      · by_cases y : sgn (dR p t) = 0
        · rw [if_neg x, if_pos y]
          refine ⟨k3, by omega, by omega, by omega, ?_⟩
          have nk : k ≠ 3 := by
            rcases hs with q | q
            · exact q.2
            · exact absurd (y1.mpr (zA.mp (by rw [q.1]; exact zB.mpr (y2.mp y)))) x
          omega
        · rw [if_neg x, if_neg y]
          refine ⟨k3, by omega, by omega, by omega, ?_⟩
          have nk : k ≠ 4 := by
            rcases hs with q | q
            · rcases q.1 with v | v
              · exact absurd (y1.mpr v) x
              · exact absurd (y2.mpr v) y
            · exact q.2
          omega
    refine ⟨c, hc, Or.inr hsl, stn p t, t, hn, fun z => by rw [hsl] at z; exact absurd z (by decide), ⟨by rw [e1, e2]; exact hd, a, b, fun j u j1 j2 hu => ?_⟩, e⟩
    rw [e1, e2] at hu
    rw [dirT_inj hu (dir_sq (j := j) hp ht hne hal (by omega))]
    exact ⟨o1 j j1 j2, o2 j j1 j2⟩
theorem gM_all {k s p w : Nat} (k2 : 2 ≤ k) (k5 : k ≤ 5) (hp : p < 64) (m : Nat × Nat × Nat × Nat × Nat) : (∃ c, c < 25 ∧ gM k s p w c m) ↔ ∃ t, t < 64 ∧ mmv k s p w t ∧ m = (p + 64 * t, k, s, t, w) := by
  by_cases h : k = 2
  · subst h; exact gM_kn hp m
  · exact gM_sl (by omega) k5 hp m
/-- the strong side moves by m -/
def stM (k s p w : Nat) (m : Nat × Nat × Nat × Nat × Nat) : Prop := (∃ t, t < 64 ∧ kiG s t ∧ (pos5 k t p w false ∧ m = (s + 64 * t, k, t, p, w))) ∨ (k = 1 ∧ pnM s p w m) ∨ (k ≠ 1 ∧ ∃ t, t < 64 ∧ mmv k s p w t ∧ m = (p + 64 * t, k, s, t, w))
theorem eMl_0 (M : zM) : eMl (zsI M 71 11 0) [] := ⟨by rw [zsI_at, if_pos ⟨rfl, rfl⟩]; rfl, by simp, fun i m h => by simp at h⟩
theorem e_movesW {mc ms : Nat} {M : zM} (hW : zFix M) {k s p w : Nat} (k1 : 1 ≤ k) (k5 : k ≤ 5) (hs : s < 64) (hp : p < 64) (hw : w < 64) {Q : zQt} (hq : ∀ K L, zSm eC M K → eMl K L → (∀ m, m ∈ L ↔ ∃ t, t < 64 ∧ kiG w t ∧ wkM k s p w m t) → Q none K) : wX12_movesOf mc ms [.ref 71, .int (nI k), .int (nI s), .int (nI p), .int (nI w), .int 0] M Q := by
  refine ⟨⟨Nat.le_of_ble_eq_true rfl, rfl⟩, fun X l0 => ?_⟩
  refine l0 _ _ _ _ _ ⟨rfl, vX12_movesOf_0 hW (fun M2 e2 => ⟨fun _ => ?_, fun z => absurd rfl z⟩)⟩
  have sm : zSm eC M M2 := by rw [e2]; exact zSm.I (by decide)
  have h0 : eMl M2 [] := by rw [e2]; exact eMl_0 M
  refine e_weakKing (sm.fix hW) h0 (by simp) k1 k5 hs hp hw (fun K L2 s2 h2 _ hm => ?_)
  exact vkX12_movesOf_19 ((sm.tr s2).fix hW) (hq K L2 (sm.tr s2) (by simpa using h2) hm)
theorem e_movesS {mc ms : Nat} {M : zM} (hW : zFix M) {k s p w : Nat} (k1 : 1 ≤ k) (k5 : k ≤ 5) (hs : s < 64) (hp : p < 64) (hw : w < 64) (hp1 : k = 1 → p / 8 ≠ 0 ∧ p / 8 ≠ 7) {Q : zQt} (hq : ∀ K L, zSm eC M K → eMl K L → (∀ m, m ∈ L ↔ stM k s p w m) → Q none K) : wX12_movesOf mc ms [.ref 71, .int (nI k), .int (nI s), .int (nI p), .int (nI w), .int 1] M Q := by
  refine ⟨⟨Nat.le_of_ble_eq_true rfl, rfl⟩, fun X l0 => ?_⟩
  refine l0 _ _ _ _ _ ⟨rfl, vX12_movesOf_0 hW (fun M2 e2 => ⟨fun z => absurd z (by decide), fun _ => ?_⟩)⟩
  have sm : zSm eC M M2 := by rw [e2]; exact zSm.I (by decide)
  have h0 : eMl M2 [] := by rw [e2]; exact eMl_0 M
  refine e_strongKing (sm.fix hW) h0 (by simp) k1 k5 hs hp hw (fun K L2 s2 h2 hn hm => ?_)
  have sK := sm.tr s2
  rw [List.nil_append] at h2
  refine vkX12_movesOf_29 (sK.fix hW) ⟨fun z => ?_, fun z => ?_⟩
  · have z : k = 1 := (nI_eq (a := k) (b := 1) (by omega) (by decide)).mp z
    refine e_pawn (sK.fix hW) h2 (by omega) hs hp hw (hp1 z) (fun K3 L3 s3 h3 _ hm3 => ?_)
    refine vkX12_movesOf_42 ((sK.tr s3).fix hW) (hq K3 _ (sK.tr s3) h3 (fun m => ?_))
    rw [List.mem_append, hm m, hm3 m]
    unfold stM
    constructor
    · rintro (a | a)
      · exact Or.inl a
      · exact Or.inr (Or.inl ⟨z, a⟩)
    · rintro (a | ⟨_, a⟩ | ⟨a, _⟩)
      · exact Or.inl a
      · exact Or.inr a
      · exact absurd z a
  · have z : k ≠ 1 := fun q => z (by rw [q]; rfl)
    refine e_manMoves (sK.fix hW) h2 (by omega) (by omega) k5 hs hp hw (fun K3 L3 s3 h3 _ hm3 => ?_)
    refine vkX12_movesOf_52 ((sK.tr s3).fix hW) (hq K3 _ (sK.tr s3) h3 (fun m => ?_))
    rw [List.mem_append, hm m, hm3 m, gM_all (by omega) k5 hp m]
    unfold stM
    constructor
    · rintro (a | a)
      · exact Or.inl a
      · exact Or.inr (Or.inr ⟨z, a⟩)
    · rintro (a | ⟨a, _⟩ | ⟨_, a⟩)
      · exact Or.inl a
      · exact absurd a z
      · exact Or.inr a
theorem e_isMate {mc ms : Nat} {M : zM} (hW : zFix M) {k s p w : Nat} (k1 : 1 ≤ k) (k5 : k ≤ 5) (hs : s < 64) (hp : p < 64) (hw : w < 64) (hP : pos5 k s p w false) {Q : zQt} (q1 : mate5 k s p w → ∀ K, zSm eC M K → Q (some (.int 1)) K) (q0 : ¬ mate5 k s p w → ∀ K, zSm eC M K → Q (some (.int 0)) K) : wX12_isMate mc ms [.ref 71, .int (nI k), .int (nI s), .int (nI p), .int (nI w)] M Q := by
  refine ⟨⟨Nat.le_of_ble_eq_true rfl, rfl⟩, fun X l0 l38 => ?_⟩
  refine l0 _ _ _ _ _ ⟨rfl, vX12_isMate_0 hW ?_⟩
  refine e_attacked hW k1 k5 hs hp hw hP.2.2.1 (fun a => ?_) (fun a => ?_)
  · refine vkX12_isMate_11 hW ⟨fun z => absurd z (by decide), fun _ => ?_⟩
    refine e_movesW hW k1 k5 hs hp hw (fun K L sm hK hm => ?_)
    have hWK := sm.fix hW
    refine vkX12_isMate_26 hWK ?_
    rw [hK.1]
    have e0 : nI L.length = 0 ↔ L.length = 0 := nI_eq (b := 0) (by have := hK.2.1; omega) (by decide)
    refine ⟨fun z => l38 _ _ _ _ _ ⟨rfl, vX12_isMate_38 hWK ⟨rfl, q1 ⟨hP, a, fun t ht hk hw2 => ?_⟩ K sm⟩⟩, fun z => l38 _ _ _ _ _ ⟨rfl, vX12_isMate_38 hWK ⟨rfl, q0 (fun h => z (e0.mpr ?_)) K sm⟩⟩⟩
    · have hL : L = [] := List.eq_nil_of_length_eq_zero (e0.mp z)
      rcases hw2 with ⟨u, v⟩ | u
      · have := (hm (w + 64 * t, 0, s, p, t)).mpr ⟨t, ht, hk, Or.inl ⟨u, v, rfl⟩⟩
        rw [hL] at this
        exact absurd this (by simp)
      · have := (hm (w + 64 * t, k, s, p, t)).mpr ⟨t, ht, hk, Or.inr ⟨u, rfl⟩⟩
        rw [hL] at this
        exact absurd this (by simp)
    · cases L with
      | nil => rfl
      | cons m L =>
        obtain ⟨t, ht, hk, hw2⟩ := (hm m).mp (by simp)
        refine absurd ?_ (h.2.2 t ht hk)
        rcases hw2 with ⟨u, v, _⟩ | ⟨u, _⟩
        · exact Or.inl ⟨u, v⟩
        · exact Or.inr u
  · exact vkX12_isMate_11 hW ⟨fun _ => q0 (fun h => a h.2.1) M zSm.rf, fun z => absurd rfl z⟩
