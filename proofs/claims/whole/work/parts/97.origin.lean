/-! THE CLASS'S SPELLER: origin -/
/-- signs as one number, the last one lowest -/
def tx (L : List Nat) : Nat := L.foldl (fun n x => 256 * n + x) 0
theorem tx_snoc (L : List Nat) (x : Nat) : tx (L ++ [x]) = 256 * tx L + x := by
  unfold tx
  rw [List.foldl_append]
  rfl
theorem bI_or (a b : Bool) : bI a ||| bI b = bI (a || b) := by cases a <;> cases b <;> decide
theorem mv_from {m : Nat} (h : m < 24576) : nI m &&& (63 : Int32) = nI (m % 64) := pk_andN (by omega) 6 (by decide)
theorem mv_to {m : Nat} (h : m < 24576) : (nI m >>> ((6 : Int32) &&& 31)) &&& (63 : Int32) = nI (m / 64 % 64) := by
  rw [pk_shrN (by omega) _ 6 (by decide), pk_andN (by omega) 6 (by decide)]
theorem mv_pr {m : Nat} (h : m < 24576) : nI m >>> ((12 : Int32) &&& 31) = nI (m / 4096) := pk_shrN (by omega) _ 12 (by decide)
theorem sum_pos {f : Nat → Nat} : ∀ L : List Nat, 0 < (L.map f).sum ↔ ∃ o ∈ L, 0 < f o
  | [] => ⟨fun h => absurd h (by simp), fun ⟨o, h, _⟩ => absurd h List.not_mem_nil⟩
  | a :: t => by
    rw [List.map_cons, List.sum_cons]
    have ih := sum_pos (f := f) t
    constructor
    · intro h
      by_cases q : 0 < f a
      · exact ⟨a, List.mem_cons_self, q⟩
      · obtain ⟨o, ho, hf⟩ := ih.mp (by omega)
        exact ⟨o, List.mem_cons_of_mem _ ho, hf⟩
    · rintro ⟨o, ho, hf⟩
      rcases List.mem_cons.mp ho with q | q
      · rw [q] at hf; omega
      · have := ih.mpr ⟨o, q, hf⟩
        omega
theorem rvs_pos {P : Ps} {m w : Nat} : 0 < rvs P m w ↔ ∃ o ∈ mvs P, rvP P m w o := by
  unfold rvs
  rw [sum_pos]
  constructor
  · rintro ⟨o, ho, hf⟩
    refine ⟨o, ho, ?_⟩
    unfold rvN at hf
    by_cases q : rvP P m w o
    · exact q
    · rw [if_neg q] at hf; omega
  · rintro ⟨o, ho, hf⟩
    refine ⟨o, ho, ?_⟩
    unfold rvN
    rw [if_pos hf]
    omega
/-- among the first k of the list there is a rival of this kind -/
def rvK (P : Ps) (m w k : Nat) : Prop := ∃ j o, j < k ∧ (mvs P)[j]? = some o ∧ rvP P m w o
theorem rvK_step {P : Ps} {m w k o : Nat} (hk : (mvs P)[k]? = some o) : rvK P m w (k + 1) ↔ rvK P m w k ∨ rvP P m w o := by
  constructor
  · rintro ⟨j, u, hj, hu, hr⟩
    by_cases q : j = k
    · rw [q, hk] at hu; cases hu; exact Or.inr hr
    · exact Or.inl ⟨j, u, by omega, hu, hr⟩
  · rintro (⟨j, u, hj, hu, hr⟩ | hr)
    · exact ⟨j, u, by omega, hu, hr⟩
    · exact ⟨k, o, by omega, hk, hr⟩
theorem rvK_all {P : Ps} {m w : Nat} : rvK P m w (mvs P).length ↔ 0 < rvs P m w := by
  rw [rvs_pos]
  constructor
  · rintro ⟨j, u, hj, hu, hr⟩; exact ⟨u, List.mem_of_getElem? hu, hr⟩
  · rintro ⟨o, ho, hr⟩
    obtain ⟨j, hj, e⟩ := List.mem_iff_getElem.mp ho
    exact ⟨j, o, hj, by rw [List.getElem?_eq_getElem hj, e], hr⟩
set_option maxHeartbeats 4000000 in
theorem c_origin {mc ms : Nat} {M : zM} {g : Nat} (hW : zWd M g) {P : Ps} (hG : Gd P) (hP : bPs M g P) (hL : gLs M g P) {i m : Nat} (hi : (mvs P)[i]? = some m) {lt : Nat} {Q : zQt} (hq : Q (some (.long (jN (tx (lt :: orgL P m))))) M) : wX9_origin mc ms [.ref 25, .ref g, .int (nI i), .long (jN lt)] M Q := by
  refine ⟨⟨Nat.le_of_ble_eq_true rfl, rfl⟩, fun X l0 l37 l129 l152 l155 l179 l196 l218 => ?_⟩
  have hO := hG.1
  have hLen := Gd_len hG
  have hmem := List.mem_of_getElem? hi
  have hil : i < (mvs P).length := (List.getElem?_eq_some_iff.mp hi).1
  have hml := mvs_lt hmem
  obtain ⟨ha, hb, -, -, -⟩ := mvs_parts hmem
  obtain ⟨a, ea⟩ : ∃ a, a = m % 64 := ⟨_, rfl⟩
  obtain ⟨b, eb⟩ : ∃ b, b = m / 64 % 64 := ⟨_, rfl⟩
  rw [← ea] at ha
  rw [← eb] at hb
  -- behind the loop
  have f218 : ∀ y : Int64, y = jN (tx (lt :: orgL P m)) → X 218 0 0 [.long y] [] M := fun y hy => l218 _ _ _ _ _ ⟨rfl, vX9_origin_218 hW (by rw [hy]; exact hq)⟩
  have eFile : (97 : Int32) + (nI a &&& (7 : Int32)) = nI (97 + a % 8) := by rw [and7 ha]; exact nI_add 97 _
  have eRank : (49 : Int32) + (nI a / (8 : Int32)) = nI (49 + a / 8) := by rw [show nI a / (8 : Int32) = nI (a / 8) from pk_div (by omega) (by decide) (by decide)]; exact nI_add 49 _
  have f196 : ∀ (L : List Nat) (f : Bool), (f = true → lt :: orgL P m = L ++ [49 + a / 8]) → (f = false → lt :: orgL P m = L) → X 196 0 0 [.int (nI a), .int (bI f), .long (jN (tx L))] [] M := by
    intro L f h1 h0
    refine l196 _ _ _ _ _ ⟨rfl, vX9_origin_196 hW ?_⟩
    rw [eRank]
    refine ⟨fun w => f218 _ (by rw [h0 (bI_0.mp w)]), fun w => fun y ey => f218 _ ?_⟩
    rw [ey, jN_cat _ _ (by omega), h1 (bI_n.mp w), tx_snoc]
  have f179 : ∀ (L : List Nat) (f : Bool), (f = true → lt :: orgL P m = L ++ [97 + a % 8] ++ [49 + a / 8]) → (f = false → lt :: orgL P m = L ++ [97 + a % 8]) → X 179 0 0 [.int (nI a), .int (bI f), .long (jN (tx L))] [] M := by
    intro L f h1 h0
    refine l179 _ _ _ _ _ ⟨rfl, vX9_origin_179 hW ?_⟩
    rw [eFile]
    intro y ey
    rw [ey, jN_cat _ _ (by omega), ← tx_snoc]
    exact f196 (L ++ [97 + a % 8]) f h1 h0
  have loop : ∀ (r k : Nat) (x7 x8 x9 : Bool), k + r = (mvs P).length → (x7 = true ↔ rvK P m 0 k) → (x8 = true ↔ rvK P m 1 k) → (x9 = true ↔ rvK P m 2 k) → X 37 0 0 [.ref g, .long (jN lt), .int (nI a), .int (nI b), .int (bI x7), .int (bI x8), .int (bI x9), .int (nI k)] [] M := by
    intro r
    induction r with
    | zero =>
      intro k x7 x8 x9 hk h7 h8 h9
      obtain rfl : k = (mvs P).length := by omega
      rw [rvK_all] at h7 h8 h9
      refine l37 _ _ _ _ _ ⟨rfl, vX9_origin_37 hW ?_⟩
      rw [hL.1]
      refine ⟨fun _ => ?_, fun w => absurd ((nI_leI (a := (mvs P).length) (b := (mvs P).length) (by omega) (by omega)).mpr (Nat.le_refl _)) w⟩
      have g1 : 0 < rvs P m 1 → 0 < rvs P m 0 := fun h => by
        obtain ⟨o, ho, hr⟩ := rvs_pos.mp h
        exact rvs_pos.mpr ⟨o, ho, hr.1, Or.inl rfl⟩
      have et : ∀ L : List Nat, jN lt = jN (tx [lt]) := fun _ => by unfold tx; simp
      rw [et []]
      refine ⟨fun w7 => f196 [lt] x8 (fun q => ?_) (fun q => ?_), fun w7 => ⟨fun w8 => f179 [lt] x8 (fun q => ?_) (fun q => ?_), fun w8 => ⟨fun w9 => f196 [lt] x8 (fun q => ?_) (fun q => ?_), fun w9 => f179 [lt] x8 (fun q => ?_) (fun q => ?_)⟩⟩⟩
      · exact absurd (h7.mpr (g1 (h8.mp q))) (by rw [bI_0.mp w7]; decide)
      · have n0 : ¬ 0 < rvs P m 0 := fun z => by rw [h7.mpr z] at w7; exact absurd w7 (by decide)
        unfold orgL
        rw [if_neg n0]
      · rw [bI_0.mp w8] at q; exact absurd q (by decide)
      · have p0 := h7.mp (bI_n.mp w7)
        have n1 : rvs P m 1 = 0 := by
          by_cases z : 0 < rvs P m 1
          · rw [h8.mpr z] at q; exact absurd q (by decide)
          · omega
        unfold orgL
        rw [if_pos p0, if_pos (Or.inl n1), if_pos n1, ← ea]
        rfl
      · have p0 := h7.mp (bI_n.mp w7)
        have p1 := h8.mp q
        have n2 : rvs P m 2 = 0 := by
          by_cases z : 0 < rvs P m 2
          · rw [h9.mpr z] at w9; exact absurd w9 (by decide)
          · omega
        unfold orgL
        rw [if_pos p0, if_neg (by omega), if_neg (by omega), ← ea]
        rfl
      · rw [q] at w8; exact absurd rfl w8
      · have p0 := h7.mp (bI_n.mp w7)
        have p1 := h8.mp q
        have p2 := h9.mp (bI_n.mp w9)
        unfold orgL
        rw [if_pos p0, if_pos (Or.inr (by omega)), if_neg (by omega), ← ea]
        rfl
      · rw [q] at w8; exact absurd rfl w8
    | succ r ih =>
      intro k x7 x8 x9 hk h7 h8 h9
      have hkl : k < (mvs P).length := by omega
      have hgk : (mvs P)[k]? = some (mvs P)[k] := List.getElem?_eq_getElem hkl
      have hmk := List.getElem_mem hkl
      obtain ⟨o, eo⟩ : ∃ o, o = (mvs P)[k] := ⟨_, rfl⟩
      rw [← eo] at hgk hmk
      have hol := mvs_lt hmk
      obtain ⟨hc, hd, -, -, -⟩ := mvs_parts hmk
      have s7 := rvK_step (m := m) (w := 0) hgk
      have s8 := rvK_step (m := m) (w := 1) hgk
      have s9 := rvK_step (m := m) (w := 2) hgk
      have f155 : ∀ (y7 y8 y9 : Bool), (y7 = true ↔ rvK P m 0 (k + 1)) → (y8 = true ↔ rvK P m 1 (k + 1)) → (y9 = true ↔ rvK P m 2 (k + 1)) → X 155 0 0 [.ref g, .long (jN lt), .int (nI a), .int (nI b), .int (bI y7), .int (bI y8), .int (bI y9), .int (nI k)] [] M := by
        intro y7 y8 y9 k7 k8 k9
        refine l155 _ _ _ _ _ ⟨rfl, vX9_origin_155 hW ?_⟩
        rw [nI_1]
        exact ih (k + 1) y7 y8 y9 (by omega) k7 k8 k9
      have fno : (¬ (o % 64 ≠ m % 64 ∧ o / 64 % 64 = m / 64 % 64 ∧ P.1 (o % 64) = P.1 (m % 64))) → X 155 0 0 [.ref g, .long (jN lt), .int (nI a), .int (nI b), .int (bI x7), .int (bI x8), .int (bI x9), .int (nI k)] [] M := by
        intro hn
        refine f155 x7 x8 x9 ?_ ?_ ?_
        · rw [h7, s7]; exact ⟨Or.inl, fun z => z.elim id (fun z => absurd z.1 hn)⟩
        · rw [h8, s8]; exact ⟨Or.inl, fun z => z.elim id (fun z => absurd z.1 hn)⟩
        · rw [h9, s9]; exact ⟨Or.inl, fun z => z.elim id (fun z => absurd z.1 hn)⟩
      have e1 := mv_from hol
      have e2 := mv_to hol
      have eq1 := nI_eq (a := o % 64) (b := a) (by omega) (by omega)
      have eq2 := nI_eq (a := o / 64 % 64) (b := b) (by omega) (by omega)
      have hBo := hP.1.1 (o % 64) hc
      have hBa := hP.1.1 a ha
      have eq3 := nI_eq (a := P.1 (o % 64)) (b := P.1 a) (by omega) (by omega)
      have eq4 := nI_eq (a := o % 64 % 8) (b := a % 8) (by omega) (by omega)
      have eq5 := nI_eq (a := o % 64 / 8) (b := a / 8) (by omega) (by omega)
      refine l37 _ _ _ _ _ ⟨rfl, vX9_origin_37 hW ?_⟩
      rw [hL.1, nI_clamp (by omega), hL.2 k o hgk, e1, e2]
      refine ⟨fun w => absurd ((nI_leI (a := (mvs P).length) (b := k) (by omega) (by omega)).mp w) (by omega), fun _ => ⟨vp_in_nI (by omega) (by omega), fun y ey => ?_⟩⟩
      subst ey
      rw [nI_clamp (by omega), nI_clamp (by omega), hBo.1, hBa.1, and7 hc, and7 ha]
      have key : o % 64 ≠ m % 64 ∧ o / 64 % 64 = m / 64 % 64 ∧ P.1 (o % 64) = P.1 (m % 64) → ∀ (f : Bool), (f = true ↔ o % 64 % 8 = a % 8) → X 129 0 0 [.ref g, .long (jN lt), .int (nI a), .int (nI b), .int 1, .int (bI x9), .int (nI k), .int (nI (o % 64))] [.int (bI f), .int (bI x8)] M := by
        intro hy f hf
        refine l129 _ _ _ _ _ ⟨rfl, vX9_origin_129 hW ?_⟩
        rw [show nI (o % 64) / (8 : Int32) = nI (o % 64 / 8) from pk_div (by omega) (by decide) (by decide), show nI a / (8 : Int32) = nI (a / 8) from pk_div (by omega) (by decide) (by decide), bI_or]
        have fin : ∀ q : Bool, (q = true ↔ o % 64 / 8 = a / 8) → X 152 0 0 [.ref g, .long (jN lt), .int (nI a), .int (nI b), .int 1, .int (bI (x8 || f)), .int (nI k)] [.int (bI q), .int (bI x9)] M := by
          intro q hqq
          refine l152 _ _ _ _ _ ⟨rfl, vX9_origin_152 hW ?_⟩
          rw [bI_or]
          refine f155 true (x8 || f) (x9 || q) ?_ ?_ ?_
          · rw [s7]; exact ⟨fun _ => Or.inr ⟨hy, Or.inl rfl⟩, fun _ => rfl⟩
          · rw [Bool.or_eq_true, h8, s8, hf]
            constructor
            · rintro (z | z)
              · exact Or.inl z
              · exact Or.inr ⟨hy, Or.inr (Or.inl ⟨rfl, by rw [z, ea]⟩)⟩
            · rintro (z | ⟨-, z | z | z⟩)
              · exact Or.inl z
              · omega
              · exact Or.inr (by rw [ea]; exact z.2)
              · omega
          · rw [Bool.or_eq_true, h9, s9, hqq]
            constructor
            · rintro (z | z)
              · exact Or.inl z
              · exact Or.inr ⟨hy, Or.inr (Or.inr ⟨rfl, by rw [z, ea]⟩)⟩
            · rintro (z | ⟨-, z | z | z⟩)
              · exact Or.inl z
              · omega
              · omega
              · exact Or.inr (by rw [ea]; exact z.2)
        exact ⟨fun w => fin true ⟨fun _ => eq5.mp w, fun _ => rfl⟩, fun w => fin false ⟨fun z => absurd z (by decide), fun z => absurd (eq5.mpr z) w⟩⟩
      refine ⟨fun w => fno (fun z => z.1 (by rw [← ea]; exact eq1.mp w)), fun w => ⟨vp_in_nI (by omega) (by omega), fun w2 => ⟨vp_in_nI (by omega) (by omega), vp_in_nI (by omega) (by omega), fun w3 => ?_, fun w3 => fno (fun z => w3 (eq3.mpr (by rw [ea]; exact z.2.2)))⟩, fun w2 => fno (fun z => w2 (eq2.mpr (by rw [eb]; exact z.2.1)))⟩⟩
      have hy : o % 64 ≠ m % 64 ∧ o / 64 % 64 = m / 64 % 64 ∧ P.1 (o % 64) = P.1 (m % 64) := ⟨fun z => w (eq1.mpr (by rw [ea]; exact z)), by rw [← eb]; exact eq2.mp w2, by rw [← ea]; exact eq3.mp w3⟩
      exact ⟨fun w4 => key hy true ⟨fun _ => eq4.mp w4, fun _ => rfl⟩, fun w4 => key hy false ⟨fun z => absurd z (by decide), fun z => absurd (eq4.mpr z) w4⟩⟩
  refine l0 _ _ _ _ _ ⟨rfl, vX9_origin_0 hW ?_⟩
  rw [nI_clamp (by omega), hL.2 i m hi, mv_from hml, mv_to hml]
  refine ⟨vp_in_nI (by omega) (by omega), fun y9 e9 => ⟨vp_in_nI (by omega) (by omega), fun y23 e23 => ?_⟩⟩
  rw [e9, e23, ← ea, ← eb]
  have n0 : ∀ w, false = true ↔ rvK P m w 0 := fun w => ⟨fun z => absurd z (by decide), fun ⟨j, o, hj, _⟩ => absurd hj (Nat.not_lt_zero _)⟩
  exact loop (mvs P).length 0 false false false (by omega) (n0 0) (n0 1) (n0 2)
