/-! THE CLASS'S ENDINGS: what a pawn becomes; a table is finished -/
def bT (T : Nat → Nat → Nat → Prop) (N c : Nat) : Nat → Nat → Nat → Prop := fun s p w => T s p w ∨ (64 * p + s < c ∧ pos5 1 s p w true ∧ (¬ ∃ d, d < N ∧ isD 1 s p w true d) ∧ bcm 1 s p w (N - 1))
set_option maxHeartbeats 2000000 in
theorem c_stepBecoming {mc ms : Nat} {M : zM} {g : Nat} (hW : zWd M g) {e N : Nat} (hE : eSh M e) (hn : N < 64) (hN : N % 2 = 1) (hc : canR M e 1 true) {T : Nat → Nat → Nat → Prop} (hT : kR M e 1 N true T) {a b : Nat} (ra : M.2.2.1 e 2 = some a) (rb : M.2.2.1 e 3 = some b) (ha : eSh M a) (hb : eSh M b) (la : a + 7 < e) (lb : b + 7 < e) (ka : kR M a 5 100 false noT) (kb : kR M b 4 100 false noT) {Q : zQt} (hq : ∀ K r, zSm [e + 5, e + 7] M K → (∀ i, i < 20480 → K.2.1 (e + 7) i = M.2.1 (e + 7) i) → kR K e 1 N true (bT T N 4096) → (anT (bT T N 4096) ↔ anT T ∨ r = true) → Q (some (.int (bI r))) K) : wX2_stepBecoming mc ms [.ref e, .int (nI N)] M Q := by
  refine ⟨⟨Nat.le_of_ble_eq_true rfl, rfl⟩, fun X l0 l6 l65 => ?_⟩
  have loop : ∀ (n c : Nat) (K : zM) (r : Bool), c + n = 3584 → 3072 ≤ c → zSm [e + 5, e + 7] M K → (∀ i, i < 20480 → K.2.1 (e + 7) i = M.2.1 (e + 7) i) → kR K e 1 N true (bT T N c) → (anT (bT T N c) ↔ anT T ∨ r = true) → X 6 0 0 [.ref e, .int (nI N), .int (bI r), .int (nI c)] [] K := by
    intro n
    induction n with
    | zero =>
      intro c K r hcn c1 sK iK vK hr
      have hcn : c = 3584 := by omega
      subst hcn
      have te : ∀ s p w, s < 64 → (bT T N 3584 s p w ↔ bT T N 4096 s p w) := fun s p w hs => by
        unfold bT
        refine or_congr_right ?_
        constructor
        · rintro ⟨a, b⟩; exact ⟨by omega, b⟩
        · rintro ⟨a, b, c, d⟩
          exact ⟨by have := d.2.1; omega, b, c, d⟩
      refine l6 _ _ _ _ _ ⟨rfl, vX2_stepBecoming_6 (sK.wd hW) ((hE.sm sK).1) ⟨fun _ => ⟨by cases r <;> rfl, hq K r sK iK (vK.congr (fun s p w hs _ _ => te s p w hs)) ?_⟩, fun c => absurd (by decide) c⟩⟩
      rw [← hr]
      unfold anT
      exact exists_congr (fun s2 => exists_congr (fun p2 => exists_congr (fun w => and_congr_right (fun hs2 => and_congr_right (fun _ => and_congr_right (fun _ => (te s2 p2 w hs2).symm))))))
    | succ n ih =>
      intro c K r hcn c1 sK iK vK hr
      obtain ⟨p, s, hp, hs, ec⟩ : ∃ p s, p < 56 ∧ s < 64 ∧ c = 64 * p + s := ⟨c / 64, c % 64, by omega, by omega, by omega⟩
      have p48 : 48 ≤ p := by omega
      have WK := sK.wd hW
      have EK := hE.sm sK
      have oth : ∀ {x : Nat}, x + 7 < e → ∀ i, i ≤ 7 → K.2.1 (x + i) = M.2.1 (x + i) := fun h i hi => sK.j (by simp; omega)
      have kR2 : ∀ {x k : Nat}, x + 7 < e → kR M x k 100 false noT → kR K x k 100 false noT := fun {x k} h q => q.of (by rw [if_neg (by decide)]; exact oth h 3 (by omega)) (fun i _ => by rw [oth h 7 (by omega)])
      refine l6 _ _ _ _ _ ⟨rfl, vX2_stepBecoming_6 WK EK.1 ⟨fun z => absurd ((nI_leI (a := 3584) (by decide) (by omega)).mp z) (by omega), fun _ => ⟨a, by rw [sK.1]; exact ra, (ha.sm sK).1, ?_⟩⟩⟩
      rw [show nI c + (512 : Int32) = nI (64 * (p + 8) + s) from (nI_add _ 512).trans (by rw [show c + 512 = 64 * (p + 8) + s by omega]), show nI N - (1 : Int32) = nI (N - 1) from pk_sub (a := N) (b := 1) (by omega)]
      refine c_lostIn WK (k := 5) (by omega) (by omega) (ha.sm sK) (by omega) (by omega) (kR2 la ka) hs (by omega) (fun x hx => ?_)
      refine vkX2_stepBecoming_28 WK EK.1 ⟨b, by rw [sK.1]; exact rb, (hb.sm sK).1, ?_⟩
      rw [show nI c + (512 : Int32) = nI (64 * (p + 8) + s) from (nI_add _ 512).trans (by rw [show c + 512 = 64 * (p + 8) + s by omega]), show nI N - (1 : Int32) = nI (N - 1) from pk_sub (a := N) (b := 1) (by omega)]
      refine c_lostIn WK (k := 4) (by omega) (by omega) (hb.sm sK) (by omega) (by omega) (kR2 lb kb) hs (by omega) (fun y hy => ?_)
      refine vkX2_stepBecoming_43 WK EK.1 ?_
      rw [ec]
      have cn2 : canR K e 1 true := fun s3 p3 w hs3 hp3 hw => by
        rw [if_pos rfl, sK.j (by simp)]
        have := hc s3 p3 w hs3 hp3 hw
        rw [if_pos rfl] at this
        exact this
      refine gain_s WK EK hn hN cn2 vK hs (by omega) _ (T2 := bT T N (c + 1)) (fun s3 p3 w hs3 hp3 hw => ?_) (fun K3 r3 s3 i3 v3 h3 => ?_)
      · rw [bt_or, Bool.or_eq_true, hx w hw, hy w hw]
        unfold bT
        constructor
        · rintro (h | ⟨h1, h2, h3, h4⟩)
          · exact Or.inl (Or.inl h)
          · by_cases z : 64 * p3 + s3 = c
            · obtain ⟨z1, z2⟩ := slot_inj hs3 hs (z.trans ec)
              subst z1; subst z2
              exact Or.inr ⟨rfl, rfl, h4.2.2, h2, h3⟩
            · exact Or.inl (Or.inr ⟨by omega, h2, h3, h4⟩)
        · rintro ((h | ⟨h1, h2, h3, h4⟩) | ⟨z1, z2, h1, h2, h3⟩)
          · exact Or.inl h
          · exact Or.inr ⟨by omega, h2, h3, h4⟩
          · subst z1; subst z2
            exact Or.inr ⟨by omega, h2, h3, rfl, by omega, h1⟩
      · rw [← ec]
        have sM3 := sK.tr s3
        have W3 := sM3.wd hW
        have E3 := hE.sm sM3
        have fin : ∀ b3 : Bool, (b3 = true ↔ ¬ lg_cmp r3 0 = 0) → X 65 0 0 [.ref e, .int (nI N), .int (nI c)] [.int (bI b3), .int (bI r)] K3 := fun b3 hb3 => by
          refine l65 _ _ _ _ _ ⟨rfl, vX2_stepBecoming_65 W3 E3.1 ?_⟩
          rw [bI_or, show nI c + (1 : Int32) = nI (c + 1) from nI_add _ 1]
          refine ih (c + 1) K3 (r || b3) (by omega) (by omega) sM3 (fun i hi => by rw [i3 i hi]; exact iK i hi) v3 ?_
          rw [h3, hr, Bool.or_eq_true, hb3, or_assoc]
        exact vkX2_stepBecoming_55 W3 E3.1 ⟨fun z => fin false ⟨fun q => absurd q (by decide), fun q => absurd z q⟩, fun z => fin true ⟨fun _ => z, fun _ => rfl⟩⟩
  have te : ∀ s p w, s < 64 → p < 64 → (T s p w ↔ bT T N 3072 s p w) := fun s p w hs hp => by
    unfold bT
    constructor
    · intro h; exact Or.inl h
    · rintro (h | ⟨a, b, c, d⟩)
      · exact h
      · have := d.2.1; omega
  refine l0 _ _ _ _ _ ⟨rfl, vX2_stepBecoming_0 hW hE.1 (loop 512 3072 M false (by omega) (by omega) zSm.rf (fun _ _ => rfl) (hT.congr (fun s p w hs hp _ => te s p w hs hp)) ?_)⟩
  constructor
  · rintro ⟨s, p, w, hs, hp, hw, h⟩
    exact Or.inl ⟨s, p, w, hs, hp, hw, (te s p w hs hp).mpr h⟩
  · rintro (⟨s, p, w, hs, hp, hw, h⟩ | h)
    · exact ⟨s, p, w, hs, hp, hw, (te s p w hs hp).mp h⟩
    · exact absurd h (by decide)
/-- a table that is finished -/
def eFin (M : zM) (e k : Nat) : Prop := eSh M e ∧ M.1 e 1 = nI k ∧ kR M e k 100 true noT ∧ kR M e k 100 false noT ∧ ∃ L, L < 64 ∧ M.1 e 11 = nI L ∧ ∀ s p w sm d, s < 64 → p < 64 → w < 64 → isD k s p w sm d → d ≤ L
theorem kR.full {M : zM} {e k n : Nat} {sm : Bool} (h : kR M e k n sm noT) (hn : n ≤ 100) (hd : ∀ d, n ≤ d → nDa k d) : kR M e k 100 sm noT := fun s p w hs hp hw => by
  obtain ⟨a, b⟩ := h s p w hs hp hw
  have lt : ∀ d, isD k s p w sm d → d < n := fun d q => by
    rcases Nat.lt_or_ge d n with z | z
    · exact z
    · exact absurd q (hd d z s p w sm hs hp hw)
  refine ⟨?_, fun j hj => ?_⟩
  · rw [a]
    refine or_congr_left ?_
    exact ⟨fun ⟨d, x, y⟩ => ⟨d, by omega, y⟩, fun ⟨d, x, y⟩ => ⟨d, lt d y, y⟩⟩
  · rw [b j hj]
    constructor
    · rintro (⟨d, x, y⟩ | ⟨q, _⟩)
      · exact Or.inl ⟨d, by omega, y⟩
      · exact absurd q id
    · rintro (⟨d, x, y⟩ | ⟨q, _⟩)
      · exact Or.inl ⟨d, lt d y.1, y⟩
      · exact absurd q id
theorem no_23t {k s p w n : Nat} {sm : Bool} (hk : k = 2 ∨ k = 3) (hs : s < 64) (hp : p < 64) (hw : w < 64) : ¬ isD k s p w sm n := fun h => by
  cases sm with
  | false => exact no_23 hk hs hp hw h
  | true =>
    obtain ⟨m, a, b, c⟩ := isD_t.mp h
    have hP := isD_pos h
    obtain ⟨x, hx, hD⟩ := (rd_S (by omega) (by omega) hs hp hw hP c).mp b
    have bd := stM_bd hs hp hw hP.2.2.2.2.1 hx
    rcases bd.1 with e | e
    · rw [e] at hD
      exact no_23 hk bd.2.1 bd.2.2.1 bd.2.2.2 hD
    · omega
/-- how a table stands before step n -/
def bS (M : zM) (e k n : Nat) : Prop := eSh M e ∧ M.1 e 1 = nI k ∧ hiR M e k ∧ (canR M e k true ∧ canR M e k false) ∧ (kR M e k n true noT ∧ kR M e k n false noT) ∧ fR M e k (if n % 2 = 1 then n - 1 else n - 2) ∧ ∃ L, L < n ∧ M.1 e 11 = nI L ∧ ∀ s p w sm d, s < 64 → p < 64 → w < 64 → isD k s p w sm d → d < n → d ≤ L
theorem bS.fin {M : zM} {e k n : Nat} (h : bS M e k n) (hn : n ≤ 64) (hd : ∀ d, n ≤ d → nDa k d) : eFin M e k := by
  obtain ⟨a1, a2, a3, a4, a5, a6, L, a7, a8, a9⟩ := h
  refine ⟨a1, a2, a5.1.full (by omega) hd, a5.2.full (by omega) hd, L, by omega, a8, fun s p w sm d hs hp hw q => a9 s p w sm d hs hp hw q ?_⟩
  rcases Nat.lt_or_ge d n with z | z
  · exact z
  · exact absurd q (hd d z s p w sm hs hp hw)
