/-! THE CLASS'S ENDINGS: a table is made ready -/
def cKn (M : zM) (kn : Nat → Bool) : Prop := ∀ k, (k = 1 ∨ k = 4 ∨ k = 5) → (kn k = false → M.2.2.1 34 k = none) ∧ (kn k = true → ∃ e, M.2.2.1 34 k = some e ∧ eFin M e k)
theorem cKn.congr {M : zM} {kn kn2 : Nat → Bool} (h : ∀ j, 1 ≤ j → j ≤ 5 → kn j = kn2 j) (g : cKn M kn) : cKn M kn2 := fun k kk => by rw [← h k (by omega) (by omega)]; exact g k kk
theorem eFin.len {M : zM} {e k : Nat} (h : eFin M e k) : e + 7 < M.2.2.2.length := (List.getElem?_eq_some_iff.mp h.1.2.2.2.1.2.2.2.2.2.2).1
/-- a table stays as it is -/
theorem eFin.fr {M K : zM} {x k : Nat} (h : eFin M x k) (hs : ∀ b sh, zsh M b = some sh → zsh K b = some sh) (hi : ∀ b, x ≤ b → b ≤ x + 7 → K.1 b = M.1 b ∧ K.2.1 b = M.2.1 b ∧ K.2.2.1 b = M.2.2.1 b) : eFin K x k := by
  obtain ⟨a1, a2, a3, a4, L, a5, a6, a7⟩ := h
  have h0 := hi x (by omega) (by omega)
  refine ⟨?_, by rw [h0.1]; exact a2, a3.of (by rw [if_pos rfl]; exact (hi (x + 5) (by omega) (by omega)).2.1) (fun i _ => by rw [(hi (x + 7) (by omega) (by omega)).2.1]), a4.of (by rw [if_neg (by decide)]; exact (hi (x + 3) (by omega) (by omega)).2.1) (fun i _ => by rw [(hi (x + 7) (by omega) (by omega)).2.1]), L, a5, by rw [h0.1]; exact a6, a7⟩
  obtain ⟨b1, b2, b3, ⟨c1, c2, c3, c4, c5, c6, c7⟩, b5⟩ := a1
  refine ⟨hs _ _ b1, by rw [h0.2.2]; exact b2, by rw [h0.2.2]; exact b3, ⟨hs _ _ c1, hs _ _ c2, hs _ _ c3, hs _ _ c4, hs _ _ c5, hs _ _ c6, hs _ _ c7⟩, b5⟩
theorem cKn.fr {C : List Nat} {M K : zM} (hW : zFix M) {kn : Nat → Bool} (h : cKn M kn) (f : xFr C M K) (hC : (∀ b ∈ C, b < 82) ∧ 34 ∉ C) : cKn K kn := fun k kk => by
  have l82 := fix_len hW
  have e34 : K.2.2.1 34 = M.2.2.1 34 := (f.2.2.2 34 hC.2 (Or.inl (by omega))).2.2
  refine ⟨fun z => by rw [e34]; exact (h k kk).1 z, fun z => ?_⟩
  obtain ⟨e, a, b⟩ := (h k kk).2 z
  have el := b.len
  have e82 := b.1.2.2.2.2
  exact ⟨e, by rw [e34]; exact a, b.fr f.2.1 (fun c h1 h2 => f.2.2.2 c (fun q => by have := hC.1 c q; omega) (Or.inl (by omega)))⟩
theorem pr_mem {M K : zM} {e k : Nat} {q r : Option Nat} (he : e = M.2.2.2.length) (e82 : 82 ≤ e) (h : iS (eN0 (zNew M (0, 2)) e k q r) K e 7) : eSh K e ∧ (K.1 e 1 = nI k ∧ K.1 e 11 = 0) ∧ (∀ c i, e + 1 ≤ c → c ≤ e + 7 → K.2.1 c i = 0) ∧ (K.2.2.1 e 2 = q ∧ K.2.2.1 e 3 = r) ∧ (∀ b, b < e ∨ e + 8 ≤ b → K.1 b = M.1 b ∧ K.2.1 b = M.2.1 b ∧ K.2.2.1 b = M.2.2.1 b) ∧ (∀ b x, zsh M b = some x → zsh K b = some x) ∧ K.2.2.2.length = e + 8 := by
  obtain ⟨N, hN⟩ : ∃ N, N = eN0 (zNew M (0, 2)) e k q r := ⟨_, rfl⟩
  rw [← hN] at h
  have N1 : N.2.2.2 = M.2.2.2 ++ [(0, 2)] := by rw [hN]; rfl
  have Nr : ∀ b j, N.2.2.1 b j = if b = e then (if j = 3 then r else if j = 2 then q else if j = 0 then some 17 else none) else M.2.2.1 b j := fun b j => by
    rw [hN]
    show z2 (z2 (z2 (fun b i => if b = M.2.2.2.length then none else M.2.2.1 b i) e 0 (some 17)) e 2 q) e 3 r b j = _
    unfold z2
    rw [← he]
    by_cases z : b = e
    · simp only [if_pos z]
    · simp only [if_neg z]
  have Ni : ∀ b i, N.1 b i = if b = e then (if i = 1 then nI k else 0) else M.1 b i := fun b i => by
    rw [hN]
    show z2 (fun b i => if b = M.2.2.2.length then 0 else M.1 b i) e 1 (nI k) b i = _
    unfold z2
    rw [← he]
    by_cases z : b = e
    · simp only [if_pos z]
    · simp only [if_neg z]
  have Nj : ∀ b i, N.2.1 b i = if b = e then 0 else M.2.1 b i := fun b i => by
    rw [hN]
    show (if b = M.2.2.2.length then 0 else M.2.1 b i) = _
    rw [← he]
  have NL : N.2.2.2.length = e + 1 := by rw [N1, List.length_append, ← he]; rfl
  have len := h.len NL
  obtain ⟨h1, h2, h3, h4⟩ := h
  have sh : ∀ i, i < 7 → zsh K (e + 1 + i) = some (2, eSz i) := fun i hi => by
    unfold zsh
    rw [h1, List.getElem?_append_right (by omega), NL, show e + 1 + i - (e + 1) = i by omega, List.getElem?_map, List.getElem?_range hi]
    rfl
  have she : zsh K e = some (0, 2) := by
    unfold zsh
    rw [h1, List.getElem?_append_left (by omega), N1, he, List.getElem?_append_right (Nat.le_refl _), Nat.sub_self]
    rfl
  have Kr : ∀ j, K.2.2.1 e j = if 4 ≤ j ∧ j < 11 then some (e + 1 + (j - 4)) else N.2.2.1 e j := fun j => by
    rw [h4]
    show (if e = e ∧ 4 ≤ j ∧ j < 4 + 7 then some (e + 1 + (j - 4)) else if e + 1 ≤ e ∧ e < e + 1 + 7 then none else N.2.2.1 e j) = _
    by_cases z : 4 ≤ j ∧ j < 11
    · rw [if_pos ⟨rfl, z⟩, if_pos z]
    · rw [if_neg (fun q => z q.2), if_neg (by omega), if_neg z]
  have Ki : ∀ i, K.1 e i = N.1 e i := fun i => by
    rw [h2]
    show (if e + 1 ≤ e ∧ e < e + 1 + 7 then 0 else N.1 e i) = _
    rw [if_neg (by omega)]
  refine ⟨⟨she, ?_, ⟨?_, ?_, ?_, ?_, ?_, ?_, ?_⟩, ⟨?_, ?_, ?_, ?_, ?_, ?_, ?_⟩, e82⟩, ⟨?_, ?_⟩, fun c i a b => ?_, ⟨?_, ?_⟩, fun b hb => ⟨funext (fun i => ?_), funext (fun i => ?_), funext (fun j => ?_)⟩, fun b x hb => ?_, by omega⟩
  · rw [Kr, if_neg (by omega), Nr, if_pos rfl]; rfl
  · rw [Kr, if_pos (by omega)]
  · rw [Kr, if_pos (by omega)]
  · rw [Kr, if_pos (by omega)]
  · rw [Kr, if_pos (by omega)]
  · rw [Kr, if_pos (by omega)]
  · rw [Kr, if_pos (by omega)]
  · rw [Kr, if_pos (by omega)]
  · exact sh 0 (by omega)
  · exact sh 1 (by omega)
  · exact sh 2 (by omega)
  · exact sh 3 (by omega)
  · exact sh 4 (by omega)
  · exact sh 5 (by omega)
  · exact sh 6 (by omega)
  · rw [Ki, Ni, if_pos rfl]; rfl
  · rw [Ki, Ni, if_pos rfl]; rfl
  · rw [h3]
    show (if e + 1 ≤ c ∧ c < e + 1 + 7 then (0 : Int64) else N.2.1 c i) = 0
    rw [if_pos (by omega)]
  · rw [Kr, if_neg (by omega), Nr, if_pos rfl]; rfl
  · rw [Kr, if_neg (by omega), Nr, if_pos rfl]; rfl
  · rw [h2]
    show (if e + 1 ≤ b ∧ b < e + 1 + 7 then 0 else N.1 b i) = _
    rw [if_neg (by omega), Ni, if_neg (by omega)]
  · rw [h3]
    show (if e + 1 ≤ b ∧ b < e + 1 + 7 then 0 else N.2.1 b i) = _
    rw [if_neg (by omega), Nj, if_neg (by omega)]
  · rw [h4]
    show (if b = e ∧ 4 ≤ j ∧ j < 4 + 7 then some (e + 1 + (j - 4)) else if e + 1 ≤ b ∧ b < e + 1 + 7 then none else N.2.2.1 b j) = _
    rw [if_neg (by omega), if_neg (by omega), Nr, if_neg (by omega)]
  · unfold zsh at hb ⊢
    have lt := (List.getElem?_eq_some_iff.mp hb).1
    rw [h1, List.getElem?_append_left (by omega), N1, List.getElem?_append_left lt]
    exact hb
set_option maxHeartbeats 2000000 in
theorem c_prepare {mc ms : Nat} {M : zM} {g : Nat} (hW : zWd M g) (hC : cOk M) {kn : Nat → Bool} (hK : cKn M kn) {k : Nat} (kk : k = 1 ∨ k = 4 ∨ k = 5) (hb : k = 1 → kn 4 = true ∧ kn 5 = true) (hrm : kn k = false → 8 ≤ mc ∧ 65548 ≤ ms) {Q : zQt} (hq : ∀ K, xFr [34] M K → cKn K (fun j => if j = k then true else kn j) → Q none K) : wX3_prepare mc ms [.ref 33, .int (nI k)] M Q := by
  refine ⟨⟨Nat.le_of_ble_eq_true rfl, rfl⟩, fun X l0 l19 l48 l62 l75 => ?_⟩
  have l82 := fix_len hW.1
  have v6 : vp_in (nI k) 6 := vp_in_nI (by omega) (by omega)
  have kc : (nI k).toNatClampNeg = k := nI_clamp (by omega)
  have f75 : ∀ (u v : Nat) (K : zM), xFr [34] M K → cKn K (fun j => if j = k then true else kn j) → X 75 u v [] [] K := fun u v K a b => l75 _ _ _ _ _ ⟨rfl, hq K a b⟩
  refine l0 _ _ _ _ _ ⟨rfl, ⟨fxs_33 hW.1, 34, fxr_33_1 hW.1, ⟨6, fxs_34 hW.1, v6, ?_⟩⟩⟩
  show znl (zli 1 <| zc (.int 1) <| zic (fun x y => x = y) (zc (.int 1) <| zj X 19 [0, 1]) <| zc (.int 0) <| zj X 19 [0, 1]) (zj X 75 []) 0 0 [some (.ref 33), some (.int (nI k)), none] [zrf (M.2.2.1 34 (nI k).toNatClampNeg)] M
  rw [kc]
  cases hkn : kn k with
  | true =>
    obtain ⟨e, a, b⟩ := (hK k kk).2 hkn
    rw [a]
    refine f75 0 0 M (xFr.rf hW.1) (fun j jj => ?_)
    show ((if j = k then true else kn j) = false → _) ∧ ((if j = k then true else kn j) = true → _)
    by_cases z : j = k
    · rw [if_pos z]
      exact ⟨fun q => absurd q (by decide), fun _ => by rw [z]; exact ⟨e, a, b⟩⟩
    · rw [if_neg z]; exact hK j jj
  | false =>
    obtain ⟨hmc, hms⟩ := hrm hkn
    rw [(hK k kk).1 hkn]
    obtain ⟨e, he⟩ : ∃ e, e = M.2.2.2.length := ⟨_, rfl⟩
    have e82 : 82 ≤ e := by omega
    obtain ⟨M1, e1⟩ : ∃ M1, M1 = zNew M (0, 2) := ⟨_, rfl⟩
    have sh1 : ∀ b x, zsh M b = some x → zsh M1 b = some x := fun b x h => by
      rw [e1]
      unfold zsh at h ⊢
      show (M.2.2.2 ++ _)[b]? = _
      rw [List.getElem?_append_left (List.getElem?_eq_some_iff.mp h).1]
      exact h
    have r1 : ∀ b, b ≠ e → M1.2.2.1 b = M.2.2.1 b := fun b hb => by
      rw [e1]
      funext j
      show (if b = M.2.2.2.length then none else M.2.2.1 b j) = _
      rw [if_neg (by omega)]
    have W1 : zFix M1 := fix_x hW.1 sh1 (fun b j hb _ => by rw [r1 b (by omega)])
    have she1 : zsh M1 e = some (0, 2) := by
      rw [e1, he]
      unfold zsh
      show (M.2.2.2 ++ [_])[_]? = _
      rw [List.getElem?_append_right (Nat.le_refl _), Nat.sub_self]
      rfl
    have len1 : M1.2.2.2.length = e + 1 := by
      rw [e1, he]
      show (M.2.2.2 ++ [_]).length = _
      rw [List.length_append]
      rfl
    have zn2 : zN 2 = 12 := by decide
    -- behind the constructor
    have fin : ∀ (q r : Option Nat), ((k ≠ 1 ∧ q = none) ∨ (k = 1 ∧ ∃ a b, q = some a ∧ r = some b ∧ a + 7 < e ∧ b + 7 < e ∧ eFin M a 5 ∧ eFin M b 4)) → X 62 (0 + 1) (0 + zN 2) [.ref 33, .int (nI k)] [zrf r, zrf q, .int (nI k), .ref 17, .ref e, .ref e, .int (nI k), .ref 34] M1 := by
      intro q r hqr
      have hqr2 : ∀ K, iS (eN0 M1 e k q r) K e 7 → kX3_prepare_65 mc ms X Q (0 + 1 + 7) (0 + zN 2 + 65536) [some (.ref 33), some (.int (nI k)), none] [.ref e, .int (nI k), .ref 34] K := by
        intro K hI
        rw [e1] at hI
        obtain ⟨a1, ⟨a2, a3⟩, a4, ⟨a5, a6⟩, a7, a8, a9⟩ := pr_mem he e82 hI
        obtain ⟨K2, e2⟩ : ∃ K2, K2 = zsR K 34 (nI k).toNatClampNeg (some e) := ⟨_, rfl⟩
        have i2 : K2.1 = K.1 ∧ K2.2.1 = K.2.1 ∧ K2.2.2.2 = K.2.2.2 := by rw [e2]; exact ⟨rfl, rfl, rfl⟩
        have r2 : ∀ b j, K2.2.2.1 b j = if b = 34 ∧ j = k then some e else K.2.2.1 b j := fun b j => by
          rw [e2, kc]
          show z2 K.2.2.1 34 k (some e) b j = _
          unfold z2
          by_cases z : b = 34
          · rw [if_pos z]
            by_cases y : j = k
            · rw [if_pos y, if_pos ⟨z, y⟩]
            · rw [if_neg y, if_neg (fun q => y q.2)]
          · rw [if_neg z, if_neg (fun q => z q.1)]
        have r2' : ∀ b, b ≠ 34 → K2.2.2.1 b = K.2.2.1 b := fun b hb => funext (fun j => by rw [r2, if_neg (fun q => hb q.1)])
        have s2 : ∀ b x, zsh K b = some x → zsh K2 b = some x := fun b x h => by unfold zsh at h ⊢; rw [i2.2.2]; exact h
        have WK : zFix K := fix_x hW.1 a8 (fun b j hb _ => by rw [(a7 b (by omega)).2.2])
        have W2 : zFix K2 := fix_x WK s2 (fun b j hb hx => by rw [r2' b (fun q => hx (Or.inr (Or.inl q)))])
        have E2 : eSh K2 e := by
          obtain ⟨b1, b2, b3, ⟨c1, c2, c3, c4, c5, c6, c7⟩, b5⟩ := a1
          exact ⟨s2 _ _ b1, by rw [r2' e (by omega)]; exact b2, by rw [r2' e (by omega)]; exact b3, ⟨s2 _ _ c1, s2 _ _ c2, s2 _ _ c3, s2 _ _ c4, s2 _ _ c5, s2 _ _ c6, s2 _ _ c7⟩, b5⟩
        have C2 : cOk K2 := by
          unfold cOk cRay
          rw [i2.2.1, (a7 18 (by omega)).2.1, (a7 19 (by omega)).2.1, (a7 20 (by omega)).2.1, (a7 21 (by omega)).2.1, (a7 22 (by omega)).2.1, (a7 23 (by omega)).2.1]
          exact hC
        have fo : ∀ {x kx}, x + 7 < e → 82 ≤ x → eFin M x kx → eFin K2 x kx := fun {x kx} h h82 f => f.fr (fun b sh q => s2 _ _ (a8 b sh q)) (fun b h1 h2 => by
          have := a7 b (by omega)
          rw [i2.1, i2.2.1, r2' b (by omega)]
          exact this)
        refine ⟨6, a8 _ _ (fxs_34 hW.1), a1.1, v6, ⟨a8 33 _ (fxs_33 hW.1), 34, fxr_33_1 (M := zsR K 34 (nI k).toNatClampNeg (some e)) (by rw [← e2]; exact W2), ⟨6, a8 34 _ (fxs_34 hW.1), v6, e, ?_, ⟨Nat.le_of_ble_eq_true rfl, rfl, ?_, 0, 0, by omega, by rw [zn2]; omega, ?_⟩⟩⟩⟩
        · rw [← e2, r2, if_pos ⟨rfl, kc⟩]
        · rw [← e2]; exact E2.1
        · rw [← e2]
          refine c_build (g := g) ⟨W2, hW.2⟩ C2 E2 (by rw [i2.1]; exact a2) kk (fun c i h1 h2 => by rw [i2.2.1]; exact a4 c i h1 h2) (by rw [i2.1]; exact a3) ?_ (fun K3 s3 f3 => ?_)
          · rcases hqr with ⟨h1, h2⟩ | ⟨h1, a, b, h2, h3, h4, h5, h6, h7⟩
            · exact Or.inl ⟨h1, by rw [r2' e (by omega), a5]; exact h2⟩
            · exact Or.inr ⟨h1, a, b, by rw [r2' e (by omega), a5]; exact h2, by rw [r2' e (by omega), a6]; exact h3, h4, h5, fo h4 h6.1.2.2.2.2 h6, fo h5 h7.1.2.2.2.2 h7⟩
          · have sh3 : ∀ b x, zsh M b = some x → zsh K3 b = some x := fun b x h => by
              have := s2 _ _ (a8 b x h)
              unfold zsh at this ⊢
              rw [s3.1]; exact this
            have len3 : K3.2.2.2.length = e + 8 := by rw [s3.1, i2.2.2]; exact a9
            have oth : ∀ b, b ≠ 34 → b < e ∨ e + 8 ≤ b → K3.1 b = M.1 b ∧ K3.2.1 b = M.2.1 b ∧ K3.2.2.1 b = M.2.2.1 b := fun b h34 hb => by
              have nb : b ∉ eAll e := fun q => by simp at q; omega
              have := a7 b hb
              refine ⟨?_, ?_, ?_⟩
              · rw [s3.i nb, i2.1]; exact this.1
              · rw [s3.j nb, i2.2.1]; exact this.2.1
              · rw [s3.1, r2' b h34]; exact this.2.2
            refine f75 _ _ K3 ⟨s3.fix W2, sh3, by omega, fun b hb h => oth b (by simpa using hb) (by omega)⟩ (fun j jj => ?_)
            have e34 : K3.2.2.1 34 j = if j = k then some e else M.2.2.1 34 j := by
              rw [s3.1, r2]
              by_cases z : j = k
              · rw [if_pos ⟨rfl, z⟩, if_pos z]
              · rw [if_neg (fun q => z q.2), if_neg z, (a7 34 (by omega)).2.2]
            show ((if j = k then true else kn j) = false → _) ∧ ((if j = k then true else kn j) = true → _)
            rw [e34]
            by_cases z : j = k
            · rw [if_pos z, if_pos z]
              exact ⟨fun q => absurd q (by decide), fun _ => ⟨e, rfl, by rw [z]; exact f3⟩⟩
            · rw [if_neg z, if_neg z]
              refine ⟨(hK j jj).1, fun y => ?_⟩
              obtain ⟨x, h1, h2⟩ := (hK j jj).2 y
              have xl := h2.len
              have x82 := h2.1.2.2.2.2
              exact ⟨x, h1, h2.fr sh3 (fun b b1 b2 => oth b (by omega) (Or.inl (by omega)))⟩
      refine l62 _ _ _ _ _ ⟨rfl, ?_⟩
      have call : wX2_init 7 65536 [.ref e, .ref 17, .int (nI k), zrf q, zrf r] M1 (fun r' M' => kX3_prepare_65 mc ms X Q (0 + 1 + 7) (0 + zN 2 + 65536) [some (.ref 33), some (.int (nI k)), none] (r'.toList ++ [.ref e, .int (nI k), .ref 34]) M') := c_eInit she1 len1 (Nat.le_refl _) (Nat.le_refl _) hqr2
      cases q <;> cases r <;> exact ⟨Nat.le_of_ble_eq_true rfl, rfl, 7, 65536, by omega, by rw [zn2]; omega, call⟩
    have rd : ∀ j, (j = 4 ∨ j = 5) → k = 1 → ∃ a, M1.2.2.1 34 j = some a ∧ a + 7 < e ∧ eFin M a j := fun j hj k1 => by
      obtain ⟨h4, h5⟩ := hb k1
      have : kn j = true := by rcases hj with q | q <;> rw [q] <;> assumption
      obtain ⟨a, h1, h2⟩ := (hK j (by omega)).2 this
      exact ⟨a, by rw [r1 34 (by omega)]; exact h1, by rw [he]; exact h2.len, h2⟩
    have kI : nI k = (1 : Int32) ↔ k = 1 := nI_eq (b := 1) (by omega) (by decide)
    have shs : zsh M1 33 = some (0, 3) := sh1 _ _ (fxs_33 hW.1)
    have f19 : ∀ bc : Bool, (bc = true ↔ k = 1) → X 19 0 0 [.ref 33, .int (nI k)] [.int (bI bc)] M := by
      intro bc hbc
      refine l19 _ _ _ _ _ ⟨rfl, ⟨fxs_33 hW.1, 34, fxr_33_1 hW.1, ⟨by omega, by rw [zn2]; omega, ?_⟩⟩⟩
      rw [← e1, ← he]
      refine ⟨shs, 17, fxr_33_0 W1, ⟨fun z => ?_, fun z => ?_⟩⟩
      · have k1 : k ≠ 1 := fun q => by
          have := hbc.mpr q
          rw [bI_0.mp z] at this
          exact absurd this (by decide)
        refine l48 _ _ _ _ _ ⟨rfl, ⟨fun _ => ?_, fun y => absurd z y⟩⟩
        exact fin none none (Or.inl ⟨k1, rfl⟩)
      · have k1 : k = 1 := hbc.mp (bI_n.mp z)
        obtain ⟨a, a1, a2, a3⟩ := rd 5 (Or.inr rfl) k1
        obtain ⟨b, b1, b2, b3⟩ := rd 4 (Or.inl rfl) k1
        refine ⟨shs, 34, fxr_33_1 W1, ⟨6, sh1 _ _ (fxs_34 hW.1), vp_in_nI (n := 5) (by omega) (by omega), a, a1, ?_⟩⟩
        refine l48 _ _ _ _ _ ⟨rfl, ⟨fun y => absurd y z, fun _ => ⟨shs, 34, fxr_33_1 W1, ⟨6, sh1 _ _ (fxs_34 hW.1), vp_in_nI (n := 4) (by omega) (by omega), b, b1, ?_⟩⟩⟩⟩
        exact fin (some a) (some b) (Or.inr ⟨k1, a, b, rfl, rfl, a2, b2, a3, b3⟩)
    exact ⟨fun c => f19 true ⟨fun _ => kI.mp c, fun _ => rfl⟩, fun c => f19 false ⟨fun q => absurd q (by decide), fun q => absurd (kI.mpr q) c⟩⟩
