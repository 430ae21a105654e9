/-! THE CLASS'S LISTER: fill -/
theorem fm_filter {f : Nat → List Nat} {p : Nat → Bool} : ∀ (L : List Nat), (∀ a ∈ L, p a = false → f a = []) → L.flatMap f = (L.filter p).flatMap f
  | [], _ => rfl
  | a :: t, h => by
    have ih := fm_filter t (fun b hb => h b (List.mem_cons_of_mem _ hb))
    rw [List.flatMap_cons, List.filter_cons, ih]
    rcases q : p a with _ | _
    · rw [h a List.mem_cons_self q]
      simp
    · simp
theorem zsh_sm {L : List Nat} {M N : zM} (h : zSm L M N) (x : Nat) : zsh N x = zsh M x := by
  unfold zsh
  rw [h.1]
theorem lastR : ∀ b, b < 64 → ((((-72057594037927681 : Int64).toUInt64 >>> ((nI b).toInt64.toUInt64 &&& Int64.toUInt64 63)).toInt64) &&& (1 : Int64) = 0 ↔ ¬ (b < 8 ∨ 55 < b)) := by decide +kernel
theorem one_bit (x : Int64) {s : Nat} (hs : s < 64) : (((x.toUInt64 >>> ((nI s).toInt64.toUInt64 &&& Int64.toUInt64 63)).toInt64) &&& (1 : Int64)) = 0 ↔ bt x s = false := by
  constructor
  · intro q
    have : bt (((x.toUInt64 >>> ((nI s).toInt64.toUInt64 &&& Int64.toUInt64 63)).toInt64) &&& (1 : Int64)) 0 = false := by rw [q]; exact bt_0 0
    rw [bt_and, bt_shr x hs, show bt (1 : Int64) 0 = true from by decide, Bool.and_true, Nat.add_zero] at this
    exact this
  · intro q
    apply bt_ext
    intro t ht
    rw [bt_0, bt_and, bt_shr x hs]
    by_cases w : t = 0
    · rw [w, Nat.add_zero, q, Bool.false_and]
    · have : bt (1 : Int64) t = false := by
        have h : ∀ t, t < 64 → t ≠ 0 → bt (1 : Int64) t = false := by decide +kernel
        exact h t ht w
      rw [this, Bool.and_false]
theorem rg_map {f : Nat → Nat} {p r : Nat} : (List.range (r + 1)).map (fun t => f (p + t)) = f p :: (List.range r).map (fun t => f (p + 1 + t)) := by
  rw [List.range_succ_eq_map, List.map_cons, List.map_map]
  congr 1
  apply List.map_congr_left
  intro t _
  show f (p + (t + 1)) = f (p + 1 + t)
  rw [show p + (t + 1) = p + 1 + t by omega]
/-- the state while the list is put into a row -/
def fS (M N : zM) (g x at_ : Nat) (P : Ps) (L : List Nat) : Prop := zSm [g + 6, x] M N ∧ (∀ k v, L[k]? = some v → N.1 x (at_ + k) = nI v) ∧ (∀ i, ¬ (at_ ≤ i ∧ i < at_ + L.length) → N.1 x i = M.1 x i) ∧ lrK N g P
set_option maxHeartbeats 16000000 in
theorem c_fillC {mc ms : Nat} {M : zM} {g : Nat} (hW : zWd M g) (hC : cOk M) {P : Ps} (hG : Gd P) (hP : bPs M g P) {x xn at_ most : Nat} (hx : zsh M x = some (1, xn)) (hxn : xn < 2 ^ 30) (hx1 : ∀ b, g + 1 ≤ b → b ≤ g + 6 → b ≠ x) (hx2 : ∀ b, 18 ≤ b → b ≤ 23 → b ≠ x) (hat : at_ + 384 ≤ xn) (hm1 : 1 ≤ most) (hm2 : most ≤ 384) {Q : zQt} (hq : ∀ N L, zSm [g + 6, x] M N → (∃ T, L ++ T = mvs P) → (L = mvs P ∨ most ≤ L.length) → (∀ k v, L[k]? = some v → N.1 x (at_ + k) = nI v) → (∀ i, ¬ (at_ ≤ i ∧ i < at_ + L.length) → N.1 x i = M.1 x i) → Q (some (.int (nI L.length))) N) : wX5_fill mc ms [.ref (g + 6), .ref x, .int (nI at_), .int (nI most)] M Q := by
  refine ⟨⟨Nat.le_of_ble_eq_true rfl, rfl⟩, fun X l0 l31 l77 l109 l137 l144 l190 l212 l213 l225 l227 l239 l271 l277 l283 => ?_⟩
  have hO := hG.1
  have hc := hO.2.1
  have hLen := Gd_len hG
  obtain ⟨kg64, kgv, kgu⟩ := kq_is hG
  have g35 := hW.2
  -- what stands in every state
  have st : ∀ N L, fS M N g x at_ P L → zWd N g ∧ cOk N ∧ bPs N g P ∧ zsh N x = some (1, xn) := by
    intro N L h
    refine ⟨h.1.wd hW, hC.sm h.1 (fun b b1 b2 q => ?_), hP.sm h.1 (fun b b1 b2 q => ?_), by rw [zsh_sm h.1]; exact hx⟩
    · simp at q
      rcases q with q | q
      · omega
      · exact hx2 b b1 b2 q
    · simp at q
      rcases q with q | q
      · omega
      · exact hx1 b (by omega) (by omega) q
  have bd : ∀ L T, L ++ T = mvs P → L.length ≤ 323 := by
    intro L T h
    have := congrArg List.length h
    rw [List.length_append] at this
    omega
  have f283 : ∀ N L, fS M N g x at_ P L → (L = mvs P ∨ most ≤ L.length) → (∃ T, L ++ T = mvs P) → X 283 0 0 [.int (nI L.length)] [] N := fun N L h h2 h3 => l283 _ _ _ _ _ ⟨rfl, vX5_fill_283 (st N L h).1 (hq N L h.1 h3 h2 h.2.1 h.2.2.1)⟩
  have f31full : ∀ N L x5 n, n < 100 → fS M N g x at_ P L → most ≤ L.length → (∃ T, L ++ T = mvs P) → X 31 0 0 [.ref (g + 6), .ref x, .int (nI at_), .int (nI most), .int (nI L.length), .long x5, .int (nI n)] [] N := by
    intro N L x5 n hn h h2 h3
    obtain ⟨hWN, -, -, hxN⟩ := st N L h
    obtain ⟨T, hT⟩ := h3
    have := bd L T hT
    exact l31 _ _ _ _ _ ⟨rfl, vX5_fill_31 hWN hxN ⟨fun _ => f283 N L h (Or.inr h2) ⟨T, hT⟩, fun _ => ⟨fun _ => f283 N L h (Or.inr h2) ⟨T, hT⟩, fun q => absurd ((nI_leI (a := most) (b := L.length) (by omega) (by omega)).mpr h2) q⟩⟩⟩
  -- over the men
  have outer : ∀ (rem : List Nat) (x5 : Int64) (N : zM) (L : List Nat), sqs x5 = rem → (∀ a ∈ rem, a < 64 ∧ sdI (P.1 a) = P.2.1) → L ++ rem.flatMap (mvFrom P) = mvs P → fS M N g x at_ P L → X 31 0 0 [.ref (g + 6), .ref x, .int (nI at_), .int (nI most), .int (nI L.length), .long x5, .int (nI rem.length)] [] N := by
    intro rem
    induction rem with
    | nil =>
      intro x5 N L hs hown hL h
      obtain ⟨hWN, -, -, hxN⟩ := st N L h
      have hL' : L = mvs P := by rw [← hL]; simp
      exact l31 _ _ _ _ _ ⟨rfl, vX5_fill_31 hWN hxN ⟨fun _ => f283 N L h (Or.inl hL') ⟨[], by rw [List.append_nil]; exact hL'⟩, fun q => absurd (by decide) q⟩⟩
    | cons a t ih =>
      intro x5 N L hs hown hL h
      obtain ⟨hWN, hCN, hPN, hxN⟩ := st N L h
      obtain ⟨ha, hsd⟩ := hown a List.mem_cons_self
      have tl : t.length < 64 := by
        have := sqs_len x5
        rw [hs, List.length_cons] at this
        omega
      have hbl := bd L _ hL
      have e7 := nI_leI (a := (a :: t).length) (b := 0) (by rw [List.length_cons]; omega) (by decide)
      have em := nI_leI (a := most) (b := L.length) (by omega) (by omega)
      refine l31 _ _ _ _ _ ⟨rfl, vX5_fill_31 hWN hxN ⟨fun q => absurd (e7.mp q) (by rw [List.length_cons]; omega), fun _ => ⟨fun q => f283 N L h (Or.inr (em.mp q)) ⟨_, hL⟩, fun qm => c_lowest hWN hs (vkX5_fill_47 hWN hxN ?_)⟩⟩⟩
      have hs' := sqs_next hs
      obtain ⟨x6, ex6⟩ : ∃ x6, x6 = x5 &&& (x5 - 1) := ⟨_, rfl⟩
      rw [← ex6] at hs' ⊢
      rw [lg0, one_bit _ ha]
      have hL2 : L ++ (mvFrom P a ++ t.flatMap (mvFrom P)) = mvs P := by rw [← hL, List.flatMap_cons]
      have nxt : ∀ N' L', fS M N' g x at_ P L' → L' ++ t.flatMap (mvFrom P) = mvs P → X 277 0 0 [.ref (g + 6), .ref x, .int (nI at_), .int (nI most), .int (nI L'.length), .long x6, .int (nI (a :: t).length)] [] N' := by
        intro N' L' h' hL'
        obtain ⟨hWN', -, -, hxN'⟩ := st N' L' h'
        refine l277 _ _ _ _ _ ⟨rfl, vX5_fill_277 hWN' hxN' ?_⟩
        rw [List.length_cons, pk_m1]
        exact ih x6 N' L' hs' (fun b hb => hown b (List.mem_cons_of_mem _ hb)) hL' h'
      have full : ∀ N' L', fS M N' g x at_ P L' → most ≤ L'.length → (∃ T, L' ++ T = mvs P) → X 277 0 0 [.ref (g + 6), .ref x, .int (nI at_), .int (nI most), .int (nI L'.length), .long x6, .int (nI (a :: t).length)] [] N' := by
        intro N' L' h' hm' hT'
        obtain ⟨hWN', -, -, hxN'⟩ := st N' L' h'
        refine l277 _ _ _ _ _ ⟨rfl, vX5_fill_277 hWN' hxN' ?_⟩
        rw [List.length_cons, pk_m1]
        exact f31full N' L' x6 t.length (by omega) h' hm' hT'
      obtain ⟨pw, epw⟩ : ∃ pw : Bool, pw = decide (P.1 a = 1 + 6 * P.2.1) := ⟨_, rfl⟩
      -- over the goals
      have inner : ∀ (rk : Bool), (rk = false → a ≠ kq P.1 P.2.1 64 ∧ ∀ b, b < 64 → gos P a b → ¬ chk (mkB P a b 0) P.2.1) → ∀ (rg : List Nat) (y : Int64) (N' : zM) (L' : List Nat), sqs y = rg → (∀ b ∈ rg, b < 64 ∧ gos P a b) → L' ++ (rg.flatMap (mvTo P a) ++ t.flatMap (mvFrom P)) = mvs P → fS M N' g x at_ P L' → X 144 0 0 [.ref (g + 6), .ref x, .int (nI at_), .int (nI most), .int (nI L'.length), .long x6, .int (nI (a :: t).length), .int (nI a), .int (bI rk), .int (bI pw), .long y, .int (nI rg.length)] [] N' := by
        intro rk hrk rg
        induction rg with
        | nil =>
          intro y N' L' hy hgs hL' h'
          obtain ⟨hWN', -, -, hxN'⟩ := st N' L' h'
          exact l144 _ _ _ _ _ ⟨rfl, vX5_fill_144 hWN' hxN' ⟨fun _ => nxt N' L' h' hL', fun q => absurd (by decide) q⟩⟩
        | cons b u ihg =>
          intro y N' L' hy hgs hL' h'
          obtain ⟨hWN', hCN', hPN', hxN'⟩ := st N' L' h'
          obtain ⟨hb, hgo⟩ := hgs b List.mem_cons_self
          have ul : u.length < 64 := by
            have := sqs_len y
            rw [hy, List.length_cons] at this
            omega
          have hbl' := bd L' _ hL'
          have e13 := nI_leI (a := (b :: u).length) (b := 0) (by rw [List.length_cons]; omega) (by decide)
          have em' := nI_leI (a := most) (b := L'.length) (by omega) (by omega)
          have hy' := sqs_next hy
          refine l144 _ _ _ _ _ ⟨rfl, vX5_fill_144 hWN' hxN' ⟨fun q => absurd (e13.mp q) (by rw [List.length_cons]; omega), fun _ => ⟨fun q => full N' L' h' (em'.mp q) ⟨_, hL'⟩, fun _ => c_lowest hWN' hy (vkX5_fill_160 hWN' hxN' ?_)⟩⟩⟩
          obtain ⟨y2, ey2⟩ : ∃ y2, y2 = y &&& (y - 1) := ⟨_, rfl⟩
          rw [← ey2] at hy' ⊢
          have hL3 : L' ++ (mvTo P a b ++ (u.flatMap (mvTo P a) ++ t.flatMap (mvFrom P))) = mvs P := by rw [← hL', List.flatMap_cons, List.append_assoc]
          have f271 : ∀ N2 L2, fS M N2 g x at_ P L2 → L2 ++ (u.flatMap (mvTo P a) ++ t.flatMap (mvFrom P)) = mvs P → X 271 0 0 [.ref (g + 6), .ref x, .int (nI at_), .int (nI most), .int (nI L2.length), .long x6, .int (nI (a :: t).length), .int (nI a), .int (bI rk), .int (bI pw), .long y2, .int (nI (b :: u).length)] [] N2 := by
            intro N2 L2 h2 hL2'
            obtain ⟨hW2, -, -, hx2'⟩ := st N2 L2 h2
            refine l271 _ _ _ _ _ ⟨rfl, vX5_fill_271 hW2 hx2' ?_⟩
            rw [List.length_cons (a := b), pk_m1]
            exact ihg y2 N2 L2 hy' (fun c hc => hgs c (List.mem_cons_of_mem _ hc)) hL2' h2
          have f190 : ¬ chk (mkB P a b 0) P.2.1 → X 190 0 0 [.ref (g + 6), .ref x, .int (nI at_), .int (nI most), .int (nI L'.length), .long x6, .int (nI (a :: t).length), .int (nI a), .int (bI rk), .int (bI pw), .long y2, .int (nI (b :: u).length), .int (nI b)] [] N' := by
            intro hnc
            have hlg : lgl P a b := ⟨hgo, hnc⟩
            have hpm : pmt P a b = true ↔ pw = true ∧ (b < 8 ∨ 55 < b) := by
              unfold pmt
              rw [Bool.and_eq_true, Bool.or_eq_true, decide_eq_true_eq, decide_eq_true_eq, decide_eq_true_eq, epw, decide_eq_true_eq, kd_1 (hO.1 a ha)]
              have := (own_man (hO.1 a ha) hc).mp hsd
              constructor
              · rintro ⟨q1, q2⟩; exact ⟨by omega, q2⟩
              · rintro ⟨q1, q2⟩; exact ⟨by omega, q2⟩
            rw [mvTo_y hlg] at hL3
            -- the men it can become
            have becomes : ∀ (bc : Bool) (r pr : Nat) (N2 : zM) (L2 : List Nat), pr + r = (if bc = true then 6 else 1) → L2 ++ ((List.range r).map (fun t' => a + 64 * b + 4096 * (pr + t')) ++ (u.flatMap (mvTo P a) ++ t.flatMap (mvFrom P))) = mvs P → fS M N2 g x at_ P L2 → X 227 0 0 [.ref (g + 6), .ref x, .int (nI at_), .int (nI most), .int (nI L2.length), .long x6, .int (nI (a :: t).length), .int (nI a), .int (bI rk), .int (bI pw), .long y2, .int (nI (b :: u).length), .int (nI b), .int (bI bc), .int (nI pr)] [] N2 := by
              intro bc r
              induction r with
              | zero =>
                intro pr N2 L2 hpr hL2' h2
                obtain ⟨hW2, -, -, hx2'⟩ := st N2 L2 h2
                have f239 : ∀ v, v < pr → v < 10 → X 239 0 0 [.ref (g + 6), .ref x, .int (nI at_), .int (nI most), .int (nI L2.length), .long x6, .int (nI (a :: t).length), .int (nI a), .int (bI rk), .int (bI pw), .long y2, .int (nI (b :: u).length), .int (nI b), .int (bI bc), .int (nI pr)] [.int (nI v), .int (nI pr)] N2 := by
                  intro v hv hv2
                  have hpr2 : pr ≤ 6 := by split at hpr <;> omega
                  exact l239 _ _ _ _ _ ⟨rfl, vX5_fill_239 hW2 hx2' ⟨fun _ => f271 N2 L2 h2 hL2', fun q => absurd ((nI_ltI (a := v) (b := pr) (by omega) (by omega)).mpr hv) q⟩⟩
                refine l227 _ _ _ _ _ ⟨rfl, vX5_fill_227 hW2 hx2' ⟨fun q => f239 0 ?_ (by omega), fun q => f239 5 ?_ (by omega)⟩⟩
                · split at hpr <;> omega
                · rw [bI_n.mp q, if_pos rfl] at hpr
                  omega
              | succ r ihr =>
                intro pr N2 L2 hpr hL2' h2
                obtain ⟨hW2, -, -, hx2'⟩ := st N2 L2 h2
                have hpr2 : pr ≤ 5 := by split at hpr <;> omega
                have hbl2 := bd L2 _ hL2'
                rw [rg_map (f := fun z => a + 64 * b + 4096 * z)] at hL2'
                have hbl3 : L2.length < 323 := by
                  have := congrArg List.length hL2'
                  rw [List.length_append, List.length_append, List.length_cons] at this
                  omega
                have hval : (nI a ||| (nI b <<< ((6 : Int32) &&& 31))) ||| (nI pr <<< ((12 : Int32) &&& 31)) = nI (a + 64 * b + 4096 * pr) := by
                  rw [pk_shlN _ 6 (by decide) (by omega), pk_shlN _ 12 (by decide) (by omega), show b * 2 ^ 6 = 2 ^ 6 * b by omega, nI_or (by omega) (by omega), show pr * 2 ^ 12 = 2 ^ 12 * pr by omega, nI_or (by omega) (by omega)]
                have f239 : ∀ v, ¬ v < pr → v < 10 → X 239 0 0 [.ref (g + 6), .ref x, .int (nI at_), .int (nI most), .int (nI L2.length), .long x6, .int (nI (a :: t).length), .int (nI a), .int (bI rk), .int (bI pw), .long y2, .int (nI (b :: u).length), .int (nI b), .int (bI bc), .int (nI pr)] [.int (nI v), .int (nI pr)] N2 := by
                  intro v hv hv2
                  refine l239 _ _ _ _ _ ⟨rfl, vX5_fill_239 hW2 hx2' ⟨fun q => absurd ((nI_ltI (a := v) (b := pr) (by omega) (by omega)).mp q) hv, fun _ => ?_⟩⟩
                  rw [nI_add, nI_clamp (by omega), hval]
                  refine ⟨vp_in_nI (by omega) (by omega), fun N3 e3 => ?_⟩
                  rw [nI_1, nI_1]
                  have s3 : zSm [x] N2 N3 := by rw [e3]; exact zSm.I (by simp)
                  have h3 : fS M N3 g x at_ P (L2 ++ [a + 64 * b + 4096 * pr]) := by
                    refine ⟨h2.1.tr (s3.mono (by simp)), fun k v hk => ?_, fun i hi => ?_, ?_⟩
                    · rw [e3, zsI_at]
                      rw [List.getElem?_append] at hk
                      by_cases hkl : k < L2.length
                      · rw [if_pos hkl] at hk
                        rw [if_neg (by omega)]
                        exact h2.2.1 k v hk
                      · rw [if_neg hkl] at hk
                        by_cases hk0 : k - L2.length = 0
                        · rw [hk0] at hk
                          simp at hk
                          rw [if_pos ⟨rfl, by omega⟩, hk]
                        · rw [List.getElem?_eq_none (by simp; omega)] at hk
                          exact absurd hk (by simp)
                    · rw [List.length_append, List.length_singleton] at hi
                      rw [e3, zsI_n (by omega)]
                      exact h2.2.2.1 i (by omega)
                    · unfold lrK
                      rw [e3, zsI_2, zsI_o (fun q => hx1 (g + 6) (by omega) (by omega) q)]
                      exact h2.2.2.2
                  have := ihr (pr + 1) N3 (L2 ++ [a + 64 * b + 4096 * pr]) (by omega) (by rw [← hL2', List.append_assoc]; rfl) h3
                  rw [List.length_append, List.length_singleton] at this
                  exact this
                refine l227 _ _ _ _ _ ⟨rfl, vX5_fill_227 hW2 hx2' ⟨fun q => f239 0 ?_ (by omega), fun q => f239 5 ?_ (by omega)⟩⟩
                · rw [bI_0.mp q, if_neg (by decide)] at hpr
                  omega
                · omega
            have f213 : ∀ bc : Bool, (bc = true ↔ pmt P a b = true) → X 213 0 0 [.ref (g + 6), .ref x, .int (nI at_), .int (nI most), .int (nI L'.length), .long x6, .int (nI (a :: t).length), .int (nI a), .int (bI rk), .int (bI pw), .long y2, .int (nI (b :: u).length), .int (nI b)] [.int (bI bc)] N' := by
              intro bc hbc
              refine l213 _ _ _ _ _ ⟨rfl, vX5_fill_213 hWN' hxN' ⟨fun q => l225 _ _ _ _ _ ⟨rfl, vX5_fill_225 hWN' hxN' (becomes bc 1 0 N' L' ?_ ?_ h')⟩, fun q => l225 _ _ _ _ _ ⟨rfl, vX5_fill_225 hWN' hxN' (becomes bc 4 2 N' L' ?_ ?_ h')⟩⟩⟩
              · rw [bI_0.mp q, if_neg (by decide)]
              · rw [if_neg (fun w => by rw [bI_0.mp q] at hbc; exact absurd (hbc.mpr w) (by decide))] at hL3
                exact hL3
              · rw [bI_n.mp q, if_pos rfl]
              · rw [if_pos (hbc.mp (bI_n.mp q))] at hL3
                exact hL3
            have f212 : ¬ pmt P a b = true → X 212 0 0 [.ref (g + 6), .ref x, .int (nI at_), .int (nI most), .int (nI L'.length), .long x6, .int (nI (a :: t).length), .int (nI a), .int (bI rk), .int (bI pw), .long y2, .int (nI (b :: u).length), .int (nI b)] [] N' := fun q => l212 _ _ _ _ _ ⟨rfl, vX5_fill_212 hWN' hxN' (f213 false ⟨fun z => absurd z (by decide), fun z => absurd z q⟩)⟩
            refine l190 _ _ _ _ _ ⟨rfl, vX5_fill_190 hWN' hxN' ?_⟩
            rw [lg0, lastR b hb]
            refine ⟨fun q => f212 (fun z => ?_), fun q => ⟨fun w => f212 (fun z => w (hpm.mp z).2), fun w => f213 true ⟨fun _ => hpm.mpr ⟨bI_n.mp q, ?_⟩, fun _ => rfl⟩⟩⟩
            · have := (hpm.mp z).1
              rw [bI_0.mp q] at this
              exact absurd this (by decide)
            · by_cases z : b < 8 ∨ 55 < b
              · exact z
              · exact absurd z w
          refine ⟨fun q => f190 ((hrk (bI_0.mp q)).2 b hb hgo), fun q => c_exposes hWN' hCN' hG hPN' h'.2.2.2.1 ha hb hgo (fun z => vkX5_fill_184 hWN' hxN' ⟨fun d => absurd d (by decide), fun _ => f271 N' L' h' ?_⟩) (fun z => vkX5_fill_184 hWN' hxN' ⟨fun _ => f190 z, fun d => absurd rfl d⟩)⟩
          rw [mvTo_n (fun w => w.2 z)] at hL3
          exact hL3
      -- the man's goals
      have f109 : ∀ rk : Bool, (rk = false → a ≠ kq P.1 P.2.1 64 ∧ ∀ b, b < 64 → gos P a b → ¬ chk (mkB P a b 0) P.2.1) → X 109 0 0 [.ref (g + 6), .ref x, .int (nI at_), .int (nI most), .int (nI L.length), .long x6, .int (nI (a :: t).length), .int (nI a), .int (bI rk)] [.int (bI pw)] N := by
        intro rk hrk
        have f137 : ∀ y, (∀ b, b < 64 → (bt y b = true ↔ gos P a b)) → X 137 0 0 [.ref (g + 6), .ref x, .int (nI at_), .int (nI most), .int (nI L.length), .long x6, .int (nI (a :: t).length), .int (nI a), .int (bI rk), .int (bI pw), .long y] [] N := by
          intro y hy
          refine l137 _ _ _ _ _ ⟨rfl, vX5_fill_137 hWN hxN (c_bitCount y (vkX5_fill_142 hWN hxN ?_))⟩
          rw [pc_sqs]
          refine inner rk hrk (sqs y) y N L rfl (fun b hb => ?_) ?_ h
          · have := sqs_mem.mp hb
            exact ⟨this.1, (hy b this.1).mp this.2⟩
          · have e : mvFrom P a = (sqs y).flatMap (mvTo P a) := by
              unfold mvFrom sqs
              refine fm_filter _ (fun b hb hf => mvTo_n (fun w => ?_))
              have hb := List.mem_range.mp hb
              rw [(hy b hb).mpr w.1] at hf
              exact absurd hf (by decide)
            rw [← e]
            exact hL2
        refine l109 _ _ _ _ _ ⟨rfl, vX5_fill_109 hWN hxN (c_goals hWN hCN hG hPN ha hsd (fun r hr => vkX5_fill_117 hWN hxN ?_))⟩
        rw [h.2.2.2.1]
        have ek := nI_eq (a := a) (b := kq P.1 P.2.1 64) (by omega) (by omega)
        refine ⟨fun q => ?_, fun q => f137 r (fun b hb => ?_)⟩
        · have hak := ek.mp q
          have k6 : kd (P.1 a) = 6 := by rw [hak, kgv]; unfold kd; split <;> omega
          refine c_castlings hWN hCN hO hPN h.2.2.2.1 kg64 (fun r2 hr2 => vkX5_fill_134 hWN hxN (f137 _ (fun b hb => ?_)))
          rw [bt_or, Bool.or_eq_true, hr b hb, hr2 b hb, gos_gl hO ha hsd, ← hak]
          exact ⟨fun z => z.elim Or.inl (fun z => Or.inr ⟨k6, z⟩), fun z => z.elim Or.inl (fun z => Or.inr z.2)⟩
        · rw [hr b hb, gos_gl hO ha hsd]
          refine ⟨Or.inl, fun z => z.elim id (fun z => ?_)⟩
          have h6 := (kd_6 (hO.1 a ha)).mp z.1
          have own := (own_man (hO.1 a ha) hc).mp hsd
          exact absurd (ek.mpr (kgu a ha (by omega))) q
      have f77 : ∀ rk : Bool, (rk = false → a ≠ kq P.1 P.2.1 64 ∧ ∀ b, b < 64 → gos P a b → ¬ chk (mkB P a b 0) P.2.1) → X 77 0 0 [.ref (g + 6), .ref x, .int (nI at_), .int (nI most), .int (nI L.length), .long x6, .int (nI (a :: t).length), .int (nI a)] [.int (bI rk)] N := by
        intro rk hrk
        have go := f109 rk hrk
        refine l77 _ _ _ _ _ ⟨rfl, vX5_fill_77 hWN hxN ?_⟩
        rw [nI_clamp (by omega), (hPN.1.1 a ha).1, hPN.2.1, show (6 : Int32) * nI P.2.1 = nI (6 * P.2.1) from pk_mul 6 _, show (1 : Int32) + nI (6 * P.2.1) = nI (1 + 6 * P.2.1) from nI_add 1 _]
        have e := nI_eq (a := P.1 a) (b := 1 + 6 * P.2.1) (by have := hO.1 a ha; omega) (by omega)
        refine ⟨vp_in_nI (by omega) (by omega), fun q => ?_, fun q => ?_⟩
        · rw [epw, decide_eq_true (e.mp q)] at go; exact go
        · rw [epw, decide_eq_false (fun z => q (e.mpr z))] at go; exact go
      exact ⟨fun q => f77 false (fun _ => h.2.2.2.2 a ha hsd q), fun q => f77 true (fun z => absurd z (by decide))⟩
  refine l0 _ _ _ _ _ ⟨rfl, vX5_fill_0 hW hx (c_lookRound hW hC hG hP (fun N0 s0 hlr => ?_))⟩
  have h0 : fS M N0 g x at_ P [] := ⟨s0.mono (by simp), fun k v hk => by simp at hk, fun i _ => by rw [s0.i (fun q => hx1 (g + 6) (by omega) (by omega) (List.mem_singleton.mp q).symm)], hlr⟩
  obtain ⟨hW0, hC0, hP0, hx0⟩ := st N0 [] h0
  refine vkX5_fill_4 hW0 hx0 ?_
  rw [hP0.2.1, nI_clamp (by omega)]
  refine ⟨vp_in_nI (by omega) (by omega), fun y ey => c_bitCount y (vkX5_fill_29 hW0 hx0 ?_)⟩
  rw [pc_sqs]
  have hown : ∀ a, a < 64 → (bt y a = true ↔ sdI (P.1 a) = P.2.1) := fun a ha => by rw [ey]; exact hP0.1.2.2 P.2.1 a hc ha
  refine outer (sqs y) y N0 [] rfl (fun a ha => ?_) ?_ h0
  · have := sqs_mem.mp ha
    exact ⟨this.1, (hown a this.1).mp this.2⟩
  · rw [List.nil_append]
    unfold mvs sqs
    refine (fm_filter _ (fun a ha hf => ?_)).symm
    have ha := List.mem_range.mp ha
    have hn : ¬ sdI (P.1 a) = P.2.1 := fun w => by rw [(hown a ha).mpr w] at hf; exact absurd hf (by decide)
    unfold mvFrom
    rw [fm_filter (p := fun _ => false) _ (fun b _ _ => mvTo_n (fun w => hn w.1.1))]
    simp
