/-! CONSTRUCTORS: the compass, the method -/
theorem bt_m2 (c i t : Nat) : bt (m2.2.1 c i) t = false := by
  have : m2.2.1 c i = 0 := by
    show (if c = _ then (0 : Int64) else if c = _ then 0 else if c = _ then 0 else if c = _ then 0 else if c = _ then 0 else if c = _ then 0 else if c = _ then 0 else if c = _ then 0 else 0) = 0
    repeat (first | rfl | split)
  rw [this, bt_0]
set_option maxHeartbeats 4000000 in
theorem c_compass {mc ms : Nat} (hmc : 6 ≤ mc) (hms : 896 ≤ ms) {Q : zQt} (hq : ∀ K, zSm [18, 19, 20, 21, 22, 23] m2 K → cOk K → Q none K) : wX1_init mc ms [.ref 17] m1 Q := by
  refine ⟨⟨Nat.le_of_ble_eq_true rfl, rfl⟩, fun X l0 l56 l64 => ?_⟩
  have facts : ∀ {K : zM}, zSm [18, 19, 20, 21, 22, 23] m2 K → (zsh K 17 = some (0, 1) ∧ zsh K 18 = some (2, 64) ∧ zsh K 19 = some (2, 64) ∧ zsh K 20 = some (2, 128) ∧ zsh K 21 = some (2, 512) ∧ zsh K 22 = some (2, 64) ∧ zsh K 23 = some (2, 64)) ∧ K.2.2.1 17 0 = some 18 ∧ K.2.2.1 17 1 = some 19 ∧ K.2.2.1 17 2 = some 20 ∧ K.2.2.1 17 3 = some 21 ∧ K.2.2.1 17 4 = some 22 ∧ K.2.2.1 17 5 = some 23 := fun s => by
    unfold zsh
    rw [s.1]
    exact ⟨⟨rfl, rfl, rfl, rfl, rfl, rfl, rfl⟩, rfl, rfl, rfl, rfl, rfl, rfl⟩
  have main : ∀ (u v : Nat), u ≤ mc → v ≤ ms → X 56 u v [.ref 17, .int (nI 0)] [] m2 := by
    intro u v hu hv
    have outer : ∀ (n c : Nat) (K : zM), c + n = 64 → zSm [18, 19, 20, 21, 22, 23] m2 K → xS K c 0 → X 56 u v [.ref 17, .int (nI c)] [] K := by
      intro n
      induction n with
      | zero =>
        intro c K hc sK hx
        have hc : c = 64 := by omega
        subst hc
        exact l56 _ _ _ _ _ ⟨rfl, ⟨fun _ => hq K sK hx.end_, fun z => absurd (by decide) z⟩⟩
      | succ n ih =>
        intro c K hcn sK hx
        have hc : c < 64 := by omega
        have vc : vp_in (nI c) 64 := vp_in_nI hc (by omega)
        have cc : (nI c).toNatClampNeg = c := nI_clamp (by omega)
        -- behind the directions
        have tail : ∀ K2, zSm [18, 19, 20, 21, 22, 23] m2 K2 → xS K2 c 8 → X 64 u v [.ref 17, .int (nI c), .int (nI 8)] [] K2 := by
          intro K2 s2 x2
          obtain ⟨⟨h17, h18, h19, h20, h21, h22, h23⟩, r0, r1, r2, r3, r4, r5⟩ := facts s2
          have ad : ∀ k : Nat, k ≤ 448 → nI k + nI c = nI (k + c) ∧ (nI (k + c)).toNatClampNeg = k + c := fun k hk => ⟨nI_add _ _, nI_clamp (by omega)⟩
          have v128 : vp_in ((64 : Int32) + nI c) 128 := by rw [show (64 : Int32) + nI c = nI (64 + c) from (ad 64 (by omega)).1]; exact vp_in_nI (by omega) (by omega)
          have v512 : ∀ k : Nat, k ≤ 448 → vp_in (nI k + nI c) 512 := fun k hk => by rw [(ad k hk).1]; exact vp_in_nI (by omega) (by omega)
          refine l64 _ _ _ _ _ ⟨rfl, ⟨fun _ => ⟨h17, 20, r2, ⟨Nat.le_of_ble_eq_true rfl, rfl, 0, 0, hu, hv, c_besideX hc (a := -1) (b := 1) (by decide) (by decide) (by omega) (by omega) (fun p1 hp1 => ⟨Nat.le_of_ble_eq_true rfl, rfl, 0, 0, hu, hv, c_besideX hc (a := 1) (b := 1) (by decide) (by decide) (by omega) (by omega) (fun p2 hp2 => ⟨128, h20, vp_in_nI (by omega) (by omega), ⟨h17, 20, r2, ⟨Nat.le_of_ble_eq_true rfl, rfl, 0, 0, hu, hv, c_besideX hc (a := -1) (b := -1) (by decide) (by decide) (by omega) (by omega) (fun p3 hp3 => ⟨Nat.le_of_ble_eq_true rfl, rfl, 0, 0, hu, hv, c_besideX hc (a := 1) (b := -1) (by decide) (by decide) (by omega) (by omega) (fun p4 hp4 => ⟨128, h20, v128, ⟨h17, 22, r4, ⟨h17, 21, r3, ⟨512, h21, vp_in_nI (by omega) (by omega), ⟨h17, 21, r3, ⟨512, h21, v512 64 (by omega), ⟨h17, 21, r3, ⟨512, h21, v512 256 (by omega), ⟨h17, 21, r3, ⟨512, h21, v512 320 (by omega), ⟨64, h22, vc, ⟨h17, 23, r5, ⟨h17, 21, r3, ⟨512, h21, v512 128 (by omega), ⟨h17, 21, r3, ⟨512, h21, v512 192 (by omega), ⟨h17, 21, r3, ⟨512, h21, v512 384 (by omega), ⟨h17, 21, r3, ⟨512, h21, v512 448 (by omega), ⟨64, h23, vc, ?_⟩⟩⟩⟩⟩⟩⟩⟩⟩⟩⟩⟩⟩⟩⟩⟩⟩⟩⟩⟩⟩)⟩)⟩⟩⟩)⟩)⟩⟩, fun z => absurd (by decide) z⟩⟩
          obtain ⟨A1, e1⟩ : ∃ A1, A1 = zsJ K2 20 (nI c).toNatClampNeg (p1 ||| p2) := ⟨_, rfl⟩
          obtain ⟨A2, e2⟩ : ∃ A2, A2 = zsJ A1 20 ((64 : Int32) + nI c).toNatClampNeg (p3 ||| p4) := ⟨_, rfl⟩
          obtain ⟨A3, e3⟩ : ∃ A3, A3 = zsJ A2 22 (nI c).toNatClampNeg (((A2.2.1 21 (nI c).toNatClampNeg ||| A2.2.1 21 ((64 : Int32) + nI c).toNatClampNeg) ||| A2.2.1 21 ((256 : Int32) + nI c).toNatClampNeg) ||| A2.2.1 21 ((320 : Int32) + nI c).toNatClampNeg) := ⟨_, rfl⟩
          obtain ⟨A4, e4⟩ : ∃ A4, A4 = zsJ A3 23 (nI c).toNatClampNeg (((A3.2.1 21 ((128 : Int32) + nI c).toNatClampNeg ||| A3.2.1 21 ((192 : Int32) + nI c).toNatClampNeg) ||| A3.2.1 21 ((384 : Int32) + nI c).toNatClampNeg) ||| A3.2.1 21 ((448 : Int32) + nI c).toNatClampNeg) := ⟨_, rfl⟩
          have goal : X 56 u v [.ref 17, .int (nI c + 1)] [] A4 := by
            rw [show nI c + (1 : Int32) = nI (c + 1) from nI_add _ 1]
            have t1 : ((64 : Int32) + nI c).toNatClampNeg = 64 + c := by rw [show (64 : Int32) + nI c = nI (64 + c) from (ad 64 (by omega)).1]; exact (ad 64 (by omega)).2
            have t2 : ((256 : Int32) + nI c).toNatClampNeg = 256 + c := by rw [show (256 : Int32) + nI c = nI (256 + c) from (ad 256 (by omega)).1]; exact (ad 256 (by omega)).2
            have t3 : ((320 : Int32) + nI c).toNatClampNeg = 320 + c := by rw [show (320 : Int32) + nI c = nI (320 + c) from (ad 320 (by omega)).1]; exact (ad 320 (by omega)).2
            have t4 : ((128 : Int32) + nI c).toNatClampNeg = 128 + c := by rw [show (128 : Int32) + nI c = nI (128 + c) from (ad 128 (by omega)).1]; exact (ad 128 (by omega)).2
            have t5 : ((192 : Int32) + nI c).toNatClampNeg = 192 + c := by rw [show (192 : Int32) + nI c = nI (192 + c) from (ad 192 (by omega)).1]; exact (ad 192 (by omega)).2
            have t6 : ((384 : Int32) + nI c).toNatClampNeg = 384 + c := by rw [show (384 : Int32) + nI c = nI (384 + c) from (ad 384 (by omega)).1]; exact (ad 384 (by omega)).2
            have t7 : ((448 : Int32) + nI c).toNatClampNeg = 448 + c := by rw [show (448 : Int32) + nI c = nI (448 + c) from (ad 448 (by omega)).1]; exact (ad 448 (by omega)).2
            rw [cc] at e1
            rw [t1] at e2
            rw [cc, t1, t2, t3] at e3
            rw [cc, t4, t5, t6, t7] at e4
            have q21 : A2.2.1 21 = K2.2.1 21 := by rw [e2, zsJ_o (by decide), e1, zsJ_o (by decide)]
            have q21' : A3.2.1 21 = K2.2.1 21 := by rw [e3, zsJ_o (by decide)]; exact q21
            rw [q21] at e3
            rw [q21'] at e4
            obtain ⟨y1, y2, y3, y4, y5, y6⟩ := x2
            have z1 : zSm [18, 19, 20, 21, 22, 23] K2 A1 := by rw [e1]; exact zSm.J (by decide)
            have z2 : zSm [18, 19, 20, 21, 22, 23] A1 A2 := by rw [e2]; exact zSm.J (by decide)
            have z3 : zSm [18, 19, 20, 21, 22, 23] A2 A3 := by rw [e3]; exact zSm.J (by decide)
            have z4 : zSm [18, 19, 20, 21, 22, 23] A3 A4 := by rw [e4]; exact zSm.J (by decide)
            have row : ∀ d' t, d' < 8 → t < 64 → bt (K2.2.1 21 (64 * d' + c)) t = ryG d' c t := fun d' t hd ht => y3 d' c t hd hc ht (Or.inr ⟨rfl, hd⟩)
            refine ih (c + 1) A4 (by omega) (s2.tr (z1.tr (z2.tr (z3.tr z4)))) ⟨fun s t hs ht => ?_, fun s t hs ht => ?_, fun d' s t hd hs ht h => ?_, fun b s t hb hs ht => ?_, fun s t hs ht => ?_, fun s t hs ht => ?_⟩
            · rw [e4, zsJ_o (by decide), e3, zsJ_o (by decide), e2, zsJ_o (by decide), e1, zsJ_o (by decide), y1 s t hs ht]
              constructor
              · rintro (⟨a, b⟩ | ⟨a, b⟩)
                · exact Or.inl ⟨by omega, b⟩
                · exact Or.inl ⟨by omega, (kn_8 hs ht).mp b⟩
              · rintro (⟨a, b⟩ | ⟨a, d', b, _⟩)
                · by_cases z : s = c
                  · exact Or.inr ⟨z, (kn_8 hs ht).mpr b⟩
                  · exact Or.inl ⟨by omega, b⟩
                · omega
            · rw [e4, zsJ_o (by decide), e3, zsJ_o (by decide), e2, zsJ_o (by decide), e1, zsJ_o (by decide), y2 s t hs ht]
              constructor
              · rintro (⟨a, b⟩ | ⟨a, b⟩)
                · exact Or.inl ⟨by omega, b⟩
                · exact Or.inl ⟨by omega, (ki_8 hs ht).mp b⟩
              · rintro (⟨a, b⟩ | ⟨a, d', b, _⟩)
                · by_cases z : s = c
                  · exact Or.inr ⟨z, (ki_8 hs ht).mpr b⟩
                  · exact Or.inl ⟨by omega, b⟩
                · omega
            · rw [e4, zsJ_o (by decide), e3, zsJ_o (by decide), e2, zsJ_o (by decide), e1, zsJ_o (by decide)]
              exact y3 d' s t hd hs ht (by omega)
            · rw [e4, zsJ_o (by decide), e3, zsJ_o (by decide)]
              unfold paG
              by_cases z : s = c
              · subst z
                have b01 : b = 0 ∨ b = 1 := by omega
                rcases b01 with q | q <;> subst q
                · rw [show 64 * 0 + s = s by omega, e2, zsJ_n (by omega), e1, zsJ_s, bt_or, Bool.or_eq_true, hp1 t ht, hp2 t ht, if_pos rfl]
                  exact pa_2
                · rw [show 64 * 1 + s = 64 + s by omega, e2, zsJ_s, bt_or, Bool.or_eq_true, hp3 t ht, hp4 t ht, if_neg (by decide)]
                  exact pa_2
              · rw [e2, zsJ_n (by omega), e1, zsJ_n (by omega)]
                exact y4 b s t hb (by omega) ht
            · rw [e4, zsJ_o (by decide), e3]
              by_cases z : s = c
              · subst z
                rw [zsJ_s, bt_or, bt_or, bt_or, Bool.or_eq_true, Bool.or_eq_true, Bool.or_eq_true]
                have w0 := row 0 t (by omega) ht
                have w1 := row 1 t (by omega) ht
                have w4 := row 4 t (by omega) ht
                have w5 := row 5 t (by omega) ht
                rw [show 64 * 0 + s = s by omega] at w0
                rw [show 64 * 1 + s = 64 + s by omega] at w1
                rw [show 64 * 4 + s = 256 + s by omega] at w4
                rw [show 64 * 5 + s = 320 + s by omega] at w5
                rw [w0, w1, w4, w5, or_assoc]
                exact cr_4 hc ht
              · rw [zsJ_n z, e2, zsJ_o (by decide), e1, zsJ_o (by decide)]
                exact y5 s t (by omega) ht
            · rw [e4]
              by_cases z : s = c
              · subst z
                rw [zsJ_s, bt_or, bt_or, bt_or, Bool.or_eq_true, Bool.or_eq_true, Bool.or_eq_true]
                have w0 := row 2 t (by omega) ht
                have w1 := row 3 t (by omega) ht
                have w4 := row 6 t (by omega) ht
                have w5 := row 7 t (by omega) ht
                rw [show 64 * 2 + s = 128 + s by omega] at w0
                rw [show 64 * 3 + s = 192 + s by omega] at w1
                rw [show 64 * 6 + s = 384 + s by omega] at w4
                rw [show 64 * 7 + s = 448 + s by omega] at w5
                rw [w0, w1, w4, w5, or_assoc]
                exact sa_4 hc ht
              · rw [zsJ_n z, e3, zsJ_o (by decide), e2, zsJ_o (by decide), e1, zsJ_o (by decide)]
                exact y6 s t (by omega) ht
          rw [e4, e3, e2, e1] at goal
          exact goal
        have inner : ∀ (r d : Nat) (K2 : zM), d + r = 8 → zSm [18, 19, 20, 21, 22, 23] m2 K2 → xS K2 c d → X 64 u v [.ref 17, .int (nI c), .int (nI d)] [] K2 := by
          intro r
          induction r with
          | zero =>
            intro d K2 hd s2 x2
            have hd : d = 8 := by omega
            subst hd
            exact tail K2 s2 x2
          | succ r ihr =>
            intro d K2 hdr s2 x2
            have hd : d < 8 := by omega
            have vd : vp_in (nI d) 8 := vp_in_nI hd (by omega)
            have cd : (nI d).toNatClampNeg = d := nI_clamp (by omega)
            obtain ⟨⟨a0, a1, a2, a3⟩, b0, b1, b2, b3⟩ := st_of hd
            obtain ⟨⟨h17, h18, h19, h20, h21, h22, h23⟩, r0, r1, r2, r3, r4, r5⟩ := facts s2
            have ix : nI d * (64 : Int32) + nI c = nI (64 * d + c) := by rw [show nI d * (64 : Int32) = nI (d * 64) from pk_mul d 64, nI_add, Nat.mul_comm]
            have vx : vp_in (nI d * (64 : Int32) + nI c) 512 := by rw [ix]; exact vp_in_nI (by omega) (by omega)
            refine l64 _ _ _ _ _ ⟨rfl, ⟨fun z => absurd ((nI_leI (a := 8) (by decide) (by omega)).mp z) (by omega), fun _ => ⟨h17, 18, r0, ⟨64, h18, vc, ⟨rfl, vd, ⟨rfl, vd, ⟨Nat.le_of_ble_eq_true rfl, rfl, 0, 0, hu, hv, c_besideX hc (a := kfI d) (b := krI d) (by rw [cd]; exact a2) (by rw [cd]; exact a3) (by omega) (by omega) (fun p1 hp1 => ⟨64, h18, vc, ⟨h17, 19, r1, ⟨64, h19, vc, ⟨rfl, vd, ⟨rfl, vd, ⟨Nat.le_of_ble_eq_true rfl, rfl, 0, 0, hu, hv, c_besideX hc (a := fsI d) (b := rsI d) (by rw [cd]; exact a0) (by rw [cd]; exact a1) (by omega) (by omega) (fun p2 hp2 => ⟨64, h19, vc, ⟨h17, 21, r3, ⟨Nat.le_of_ble_eq_true rfl, rfl, 0, 0, hu, hv, c_wholeRay hc hd (fun p3 hp3 => ⟨512, h21, vx, ?_⟩)⟩⟩⟩)⟩⟩⟩⟩⟩⟩)⟩⟩⟩⟩⟩⟩⟩
            obtain ⟨A1, e1⟩ : ∃ A1, A1 = zsJ K2 18 (nI c).toNatClampNeg (K2.2.1 18 (nI c).toNatClampNeg ||| p1) := ⟨_, rfl⟩
            obtain ⟨A2, e2⟩ : ∃ A2, A2 = zsJ A1 19 (nI c).toNatClampNeg (A1.2.1 19 (nI c).toNatClampNeg ||| p2) := ⟨_, rfl⟩
            obtain ⟨A3, e3⟩ : ∃ A3, A3 = zsJ A2 21 (nI d * (64 : Int32) + nI c).toNatClampNeg p3 := ⟨_, rfl⟩
            have goal : X 64 u v [.ref 17, .int (nI c), .int (nI d + 1)] [] A3 := by
              rw [show nI d + (1 : Int32) = nI (d + 1) from nI_add _ 1]
              rw [cc] at e1 e2
              rw [ix, nI_clamp (by omega)] at e3
              have q19 : A1.2.1 19 = K2.2.1 19 := by rw [e1, zsJ_o (by decide)]
              rw [q19] at e2
              obtain ⟨y1, y2, y3, y4, y5, y6⟩ := x2
              have z1 : zSm [18, 19, 20, 21, 22, 23] K2 A1 := by rw [e1]; exact zSm.J (by decide)
              have z2 : zSm [18, 19, 20, 21, 22, 23] A1 A2 := by rw [e2]; exact zSm.J (by decide)
              have z3 : zSm [18, 19, 20, 21, 22, 23] A2 A3 := by rw [e3]; exact zSm.J (by decide)
              refine ihr (d + 1) A3 (by omega) (s2.tr (z1.tr (z2.tr z3))) ⟨fun s t hs ht => ?_, fun s t hs ht => ?_, fun d' s t hd' hs ht h => ?_, fun b s t hb hs ht => ?_, fun s t hs ht => ?_, fun s t hs ht => ?_⟩
              · rw [e3, zsJ_o (by decide), e2, zsJ_o (by decide), e1]
                by_cases z : s = c
                · subst z
                  rw [zsJ_s, bt_or, Bool.or_eq_true, y1 s t hs ht, hp1 t ht]
                  constructor
                  · rintro ((⟨a, b⟩ | ⟨a, d', b, e⟩) | b)
                    · exact Or.inl ⟨a, b⟩
                    · exact Or.inr ⟨rfl, d', by omega, e⟩
                    · exact Or.inr ⟨rfl, d, by omega, b⟩
                  · rintro (⟨a, b⟩ | ⟨a, d', b, e⟩)
                    · exact Or.inl (Or.inl ⟨a, b⟩)
                    · by_cases z : d' = d
                      · subst z; exact Or.inr e
                      · exact Or.inl (Or.inr ⟨rfl, d', by omega, e⟩)
                · rw [zsJ_n z, y1 s t hs ht]
                  exact or_congr_right ⟨fun q => absurd q.1 z, fun q => absurd q.1 z⟩
              · rw [e3, zsJ_o (by decide), e2]
                by_cases z : s = c
                · subst z
                  rw [zsJ_s, bt_or, Bool.or_eq_true, y2 s t hs ht, hp2 t ht]
                  constructor
                  · rintro ((⟨a, b⟩ | ⟨a, d', b, e⟩) | b)
                    · exact Or.inl ⟨a, b⟩
                    · exact Or.inr ⟨rfl, d', by omega, e⟩
                    · exact Or.inr ⟨rfl, d, by omega, b⟩
                  · rintro (⟨a, b⟩ | ⟨a, d', b, e⟩)
                    · exact Or.inl (Or.inl ⟨a, b⟩)
                    · by_cases z : d' = d
                      · subst z; exact Or.inr e
                      · exact Or.inl (Or.inr ⟨rfl, d', by omega, e⟩)
                · rw [zsJ_n z, q19, y2 s t hs ht]
                  exact or_congr_right ⟨fun q => absurd q.1 z, fun q => absurd q.1 z⟩
              · by_cases z : 64 * d' + s = 64 * d + c
                · have : d' = d ∧ s = c := by omega
                  obtain ⟨w1, w2⟩ := this
                  subst w1; subst w2
                  rw [e3, zsJ_s]; exact hp3 t ht
                · rw [e3, zsJ_n z, e2, zsJ_o (by decide), e1, zsJ_o (by decide)]
                  exact y3 d' s t hd' hs ht (by omega)
              · rw [e3, zsJ_o (by decide), e2, zsJ_o (by decide), e1, zsJ_o (by decide)]
                exact y4 b s t hb hs ht
              · rw [e3, zsJ_o (by decide), e2, zsJ_o (by decide), e1, zsJ_o (by decide)]
                exact y5 s t hs ht
              · rw [e3, zsJ_o (by decide), e2, zsJ_o (by decide), e1, zsJ_o (by decide)]
                exact y6 s t hs ht
            rw [e3, e2, e1] at goal
            exact goal
        refine l56 _ _ _ _ _ ⟨rfl, ⟨fun z => absurd ((nI_leI (a := 64) (by decide) (by omega)).mp z) (by omega), fun _ => ?_⟩⟩
        exact inner 8 0 K (by omega) sK hx
    refine outer 64 0 m2 (by omega) zSm.rf ⟨fun s t _ _ => ?_, fun s t _ _ => ?_, fun d' s t _ _ _ h => by omega, fun b s t _ h => absurd h (by omega), fun s t h => absurd h (by omega), fun s t h => absurd h (by omega)⟩
    · rw [bt_m2]
      exact ⟨fun q => absurd q (by decide), fun q => q.elim (fun q => by omega) (fun ⟨_, d', h, _⟩ => absurd h (by omega))⟩
    · rw [bt_m2]
      exact ⟨fun q => absurd q (by decide), fun q => q.elim (fun q => by omega) (fun ⟨_, d', h, _⟩ => absurd h (by omega))⟩
  have zr : zrm [] := Nat.le_of_ble_eq_true rfl
  have n6 : ¬ (64 : Int32) < 0 := by decide
  have n64 : (64 : Int32).toNatClampNeg = 64 := by decide
  have n128 : (128 : Int32).toNatClampNeg = 128 := by decide
  have n512 : (512 : Int32).toNatClampNeg = 512 := by decide
  refine l0 _ _ _ _ _ ⟨rfl, ⟨zr, ⟨n6, by decide, by omega, by rw [n64]; omega, ⟨rfl, ⟨n6, by decide, by omega, by rw [n64]; omega, ⟨rfl, ⟨by decide, by decide, by omega, by rw [n64, n128]; omega, ⟨rfl, ⟨by decide, by decide, by omega, by rw [n64, n128, n512]; omega, ⟨rfl, ⟨n6, by decide, by omega, by rw [n64, n128, n512]; omega, ⟨rfl, ⟨n6, by decide, by omega, by rw [n64, n128, n512]; omega, ⟨rfl, ?_⟩⟩⟩⟩⟩⟩⟩⟩⟩⟩⟩⟩⟩⟩
  exact main _ _ (by omega) (by rw [n64, n128, n512]; omega)
