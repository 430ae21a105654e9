/-! THE CLASS'S ENDINGS: a step of the side with the man, the method -/
theorem nI_dec (n : Nat) : nI (n + 1) + (-1 : Int32) = nI n := by
  rw [show (-1 : Int32) = iI (-1) by decide, iI_nat, iI_add, iI_nat]
  congr 1
  omega
set_option maxHeartbeats 4000000 in
theorem c_stepStrong {mc ms : Nat} {M : zM} {g : Nat} (hW : zWd M g) (hC : cOk M) {e k N : Nat} (hk : M.1 e 1 = nI k) (kk : k = 1 ∨ k = 4 ∨ k = 5) (hE : eSh M e) (hn : N < 64) (hN : N % 2 = 1) (hH : hiR M e k) (hc : canR M e k true) (hF : fR M e k (N - 1)) (hS : kR M e k N true noT) {Q : zQt} (hq : ∀ K b, zSm [e + 5, e + 7] M K → (∀ i, i < 20480 → K.2.1 (e + 7) i = M.2.1 (e + 7) i) → kR K e k N true (stT k N 4096 0 0 noT) → (b = true ↔ anT (stT k N 4096 0 0 noT)) → Q (some (.int (bI b))) K) : wX2_stepStrong mc ms [.ref e, .int (nI N)] M Q := by
  refine ⟨⟨Nat.le_of_ble_eq_true rfl, rfl⟩, fun X l0 l4 l65 l103 l155 l174 l208 l225 => ?_⟩
  have k5 : k ≤ 5 := by omega
  have e82 := hE.2.2.2.2
  have kI : M.1 e 1 = (1 : Int32) ↔ k = 1 := by rw [hk]; exact nI_eq (b := 1) (by omega) (by decide)
  have loop : ∀ (r c : Nat) (K : zM) (b : Bool), c + r = 4096 → zSm [e + 5, e + 7] M K → (∀ i, i < 20480 → K.2.1 (e + 7) i = M.2.1 (e + 7) i) → kR K e k N true (stT k N c 0 0 noT) → (b = true ↔ anT (stT k N c 0 0 noT)) → X 4 0 0 [.ref e, .int (nI N), .int (bI b), .int (nI c)] [] K := by
    intro r
    induction r with
    | zero =>
      intro c K b hcr sK iK vK hb
      have hcr : c = 4096 := by omega
      subst hcr
      exact l4 _ _ _ _ _ ⟨rfl, vX2_stepStrong_4 (sK.wd hW) ((hE.sm sK).1) ⟨fun _ => ⟨by cases b <;> rfl, hq K b sK iK vK hb⟩, fun c => absurd (by decide) c⟩⟩
    | succ r ih =>
      intro c K b hcr sK iK vK hb
      obtain ⟨p, s, hp, hs, ec⟩ : ∃ p s, p < 64 ∧ s < 64 ∧ c = 64 * p + s := ⟨c / 64, c % 64, by omega, by omega, by omega⟩
      have c4 : c < 4096 := by omega
      have vc : vp_in (nI c) 4096 := vp_in_nI c4 (by omega)
      have cc : (nI c).toNatClampNeg = c := nI_clamp (by omega)
      have fr : ∀ {K2 : zM}, zSm [e + 5, e + 7] M K2 → ∀ w, w < 64 → (bt (K2.2.1 (e + 6) c) w = true ↔ isD k s p w false (N - 1)) := fun s2 w hw => by
        rw [s2.j (by simp), ec]; exact hF s p w hs hp hw
      -- T with nothing of the slot is T
      have t0 : ∀ s2 p2 w, (stT k N c 0 0 noT s2 p2 w ↔ stT k N c s p (fun _ _ _ => False) s2 p2 w) := fun s2 p2 w => by
        unfold stT
        refine and_congr_right (fun _ => and_congr_right (fun _ => or_congr_right ?_))
        exact ⟨fun q => absurd q.2 id, fun q => absurd q.2 id⟩
      have tN : ∀ s2 p2 w, (stT k N c s p (fun s2 p2 w => mvR k s2 p2 w s p) s2 p2 w ↔ stT k N (c + 1) 0 0 noT s2 p2 w) := fun s2 p2 w => by
        unfold stT
        refine and_congr_right (fun _ => and_congr_right (fun _ => ?_))
        constructor
        · rintro (⟨s3, p3, a, b, c1, d, f⟩ | ⟨a, b⟩)
          · exact Or.inl ⟨s3, p3, a, b, by omega, d, f⟩
          · exact Or.inl ⟨s, p, hs, hp, by omega, a, b⟩
        · rintro (⟨s3, p3, a, b, c1, d, f⟩ | ⟨_, q⟩)
          · by_cases z : 64 * p3 + s3 = c
            · obtain ⟨z1, z2⟩ := slot_inj a hs (z.trans ec)
              subst z1; subst z2
              exact Or.inr ⟨d, f⟩
            · exact Or.inl ⟨s3, p3, a, b, by omega, d, f⟩
          · exact absurd q id
      have f225 : ∀ (K2 : zM) (b2 : Bool), zSm [e + 5, e + 7] M K2 → (∀ i, i < 20480 → K2.2.1 (e + 7) i = M.2.1 (e + 7) i) → kR K2 e k N true (stT k N (c + 1) 0 0 noT) → (b2 = true ↔ anT (stT k N (c + 1) 0 0 noT)) → X 225 0 0 [.ref e, .int (nI N), .int (bI b2), .int (nI c)] [] K2 := fun K2 b2 s2 i2 v2 h2 => by
        refine l225 _ _ _ _ _ ⟨rfl, vX2_stepStrong_225 (s2.wd hW) ((hE.sm s2).1) ?_⟩
        rw [show nI c + (1 : Int32) = nI (c + 1) from nI_add _ 1]
        exact ih (c + 1) K2 b2 (by omega) s2 i2 v2 h2
      -- the man's loop
      have lm : slv k s p → ∀ (x : Int64), (∀ w, w < 64 → (bt x w = true ↔ isD k s p w false (N - 1) ∧ (k = 1 → w ≠ p - 8))) → ∀ (R : List Nat) (y : Int64) (K2 : zM) (b2 : Bool), sqs y = R → (∀ q, q ∈ R → cmF k s p q) → zSm [e + 5, e + 7] M K2 → (∀ i, i < 20480 → K2.2.1 (e + 7) i = M.2.1 (e + 7) i) → kR K2 e k N true (stT k N c s p (fun s2 p2 w => (p2 = p ∧ kiG s s2 ∧ s2 ≠ p) ∨ (s2 = s ∧ cmF k s p p2 ∧ (k = 1 → w ≠ p - 8) ∧ p2 ∉ R))) → (b2 = true ↔ anT (stT k N c s p (fun s2 p2 w => (p2 = p ∧ kiG s s2 ∧ s2 ≠ p) ∨ (s2 = s ∧ cmF k s p p2 ∧ (k = 1 → w ≠ p - 8) ∧ p2 ∉ R)))) → X 174 0 0 [.ref e, .int (nI N), .int (bI b2), .int (nI c), .int (nI s), .long x, .long y, .int (nI R.length)] [] K2 := by
        intro hv x hx R
        induction R with
        | nil =>
          intro y K2 b2 hy hR s2 i2 v2 h2
          have te : ∀ s2 p2 w, (stT k N c s p (fun s2 p2 w => (p2 = p ∧ kiG s s2 ∧ s2 ≠ p) ∨ (s2 = s ∧ cmF k s p p2 ∧ (k = 1 → w ≠ p - 8) ∧ p2 ∉ [])) s2 p2 w ↔ stT k N (c + 1) 0 0 noT s2 p2 w) := fun s2 p2 w => by
            rw [← tN]
            unfold stT
            refine and_congr_right (fun _ => and_congr_right (fun _ => or_congr_right (and_congr_right (fun _ => ?_))))
            unfold mvR
            constructor
            · rintro (⟨a, b, d⟩ | ⟨a, b, d, _⟩)
              · exact Or.inl ⟨a.symm, b, d⟩
              · exact Or.inr ⟨a.symm, b, d⟩
            · rintro (⟨a, b, d⟩ | ⟨a, b, d⟩)
              · exact Or.inl ⟨a.symm, b, d⟩
              · exact Or.inr ⟨a.symm, b, d, by simp⟩
          refine l174 _ _ _ _ _ ⟨rfl, vX2_stepStrong_174 (s2.wd hW) ((hE.sm s2).1) ⟨fun _ => f225 K2 b2 s2 i2 (v2.congr (fun s2 p2 w _ _ _ => te s2 p2 w)) ?_, fun z => absurd (by decide) z⟩⟩
          rw [h2]
          unfold anT
          exact exists_congr (fun s2 => exists_congr (fun p2 => exists_congr (fun w => and_congr_right (fun _ => and_congr_right (fun _ => and_congr_right (fun _ => te s2 p2 w))))))
        | cons q R ihR =>
          intro y K2 b2 hy hR s2 i2 v2 h2
          have hq := sqs_cons hy
          have hql : (sqs y).length ≤ 64 := sqs_len y
          rw [hy] at hql
          simp at hql
          have cq := hR q (by simp)
          have W2 := s2.wd hW
          have E2 := hE.sm s2
          have nd : q ∉ R := fun h => by
            rw [hq.2.2.2, List.mem_filter] at h
            simp at h
          refine l174 _ _ _ _ _ ⟨rfl, vX2_stepStrong_174 W2 E2.1 ⟨fun z => absurd ((nI_leI (b := 0) (by simp; omega) (by decide)).mp z) (by simp), fun _ => c_lowest W2 hy ?_⟩⟩
          refine vkX2_stepStrong_186 W2 E2.1 E2.1 ?_
          rw [show nI q * (64 : Int32) = nI (q * 64) from pk_mul q 64, nI_add, show q * 64 + s = 64 * q + s by omega]
          have cn2 : canR K2 e k true := fun s3 p3 w hs3 hp3 hw => by
            rw [if_pos rfl, s2.j (by simp)]
            have := hc s3 p3 w hs3 hp3 hw
            rw [if_pos rfl] at this
            exact this
          refine gain_s W2 E2 hn hN cn2 v2 hs hq.1 x (T2 := stT k N c s p (fun s2 p2 w => (p2 = p ∧ kiG s s2 ∧ s2 ≠ p) ∨ (s2 = s ∧ cmF k s p p2 ∧ (k = 1 → w ≠ p - 8) ∧ p2 ∉ R))) (fun s3 p3 w hs3 hp3 hw => ?_) (fun K3 r3 s3 i3 v3 h3 => ?_)
          · unfold stT
            rw [hx w hw]
            constructor
            · rintro ⟨a, b, h⟩
              rcases h with h | ⟨h, d⟩
              · exact Or.inl ⟨a, b, Or.inl h⟩
              · rcases d with d | ⟨d1, d2, d3, d4⟩
                · exact Or.inl ⟨a, b, Or.inr ⟨h, Or.inl d⟩⟩
                · by_cases z : p3 = q
                  · subst z; subst d1
                    exact Or.inr ⟨rfl, rfl, ⟨h, d3⟩, a, b⟩
                  · exact Or.inl ⟨a, b, Or.inr ⟨h, Or.inr ⟨d1, d2, d3, by simp [z, d4]⟩⟩⟩
            · rintro (⟨a, b, h⟩ | ⟨z1, z2, h, a, b⟩)
              · rcases h with h | ⟨h, d⟩
                · exact ⟨a, b, Or.inl h⟩
                · rcases d with d | ⟨d1, d2, d3, d4⟩
                  · exact ⟨a, b, Or.inr ⟨h, Or.inl d⟩⟩
                  · exact ⟨a, b, Or.inr ⟨h, Or.inr ⟨d1, d2, d3, fun q => d4 (by simp [q])⟩⟩⟩
              · subst z1; subst z2
                exact ⟨a, b, Or.inr ⟨h.1, Or.inr ⟨rfl, cq, h.2, nd⟩⟩⟩
          · have sM3 := s2.tr s3
            have W3 := sM3.wd hW
            have E3 := hE.sm sM3
            have fin : ∀ b3 : Bool, (b3 = true ↔ ¬ lg_cmp r3 0 = 0) → X 208 0 0 [.ref e, .int (nI N), .int (nI c), .int (nI s), .long x, .long y, .int (nI (q :: R).length)] [.int (bI b3), .int (bI b2)] K3 := fun b3 hb3 => by
              refine l208 _ _ _ _ _ ⟨rfl, vX2_stepStrong_208 W3 E3.1 ?_⟩
              rw [bI_or, show nI (q :: R).length + (-1 : Int32) = nI R.length from nI_dec R.length]
              refine ihR (y &&& (y - 1)) K3 (b2 || b3) (sqs_next hy) (fun q2 h => hR q2 (List.mem_cons_of_mem _ h)) sM3 (fun i hi => by rw [i3 i hi]; exact i2 i hi) v3 ?_
              rw [Bool.or_eq_true, h3, h2, hb3]
            refine vkX2_stepStrong_198 W3 E3.1 ⟨fun z => fin false ⟨fun q => absurd q (by decide), fun q => absurd z q⟩, fun z => fin true ⟨fun _ => z, fun _ => rfl⟩⟩
      -- the king's loop
      have lk : slv k s p → ∀ (R : List Nat) (y : Int64) (K2 : zM) (b2 : Bool), sqs y = R → (∀ q, q ∈ R → kiG s q ∧ q ≠ p) → zSm [e + 5, e + 7] M K2 → (∀ i, i < 20480 → K2.2.1 (e + 7) i = M.2.1 (e + 7) i) → kR K2 e k N true (stT k N c s p (fun s2 p2 w => p2 = p ∧ kiG s s2 ∧ s2 ≠ p ∧ s2 ∉ R)) → (b2 = true ↔ anT (stT k N c s p (fun s2 p2 w => p2 = p ∧ kiG s s2 ∧ s2 ≠ p ∧ s2 ∉ R))) → X 65 0 0 [.ref e, .int (nI N), .int (bI b2), .int (nI c), .int (nI p), .int (nI s), .long y, .int (nI R.length)] [] K2 := by
        intro hv R
        induction R with
        | nil =>
          intro y K2 b2 hy hR s2 i2 v2 h2
          have W2 := s2.wd hW
          have E2 := hE.sm s2
          have km : K2.1 e 1 = M.1 e 1 := by rw [s2.i (by simp)]
          have f155 : ∀ x : Int64, (∀ w, w < 64 → (bt x w = true ↔ isD k s p w false (N - 1) ∧ (k = 1 → w ≠ p - 8))) → X 155 0 0 [.ref e, .int (nI N), .int (bI b2), .int (nI c), .int (nI p), .int (nI s)] [.long x] K2 := fun x hx => by
            refine l155 _ _ _ _ _ ⟨rfl, vX2_stepStrong_155 W2 E2.1 ?_⟩
            refine c_cameFrom W2 E2 (by rw [km]; exact hk) k5 (fun s3 p3 w hs3 hp3 hw => by rw [s2.j (by simp)]; exact hH s3 p3 w hs3 hp3 hw) hs hp hv (fun y2 hy2 => ?_)
            refine vkX2_stepStrong_165 W2 E2.1 (c_bitCount y2 (vkX2_stepStrong_172 W2 E2.1 ?_))
            rw [pc_sqs]
            have te : ∀ s4 p4 w, p4 < 64 → (stT k N c s p (fun s2 p2 w => p2 = p ∧ kiG s s2 ∧ s2 ≠ p ∧ s2 ∉ []) s4 p4 w ↔ stT k N c s p (fun s2 p2 w => (p2 = p ∧ kiG s s2 ∧ s2 ≠ p) ∨ (s2 = s ∧ cmF k s p p2 ∧ (k = 1 → w ≠ p - 8) ∧ p2 ∉ sqs y2)) s4 p4 w) := fun s4 p4 w hp4 => by
              unfold stT
              refine and_congr_right (fun _ => and_congr_right (fun _ => or_congr_right (and_congr_right (fun _ => ?_))))
              constructor
              · rintro ⟨a, b, d, _⟩; exact Or.inl ⟨a, b, d⟩
              · rintro (⟨a, b, d⟩ | ⟨a, b, d, f⟩)
                · exact ⟨a, b, d, by simp⟩
                · exact absurd (sqs_mem.mpr ⟨hp4, (hy2 p4 hp4).mpr b⟩) f
            refine lm hv x hx (sqs y2) y2 K2 b2 rfl (fun q h => (hy2 q (sqs_mem.mp h).1).mp (sqs_mem.mp h).2) s2 i2 (v2.congr (fun s4 p4 w _ hp4 _ => te s4 p4 w hp4)) ?_
            rw [h2]
            unfold anT
            exact exists_congr (fun s4 => exists_congr (fun p4 => exists_congr (fun w => and_congr_right (fun _ => and_congr_right (fun hp4 => and_congr_right (fun _ => te s4 p4 w hp4))))))
          refine l65 _ _ _ _ _ ⟨rfl, vX2_stepStrong_65 W2 E2.1 ⟨fun _ => ⟨fun z => ⟨e + 6, 4096, E2.2.2.1.2.2.2.2.2.1, E2.2.2.2.1.2.2.2.2.2.1, vc, ?_⟩, fun z => ⟨e + 6, 4096, E2.2.2.1.2.2.2.2.2.1, E2.2.2.2.1.2.2.2.2.2.1, vc, ?_⟩⟩, fun z => absurd (by decide) z⟩⟩
          · rw [km] at z
            have z := kI.mp z
            have p8 := hv.2 z
            rw [cc, show nI p - (8 : Int32) = nI (p - 8) from pk_sub (a := p) (b := 8) (by omega)]
            refine f155 _ (fun w hw => ?_)
            rw [bt_and, Bool.and_eq_true, fr s2 w hw, bt_not _ hw, bt_one (by omega), Bool.not_eq_true', decide_eq_false_iff_not]
            exact ⟨fun h => ⟨h.1, fun _ q => h.2 q.symm⟩, fun h => ⟨h.1, fun q => h.2 z q.symm⟩⟩
          · rw [km] at z
            have z : k ≠ 1 := fun q => z (kI.mpr q)
            rw [cc]
            refine f155 _ (fun w hw => ?_)
            rw [fr s2 w hw]
            exact ⟨fun h => ⟨h, fun q => absurd q z⟩, fun h => h.1⟩
        | cons q R ihR =>
          intro y K2 b2 hy hR s2 i2 v2 h2
          have hq := sqs_cons hy
          have hql : (sqs y).length ≤ 64 := sqs_len y
          rw [hy] at hql
          simp at hql
          obtain ⟨kq1, kq2⟩ := hR q (by simp)
          have W2 := s2.wd hW
          have E2 := hE.sm s2
          have nd : q ∉ R := fun h => by
            rw [hq.2.2.2, List.mem_filter] at h
            simp at h
          refine l65 _ _ _ _ _ ⟨rfl, vX2_stepStrong_65 W2 E2.1 ⟨fun z => absurd ((nI_leI (b := 0) (by simp; omega) (by decide)).mp z) (by simp), fun _ => c_lowest W2 hy ?_⟩⟩
          refine vkX2_stepStrong_82 W2 E2.1 E2.1 ⟨e + 6, 4096, E2.2.2.1.2.2.2.2.2.1, E2.2.2.2.1.2.2.2.2.2.1, vc, ?_⟩
          rw [cc, show nI p * (64 : Int32) = nI (p * 64) from pk_mul p 64, nI_add, show p * 64 + q = 64 * p + q by omega]
          have cn2 : canR K2 e k true := fun s3 p3 w hs3 hp3 hw => by
            rw [if_pos rfl, s2.j (by simp)]
            have := hc s3 p3 w hs3 hp3 hw
            rw [if_pos rfl] at this
            exact this
          refine gain_s W2 E2 hn hN cn2 v2 hq.1 hp _ (T2 := stT k N c s p (fun s2 p2 w => p2 = p ∧ kiG s s2 ∧ s2 ≠ p ∧ s2 ∉ R)) (fun s3 p3 w hs3 hp3 hw => ?_) (fun K3 r3 s3 i3 v3 h3 => ?_)
          · unfold stT
            rw [fr s2 w hw]
            constructor
            · rintro ⟨a, b, h⟩
              rcases h with h | ⟨h, d1, d2, d3, d4⟩
              · exact Or.inl ⟨a, b, Or.inl h⟩
              · by_cases z : s3 = q
                · subst z; subst d1
                  exact Or.inr ⟨rfl, rfl, h, a, b⟩
                · exact Or.inl ⟨a, b, Or.inr ⟨h, d1, d2, d3, by simp [z, d4]⟩⟩
            · rintro (⟨a, b, h⟩ | ⟨z1, z2, h, a, b⟩)
              · rcases h with h | ⟨h, d1, d2, d3, d4⟩
                · exact ⟨a, b, Or.inl h⟩
                · exact ⟨a, b, Or.inr ⟨h, d1, d2, d3, fun q => d4 (by simp [q])⟩⟩
              · subst z1; subst z2
                exact ⟨a, b, Or.inr ⟨h, rfl, kq1, kq2, nd⟩⟩
          · have sM3 := s2.tr s3
            have W3 := sM3.wd hW
            have E3 := hE.sm sM3
            have fin : ∀ b3 : Bool, (b3 = true ↔ ¬ lg_cmp r3 0 = 0) → X 103 0 0 [.ref e, .int (nI N), .int (nI c), .int (nI p), .int (nI s), .long y, .int (nI (q :: R).length)] [.int (bI b3), .int (bI b2)] K3 := fun b3 hb3 => by
              refine l103 _ _ _ _ _ ⟨rfl, vX2_stepStrong_103 W3 E3.1 ?_⟩
              rw [bI_or, show nI (q :: R).length + (-1 : Int32) = nI R.length from nI_dec R.length]
              refine ihR (y &&& (y - 1)) K3 (b2 || b3) (sqs_next hy) (fun q2 h => hR q2 (List.mem_cons_of_mem _ h)) sM3 (fun i hi => by rw [i3 i hi]; exact i2 i hi) v3 ?_
              rw [Bool.or_eq_true, h3, h2, hb3]
            refine vkX2_stepStrong_93 W3 E3.1 ⟨fun z => fin false ⟨fun q => absurd q (by decide), fun q => absurd z q⟩, fun z => fin true ⟨fun _ => z, fun _ => rfl⟩⟩
      have WK := sK.wd hW
      have EK := hE.sm sK
      refine l4 _ _ _ _ _ ⟨rfl, vX2_stepStrong_4 WK EK.1 ⟨fun z => absurd ((nI_leI (a := 4096) (by decide) (by omega)).mp z) (by omega), fun _ => ⟨e + 6, 4096, EK.2.2.1.2.2.2.2.2.1, EK.2.2.2.1.2.2.2.2.2.1, vc, ?_⟩⟩⟩
      rw [cc]
      refine ⟨fun z => ?_, fun z y35 e35 => ?_⟩
      · have none : ∀ w, w < 64 → ¬ isD k s p w false (N - 1) := fun w hw h => bt_ne.mpr ⟨w, hw, (fr sK w hw).mpr h⟩ (lg0.mp z)
        have te : ∀ s2 p2 w, w < 64 → (stT k N c 0 0 noT s2 p2 w ↔ stT k N (c + 1) 0 0 noT s2 p2 w) := fun s2 p2 w hw => by
          rw [t0, ← tN]
          unfold stT
          refine and_congr_right (fun _ => and_congr_right (fun _ => or_congr_right ?_))
          exact ⟨fun q => absurd q.2 id, fun q => absurd q.1 (none w hw)⟩
        refine f225 K b sK iK (vK.congr (fun s2 p2 w _ _ hw => te s2 p2 w hw)) ?_
        rw [hb]
        unfold anT
        exact exists_congr (fun s2 => exists_congr (fun p2 => exists_congr (fun w => and_congr_right (fun _ => and_congr_right (fun _ => and_congr_right (fun hw => te s2 p2 w hw))))))
      · obtain ⟨w0, hw0, h0⟩ := bt_ne.mp (fun q => z (lg0.mpr q))
        have hv : slv k s p := pos5_slv (isD_pos ((fr sK w0 hw0).mp h0))
        rw [show nI c - nI c / (64 : Int32) * (64 : Int32) = nI s from (pk_rem (d := 64) (by omega) (by decide) (by decide)).trans (by rw [show c % 64 = s by omega])] at e35
        rw [e35, show nI c / (64 : Int32) = nI p from (pk_div (d := 64) (by omega) (by decide) (by decide)).trans (by rw [show c / 64 = p by omega])]
        refine ⟨17, EK.2.1, fxs_17 WK.1, 19, 64, fxr_17_1 WK.1, fxs_19 WK.1, vp_in_nI hs (by omega), fun y56 e56 => ?_⟩
        rw [nI_clamp (by omega)] at e56
        have b56 : ∀ q, q < 64 → (bt y56 q = true ↔ kiG s q ∧ q ≠ p) := fun q hq => by
          rw [e56, bt_and, bt_not _ hq, bt_one hp, Bool.and_eq_true, sK.j (by simp; omega), hC.2.2.1 s q hs hq, Bool.not_eq_true', decide_eq_false_iff_not]
          exact ⟨fun h => ⟨h.1, fun e => h.2 e.symm⟩, fun h => ⟨h.1, fun e => h.2 e.symm⟩⟩
        refine c_bitCount y56 (vkX2_stepStrong_63 WK EK.1 ?_)
        rw [pc_sqs]
        have te : ∀ s2 p2 w, s2 < 64 → (stT k N c 0 0 noT s2 p2 w ↔ stT k N c s p (fun s2 p2 w => p2 = p ∧ kiG s s2 ∧ s2 ≠ p ∧ s2 ∉ sqs y56) s2 p2 w) := fun s2 p2 w hs2 => by
          rw [t0]
          unfold stT
          refine and_congr_right (fun _ => and_congr_right (fun _ => or_congr_right (and_congr_right (fun _ => ?_))))
          exact ⟨fun q => absurd q id, fun ⟨a, b, d, f⟩ => f (sqs_mem.mpr ⟨hs2, (b56 s2 hs2).mpr ⟨b, d⟩⟩)⟩
        refine lk hv (sqs y56) y56 K b rfl (fun q h => (b56 q (sqs_mem.mp h).1).mp (sqs_mem.mp h).2) sK iK (vK.congr (fun s2 p2 w hs2 _ _ => te s2 p2 w hs2)) ?_
        rw [hb]
        unfold anT
        exact exists_congr (fun s2 => exists_congr (fun p2 => exists_congr (fun w => and_congr_right (fun hs2 => and_congr_right (fun _ => and_congr_right (fun _ => te s2 p2 w hs2))))))
  have te : ∀ s2 p2 w, (noT s2 p2 w ↔ stT k N 0 0 0 noT s2 p2 w) := fun s2 p2 w => by
    unfold stT
    constructor
    · intro q; exact absurd q id
    · rintro ⟨_, _, ⟨_, _, _, _, q, _⟩ | ⟨_, q⟩⟩
      · omega
      · exact q
  refine l0 _ _ _ _ _ ⟨rfl, vX2_stepStrong_0 hW hE.1 (loop 4096 0 M false (by omega) zSm.rf (fun _ _ => rfl) (hS.congr (fun s2 p2 w _ _ _ => te s2 p2 w)) ⟨fun q => absurd q (by decide), fun ⟨s2, p2, w, _, _, _, q⟩ => absurd ((te s2 p2 w).mpr q) id⟩)⟩
