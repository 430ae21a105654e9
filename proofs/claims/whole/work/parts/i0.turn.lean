/-! CONSTRUCTORS: the reference's tables of turns and of kings -/
def zFE (M : zM) : Prop := zsh M 71 = some (0, 12) ∧ zsh M 74 = some (1, 512) ∧ zsh M 75 = some (1, 128) ∧ M.2.2.1 71 9 = some 74 ∧ M.2.2.1 71 10 = some 75
theorem fes_71 {M : zM} (h : zFE M) : zsh M 71 = some (0, 12) := h.1
theorem fes_74 {M : zM} (h : zFE M) : zsh M 74 = some (1, 512) := h.2.1
theorem fes_75 {M : zM} (h : zFE M) : zsh M 75 = some (1, 128) := h.2.2.1
theorem fer_71_9 {M : zM} (h : zFE M) : M.2.2.1 71 9 = some 74 := h.2.2.2.1
theorem fer_71_10 {M : zM} (h : zFE M) : M.2.2.1 71 10 = some 75 := h.2.2.2.2
theorem zSm.fe {L : List Nat} {M N : zM} (h : zSm L M N) (hF : zFE M) : zFE N := by unfold zFE zsh at hF ⊢; rw [h.1]; exact hF
theorem nvX12_turn_0 {mc ms : Nat} {X : Nat → zV} {Q : zQt} {M : zM}  (hW : zFE M)  (h : X 6 0 0 [.ref 71, .int 0, .int 0, .int 0] [] M) : aX12_turn_0 mc ms X Q 0 0 [some (.ref 71), none, none, none, none, none, none, none, none] [] M := h
theorem nvcX12_turn_18 {mc ms : Nat} {X : Nat → zV} {Q : zQt} {M : zM} {x1 : Int32} {x2 : Int32} {x3 : Int32} {x4 : Int32} (hW : zFE M)  (h : X 27 0 0 [.ref 71, .int x1, .int x2, .int x3, .int x4, .int (x3 / (8 : Int32)), .int 0] [] M) : kX12_turn_18 mc ms X Q 0 0 [some (.ref 71), some (.int x1), some (.int x2), some (.int x3), some (.int x4), none, none, none, none] [] M := ⟨by decide, h⟩
theorem nvX12_turn_6 {mc ms : Nat} {X : Nat → zV} {Q : zQt} {M : zM} {x1 : Int32} {x2 : Int32} {x3 : Int32} (hW : zFE M)  (h : ((64 : Int32) ≤ x3 → Q none M) ∧ (¬ (64 : Int32) ≤ x3 → ∀ y16 : Int32, y16 = (x3 - x3 / (8 : Int32) * (8 : Int32)) → X 27 0 0 [.ref 71, .int x1, .int x2, .int x3, .int y16, .int (x3 / (8 : Int32)), .int 0] [] M)) : aX12_turn_6 mc ms X Q 0 0 [some (.ref 71), some (.int x1), some (.int x2), some (.int x3), none, none, none, none, none] [] M := ⟨fun c9 => (h.1 c9), fun c9 => ⟨by decide, (fun y16 e16 => have h16 := (h.2 c9) y16 e16; (nvcX12_turn_18 hW  h16))⟩⟩
theorem nvX12_turn_27 {mc ms : Nat} {X : Nat → zV} {Q : zQt} {M : zM} {x1 : Int32} {x2 : Int32} {x3 : Int32} {x4 : Int32} {x5 : Int32} {x6 : Int32} (hW : zFE M)  (h : ((8 : Int32) ≤ x6 → ((8 : Int32) ≤ ((2 : Int32) * x4) → X 130 0 0 [.ref 71, .int x1, .int x2, .int x3, .int x4, .int x5] [.int 0] M) ∧ (¬ (8 : Int32) ≤ ((2 : Int32) * x4) → X 130 0 0 [.ref 71, .int x1, .int x2, .int x3, .int x4, .int x5] [.int 1] M)) ∧ (¬ (8 : Int32) ≤ x6 → ((x6 &&& (1 : Int32)) = 0 → X 51 0 0 [.ref 71, .int x1, .int x2, .int x3, .int x4, .int x5, .int x6] [.int x4] M) ∧ (¬ (x6 &&& (1 : Int32)) = 0 → X 51 0 0 [.ref 71, .int x1, .int x2, .int x3, .int x4, .int x5, .int x6] [.int ((7 : Int32) - x4)] M))) : aX12_turn_27 mc ms X Q 0 0 [some (.ref 71), some (.int x1), some (.int x2), some (.int x3), some (.int x4), some (.int x5), some (.int x6), none, none] [] M := ⟨fun c31 => ⟨fun c122 => ((h.1 c31).1 c122), fun c122 => ((h.1 c31).2 c122)⟩, fun c31 => ⟨fun c38 => ((h.2 c31).1 c38), fun c38 => ((h.2 c31).2 c38)⟩⟩
theorem nvX12_turn_51 {mc ms : Nat} {X : Nat → zV} {Q : zQt} {M : zM} {x1 : Int32} {x2 : Int32} {x3 : Int32} {x4 : Int32} {x5 : Int32} {x6 : Int32} {s0 : Int32} (hW : zFE M)  (h : ((x6 &&& (2 : Int32)) = 0 → X 70 0 0 [.ref 71, .int x1, .int x2, .int x3, .int x4, .int x5, .int x6, .int s0] [.int x5] M) ∧ (¬ (x6 &&& (2 : Int32)) = 0 → X 70 0 0 [.ref 71, .int x1, .int x2, .int x3, .int x4, .int x5, .int x6, .int s0] [.int ((7 : Int32) - x5)] M)) : aX12_turn_51 mc ms X Q 0 0 [some (.ref 71), some (.int x1), some (.int x2), some (.int x3), some (.int x4), some (.int x5), some (.int x6), none, none] [.int s0] M := ⟨fun c57 => (h.1 c57), fun c57 => (h.2 c57)⟩
theorem nvX12_turn_70 {mc ms : Nat} {X : Nat → zV} {Q : zQt} {M : zM} {x1 : Int32} {x2 : Int32} {x3 : Int32} {x4 : Int32} {x5 : Int32} {x6 : Int32} {x7 : Int32} {s0 : Int32} (hW : zFE M)  (h : ((x6 &&& (4 : Int32)) = 0 → X 109 0 0 [.ref 71, .int x1, .int x2, .int x3, .int x4, .int x5, .int x6] [.int (((8 : Int32) * s0) + x7), .int (((64 : Int32) * x6) + x3), .ref 74] M) ∧ (¬ (x6 &&& (4 : Int32)) = 0 → X 109 0 0 [.ref 71, .int x1, .int x2, .int x3, .int x4, .int x5, .int x6] [.int (((8 : Int32) * x7) + s0), .int (((64 : Int32) * x6) + x3), .ref 74] M)) : aX12_turn_70 mc ms X Q 0 0 [some (.ref 71), some (.int x1), some (.int x2), some (.int x3), some (.int x4), some (.int x5), some (.int x6), some (.int x7), none] [.int s0] M := ⟨(fes_71 hW), 74, (fer_71_9 hW), ⟨fun c87 => (h.1 c87), fun c87 => (h.2 c87)⟩⟩
theorem nvX12_turn_109 {mc ms : Nat} {X : Nat → zV} {Q : zQt} {M : zM} {x1 : Int32} {x2 : Int32} {x3 : Int32} {x4 : Int32} {x5 : Int32} {x6 : Int32} {s0 : Int32} {s1 : Int32} (hW : zFE M)  (h : vp_in s1 512 ∧ ∀ M109 : zM, M109 = (zsI M 74 (s1 : Int32).toNatClampNeg s0) → X 27 0 0 [.ref 71, .int x1, .int x2, .int x3, .int x4, .int x5, .int (x6 + 1)] [] M109) : aX12_turn_109 mc ms X Q 0 0 [some (.ref 71), some (.int x1), some (.int x2), some (.int x3), some (.int x4), some (.int x5), some (.int x6), none, none] [.int s0, .int s1, .ref 74] M := ⟨512, (fes_74 hW), h.1, (have h109 := h.2 _ rfl; h109)⟩
theorem nvX12_turn_130 {mc ms : Nat} {X : Nat → zV} {Q : zQt} {M : zM} {x1 : Int32} {x2 : Int32} {x3 : Int32} {x4 : Int32} {x5 : Int32} {s0 : Int32} (hW : zFE M)  (h : (s0 = 0 → X 148 0 0 [.ref 71, .int x1, .int x2, .int x3, .int s0] [] M) ∧ (¬ s0 = 0 → (x4 < x5 → X 148 0 0 [.ref 71, .int x1, .int x2, .int x3, .int s0] [] M) ∧ (¬ x4 < x5 → X 149 0 0 [.ref 71, .int x1, .int x2, .int x3, .int s0] [.int 1] M))) : aX12_turn_130 mc ms X Q 0 0 [some (.ref 71), some (.int x1), some (.int x2), some (.int x3), some (.int x4), some (.int x5), none, none, none] [.int s0] M := ⟨fun c134 => (h.1 c134), fun c134 => ⟨fun c141 => ((h.2 c134).1 c141), fun c141 => ((h.2 c134).2 c141)⟩⟩
theorem nvX12_turn_148 {mc ms : Nat} {X : Nat → zV} {Q : zQt} {M : zM} {x1 : Int32} {x2 : Int32} {x3 : Int32} {x6 : Int32} (hW : zFE M)  (h : X 149 0 0 [.ref 71, .int x1, .int x2, .int x3, .int x6] [.int 0] M) : aX12_turn_148 mc ms X Q 0 0 [some (.ref 71), some (.int x1), some (.int x2), some (.int x3), none, none, some (.int x6), none, none] [] M := h
theorem nvX12_turn_149 {mc ms : Nat} {X : Nat → zV} {Q : zQt} {M : zM} {x1 : Int32} {x2 : Int32} {x3 : Int32} {x6 : Int32} {s0 : Int32} (hW : zFE M)  (h : (s0 = 0 → X 166 0 0 [.ref 71, .int x1, .int x2, .int x3, .int x6, .int s0] [.int (-1), .int x3, .ref 75] M) ∧ (¬ s0 = 0 → X 166 0 0 [.ref 71, .int x1, .int x2, .int x3, .int x6, .int s0] [.int x1, .int x3, .ref 75] M)) : aX12_turn_149 mc ms X Q 0 0 [some (.ref 71), some (.int x1), some (.int x2), some (.int x3), none, none, some (.int x6), none, none] [.int s0] M := ⟨(fes_71 hW), 75, (fer_71_10 hW), ⟨fun c158 => (h.1 c158), fun c158 => (h.2 c158)⟩⟩
theorem nvX12_turn_166 {mc ms : Nat} {X : Nat → zV} {Q : zQt} {M : zM} {x1 : Int32} {x2 : Int32} {x3 : Int32} {x6 : Int32} {x7 : Int32} {s0 : Int32} {s1 : Int32} (hW : zFE M)  (h : vp_in s1 128 ∧ ∀ M166 : zM, M166 = (zsI M 75 (s1 : Int32).toNatClampNeg s0) → (x7 = 0 → X 178 0 0 [.ref 71, .int x2, .int x3, .int x6] [.int 0, .int x1] M166) ∧ (¬ x7 = 0 → X 178 0 0 [.ref 71, .int x2, .int x3, .int x6] [.int 1, .int x1] M166)) : aX12_turn_166 mc ms X Q 0 0 [some (.ref 71), some (.int x1), some (.int x2), some (.int x3), none, none, some (.int x6), some (.int x7), none] [.int s0, .int s1, .ref 75] M := ⟨128, (fes_75 hW), h.1, (have h166 := h.2 _ rfl; ⟨fun c170 => (h166.1 c170), fun c170 => (h166.2 c170)⟩)⟩
theorem nvX12_turn_178 {mc ms : Nat} {X : Nat → zV} {Q : zQt} {M : zM} {x2 : Int32} {x3 : Int32} {x6 : Int32} {s0 : Int32} {s1 : Int32} (hW : zFE M)  (h : (x6 = 0 → X 198 0 0 [.ref 71, .int (s1 + s0), .int x2, .int x3, .int x6] [.int (-1), .int ((64 : Int32) + x3), .ref 75] M) ∧ (¬ x6 = 0 → X 198 0 0 [.ref 71, .int (s1 + s0), .int x2, .int x3, .int x6] [.int x2, .int ((64 : Int32) + x3), .ref 75] M)) : aX12_turn_178 mc ms X Q 0 0 [some (.ref 71), none, some (.int x2), some (.int x3), none, none, some (.int x6), none, none] [.int s0, .int s1] M := ⟨(fes_71 hW), 75, (fer_71_10 hW), ⟨fun c190 => (h.1 c190), fun c190 => (h.2 c190)⟩⟩
theorem nvX12_turn_198 {mc ms : Nat} {X : Nat → zV} {Q : zQt} {M : zM} {x1 : Int32} {x2 : Int32} {x3 : Int32} {x6 : Int32} {s0 : Int32} {s1 : Int32} (hW : zFE M)  (h : vp_in s1 128 ∧ ∀ M198 : zM, M198 = (zsI M 75 (s1 : Int32).toNatClampNeg s0) → (x6 = 0 → X 210 0 0 [.ref 71, .int x1, .int x3] [.int 0, .int x2] M198) ∧ (¬ x6 = 0 → X 210 0 0 [.ref 71, .int x1, .int x3] [.int 1, .int x2] M198)) : aX12_turn_198 mc ms X Q 0 0 [some (.ref 71), some (.int x1), some (.int x2), some (.int x3), none, none, some (.int x6), none, none] [.int s0, .int s1, .ref 75] M := ⟨128, (fes_75 hW), h.1, (have h198 := h.2 _ rfl; ⟨fun c202 => (h198.1 c202), fun c202 => (h198.2 c202)⟩)⟩
theorem nvX12_turn_210 {mc ms : Nat} {X : Nat → zV} {Q : zQt} {M : zM} {x1 : Int32} {x3 : Int32} {s0 : Int32} {s1 : Int32} (hW : zFE M)  (h : X 6 0 0 [.ref 71, .int x1, .int (s1 + s0), .int (x3 + 1)] [] M) : aX12_turn_210 mc ms X Q 0 0 [some (.ref 71), some (.int x1), none, some (.int x3), none, none, none, none, none] [.int s0, .int s1] M := h
theorem and_all : (List.range 8).all (fun i => (decide (nI i &&& (1 : Int32) = 0) == decide (i % 2 = 0)) && (decide (nI i &&& (2 : Int32) = 0) == decide (i / 2 % 2 = 0)) && (decide (nI i &&& (4 : Int32) = 0) == decide (i / 4 % 2 = 0))) = true := by decide +kernel
theorem and_of {i : Nat} (hi : i < 8) : (nI i &&& (1 : Int32) = 0 ↔ i % 2 = 0) ∧ (nI i &&& (2 : Int32) = 0 ↔ i / 2 % 2 = 0) ∧ (nI i &&& (4 : Int32) = 0 ↔ i / 4 % 2 = 0) := by
  have h := List.all_eq_true.mp and_all i (List.mem_range.mpr hi)
  rw [Bool.and_eq_true, Bool.and_eq_true, beq_iff_eq, beq_iff_eq, beq_iff_eq, decide_eq_decide, decide_eq_decide, decide_eq_decide] at h
  exact ⟨h.1.1, h.1.2, h.2⟩
set_option maxHeartbeats 2000000 in
theorem e_turn {mc ms : Nat} {M : zM} (hW : zFE M) {Q : zQt} (hq : ∀ K, zSm [74, 75] M K → eTb K → Q none K) : wX12_turn mc ms [.ref 71] M Q := by
  refine ⟨⟨Nat.le_of_ble_eq_true rfl, rfl⟩, fun X l0 l6 l27 l51 l70 l109 l130 l148 l149 l166 l178 l198 l210 => ?_⟩
  have cle : ∀ k q, kCt k q ≤ q := fun k q => by
    induction q with
    | zero => exact Nat.le_refl _
    | succ q ih => show kCt k q + _ ≤ q + 1; split <;> omega
  have outer : ∀ (n s : Nat) (K : zM), s + n = 64 → zSm [74, 75] M K → (∀ i q, i < 8 → q < s → K.1 74 (64 * i + q) = nI (trn i q)) → (∀ q, q < s → K.1 75 q = iI (kNo 0 q) ∧ K.1 75 (64 + q) = iI (kNo 1 q)) → X 6 0 0 [.ref 71, .int (nI (kCt 0 s)), .int (nI (kCt 1 s)), .int (nI s)] [] K := by
    intro n
    induction n with
    | zero =>
      intro s K hs sK h1 h2
      have hs : s = 64 := by omega
      subst hs
      exact l6 _ _ _ _ _ ⟨rfl, nvX12_turn_6 (sK.fe hW) ⟨fun _ => hq K sK ⟨h1, h2⟩, fun c => absurd (by decide) c⟩⟩
    | succ n ih =>
      intro s K hn sK h1 h2
      have hs : s < 64 := by omega
      have c0 := cle 0 s
      have c1 := cle 1 s
      -- behind the turns of a square
      have tail : ∀ K2, zSm [74, 75] M K2 → (∀ i q, i < 8 → q < s + 1 → K2.1 74 (64 * i + q) = nI (trn i q)) → (∀ q, q < s → K2.1 75 q = iI (kNo 0 q) ∧ K2.1 75 (64 + q) = iI (kNo 1 q)) → X 27 0 0 [.ref 71, .int (nI (kCt 0 s)), .int (nI (kCt 1 s)), .int (nI s), .int (nI (s % 8)), .int (nI (s / 8)), .int (nI 8)] [] K2 := by
        intro K2 s2 g1 g2
        have W2 := s2.fe hW
        obtain ⟨lf, hlf⟩ : ∃ lf, lf = kNb 1 s := ⟨_, rfl⟩
        obtain ⟨tr, htr⟩ : ∃ tr, tr = kNb 0 s := ⟨_, rfl⟩
        have l4 : lf = true ↔ s % 8 < 4 := by rw [hlf]; unfold kNb; simp
        have t4 : tr = true ↔ s % 8 < 4 ∧ s / 8 ≤ s % 8 := by rw [htr]; unfold kNb; simp
        have n0 : kCt 0 (s + 1) = kCt 0 s + (if tr = true then 1 else 0) := by rw [htr]; rfl
        have n1 : kCt 1 (s + 1) = kCt 1 s + (if lf = true then 1 else 0) := by rw [hlf]; rfl
        have f149 : X 149 0 0 [.ref 71, .int (nI (kCt 0 s)), .int (nI (kCt 1 s)), .int (nI s), .int (bI lf)] [.int (bI tr)] K2 := by
          have f166 : ∀ v : Int32, v = iI (kNo 0 s) → X 166 0 0 [.ref 71, .int (nI (kCt 0 s)), .int (nI (kCt 1 s)), .int (nI s), .int (bI lf), .int (bI tr)] [.int v, .int (nI s), .ref 75] K2 := by
            intro v hv
            refine l166 _ _ _ _ _ ⟨rfl, nvX12_turn_166 W2 ⟨vp_in_nI (by omega) (by omega), fun K3 e3 => ?_⟩⟩
            rw [nI_clamp (by omega)] at e3
            have s3 : zSm [74, 75] M K3 := by rw [e3]; exact s2.tr (zSm.I (by decide))
            have W3 := s3.fe hW
            have f178 : X 178 0 0 [.ref 71, .int (nI (kCt 1 s)), .int (nI s), .int (bI lf)] [.int (bI tr), .int (nI (kCt 0 s))] K3 := by
              have f198 : ∀ v2 : Int32, v2 = iI (kNo 1 s) → X 198 0 0 [.ref 71, .int (nI (kCt 0 (s + 1))), .int (nI (kCt 1 s)), .int (nI s), .int (bI lf)] [.int v2, .int (nI (64 + s)), .ref 75] K3 := by
                intro v2 hv2
                refine l198 _ _ _ _ _ ⟨rfl, nvX12_turn_198 W3 ⟨vp_in_nI (by omega) (by omega), fun K4 e4 => ?_⟩⟩
                rw [nI_clamp (by omega)] at e4
                have s4 : zSm [74, 75] M K4 := by rw [e4]; exact s3.tr (zSm.I (by decide))
                have W4 := s4.fe hW
                have f210 : X 210 0 0 [.ref 71, .int (nI (kCt 0 (s + 1))), .int (nI s)] [.int (bI lf), .int (nI (kCt 1 s))] K4 := by
                  refine l210 _ _ _ _ _ ⟨rfl, nvX12_turn_210 W4 ?_⟩
                  have e1 : nI (kCt 1 s) + bI lf = nI (kCt 1 (s + 1)) := by
                    rw [n1]
                    cases lf
                    · rw [if_neg (by decide), show bI false = nI 0 from rfl, nI_add]
                    · rw [if_pos rfl, show bI true = nI 1 from rfl, nI_add]
                  rw [e1, show nI s + (1 : Int32) = nI (s + 1) from nI_add _ 1]
                  refine ih (s + 1) K4 (by omega) s4 (fun i q hi hq => ?_) (fun q hq => ?_)
                  · rw [e4, zsI_o (by decide), e3, zsI_o (by decide)]
                    exact g1 i q hi hq
                  · by_cases z : q = s
                    · subst z
                      refine ⟨?_, ?_⟩
                      · rw [e4, zsI_n (by omega), e3, zsI_s, hv]
                      · rw [e4, zsI_s, hv2]
                    · refine ⟨?_, ?_⟩
                      · rw [e4, zsI_n (by omega), e3, zsI_n z]; exact (g2 q (by omega)).1
                      · rw [e4, zsI_n (by omega), e3, zsI_n (by omega)]; exact (g2 q (by omega)).2
                exact ⟨fun z => by rw [bI_0.mp z] at f210; exact f210, fun z => by rw [bI_n.mp z] at f210; exact f210⟩
              refine l178 _ _ _ _ _ ⟨rfl, nvX12_turn_178 W3 ?_⟩
              have e1 : nI (kCt 0 s) + bI tr = nI (kCt 0 (s + 1)) := by
                rw [n0]
                cases tr
                · rw [if_neg (by decide), show bI false = nI 0 from rfl, nI_add]
                · rw [if_pos rfl, show bI true = nI 1 from rfl, nI_add]
              rw [e1, show (64 : Int32) + nI s = nI (64 + s) from nI_add 64 s]
              refine ⟨fun z => f198 _ ?_, fun z => f198 _ ?_⟩
              · unfold kNo
                rw [← hlf, bI_0.mp z, if_neg (by decide)]; decide
              · unfold kNo
                rw [← hlf, bI_n.mp z, if_pos rfl]; rfl
            exact ⟨fun z => by rw [bI_0.mp z] at f178; exact f178, fun z => by rw [bI_n.mp z] at f178; exact f178⟩
          refine l149 _ _ _ _ _ ⟨rfl, nvX12_turn_149 W2 ⟨fun z => f166 _ ?_, fun z => f166 _ ?_⟩⟩
          · unfold kNo
            rw [← htr, bI_0.mp z, if_neg (by decide)]; decide
          · unfold kNo
            rw [← htr, bI_n.mp z, if_pos rfl]; rfl
        have f148 : tr = false → X 148 0 0 [.ref 71, .int (nI (kCt 0 s)), .int (nI (kCt 1 s)), .int (nI s), .int (bI lf)] [] K2 := fun z => by
          rw [z] at f149
          exact l148 _ _ _ _ _ ⟨rfl, nvX12_turn_148 W2 f149⟩
        have f130 : X 130 0 0 [.ref 71, .int (nI (kCt 0 s)), .int (nI (kCt 1 s)), .int (nI s), .int (nI (s % 8)), .int (nI (s / 8))] [.int (bI lf)] K2 := by
          refine l130 _ _ _ _ _ ⟨rfl, nvX12_turn_130 W2 ⟨fun z => f148 ?_, fun z => ⟨fun y => f148 ?_, fun y => ?_⟩⟩⟩
          · have : ¬ s % 8 < 4 := fun q => by rw [l4.mpr q] at z; exact absurd z (by decide)
            exact Bool.eq_false_iff.mpr (fun q => this (t4.mp q).1)
          · have y := (nI_ltI (by omega) (by omega)).mp y
            exact Bool.eq_false_iff.mpr (fun q => by have := (t4.mp q).2; omega)
          · have y : ¬ s % 8 < s / 8 := fun q => y ((nI_ltI (by omega) (by omega)).mpr q)
            have : tr = true := t4.mpr ⟨l4.mp (bI_n.mp z), by omega⟩
            rw [this] at f149
            exact f149
        refine l27 _ _ _ _ _ ⟨rfl, nvX12_turn_27 W2 ⟨fun _ => ?_, fun c => absurd (by decide) c⟩⟩
        rw [show (2 : Int32) * nI (s % 8) = nI (2 * (s % 8)) from pk_mul 2 _]
        refine ⟨fun z => ?_, fun z => ?_⟩
        · have z := (nI_leI (a := 8) (by decide) (by omega)).mp z
          have : lf = false := Bool.eq_false_iff.mpr (fun q => by have := l4.mp q; omega)
          rw [this] at f130
          exact f130
        · have z : ¬ 8 ≤ 2 * (s % 8) := fun q => z ((nI_leI (a := 8) (by decide) (by omega)).mpr q)
          have : lf = true := l4.mpr (by omega)
          rw [this] at f130
          exact f130
      have inner : ∀ (r i : Nat) (K2 : zM), i + r = 8 → zSm [74, 75] M K2 → (∀ j q, j < 8 → (q < s ∨ (q = s ∧ j < i)) → K2.1 74 (64 * j + q) = nI (trn j q)) → (∀ q, q < s → K2.1 75 q = iI (kNo 0 q) ∧ K2.1 75 (64 + q) = iI (kNo 1 q)) → X 27 0 0 [.ref 71, .int (nI (kCt 0 s)), .int (nI (kCt 1 s)), .int (nI s), .int (nI (s % 8)), .int (nI (s / 8)), .int (nI i)] [] K2 := by
        intro r
        induction r with
        | zero =>
          intro i K2 hi s2 g1 g2
          have hi : i = 8 := by omega
          subst hi
          exact tail K2 s2 (fun i q hi hq => g1 i q hi (by omega)) g2
        | succ r ihr =>
          intro i K2 hi s2 g1 g2
          have i8 : i < 8 := by omega
          have W2 := s2.fe hW
          obtain ⟨a1, a2, a3⟩ := and_of i8
          obtain ⟨x, hx⟩ : ∃ x, x = if i % 2 = 0 then s % 8 else 7 - s % 8 := ⟨_, rfl⟩
          obtain ⟨y, hy⟩ : ∃ y, y = if i / 2 % 2 = 0 then s / 8 else 7 - s / 8 := ⟨_, rfl⟩
          have f109 : ∀ t, t = trn i s → X 109 0 0 [.ref 71, .int (nI (kCt 0 s)), .int (nI (kCt 1 s)), .int (nI s), .int (nI (s % 8)), .int (nI (s / 8)), .int (nI i)] [.int (nI t), .int (nI (64 * i + s)), .ref 74] K2 := fun t ht => by
            refine l109 _ _ _ _ _ ⟨rfl, nvX12_turn_109 W2 ⟨vp_in_nI (by omega) (by omega), fun K3 e3 => ?_⟩⟩
            rw [nI_clamp (by omega)] at e3
            rw [show nI i + (1 : Int32) = nI (i + 1) from nI_add _ 1]
            refine ihr (i + 1) K3 (by omega) (by rw [e3]; exact s2.tr (zSm.I (by decide))) (fun j q hj hq => ?_) (fun q hq => by rw [e3, zsI_o (by decide)]; exact g2 q hq)
            by_cases z : 64 * j + q = 64 * i + s
            · have : j = i ∧ q = s := by omega
              obtain ⟨z1, z2⟩ := this
              subst z1; subst z2
              rw [e3, zsI_s, ht]
            · rw [e3, zsI_n z]; exact g1 j q hj (by omega)
          have f70 : X 70 0 0 [.ref 71, .int (nI (kCt 0 s)), .int (nI (kCt 1 s)), .int (nI s), .int (nI (s % 8)), .int (nI (s / 8)), .int (nI i), .int (nI x)] [.int (nI y)] K2 := by
            refine l70 _ _ _ _ _ ⟨rfl, nvX12_turn_70 W2 ?_⟩
            rw [show (64 : Int32) * nI i = nI (64 * i) from pk_mul 64 i, nI_add, show (8 : Int32) * nI y = nI (8 * y) from pk_mul 8 y, nI_add, show (8 : Int32) * nI x = nI (8 * x) from pk_mul 8 x, nI_add]
            refine ⟨fun z => f109 _ ?_, fun z => f109 _ ?_⟩
            · unfold trn; rw [if_pos (a3.mp z), hx, hy]
            · unfold trn; rw [if_neg (fun q => z (a3.mpr q)), hx, hy]
          have f51 : X 51 0 0 [.ref 71, .int (nI (kCt 0 s)), .int (nI (kCt 1 s)), .int (nI s), .int (nI (s % 8)), .int (nI (s / 8)), .int (nI i)] [.int (nI x)] K2 := by
            refine l51 _ _ _ _ _ ⟨rfl, nvX12_turn_51 W2 ⟨fun z => ?_, fun z => ?_⟩⟩
            · rw [hy, if_pos (a2.mp z)] at f70; exact f70
            · rw [hy, if_neg (fun q => z (a2.mpr q)), ← show (7 : Int32) - nI (s / 8) = nI (7 - s / 8) from pk_sub (a := 7) (by omega)] at f70; exact f70
          refine l27 _ _ _ _ _ ⟨rfl, nvX12_turn_27 W2 ⟨fun z => absurd ((nI_leI (a := 8) (by decide) (by omega)).mp z) (by omega), fun _ => ⟨fun z => ?_, fun z => ?_⟩⟩⟩
          · rw [hx, if_pos (a1.mp z)] at f51; exact f51
          · rw [hx, if_neg (fun q => z (a1.mpr q)), ← show (7 : Int32) - nI (s % 8) = nI (7 - s % 8) from pk_sub (a := 7) (by omega)] at f51; exact f51
      refine l6 _ _ _ _ _ ⟨rfl, nvX12_turn_6 (sK.fe hW) ⟨fun z => absurd ((nI_leI (a := 64) (by decide) (by omega)).mp z) (by omega), fun _ y16 e16 => ?_⟩⟩
      rw [e16, show nI s - nI s / (8 : Int32) * (8 : Int32) = nI (s % 8) from pk_rem (d := 8) (by omega) (by decide) (by decide), show nI s / (8 : Int32) = nI (s / 8) from pk_div (d := 8) (by omega) (by decide) (by decide)]
      exact inner 8 0 K (by omega) sK (fun j q hj hq => h1 j q hj (by omega)) h2
  exact l0 _ _ _ _ _ ⟨rfl, nvX12_turn_0 hW (outer 64 0 M (by omega) zSm.rf (fun i q _ h => absurd h (by omega)) (fun q h => absurd h (by omega)))⟩
