/-! THE REFERENCE: the distance of a position -/
theorem uvkX13_distance_134 {mc ms u v : Nat} (hu : u ≤ mc) (hv : v ≤ ms) {X : Nat → zV} {Q : zQt} {M : zM} {x2 : Int32} {x3 : Int32} {x4 : Int32} {x5 : Int32} {x6 : Int32} {x7 : Int32} {x8 : Int32} (hW : zFix M)  (h : wX13_sideOf 0 0 [.int x3] M (fun r M1 => kX13_distance_138 mc ms X Q u v [some (.ref 55), none, some (.int x2), some (.int x3), some (.int x4), some (.int x5), some (.int x6), some (.int x7), some (.int x8), none] (r.toList ++ []) M1)) : kX13_distance_134 mc ms X Q u v [some (.ref 55), none, some (.int x2), some (.int x3), some (.int x4), some (.int x5), some (.int x6), some (.int x7), some (.int x8), none] [] M := ⟨Nat.le_of_ble_eq_true rfl, rfl, 0, 0, hu, hv, h⟩
theorem uvkX13_distance_138 {mc ms u v : Nat} (hu : u ≤ mc) (hv : v ≤ ms) {X : Nat → zV} {Q : zQt} {M : zM} {x2 : Int32} {x3 : Int32} {x4 : Int32} {x5 : Int32} {x6 : Int32} {x7 : Int32} {x8 : Int32} {s0 : Int32} (hW : zFix M)  (h : vp_in ((x2 + (64 : Int32))) 414 ∧ (s0 = ((M : zM).1 65 ((x2 + (64 : Int32)) : Int32).toNatClampNeg) → X 155 u v [.ref 55, .int x3, .int x5, .int x6, .int x7] [.int 1] M) ∧ (¬ s0 = ((M : zM).1 65 ((x2 + (64 : Int32)) : Int32).toNatClampNeg) → X 155 u v [.ref 55, .int x3, .int x5, .int x6, .int x7] [.int 0] M)) : kX13_distance_138 mc ms X Q u v [some (.ref 55), none, some (.int x2), some (.int x3), some (.int x4), some (.int x5), some (.int x6), some (.int x7), some (.int x8), none] [.int s0] M := ⟨(fxs_55 hW), 65, (fxr_55_16 hW), ⟨414, (fxs_65 hW), h.1, ⟨fun c147 => (h.2.1 c147), fun c147 => (h.2.2 c147)⟩⟩⟩
theorem uvX13_distance_155 {mc ms u v : Nat} (hu : u ≤ mc) (hv : v ≤ ms) {X : Nat → zV} {Q : zQt} {M : zM} {x3 : Int32} {x5 : Int32} {x6 : Int32} {x7 : Int32} {s0 : Int32} (hW : zFix M)  (h : ((7 : Int32) ≤ x3 → wX12_distanceOf 0 0 [.ref 71, .int (x3 - (6 : Int32)), .int (x7 ^^^ (56 : Int32)), .int (x5 ^^^ (56 : Int32)), .int (x6 ^^^ (56 : Int32)), .int s0] M (fun r M1 => kX13_distance_210 mc ms X Q u v [some (.ref 55), none, none, some (.int x3), none, some (.int x5), some (.int x6), some (.int x7), some (.int s0), none] (r.toList ++ []) M1)) ∧ (¬ (7 : Int32) ≤ x3 → wX12_distanceOf 0 0 [.ref 71, .int x3, .int x6, .int x5, .int x7, .int s0] M (fun r M1 => kX13_distance_179 mc ms X Q u v [some (.ref 55), none, none, some (.int x3), none, some (.int x5), some (.int x6), some (.int x7), some (.int s0), none] (r.toList ++ []) M1))) : aX13_distance_155 mc ms X Q u v [some (.ref 55), none, none, some (.int x3), none, some (.int x5), some (.int x6), some (.int x7), none, none] [.int s0] M := ⟨fun c160 => ⟨(fxs_55 hW), 71, (fxr_55_25 hW), ⟨Nat.le_of_ble_eq_true rfl, rfl, (fxs_71 hW), 0, 0, hu, hv, (h.1 c160)⟩⟩, fun c160 => ⟨(fxs_55 hW), 71, (fxr_55_25 hW), ⟨Nat.le_of_ble_eq_true rfl, rfl, (fxs_71 hW), 0, 0, hu, hv, (h.2 c160)⟩⟩⟩
theorem uvkX13_distance_179 {mc ms u v : Nat} (hu : u ≤ mc) (hv : v ≤ ms) {X : Nat → zV} {Q : zQt} {M : zM} {x3 : Int32} {x5 : Int32} {x6 : Int32} {x7 : Int32} {x8 : Int32} {s0 : Int32} (hW : zFix M)  (h : X 210 u v [] [.int s0] M) : kX13_distance_179 mc ms X Q u v [some (.ref 55), none, none, some (.int x3), none, some (.int x5), some (.int x6), some (.int x7), some (.int x8), none] [.int s0] M := h
theorem uvkX13_distance_210 {mc ms u v : Nat} (hu : u ≤ mc) (hv : v ≤ ms) {X : Nat → zV} {Q : zQt} {M : zM} {x3 : Int32} {x5 : Int32} {x6 : Int32} {x7 : Int32} {x8 : Int32} {s0 : Int32} (hW : zFix M)  (h : X 210 u v [] [.int s0] M) : kX13_distance_210 mc ms X Q u v [some (.ref 55), none, none, some (.int x3), none, some (.int x5), some (.int x6), some (.int x7), some (.int x8), none] [.int s0] M := h
theorem uvX13_distance_210 {mc ms u v : Nat} (hu : u ≤ mc) (hv : v ≤ ms) {X : Nat → zV} {Q : zQt} {M : zM} {s0 : Int32} (hW : zFix M)  (h : Q (some (.int s0)) M) : aX13_distance_210 mc ms X Q u v [none, none, none, none, none, none, none, none, none, none] [.int s0] M := h
def oB (B : Nat → Nat) (s : Nat) : Bool := !(B s == 0) && !(B s == 6) && !(B s == 12)
def oL (B : Nat → Nat) (n : Nat) : List Nat := (List.range n).filter (oB B)
theorem oL_s (B : Nat → Nat) (n : Nat) : oL B (n + 1) = oL B n ++ (if oB B n = true then [n] else []) := by
  unfold oL
  rw [List.range_succ, List.filter_append]
  congr 1
  by_cases h : oB B n = true
  · rw [if_pos h]; simp [h]
  · rw [if_neg h]; simp [h]
def oM (B : Nat → Nat) (n : Nat) : Nat := match (oL B n).getLast? with
  | none => 0
  | some q => B q
def oP (B : Nat → Nat) (n : Nat) : Nat := match (oL B n).getLast? with
  | none => 0
  | some q => q
theorem oMP_t {B : Nat → Nat} {n : Nat} (h : oB B n = true) : oM B (n + 1) = B n ∧ oP B (n + 1) = n ∧ (oL B (n + 1)).length = (oL B n).length + 1 := by
  unfold oM oP
  rw [oL_s, if_pos h, List.getLast?_append]
  simp
theorem oMP_f {B : Nat → Nat} {n : Nat} (h : ¬ oB B n = true) : oM B (n + 1) = oM B n ∧ oP B (n + 1) = oP B n ∧ (oL B (n + 1)).length = (oL B n).length := by
  unfold oM oP
  rw [oL_s, if_neg h, List.append_nil]
  exact ⟨rfl, rfl, rfl⟩
theorem oL_len (B : Nat → Nat) (n : Nat) : (oL B n).length ≤ n := by
  have := List.length_filter_le (oB B) (List.range n)
  rw [List.length_range] at this
  exact this
theorem oB_kd {B : Nat → Nat} {s : Nat} (h : B s ≤ 12) : oB B s = true ↔ B s ≠ 0 ∧ kd (B s) ≠ 6 := by
  unfold oB kd
  have : B s = 0 ∨ B s = 6 ∨ B s = 12 ∨ (B s ≠ 0 ∧ B s ≠ 6 ∧ B s ≠ 12) := by omega
  rcases this with e | e | e | ⟨a, b, c⟩
  · simp [e]
  · simp [e]
  · simp [e]
  · simp [a, b, c]
    split <;> omega
/-- the ending that a position is -/
def eKd (P : Ps) : Nat := match oL P.1 64 with
  | [q] => if P.2.2.1 = 0 then kd (P.1 q) else 0
  | _ => 0
/-- the distance of a position whose kings stand on a and b -/
def dOf (P : Ps) (a b : Nat) (v : Int32) : Prop := match oL P.1 64 with
  | [q] => if P.2.2.1 = 0 then (if P.1 q < 7 then eV (P.1 q) a q b (decide (P.2.1 = 0)) 100 v else eV (P.1 q - 6) (b ^^^ 56) (q ^^^ 56) (a ^^^ 56) (decide (P.2.1 = 1)) 100 v) else v = -1
  | _ => v = -1
theorem eV_uniq {k s p w : Nat} {sm : Bool} {N : Nat} {v v2 : Int32} (h : eV k s p w sm N v) (g : eV k s p w sm N v2) : v = v2 := by
  rcases h with ⟨d, a, b, c⟩ | ⟨a, c⟩ <;> rcases g with ⟨d2, a2, b2, c2⟩ | ⟨a2, c2⟩
  · rw [c, c2, isD_uniq b b2]
  · exact absurd b (a2 d a)
  · exact absurd b2 (a d2 a2)
  · rw [c, c2]
theorem dOf_uniq {P : Ps} {a b : Nat} {v v2 : Int32} (h : dOf P a b v) (g : dOf P a b v2) : v = v2 := by
  unfold dOf at h g
  cases e : oL P.1 64 with
  | nil => rw [e] at h g; exact Eq.trans h (Eq.symm g)
  | cons q L =>
    cases L with
    | cons q2 L => rw [e] at h g; exact Eq.trans h (Eq.symm g)
    | nil =>
      rw [e] at h g
      have h : if P.2.2.1 = 0 then (if P.1 q < 7 then eV (P.1 q) a q b (decide (P.2.1 = 0)) 100 v else eV (P.1 q - 6) (b ^^^ 56) (q ^^^ 56) (a ^^^ 56) (decide (P.2.1 = 1)) 100 v) else v = -1 := h
      have g : if P.2.2.1 = 0 then (if P.1 q < 7 then eV (P.1 q) a q b (decide (P.2.1 = 0)) 100 v2 else eV (P.1 q - 6) (b ^^^ 56) (q ^^^ 56) (a ^^^ 56) (decide (P.2.1 = 1)) 100 v2) else v2 = -1 := g
      by_cases r : P.2.2.1 = 0
      · rw [if_pos r] at h g
        by_cases z : P.1 q < 7
        · rw [if_pos z] at h g; exact eV_uniq h g
        · rw [if_neg z] at h g; exact eV_uniq h g
      · rw [if_neg r] at h g; rw [h, g]
/-- the kings' places -/
def kPl (B : Nat → Nat) (a b : Nat) : Prop := a < 64 ∧ b < 64 ∧ (∀ s, s < 64 → (B s = 6 ↔ s = a)) ∧ ∀ s, s < 64 → (B s = 12 ↔ s = b)
theorem xor_56 : (List.range 64).all (fun q => decide (nI q ^^^ (56 : Int32) = nI (q ^^^ 56)) && decide (q ^^^ 56 < 64)) = true := by decide +kernel
theorem nI_56 {q : Nat} (h : q < 64) : nI q ^^^ (56 : Int32) = nI (q ^^^ 56) ∧ q ^^^ 56 < 64 := by
  have := List.all_eq_true.mp xor_56 q (List.mem_range.mpr h)
  rw [Bool.and_eq_true] at this
  exact ⟨of_decide_eq_true this.1, of_decide_eq_true this.2⟩
def knE (kn : Nat → Bool) (P : Ps) : Nat → Bool := fun j => kn j || (decide (eKd P ≠ 0) && ndd (eKd P) j)
theorem knE_0 {kn : Nat → Bool} {P : Ps} (h : eKd P = 0) : knE kn P = kn := by
  funext j
  unfold knE
  simp [h]
theorem knE_n {kn : Nat → Bool} {P : Ps} (h : eKd P ≠ 0) : knE kn P = fun j => kn j || ndd (eKd P) j := by
  funext j
  unfold knE
  simp [h]
set_option maxHeartbeats 4000000 in
theorem e_distance {mc ms : Nat} {M : zM} (hW : zFix M) {kn : Nat → Bool} (hK : eKn M kn) {y : Nat} {P : Ps} (hP : rPs M (69 * y) P) (hy : 69 * y + 69 ≤ 414) {a b : Nat} (hk : kPl P.1 a b) (hmc : uC kn ≤ mc + uC (knE kn P)) (hms : vC kn ≤ ms + vC (knE kn P)) {Q : zQt} (hq : ∀ K v, xFr eKC M K → eKn K (knE kn P) → dOf P a b v → Q (some (.int v)) K) : wX13_distance mc ms [.ref 55, .int (nI y)] M Q := by
  refine ⟨⟨Nat.le_of_ble_eq_true rfl, rfl⟩, fun X l0 l22 l54 l70 l97 l121 l155 l210 => ?_⟩
  obtain ⟨ha, hb, hka, hkb⟩ := hk
  have bd : ∀ s, s < 64 → M.1 65 (69 * y + s) = nI (P.1 s) ∧ P.1 s ≤ 12 := hP.1
  have f121 : eKd P = 0 → dOf P a b (-1) → X 121 0 0 [] [] M := fun e h => l121 _ _ _ _ _ ⟨rfl, vX13_distance_121 hW (hq M (-1) (xFr.rf hW) (by rw [knE_0 e]; exact hK) h)⟩
  have f210 : ∀ K v, xFr eKC M K → eKn K (knE kn P) → dOf P a b v → X 210 (0 + mc) (0 + ms) [] [.int v] K := fun K v h1 h2 h3 => l210 _ _ _ _ _ ⟨rfl, uvX13_distance_210 (by omega) (by omega) h1.1 (hq K v h1 h2 h3)⟩
  have olt : ∀ {q n : Nat}, q ∈ oL P.1 n → q < n ∧ oB P.1 q = true := fun h => by
    unfold oL at h
    rw [List.mem_filter, List.mem_range] at h
    exact h
  have fin : X 22 0 0 [.ref 55, .int (nI (69 * y)), .int (nI (oM P.1 64)), .int (nI (oL P.1 64).length), .int (nI (oP P.1 64)), .int (nI a), .int (nI b), .int (nI 64)] [] M := by
    have ol := oL_len P.1 64
    refine l22 _ _ _ _ _ ⟨rfl, vX13_distance_22 hW ⟨fun _ => ⟨fun c => ?_, fun c => ?_⟩, fun c => absurd (by decide) c⟩⟩
    · have c : (oL P.1 64).length = 1 := (nI_eq (b := 1) (by omega) (by decide)).mp c
      obtain ⟨q, eq⟩ : ∃ q, oL P.1 64 = [q] := List.length_eq_one_iff.mp c
      have hqm := olt (q := q) (n := 64) (by rw [eq]; simp)
      have eM : oM P.1 64 = P.1 q := by unfold oM; rw [eq]; rfl
      have eP : oP P.1 64 = q := by unfold oP; rw [eq]; rfl
      have b12 := (bd q hqm.1).2
      have ko := (oB_kd b12).mp hqm.2
      rw [eM, eP, show nI (69 * y) + (65 : Int32) = nI (69 * y + 65) from nI_add _ 65, nI_clamp (by omega), hP.2.2.1.1]
      refine ⟨vp_in_nI (by omega) (by omega), fun z => ?_, fun z => ?_⟩
      · have z : P.2.2.1 = 0 := (nI_eq (b := 0) (by have := hP.2.2.1.2; omega) (by decide)).mp z
        have ek : eKd P = kd (P.1 q) := by unfold eKd; rw [eq]; exact if_pos z
        have k15 : 1 ≤ kd (P.1 q) ∧ kd (P.1 q) ≤ 5 := by
          have := ko.2
          unfold kd at this ⊢
          split at this
          · rw [if_pos ‹_›]; omega
          · rw [if_neg ‹_›]; omega
        have kE : knE kn P = fun j => kn j || ndd (kd (P.1 q)) j := by rw [knE_n (by omega), ek]
        refine c_kindOf hW (P.1 q) (by omega) ?_
        refine ⟨Nat.le_of_ble_eq_true rfl, rfl, fxs_71 hW, mc, ms, by omega, by omega, ?_⟩
        refine e_work hW hK k15.1 k15.2 kE hmc hms (fun K hF hE => ?_)
        have WK := hF.1
        have l82 := fix_len hW
        have k65 : K.1 65 = M.1 65 := (hF.2.2.2 65 (by decide) (Or.inl (by omega))).1
        refine uvkX13_distance_134 (by omega) (by omega) WK ?_
        refine c_sideOf WK (P.1 q) (by omega) ?_
        refine uvkX13_distance_138 (by omega) (by omega) WK ?_
        rw [show nI (69 * y) + (64 : Int32) = nI (69 * y + 64) from nI_add _ 64, nI_clamp (by omega), k65, hP.2.1.1]
        have done : eDone K (kd (P.1 q)) := (hE.2 _ k15.1 k15.2).2 (by rw [kE]; unfold ndd; simp)
        have dd : ∀ sm, eRd K (kd (P.1 q)) sm 100 := fun sm => by cases sm; exact done.2.1; exact done.1
        have sd : sdI (P.1 q) = if P.1 q < 7 then 0 else 1 := by
          unfold sdI
          rw [if_neg ko.1]
          by_cases z7 : P.1 q < 7
          · rw [if_pos z7, if_neg (by omega)]
          · rw [if_neg z7, if_pos (by omega)]
        have f155 : ∀ sm : Bool, (sm = true ↔ sdI (P.1 q) = (P.2.1 : Int)) → X 155 (0 + mc) (0 + ms) [.ref 55, .int (nI (P.1 q)), .int (nI q), .int (nI a), .int (nI b)] [.int (bI sm)] K := by
          intro sm hsm
          refine l155 _ _ _ _ _ ⟨rfl, uvX13_distance_155 (by omega) (by omega) WK ⟨fun c => ?_, fun c => ?_⟩⟩
          · have c : 7 ≤ P.1 q := (nI_leI (a := 7) (by decide) (by omega)).mp c
            have kq : kd (P.1 q) = P.1 q - 6 := by unfold kd; rw [if_neg (by omega)]
            rw [show nI (P.1 q) - (6 : Int32) = nI (P.1 q - 6) from pk_sub (a := P.1 q) (b := 6) (by omega), (nI_56 hb).1, (nI_56 hqm.1).1, (nI_56 ha).1]
            refine e_distanceOf WK hE.1 (by omega) (by omega) (nI_56 hb).2 (nI_56 hqm.1).2 (nI_56 ha).2 (by rw [← kq]; exact dd sm) (fun v hv => ?_)
            refine uvkX13_distance_210 (by omega) (by omega) WK (f210 K v hF hE ?_)
            unfold dOf
            rw [eq]
            show if P.2.2.1 = 0 then _ else _
            rw [if_pos z, if_neg (by omega)]
            have es : decide (P.2.1 = 1) = sm := by
              refine bool_iff (P := P.2.1 = 1) (by simp) ?_
              rw [hsm, sd, if_neg (by omega)]
              omega
            rw [es]
            exact hv
          · have c : ¬ 7 ≤ P.1 q := fun w => c ((nI_leI (a := 7) (by decide) (by omega)).mpr w)
            have kq : kd (P.1 q) = P.1 q := by unfold kd; rw [if_pos (by omega)]
            refine e_distanceOf WK hE.1 (by omega) (by omega) ha hqm.1 hb (by rw [← kq]; exact dd sm) (fun v hv => ?_)
            refine uvkX13_distance_179 (by omega) (by omega) WK (f210 K v hF hE ?_)
            unfold dOf
            rw [eq]
            show if P.2.2.1 = 0 then _ else _
            rw [if_pos z, if_pos (by omega)]
            have es : decide (P.2.1 = 0) = sm := by
              refine bool_iff (P := P.2.1 = 0) (by simp) ?_
              rw [hsm, sd, if_pos (by omega)]
              omega
            rw [es]
            exact hv
        have sb := hP.2.1.2
        have e0 : iI (sdI (P.1 q)) = nI P.2.1 ↔ sdI (P.1 q) = (P.2.1 : Int) := iI_eq (a := sdI (P.1 q)) (b := (P.2.1 : Int)) (by rw [sd]; split <;> omega) (by rw [sd]; split <;> omega) (by omega) (by omega)
        exact ⟨vp_in_nI (by omega) (by omega), fun c => f155 true ⟨fun _ => e0.mp c, fun _ => rfl⟩, fun c => f155 false ⟨fun h => absurd h (by decide), fun h => absurd (e0.mpr h) c⟩⟩
      · have z : P.2.2.1 ≠ 0 := fun e => z (by rw [e]; rfl)
        refine f121 (by unfold eKd; rw [eq]; exact if_neg z) ?_
        unfold dOf
        rw [eq]
        show if P.2.2.1 = 0 then _ else _
        rw [if_neg z]
    · have c : ¬ (oL P.1 64).length = 1 := fun e => c (by rw [e]; rfl)
      have ne : ∀ q, oL P.1 64 ≠ [q] := fun q e => c (by rw [e]; rfl)
      refine f121 ?_ ?_
      · unfold eKd
        split
        · rename_i q e
          exact absurd e (ne q)
        · rfl
      · unfold dOf
        split
        · rename_i q e
          exact absurd e (ne q)
        · rfl
  have loop : ∀ (n s : Nat), s + n = 64 → X 22 0 0 [.ref 55, .int (nI (69 * y)), .int (nI (oM P.1 s)), .int (nI (oL P.1 s).length), .int (nI (oP P.1 s)), .int (nI (if a < s then a else 0)), .int (nI (if b < s then b else 0)), .int (nI s)] [] M := by
    intro n
    induction n with
    | zero =>
      intro s hs
      have e : s = 64 := by omega
      subst e
      rw [if_pos ha, if_pos hb]
      exact fin
    | succ n ih =>
      intro s hn
      have hs : s < 64 := by omega
      obtain ⟨bv, b12⟩ := bd s hs
      have nx := ih (s + 1) (by omega)
      rw [← show nI s + (1 : Int32) = nI (s + 1) from nI_add _ 1] at nx
      obtain ⟨wa, hwa⟩ : ∃ wa, wa = if a < s + 1 then a else 0 := ⟨_, rfl⟩
      obtain ⟨wb, hwb⟩ : ∃ wb, wb = if b < s + 1 then b else 0 := ⟨_, rfl⟩
      rw [← hwa, ← hwb] at nx
      have f97 : ∀ m c q, m = oM P.1 (s + 1) → c = (oL P.1 (s + 1)).length → q = oP P.1 (s + 1) → X 97 0 0 [.ref 55, .int (nI (69 * y)), .int (nI m), .int (nI c), .int (nI q), .int (nI wa), .int (nI wb), .int (nI s)] [] M := fun m c q e1 e2 e3 => by
        rw [e1, e2, e3]
        exact l97 _ _ _ _ _ ⟨rfl, vX13_distance_97 hW nx⟩
      have f70 : X 70 0 0 [.ref 55, .int (nI (69 * y)), .int (nI (oM P.1 s)), .int (nI (oL P.1 s).length), .int (nI (oP P.1 s)), .int (nI wa), .int (nI s), .int (nI (P.1 s))] [.int (nI wb)] M := by
        refine l70 _ _ _ _ _ ⟨rfl, vX13_distance_70 hW ⟨fun c => ?_, fun c => ?_⟩⟩
        · have c : P.1 s ≤ 0 := (nI_leI (b := 0) (by omega) (by decide)).mp c
          obtain ⟨e1, e2, e3⟩ := oMP_f (B := P.1) (n := s) (fun h => ((oB_kd b12).mp h).1 (by omega))
          exact f97 _ _ _ e1.symm e3.symm e2.symm
        · have c : P.1 s ≠ 0 := fun e => c (by rw [e]; decide)
          refine c_kindOf hW (P.1 s) (by omega) ?_
          have kl : kd (P.1 s) < 13 := by unfold kd; split <;> omega
          refine vkX13_distance_82 hW ⟨fun z => ?_, fun z => ?_⟩
          · have z : kd (P.1 s) = 6 := (nI_eq (b := 6) (by omega) (by decide)).mp z
            obtain ⟨e1, e2, e3⟩ := oMP_f (B := P.1) (n := s) (fun h => ((oB_kd b12).mp h).2 z)
            exact f97 _ _ _ e1.symm e3.symm e2.symm
          · have z : kd (P.1 s) ≠ 6 := fun e => z (by rw [e]; rfl)
            obtain ⟨e1, e2, e3⟩ := oMP_t (B := P.1) (n := s) ((oB_kd b12).mpr ⟨c, z⟩)
            rw [show nI (oL P.1 s).length + (1 : Int32) = nI ((oL P.1 s).length + 1) from nI_add _ 1]
            exact f97 _ _ _ e1.symm e3.symm e2.symm
      have f54 : X 54 0 0 [.ref 55, .int (nI (69 * y)), .int (nI (oM P.1 s)), .int (nI (oL P.1 s).length), .int (nI (oP P.1 s)), .int (nI (if b < s then b else 0)), .int (nI s), .int (nI (P.1 s))] [.int (nI wa)] M := by
        refine l54 _ _ _ _ _ ⟨rfl, vX13_distance_54 hW ⟨fun c => ?_, fun c => ?_⟩⟩
        · have c : P.1 s = 12 := (nI_eq (b := 12) (by omega) (by decide)).mp c
          have e : s = b := (hkb s hs).mp c
          have : wb = s := by rw [hwb, e, if_pos (by omega)]
          rw [this] at f70
          exact f70
        · have c : P.1 s ≠ 12 := fun e => c (by rw [e]; rfl)
          have e : s ≠ b := fun e => c ((hkb s hs).mpr e)
          have : wb = if b < s then b else 0 := by
            rw [hwb]
            by_cases z : b < s
            · rw [if_pos z, if_pos (by omega)]
            · rw [if_neg z, if_neg (by omega)]
          rw [this] at f70
          exact f70
      refine l22 _ _ _ _ _ ⟨rfl, vX13_distance_22 hW ⟨fun c => absurd ((nI_leI (a := 64) (by decide) (by omega)).mp c) (by omega), fun _ => ?_⟩⟩
      rw [show nI (69 * y) + nI s = nI (69 * y + s) from nI_add _ _, nI_clamp (by omega), bv]
      refine ⟨vp_in_nI (by omega) (by omega), fun y38 e38 => ?_⟩
      rw [e38]
      refine ⟨fun c => ?_, fun c => ?_⟩
      · have c : P.1 s = 6 := (nI_eq (b := 6) (by omega) (by decide)).mp c
        have e : s = a := (hka s hs).mp c
        have : wa = s := by rw [hwa, e, if_pos (by omega)]
        rw [this] at f54
        exact f54
      · have c : P.1 s ≠ 6 := fun e => c (by rw [e]; rfl)
        have e : s ≠ a := fun e => c ((hka s hs).mpr e)
        have : wa = if a < s then a else 0 := by
          rw [hwa]
          by_cases z : a < s
          · rw [if_pos z, if_pos (by omega)]
          · rw [if_neg z, if_neg (by omega)]
        rw [this] at f54
        exact f54
  have st := loop 64 0 (by omega)
  rw [if_neg (by omega), if_neg (by omega)] at st
  refine l0 _ _ _ _ _ ⟨rfl, vX13_distance_0 hW ?_⟩
  rw [show (69 : Int32) * nI y = nI (69 * y) from pk_mul 69 y]
  exact st
