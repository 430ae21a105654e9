/-! THE LIST OF LEGAL MOVES: the reference's fill -/
def pmt (P : Ps) (a b : Nat) : Bool := decide (kd (P.1 a) = 1) && (decide (b < 8) || decide (55 < b))
noncomputable def mvTo (P : Ps) (a b : Nat) : List Nat := @ite _ (lgl P a b) (Classical.propDecidable _) (if pmt P a b = true then (List.range 4).map (fun t => a + 64 * b + 4096 * (2 + t)) else (List.range 1).map (fun t => a + 64 * b + 4096 * (0 + t))) []
noncomputable def mvFrom (P : Ps) (a : Nat) : List Nat := (List.range 64).flatMap (mvTo P a)
noncomputable def mvs (P : Ps) : List Nat := (List.range 64).flatMap (mvFrom P)
noncomputable def mvP (P : Ps) (a b : Nat) : List Nat := (List.range a).flatMap (mvFrom P) ++ (List.range b).flatMap (mvTo P a)
theorem mvTo_y {P : Ps} {a b : Nat} (h : lgl P a b) : mvTo P a b = if pmt P a b = true then (List.range 4).map (fun t => a + 64 * b + 4096 * (2 + t)) else (List.range 1).map (fun t => a + 64 * b + 4096 * (0 + t)) := by
  unfold mvTo
  rw [if_pos h]
theorem mvTo_n {P : Ps} {a b : Nat} (h : ¬ lgl P a b) : mvTo P a b = [] := by
  unfold mvTo
  rw [if_neg h]
theorem mvP_next (P : Ps) (a b : Nat) : mvP P a (b + 1) = mvP P a b ++ mvTo P a b := by
  unfold mvP
  rw [List.range_succ, List.flatMap_append, List.append_assoc]
  simp
theorem mvP_row (P : Ps) (a : Nat) : mvP P (a + 1) 0 = mvP P a 64 := by
  unfold mvP
  rw [List.range_succ, List.flatMap_append]
  simp [mvFrom]
theorem rg_le (f : Nat → List Nat) {a b : Nat} (h : a ≤ b) : ((List.range a).flatMap f).length ≤ ((List.range b).flatMap f).length := by
  obtain ⟨k, rfl⟩ := Nat.exists_eq_add_of_le h
  rw [List.range_add, List.flatMap_append, List.length_append]
  omega
theorem mvP_len (P : Ps) {a b : Nat} (ha : a < 64) (hb : b ≤ 64) : (mvP P a b).length ≤ (mvs P).length := by
  have h1 : (mvP P a b).length ≤ (mvP P a 64).length := by
    unfold mvP
    rw [List.length_append, List.length_append]
    have := rg_le (mvTo P a) hb
    omega
  rw [← mvP_row] at h1
  have h2 : (mvP P (a + 1) 0).length ≤ (mvs P).length := by
    unfold mvP mvs
    have := rg_le (mvFrom P) (a := a + 1) (b := 64) ha
    rw [List.length_append]
    simpa using this
  omega
theorem mvP_skip {P : Ps} {a : Nat} (h : ¬ sdI (P.1 a) = P.2.1) (b : Nat) : mvP P a b = mvP P a 0 := by
  induction b with
  | zero => rfl
  | succ b ih => rw [mvP_next, mvTo_n (fun q => h q.1.1), List.append_nil, ih]
/-- the list under way -/
def fl (M N : zM) (y : Nat) (L : List Nat) : Prop := zSm [65, 66] M N ∧ (∀ i, ¬ (69 * y + 69 ≤ i ∧ i < 69 * y + 138) → N.1 65 i = M.1 65 i) ∧ (∀ k v, L[k]? = some v → N.1 66 (330 * y + k) = nI v) ∧ ∀ i, ¬ (330 * y ≤ i ∧ i < 330 * y + 330) → N.1 66 i = M.1 66 i
theorem fl.nil {M : zM} {y : Nat} : fl M M y [] := ⟨zSm.rf, fun _ _ => rfl, fun k v h => by simp at h, fun _ _ => rfl⟩
theorem fl.scr {M N K : zM} {y : Nat} {L : List Nat} (h : fl M N y L) (hs : scr N K (69 * y + 69)) : fl M K y L := by
  have e : K.1 66 = N.1 66 := hs.1.i (by decide)
  exact ⟨h.1.tr (hs.1.mono (by decide)), fun i hi => (hs.2 i (by omega)).trans (h.2.1 i hi), fun k v hk => by rw [e]; exact h.2.2.1 k v hk, fun i hi => by rw [e]; exact h.2.2.2 i hi⟩
theorem fl.snoc {M N : zM} {y : Nat} {L : List Nat} (h : fl M N y L) (hl : L.length < 330) (v : Nat) : fl M (zsI N 66 (330 * y + L.length) (nI v)) y (L ++ [v]) := by
  refine ⟨h.1.tr (zSm.I (by decide)), fun i hi => ?_, fun k u hk => ?_, fun i hi => ?_⟩
  · rw [zsI_at, if_neg (by omega)]
    exact h.2.1 i hi
  · rw [zsI_at]
    rw [List.getElem?_append] at hk
    by_cases hkl : k < L.length
    · rw [if_pos hkl] at hk
      rw [if_neg (by omega)]
      exact h.2.2.1 k u hk
    · rw [if_neg hkl] at hk
      by_cases hk0 : k - L.length = 0
      · rw [hk0] at hk
        simp at hk
        rw [if_pos ⟨rfl, by omega⟩, hk]
      · rw [List.getElem?_eq_none (by simp; omega)] at hk
        exact absurd hk (by simp)
  · rw [zsI_at, if_neg (by omega)]
    exact h.2.2.2 i hi
/-- the list made -/
def fld (M N : zM) (y : Nat) (L : List Nat) : Prop := zSm [65, 66, 67] M N ∧ (∀ i, ¬ (69 * y + 69 ≤ i ∧ i < 69 * y + 138) → N.1 65 i = M.1 65 i) ∧ (∀ k v, L[k]? = some v → N.1 66 (330 * y + k) = nI v) ∧ (∀ i, ¬ (330 * y ≤ i ∧ i < 330 * y + 330) → N.1 66 i = M.1 66 i) ∧ ∀ i, N.1 67 i = if i = y then nI L.length else M.1 67 i
theorem fl.fld {M N : zM} {y : Nat} {L : List Nat} (h : fl M N y L) : fld M (zsI N 67 y (nI L.length)) y L := by
  refine ⟨(h.1.mono (by decide)).tr (zSm.I (by decide)), fun i hi => ?_, fun k v hk => ?_, fun i hi => ?_, fun i => ?_⟩
  · rw [zsI_at, if_neg (by omega)]; exact h.2.1 i hi
  · rw [zsI_at, if_neg (by omega)]; exact h.2.2.1 k v hk
  · rw [zsI_at, if_neg (by omega)]; exact h.2.2.2 i hi
  · rw [zsI_at]
    by_cases e : i = y
    · rw [if_pos ⟨rfl, e⟩, if_pos e]
    · rw [if_neg (fun q => e q.2), if_neg e, h.1.i (by decide)]
set_option maxHeartbeats 4000000 in
theorem c_fill {mc ms : Nat} {M : zM} (hW : zFix M) {y : Nat} (hy : y ≤ 4) {P : Ps} (hP : rPs M (69 * y) P) (hcl : P.2.2.2.2.1 + 1 < 2 ^ 30) (hnm : P.2.2.2.2.2 + 1 < 2 ^ 30) (hL : (mvs P).length ≤ 330) {Q : zQt} (hq : ∀ N, fld M N y (mvs P) → Q none N) : wX13_fill mc ms [.ref 55, .int (nI y)] M Q := by
  refine ⟨⟨Nat.le_of_ble_eq_true rfl, rfl⟩, fun X l0 l10 l20 l93 l97 l98 l110 l112 l124 l163 l169 => ?_⟩
  have wd : ∀ N L, fl M N y L → zFix N ∧ rPs N (69 * y) P := fun N L hs => ⟨hs.1.fix hW, rPs_off (q := 69 * y + 69) (fun i hi => hs.2.1 i (by omega)) (by omega) hP⟩
  have ext : ∀ (a b : Nat) (p : Bool), a < 64 → b < 64 → ∀ (n k : Nat) (N : zM) (L : List Nat), k + n = (if p = true then 6 else 1) → L.length + n ≤ 330 → fl M N y L → (∀ K, fl M K y (L ++ (List.range n).map (fun t => a + 64 * b + 4096 * (k + t))) → X 163 0 0 [.ref 55, .int (nI y), .int (nI (69 * y)), .int (nI (L.length + n)), .int (nI a), .int (nI b)] [] K) → X 112 0 0 [.ref 55, .int (nI y), .int (nI (69 * y)), .int (nI L.length), .int (nI a), .int (nI b), .int (bI p), .int (nI k)] [] N := by
    intro a b p ha hb n
    induction n with
    | zero =>
      intro k N L hk hl hf nx
      have hWN := (wd N L hf).1
      have h163 := nx N (by simpa using hf)
      have f124 : ∀ z, z < k → z < 6 → X 124 0 0 [.ref 55, .int (nI y), .int (nI (69 * y)), .int (nI L.length), .int (nI a), .int (nI b), .int (bI p), .int (nI k)] [.int (nI z), .int (nI k)] N := by
        intro z hz hz6
        have hk6 : k ≤ 6 := by split at hk <;> omega
        exact l124 _ _ _ _ _ ⟨rfl, vX13_fill_124 hWN ⟨fun _ => h163, fun d => absurd ((nI_ltI (a := z) (b := k) (by omega) (by omega)).mpr hz) d⟩⟩
      refine l112 _ _ _ _ _ ⟨rfl, vX13_fill_112 hWN ⟨fun d => ?_, fun d => ?_⟩⟩
      · rw [bI_0.mp d] at hk
        exact f124 0 (by simp at hk; omega) (by omega)
      · rw [bI_n.mp d] at hk
        exact f124 5 (by simp at hk; omega) (by omega)
    | succ n ih =>
      intro k N L hk hl hf nx
      have hWN := (wd N L hf).1
      have f124 : ∀ z, k ≤ z → z < 6 → X 124 0 0 [.ref 55, .int (nI y), .int (nI (69 * y)), .int (nI L.length), .int (nI a), .int (nI b), .int (bI p), .int (nI k)] [.int (nI z), .int (nI k)] N := by
        intro z hz hz6
        refine l124 _ _ _ _ _ ⟨rfl, vX13_fill_124 hWN ⟨fun d => absurd ((nI_ltI (a := z) (b := k) (by omega) (by omega)).mp d) (by omega), fun _ => ?_⟩⟩
        rw [show (330 : Int32) * nI y = nI (330 * y) from pk_mul 330 y, nI_add, nI_clamp (by omega), show (64 : Int32) * nI b = nI (64 * b) from pk_mul 64 b, nI_add, show (4096 : Int32) * nI k = nI (4096 * k) from pk_mul 4096 k, nI_add]
        refine ⟨vp_in_nI (by omega) (by omega), fun K hK => ?_⟩
        rw [nI_1, nI_1]
        have hf2 := hf.snoc (by omega) (a + 64 * b + 4096 * k)
        rw [← hK] at hf2
        have := ih (k + 1) K (L ++ [a + 64 * b + 4096 * k]) (by omega) (by simp; omega) hf2 (fun K2 h2 => by
          have h3 := nx K2 (by
            rw [List.range_succ_eq_map, List.map_cons, List.map_map]
            rw [List.append_assoc] at h2
            simpa [Function.comp_def, Nat.add_assoc, Nat.add_comm 1] using h2)
          rw [List.length_append, List.length_singleton, show L.length + 1 + n = L.length + (n + 1) by omega]
          exact h3)
        rw [List.length_append, List.length_singleton] at this
        exact this
      refine l112 _ _ _ _ _ ⟨rfl, vX13_fill_112 hWN ⟨fun d => ?_, fun d => ?_⟩⟩
      · rw [bI_0.mp d] at hk
        exact f124 0 (by simp at hk; omega) (by omega)
      · rw [bI_n.mp d] at hk
        exact f124 5 (by simp at hk; omega) (by omega)
  have outer : ∀ (n a : Nat) (N : zM), a + n = 64 → fl M N y (mvP P a 0) → X 10 0 0 [.ref 55, .int (nI y), .int (nI (69 * y)), .int (nI (mvP P a 0).length), .int (nI a)] [] N := by
    intro n
    induction n with
    | zero =>
      intro a N hi hs
      obtain rfl : a = 64 := by omega
      refine l10 _ _ _ _ _ ⟨rfl, vX13_fill_10 (wd N _ hs).1 ⟨fun _ => ?_, fun d => absurd (by decide) d⟩⟩
      have e : mvP P 64 0 = mvs P := by unfold mvP mvs; simp
      rw [nI_clamp (by omega)]
      refine ⟨vp_in_nI (by omega) (by omega), fun K hK => hq K ?_⟩
      rw [hK, e]
      rw [e] at hs
      exact hs.fld
    | succ n ih =>
      intro a N hi hs
      have ha : a < 64 := by omega
      have f169 : ∀ N, fl M N y (mvP P a 64) → X 169 0 0 [.ref 55, .int (nI y), .int (nI (69 * y)), .int (nI (mvP P a 64).length), .int (nI a)] [] N := by
        intro N hs
        refine l169 _ _ _ _ _ ⟨rfl, vX13_fill_169 (wd N _ hs).1 ?_⟩
        rw [nI_1, ← mvP_row]
        exact ih (a + 1) N (by omega) (by rw [mvP_row]; exact hs)
      have inner : ∀ (n b : Nat) (N : zM), b + n = 64 → fl M N y (mvP P a b) → X 20 0 0 [.ref 55, .int (nI y), .int (nI (69 * y)), .int (nI (mvP P a b).length), .int (nI a), .int (nI b)] [] N := by
        intro n
        induction n with
        | zero =>
          intro b N hb hs
          obtain rfl : b = 64 := by omega
          exact l20 _ _ _ _ _ ⟨rfl, vX13_fill_20 (wd N _ hs).1 ⟨fun _ => f169 N hs, fun d => absurd (by decide) d⟩⟩
        | succ n ih2 =>
          intro b N hbn hs
          obtain ⟨hWN, hPN⟩ := wd N _ hs
          have hb : b < 64 := by omega
          obtain ⟨hBi, hBm⟩ := hPN.1 a ha
          have nxt : ∀ K, fl M K y (mvP P a (b + 1)) → X 163 0 0 [.ref 55, .int (nI y), .int (nI (69 * y)), .int (nI (mvP P a (b + 1)).length), .int (nI a), .int (nI b)] [] K := by
            intro K hK
            refine l163 _ _ _ _ _ ⟨rfl, vX13_fill_163 (wd K _ hK).1 ?_⟩
            rw [nI_1]
            exact ih2 (b + 1) K (by omega) hK
          refine l20 _ _ _ _ _ ⟨rfl, vX13_fill_20 hWN ⟨fun d => absurd d (nI_ge (a := b) (b := 64) hb (by decide)), fun _ => ?_⟩⟩
          rw [nI_add, nI_clamp (by omega), hBi]
          refine ⟨vp_in_nI (by omega) (by omega), c_sideOf hWN _ (by omega) ?_⟩
          refine vkX13_fill_39 hWN ?_
          rw [show nI (69 * y) + (64 : Int32) = nI (69 * y + 64) from nI_add _ 64, nI_clamp (by omega), hPN.2.1.1]
          have sb := sdI_bd (P.1 a)
          have hS1 := hPN.2.1.2
          have e : iI (sdI (P.1 a)) = nI P.2.1 ↔ sdI (P.1 a) = P.2.1 := by rw [iI_nat]; exact iI_eq (by omega) (by omega) (by omega) (by omega)
          refine ⟨vp_in_nI (by omega) (by omega), fun d => ?_, fun d => ?_⟩
          · refine c_isLegal hWN hPN (by omega) ha hb hcl hnm (fun K hk hl => ?_) (fun K hk hl => ?_)
            · have hsK := hs.scr hk
              obtain ⟨hWK, hPK⟩ := wd K _ hsK
              obtain ⟨hBk, _⟩ := hPK.1 a ha
              refine vkX13_fill_60 hWK ⟨fun z => absurd z (by decide), fun _ => ?_⟩
              rw [nI_add, nI_clamp (by omega), hBk]
              refine ⟨vp_in_nI (by omega) (by omega), c_kindOf hWK _ (by omega) ?_⟩
              refine vkX13_fill_75 hWK ?_
              have hln := mvP_len P ha (show b + 1 ≤ 64 by omega)
              have f98 : ∀ p, pmt P a b = p → X 98 0 0 [.ref 55, .int (nI y), .int (nI (69 * y)), .int (nI (mvP P a b).length), .int (nI a), .int (nI b)] [.int (bI p)] K := by
                intro p hp
                have f112 : X 112 0 0 [.ref 55, .int (nI y), .int (nI (69 * y)), .int (nI (mvP P a b).length), .int (nI a), .int (nI b), .int (bI p), .int (nI (if p = true then 2 else 0))] [] K := by
                  have em := mvP_next P a b
                  rw [mvTo_y hl, hp] at em
                  have el := congrArg List.length em
                  cases p with
                  | true =>
                    rw [if_pos rfl] at em el
                    rw [List.length_append, List.length_map, List.length_range] at el
                    refine ext a b true ha hb 4 2 K (mvP P a b) rfl (by omega) hsK (fun K2 h2 => ?_)
                    rw [← el]
                    exact nxt K2 (by rw [em]; exact h2)
                  | false =>
                    rw [if_neg (by decide)] at em el
                    rw [List.length_append, List.length_map, List.length_range] at el
                    refine ext a b false ha hb 1 0 K (mvP P a b) rfl (by omega) hsK (fun K2 h2 => ?_)
                    rw [← el]
                    exact nxt K2 (by rw [em]; exact h2)
                refine l98 _ _ _ _ _ ⟨rfl, vX13_fill_98 hWK ⟨fun z => ?_, fun z => ?_⟩⟩
                · refine l110 _ _ _ _ _ ⟨rfl, vX13_fill_110 hWK ?_⟩
                  rw [if_neg (by rw [bI_0.mp z]; decide)] at f112
                  exact f112
                · refine l110 _ _ _ _ _ ⟨rfl, vX13_fill_110 hWK ?_⟩
                  rw [if_pos (bI_n.mp z)] at f112
                  exact f112
              have f93 : pmt P a b = true → X 93 0 0 [.ref 55, .int (nI y), .int (nI (69 * y)), .int (nI (mvP P a b).length), .int (nI a), .int (nI b)] [] K := fun h => l93 _ _ _ _ _ ⟨rfl, vX13_fill_93 hWK (f98 true h)⟩
              have f97 : pmt P a b = false → X 97 0 0 [.ref 55, .int (nI y), .int (nI (69 * y)), .int (nI (mvP P a b).length), .int (nI a), .int (nI b)] [] K := fun h => l97 _ _ _ _ _ ⟨rfl, vX13_fill_97 hWK (f98 false h)⟩
              have hkd : kd (P.1 a) < 2 ^ 31 := by unfold kd; split <;> omega
              refine ⟨fun z => ⟨fun w => f93 ?_, fun w => ⟨fun u => f97 ?_, fun u => f93 ?_⟩⟩, fun z => f97 ?_⟩
              · have z' := (nI_eq (a := kd (P.1 a)) (b := 1) hkd (by decide)).mp z
                have w' := (nI_ltI (a := b) (b := 8) (by omega) (by decide)).mp w
                unfold pmt; simp [z', w']
              · have w' : ¬ b < 8 := fun q => w ((nI_ltI (a := b) (b := 8) (by omega) (by decide)).mpr q)
                have u' := (nI_leI (a := b) (b := 55) (by omega) (by decide)).mp u
                unfold pmt; simp; omega
              · have z' := (nI_eq (a := kd (P.1 a)) (b := 1) hkd (by decide)).mp z
                have u' : ¬ b ≤ 55 := fun q => u ((nI_leI (a := b) (b := 55) (by omega) (by decide)).mpr q)
                unfold pmt; simp [z']; omega
              · have z' : ¬ kd (P.1 a) = 1 := fun q => z ((nI_eq (a := kd (P.1 a)) (b := 1) hkd (by decide)).mpr q)
                unfold pmt; simp [z']
            · have hsK := hs.scr hk
              refine vkX13_fill_60 (wd K _ hsK).1 ⟨fun _ => ?_, fun z => absurd rfl z⟩
              have em := mvP_next P a b
              rw [mvTo_n hl, List.append_nil] at em
              rw [← em]
              exact nxt K (by rw [em]; exact hsK)
          · have em : mvP P a b = mvP P a 64 := by rw [mvP_skip (fun q => d (e.mpr q)), mvP_skip (fun q => d (e.mpr q)) 64]
            rw [em]
            exact f169 N (by rw [← em]; exact hs)
      exact l10 _ _ _ _ _ ⟨rfl, vX13_fill_10 (wd N _ hs).1 ⟨fun d => absurd d (nI_ge (a := a) (b := 64) ha (by decide)), fun _ => inner 64 0 N rfl hs⟩⟩
  refine l0 _ _ _ _ _ ⟨rfl, vX13_fill_0 hW ?_⟩
  rw [show (69 : Int32) * nI y = nI (69 * y) from pk_mul 69 y]
  exact outer 64 0 M rfl fl.nil
