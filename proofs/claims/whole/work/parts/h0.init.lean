/-! THE CLASS'S ENDINGS: a table is made -/
def eSz (m : Nat) : Nat := if m = 6 then 40960 else 4096
/-- m rows are made -/
def iS (M K : zM) (e m : Nat) : Prop := K.2.2.2 = M.2.2.2 ++ (List.range m).map (fun i => (2, eSz i)) ∧ K.1 = (fun b i => if e + 1 ≤ b ∧ b < e + 1 + m then 0 else M.1 b i) ∧ K.2.1 = (fun b i => if e + 1 ≤ b ∧ b < e + 1 + m then 0 else M.2.1 b i) ∧ K.2.2.1 = (fun b j => if b = e ∧ 4 ≤ j ∧ j < 4 + m then some (e + 1 + (j - 4)) else if e + 1 ≤ b ∧ b < e + 1 + m then none else M.2.2.1 b j)
theorem iS_0 {M : zM} {e : Nat} : iS M M e 0 := by
  refine ⟨by simp, ?_, ?_, ?_⟩
  · funext b i; rw [if_neg (by omega)]
  · funext b i; rw [if_neg (by omega)]
  · funext b j; rw [if_neg (by omega), if_neg (by omega)]
theorem iS.len {M K : zM} {e m : Nat} (hl : M.2.2.2.length = e + 1) (h : iS M K e m) : K.2.2.2.length = e + 1 + m := by
  rw [h.1, List.length_append, hl, List.length_map, List.length_range]
theorem iS_s {M K : zM} {e m n : Nat} (hl : M.2.2.2.length = e + 1) (h : iS M K e m) (hn : n = eSz m) : iS M (zsR (zNew K (2, n)) e (4 + m) (some K.2.2.2.length)) e (m + 1) := by
  have len := h.len hl
  obtain ⟨h1, h2, h3, h4⟩ := h
  refine ⟨?_, ?_, ?_, ?_⟩
  · show K.2.2.2 ++ [(2, n)] = _
    rw [h1, List.range_succ, List.map_append, List.append_assoc, hn]
    rfl
  · show (fun b i => if b = K.2.2.2.length then 0 else K.1 b i) = _
    funext b i
    rw [len, h2]
    show (if b = e + 1 + m then (0 : Int32) else if e + 1 ≤ b ∧ b < e + 1 + m then 0 else M.1 b i) = _
    by_cases z : b = e + 1 + m
    · rw [if_pos z, if_pos (by omega)]
    · rw [if_neg z]
      by_cases y : e + 1 ≤ b ∧ b < e + 1 + m
      · rw [if_pos y, if_pos (by omega)]
      · rw [if_neg y, if_neg (by omega)]
  · show (fun b i => if b = K.2.2.2.length then 0 else K.2.1 b i) = _
    funext b i
    rw [len, h3]
    show (if b = e + 1 + m then (0 : Int64) else if e + 1 ≤ b ∧ b < e + 1 + m then 0 else M.2.1 b i) = _
    by_cases z : b = e + 1 + m
    · rw [if_pos z, if_pos (by omega)]
    · rw [if_neg z]
      by_cases y : e + 1 ≤ b ∧ b < e + 1 + m
      · rw [if_pos y, if_pos (by omega)]
      · rw [if_neg y, if_neg (by omega)]
  · show z2 (fun b i => if b = K.2.2.2.length then none else K.2.2.1 b i) e (4 + m) (some K.2.2.2.length) = _
    funext b j
    unfold z2
    rw [len, h4]
    show (if b = e then (if j = 4 + m then some (e + 1 + m) else if b = e + 1 + m then none else if b = e ∧ 4 ≤ j ∧ j < 4 + m then some (e + 1 + (j - 4)) else if e + 1 ≤ b ∧ b < e + 1 + m then none else M.2.2.1 b j) else if b = e + 1 + m then none else if b = e ∧ 4 ≤ j ∧ j < 4 + m then some (e + 1 + (j - 4)) else if e + 1 ≤ b ∧ b < e + 1 + m then none else M.2.2.1 b j) = _
    by_cases z : b = e
    · rw [if_pos z]
      by_cases y : j = 4 + m
      · rw [if_pos y, if_pos (by omega), show e + 1 + (j - 4) = e + 1 + m by omega]
      · rw [if_neg y, if_neg (by omega)]
        by_cases x : b = e ∧ 4 ≤ j ∧ j < 4 + m
        · rw [if_pos x, if_pos (by omega)]
        · rw [if_neg x, if_neg (by omega), if_neg (by omega), if_neg (by omega)]
    · rw [if_neg z]
      by_cases y : b = e + 1 + m
      · rw [if_pos y, if_neg (by omega), if_pos (by omega)]
      · rw [if_neg y, if_neg (show ¬ (b = e ∧ 4 ≤ j ∧ j < 4 + m) by omega)]
        by_cases x : e + 1 ≤ b ∧ b < e + 1 + m
        · rw [if_pos x, if_neg (by omega), if_pos (by omega)]
        · rw [if_neg x, if_neg (by omega), if_neg (by omega)]
theorem iS.sh {M K : zM} {e m : Nat} (h : iS M K e m) {b : Nat} {x : Nat × Nat} (hb : zsh M b = some x) : zsh K b = some x := by
  unfold zsh at hb ⊢
  rw [h.1, List.getElem?_append_left (List.getElem?_eq_some_iff.mp hb).1]
  exact hb
def eN0 (M : zM) (e k : Nat) (q r : Option Nat) : zM := zsR (zsR (zsI (zsR M e 0 (some 17)) e 1 (nI k)) e 2 q) e 3 r
set_option maxHeartbeats 2000000 in
theorem c_eInit {mc ms : Nat} {M : zM} {e k : Nat} {q r : Option Nat} (hsh : zsh M e = some (0, 2)) (hl : M.2.2.2.length = e + 1) (hmc : 7 ≤ mc) (hms : 65536 ≤ ms) {Q : zQt} (hq : ∀ K, iS (eN0 M e k q r) K e 7 → Q none K) : wX2_init mc ms [.ref e, .ref 17, .int (nI k), zrf q, zrf r] M Q := by
  have n4 : (4096 : Int32).toNatClampNeg = 4096 := by decide
  have n5 : (40960 : Int32).toNatClampNeg = 40960 := by decide
  refine ⟨⟨by cases q <;> cases r <;> exact Nat.le_of_ble_eq_true rfl, by cases q <;> cases r <;> rfl⟩, fun X l0 => l0 _ _ _ _ _ ⟨by cases q <;> cases r <;> rfl, ?_⟩⟩
  obtain ⟨N, hN⟩ : ∃ N, N = eN0 M e k q r := ⟨_, rfl⟩
  rw [← hN] at hq
  have hN1 : N.2.2.2 = M.2.2.2 := by rw [hN]; rfl
  have hlN : N.2.2.2.length = e + 1 := by rw [hN1]; exact hl
  have shN : zsh N e = some (0, 2) := by unfold zsh; rw [hN1]; exact hsh
  have key : ∀ (a0 : zT), a0 = (zna mc ms 2 <| zpr 2 4 <| zla 0 <| zc (.int 4096) <| zna mc ms 2 <| zpr 2 5 <| zla 0 <| zc (.int 4096) <| zna mc ms 2 <| zpr 2 6 <| zla 0 <| zc (.int 4096) <| zna mc ms 2 <| zpr 2 7 <| zla 0 <| zc (.int 4096) <| zna mc ms 2 <| zpr 2 8 <| zla 0 <| zc (.int 4096) <| zna mc ms 2 <| zpr 2 9 <| zla 0 <| zc (.int 40960) <| zna mc ms 2 <| zpr 2 10 <| zrv Q) → a0 0 0 [some (.ref e), some (.ref 17), some (.int (nI k)), some (zrf q), some (zrf r)] [.int 4096, .ref e] N := by
    intro a0 ha
    rw [ha]
    have s1 := iS_s hlN (iS_0 (M := N) (e := e)) (n := (4096 : Int32).toNatClampNeg) (by rw [n4]; rfl)
    have s2 := iS_s hlN s1 (n := (4096 : Int32).toNatClampNeg) (by rw [n4]; rfl)
    have s3 := iS_s hlN s2 (n := (4096 : Int32).toNatClampNeg) (by rw [n4]; rfl)
    have s4 := iS_s hlN s3 (n := (4096 : Int32).toNatClampNeg) (by rw [n4]; rfl)
    have s5 := iS_s hlN s4 (n := (4096 : Int32).toNatClampNeg) (by rw [n4]; rfl)
    have s6 := iS_s hlN s5 (n := (4096 : Int32).toNatClampNeg) (by rw [n4]; rfl)
    have s7 := iS_s hlN s6 (n := (40960 : Int32).toNatClampNeg) (by rw [n5]; rfl)
    have ap : ∀ (K : zM) (x : Nat × Nat), zsh K e = some (0, 2) → zsh (zNew K x) e = some (0, 2) := fun K x h => by
      unfold zsh at h ⊢
      show (K.2.2.2 ++ [x])[e]? = _
      rw [List.getElem?_append_left (List.getElem?_eq_some_iff.mp h).1]
      exact h
    have t4 : ¬ (4096 : Int32) < 0 := by decide
    have t5 : ¬ (40960 : Int32) < 0 := by decide
    have u4 : (4096 : Int32).toNatClampNeg ≤ 1000000 := by decide
    have u5 : (40960 : Int32).toNatClampNeg ≤ 1000000 := by decide
    refine ⟨t4, u4, by omega, by rw [n4]; omega, ⟨ap _ _ shN, ?_⟩⟩
    refine ⟨t4, u4, by omega, by rw [n4]; omega, ⟨ap _ _ (s1.sh shN), ?_⟩⟩
    refine ⟨t4, u4, by omega, by rw [n4]; omega, ⟨ap _ _ (s2.sh shN), ?_⟩⟩
    refine ⟨t4, u4, by omega, by rw [n4]; omega, ⟨ap _ _ (s3.sh shN), ?_⟩⟩
    refine ⟨t4, u4, by omega, by rw [n4]; omega, ⟨ap _ _ (s4.sh shN), ?_⟩⟩
    refine ⟨t4, u4, by omega, by rw [n4]; omega, ⟨ap _ _ (s5.sh shN), ?_⟩⟩
    refine ⟨t5, u5, by omega, by rw [n4, n5]; omega, ⟨ap _ _ (s6.sh shN), ?_⟩⟩
    exact hq _ s7
  have zr : zrm [] := Nat.le_of_ble_eq_true rfl
  have k0 := key _ rfl
  rw [hN] at k0
  cases q <;> cases r <;> exact ⟨zr, ⟨hsh, ⟨hsh, ⟨hsh, ⟨hsh, k0⟩⟩⟩⟩⟩
