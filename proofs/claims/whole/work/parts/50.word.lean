/-! THE REFERENCE'S WORDS: signs, forms -/
abbrev isF (c : Nat) : Prop := 97 ≤ c ∧ c ≤ 104
abbrev isR (c : Nat) : Prop := 49 ≤ c ∧ c ≤ 56
abbrev isO (c : Nat) : Prop := c = 81 ∨ c = 82 ∨ c = 66 ∨ c = 78
theorem c_sign {mc ms : Nat} {M : zM} (hW : zFix M) {T : Nat → Nat} {e : Nat} (hT : rTx M T e) {a : Nat} (ha : a < 8200) {Q : zQt} (hq : Q (some (.int (nI (T a)))) M) : wX13_sign mc ms [.ref 55, .int (nI a)] M Q := by
  refine ⟨⟨Nat.le_of_ble_eq_true rfl, rfl⟩, fun X l0 => ?_⟩
  refine l0 _ _ _ _ _ ⟨rfl, vX13_sign_0 hW ?_⟩
  rw [nI_clamp (by omega), (hT.2.2 a ha).1, sb_and _ (hT.2.2 a ha).2]
  exact ⟨vp_in_nI (by omega) (by omega), hq⟩
theorem c_isFile {mc ms : Nat} {M : zM} (hW : zFix M) (c : Nat) (hc : c < 2 ^ 31) {Q : zQt} (q1 : isF c → Q (some (.int 1)) M) (q0 : ¬ isF c → Q (some (.int 0)) M) : wX13_isFile mc ms [.int (nI c)] M Q := by
  refine ⟨⟨Nat.le_of_ble_eq_true rfl, rfl⟩, fun X l0 l16 l17 => ?_⟩
  have e1 := nI_ltI (a := c) (b := 97) hc (by decide)
  have e2 := nI_ltI (a := 104) (b := c) (by decide) hc
  have f16 : ¬ isF c → X 16 0 0 [] [] M := fun h => l16 _ _ _ _ _ ⟨rfl, vX13_isFile_16 hW (l17 _ _ _ _ _ ⟨rfl, vX13_isFile_17 hW ⟨rfl, q0 h⟩⟩)⟩
  refine l0 _ _ _ _ _ ⟨rfl, vX13_isFile_0 hW ⟨fun a => f16 (by have := e1.mp a; omega), fun a => ⟨fun b => f16 (by have := e2.mp b; omega), fun b => ?_⟩⟩⟩
  have h1 : ¬ c < 97 := fun q => a (e1.mpr q)
  have h2 : ¬ 104 < c := fun q => b (e2.mpr q)
  exact l17 _ _ _ _ _ ⟨rfl, vX13_isFile_17 hW ⟨rfl, q1 ⟨by omega, by omega⟩⟩⟩
theorem c_isRank {mc ms : Nat} {M : zM} (hW : zFix M) (c : Nat) (hc : c < 2 ^ 31) {Q : zQt} (q1 : isR c → Q (some (.int 1)) M) (q0 : ¬ isR c → Q (some (.int 0)) M) : wX13_isRank mc ms [.int (nI c)] M Q := by
  refine ⟨⟨Nat.le_of_ble_eq_true rfl, rfl⟩, fun X l0 l16 l17 => ?_⟩
  have e1 := nI_ltI (a := c) (b := 49) hc (by decide)
  have e2 := nI_ltI (a := 56) (b := c) (by decide) hc
  have f16 : ¬ isR c → X 16 0 0 [] [] M := fun h => l16 _ _ _ _ _ ⟨rfl, vX13_isRank_16 hW (l17 _ _ _ _ _ ⟨rfl, vX13_isRank_17 hW ⟨rfl, q0 h⟩⟩)⟩
  refine l0 _ _ _ _ _ ⟨rfl, vX13_isRank_0 hW ⟨fun a => f16 (by have := e1.mp a; omega), fun a => ⟨fun b => f16 (by have := e2.mp b; omega), fun b => ?_⟩⟩⟩
  have h1 : ¬ c < 49 := fun q => a (e1.mpr q)
  have h2 : ¬ 56 < c := fun q => b (e2.mpr q)
  exact l17 _ _ _ _ _ ⟨rfl, vX13_isRank_17 hW ⟨rfl, q1 ⟨by omega, by omega⟩⟩⟩
theorem c_isOfficer {mc ms : Nat} {M : zM} (hW : zFix M) (c : Nat) (hc : c < 2 ^ 31) {Q : zQt} (q1 : isO c → Q (some (.int 1)) M) (q0 : ¬ isO c → Q (some (.int 0)) M) : wX13_isOfficer mc ms [.int (nI c)] M Q := by
  refine ⟨⟨Nat.le_of_ble_eq_true rfl, rfl⟩, fun X l0 l24 l29 => ?_⟩
  have e := fun k (h : k < 2 ^ 31) => nI_eq (a := c) (b := k) hc h
  have f24 : isO c → X 24 0 0 [] [] M := fun h => l24 _ _ _ _ _ ⟨rfl, vX13_isOfficer_24 hW (l29 _ _ _ _ _ ⟨rfl, vX13_isOfficer_29 hW ⟨rfl, q1 h⟩⟩)⟩
  refine l0 _ _ _ _ _ ⟨rfl, vX13_isOfficer_0 hW ⟨fun a => f24 (Or.inl ((e 81 (by decide)).mp a)), fun a => ⟨fun b => f24 (Or.inr (Or.inl ((e 82 (by decide)).mp b))), fun b => ⟨fun d => f24 (Or.inr (Or.inr (Or.inl ((e 66 (by decide)).mp d)))), fun d => ⟨fun g => f24 (Or.inr (Or.inr (Or.inr ((e 78 (by decide)).mp g)))), fun g => ?_⟩⟩⟩⟩⟩
  refine l29 _ _ _ _ _ ⟨rfl, vX13_isOfficer_29 hW ⟨rfl, q0 ?_⟩⟩
  rintro (q | q | q | q)
  · exact a ((e 81 (by decide)).mpr q)
  · exact b ((e 82 (by decide)).mpr q)
  · exact d ((e 66 (by decide)).mpr q)
  · exact g ((e 78 (by decide)).mpr q)
def mf1 (T : Nat → Nat) (a z : Nat) : Nat := a + (if a < z ∧ isF (T a) then 1 else 0)
def mf2 (T : Nat → Nat) (a z : Nat) : Nat := a + (if a < z ∧ isR (T a) then 1 else 0)
def mf3 (T : Nat → Nat) (a z : Nat) : Nat := a + (if a < z ∧ T a = 120 then 1 else 0)
/-- a file or not, a rank or not, x or not, a file and a rank -/
abbrev mfS (T : Nat → Nat) (a b : Nat) : Prop := a + 2 ≤ b ∧ isF (T (b - 2)) ∧ isR (T (b - 1)) ∧ mf3 T (mf2 T (mf1 T a (b - 2)) (b - 2)) (b - 2) = b - 2
set_option maxHeartbeats 4000000 in
theorem c_manForm {mc ms : Nat} {M : zM} (hW : zFix M) {T : Nat → Nat} {e : Nat} (hT : rTx M T e) {a b : Nat} (hab : a ≤ b) (hb : b ≤ 8200) {Q : zQt} (q1 : mfS T a b → Q (some (.int 1)) M) (q0 : ¬ mfS T a b → Q (some (.int 0)) M) : wX13_manForm mc ms [.ref 55, .int (nI a), .int (nI b)] M Q := by
  refine ⟨⟨Nat.le_of_ble_eq_true rfl, rfl⟩, fun X l0 l33 l60 l61 l86 l87 l111 l112 l126 => ?_⟩
  have tl : ∀ i, i < 8200 → T i < 2 ^ 31 := fun i hi => by have := (hT.2.2 i hi).2; omega
  have f33 : ¬ mfS T a b → X 33 0 0 [] [] M := fun h => l33 _ _ _ _ _ ⟨rfl, vX13_manForm_33 hW (q0 h)⟩
  refine l0 _ _ _ _ _ ⟨rfl, vX13_manForm_0 hW ?_⟩
  rw [pk_sub hab]
  have e0 := nI_ltI (a := b - a) (b := 2) (by omega) (by decide)
  refine ⟨fun c => f33 (fun h => by have := e0.mp c; have := h.1; omega), fun c => ?_⟩
  have hab2 : a + 2 ≤ b := by
    have : ¬ b - a < 2 := fun q => c (e0.mpr q)
    omega
  have eb2 : nI b - (2 : Int32) = nI (b - 2) := pk_sub (a := b) (b := 2) (by omega)
  have eb1 : nI b - (1 : Int32) = nI (b - 1) := pk_sub (a := b) (b := 1) (by omega)
  rw [eb2]
  refine c_sign hW hT (by omega) (vkX13_manForm_14 hW (c_isFile hW _ (tl _ (by omega)) (fun hF => ?_) (fun hF => vkX13_manForm_17 hW ⟨fun _ => f33 (fun h => hF h.2.1), fun z => absurd rfl z⟩)))
  refine vkX13_manForm_17 hW ⟨fun z => absurd z (by decide), fun _ => ?_⟩
  rw [eb1]
  refine c_sign hW hT (by omega) (vkX13_manForm_27 hW (c_isRank hW _ (tl _ (by omega)) (fun hR => ?_) (fun hR => vkX13_manForm_30 hW ⟨fun _ => f33 (fun h => hR h.2.2.1), fun z => absurd rfl z⟩)))
  have f112 : ∀ p v, p + v = mf3 T (mf2 T (mf1 T a (b - 2)) (b - 2)) (b - 2) → p + v < 8300 → X 112 0 0 [.int (nI b)] [.int (nI v), .int (nI p)] M := by
    intro p v hp hp2
    refine l112 _ _ _ _ _ ⟨rfl, vX13_manForm_112 hW ?_⟩
    rw [nI_add, eb2]
    have ee := nI_eq (a := p + v) (b := b - 2) (by omega) (by omega)
    refine ⟨fun z => l126 _ _ _ _ _ ⟨rfl, vX13_manForm_126 hW ⟨rfl, q1 ⟨hab2, hF, hR, ?_⟩⟩⟩, fun z => l126 _ _ _ _ _ ⟨rfl, vX13_manForm_126 hW ⟨rfl, q0 (fun h => z (ee.mpr ?_))⟩⟩⟩
    · rw [← hp]; exact ee.mp z
    · rw [hp]; exact h.2.2.2
  have f87 : ∀ p v, p + v = mf2 T (mf1 T a (b - 2)) (b - 2) → p + v < 8250 → X 87 0 0 [.ref 55, .int (nI b)] [.int (nI v), .int (nI p)] M := by
    intro p v hp hp2
    have f111 : ¬ (p + v < b - 2 ∧ T (p + v) = 120) → X 111 0 0 [.int (nI b)] [.int (nI (p + v))] M := by
      intro h
      refine l111 _ _ _ _ _ ⟨rfl, vX13_manForm_111 hW (f112 (p + v) 0 ?_ (by omega))⟩
      unfold mf3
      rw [← hp, if_neg h]
    refine l87 _ _ _ _ _ ⟨rfl, vX13_manForm_87 hW ?_⟩
    rw [nI_add, eb2]
    have ee := nI_leI (a := b - 2) (b := p + v) (by omega) (by omega)
    refine ⟨fun z => f111 (fun h => by have := ee.mp z; omega), fun z => ?_⟩
    have hlt : p + v < b - 2 := by
      have : ¬ b - 2 ≤ p + v := fun q => z (ee.mpr q)
      omega
    have ex := nI_eq (a := T (p + v)) (b := 120) (tl _ (by omega)) (by decide)
    refine c_sign hW hT (by omega) (vkX13_manForm_102 hW ⟨fun y => f112 (p + v) 1 ?_ (by omega), fun y => f111 (fun h => y (ex.mpr h.2))⟩)
    unfold mf3
    rw [← hp, if_pos ⟨hlt, ex.mp y⟩]
  have f61 : ∀ p v, p + v = mf1 T a (b - 2) → p + v < 8210 → X 61 0 0 [.ref 55, .int (nI b)] [.int (nI v), .int (nI p)] M := by
    intro p v hp hp2
    have f86 : ¬ (p + v < b - 2 ∧ isR (T (p + v))) → X 86 0 0 [.ref 55, .int (nI b)] [.int (nI (p + v))] M := by
      intro h
      refine l86 _ _ _ _ _ ⟨rfl, vX13_manForm_86 hW (f87 (p + v) 0 ?_ (by omega))⟩
      unfold mf2
      rw [← hp, if_neg h]
    refine l61 _ _ _ _ _ ⟨rfl, vX13_manForm_61 hW ?_⟩
    rw [nI_add, eb2]
    have ee := nI_leI (a := b - 2) (b := p + v) (by omega) (by omega)
    refine ⟨fun z => f86 (fun h => by have := ee.mp z; omega), fun z => ?_⟩
    have hlt : p + v < b - 2 := by
      have : ¬ b - 2 ≤ p + v := fun q => z (ee.mpr q)
      omega
    refine c_sign hW hT (by omega) (vkX13_manForm_76 hW (c_isRank hW _ (tl _ (by omega)) (fun y => vkX13_manForm_79 hW ⟨fun w => absurd w (by decide), fun _ => f87 (p + v) 1 ?_ (by omega)⟩) (fun y => vkX13_manForm_79 hW ⟨fun _ => f86 (fun h => y h.2), fun w => absurd rfl w⟩)))
    unfold mf2
    rw [← hp, if_pos ⟨hlt, y⟩]
  have f60 : ¬ (a < b - 2 ∧ isF (T a)) → X 60 0 0 [.ref 55, .int (nI b)] [.int (nI a)] M := by
    intro h
    refine l60 _ _ _ _ _ ⟨rfl, vX13_manForm_60 hW (f61 a 0 ?_ (by omega))⟩
    unfold mf1
    rw [if_neg h]
  refine vkX13_manForm_30 hW ⟨fun z => absurd z (by decide), fun _ => ?_⟩
  rw [eb2]
  have ee := nI_leI (a := b - 2) (b := a) (by omega) (by omega)
  refine ⟨fun z => f60 (fun h => by have := ee.mp z; omega), fun z => ?_⟩
  have hlt : a < b - 2 := by
    have : ¬ b - 2 ≤ a := fun q => z (ee.mpr q)
    omega
  refine c_sign hW hT (by omega) (vkX13_manForm_50 hW (c_isFile hW _ (tl _ (by omega)) (fun y => vkX13_manForm_53 hW ⟨fun w => absurd w (by decide), fun _ => f61 a 1 ?_ (by omega)⟩) (fun y => vkX13_manForm_53 hW ⟨fun _ => f60 (fun h => y h.2), fun w => absurd rfl w⟩)))
  unfold mf1
  rw [if_pos ⟨hlt, y⟩]
def pw1 (T : Nat → Nat) (a b : Nat) : Nat := if 2 < b - a ∧ isF (T a) ∧ T (a + 1) = 120 then a + 2 else a
def pw2 (T : Nat → Nat) (p b : Nat) : Nat := if b - p = 3 ∧ isO (T (b - 1)) then b - 1 else b
abbrev pfS (T : Nat → Nat) (a b : Nat) : Prop := pw2 T (pw1 T a b) b = pw1 T a b + 2 ∧ isF (T (pw1 T a b)) ∧ isR (T (pw1 T a b + 1))
set_option maxHeartbeats 4000000 in
theorem c_pawnForm {mc ms : Nat} {M : zM} (hW : zFix M) {T : Nat → Nat} {e : Nat} (hT : rTx M T e) {a b : Nat} (hab : a ≤ b) (hb : b ≤ 8200) {Q : zQt} (q1 : pfS T a b → Q (some (.int 1)) M) (q0 : ¬ pfS T a b → Q (some (.int 0)) M) : wX13_pawnForm mc ms [.ref 55, .int (nI a), .int (nI b)] M Q := by
  refine ⟨⟨Nat.le_of_ble_eq_true rfl, rfl⟩, fun X l0 l36 l37 l64 l65 l103 l104 => ?_⟩
  have tl : ∀ i, i < 8200 → T i < 2 ^ 31 := fun i hi => by have := (hT.2.2 i hi).2; omega
  have f103 : ¬ pfS T a b → X 103 0 0 [] [] M := fun h => l103 _ _ _ _ _ ⟨rfl, vX13_pawnForm_103 hW (l104 _ _ _ _ _ ⟨rfl, vX13_pawnForm_104 hW ⟨rfl, q0 h⟩⟩)⟩
  have f65 : ∀ p z, p = pw1 T a b → z = pw2 T p b → p ≤ z → z ≤ 8200 → X 65 0 0 [.ref 55, .int (nI p)] [.int (nI z)] M := by
    intro p z hp hz hpz hz2
    refine l65 _ _ _ _ _ ⟨rfl, vX13_pawnForm_65 hW ?_⟩
    rw [pk_sub hpz]
    have e2 := nI_eq (a := z - p) (b := 2) (by omega) (by decide)
    have hr : pfS T a b ↔ z = p + 2 ∧ isF (T p) ∧ isR (T (p + 1)) := by
      unfold pfS
      rw [← hp, ← hz]
    refine ⟨fun c => ?_, fun c => f103 (fun h => c (e2.mpr (by have := (hr.mp h).1; omega)))⟩
    have hzp : z = p + 2 := by have := e2.mp c; omega
    refine c_sign hW hT (by omega) (vkX13_pawnForm_80 hW (c_isFile hW _ (tl _ (by omega)) (fun y => vkX13_pawnForm_83 hW ⟨fun w => absurd w (by decide), fun _ => ?_⟩) (fun y => vkX13_pawnForm_83 hW ⟨fun _ => f103 (fun h => y (hr.mp h).2.1), fun w => absurd rfl w⟩)))
    rw [show nI p + (1 : Int32) = nI (p + 1) from nI_1 p]
    refine c_sign hW hT (by omega) (vkX13_pawnForm_93 hW (c_isRank hW _ (tl _ (by omega)) (fun x => vkX13_pawnForm_96 hW ⟨fun w => absurd w (by decide), fun _ => l104 _ _ _ _ _ ⟨rfl, vX13_pawnForm_104 hW ⟨rfl, q1 (hr.mpr ⟨hzp, y, x⟩)⟩⟩⟩) (fun x => vkX13_pawnForm_96 hW ⟨fun _ => f103 (fun h => x (hr.mp h).2.2), fun w => absurd rfl w⟩)))
  have f37 : ∀ p, p = pw1 T a b → p ≤ b → X 37 0 0 [.ref 55, .int (nI b)] [.int (nI p)] M := by
    intro p hp hpb
    have f64 : ¬ (b - p = 3 ∧ isO (T (b - 1))) → X 64 0 0 [.ref 55, .int (nI b), .int (nI p)] [] M := fun h => l64 _ _ _ _ _ ⟨rfl, vX13_pawnForm_64 hW (f65 p b hp (by unfold pw2; rw [if_neg h]) hpb hb)⟩
    refine l37 _ _ _ _ _ ⟨rfl, vX13_pawnForm_37 hW ?_⟩
    rw [pk_sub hpb]
    have e3 := nI_eq (a := b - p) (b := 3) (by omega) (by decide)
    refine ⟨fun c => ?_, fun c => f64 (fun h => c (e3.mpr h.1))⟩
    have h3 := e3.mp c
    rw [show nI b - (1 : Int32) = nI (b - 1) from pk_sub (a := b) (b := 1) (by omega)]
    refine c_sign hW hT (by omega) (vkX13_pawnForm_52 hW (c_isOfficer hW _ (tl _ (by omega)) (fun y => vkX13_pawnForm_55 hW ⟨fun w => absurd w (by decide), fun _ => ?_⟩) (fun y => vkX13_pawnForm_55 hW ⟨fun _ => f64 (fun h => y h.2), fun w => absurd rfl w⟩)))
    rw [show nI b - (1 : Int32) = nI (b - 1) from pk_sub (a := b) (b := 1) (by omega)]
    exact f65 p (b - 1) hp (by unfold pw2; rw [if_pos ⟨h3, y⟩]) (by omega) (by omega)
  have f36 : ¬ (2 < b - a ∧ isF (T a) ∧ T (a + 1) = 120) → X 36 0 0 [.ref 55, .int (nI a), .int (nI b)] [] M := fun h => l36 _ _ _ _ _ ⟨rfl, vX13_pawnForm_36 hW (f37 a (by unfold pw1; rw [if_neg h]) hab)⟩
  refine l0 _ _ _ _ _ ⟨rfl, vX13_pawnForm_0 hW ?_⟩
  rw [pk_sub hab]
  have e2 := nI_leI (a := b - a) (b := 2) (by omega) (by decide)
  refine ⟨fun c => f36 (fun h => by have := e2.mp c; omega), fun c => ?_⟩
  have h2 : 2 < b - a := by
    have : ¬ b - a ≤ 2 := fun q => c (e2.mpr q)
    omega
  refine c_sign hW hT (by omega) (vkX13_pawnForm_12 hW (c_isFile hW _ (tl _ (by omega)) (fun y => vkX13_pawnForm_15 hW ⟨fun w => absurd w (by decide), fun _ => ?_⟩) (fun y => vkX13_pawnForm_15 hW ⟨fun _ => f36 (fun h => y h.2.1), fun w => absurd rfl w⟩)))
  rw [show nI a + (1 : Int32) = nI (a + 1) from nI_1 a]
  have ex := nI_eq (a := T (a + 1)) (b := 120) (tl _ (by omega)) (by decide)
  refine c_sign hW hT (by omega) (vkX13_pawnForm_25 hW ⟨fun w => ?_, fun w => f36 (fun h => w (ex.mpr h.2.2))⟩)
  rw [show nI a + (2 : Int32) = nI (a + 2) from nI_add a 2]
  exact f37 (a + 2) (by unfold pw1; rw [if_pos ⟨h2, y, ex.mp w⟩]) (by omega)
abbrev caS (T : Nat → Nat) (a n : Nat) : Prop := (n = 3 ∨ n = 5) ∧ ∀ k, k < n → T (a + k) = (if k % 2 = 0 then 48 else 45)
def fmS (T : Nat → Nat) (a n : Nat) : Nat := if caS T a n then (if n = 3 then 1 else 2) else if 0 < n ∧ (T a = 75 ∨ isO (T a)) then (if mfS T (a + 1) (a + n) then 3 else 0) else if pfS T a (a + n) then 4 else 0
set_option maxHeartbeats 4000000 in
theorem c_form {mc ms : Nat} {M : zM} (hW : zFix M) {T : Nat → Nat} {e : Nat} (hT : rTx M T e) {a n : Nat} (hb : a + n ≤ 8199) {Q : zQt} (hq : Q (some (.int (nI (fmS T a n)))) M) : wX13_form mc ms [.ref 55, .int (nI a), .int (nI n)] M Q := by
  refine ⟨⟨Nat.le_of_ble_eq_true rfl, rfl⟩, fun X l0 l10 l15 l19 l51 l59 l66 l80 l94 l111 l129 l146 => ?_⟩
  have tl : ∀ i, i < 8200 → T i < 2 ^ 31 := fun i hi => by have := (hT.2.2 i hi).2; omega
  have f111 : ¬ caS T a n → (0 < n ∧ (T a = 75 ∨ isO (T a))) → X 111 0 0 [.ref 55, .int (nI a), .int (nI n)] [] M := by
    intro hc h
    have hS : fmS T a n = if mfS T (a + 1) (a + n) then 3 else 0 := by unfold fmS; rw [if_neg hc, if_pos h]
    have f129 : ∀ v, fmS T a n = v → X 129 0 0 [] [.int (nI v)] M := fun v hv => l129 _ _ _ _ _ ⟨rfl, vX13_form_129 hW (by rw [← hv]; exact hq)⟩
    refine l111 _ _ _ _ _ ⟨rfl, vX13_form_111 hW ?_⟩
    rw [show nI a + (1 : Int32) = nI (a + 1) from nI_1 a, nI_add]
    refine c_manForm hW hT (by omega) (by omega) (fun y => vkX13_form_121 hW ⟨fun w => absurd w (by decide), fun _ => f129 3 (by rw [hS, if_pos y])⟩) (fun y => vkX13_form_121 hW ⟨fun _ => f129 0 (by rw [hS, if_neg y]), fun w => absurd rfl w⟩)
  have f94 : ∀ c, ¬ caS T a n → c < 2 ^ 31 → c = (if 0 < n then T a else 0) → X 94 0 0 [.ref 55, .int (nI a), .int (nI n)] [.int (nI c)] M := by
    intro c hc hc31 hcv
    have e75 := nI_eq (a := c) (b := 75) hc31 (by decide)
    have hn : (c = 75 ∨ isO c) → 0 < n ∧ c = T a := by
      intro h
      by_cases z : 0 < n
      · rw [if_pos z] at hcv
        exact ⟨z, hcv⟩
      · rw [if_neg z] at hcv
        rcases h with q | q | q | q | q <;> omega
    refine l94 _ _ _ _ _ ⟨rfl, vX13_form_94 hW ⟨fun w => f111 hc ?_, fun w => c_isOfficer hW c hc31 (fun y => vkX13_form_108 hW ⟨fun z => absurd z (by decide), fun _ => f111 hc ?_⟩) (fun y => vkX13_form_108 hW ⟨fun _ => ?_, fun z => absurd rfl z⟩)⟩⟩
    · obtain ⟨z1, z2⟩ := hn (Or.inl (e75.mp w))
      exact ⟨z1, Or.inl (by rw [← z2]; exact e75.mp w)⟩
    · obtain ⟨z1, z2⟩ := hn (Or.inr y)
      exact ⟨z1, Or.inr (by rw [← z2]; exact y)⟩
    · have hS : fmS T a n = if pfS T a (a + n) then 4 else 0 := by
        unfold fmS; rw [if_neg hc, if_neg]
        rintro ⟨z1, z2⟩
        rw [if_pos z1] at hcv
        rcases z2 with q | q
        · exact w (e75.mpr (by rw [hcv]; exact q))
        · exact y (by rw [hcv]; exact q)
      have f146 : ∀ v, fmS T a n = v → X 146 0 0 [] [.int (nI v)] M := fun v hv => l146 _ _ _ _ _ ⟨rfl, vX13_form_146 hW (by rw [← hv]; exact hq)⟩
      rw [nI_add]
      refine c_pawnForm hW hT (by omega) (by omega) (fun x => vkX13_form_138 hW ⟨fun z => absurd z (by decide), fun _ => f146 4 (by rw [hS, if_pos x])⟩) (fun x => vkX13_form_138 hW ⟨fun _ => f146 0 (by rw [hS, if_neg x]), fun z => absurd rfl z⟩)
  have f66 : ∀ b : Bool, (b = true ↔ caS T a n) → X 66 0 0 [.ref 55, .int (nI a), .int (nI n), .int (bI b)] [] M := by
    intro b hbc
    have e0 := nI_leI (a := n) (b := 0) (by omega) (by decide)
    have e3 := nI_eq (a := n) (b := 3) (by omega) (by decide)
    have f80 : ∀ v, fmS T a n = v → X 80 0 0 [] [.int (nI v)] M := fun v hv => l80 _ _ _ _ _ ⟨rfl, vX13_form_80 hW (by rw [← hv]; exact hq)⟩
    have hno : b = false → ¬ caS T a n := fun h q => by rw [hbc.mpr q] at h; exact absurd h (by decide)
    refine l66 _ _ _ _ _ ⟨rfl, vX13_form_66 hW ⟨fun w => ⟨fun y => f94 0 (hno (bI_0.mp w)) (by decide) ?_, fun y => c_sign hW hT (by omega) (vkX13_form_90 hW (f94 (T a) (hno (bI_0.mp w)) (tl _ (by omega)) ?_))⟩, fun w => ⟨fun y => f80 1 ?_, fun y => f80 2 ?_⟩⟩⟩
    · rw [if_neg (by have := e0.mp y; omega)]
    · have : ¬ n ≤ 0 := fun q => y (e0.mpr q)
      rw [if_pos (by omega)]
    · unfold fmS; rw [if_pos (hbc.mp (bI_n.mp w)), if_pos (e3.mp y)]
    · unfold fmS; rw [if_pos (hbc.mp (bI_n.mp w)), if_neg (fun q => y (e3.mpr q))]
  have loop : ∀ (r k : Nat) (b : Bool), k + r = n → (b = true ↔ (n = 3 ∨ n = 5) ∧ ∀ t, t < k → T (a + t) = (if t % 2 = 0 then 48 else 45)) → X 19 0 0 [.ref 55, .int (nI a), .int (nI n), .int (bI b), .int (nI k)] [] M := by
    intro r
    induction r with
    | zero =>
      intro k b hk hbk
      obtain rfl : k = n := by omega
      exact l19 _ _ _ _ _ ⟨rfl, vX13_form_19 hW ⟨fun _ => f66 b hbk, fun d => absurd ((nI_leI (a := k) (b := k) (by omega) (by omega)).mpr (Nat.le_refl _)) d⟩⟩
    | succ r ih =>
      intro k b hk hbk
      refine l19 _ _ _ _ _ ⟨rfl, vX13_form_19 hW ⟨fun d => absurd ((nI_leI (a := n) (b := k) (by omega) (by omega)).mp d) (by omega), fun _ => ⟨fun w => f66 b ⟨fun q => ?_, fun q => ?_⟩, fun w => ?_⟩⟩⟩
      · rw [bI_0.mp w] at q
        exact absurd q (by decide)
      · exact hbk.mpr ⟨q.1, fun t ht => q.2 t (by omega)⟩
      · have hb1 := hbk.mp (bI_n.mp w)
        have f59 : ∀ b' : Bool, (b' = true ↔ (n = 3 ∨ n = 5) ∧ ∀ t, t < k + 1 → T (a + t) = (if t % 2 = 0 then 48 else 45)) → X 59 0 0 [.ref 55, .int (nI a), .int (nI n), .int (nI k)] [.int (bI b')] M := by
          intro b' h'
          refine l59 _ _ _ _ _ ⟨rfl, vX13_form_59 hW ?_⟩
          rw [nI_1]
          exact ih (k + 1) b' (by omega) h'
        have f51 : ∀ v, v = (if k % 2 = 0 then 48 else 45) → X 51 0 0 [.ref 55, .int (nI a), .int (nI n), .int (nI k)] [.int (nI v), .int (nI (T (a + k)))] M := by
          intro v hv
          have ev := nI_eq (a := T (a + k)) (b := v) (tl _ (by omega)) (by rw [hv]; split <;> omega)
          refine l51 _ _ _ _ _ ⟨rfl, vX13_form_51 hW ⟨fun y => f59 true ⟨fun _ => ⟨hb1.1, fun t ht => ?_⟩, fun _ => rfl⟩, fun y => f59 false ⟨fun q => absurd q (by decide), fun q => absurd (ev.mpr (by rw [hv]; exact q.2 k (by omega))) y⟩⟩⟩
          rcases (show t < k ∨ t = k by omega) with q | q
          · exact hb1.2 t q
          · rw [q, ← hv]; exact ev.mp y
        rw [nI_add]
        refine c_sign hW hT (by omega) (vkX13_form_37 hW ?_)
        rw [show nI k - nI k / (2 : Int32) * (2 : Int32) = nI (k % 2) from nI_mod (by omega) (by decide) (by decide)]
        have e2 := nI_eq (a := k % 2) (b := 0) (by omega) (by decide)
        exact ⟨fun y => f51 48 (by rw [if_pos (e2.mp y)]), fun y => f51 45 (by rw [if_neg (fun q => y (e2.mpr q))])⟩
  have f15 : ∀ b : Bool, (b = true ↔ n = 3 ∨ n = 5) → X 15 0 0 [.ref 55, .int (nI a), .int (nI n)] [.int (bI b)] M := by
    intro b hbn
    refine l15 _ _ _ _ _ ⟨rfl, vX13_form_15 hW (loop n 0 b (by omega) ?_)⟩
    rw [hbn]
    exact ⟨fun q => ⟨q, fun t ht => absurd ht (by omega)⟩, fun q => q.1⟩
  have f10 : (n = 3 ∨ n = 5) → X 10 0 0 [.ref 55, .int (nI a), .int (nI n)] [] M := fun h => l10 _ _ _ _ _ ⟨rfl, vX13_form_10 hW (f15 true ⟨fun _ => h, fun _ => rfl⟩)⟩
  have e3 := nI_eq (a := n) (b := 3) (by omega) (by decide)
  have e5 := nI_eq (a := n) (b := 5) (by omega) (by decide)
  exact l0 _ _ _ _ _ ⟨rfl, vX13_form_0 hW ⟨fun w => f10 (Or.inl (e3.mp w)), fun w => ⟨fun y => f10 (Or.inr (e5.mp y)), fun y => f15 false ⟨fun q => absurd q (by decide), fun q => by
    rcases q with q | q
    · exact absurd (e3.mpr q) w
    · exact absurd (e5.mpr q) y⟩⟩⟩⟩
