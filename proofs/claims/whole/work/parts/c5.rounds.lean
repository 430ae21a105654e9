/-! SETS OF POSITIONS: rounds -/
theorem kiG_sym {a b : Nat} : kiG a b ↔ kiG b a := by
  unfold kiG
  rw [dF_sym a b, dR_sym a b, aI_neg, aI_neg]
  exact ⟨fun h => ⟨fun q => h.1 q.symm, h.2⟩, fun h => ⟨fun q => h.1 q.symm, h.2⟩⟩
/-- the kings stand beside each other -/
def kkN : Nat := knW eWS
theorem kkN_rpr : rpr kkN (fun s _ w => kiG s w) := (knW_rpr eWS_rpr).eq (fun s p w hs _ _ => by
  constructor
  · rintro ⟨t, _, a, e⟩; rw [e] at a; exact kiG_sym.mp a
  · intro h; exact ⟨s, hs, kiG_sym.mp h, rfl⟩)
theorem rpr0 : rpr 0 (fun _ _ _ => False) := fun s p w _ _ _ => by unfold bx; rw [Nat.zero_testBit]; simp
def midR (q : Nat) : Bool := decide (q / 8 ≠ 0 ∧ q / 8 ≠ 7)
def pPn (k : Nat) : Nat := if k = 1 then cm 4096 0 midR else bno 0
theorem pPn_rpr (k : Nat) : rpr (pPn k) (fun _ p _ => k = 1 → p / 8 ≠ 0 ∧ p / 8 ≠ 7) := by
  unfold pPn
  split
  · next h => exact (rc_p midR).eq (fun s p w _ _ _ => ⟨fun q _ => of_decide_eq_true q, fun q => decide_eq_true (q h)⟩)
  · next h => exact rpr0.no.eq (fun s p w _ _ _ => ⟨fun _ q => absurd q h, fun _ q => q⟩)
def pFN (k : Nat) : Nat := bno eSP &&& (bno eWS &&& (bno eWP &&& (bno kkN &&& pPn k)))
theorem pFN_rpr (k : Nat) : rpr (pFN k) (fun s p w => pos5 k s p w false) :=
  (eSP_rpr.no.and (eWS_rpr.no.and (eWP_rpr.no.and (kkN_rpr.no.and (pPn_rpr k))))).eq (fun s p w _ _ _ =>
    ⟨fun ⟨a, b, c, d, e⟩ => ⟨a, fun q => b q.symm, fun q => c q.symm, d, e, fun z => by simp at z⟩, fun ⟨a, b, c, d, e, _⟩ => ⟨a, fun q => b q.symm, fun q => c q.symm, d, e⟩⟩)
def pTN (k : Nat) : Nat := pFN k &&& bno (hitN k)
theorem pos5_t {k s p w : Nat} : pos5 k s p w true ↔ pos5 k s p w false ∧ ¬ at5 k s p w :=
  ⟨fun ⟨a, b, c, d, e, f⟩ => ⟨⟨a, b, c, d, e, fun z => by simp at z⟩, f rfl⟩, fun ⟨⟨a, b, c, d, e, _⟩, f⟩ => ⟨a, b, c, d, e, fun _ => f⟩⟩
theorem pTN_rpr {k : Nat} (h1 : 1 ≤ k) (h5 : k ≤ 5) : rpr (pTN k) (fun s p w => pos5 k s p w true) := ((pFN_rpr k).and (hitN_rpr h1 h5).no).eq (fun s p w _ _ _ => pos5_t.symm)
def mvN (k : Nat) : Nat := (eWP &&& bno kkN) ||| pTN k
theorem mvN_rpr {k : Nat} (h1 : 1 ≤ k) (h5 : k ≤ 5) : rpr (mvN k) (fun s p w => wmv k s p w) := (eWP_rpr.and kkN_rpr.no).or (pTN_rpr h1 h5)
def canN (k : Nat) : Nat := knW (mvN k)
theorem canN_rpr {k : Nat} (h1 : 1 ≤ k) (h5 : k ≤ 5) : rpr (canN k) (fun s p w => ∃ t, t < 64 ∧ kiG w t ∧ wmv k s p t) := knW_rpr (mvN_rpr h1 h5)
def mateN (k : Nat) : Nat := pFN k &&& (hitN k &&& bno (canN k))
theorem mateN_rpr {k : Nat} (h1 : 1 ≤ k) (h5 : k ≤ 5) : rpr (mateN k) (mate5 k) := ((pFN_rpr k).and ((hitN_rpr h1 h5).and (canN_rpr h1 h5).no)).eq (fun s p w _ _ _ =>
  ⟨fun ⟨a, b, c⟩ => ⟨a, b, fun t ht hk hm => c ⟨t, ht, hk, hm⟩⟩, fun ⟨a, b, c⟩ => ⟨a, b, fun ⟨t, ht, hk, hm⟩ => c t ht hk hm⟩⟩)
