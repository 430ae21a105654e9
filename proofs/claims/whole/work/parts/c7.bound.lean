/-! HOW FAR A MATE CAN BE -/
def itN (k : Nat) : Nat → Nat
  | 0 => mateN k
  | n + 1 => nxN k (itN k n) 0
def itP : Nat → Nat
  | 0 => mateN 1
  | n + 1 => nxN 1 (itP n) (itN 5 n ||| itN 4 n)
theorem itN_rpr {k : Nat} (hk : k = 4 ∨ k = 5) : ∀ n, rpr (itN k n) (Wc k O0 n)
  | 0 => mateN_rpr (by omega) (by omega)
  | n + 1 => by
    unfold itN
    exact nxN_rpr (f := Wc k O0 n) (h := O0 n) (by omega) (itN_rpr hk n) rpr0 (fun s p w h => Wc_pos h)
theorem itP_rpr : ∀ n, rpr (itP n) (Wc 1 O1 n)
  | 0 => mateN_rpr (by omega) (by omega)
  | n + 1 => by
    unfold itP
    exact nxN_rpr (f := Wc 1 O1 n) (h := O1 n) (by omega) (itP_rpr n) ((itN_rpr (by omega) n).or (itN_rpr (by omega) n)) (fun s p w h => Wc_pos h)
theorem mate_kn : (mateN 2 == 0) = true := by decide +kernel
theorem mate_bi : (mateN 3 == 0) = true := by decide +kernel
theorem stop_q : (itN 5 11 == itN 5 10) = true := by decide +kernel
theorem stop_r : (itN 4 17 == itN 4 16) = true := by decide +kernel
theorem stop_p : (itP 29 == itP 28) = true := by decide +kernel
theorem rpr.stop {X Y : Nat} {f h : Nat → Nat → Nat → Prop} (hX : rpr X f) (hY : rpr Y h) (e : (X == Y) = true) : ∀ s p w, s < 64 → p < 64 → w < 64 → f s p w → h s p w := fun s p w hs hp hw q => by
  have e2 : X = Y := by simpa using e
  exact (hY s p w hs hp hw).mp (by rw [← e2]; exact (hX s p w hs hp hw).mpr q)
theorem Wc_bnd {k : Nat} (h1 : 1 ≤ k) (h5 : k ≤ 5) (n : Nat) {s p w : Nat} (hs : s < 64) (hp : p < 64) (hw : w < 64) (h : Wc k (Ok k) n s p w) : Wc k (Ok k) 28 s p w := by
  have q5 : ∀ m s p w, s < 64 → p < 64 → w < 64 → Wc 5 O0 m s p w → Wc 5 O0 10 s p w := fun m s p w hs hp hw z => Wc_stop ((itN_rpr (Or.inr rfl) 11).stop (itN_rpr (Or.inr rfl) 10) stop_q) (fun _ _ _ _ _ _ _ _ y => y) m s p w hs hp hw (Wc_mono (by omega) z)
  have q4 : ∀ m s p w, s < 64 → p < 64 → w < 64 → Wc 4 O0 m s p w → Wc 4 O0 16 s p w := fun m s p w hs hp hw z => Wc_stop ((itN_rpr (Or.inl rfl) 17).stop (itN_rpr (Or.inl rfl) 16) stop_r) (fun _ _ _ _ _ _ _ _ y => y) m s p w hs hp hw (Wc_mono (by omega) z)
  have hk : k = 1 ∨ k = 2 ∨ k = 3 ∨ k = 4 ∨ k = 5 := by omega
  rcases hk with e | e | e | e | e <;> subst e
  · refine Wc_stop (O := O1) ((itP_rpr 29).stop (itP_rpr 28) stop_p) (fun m hm s p w hs hp hw y => ?_) n s p w hs hp hw (Wc_mono (by omega) h)
    exact y.elim (fun z => Or.inl (Wc_mono (by omega) (q5 m s p w hs hp hw z))) (fun z => Or.inr (Wc_mono (by omega) (q4 m s p w hs hp hw z)))
  · refine absurd h (Wc_none (fun s p w hs hp hw q => ?_) n s p w hs hp hw)
    exact (mateN_rpr (by omega) (by omega)).stop rpr0 mate_kn s p w hs hp hw q
  · refine absurd h (Wc_none (fun s p w hs hp hw q => ?_) n s p w hs hp hw)
    exact (mateN_rpr (by omega) (by omega)).stop rpr0 mate_bi s p w hs hp hw q
  · exact Wc_mono (by omega) (q4 n s p w hs hp hw h)
  · exact Wc_mono (by omega) (q5 n s p w hs hp hw h)
theorem Wc_23 {k : Nat} (hk : k = 2 ∨ k = 3) (n : Nat) {s p w : Nat} (hs : s < 64) (hp : p < 64) (hw : w < 64) : ¬ Wc k O0 n s p w := by
  rcases hk with e | e <;> subst e
  · exact Wc_none (fun s p w hs hp hw q => (mateN_rpr (by omega) (by omega)).stop rpr0 mate_kn s p w hs hp hw q) n s p w hs hp hw
  · exact Wc_none (fun s p w hs hp hw q => (mateN_rpr (by omega) (by omega)).stop rpr0 mate_bi s p w hs hp hw q) n s p w hs hp hw
theorem Sc_bnd {k : Nat} (h1 : 1 ≤ k) (h5 : k ≤ 5) (n : Nat) {s p w : Nat} (hs : s < 64) (hp : p < 64) (hw : w < 64) (h : Sc k (Ok k) n s p w) : Sc k (Ok k) 28 s p w := by
  refine ⟨h.1, ?_⟩
  rcases h.2 with ⟨t2, a, b, c⟩ | ⟨t2, a, b, c⟩ | ⟨a, b, c⟩
  · exact Or.inl ⟨t2, a, b, Wc_bnd h1 h5 n a hp hw c⟩
  · exact Or.inr (Or.inl ⟨t2, a, b, Wc_bnd h1 h5 n hs a hw c⟩)
  · subst a
    refine Or.inr (Or.inr ⟨rfl, b, ?_⟩)
    have c : O1 n s (p + 8) w := c
    show O1 28 s (p + 8) w
    exact c.elim (fun z => Or.inl (Wc_bnd (k := 5) (by omega) (by omega) n hs (by omega) hw z)) (fun z => Or.inr (Wc_bnd (k := 4) (by omega) (by omega) n hs (by omega) hw z))
