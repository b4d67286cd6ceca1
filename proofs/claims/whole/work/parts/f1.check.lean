/-! CHECK: the class checks all tokens -/
def cFT (tx : Nat → Nat) (L : Nat) (l0 : Nat → Int64) (f0 : Nat → Int32) : Nat := fnd (fun t => !(decide (t < pT (tkk tx L))) || !(cFL tx L l0 f0 t == 0)) 401 0
theorem cFT_ok (tx : Nat → Nat) (L : Nat) (l0 : Nat → Int64) (f0 : Nat → Int32) : cFT tx L l0 f0 ≤ pT (tkk tx L) ∧ (cFT tx L l0 f0 < pT (tkk tx L) → cFL tx L l0 f0 (cFT tx L l0 f0) ≠ 0) ∧ ∀ i, i < cFT tx L l0 f0 → cFL tx L l0 f0 i = 0 := by
  obtain ⟨-, b, c, d⟩ := fnd_ok (p := fun t => !(decide (t < pT (tkk tx L))) || !(cFL tx L l0 f0 t == 0)) 401 0 (pT (tkk tx L)) (Nat.zero_le _) (by have := (pT_ok (tkk tx L)).1; omega) (by
    rw [decide_eq_false (Nat.lt_irrefl _)]
    rfl)
  refine ⟨b, fun h => ?_, fun i hi => ?_⟩
  · have c : (!(decide (cFT tx L l0 f0 < pT (tkk tx L))) || !(cFL tx L l0 f0 (cFT tx L l0 f0) == 0)) = true := c
    rw [decide_eq_true h, Bool.not_true, Bool.false_or, Bool.not_eq_true', beq_eq_false_iff_ne] at c
    exact c
  · have := d i (Nat.zero_le _) hi
    rw [Bool.or_eq_false_iff, Bool.not_eq_false', Bool.not_eq_false', beq_iff_eq] at this
    exact this.2
theorem cFL_le (tx : Nat → Nat) (L : Nat) (l0 : Nat → Int64) (f0 : Nat → Int32) (t : Nat) : cFL tx L l0 f0 t ≤ 6 := by
  unfold cFL
  repeat' split
  all_goals omega
theorem l_Script_check {P : PSem} (S : SysOK P) {h0 : PH} (hw0 : WS h0) {s : Nat} (hs : SCL s) {tx : Nat → Nat} {L : Nat} (hM : L ≤ 2000) {l0 : Nat → Int64} {f0 s0 m0 d0 : Nat → Int32} {K : PK}
    (hG : cFT tx L l0 f0 = pT (tkk tx L) → ∀ h', CHK h0 h' s tx L l0 f0 s0 m0 d0 (pT (tkk tx L)) → K (.int 0) h')
    (hB : cFT tx L l0 f0 < pT (tkk tx L) → ∀ h', eqY (fun k => s ≤ k ∧ k ≤ s + 9) h0 h' → hI h' s 12 = nI (tkS tx L (cFT tx L l0 f0)) → K (.int (nI (cFL tx L l0 f0 (cFT tx L l0 f0)))) h') : ∀ j t h, t + j = cFT tx L l0 f0 → CHK h0 h s tx L l0 f0 s0 m0 d0 t → P.2 n_Script_check 15 [some (.ref s), some (.int (nI t)), none] [] h 0 0 K := by
  obtain ⟨g1, g2, g3⟩ := cFT_ok tx L l0 f0
  have t4 := (pT_ok (tkk tx L)).1
  intro j
  induction j with
  | zero =>
    intro t h e c
    have e : t = cFT tx L l0 f0 := by omega
    have hw := eqY_WS c.1 hw0
    have fl := cFL_le tx L l0 f0 t
    refine S.at 60 [] rfl ?_
    conv => whnf
    refine ⟨sc_t hw hs, ?_⟩
    conv => whnf
    rw [c.2.1]
    refine bk_le (by omega) (by omega) (fun z => ?_) (fun z => ?_)
    · have q : cFT tx L l0 f0 = pT (tkk tx L) := by omega
      conv => whnf
      exact hG q h (by rw [← q, ← e]; exact c)
    · conv => whnf
      refine ⟨sc_t hw hs, ?_⟩
      refine c_Script_checkToken S hw0 hs hM z (fun i hi => g3 i (by omega)) c ?_
      intro h' q1 q2 q3
      have hw' := eqY_WS q2 hw0
      have ne := g2 (by omega)
      rw [← e] at ne
      conv => whnf
      refine bk_f (fun c => absurd ((zn_eq (b := 0) (by omega) (by omega)).mp c) (by omega)) ?_
      conv => whnf
      refine ⟨sc_t hw' hs, ?_⟩
      conv => whnf
      rw [sc_r3 hw' hs]
      refine ⟨inB_of (sc_t3 hw' hs) (sc_n3 hw' hs) (by omega) (by decide), ?_⟩
      conv => whnf
      rw [nI_clamp (by omega), q3]
      refine ⟨sc_t hw' hs, ?_⟩
      conv => whnf
      have fin := hB (by omega) (sI h' s 12 (nI (tkS tx L t))) (eqY_tr q2 (eqY_sI (by omega))) (by rw [← e, hI_sI])
      rw [← e] at fin
      exact fin
  | succ j ih =>
    intro t h e c
    have hw := eqY_WS c.1 hw0
    have fz := g3 t (by omega)
    refine S.at 60 [] rfl ?_
    conv => whnf
    refine ⟨sc_t hw hs, ?_⟩
    conv => whnf
    rw [c.2.1]
    refine bk_f (fun c => absurd ((zn_le (by omega) (by omega)).mp c) (by omega)) ?_
    conv => whnf
    refine ⟨sc_t hw hs, ?_⟩
    refine c_Script_checkToken S hw0 hs hM (show t < pT (tkk tx L) by omega) (fun i hi => g3 i (by omega)) c ?_
    intro h' q1 q2 q3
    rw [fz]
    have next := ih (t + 1) h' (by omega) (q1 fz)
    rw [← nI_1 t] at next
    conv => whnf
    refine bk_t (rfl) ?_
    conv => whnf
    refine S.mk [(0,1),(0,1),(0,0)] ?_
    exact next
