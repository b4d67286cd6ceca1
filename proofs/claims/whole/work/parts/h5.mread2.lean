/-! READ: what a text comes to -/
noncomputable def vM (tx : Nat → Nat) (L : Nat) (n : Nat) : Nat := (cMD tx L dLm (pT (tkk tx L)) n).toNatClampNeg
theorem vM_t {tx : Nat → Nat} {L : Nat} {l0 : Nat → Int64} {f0 : Nat → Int32} : ∀ t, t ≤ pT (tkk tx L) → (∀ i, i < t → cFL tx L l0 f0 i = 0) → ∀ n, 1 ≤ n → n ≤ 12 → ∃ m, MOD n m ∧ m < 8192 ∧ cMD tx L dLm t n = nI m := by
  intro t
  induction t with
  | zero =>
    intro _ _ n n1 n2
    have a := lm_MOD n1 n2
    have p2 : 2 ^ (n + 1) ≤ 2 ^ 13 := Nat.pow_le_pow_right (by decide) (by omega)
    have c2 : 2 ^ 13 = 8192 := by decide
    exact ⟨lm n, a, by have := a.1.2.2; omega, rfl⟩
  | succ t ih =>
    intro ht hf n n1 n2
    have e : cMD tx L dLm (t + 1) n = if cR tx L t = 3 ∧ n = clf tx L t then cBt tx L t else cMD tx L dLm t n := rfl
    rw [e]
    by_cases z : cR tx L t = 3 ∧ n = clf tx L t
    · rw [if_pos z]
      have fz := hf t (by omega)
      unfold cFL at fz
      rw [if_neg (by omega), if_pos z.1] at fz
      have tab := rtab (tx := tx) (L := L) (t := t) (by omega)
      have k5 : tkk tx L t = 5 := by omega
      have mb : isMB (clf tx L t) (cBt tx L t) = true := by
        by_cases y : isMB (clf tx L t) (cBt tx L t) = true
        · exact y
        · rw [if_neg y] at fz
          omega
      rw [← z.2] at mb
      rcases cBt_or k5 with w | ⟨v, v1, v2⟩
      · rw [w, mb_m1 n2] at mb
        exact absurd mb (by decide)
      · rw [v2, mb_ok n1 n2 v1, Bool.and_eq_true, decide_eq_true_iff] at mb
        refine ⟨v, ⟨⟨n1, (Nat.log2_eq_iff (by omega)).mp mb.1.2⟩, T_irr mb.1.1 v1 mb.2⟩, v1, v2⟩
    · rw [if_neg z]
      exact ih (by omega) (fun i hi => hf i (by omega)) n n1 n2
theorem vM_ok {tx : Nat → Nat} {L : Nat} {l0 : Nat → Int64} {f0 : Nat → Int32} (hf : ∀ i, i < pT (tkk tx L) → cFL tx L l0 f0 i = 0) : MDS (vM tx L) ∧ ∀ n, 1 ≤ n → n ≤ 12 → cMD tx L dLm (pT (tkk tx L)) n = nI (vM tx L n) := by
  have key : ∀ n, 1 ≤ n → n ≤ 12 → MOD n (vM tx L n) ∧ cMD tx L dLm (pT (tkk tx L)) n = nI (vM tx L n) := by
    intro n n1 n2
    obtain ⟨m, m1, m2, m3⟩ := vM_t (pT (tkk tx L)) (Nat.le_refl _) hf n n1 n2
    have e : vM tx L n = m := by
      unfold vM
      rw [m3, nI_clamp (by omega)]
    rw [e]
    exact ⟨m1, m3⟩
  exact ⟨fun n n1 n2 => (key n n1 n2).1, fun n n1 n2 => (key n n1 n2).2⟩
/-- faults on both sides -/
theorem fl_tie {tx : Nat → Nat} {L : Nat} (l0 : Nat → Int64) (f0 : Nat → Int32) : ∀ t, t ≤ pT (tkk tx L) → (∀ i, i < t → rFL tx L l0 i = 0) → ∀ i, i < t → cFL tx L l0 f0 i = 0 := by
  intro t
  induction t with
  | zero => exact fun _ _ i hi => absurd hi (Nat.not_lt_zero i)
  | succ t ih =>
    intro ht h i hi
    have a := ih (by omega) (fun i hi => h i (by omega))
    rcases Nat.lt_or_ge i t with w | w
    · exact a i w
    · have e : i = t := by omega
      rw [e, ← rFL_eq l0 f0 (by omega) a (cnm_le (by omega)).1]
      exact h t (by omega)
theorem cFT_at {tx : Nat → Nat} {L : Nat} {l0 : Nat → Int64} {f0 : Nat → Int32} {a : Nat} (ha : a < pT (tkk tx L)) (h1 : cFL tx L l0 f0 a ≠ 0) (h2 : ∀ i, i < a → cFL tx L l0 f0 i = 0) : cFT tx L l0 f0 = a := by
  obtain ⟨g1, g2, g3⟩ := cFT_ok tx L l0 f0
  rcases Nat.lt_trichotomy (cFT tx L l0 f0) a with w | w | w
  · exact absurd (h2 _ w) (g2 (by omega))
  · exact w
  · exact absurd (g3 a w) h1
theorem cFT_no {tx : Nat → Nat} {L : Nat} {l0 : Nat → Int64} {f0 : Nat → Int32} (h2 : ∀ i, i < pT (tkk tx L) → cFL tx L l0 f0 i = 0) : cFT tx L l0 f0 = pT (tkk tx L) := by
  obtain ⟨g1, g2, g3⟩ := cFT_ok tx L l0 f0
  rcases Nat.lt_or_ge (cFT tx L l0 f0) (pT (tkk tx L)) with w | w
  · exact absurd (h2 _ w) (g2 w)
  · omega
theorem WR_cF {h : PH} {tx : Nat → Nat} {L : Nat} {l0 : Nat → Int64} (f0 : Nat → Int32) (w : WR h tx L (rFL tx L l0) (fun k => k < pT (tkk tx L))) : (hI h 116 14 = nI 0 ∧ cFT tx L l0 f0 = pT (tkk tx L) ∧ ∀ i, i < pT (tkk tx L) → cFL tx L l0 f0 i = 0) ∨ (cFT tx L l0 f0 < pT (tkk tx L) ∧ cFL tx L l0 f0 (cFT tx L l0 f0) ≠ 0 ∧ hI h 116 14 = nI (cFL tx L l0 f0 (cFT tx L l0 f0)) ∧ hI h 116 15 = nI (tkS tx L (cFT tx L l0 f0))) := by
  rcases w with ⟨a, b⟩ | ⟨a, b1, b2, b3, b4, b5⟩
  · have c := fl_tie l0 f0 _ (Nat.le_refl _) b
    exact Or.inl ⟨a, cFT_no c, c⟩
  · have b1 : a < pT (tkk tx L) := b1
    have c := fl_tie l0 f0 a (by omega) (fun i hi => b5 i (show i < _ by omega) hi)
    have e := rFL_eq l0 f0 b1 c (cnm_le (by omega)).1
    rw [e] at b2 b3
    have f := cFT_at b1 b2 c
    rw [f]
    exact Or.inr ⟨b1, b2, b3, b4⟩
/-- the reference's state, but for its tape and what is undone or held -/
def RST (h : PH) (u : Nat → Nat) (tx : Nat → Nat) (L : Nat) (l0 : Nat → Int64) (f0 : Nat → Int32) : Prop := MJ h u ∧ MKY h ∧ TXT tx L l0 f0 ∧ REV h tx L l0 ∧ (mst tx L l0 u (pT (tkk tx L))).1 = none ∧ ∀ w, w < cnm tx L (pT (tkk tx L)) → hI h 132 w = nI ((mst tx L l0 u (pT (tkk tx L))).2.2.2 w)
def HF (h h' : PH) : Prop := hI h' 116 40 = hI h 116 40 ∧ hI h' 116 41 = hI h 116 41 ∧ hI h' 141 = hI h 141 ∧ hI h' 142 = hI h 142 ∧ hI h' 143 = hI h 143
noncomputable def rdR (tx : Nat → Nat) (L : Nat) (l0 : Nat → Int64) (f0 : Nat → Int32) : Nat := if pF (tkk tx L) ≠ 0 then pF (tkk tx L) else if cFT tx L l0 f0 < pT (tkk tx L) then cFL tx L l0 f0 (cFT tx L l0 f0) else match (mst tx L l0 (vM tx L) (pT (tkk tx L))).1 with
  | none => 0
  | some _ => 7
noncomputable def rdP (tx : Nat → Nat) (L : Nat) (l0 : Nat → Int64) (f0 : Nat → Int32) : Nat := if pF (tkk tx L) ≠ 0 then tkS tx L (pT (tkk tx L)) else if cFT tx L l0 f0 < pT (tkk tx L) then tkS tx L (cFT tx L l0 f0) else match (mst tx L l0 (vM tx L) (pT (tkk tx L))).1 with
  | none => 0
  | some p => p
theorem REV_meq {h h' : PH} {tx : Nat → Nat} {L : Nat} {l0 : Nat → Int64} (r : REV h tx L l0) (m : MEQ h h' (eW tx L l0 (pT (tkk tx L))).1.length) : REV h' tx L l0 := by
  obtain ⟨a, b, c, d⟩ := r
  obtain ⟨m1, m2, m3, m4, m5, m6⟩ := m
  have c8 := (cnm_le (tx := tx) (L := L) (t := pT (tkk tx L)) (Nat.le_refl _)).1
  have r130 : ∀ q, q ≤ 8 → hI h' 130 q = hI h 130 q := fun q hq => by
    rcases Nat.lt_or_ge q 8 with w | w
    · exact (m4 q w).1
    · have : q = 8 := by omega
      rw [this]
      exact m5
  refine ⟨m3.trans a, fun j hj => ?_, fun j hj => ?_, m1, fun i s hs => ?_⟩
  · rw [r130 j (by omega), r130 (j + 1) (by omega)]
    exact b j hj
  · rw [(m4 j (by omega)).2.1]
    exact c j hj
  · obtain ⟨q1, q2, q3⟩ := m2 i (lt_some hs)
    rw [q1, q2, q3]
    exact d.2 i s hs
theorem l_M_unhold {P : PSem} (S : SysOK P) {h0 : PH} (hw0 : WS h0) {K : PK} (hK : ∀ h', eqX (fun k => k = 143) h0 h' → (∀ q, q < 3 → hI h' 143 q = 0) → K (.int 0) h') : ∀ j i h, i + j = 3 → eqX (fun k => k = 143) h0 h → (∀ q, q < i → hI h 143 q = 0) → P.2 n_M_read 114 [some (.ref 116), some (.int (nI i))] [] h 0 0 K := by
  intro j
  induction j with
  | zero =>
    intro i h hj f a
    have hj : i = 3 := by omega
    refine S.at 40 [] rfl ?_
    conv => whnf
    refine bk_t ((zn_le (a := 3) (by omega) (by omega)).mpr (by omega)) ?_
    conv => whnf
    exact hK h f (fun q hq => a q (by omega))
  | succ j ih =>
    intro i h hj f a
    have hw := eqX_WS f hw0
    have next := ih (i + 1) (sI h 143 i 0) (by omega) (eqX_tr f (eqX_sI rfl)) (fun q hq => by
      rcases Nat.lt_or_ge q i with w | w
      · rw [hI_sI_j (by omega)]
        exact a q w
      · have : q = i := by omega
        rw [this, hI_sI])
    rw [← nI_1 i] at next
    refine S.at 40 [] rfl ?_
    conv => whnf
    refine bk_f (fun c => absurd ((zn_le (a := 3) (by omega) (by omega)).mp c) (by omega)) ?_
    conv => whnf
    refine ⟨wt_116 hw, ?_⟩
    conv => whnf
    rw [wr_116_43 hw]
    refine ⟨Or.inr (inB_of (wt_143 hw) (wn_143 hw) (show i < 3 by omega) (by decide)), ?_⟩
    try rw [nI_clamp (show i < 2 ^ 31 by omega)]
    rw [wt_143 hw]
    conv => whnf
    exact next
