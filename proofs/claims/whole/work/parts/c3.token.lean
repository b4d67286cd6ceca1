/-! TOKENS: a token, the grammar -/
theorem wd_run {f : Nat → Bool} {L q : Nat} (hq : q < L) (hM : L ≤ 2000) (hf : f q = true) : q < fnd (fun q => !(decide (q < L) && f q)) 2001 q := by
  obtain ⟨a, b, c, d⟩ := run_ok (f := f) (Nat.le_of_lt hq) hM
  rcases Nat.lt_or_ge q (fnd (fun q => !(decide (q < L) && f q)) 2001 q) with w | w
  · exact w
  · have e := Nat.le_antisymm w a
    rw [e] at c
    rw [c hq] at hf
    cases hf
theorem c_Tape_scanToken {P : PSem} (S : SysOK P) {h : PH} (hw : WS h) {tx : Nat → Nat} {L p : Nat} (hT : TC h tx L) (hB : TXB tx) (hM : L ≤ 2000) (hp : p ≤ L) (ha : hI h 6 2 = nI p) {K : PK} (hK : ∀ h', TKF h h' → hI h' 6 2 = nI (tkE tx L (skF tx L p)) → hI h' 6 3 = nI (tkK tx L (skF tx L p)) → hI h' 6 4 = nI (skF tx L p) → hL h' 6 5 = lN (tkW tx L (skF tx L p)) → K .null h') : P.1 n_Tape_scanToken [.ref 6] h K := by
  obtain ⟨-, hqL, -, -⟩ := run_ok (f := fun q => blkB (tx q)) hp hM
  have hqL : skF tx L p ≤ L := hqL
  refine S.go 60 rfl rfl rfl ?_
  conv => whnf
  refine ⟨wt_6 hw, ?_⟩
  refine c_Tape_skipBlanks S hw hT hB hM hp ha (fun h1 f1 a1 => ?_)
  revert hK hqL a1
  generalize skF tx L p = q
  intro hK hqL a1
  have hw1 := eqY_WS f1.1 hw
  conv => whnf
  refine ⟨wt_6 hw1, ?_⟩
  conv => whnf
  rw [a1]
  refine ⟨wt_6 hw1, ?_⟩
  conv => whnf
  refine ⟨wt_6 hw1, ?_⟩
  conv => whnf
  refine ⟨wt_6 hw1, ?_⟩
  conv => whnf
  have f2 : TKF h (sL (sI h1 6 4 (nI q)) 6 5 0) := TKF_tr f1 (TKF_tr (TKF_sI (by decide)) TKF_sL)
  have a2 : hI (sL (sI h1 6 4 (nI q)) 6 5 0) 6 2 = nI q := by
    show hI (sI h1 6 4 (nI q)) 6 2 = nI q
    exact (hI_sI_j (by decide)).trans a1
  have b2 : hI (sL (sI h1 6 4 (nI q)) 6 5 0) 6 4 = nI q := by
    show hI (sI h1 6 4 (nI q)) 6 4 = nI q
    exact hI_sI
  have l2 : hL (sL (sI h1 6 4 (nI q)) 6 5 0) 6 5 = lN 0 := hL_sL
  revert f2 a2 b2 l2
  generalize sL (sI h1 6 4 (nI q)) 6 5 0 = h2
  intro f2 a2 b2 l2
  have hw2 := eqY_WS f2.1 hw
  have hT2 := f2.tc hT
  rw [a2]
  refine ⟨wt_6 hw2, ?_⟩
  conv => whnf
  rw [hT2.1]
  unfold tkE tkK tkW at hK
  refine bk_lt (by omega) (by omega) (fun c => ?_) (fun c => ?_)
  · have hn : ¬ L ≤ q := Nat.not_le.mpr c
    simp only [if_neg hn] at hK
    conv => whnf
    refine ⟨wt_6 hw2, ?_⟩
    conv => whnf
    rw [a2]
    refine ⟨wt_6 hw2, ?_⟩
    refine c_Tape_isLetter S hw2 hT2 hB hM (by omega) ?_
    conv => whnf
    rw [decide_eq_true c, Bool.true_and]
    cases hl : ltrB (tx q) with
    | true =>
      obtain ⟨r1, r2, r3, r4⟩ := run_ok (f := fun q => ltrB (tx q)) hqL hM
      simp only [hl, ↓reduceIte] at hK
      refine bk_f ((by decide)) ?_
      conv => whnf
      refine ⟨wt_6 hw2, ?_⟩
      refine S.2.1 _ 1 _ _ _ rfl rfl ?_
      refine l_Tape_scanWord (e := wdE tx L q) (q := q) S hw2 hT2 hB hM r1 r2 r3 (fun l h1 h2 => (r4 l h1 h2).2) ?_ (wdE tx L q - q) 0 h2 (Nat.add_sub_cancel' r1) (TKF_rf h2) a2 b2 l2
      intro h' f3 a3 k3 b3 l3
      conv => whnf
      exact hK h' (TKF_tr f2 f3) a3 k3 b3 l3
    | false =>
      simp only [hl, Bool.false_eq_true, ↓reduceIte] at hK
      refine bk_t (rfl) ?_
      conv => whnf
      refine ⟨wt_6 hw2, ?_⟩
      conv => whnf
      rw [a2]
      refine ⟨wt_6 hw2, ?_⟩
      refine c_Tape_isDigit S hw2 hT2 hB hM (by omega) ?_
      conv => whnf
      rw [decide_eq_true c, Bool.true_and]
      cases hd : dgtB (tx q) with
      | true =>
        obtain ⟨r1, r2, r3, r4⟩ := run_ok (f := fun q => dgtB (tx q)) hqL hM
        simp only [hd, ↓reduceIte] at hK
        refine bk_f ((by decide)) ?_
        conv => whnf
        refine ⟨wt_6 hw2, ?_⟩
        refine S.2.1 _ 1 _ _ _ rfl rfl ?_
        refine l_Tape_scanRow (e := rwE tx L q) (q := q) S hw2 hT2 hB hM r1 r2 r3 (fun l h1 h2 => (r4 l h1 h2).2) ?_ (rwE tx L q - q) 0 h2 (Nat.add_sub_cancel' r1) (TKF_rf h2) a2 b2 l2
        intro h' f3 a3 k3 b3 l3
        conv => whnf
        exact hK h' (TKF_tr f2 f3) a3 k3 b3 l3
      | false =>
        simp only [hd, Bool.false_eq_true, ↓reduceIte] at hK
        refine bk_t (rfl) ?_
        conv => whnf
        refine ⟨wt_6 hw2, ?_⟩
        conv => whnf
        rw [wr_6_0 hw2]
        refine ⟨wt_6 hw2, ?_⟩
        conv => whnf
        rw [a2]
        refine ⟨Or.inl (inB_of (wt_7 hw2) (wn_7 hw2) (by omega) (by decide)), ?_⟩
        conv => whnf
        rw [nI_clamp (by omega), hT2.2 q c]
        refine c_Tape_signKind S (hB q) ?_
        conv => whnf
        refine ⟨wt_6 hw2, ?_⟩
        conv => whnf
        refine ⟨wt_6 hw2, ?_⟩
        conv => whnf
        refine ⟨wt_6 hw2, ?_⟩
        conv => whnf
        have h3 : hI (sI h2 6 3 (nI (sgK (tx q)))) 6 2 = nI q := (hI_sI_j (by decide)).trans a2
        have fin := hK (sI (sI h2 6 3 (nI (sgK (tx q)))) 6 2 (hI (sI h2 6 3 (nI (sgK (tx q)))) 6 2 + 1)) (TKF_tr f2 (TKF_tr (TKF_sI (by decide)) (TKF_sI (by decide)))) (hI_sI.trans (by rw [h3, nI_1])) ((hI_sI_j (by decide)).trans hI_sI) (((hI_sI_j (by decide)).trans (hI_sI_j (by decide))).trans b2) l2
        exact fin
  · simp only [if_pos c] at hK
    conv => whnf
    refine ⟨wt_6 hw2, ?_⟩
    conv => whnf
    exact hK _ (TKF_tr f2 (TKF_sI (by decide))) ((hI_sI_j (by decide)).trans a2) hI_sI ((hI_sI_j (by decide)).trans b2) l2
