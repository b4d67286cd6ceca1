/-! CHECK: the class's checks, names, moduli and atoms -/
theorem okF_ok {n : Nat} (h1 : 1 ≤ n) (h2 : n ≤ 12) : okF (nI n) = true := by
  unfold okF
  rw [decide_eq_true_iff]
  exact ⟨(zn_le (a := 1) (by omega) (by omega)).mpr h1, (zn_le (b := 12) (by omega) (by omega)).mpr h2⟩
theorem nI_nm1 {x : Nat} (h : x < 2 ^ 31) : nI x ≠ -1 := by
  intro e
  have := nI_pos h
  rw [e] at this
  exact this (by decide)
theorem c_Script_checkNewName {P : PSem} (S : SysOK P) {h : PH} (hw : WS h) {s : Nat} (hs : SCL s) {i nm : Nat} {w : Int64} (hi : i < 400) (hl : hL h (s + 4) i = w) (hn : hI h s 6 = nI nm) (n8 : nm < 8) {K : PK}
    (hB : ixF (hL h (s + 6)) nm w < nm → K (.int 3) h) (hG : ¬ ixF (hL h (s + 6)) nm w < nm → K (.int 0) (sL h (s + 6) nm w)) : P.1 n_Script_checkNewName [.ref s, .int (nI i)] h K := by
  have s6 : 96 ≤ s := by rcases hs with rfl | rfl <;> decide
  refine S.go 60 rfl rfl rfl ?_
  conv => whnf
  refine ⟨sc_t hw hs, ?_⟩
  conv => whnf
  rw [sc_r4 hw hs]
  refine ⟨inB_of (sc_t4 hw hs) (sc_n4 hw hs) hi (by decide), ?_⟩
  conv => whnf
  rw [nI_clamp (by omega), hl]
  refine ⟨sc_t hw hs, ?_⟩
  refine c_Script_indexOf S hw hs (show nm ≤ 8 by omega) hn ?_
  conv => whnf
  unfold ixV
  by_cases c : ixF (hL h (s + 6)) nm w < nm
  · rw [if_pos c]
    refine bk_f ((nI_nm1 (by omega))) ?_
    conv => whnf
    exact hB c
  · rw [if_neg c]
    refine bk_t (rfl) ?_
    conv => whnf
    refine ⟨sc_t hw hs, ?_⟩
    conv => whnf
    rw [hn]
    refine bk_f (fun c => absurd ((zn_le (a := 8) (by omega) (by omega)).mp c) (by omega)) ?_
    conv => whnf
    refine ⟨sc_t hw hs, ?_⟩
    conv => whnf
    rw [sc_r7 hw hs]
    refine ⟨sc_t hw hs, ?_⟩
    conv => whnf
    rw [hn]
    refine ⟨sc_t hw hs, ?_⟩
    conv => whnf
    rw [sc_r4 hw hs]
    refine ⟨inB_of (sc_t4 hw hs) (sc_n4 hw hs) hi (by decide), ?_⟩
    conv => whnf
    rw [nI_clamp (show i < 2 ^ 31 by omega), hl]
    refine ⟨inB_of (sc_t6 hw hs) (sc_n6 hw hs) n8 (by decide), ?_⟩
    conv => whnf
    try rw [nI_clamp (show nm < 2 ^ 31 by omega)]
    exact hG c
theorem isMB_m1 {n : Nat} (hn : n ≤ 12) : isMB n (-1) = false := by
  unfold isMB
  have : ¬ (nI (2 ^ n) ≤ (-1 : Int32)) := fun y => nI_pos (n := 2 ^ n) (by
    have : 2 ^ n ≤ 2 ^ 12 := Nat.pow_le_pow_right (by decide) hn
    omega) (Int32.lt_of_le_of_lt y (by decide))
  rw [decide_eq_false (fun y => this y.1), Bool.false_and]
theorem c_Script_checkModulus {P : PSem} (S : SysOK P) {h : PH} (hw : WS h) {s : Nat} (hs : SCL s) {i w lf : Nat} {v : Int32} (hi : i < 400) (hl : hL h (s + 4) i = lN w) (hwl : w < 2 ^ 63) (hv : (if a13 w then nI (bF w 13) else -1) = v) (hf : hI h s 11 = nI lf) (f1 : 1 ≤ lf) (f2 : lf ≤ 12) {K : PK}
    (hB : isMB lf v = false → K (.int 5) h) (hG : isMB lf v = true → K (.int 0) (sI h (s + 5) lf v)) : P.1 n_Script_checkModulus [.ref s, .int (nI i)] h K := by
  have s6 : 96 ≤ s := by rcases hs with rfl | rfl <;> decide
  refine S.go 60 rfl rfl rfl ?_
  conv => whnf
  refine ⟨sc_t hw hs, ?_⟩
  conv => whnf
  rw [sc_r4 hw hs]
  refine ⟨inB_of (sc_t4 hw hs) (sc_n4 hw hs) hi (by decide), ?_⟩
  conv => whnf
  rw [nI_clamp (by omega), hl]
  refine c_Script_bitsOf S hwl ?_
  conv => whnf
  rw [hv]
  refine ⟨sc_t hw hs, ?_⟩
  conv => whnf
  rw [hf]
  refine c_FT_isField S _ ?_
  conv => whnf
  rw [okF_ok f1 f2]
  refine bk_f ((by decide)) ?_
  conv => whnf
  refine ⟨fun z => ?_, fun z => ?_⟩
  · conv => whnf
    exact hB (by rw [z]; exact isMB_m1 f2)
  · conv => whnf
    refine ⟨sc_t hw hs, ?_⟩
    conv => whnf
    rw [hf]
    refine c_Poly_isModulus S f1 f2 ?_
    conv => whnf
    refine bk_b1 (fun y => ?_) (fun y => ?_)
    · conv => whnf
      refine ⟨sc_t hw hs, ?_⟩
      conv => whnf
      rw [sc_r5 hw hs]
      refine ⟨sc_t hw hs, ?_⟩
      conv => whnf
      rw [hf]
      refine ⟨⟨(show 5 ≤ s + 5 by omega), inB_of (sc_t5 hw hs) (sc_n5 hw hs) (by omega) (by decide)⟩, ?_⟩
      conv => whnf
      rw [nI_clamp (by omega)]
      exact hG y
    · conv => whnf
      exact hB y
