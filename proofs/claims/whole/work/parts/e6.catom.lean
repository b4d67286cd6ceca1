/-! CHECK: the class's atoms -/
theorem i2l_s : ∀ d, d < 16 → (nI d).toInt64 = lN d := by decide +kernel
theorem i2l_m1 (v : Int32) : v.toInt64 = -1 ↔ v = -1 := by
  constructor
  · intro h
    have e := congrArg Int64.toInt h
    rw [Int32.toInt_toInt64] at e
    exact Int32.toInt_inj.mp e
  · intro h
    rw [h]
    rfl
theorem c_Script_checkAtom5 {P : PSem} (S : SysOK P) {h : PH} (hw : WS h) {s : Nat} (hs : SCL s) {i w : Nat} {v : Int32} (hi : i < 400) (hk : hI h (s + 1) i = nI 5) (hl : hL h (s + 4) i = lN w) (hwl : w < 2 ^ 63) (hv : (if a13 w then nI (bF w 13) else -1) = v) {K : PK}
    (hB : v = -1 → K (.int 5) (sL h (s + 4) i v.toInt64)) (hG : v ≠ -1 → K (.int 0) (sL h (s + 4) i v.toInt64)) : P.1 n_Script_checkAtom [.ref s, .int (nI i)] h K := by
  refine S.go 60 rfl rfl rfl ?_
  conv => whnf
  refine ⟨sc_t hw hs, ?_⟩
  conv => whnf
  rw [sc_r1 hw hs]
  refine ⟨inB_of (sc_t1 hw hs) (sc_n1 hw hs) hi (by decide), ?_⟩
  conv => whnf
  rw [nI_clamp (by omega), hk]
  refine bk_nf (rfl) ?_
  conv => whnf
  refine ⟨sc_t hw hs, ?_⟩
  conv => whnf
  rw [sc_r4 hw hs]
  refine ⟨sc_t hw hs, ?_⟩
  conv => whnf
  try rw [sc_r4 hw hs]
  refine ⟨inB_of (sc_t4 hw hs) (sc_n4 hw hs) hi (by decide), ?_⟩
  conv => whnf
  rw [nI_clamp (by omega), hl]
  refine c_Script_bitsOf S hwl ?_
  conv => whnf
  rw [hv]
  refine ⟨inB_of (sc_t4 hw hs) (sc_n4 hw hs) hi (by decide), ?_⟩
  conv => whnf
  rw [nI_clamp (by omega)]
  refine ⟨sc_t hw hs, ?_⟩
  conv => whnf
  have w4 : hR (sL h (s + 4) i v.toInt64) s 4 = s + 4 := sc_r4 hw hs
  rw [w4]
  refine ⟨inB_of (sc_t4 hw hs) (sc_n4 hw hs) hi (by decide), ?_⟩
  conv => whnf
  rw [nI_clamp (by omega), hL_sL]
  by_cases c : v = -1
  · refine bk_nf (((l_cmp_eq _ _).mpr ((i2l_m1 v).mpr c))) ?_
    conv => whnf
    exact hB c
  · refine bk_nt ((fun y => c ((i2l_m1 v).mp ((l_cmp_eq _ _).mp y)))) ?_
    conv => whnf
    exact hG c
theorem c_Script_checkAtom0 {P : PSem} (S : SysOK P) {h : PH} (hw : WS h) {s : Nat} (hs : SCL s) {i k : Nat} (hi : i < 400) (hk : hI h (s + 1) i = nI k) (k14 : k ≤ 14) (k5 : k ≠ 5) (k4 : k ≠ 4) {K : PK} (hG : K (.int 0) h) : P.1 n_Script_checkAtom [.ref s, .int (nI i)] h K := by
  refine S.go 60 rfl rfl rfl ?_
  conv => whnf
  refine ⟨sc_t hw hs, ?_⟩
  conv => whnf
  rw [sc_r1 hw hs]
  refine ⟨inB_of (sc_t1 hw hs) (sc_n1 hw hs) hi (by decide), ?_⟩
  conv => whnf
  rw [nI_clamp (by omega), hk]
  refine bk_nt (fun c => absurd ((zn_eq (b := 5) (by omega) (by omega)).mp c) (by omega)) ?_
  conv => whnf
  refine ⟨sc_t hw hs, ?_⟩
  conv => whnf
  rw [sc_r1 hw hs]
  refine ⟨inB_of (sc_t1 hw hs) (sc_n1 hw hs) hi (by decide), ?_⟩
  conv => whnf
  rw [nI_clamp (by omega), hk]
  refine bk_f (fun c => absurd ((zn_eq (b := 4) (by omega) (by omega)).mp c) (by omega)) ?_
  conv => whnf
  exact hG
theorem c_Script_checkAtom4 {P : PSem} (S : SysOK P) {h : PH} (hw : WS h) {s : Nat} (hs : SCL s) {i nm lf : Nat} {w : Int64} (hi : i < 400) (hk : hI h (s + 1) i = nI 4) (hl : hL h (s + 4) i = w) (hn : hI h s 6 = nI nm) (n8 : nm < 8) (hf : hI h s 11 = nI lf) (f2 : lf ≤ 12) (hnf : ∀ j, j < nm → ∃ a, 1 ≤ a ∧ a ≤ 12 ∧ hI h (s + 7) j = nI a) {K : PK}
    (h4 : ¬ ixF (hL h (s + 6)) nm w < nm → K (.int 4) h)
    (h6 : ∀ a, ixF (hL h (s + 6)) nm w < nm → hI h (s + 7) (ixF (hL h (s + 6)) nm w) = nI a → a ≤ 12 → lf % a ≠ 0 → K (.int 6) h)
    (hG : ∀ a, ixF (hL h (s + 6)) nm w < nm → hI h (s + 7) (ixF (hL h (s + 6)) nm w) = nI a → a ≤ 12 → lf % a = 0 → K (.int 0) (sL (if a = lf then h else sI h (s + 9) nm 1) (s + 4) i (lN (ixF (hL h (s + 6)) nm w)))) : P.1 n_Script_checkAtom [.ref s, .int (nI i)] h K := by
  have s6 : 96 ≤ s := by rcases hs with rfl | rfl <;> decide
  obtain ⟨x1, -, -⟩ := ixF_ok (NL := hL h (s + 6)) (w := w) (show nm ≤ 8 by omega)
  refine S.2.1 _ 3 _ _ _ rfl rfl ?_
  refine S.at 80 [74] rfl ?_
  conv => whnf
  refine ⟨sc_t hw hs, ?_⟩
  conv => whnf
  rw [sc_r1 hw hs]
  refine ⟨inB_of (sc_t1 hw hs) (sc_n1 hw hs) hi (by decide), ?_⟩
  conv => whnf
  rw [nI_clamp (by omega), hk]
  refine bk_nt (fun c => absurd ((zn_eq (a := 4) (b := 5) (by omega) (by omega)).mp c) (by omega)) ?_
  conv => whnf
  refine ⟨sc_t hw hs, ?_⟩
  conv => whnf
  rw [sc_r1 hw hs]
  refine ⟨inB_of (sc_t1 hw hs) (sc_n1 hw hs) hi (by decide), ?_⟩
  conv => whnf
  rw [nI_clamp (by omega), hk]
  refine bk_t (rfl) ?_
  conv => whnf
  refine ⟨sc_t hw hs, ?_⟩
  conv => whnf
  rw [sc_r4 hw hs]
  refine ⟨inB_of (sc_t4 hw hs) (sc_n4 hw hs) hi (by decide), ?_⟩
  conv => whnf
  rw [nI_clamp (by omega), hl]
  refine ⟨sc_t hw hs, ?_⟩
  refine c_Script_indexOf S hw hs (show nm ≤ 8 by omega) hn ?_
  conv => whnf
  unfold ixV
  revert h4 h6 hG x1
  generalize ixF (hL h (s + 6)) nm w = x
  intro h4 h6 hG x1
  by_cases c : x < nm
  · obtain ⟨a, a1, a2, a3⟩ := hnf x c
    rw [if_pos c]
    refine bk_nt ((nI_nm1 (by omega))) ?_
    conv => whnf
    refine ⟨sc_t hw hs, ?_⟩
    conv => whnf
    rw [sc_r8 hw hs]
    refine ⟨inB_of (sc_t7 hw hs) (sc_n7 hw hs) (show x < 8 by omega) (by decide), ?_⟩
    conv => whnf
    rw [nI_clamp (by omega), a3]
    refine ⟨sc_t hw hs, ?_⟩
    conv => whnf
    rw [hf]
    refine c_FT_divides S (by omega) (by omega) ?_
    conv => whnf
    by_cases d : lf % a = 0
    · rw [decide_eq_true (show 0 < a ∧ lf % a = 0 from ⟨by omega, d⟩)]
      have hG := hG a c a3 a2 d
      have n74 : ∀ h1, WS h1 → hR h1 = hR h → hN h1 = hN h → hT h1 = hT h → h1 = (if a = lf then h else sI h (s + 9) nm 1) → P.2 n_Script_checkAtom 74 [some (.ref s), some (.int (nI i)), some (.int (nI x))] [] h1 0 0 K := by
        intro h1 hw1 _ _ _ e
        rw [← e, ← i2l_s x (by omega)] at hG
        refine S.at 40 [] rfl ?_
        conv => whnf
        refine ⟨sc_t hw1 hs, ?_⟩
        conv => whnf
        rw [sc_r4 hw1 hs]
        refine ⟨inB_of (sc_t4 hw1 hs) (sc_n4 hw1 hs) hi (by decide), ?_⟩
        conv => whnf
        rw [nI_clamp (by omega)]
        exact hG
      refine bk_nt ((by decide)) ?_
      conv => whnf
      refine ⟨sc_t hw hs, ?_⟩
      conv => whnf
      rw [sc_r8 hw hs]
      refine ⟨inB_of (sc_t7 hw hs) (sc_n7 hw hs) (show x < 8 by omega) (by decide), ?_⟩
      conv => whnf
      rw [nI_clamp (by omega), a3]
      refine ⟨sc_t hw hs, ?_⟩
      conv => whnf
      rw [hf]
      refine bk_eq (by omega) (by omega) (fun y => ?_) (fun y => ?_)
      · conv => whnf
        exact n74 h hw rfl rfl rfl (by rw [if_pos y])
      · conv => whnf
        refine ⟨sc_t hw hs, ?_⟩
        conv => whnf
        rw [hn]
        refine bk_f (fun c => absurd ((zn_le (a := 8) (by omega) (by omega)).mp c) (by omega)) ?_
        conv => whnf
        refine ⟨sc_t hw hs, ?_⟩
        conv => whnf
        rw [sc_r10 hw hs]
        refine ⟨sc_t hw hs, ?_⟩
        conv => whnf
        rw [hn]
        refine ⟨Or.inr (inB_of (sc_t9 hw hs) (sc_n9 hw hs) n8 (by decide)), ?_⟩
        try rw [nI_clamp (show nm < 2 ^ 31 by omega)]
        try rw [sc_t9 hw hs]
        conv => whnf
        exact n74 (sI h (s + 9) nm 1) hw rfl rfl rfl (by rw [if_neg y])
    · rw [decide_eq_false (fun y : 0 < a ∧ lf % a = 0 => d y.2)]
      refine bk_nf (rfl) ?_
      conv => whnf
      exact h6 a c a3 a2 d
  · rw [if_neg c]
    refine bk_nf (rfl) ?_
    conv => whnf
    exact h4 c
