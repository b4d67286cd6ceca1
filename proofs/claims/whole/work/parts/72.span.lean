/-! the class's Span: cells 12, 13, 14 -/
def spA (k : Nat) : Prop := k = 12 ∨ k = 13 ∨ k = 14
def SPH (h : PH) (rows src : Nat → Nat) (cnt : Nat) : Prop := (∀ k, k < 12 → hI h 13 k = nI (rows k)) ∧ (∀ k, k < 12 → hI h 14 k = nI (src k)) ∧ hI h 12 2 = nI cnt
theorem l_Span_clear {P : PSem} (S : SysOK P) {h0 : PH} (hw0 : WS h0) {K : PK} (hK : ∀ h', eqX spA h0 h' → SPH h' (fun _ => 0) (fun _ => 0) 0 → K .null h') : ∀ j q h, q + j = 12 → eqX spA h0 h → (∀ k, k < q → hI h 13 k = 0 ∧ hI h 14 k = 0) →
    P.2 n_Span_clear 2 [some (.ref 12), some (.int (nI q))] [] h 0 0 K := by
  intro j
  induction j with
  | zero =>
    intro q h hq he hz
    have hw := eqX_WS he hw0
    refine S.at 60 [] rfl ?_
    conv => whnf
    refine bk_t ((zn_le (a := 12) (by omega) (by omega)).mpr (by omega)) ?_
    conv => whnf
    refine ⟨wt_12 hw, ?_⟩
    conv => whnf
    refine hK _ (eqX_tr he (eqX_sI (Or.inl rfl))) ⟨fun k hk => ?_, fun k hk => ?_, ?_⟩
    · rw [hI_sI_ne (by decide)]
      exact (hz k (by omega)).1
    · rw [hI_sI_ne (by decide)]
      exact (hz k (by omega)).2
    · exact hI_sI
  | succ j ih =>
    intro q h hq he hz
    have hw := eqX_WS he hw0
    refine S.at 60 [] rfl ?_
    conv => whnf
    refine bk_f (fun c => absurd ((zn_le (a := 12) (by omega) (by omega)).mp c) (by omega)) ?_
    conv => whnf
    refine ⟨wt_12 hw, ?_⟩
    conv => whnf
    rw [wr_12_0 hw]
    refine ⟨⟨by decide, inB_of (wt_13 hw) (wn_13 hw) (by omega) (by decide)⟩, ?_⟩
    conv => whnf
    refine ⟨wt_12 hw, ?_⟩
    conv => whnf
    rw [hR_sI, wr_12_1 hw]
    refine ⟨⟨by decide, inB_of (h := sI h 13 _ _) (wt_14 hw) (wn_14 hw) (by omega) (by decide)⟩, ?_⟩
    conv => whnf
    rw [nI_clamp (by omega)]
    have next := ih (q + 1) (sI (sI h 13 q 0) 14 q 0) (by omega) (eqX_tr he (eqX_tr (eqX_sI (Or.inr (Or.inl rfl))) (eqX_sI (Or.inr (Or.inr rfl))))) (fun k hk => by
      rw [hI_sI_ne (by decide : 13 ≠ 14)]
      rcases Nat.eq_or_lt_of_le (Nat.le_of_lt_succ hk) with w | w
      · subst w
        exact ⟨hI_sI, hI_sI⟩
      · rw [hI_sI_j (by omega), hI_sI_j (by omega), hI_sI_ne (by decide : 14 ≠ 13)]
        exact hz k w)
    rw [← nI_1] at next
    exact next
theorem c_Span_clear {P : PSem} (S : SysOK P) {h : PH} (hw : WS h) {K : PK} (hK : ∀ h', eqX spA h h' → SPH h' (fun _ => 0) (fun _ => 0) 0 → K .null h') : P.1 n_Span_clear [.ref 12] h K := by
  refine S.2.1 _ 2 _ _ _ rfl rfl ?_
  refine S.at 2 [] rfl ?_
  conv => whnf
  exact l_Span_clear S hw hK 12 0 h rfl (eqX_rf _ _) (fun k hk => by omega)
theorem shE_lt {rows : Nat → Nat} (hs : shE rows) {k : Nat} (hk : k < 12) : rows k < 2 ^ 12 := by
  rcases hs k with w | w
  · rw [w]; decide
  · exact Nat.lt_of_lt_of_le w.2 (pow_le (by omega))
theorem l_Span_add {P : PSem} (S : SysOK P) {h : PH} (hw : WS h) {rows src : Nat → Nat} {c : Nat} (hs : shE rows) (hH : SPH h rows src c) {K : PK} : ∀ j v s, j ≤ 12 → v < 2 ^ 12 → ((spR rows src j v s).1 = 0 → K (.int 0) h) → (∀ i, (spR rows src j v s).1 = i + 1 → K (.int 1) (sI (sI h 13 i (nI (spR rows src j v s).2.1)) 14 i (nI (spR rows src j v s).2.2))) →
    P.2 n_Span_add 15 [some (.ref 12), none, some (.int (nI v)), some (.int (nI s)), some (.int (nI j + (-1)))] [] h 0 0 K := by
  intro j
  induction j with
  | zero =>
    intro v s hj hv h0 h1
    refine S.at 60 [] rfl ?_
    conv => whnf
    refine bk_t (neg1) ?_
    conv => whnf
    exact ⟨Or.inl rfl, h0 rfl⟩
  | succ j ih =>
    intro v s hj hv h0 h1
    rw [pk_m1]
    have hb := zn_bit0 (a := v) (k := j) (by omega) (by omega)
    have hr := shE_lt hs (show j < 12 by omega)
    refine S.at 60 [] rfl ?_
    conv => whnf
    refine bk_f (nI_pos (by omega)) ?_
    conv => whnf
    refine ⟨fun e1 => ?_, fun e1 => ?_⟩
    · have e1 : v.testBit j = true := by
        cases hb1 : v.testBit j with
        | true => rfl
        | false => exact absurd (hb.mpr hb1) e1
      conv => whnf
      refine ⟨wt_12 hw, ?_⟩
      conv => whnf
      rw [wr_12_0 hw]
      refine ⟨inB_of (wt_13 hw) (wn_13 hw) (by omega) (by decide), ?_⟩
      conv => whnf
      rw [nI_clamp (by omega), hH.1 j (by omega)]
      unfold spR at h0 h1
      rw [if_pos e1] at h0 h1
      refine bk_ne (b := 0) (by omega) (by decide) (fun c => ?_) (fun c => ?_)
      · rw [if_neg c] at h0 h1
        conv => whnf
        refine ⟨wt_12 hw, ?_⟩
        conv => whnf
        rw [wr_12_0 hw]
        refine ⟨inB_of (wt_13 hw) (wn_13 hw) (by omega) (by decide), ?_⟩
        conv => whnf
        rw [nI_clamp (by omega), hH.1 j (by omega)]
        refine ⟨wt_12 hw, ?_⟩
        conv => whnf
        rw [wr_12_1 hw]
        refine ⟨inB_of (wt_14 hw) (wn_14 hw) (by omega) (by decide), ?_⟩
        conv => whnf
        rw [nI_clamp (by omega), hH.2.1 j (by omega)]
        have next := ih (v ^^^ rows j) (s ^^^ src j) (by omega) (xor_lt hv hr) h0 h1
        rw [← zn_xor, ← zn_xor] at next
        exact next
      · rw [if_pos c] at h0 h1
        conv => whnf
        refine ⟨wt_12 hw, ?_⟩
        conv => whnf
        rw [wr_12_0 hw]
        refine ⟨⟨by decide, inB_of (wt_13 hw) (wn_13 hw) (by omega) (by decide)⟩, ?_⟩
        conv => whnf
        refine ⟨wt_12 hw, ?_⟩
        conv => whnf
        rw [hR_sI, wr_12_1 hw]
        refine ⟨⟨by decide, inB_of (h := sI h 13 _ _) (wt_14 hw) (wn_14 hw) (by omega) (by decide)⟩, ?_⟩
        conv => whnf
        rw [nI_clamp (by omega)]
        exact ⟨Or.inr rfl, h1 j rfl⟩
    · have e1 := hb.mp e1
      conv => whnf
      unfold spR at h0 h1
      rw [e1, if_neg (by decide)] at h0 h1
      exact ih v s (by omega) hv h0 h1
theorem c_Span_add {P : PSem} (S : SysOK P) {h : PH} (hw : WS h) {rows src r : Nat → Nat} {cnt : Nat} (hS : SPI rows src r cnt) (hH : SPH h rows src cnt) (hc : cnt < 12) (hv : r cnt < 2 ^ 12) {K : PK}
    (hK : ∀ h' rows' src' b, eqX spA h h' → SPI rows' src' r (cnt + 1) → SPH h' rows' src' (cnt + 1) → (b = true ↔ ¬ spn r cnt (r cnt)) → K (.int (bI b)) h') : P.1 n_Span_add [.ref 12, .int (nI (r cnt))] h K := by
  refine S.2.1 _ 5 _ _ _ rfl rfl ?_
  refine S.at 40 [15] rfl ?_
  conv => whnf
  refine ⟨wt_12 hw, ?_⟩
  conv => whnf
  rw [hH.2.2]
  refine ⟨wt_12 hw, ?_⟩
  conv => whnf
  refine ⟨wt_12 hw, ?_⟩
  conv => whnf
  rw [shl_one (by omega)]
  refine S.mk [(0,1),(0,0),(0,1),(0,1),(0,1)] ?_
  have hH' : SPH (sI h 12 2 (nI (cnt + 1))) rows src (cnt + 1) := ⟨fun k hk => by rw [hI_sI_ne (by decide)]; exact hH.1 k hk, fun k hk => by rw [hI_sI_ne (by decide)]; exact hH.2.1 k hk, hI_sI⟩
  have e0 : eqX spA h (sI h 12 2 (nI (cnt + 1))) := eqX_sI (Or.inl rfl)
  have := l_Span_add (K := K) S (h := sI h 12 2 (nI (cnt + 1))) hw hS.1 hH' 12 (r cnt) (2 ^ cnt) (Nat.le_refl _) hv (fun e => by
      obtain ⟨a, b⟩ := hS.no hv e
      exact hK _ rows src false e0 a hH' ⟨fun q => (by cases q), fun q => absurd b q⟩) (fun i e => by
      obtain ⟨a, b, c⟩ := hS.yes hv e
      refine hK _ _ _ true (eqX_tr e0 (eqX_tr (eqX_sI (Or.inr (Or.inl rfl))) (eqX_sI (Or.inr (Or.inr rfl))))) b ⟨fun k hk => ?_, fun k hk => ?_, ?_⟩ ⟨fun _ => c, fun _ => rfl⟩
      · rw [hI_sI_ne (by decide : 13 ≠ 14)]
        by_cases hki : k = i
        · subst hki
          rw [hI_sI]
          exact congrArg nI (if_pos rfl).symm
        · rw [hI_sI_j hki]
          exact (hH'.1 k hk).trans (congrArg nI (if_neg hki).symm)
      · by_cases hki : k = i
        · subst hki
          rw [hI_sI]
          exact congrArg nI (if_pos rfl).symm
        · rw [hI_sI_j hki, hI_sI_ne (by decide : 14 ≠ 13)]
          exact (hH'.2.1 k hk).trans (congrArg nI (if_neg hki).symm)
      · rw [hI_sI_ne (by decide), hI_sI_ne (by decide)]
        exact hH'.2.2)
  rw [zn_plus cnt 1] at this
  exact this
theorem l_Span_express {P : PSem} (S : SysOK P) {h : PH} (hw : WS h) {rows src : Nat → Nat} {c : Nat} (hs : shE rows) (hH : SPH h rows src c) {K : PK} : ∀ j v s, j ≤ 12 → v < 2 ^ 12 → ((spR rows src j v s).1 = 0 → K (.int (nI (spR rows src j v s).2.2)) h) → ((spR rows src j v s).1 ≠ 0 → K (.int (-1)) h) →
    P.2 n_Span_express 6 [some (.ref 12), none, some (.int (nI v)), some (.int (nI s)), some (.int (nI j + (-1)))] [] h 0 0 K := by
  intro j
  induction j with
  | zero =>
    intro v s hj hv h0 h1
    refine S.at 60 [] rfl ?_
    conv => whnf
    refine bk_t (neg1) ?_
    conv => whnf
    exact h0 rfl
  | succ j ih =>
    intro v s hj hv h0 h1
    rw [pk_m1]
    have hb := zn_bit0 (a := v) (k := j) (by omega) (by omega)
    have hr := shE_lt hs (show j < 12 by omega)
    refine S.at 60 [] rfl ?_
    conv => whnf
    refine bk_f (nI_pos (by omega)) ?_
    conv => whnf
    refine ⟨fun e1 => ?_, fun e1 => ?_⟩
    · have e1 : v.testBit j = true := by
        cases hb1 : v.testBit j with
        | true => rfl
        | false => exact absurd (hb.mpr hb1) e1
      conv => whnf
      refine ⟨wt_12 hw, ?_⟩
      conv => whnf
      rw [wr_12_0 hw]
      refine ⟨inB_of (wt_13 hw) (wn_13 hw) (by omega) (by decide), ?_⟩
      conv => whnf
      rw [nI_clamp (by omega), hH.1 j (by omega)]
      unfold spR at h0 h1
      rw [if_pos e1] at h0 h1
      refine bk_ne (b := 0) (by omega) (by decide) (fun c => ?_) (fun c => ?_)
      · rw [if_neg c] at h0 h1
        conv => whnf
        refine ⟨wt_12 hw, ?_⟩
        conv => whnf
        rw [wr_12_0 hw]
        refine ⟨inB_of (wt_13 hw) (wn_13 hw) (by omega) (by decide), ?_⟩
        conv => whnf
        rw [nI_clamp (by omega), hH.1 j (by omega)]
        refine ⟨wt_12 hw, ?_⟩
        conv => whnf
        rw [wr_12_1 hw]
        refine ⟨inB_of (wt_14 hw) (wn_14 hw) (by omega) (by decide), ?_⟩
        conv => whnf
        rw [nI_clamp (by omega), hH.2.1 j (by omega)]
        have next := ih (v ^^^ rows j) (s ^^^ src j) (by omega) (xor_lt hv hr) h0 h1
        rw [← zn_xor, ← zn_xor] at next
        exact next
      · rw [if_pos c] at h1
        conv => whnf
        exact h1 (Nat.succ_ne_zero j)
    · have e1 := hb.mp e1
      conv => whnf
      unfold spR at h0 h1
      rw [e1, if_neg (by decide)] at h0 h1
      exact ih v s (by omega) hv h0 h1
theorem c_Span_express {P : PSem} (S : SysOK P) {h : PH} (hw : WS h) {rows src r : Nat → Nat} {cnt v : Nat} (hS : SPI rows src r cnt) (hH : SPH h rows src cnt) (hv : v < 2 ^ 12) {K : PK}
    (hY : ∀ s, s < 2 ^ cnt → cmb r cnt s = v → K (.int (nI s)) h) (hN : ¬ spn r cnt v → K (.int (-1)) h) : P.1 n_Span_express [.ref 12, .int (nI v)] h K := by
  refine S.2.1 _ 5 _ _ _ rfl rfl ?_
  refine S.at 6 [] rfl ?_
  conv => whnf
  refine S.mk [(0,1),(0,0),(0,1),(0,1),(0,1)] ?_
  refine l_Span_express S hw hS.1 hH 12 v 0 (Nat.le_refl _) hv (fun e => ?_) (fun e => ?_)
  · rcases hS.ex hv with ⟨-, a, b⟩ | ⟨a, -⟩
    · exact hY _ a b
    · exact absurd e a
  · rcases hS.ex hv with ⟨a, -⟩ | ⟨-, a⟩
    · exact absurd a e
    · exact hN a
