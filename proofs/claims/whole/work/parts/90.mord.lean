/-! the reference: orders, logarithms, degrees, conjugates, traces -/
theorem l_M_orderOf {P : PSem} (S : SysOK P) {h : PH} (hw : WS h) {n m a : Nat} (hn : n ≤ 12) (hm : MDg n m) (hnow : hI h 125 n = nI m) (ha : a < 2 ^ n) {o : Nat} (ho : isOrd n m a o) {K : PK} (hK : K (.int (nI o)) h) : ∀ j q, q + j = o → 1 ≤ q →
    P.2 n_M_orderOf 4 [some (.ref 116), some (.int (nI n)), some (.int (nI a)), some (.int (nI q)), some (.int (nI (fpw n m a q)))] [] h 0 0 K := by
  have h12 := pow12 hn
  intro j
  induction j with
  | zero =>
    intro q hq hq1
    have e : q = o := by omega
    subst e
    refine S.at 60 [] rfl ?_
    conv => whnf
    rw [ho.2.1]
    refine bk_t (rfl) ?_
    conv => whnf
    exact hK
  | succ j ih =>
    intro q hq hq1
    have hp := fpw_lt hm ha q
    refine S.at 60 [] rfl ?_
    conv => whnf
    refine bk_f (fun c => ho.2.2 q hq1 (by omega) ((zn_eq (b := 1) (by omega) (by decide)).mp c)) ?_
    conv => whnf
    refine ⟨wt_116 hw, ?_⟩
    conv => whnf
    refine c_M_product S hw hn hm hnow hp ha ?_
    conv => whnf
    have next := ih (q + 1) (by omega) (by omega)
    rw [← nI_1] at next
    exact next
theorem c_M_orderOf {P : PSem} (S : SysOK P) {h : PH} (hw : WS h) {n m a : Nat} (hn : n ≤ 12) (hG : GF n m) (hnow : hI h 125 n = nI m) (ha : a < 2 ^ n) (h0 : a ≠ 0) {K : PK} (hK : K (.int (nI (ordF n m a))) h) : P.1 n_M_orderOf [.ref 116, .int (nI n), .int (nI a)] h K := by
  have ho := (ordF_ok hG ha h0).1
  refine S.2.1 _ 5 _ _ _ rfl rfl ?_
  refine S.at 4 [] rfl ?_
  conv => whnf
  have := l_M_orderOf S hw hn hG.1.1 hnow ha ho hK (ordF n m a - 1) 1 (by have := ho.1; omega) (Nat.le_refl 1)
  rw [fpw_1 hG.1.1 ha] at this
  exact this
theorem shl_m1 {n : Nat} (hn : n ≤ 12) : i_shl 1 (nI n) - 1 = nI (2 ^ n - 1) := by
  rw [shl_one hn]
  exact pk_sub (b := 1) (Nat.two_pow_pos n)
theorem c_M_isPrimitive {P : PSem} (S : SysOK P) {h : PH} (hw : WS h) {n m a : Nat} (hn : n ≤ 12) (hG : GF n m) (hnow : hI h 125 n = nI m) (ha : a < 2 ^ n) {K : PK} (hK : K (.int (bI (decide (a ≠ 0) && (ordF n m a == 2 ^ n - 1)))) h) : P.1 n_M_isPrimitive [.ref 116, .int (nI n), .int (nI a)] h K := by
  have h12 := pow12 hn
  refine S.go 60 rfl rfl rfl ?_
  conv => whnf
  refine bk_le (b := 0) (by omega) (by decide) (fun c => ?_) (fun c => ?_)
  · conv => whnf
    rw [decide_eq_false (by omega)] at hK
    exact ⟨Or.inl rfl, hK⟩
  · conv => whnf
    rw [decide_eq_true (by omega), Bool.true_and] at hK
    refine ⟨wt_116 hw, ?_⟩
    conv => whnf
    refine c_M_orderOf S hw hn hG hnow ha (by omega) ?_
    conv => whnf
    have ho := (ordF_ok hG ha (by omega)).2
    have e : (fun x y : Int32 => x - y) (i_shl 1 (nI n)) 1 = nI (2 ^ n - 1) := shl_m1 hn
    rw [e]
    refine bk_ne (by omega) (by omega) (fun c => ?_) (fun c => ?_)
    · conv => whnf
      rw [beq_eq_false_iff_ne.mpr c] at hK
      exact ⟨Or.inl rfl, hK⟩
    · conv => whnf
      rw [beq_iff_eq.mpr c] at hK
      exact ⟨Or.inr rfl, hK⟩
theorem l_M_lp {P : PSem} (S : SysOK P) {h : PH} (hw : WS h) {n m : Nat} (hn : n ≤ 12) (hM : MOD n m) (hnow : hI h 125 n = nI m) {K : PK} (hK : K (.int (nI (lpF n m))) h) : ∀ j q, q + j = lpF n m → 1 ≤ q →
    P.2 n_M_leastPrimitive 2 [some (.ref 116), some (.int (nI n)), some (.int (nI q))] [] h 0 0 K := by
  obtain ⟨l1, l2, l3, l4⟩ := lpF_ok hn hM
  have hG := all_GF hn hM
  intro j
  induction j with
  | zero =>
    intro q hq hq1
    have e : q = lpF n m := by omega
    subst e
    refine S.at 60 [] rfl ?_
    conv => whnf
    refine ⟨wt_116 hw, ?_⟩
    conv => whnf
    refine c_M_isPrimitive S hw hn hG hnow l2 ?_
    conv => whnf
    rw [l3, decide_eq_true (by omega), beq_self_eq_true]
    refine bk_nt ((by decide)) ?_
    conv => whnf
    exact hK
  | succ j ih =>
    intro q hq hq1
    refine S.at 60 [] rfl ?_
    conv => whnf
    refine ⟨wt_116 hw, ?_⟩
    conv => whnf
    refine c_M_isPrimitive S hw hn hG hnow (by omega) ?_
    conv => whnf
    rw [beq_eq_false_iff_ne.mpr (l4 q hq1 (by omega)), Bool.and_false]
    refine bk_nf (rfl) ?_
    conv => whnf
    have next := ih (q + 1) (by omega) (by omega)
    rw [← nI_1] at next
    exact next
theorem c_M_leastPrimitive {P : PSem} (S : SysOK P) {h : PH} (hw : WS h) {n m : Nat} (hn : n ≤ 12) (hM : MOD n m) (hnow : hI h 125 n = nI m) {K : PK} (hK : K (.int (nI (lpF n m))) h) : P.1 n_M_leastPrimitive [.ref 116, .int (nI n)] h K := by
  obtain ⟨l1, l2, l3, l4⟩ := lpF_ok hn hM
  refine S.2.1 _ 3 _ _ _ rfl rfl ?_
  refine S.at 2 [] rfl ?_
  conv => whnf
  exact l_M_lp S hw hn hM hnow hK (lpF n m - 1) 1 (by omega) (Nat.le_refl 1)
theorem lgF_min {n m g a j : Nat} (h : j < lgF n m g a) : fpw n m g j ≠ a := by
  intro e
  have h1 := fnd_le (p := fun i => fpw n m g i == a) (2 ^ n - 1) 0
  have h1 : lgF n m g a ≤ 0 + (2 ^ n - 1) := h1
  obtain ⟨-, b, -⟩ := fnd_ok (p := fun i => fpw n m g i == a) (2 ^ n - 1) 0 j (Nat.zero_le _) (by omega) (beq_iff_eq.mpr e)
  have b : lgF n m g a ≤ j := b
  omega
theorem l_M_log {P : PSem} (S : SysOK P) {h : PH} (hw : WS h) {n m g a : Nat} (hn : n ≤ 12) (hM : MOD n m) (hp : prim n m g) (hnow : hI h 125 n = nI m) (ha : a < 2 ^ n) (h0 : a ≠ 0) {K : PK} (hK : K (.int (nI (lgF n m g a))) h) : ∀ j q, q + j = lgF n m g a →
    P.2 n_M_logarithm 8 [some (.ref 116), some (.int (nI n)), some (.int (nI a)), some (.int (nI g)), some (.int (nI q)), some (.int (nI (fpw n m g q)))] [] h 0 0 K := by
  have h12 := pow12 hn
  intro j
  induction j with
  | zero =>
    intro q hq
    have e : q = lgF n m g a := by omega
    subst e
    refine S.at 60 [] rfl ?_
    conv => whnf
    rw [(lgF_ok hM hp ha h0).2]
    refine bk_t (rfl) ?_
    conv => whnf
    exact hK
  | succ j ih =>
    intro q hq
    have hpl := fpw_lt hM.1 hp.1 q
    refine S.at 60 [] rfl ?_
    conv => whnf
    refine bk_f (fun c => lgF_min (by omega) ((zn_eq (by omega) (by omega)).mp c)) ?_
    conv => whnf
    refine ⟨wt_116 hw, ?_⟩
    conv => whnf
    refine c_M_product S hw hn hM.1 hnow hpl hp.1 ?_
    conv => whnf
    have next := ih (q + 1) (by omega)
    rw [← nI_1] at next
    exact next
theorem c_M_logarithm {P : PSem} (S : SysOK P) {h : PH} (hw : WS h) {n m a : Nat} (hn : n ≤ 12) (hM : MOD n m) (hnow : hI h 125 n = nI m) (ha : a < 2 ^ n) (h0 : a ≠ 0) {K : PK} (hK : K (.int (nI (lgF n m (lpF n m) a))) h) : P.1 n_M_logarithm [.ref 116, .int (nI n), .int (nI a)] h K := by
  refine S.2.1 _ 6 _ _ _ rfl rfl ?_
  refine S.at 30 [8] rfl ?_
  conv => whnf
  refine ⟨wt_116 hw, ?_⟩
  conv => whnf
  refine c_M_leastPrimitive S hw hn hM hnow ?_
  conv => whnf
  exact l_M_log S hw hn hM (lpF_prim hn hM) hnow ha h0 hK (lgF n m (lpF n m) a) 0 (by omega)
theorem l_M_degreeOf {P : PSem} (S : SysOK P) {h : PH} (hw : WS h) {n m a : Nat} (hn : n ≤ 12) (hG : GF n m) (hnow : hI h 125 n = nI m) (ha : a < 2 ^ n) {K : PK} (hK : K (.int (nI (dgO n m 1 a))) h) : ∀ j q, q + j = dgO n m 1 a → 1 ≤ q →
    P.2 n_M_degreeOf 2 [some (.ref 116), some (.int (nI n)), some (.int (nI a)), some (.int (nI q))] [] h 0 0 K := by
  have h12 := pow12 hn
  have hm := hG.1.1
  obtain ⟨d1, d2, d3, d4⟩ := dgO_ok hG (Nat.one_dvd n) ha
  rw [Nat.div_one] at d2
  rw [Nat.one_mul] at d3
  have d5 := dgO_n hG ha
  intro j
  induction j with
  | zero =>
    intro q hq hq1
    have e : q = dgO n m 1 a := by omega
    rw [← e] at d3 d5 hK
    refine S.at 60 [] rfl ?_
    conv => whnf
    refine ⟨nI_ne0 (by omega) (by omega), ?_⟩
    conv => whnf
    rw [i_rem_n (by omega) (by omega) (by omega), d5]
    refine bk_nf (rfl) ?_
    conv => whnf
    refine ⟨wt_116 hw, ?_⟩
    conv => whnf
    refine c_M_squared S hw hn (by omega) hm hnow ha ?_
    conv => whnf
    rw [d3]
    refine bk_t (rfl) ?_
    conv => whnf
    exact hK
  | succ j ih =>
    intro q hq hq1
    have next := ih (q + 1) (by omega) (by omega)
    rw [← nI_1] at next
    have hr : n % q < 13 := Nat.lt_of_le_of_lt (Nat.mod_le _ _) (by omega)
    have hs := sqn_lt hm q a ha
    refine S.at 60 [] rfl ?_
    conv => whnf
    refine ⟨nI_ne0 (by omega) (by omega), ?_⟩
    conv => whnf
    rw [i_rem_n (by omega) (by omega) (by omega)]
    refine bk_ne (b := 0) (by omega) (by decide) (fun c => ?_) (fun c => ?_)
    · conv => whnf
      exact next
    · conv => whnf
      refine ⟨wt_116 hw, ?_⟩
      conv => whnf
      refine c_M_squared S hw hn (by omega) hm hnow ha ?_
      conv => whnf
      refine bk_f (fun c => d4 q hq1 (by omega) (by rw [Nat.one_mul]; exact (zn_eq (by omega) (by omega)).mp c)) ?_
      conv => whnf
      exact next
theorem c_M_degreeOf {P : PSem} (S : SysOK P) {h : PH} (hw : WS h) {n m a : Nat} (hn : n ≤ 12) (hG : GF n m) (hnow : hI h 125 n = nI m) (ha : a < 2 ^ n) {K : PK} (hK : K (.int (nI (dgO n m 1 a))) h) : P.1 n_M_degreeOf [.ref 116, .int (nI n), .int (nI a)] h K := by
  obtain ⟨d1, d2, d3, d4⟩ := dgO_ok hG (Nat.one_dvd n) ha
  refine S.2.1 _ 4 _ _ _ rfl rfl ?_
  refine S.at 2 [] rfl ?_
  conv => whnf
  exact l_M_degreeOf S hw hn hG hnow ha hK (dgO n m 1 a - 1) 1 (by omega) (Nat.le_refl 1)
theorem l_M_lcj {P : PSem} (S : SysOK P) {h : PH} (hw : WS h) {n m : Nat} (hn : n ≤ 12) (hm : MDg n m) (hnow : hI h 125 n = nI m) {K : PK} : ∀ j q o l, q + j = n → o < 2 ^ n → l < 2 ^ n → K (.int (nI (lcj n m j o l))) h →
    P.2 n_M_leastConjugate 6 [some (.ref 116), some (.int (nI n)), none, some (.int (nI l)), some (.int (nI o)), some (.int (nI q))] [] h 0 0 K := by
  have h12 := pow12 hn
  intro j
  induction j with
  | zero =>
    intro q o l hq ho hl hK
    refine S.at 60 [] rfl ?_
    conv => whnf
    refine bk_t ((zn_le (by omega) (by omega)).mpr (by omega)) ?_
    conv => whnf
    exact hK
  | succ j ih =>
    intro q o l hq ho hl hK
    have hoo := fm_lt hm ho ho
    refine S.at 60 [] rfl ?_
    conv => whnf
    refine bk_f (fun c => absurd ((zn_le (by omega) (by omega)).mp c) (by omega)) ?_
    conv => whnf
    refine ⟨wt_116 hw, ?_⟩
    conv => whnf
    refine c_M_product S hw hn hm hnow ho ho ?_
    conv => whnf
    have next := ih (q + 1) (fm n m o o) (min l (fm n m o o)) (by omega) hoo (Nat.lt_of_le_of_lt (Nat.min_le_left _ _) hl) hK
    rw [← nI_1] at next
    refine bk_le (by omega) (by omega) (fun c => ?_) (fun c => ?_)
    · conv => whnf
      rw [Nat.min_eq_left c] at next
      exact next
    · conv => whnf
      rw [Nat.min_eq_right (by omega)] at next
      exact next
theorem c_M_leastConjugate {P : PSem} (S : SysOK P) {h : PH} (hw : WS h) {n m a : Nat} (hn : n ≤ 12) (hm : MDg n m) (hnow : hI h 125 n = nI m) (ha : a < 2 ^ n) {K : PK} (hK : K (.int (nI (lcj n m (n - 1) a a))) h) : P.1 n_M_leastConjugate [.ref 116, .int (nI n), .int (nI a)] h K := by
  refine S.2.1 _ 6 _ _ _ rfl rfl ?_
  refine S.at 6 [] rfl ?_
  conv => whnf
  refine S.mk [(0,1),(0,1),(0,0),(0,1),(0,1),(0,1)] ?_
  exact l_M_lcj S hw hn hm hnow (n - 1) 1 a a (by have := hm.1; omega) ha ha hK
theorem l_M_traceDown {P : PSem} (S : SysOK P) {h : PH} (hw : WS h) {n m : Nat} (hn : n ≤ 12) (hm : MDg n m) (hnow : hI h 125 n = nI m) {K : PK} : ∀ j q s o, q + j = n → o < 2 ^ n → s < 2 ^ n → K (.int (nI (s ^^^ trS n m 1 j o))) h →
    P.2 n_M_traceDown 6 [some (.ref 116), some (.int (nI n)), none, some (.int (nI s)), some (.int (nI o)), some (.int (nI q))] [] h 0 0 K := by
  have h12 := pow12 hn
  intro j
  induction j with
  | zero =>
    intro q s o hq ho hs hK
    refine S.at 60 [] rfl ?_
    conv => whnf
    refine bk_t ((zn_le (by omega) (by omega)).mpr (by omega)) ?_
    conv => whnf
    have hK : K (.int (nI (s ^^^ 0))) h := hK
    rw [Nat.xor_zero] at hK
    exact hK
  | succ j ih =>
    intro q s o hq ho hs hK
    refine S.at 60 [] rfl ?_
    conv => whnf
    refine bk_f (fun c => absurd ((zn_le (by omega) (by omega)).mp c) (by omega)) ?_
    conv => whnf
    refine ⟨wt_116 hw, ?_⟩
    conv => whnf
    refine c_M_product S hw hn hm hnow ho ho ?_
    conv => whnf
    have next := ih (q + 1) (s ^^^ o) (fm n m o o) (by omega) (fm_lt hm ho ho) (xor_lt hs ho) (by
      rw [Nat.xor_assoc]
      exact hK)
    rw [← nI_1, ← zn_xor] at next
    exact next
theorem c_M_traceDown {P : PSem} (S : SysOK P) {h : PH} (hw : WS h) {n m a : Nat} (hn : n ≤ 12) (hm : MDg n m) (hnow : hI h 125 n = nI m) (ha : a < 2 ^ n) {K : PK} (hK : K (.int (nI (tr1 n m a))) h) : P.1 n_M_traceDown [.ref 116, .int (nI n), .int (nI a)] h K := by
  refine S.2.1 _ 6 _ _ _ rfl rfl ?_
  refine S.at 6 [] rfl ?_
  conv => whnf
  refine S.mk [(0,1),(0,1),(0,0),(0,1),(0,1),(0,1)] ?_
  exact l_M_traceDown S hw hn hm hnow n 0 0 a (by omega) ha (Nat.two_pow_pos n) (by rw [Nat.zero_xor]; exact hK)
theorem l_M_isDual {P : PSem} (S : SysOK P) {h : PH} (hw : WS h) {n m b c : Nat} (hn : n ≤ 12) (hG : GF n m) (hnow : hI h 125 n = nI m) (hb : b < 2 ^ n) (hc : c < 2 ^ n) {K : PK} (hK : K (.int (bI (trv n m b c n == 1))) h) : ∀ j q, q + j = n → (∀ i, i < q → tr1 n m (fm n m c (sqn n m i b)) = if i = 0 then 1 else 0) →
    P.2 n_M_isDual 4 [some (.ref 116), some (.int (nI n)), none, some (.int (nI c)), some (.int (nI (sqn n m q b))), some (.int (nI q))] [] h 0 0 K := by
  have h12 := pow12 hn
  have hm := hG.1.1
  intro j
  induction j with
  | zero =>
    intro q hq hs
    have e : q = n := by omega
    subst e
    refine S.at 60 [] rfl ?_
    conv => whnf
    refine bk_t ((zn_le (by omega) (by omega)).mpr (by omega)) ?_
    conv => whnf
    have : trv q m b c q = 1 := (trv_1 hG hb hc).mpr hs
    rw [this] at hK
    exact ⟨Or.inr rfl, hK⟩
  | succ j ih =>
    intro q hq hs
    have hsq := sqn_lt hm q b hb
    have hcs := fm_lt hm hc hsq
    have t01 := tr1_01 hG hcs
    have go : tr1 n m (fm n m c (sqn n m q b)) = (if q = 0 then 1 else 0) → P.2 n_M_isDual 23 [some (.ref 116), some (.int (nI n)), none, some (.int (nI c)), some (.int (nI (sqn n m q b))), some (.int (nI q))] [] h 0 0 K := by
      intro hq2
      have next := ih (q + 1) (by omega) (fun i hi => by
        rcases Nat.eq_or_lt_of_le (Nat.le_of_lt_succ hi) with w | w
        · subst w
          exact hq2
        · exact hs i w)
      rw [← nI_1, sqn_succ] at next
      refine S.at 60 [] rfl ?_
      conv => whnf
      refine ⟨wt_116 hw, ?_⟩
      conv => whnf
      refine c_M_product S hw hn hm hnow hsq hsq ?_
      conv => whnf
      exact next
    have no : tr1 n m (fm n m c (sqn n m q b)) ≠ (if q = 0 then 1 else 0) → K (.int 0) h := by
      intro hq2
      have : (trv n m b c n == 1) = false := beq_eq_false_iff_ne.mpr (fun z => hq2 ((trv_1 hG hb hc).mp z q (by omega)))
      rw [this] at hK
      exact hK
    refine S.at 60 [23] rfl ?_
    conv => whnf
    refine bk_f (fun c => absurd ((zn_le (by omega) (by omega)).mp c) (by omega)) ?_
    conv => whnf
    refine ⟨wt_116 hw, ?_⟩
    conv => whnf
    refine c_M_product S hw hn hm hnow hc hsq ?_
    conv => whnf
    refine ⟨wt_116 hw, ?_⟩
    conv => whnf
    refine c_M_traceDown S hw hn hm hnow hcs ?_
    conv => whnf
    refine bk_ne (b := 0) (by omega) (by decide) (fun c0 => ?_) (fun c0 => ?_)
    · rw [if_neg c0] at go no
      conv => whnf
      refine bk_eq (b := 0) (by omega) (by decide) (fun c1 => ?_) (fun c1 => ?_)
      · conv => whnf
        exact go c1
      · conv => whnf
        exact ⟨Or.inl rfl, no c1⟩
    · rw [if_pos c0] at go no
      conv => whnf
      refine bk_eq (b := 1) (by omega) (by decide) (fun c1 => ?_) (fun c1 => ?_)
      · conv => whnf
        exact go c1
      · conv => whnf
        exact ⟨Or.inl rfl, no c1⟩
theorem c_M_isDual {P : PSem} (S : SysOK P) {h : PH} (hw : WS h) {n m b c : Nat} (hn : n ≤ 12) (hG : GF n m) (hnow : hI h 125 n = nI m) (hb : b < 2 ^ n) (hc : c < 2 ^ n) {K : PK} (hK : K (.int (bI (trv n m b c n == 1))) h) : P.1 n_M_isDual [.ref 116, .int (nI n), .int (nI b), .int (nI c)] h K := by
  refine S.2.1 _ 6 _ _ _ rfl rfl ?_
  refine S.at 4 [] rfl ?_
  conv => whnf
  refine S.mk [(0,1),(0,1),(0,0),(0,1),(0,1),(0,1)] ?_
  exact l_M_isDual S hw hn hG hnow hb hc hK n 0 (by omega) (fun i hi => by omega)
/-! lowered -/
theorem l_M_low {P : PSem} (S : SysOK P) {h : PH} (hw : WS h) {n d m x a : Nat} (hn : n ≤ 12) (hd1 : 1 ≤ d) (hd : d ≤ 12) (hm : MDg n m) (hnow : hI h 125 n = nI m) (hx : hI h 144 (13 * d + n) = nI x) (hxl : x < 2 ^ n) (ha : a < 2 ^ n) {K : PK} (hY : ∀ v, v < 2 ^ d → pvl n m x v = a → K (.int (nI v)) h) (hN : (∀ v, v < 2 ^ d → pvl n m x v ≠ a) → K (.int (-1)) h) : ∀ j q, q + j = 2 ^ d → (∀ v, v < q → pvl n m x v ≠ a) →
    P.2 n_M_lowered 11 [some (.ref 116), some (.int (nI n)), some (.int (nI d)), some (.int (nI a)), some (.int (nI q))] [] h 0 0 K := by
  have h12 := pow12 hn
  have hd12 := pow12 hd
  intro j
  induction j with
  | zero =>
    intro q hq hs
    refine S.at 60 [] rfl ?_
    conv => whnf
    rw [shl_one hd]
    refine bk_t ((zn_le (by omega) (by omega)).mpr (by omega)) ?_
    conv => whnf
    exact hN (fun v hv => hs v (by omega))
  | succ j ih =>
    intro q hq hs
    have hv := pvl_lt hm hxl (p := q)
    refine S.at 60 [] rfl ?_
    conv => whnf
    rw [shl_one hd]
    refine bk_f (fun c => absurd ((zn_le (by omega) (by omega)).mp c) (by omega)) ?_
    conv => whnf
    refine ⟨wt_116 hw, ?_⟩
    conv => whnf
    refine c_M_up S hw hn hd1 hd hm hnow hx hxl (by omega) ?_
    conv => whnf
    refine bk_ne (by omega) (by omega) (fun c => ?_) (fun c => ?_)
    · conv => whnf
      have next := ih (q + 1) (by omega) (fun v hv => by
        rcases Nat.eq_or_lt_of_le (Nat.le_of_lt_succ hv) with w | w
        · subst w
          exact c
        · exact hs v w)
      rw [← nI_1] at next
      exact next
    · conv => whnf
      exact hY q (by omega) c
theorem c_M_lowered {P : PSem} (S : SysOK P) {h : PH} (hw : WS h) {n d m p x a : Nat} (hn : n ≤ 12) (hd : d ≤ 12) (hP : GF d p) (hm : MDg n m) (hnow : hI h 125 n = nI m) (hx : hI h 144 (13 * d + n) = nI x) (hxr : root n m p x) (ha : a < 2 ^ n) {K : PK} (hY : ∀ v, v < 2 ^ d → pvl n m x v = a → K (.int (nI v)) h) (hN : (∀ v, v < 2 ^ d → pvl n m x v ≠ a) → K (.int (-1)) h) : P.1 n_M_lowered [.ref 116, .int (nI n), .int (nI d), .int (nI a)] h K := by
  have h12 := pow12 hn
  have hs := sqn_lt hm d a ha
  refine S.2.1 _ 5 _ _ _ rfl rfl ?_
  refine S.at 60 [11] rfl ?_
  conv => whnf
  refine ⟨wt_116 hw, ?_⟩
  conv => whnf
  refine c_M_squared S hw hn (by omega) hm hnow ha ?_
  conv => whnf
  refine bk_eq (by omega) (by omega) (fun c => ?_) (fun c => ?_)
  · conv => whnf
    exact l_M_low S hw hn hP.1.1.1 hd hm hnow hx hxr.1 ha hY hN (2 ^ d) 0 (by omega) (fun v hv => by omega)
  · conv => whnf
    exact hN (fun v hv e => c (by rw [← e]; exact img_fix hP hm hxr hv))
