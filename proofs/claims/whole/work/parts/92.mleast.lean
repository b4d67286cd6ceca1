/-! the reference: least polynomials; what cannot be split -/
def m147 (k : Nat) : Prop := k = 147
theorem m147_now {h h' : PH} (e : eqX m147 h h') : hI h' 125 = hI h 125 := e.2.2.2.2 125 (fun q => by unfold m147 at q; omega)
theorem l_M_lyI {P : PSem} (S : SysOK P) {h0 : PH} (hw0 : WS h0) {n m d a q b : Nat} {c : Nat → Nat} (hn : n ≤ 12) (hm : MDg n m) (hnow0 : hI h0 125 n = nI m) (hb : b < 2 ^ n) (hc : ∀ k, c k < 2 ^ n) (hq : q + 1 < 14) {K : PK}
    (hK : ∀ h', eqX m147 h0 h' → (∀ i, i ≤ q + 1 → hI h' 147 i = nI (mlX n m c b i)) → (∀ i, q + 1 < i → i < 14 → hI h' 147 i = nI (c i)) → P.2 n_M_laysLeast 55 [some (.ref 116), some (.int (nI n)), some (.int (nI d)), some (.int (nI a)), some (.int (nI q)), some (.int (nI b)), none, none] [] h' 0 0 K) : ∀ k h, k ≤ q + 2 → eqX m147 h0 h → (∀ i, k ≤ i → i ≤ q + 1 → hI h 147 i = nI (mlX n m c b i)) → (∀ i, i < k → i < 14 → hI h 147 i = nI (c i)) → (∀ i, q + 1 < i → i < 14 → hI h 147 i = nI (c i)) →
    P.2 n_M_laysLeast 28 [some (.ref 116), some (.int (nI n)), some (.int (nI d)), some (.int (nI a)), some (.int (nI q)), some (.int (nI b)), none, some (.int (nI k + (-1)))] [] h 0 0 K := by
  have h12 := pow12 hn
  intro k
  induction k with
  | zero =>
    intro h hk he h1 h2 h3
    refine S.at 60 [55] rfl ?_
    conv => whnf
    refine bk_t (neg1) ?_
    conv => whnf
    exact S.mk [(0, 1), (0, 1), (0, 1), (0, 1), (0, 1), (0, 1), (0, 0), (0, 0)] (hK h he (fun i a => h1 i (by omega) a) h3)
  | succ k ih =>
    intro h hk he h1 h2 h3
    rw [pk_m1]
    have hw := eqX_WS he hw0
    have hnow : hI h 125 n = nI m := by rw [m147_now he]; exact hnow0
    have fin : ∀ z, z < 2 ^ n → z ^^^ fm n m (c k) b = mlX n m c b k → P.2 n_M_laysLeast 43 [some (.ref 116), some (.int (nI n)), some (.int (nI d)), some (.int (nI a)), some (.int (nI q)), some (.int (nI b)), none, some (.int (nI k))] [.int (nI z), .int (nI k), .ref 147] h 0 0 K := by
      intro z hz e
      refine S.at 60 [] rfl ?_
      conv => whnf
      refine ⟨wt_116 hw, ?_⟩
      conv => whnf
      rw [wr_116_47 hw]
      refine ⟨inB_of (wt_147 hw) (wn_147 hw) (by omega) (by decide), ?_⟩
      conv => whnf
      rw [nI_clamp (by omega), h2 k (by omega) (by omega)]
      refine ⟨wt_116 hw, ?_⟩
      conv => whnf
      refine c_M_product S hw hn hm hnow (hc k) hb ?_
      conv => whnf
      refine ⟨⟨by decide, inB_of (wt_147 hw) (wn_147 hw) (by omega) (by decide)⟩, ?_⟩
      rw [nI_clamp (by omega)]
      conv => whnf
      have next := ih (sI h 147 k (nI (mlX n m c b k))) (by omega) (eqX_tr he (eqX_sI rfl)) (fun i a b => by
        by_cases e : i = k
        · subst e
          exact hI_sI
        · rw [hI_sI_j e]
          exact h1 i (by omega) b) (fun i a b => by
        rw [hI_sI_j (by omega)]
        exact h2 i (by omega) b) (fun i a b => by
        rw [hI_sI_j (by omega)]
        exact h3 i a b)
      rw [← e, ← zn_xor] at next
      exact next
    refine S.at 60 [43] rfl ?_
    conv => whnf
    refine bk_f (nI_pos (by omega)) ?_
    conv => whnf
    refine ⟨wt_116 hw, ?_⟩
    conv => whnf
    rw [wr_116_47 hw]
    refine bk_le (b := 0) (by omega) (by decide) (fun c0 => ?_) (fun c0 => ?_)
    · conv => whnf
      have e : k = 0 := by omega
      refine fin 0 (Nat.two_pow_pos n) ?_
      unfold mlX
      rw [if_pos e]
    · conv => whnf
      refine ⟨wt_116 hw, ?_⟩
      conv => whnf
      rw [wr_116_47 hw]
      have e1 : (fun x y : Int32 => x - y) (nI k) 1 = nI (k - 1) := pk_sub (a := k) (b := 1) (by omega)
      rw [e1]
      refine ⟨inB_of (wt_147 hw) (wn_147 hw) (by omega) (by decide), ?_⟩
      conv => whnf
      rw [nI_clamp (by omega), h2 (k - 1) (by omega) (by omega)]
      conv => whnf
      refine fin (c (k - 1)) (hc _) ?_
      unfold mlX
      rw [if_neg (by omega)]
theorem l_M_lyO {P : PSem} (S : SysOK P) {h0 : PH} (hw0 : WS h0) {n m d a : Nat} (hn : n ≤ 12) (hG : GF n m) (hnow0 : hI h0 125 n = nI m) (hd : d ∣ n) (ha : a < 2 ^ n) {K : PK}
    (hK : ∀ h', eqX m147 h0 h' → (∀ i, i < 14 → hI h' 147 i = nI (lpD n m d a i)) → K (.int (nI (dgO n m d a))) h') : ∀ j q h, q + (j + 1) = dgO n m d a → eqX m147 h0 h → (∀ i, i < 14 → hI h 147 i = nI (lpS n m (cjd n m d a) q i)) →
    P.2 n_M_laysLeast 22 [some (.ref 116), some (.int (nI n)), some (.int (nI d)), some (.int (nI a)), some (.int (nI q)), some (.int (nI (cjd n m d a q))), some (.int 1), none] [] h 0 0 K := by
  have h12 := pow12 hn
  have hm := hG.1.1
  have hdn := Nat.le_of_dvd hm.1 hd
  obtain ⟨d1, d2, d3, d4⟩ := dgO_ok hG hd ha
  have d5 : n / d ≤ n := Nat.div_le_self _ _
  have hs := cjd_lt (d := d) hm ha
  intro j
  induction j with
  | zero =>
    intro q h hq he hh
    refine S.at 60 [28] rfl ?_
    conv => whnf
    refine bk_f ((by decide)) ?_
    conv => whnf
    have hc := lpS_lt hm hs q
    refine p2c (pl' := [some (.ref 116), some (.int (nI n)), some (.int (nI d)), some (.int (nI a)), some (.int (nI q)), some (.int (nI (cjd n m d a q))), some (.int 1), some (.int (nI (q + 2) + (-1)))]) (by rw [pk_m1, ← nI_1]; rfl) ?_
    refine S.mk [(0,1),(0,1),(0,1),(0,1),(0,1),(0,1),(0,0),(0,1)] ?_
    refine l_M_lyI (c := lpS n m (cjd n m d a) q) S hw0 hn hm hnow0 (hs q) hc (by omega) (fun h' a1 a2 a3 => ?_) (q + 2) h (Nat.le_refl _) he (fun i i1 i2 => by omega) (fun i i1 i2 => hh i i2) (fun i i1 i2 => hh i i2)
    have hw' := eqX_WS a1 hw0
    have hnow : hI h' 125 n = nI m := by rw [m147_now a1]; exact hnow0
    refine S.at 60 [22] rfl ?_
    conv => whnf
    refine ⟨wt_116 hw', ?_⟩
    conv => whnf
    refine c_M_squared S hw' hn (by omega) hm hnow (hs q) ?_
    conv => whnf
    have e1 : sqn n m d (cjd n m d a q) = a := by
      rw [cjd_sq]
      unfold cjd
      rw [show q + 1 = dgO n m d a by omega]
      exact d3
    rw [e1]
    refine bk_t (rfl) ?_
    conv => whnf
    refine S.at 60 [] rfl ?_
    conv => whnf
    refine bk_t (rfl) ?_
    conv => whnf
    have := hK h' a1 (fun i hi => by
      unfold lpD
      rw [← hq]
      show _ = nI (mlX n m (lpS n m (cjd n m d a) q) (cjd n m d a q) i)
      rcases Nat.lt_or_ge (q + 1) i with w | w
      · rw [a3 i w hi]
        unfold mlX
        rw [if_neg (by omega), lpS_z hm hs q i (by omega), lpS_z hm hs q (i - 1) (by omega), fm_0l hm (hs q)]
        rfl
      · exact a2 i w)
    rw [← hq] at this
    rw [nI_1]
    exact this
  | succ j ih =>
    intro q h hq he hh
    refine S.at 60 [28] rfl ?_
    conv => whnf
    refine bk_f ((by decide)) ?_
    conv => whnf
    have hc := lpS_lt hm hs q
    refine p2c (pl' := [some (.ref 116), some (.int (nI n)), some (.int (nI d)), some (.int (nI a)), some (.int (nI q)), some (.int (nI (cjd n m d a q))), some (.int 1), some (.int (nI (q + 2) + (-1)))]) (by rw [pk_m1, ← nI_1]; rfl) ?_
    refine S.mk [(0,1),(0,1),(0,1),(0,1),(0,1),(0,1),(0,0),(0,1)] ?_
    refine l_M_lyI (c := lpS n m (cjd n m d a) q) S hw0 hn hm hnow0 (hs q) hc (by omega) (fun h' a1 a2 a3 => ?_) (q + 2) h (Nat.le_refl _) he (fun i i1 i2 => by omega) (fun i i1 i2 => hh i i2) (fun i i1 i2 => hh i i2)
    have hw' := eqX_WS a1 hw0
    have hnow : hI h' 125 n = nI m := by rw [m147_now a1]; exact hnow0
    refine S.at 60 [22] rfl ?_
    conv => whnf
    refine ⟨wt_116 hw', ?_⟩
    conv => whnf
    refine c_M_squared S hw' hn (by omega) hm hnow (hs q) ?_
    conv => whnf
    have hne : cjd n m d a (q + 1) ≠ a := d4 (q + 1) (by omega) (by omega)
    have hs1 := hs (q + 1)
    rw [cjd_sq]
    refine bk_f (fun c => absurd ((zn_eq (by omega) (by omega)).mp c) (by omega)) ?_
    conv => whnf
    have next := ih (q + 1) h' (by omega) a1 (fun i hi => by
      show _ = nI (mlX n m (lpS n m (cjd n m d a) q) (cjd n m d a q) i)
      rcases Nat.lt_or_ge (q + 1) i with w | w
      · rw [a3 i w hi]
        unfold mlX
        rw [if_neg (by omega), lpS_z hm hs q i (by omega), lpS_z hm hs q (i - 1) (by omega), fm_0l hm (hs q)]
        rfl
      · exact a2 i w)
    rw [← nI_1 q] at next
    exact next
theorem l_M_ly0 {P : PSem} (S : SysOK P) {h0 : PH} (hw0 : WS h0) {n d a : Nat} {K : PK}
    (hK : ∀ h', eqX m147 h0 h' → (∀ i, i < 14 → hI h' 147 i = nI (dlt i)) → P.2 n_M_laysLeast 20 [some (.ref 116), some (.int (nI n)), some (.int (nI d)), some (.int (nI a)), some (.int (nI 0)), some (.int (nI a)), none, none] [] h' 0 0 K) : ∀ j q h, q + j = 14 → eqX m147 h0 h → (∀ i, i < q → hI h 147 i = nI (dlt i)) →
    P.2 n_M_laysLeast 6 [some (.ref 116), some (.int (nI n)), some (.int (nI d)), some (.int (nI a)), some (.int (nI 0)), some (.int (nI a)), some (.int (nI q)), none] [] h 0 0 K := by
  intro j
  induction j with
  | zero =>
    intro q h hq he hh
    refine S.at 60 [20] rfl ?_
    conv => whnf
    refine bk_t ((zn_le (a := 14) (by omega) (by omega)).mpr (by omega)) ?_
    conv => whnf
    exact S.mk [(0, 1), (0, 1), (0, 1), (0, 1), (0, 1), (0, 1), (0, 0), (0, 0)] (hK h he (fun i hi => hh i (by omega)))
  | succ j ih =>
    intro q h hq he hh
    have hw := eqX_WS he hw0
    have st : ∀ v, v = nI (dlt q) → P.2 n_M_laysLeast 17 [some (.ref 116), some (.int (nI n)), some (.int (nI d)), some (.int (nI a)), some (.int (nI 0)), some (.int (nI a)), some (.int (nI q)), none] [.int v, .int (nI q), .ref 147] h 0 0 K := by
      intro v hv
      refine S.at 60 [20] rfl ?_
      conv => whnf
      refine ⟨⟨by decide, inB_of (wt_147 hw) (wn_147 hw) (by omega) (by decide)⟩, ?_⟩
      rw [nI_clamp (by omega)]
      conv => whnf
      have next := ih (q + 1) (sI h 147 q v) (by omega) (eqX_tr he (eqX_sI rfl)) (fun i hi => by
        by_cases e : i = q
        · subst e
          rw [hI_sI, hv]
        · rw [hI_sI_j e]
          exact hh i (by omega))
      rw [← nI_1 q] at next
      exact next
    refine S.at 60 [17, 20] rfl ?_
    conv => whnf
    refine bk_f (fun c => absurd ((zn_le (a := 14) (by omega) (by omega)).mp c) (by omega)) ?_
    conv => whnf
    refine ⟨wt_116 hw, ?_⟩
    conv => whnf
    rw [wr_116_47 hw]
    refine bk_ne (b := 0) (by omega) (by decide) (fun c => ?_) (fun c => ?_)
    · conv => whnf
      exact st 0 (by rw [show dlt q = 0 from if_neg c]; rfl)
    · conv => whnf
      exact st 1 (by rw [show dlt q = 1 from if_pos c]; rfl)
theorem c_M_laysLeast {P : PSem} (S : SysOK P) {h : PH} (hw : WS h) {n m d a : Nat} (hn : n ≤ 12) (hG : GF n m) (hnow : hI h 125 n = nI m) (hd : d ∣ n) (ha : a < 2 ^ n) {K : PK}
    (hK : ∀ h', eqX m147 h h' → (∀ i, i < 14 → hI h' 147 i = nI (lpD n m d a i)) → K (.int (nI (dgO n m d a))) h') : P.1 n_M_laysLeast [.ref 116, .int (nI n), .int (nI d), .int (nI a)] h K := by
  obtain ⟨d1, d2, d3, d4⟩ := dgO_ok hG hd ha
  refine S.2.1 _ 8 _ _ _ rfl rfl ?_
  refine S.at 6 [] rfl ?_
  conv => whnf
  refine l_M_ly0 S hw (fun h' a1 a2 => ?_) 14 0 h rfl (eqX_rf _ _) (fun i hi => by omega)
  refine S.at 2 [] rfl ?_
  conv => whnf
  exact l_M_lyO S hw hn hG hnow hd ha hK (dgO n m d a - 1) 0 h' (by omega) a1 a2
/-! the table of the reference: what is split -/
def SPL (h : PH) : Prop := ∀ p, 2 ≤ p → p < 8192 → hI h 124 p = bI (!irrT.testBit p)
theorem c_M_isWhole {P : PSem} (S : SysOK P) {h : PH} (hw : WS h) (hs : SPL h) (v : Int32) {K : PK} (hK : K (.int (bI (decide ((2 : Int32) ≤ v ∧ v ≤ 8191) && irrT.testBit v.toNatClampNeg))) h) : P.1 n_M_isWhole [.ref 116, .int v] h K := by
  refine S.go 60 rfl rfl rfl ?_
  conv => whnf
  refine c_M_in S _ _ _ ?_
  conv => whnf
  refine bk_b0 (fun c => ?_) (fun c => ?_)
  · conv => whnf
    rw [c] at hK
    exact ⟨Or.inl rfl, hK⟩
  · rw [c, Bool.true_and] at hK
    have c := of_decide_eq_true c
    obtain ⟨p, rfl, p1, p2⟩ : ∃ p : Nat, v = nI p ∧ 2 ≤ p ∧ p < 8192 := by
      rcases pk_ix v (n := 8192) (by decide) with w | w | ⟨j, hj, w⟩
      · exact absurd (Int32.lt_of_le_of_lt c.1 w) (by decide)
      · exact absurd (Int32.le_trans w c.2) (by decide)
      · subst w
        exact ⟨j, rfl, (zn_le (a := 2) (by decide) (by omega)).mp c.1, hj⟩
    rw [nI_clamp (by omega)] at hK
    conv => whnf
    refine ⟨wt_116 hw, ?_⟩
    conv => whnf
    rw [wr_116_17 hw]
    refine ⟨Or.inr (inB_of (wt_124 hw) (wn_124 hw) (by omega) (by decide)), ?_⟩
    rw [nI_clamp (by omega), hs p p1 p2]
    cases hb : irrT.testBit p with
    | true =>
      rw [hb] at hK
      refine bk_nf (rfl) ?_
      conv => whnf
      exact ⟨Or.inr rfl, hK⟩
    | false =>
      rw [hb] at hK
      refine bk_nt ((by decide)) ?_
      conv => whnf
      exact ⟨Or.inl rfl, hK⟩
theorem lm_least : (List.range 12).all (fun n => (List.range 32).all (fun i => Nat.ble (lm (n + 1)) (2 ^ (n + 1) + i) || !irrT.testBit (2 ^ (n + 1) + i)) && Nat.ble (lm (n + 1)) (2 ^ (n + 1) + 32)) = true := by decide +kernel
theorem lm_min {n p : Nat} (hn1 : 1 ≤ n) (hn : n ≤ 12) (h1 : 2 ^ n ≤ p) (h2 : p < lm n) : irrT.testBit p = false := by
  have h := List.all_eq_true.mp lm_least (n - 1) (List.mem_range.mpr (by omega))
  rw [show n - 1 + 1 = n by omega, Bool.and_eq_true, Nat.ble_eq] at h
  have := List.all_eq_true.mp h.1 (p - 2 ^ n) (List.mem_range.mpr (by omega))
  rw [show 2 ^ n + (p - 2 ^ n) = p by omega, Bool.or_eq_true, Nat.ble_eq] at this
  rcases this with w | w
  · omega
  · simpa using w
theorem lm_T {n : Nat} (hn1 : 1 ≤ n) (hn : n ≤ 12) : irrT.testBit (lm n) = true := by
  have hM := lm_MOD hn1 hn
  have := MOD_lt hn hM.1
  exact irr_T this.1 this.2 hM.2
theorem l_M_lw {P : PSem} (S : SysOK P) {h : PH} (hw : WS h) (hs : SPL h) {n : Nat} (hn1 : 1 ≤ n) (hn : n ≤ 12) {K : PK} (hK : K (.int (nI (lm n))) h) : ∀ j q, q + j = lm n → 2 ^ n ≤ q →
    P.2 n_M_leastWhole 4 [some (.ref 116), none, some (.int (nI q))] [] h 0 0 K := by
  have hM := lm_MOD hn1 hn
  have hl := MOD_lt hn hM.1
  have h2 := two_pow_ge2 hn1
  intro j
  induction j with
  | zero =>
    intro q hq hq1
    have e : q = lm n := by omega
    refine S.at 60 [] rfl ?_
    conv => whnf
    refine ⟨wt_116 hw, ?_⟩
    conv => whnf
    rw [wr_116_17 hw]
    refine ⟨Or.inr (inB_of (wt_124 hw) (wn_124 hw) (by omega) (by decide)), ?_⟩
    rw [nI_clamp (by omega), hs q (by omega) (by omega), e, lm_T hn1 hn]
    refine bk_t (rfl) ?_
    conv => whnf
    exact hK
  | succ j ih =>
    intro q hq hq1
    refine S.at 60 [] rfl ?_
    conv => whnf
    refine ⟨wt_116 hw, ?_⟩
    conv => whnf
    rw [wr_116_17 hw]
    refine ⟨Or.inr (inB_of (wt_124 hw) (wn_124 hw) (by omega) (by decide)), ?_⟩
    rw [nI_clamp (by omega), hs q (by omega) (by omega), lm_min hn1 hn hq1 (by omega)]
    refine bk_f ((by decide)) ?_
    conv => whnf
    have next := ih (q + 1) (by omega) (by omega)
    rw [← nI_1] at next
    exact next
theorem c_M_leastWhole {P : PSem} (S : SysOK P) {h : PH} (hw : WS h) (hs : SPL h) {n : Nat} (hn1 : 1 ≤ n) (hn : n ≤ 12) {K : PK} (hK : K (.int (nI (lm n))) h) : P.1 n_M_leastWhole [.ref 116, .int (nI n)] h K := by
  have hM := lm_MOD hn1 hn
  refine S.2.1 _ 3 _ _ _ rfl rfl ?_
  refine S.at 4 [] rfl ?_
  conv => whnf
  rw [shl_one hn]
  refine S.mk [(0,1),(0,0),(0,1)] ?_
  exact l_M_lw S hw hs hn1 hn hK (lm n - 2 ^ n) (2 ^ n) (by have := hM.1.2.1; omega) (Nat.le_refl _)
