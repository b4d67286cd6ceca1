/-! duals; squares solved -/
theorem l_Spc_tw {P : PSem} (S : SysOK P) {h0 : PH} (hw0 : WS h0) {n m b c : Nat} (hn1 : 1 ≤ n) (hn : n ≤ 12) (hF0 : FOK h0 (27 + 4 * n) n m) (hG : GF n m) (hb : b < 2 ^ n) (hc : c < 2 ^ n) {K : PK} (hK : K (.int (nI (trv n m b c n))) (sI h0 (30 + 4 * n) 2 (nI (tbF n m)))) : ∀ j q h, q + j = n → (h = sI h0 (30 + 4 * n) 2 (nI (tbF n m)) ∨ (1 ≤ j ∧ h = h0 ∧ (hI h0 (30 + 4 * n) 2 = 0 ∨ hI h0 (30 + 4 * n) 2 = nI (tbF n m)))) →
    P.2 n_Space_tracesWith 6 [some (.ref (30 + 4 * n)), some (.int (nI c)), none, some (.int (nI (trv n m b c q))), some (.int (nI (sqn n m q b))), some (.int (nI q))] [] h 0 0 K := by
  have h12 := pow12 hn
  have hm := hG.1.1
  have hF1 : FOK (sI h0 (30 + 4 * n) 2 (nI (tbF n m))) (27 + 4 * n) n m := eqX_FOK (A := fun k => k = 30 + 4 * n) (eqX_sI rfl) (by omega) hF0
  have hw1 : WS (sI h0 (30 + 4 * n) 2 (nI (tbF n m))) := hw0
  intro j
  induction j with
  | zero =>
    intro q h hq hh
    have e : q = n := by omega
    subst e
    rcases hh with rfl | ⟨hh, -⟩
    · refine S.at 60 [] rfl ?_
      conv => whnf
      refine ⟨wi_sT hw0 hn1 hn, ?_⟩
      conv => whnf
      rw [hR_sI, wi_sf hw0 hn1 hn]
      refine ⟨hF1.1, ?_⟩
      conv => whnf
      rw [hF1.2.1]
      refine bk_t ((zn_le (by omega) (by omega)).mpr (by omega)) ?_
      conv => whnf
      exact hK
    · omega
  | succ j ih =>
    intro q h hq hh
    have hs := sqn_lt hm q b hb
    have hW : WS h ∧ FOK h (27 + 4 * n) n m ∧ (hI h (30 + 4 * n) 2 = 0 ∨ hI h (30 + 4 * n) 2 = nI (tbF n m)) ∧ sI h (30 + 4 * n) 2 (nI (tbF n m)) = sI h0 (30 + 4 * n) 2 (nI (tbF n m)) := by
      rcases hh with rfl | ⟨-, rfl, h3⟩
      · exact ⟨hw0, hF1, Or.inr hI_sI, sI_sI⟩
      · exact ⟨hw0, hF0, h3, rfl⟩
    obtain ⟨hw, hF, h2, h3⟩ := hW
    refine S.at 60 [] rfl ?_
    conv => whnf
    refine ⟨wi_sT hw hn1 hn, ?_⟩
    conv => whnf
    rw [wi_sf hw hn1 hn]
    refine ⟨hF.1, ?_⟩
    conv => whnf
    rw [hF.2.1]
    refine bk_f (fun c => absurd ((zn_le (by omega) (by omega)).mp c) (by omega)) ?_
    conv => whnf
    refine ⟨wi_sT hw hn1 hn, ?_⟩
    conv => whnf
    rw [wi_sf hw hn1 hn]
    refine ⟨hF.1, ?_⟩
    conv => whnf
    refine c_Field_times S hF hn hm hc hs ?_
    conv => whnf
    refine ⟨wi_sT hw hn1 hn, ?_⟩
    conv => whnf
    have hcs := fm_lt hm hc hs
    refine c_Space_traceOf S hw hn1 hn hF hG hcs h2 ?_
    rw [h3]
    conv => whnf
    refine ⟨wi_sT hw0 hn1 hn, ?_⟩
    conv => whnf
    rw [hR_sI, wi_sf hw0 hn1 hn]
    refine ⟨hF1.1, ?_⟩
    conv => whnf
    refine c_Field_times S hF1 hn hm hs hs ?_
    conv => whnf
    have next := ih (q + 1) _ (by omega) (Or.inl rfl)
    have e : nI (trv n m b c q) ||| i_shl (nI (tr1 n m (fm n m c (sqn n m q b)))) (nI q) = nI (trv n m b c (q + 1)) := by
      show _ = nI (trv n m b c q ||| (tr1 n m (fm n m c (sqn n m q b)) <<< q))
      rw [← zn_or]
      congr 1
      have hq3 : (2 : Nat) ^ q ≤ 2048 := pow_le (j := 11) (by omega)
      refine zn_shl (by omega) ?_
      rcases tr1_01 hG hcs with t | t
      · rw [t, Nat.zero_shiftLeft]
        decide
      · rw [t, Nat.shiftLeft_eq]
        omega
    rw [← nI_1, ← e, sqn_succ] at next
    exact next
theorem c_Space_tracesWith {P : PSem} (S : SysOK P) {h : PH} (hw : WS h) {n m b c : Nat} (hn1 : 1 ≤ n) (hn : n ≤ 12) (hF : FOK h (27 + 4 * n) n m) (hG : GF n m) (hb : b < 2 ^ n) (hc : c < 2 ^ n) (h0 : hI h (30 + 4 * n) 2 = 0 ∨ hI h (30 + 4 * n) 2 = nI (tbF n m)) {K : PK} (hK : K (.int (nI (trv n m b c n))) (sI h (30 + 4 * n) 2 (nI (tbF n m)))) : P.1 n_Space_tracesWith [.ref (30 + 4 * n), .int (nI c), .int (nI b)] h K := by
  refine S.2.1 _ 6 _ _ _ rfl rfl ?_
  refine S.at 6 [] rfl ?_
  conv => whnf
  refine S.mk [(0,1),(0,1),(0,0),(0,1),(0,1),(0,1)] ?_
  exact l_Spc_tw S hw hn1 hn hF hG hb hc hK n 0 h (by omega) (Or.inr ⟨hn1, rfl, h0⟩)
theorem l_Spc_du {P : PSem} (S : SysOK P) {h0 : PH} {u : Nat → Nat} {r : Nat → Nat → Nat} {n b : Nat} (hn1 : 1 ≤ n) (hn : n ≤ 12) (hu : MDS u) (hb : b < 2 ^ n) (hN : nrm n (u n) b) {K : PK}
    (hK : ∀ h', CI h' u r → eqX (spS n) h0 h' → K (.int (nI (duF n (u n) b))) h') : ∀ j q h rows src, q + j = n → CI h u r → eqX (spS n) h0 h → SPI rows src (fun k => trv n (u n) b (2 ^ k) n) q → SPH h rows src q →
    P.2 n_Space_dualOf 5 [some (.ref (30 + 4 * n)), some (.int (nI b)), some (.int (nI q))] [] h 0 0 K := by
  have h12 := pow12 hn
  have hM := hu n hn1 hn
  have hG := all_GF hn hM
  intro j
  induction j with
  | zero =>
    intro q h rows src hq hC he hS hH
    have e : q = n := by omega
    subst e
    have hw := hC.1
    have hF := hC.2.1 q hn1 hn
    refine S.at 60 [] rfl ?_
    conv => whnf
    refine ⟨wi_sT hw hn1 hn, ?_⟩
    conv => whnf
    rw [wi_sf hw hn1 hn]
    refine ⟨hF.1, ?_⟩
    conv => whnf
    rw [hF.2.1]
    refine bk_t ((zn_le (by omega) (by omega)).mpr (by omega)) ?_
    conv => whnf
    refine ⟨wi_sT hw hn1 hn, ?_⟩
    conv => whnf
    rw [wi_ss hw hn1 hn]
    refine ⟨wt_12 hw, ?_⟩
    conv => whnf
    obtain ⟨d1, d2, d3⟩ := duF_ok hG hb hN
    refine c_Span_express (v := 1) S hw hS hH (by decide) (fun s s1 s2 => ?_) (fun z => ?_)
    · conv => whnf
      rw [← trv_cmb hG hb s1] at s2
      rw [trv_inj hG hb hN d1 s1 (by rw [d2, s2])] at hK
      exact hK h hC he
    · refine absurd ⟨duF q (u q) b, d1, ?_⟩ z
      rw [← trv_cmb hG hb d1]
      exact d2
  | succ j ih =>
    intro q h rows src hq hC he hS hH
    have hw := hC.1
    have hF := hC.2.1 n hn1 hn
    have hq2 : 2 ^ q < 2 ^ n := Nat.pow_lt_pow_right (by decide) (by omega)
    refine S.at 60 [] rfl ?_
    conv => whnf
    refine ⟨wi_sT hw hn1 hn, ?_⟩
    conv => whnf
    rw [wi_sf hw hn1 hn]
    refine ⟨hF.1, ?_⟩
    conv => whnf
    rw [hF.2.1]
    refine bk_f (fun c => absurd ((zn_le (by omega) (by omega)).mp c) (by omega)) ?_
    conv => whnf
    refine ⟨wi_sT hw hn1 hn, ?_⟩
    conv => whnf
    rw [wi_ss hw hn1 hn]
    refine ⟨wi_sT hw hn1 hn, ?_⟩
    refine p1c (congrArg (fun z => [Value.ref (30 + 4 * n), Value.int z, Value.int (nI b)]) (shl_one (show q ≤ 12 by omega))) ?_
    refine c_Space_tracesWith S hw hn1 hn hF hG hb hq2 (hC.2.2.2.2.1 n hn1 hn).1 ?_
    conv => whnf
    have hC1 : CI (sI h (30 + 4 * n) 2 (nI (tbF n (u n)))) u r := CI_spc hn1 hn (Or.inl ⟨rfl, rfl⟩) hC
    have e1 : eqX (spS n) h0 (sI h (30 + 4 * n) 2 (nI (tbF n (u n)))) := eqX_tr he (eqX_sI (Or.inr rfl))
    have hH1 : SPH (sI h (30 + 4 * n) 2 (nI (tbF n (u n)))) rows src q := ⟨fun k hk => by rw [hI_sI_ne (by omega)]; exact hH.1 k hk, fun k hk => by rw [hI_sI_ne (by omega)]; exact hH.2.1 k hk, by rw [hI_sI_ne (by omega)]; exact hH.2.2⟩
    refine ⟨wt_12 hw, ?_⟩
    conv => whnf
    refine c_Span_add (r := fun k => trv n (u n) b (2 ^ k) n) S hC1.1 hS hH1 (by omega) (Nat.lt_of_lt_of_le (trv_lt hG hb hq2 n) h12) (fun h' rows' src' b' f1 f2 f3 f4 => ?_)
    conv => whnf
    have next := ih (q + 1) h' rows' src' (by omega) (CI_eqX (fun k q => spA_frs q) f1 hC1) (eqX_tr e1 (eqX_mono spA_spS f1)) f2 f3
    rw [← nI_1] at next
    exact next
theorem c_Space_dualOf {P : PSem} (S : SysOK P) {h : PH} {u : Nat → Nat} {r : Nat → Nat → Nat} {n b : Nat} (hn1 : 1 ≤ n) (hn : n ≤ 12) (hu : MDS u) (hC : CI h u r) (hb : b < 2 ^ n) (hN : nrm n (u n) b) {K : PK}
    (hK : ∀ h', CI h' u r → eqX (spS n) h h' → K (.int (nI (duF n (u n) b))) h') : P.1 n_Space_dualOf [.ref (30 + 4 * n), .int (nI b)] h K := by
  have hw := hC.1
  refine S.2.1 _ 3 _ _ _ rfl rfl ?_
  refine S.at 60 [5] rfl ?_
  conv => whnf
  refine ⟨wi_sT hw hn1 hn, ?_⟩
  conv => whnf
  rw [wi_ss hw hn1 hn]
  refine ⟨wt_12 hw, ?_⟩
  conv => whnf
  refine c_Span_clear S hw (fun h' e1 e2 => ?_)
  conv => whnf
  exact l_Spc_du S hn1 hn hu hb hN hK n 0 h' _ _ (by omega) (CI_eqX (fun k q => spA_frs q) e1 hC) (eqX_mono spA_spS e1) (SPI_0 _) e2
theorem l_Spc_sq {P : PSem} (S : SysOK P) {h0 : PH} (hw0 : WS h0) {n m b c : Nat} (hn1 : 1 ≤ n) (hn : n ≤ 12) (hF0 : FOK h0 (27 + 4 * n) n m) (hm : MDg n m) (hb : b < 2 ^ n) (hc : c < 2 ^ n) {K : PK}
    (hY : ∀ h' y, eqX spA h0 h' → y < 2 ^ n → sqb n m b y = c → K (.int (nI y)) h') (hN : ∀ h', eqX spA h0 h' → (∀ y, y < 2 ^ n → sqb n m b y ≠ c) → K (.int (-1)) h') : ∀ j q h rows src, q + j = n → eqX spA h0 h → SPI rows src (fun k => sqb n m b (2 ^ k)) q → SPH h rows src q →
    P.2 n_Space_solveSquare 5 [some (.ref (30 + 4 * n)), some (.int (nI b)), some (.int (nI c)), some (.int (nI q))] [] h 0 0 K := by
  have h12 := pow12 hn
  intro j
  induction j with
  | zero =>
    intro q h rows src hq he hS hH
    have e : q = n := by omega
    subst e
    have hw := eqX_WS he hw0
    have hF := eqX_FOK he (not_spA_f hn1) hF0
    refine S.at 60 [] rfl ?_
    conv => whnf
    refine ⟨wi_sT hw hn1 hn, ?_⟩
    conv => whnf
    rw [wi_sf hw hn1 hn]
    refine ⟨hF.1, ?_⟩
    conv => whnf
    rw [hF.2.1]
    refine bk_t ((zn_le (by omega) (by omega)).mpr (by omega)) ?_
    conv => whnf
    refine ⟨wi_sT hw hn1 hn, ?_⟩
    conv => whnf
    rw [wi_ss hw hn1 hn]
    refine ⟨wt_12 hw, ?_⟩
    conv => whnf
    refine c_Span_express S hw hS hH (Nat.lt_of_lt_of_le hc h12) (fun s s1 s2 => ?_) (fun z => ?_)
    · conv => whnf
      rw [← sqb_cmb hm hb s1] at s2
      exact hY h s he s1 s2
    · conv => whnf
      refine hN h he (fun y hy e => z ⟨y, hy, ?_⟩)
      rw [← sqb_cmb hm hb hy]
      exact e
  | succ j ih =>
    intro q h rows src hq he hS hH
    have hw := eqX_WS he hw0
    have hF := eqX_FOK he (not_spA_f hn1) hF0
    have hq2 : 2 ^ q < 2 ^ n := Nat.pow_lt_pow_right (by decide) (by omega)
    refine S.at 60 [] rfl ?_
    conv => whnf
    refine ⟨wi_sT hw hn1 hn, ?_⟩
    conv => whnf
    rw [wi_sf hw hn1 hn]
    refine ⟨hF.1, ?_⟩
    conv => whnf
    rw [hF.2.1]
    refine bk_f (fun c => absurd ((zn_le (by omega) (by omega)).mp c) (by omega)) ?_
    conv => whnf
    refine ⟨wi_sT hw hn1 hn, ?_⟩
    conv => whnf
    rw [wi_ss hw hn1 hn]
    refine ⟨wi_sT hw hn1 hn, ?_⟩
    conv => whnf
    rw [wi_sf hw hn1 hn]
    refine ⟨hF.1, ?_⟩
    have e1 : i_shl 1 (nI q) = nI (2 ^ q) := shl_one (by omega)
    refine p1c (as' := [Value.ref (27 + 4 * n), Value.int (nI (2 ^ q)), Value.int (nI (2 ^ q ^^^ b))]) (by
      show [Value.ref (27 + 4 * n), Value.int (i_shl 1 (nI q)), Value.int (i_shl 1 (nI q) ^^^ nI b)] = _
      rw [e1, zn_xor]) ?_
    refine c_Field_times S hF hn hm hq2 (xor_lt hq2 hb) ?_
    conv => whnf
    refine ⟨wt_12 hw, ?_⟩
    conv => whnf
    refine c_Span_add (r := fun k => sqb n m b (2 ^ k)) S hw hS hH (by omega) (Nat.lt_of_lt_of_le (sqb_lt hm hb hq2) h12) (fun h' rows' src' b' f1 f2 f3 f4 => ?_)
    conv => whnf
    have next := ih (q + 1) h' rows' src' (by omega) (eqX_tr he f1) f2 f3
    rw [← nI_1] at next
    exact next
theorem c_Space_solveSquare {P : PSem} (S : SysOK P) {h : PH} (hw : WS h) {n m b c : Nat} (hn1 : 1 ≤ n) (hn : n ≤ 12) (hF : FOK h (27 + 4 * n) n m) (hm : MDg n m) (hb : b < 2 ^ n) (hc : c < 2 ^ n) {K : PK}
    (hY : ∀ h' y, eqX spA h h' → y < 2 ^ n → sqb n m b y = c → K (.int (nI y)) h') (hN : ∀ h', eqX spA h h' → (∀ y, y < 2 ^ n → sqb n m b y ≠ c) → K (.int (-1)) h') : P.1 n_Space_solveSquare [.ref (30 + 4 * n), .int (nI b), .int (nI c)] h K := by
  refine S.2.1 _ 4 _ _ _ rfl rfl ?_
  refine S.at 60 [5] rfl ?_
  conv => whnf
  refine ⟨wi_sT hw hn1 hn, ?_⟩
  conv => whnf
  rw [wi_ss hw hn1 hn]
  refine ⟨wt_12 hw, ?_⟩
  conv => whnf
  refine c_Span_clear S hw (fun h' e1 e2 => ?_)
  conv => whnf
  exact l_Spc_sq S hw hn1 hn hF hm hb hc hY hN n 0 h' _ _ (by omega) e1 (SPI_0 _) e2
