/-! LOGARITHMS of the class: rows that are made once -/
theorem hI_new {h : PH} {t n k : Nat} (hk : k ≠ hE h) : hI (hNew h t n) k = hI h k := if_neg hk
theorem hL_new {h : PH} {t n k : Nat} (hk : k ≠ hE h) : hL (hNew h t n) k = hL h k := if_neg hk
theorem hR_new {h : PH} {t n k : Nat} (hk : k ≠ hE h) : hR (hNew h t n) k = hR h k := if_neg hk
theorem h1_new {h : PH} {t n k : Nat} (hk : k ≠ hE h) : (hNew h t n).1 k = h.1 k := if_neg hk
theorem h1_new0 {h : PH} {t n : Nat} : (hNew h t n).1 (hE h) = (t, n) := if_pos rfl
theorem hR_sR {h : PH} {k j v : Nat} : hR (sR h k j v) k j = v := if_pos ⟨rfl, rfl⟩
theorem hR_sR_ne {h : PH} {k j v q i : Nat} (hne : ¬ (q = k ∧ i = j)) : hR (sR h k j v) q i = hR h q i := if_neg hne
theorem refL4 : refL.all (fun q => !(q.2.1 == 4 && Nat.ble 33 q.1 && Nat.ble q.1 77)) = true := by decide +kernel
theorem ws_log {h : PH} (hw : WS h) {n t N v : Nat} (a : 1 ≤ n) (b : n ≤ 12) : WS (sR (hNew h t N) (29 + 4 * n) 4 v) := by
  obtain ⟨w1, w2, w3, w4⟩ := hw
  refine ⟨fun k h1 h2 => ?_, fun q hq => ?_, ?_, ?_⟩
  · show (hNew h t N).1 k = _
    rw [h1_new (by omega)]
    exact w1 k h1 h2
  · have h4 := List.all_eq_true.mp refL4 q hq
    have hne : ¬ (q.1 = 29 + 4 * n ∧ q.2.1 = 4) := by
      rintro ⟨e1, e2⟩
      rw [e1, e2, (Nat.ble_eq).mpr (show 33 ≤ 29 + 4 * n by omega), (Nat.ble_eq).mpr (show 29 + 4 * n ≤ 77 by omega)] at h4
      cases h4
    rw [hR_sR_ne hne]
    have hk : q.1 < 149 := List.all_eq_true.mp (show refL.all (fun q => decide (q.1 < 149)) = true by decide +kernel) q hq |> of_decide_eq_true
    rw [hR_new (by omega)]
    exact w2 q hq
  · show ((hNew h t N).1 1).1 = 20
    rw [h1_new (by omega)]
    exact w3
  · show 149 ≤ hE h + 1
    omega
/-- the loop that lists -/
theorem l_Cyc_list {P : PSem} (S : SysOK P) {h1 : PH} (hw1 : WS h1) {n m R : Nat} (hn1 : 1 ≤ n) (hn : n ≤ 12) (hF1 : FOK h1 (27 + 4 * n) n m) (hM : MOD n m) (hl : hI h1 (29 + 4 * n) 1 = nI (2 ^ n - 1)) (hR1 : hR h1 (29 + 4 * n) 4 = R) (hR149 : 149 ≤ R) (hRT : hT h1 R = 20) (hRN : hN h1 R = 2 ^ n) {ca sl : Nat} (hca : ca ≤ 1) (hsl : sl ≤ 4096) {K : PK}
    (hK : ∀ h', eqX (fun k => k = R) h1 h' → (∀ a, 1 ≤ a → a < 2 ^ n → hI h' R a = nI (lgF n m (lpF n m) a)) → K .null (sI h' (29 + 4 * n) 3 1)) : ∀ j q h, q + j = 2 ^ n - 1 → eqX (fun k => k = R) h1 h → (∀ i, i < q → hI h R (fpw n m (lpF n m) i) = nI i) →
    P.2 n_Cycle_listLogarithms 17 [some (.ref (29 + 4 * n)), some (.int (nI (lpF n m))), some (.int (nI (fpw n m (lpF n m) q))), some (.int (nI q))] [] h ca sl K := by
  have h12 := pow12 hn
  have hG := all_GF hn hM
  have hp := lpF_prim hn hM
  have hm := hM.1
  have hcs : (Nat.ble ca 1 && Nat.ble sl 4096) = true := by rw [Nat.ble_eq.mpr hca, Nat.ble_eq.mpr hsl]; rfl
  intro j
  induction j with
  | zero =>
    intro q h hq he ht
    have hw := eqX_WS he hw1
    have hI29 : hI h (29 + 4 * n) = hI h1 (29 + 4 * n) := he.2.2.2.2 _ (by omega)
    refine S.at 60 [] rfl ?_
    conv => whnf
    refine ⟨wi_yT hw hn1 hn, ?_⟩
    conv => whnf
    rw [hI29, hl]
    refine bk_t ((zn_le (by omega) (by omega)).mpr (by omega)) ?_
    conv => whnf
    refine ⟨⟨wi_yT hw hn1 hn, Or.inr rfl⟩, ?_⟩
    show b_if (Nat.ble ca 1 && Nat.ble sl 4096) _
    rw [hcs]
    refine hK h he (fun a a1 a2 => ?_)
    obtain ⟨b1, b2⟩ := lgF_ok hM hp a2 (by omega)
    have := ht (lgF n m (lpF n m) a) (by omega)
    rwa [b2] at this
  | succ j ih =>
    intro q h hq he ht
    have hw := eqX_WS he hw1
    have hI29 : hI h (29 + 4 * n) = hI h1 (29 + 4 * n) := he.2.2.2.2 _ (by omega)
    have hF := eqX_FOK he (by omega) hF1
    have hpq := fpw_lt hm hp.1 q
    refine S.at 60 [] rfl ?_
    conv => whnf
    refine ⟨wi_yT hw hn1 hn, ?_⟩
    conv => whnf
    rw [hI29, hl]
    refine bk_f (fun c => absurd ((zn_le (by omega) (by omega)).mp c) (by omega)) ?_
    conv => whnf
    refine bk_f (fun c => absurd ((zn_lt (b := 0) (by omega) (by decide)).mp c) (by omega)) ?_
    conv => whnf
    refine ⟨wi_yT hw hn1 hn, ?_⟩
    conv => whnf
    rw [he.2.1, hR1]
    have hT0 : hT h R = 20 := by rw [eqX_T he]; exact hRT
    have hN0 : hN h R = 2 ^ n := by rw [eqX_N he]; exact hRN
    refine ⟨⟨by omega, by omega⟩, ?_⟩
    conv => whnf
    rw [hN0]
    refine bk_f (fun c => absurd ((zn_le (by omega) (by omega)).mp c) (by omega)) ?_
    conv => whnf
    refine ⟨wi_yT hw hn1 hn, ?_⟩
    conv => whnf
    try rw [he.2.1, hR1]
    refine ⟨⟨Nat.le_trans (by decide) hR149, inB_of (N := 2 ^ n) (by rw [eqX_T he]; exact hRT) (by rw [eqX_N he]; exact hRN) hpq (by omega)⟩, ?_⟩
    conv => whnf
    rw [nI_clamp (by omega)]
    refine ⟨wi_yT hw hn1 hn, ?_⟩
    conv => whnf
    rw [hR_sI, wi_yf hw hn1 hn]
    have he' : eqX (fun k => k = R) h1 (sI h R (fpw n m (lpF n m) q) (nI q)) := eqX_tr he (eqX_sI rfl)
    have hF' := eqX_FOK he' (by omega) hF1
    show b_if (Nat.ble (ca + 0) 1 && Nat.ble (sl + 0) 4096 && true) _
    rw [Nat.add_zero, Nat.add_zero, hcs]
    refine ⟨hF'.1, ?_⟩
    refine c_Field_times S hF' hn hm hpq hp.1 ?_
    conv => whnf
    have next := ih (q + 1) (sI h R (fpw n m (lpF n m) q) (nI q)) (by omega) he' (fun i hi => by
      rcases Nat.eq_or_lt_of_le (Nat.le_of_lt_succ hi) with w | w
      · subst w
        exact hI_sI
      · rw [hI_sI_j (fun e => by
          have := pw_inj hM hp.1 hp.2.1 hp.2.2 (by omega) (by omega) e
          omega)]
        exact ht i w)
    rw [← nI_1] at next
    exact next
