/-! rows of moduli -/
theorem CI0_cg {h : PH} {u v : Nat → Nat} (e : ∀ k, 1 ≤ k → k ≤ 12 → u k = v k) (hC : CI0 h u) : CI0 h v := by
  obtain ⟨c1, c2, c3, c4, c5⟩ := hC
  refine ⟨c1, fun k a b => ?_, fun k a b => ?_, ⟨fun k a b => ?_, c4.2⟩, fun k a b => ?_⟩
  · rw [← e k a b]; exact c2 k a b
  · rw [← e k a b]; exact c3 k a b
  · rw [← e k a b]; exact c4.1 k a b
  · rw [← e k a b]; exact c5 k a b
def mixM (u v : Nat → Nat) (q : Nat) : Nat → Nat := fun k => if k < q then v k else u k
theorem l_Tow_take {P : PSem} (S : SysOK P) {h0 : PH} {u v : Nat → Nat} {r r' : Nat → Nat → Nat} (hu : MDS u) (hv : MDS v) (hr : IMG u r) (hr' : IMG v r') {R : Nat} (hR1 : R < 149) (hR2 : ¬ twr R) (hRT : hT h0 R = 20) (hRN : hN h0 R = 13) (hRv : ∀ k, 1 ≤ k → k ≤ 12 → hI h0 R k = nI (v k)) (h1 : ∀ k, k < 149 → 2 ≤ k → True) {K : PK}
    (hK : ∀ h', CI h' v r' → FW h0 h' → K .null h') (hR3 : 2 ≤ R) : ∀ j q h, q + j = 13 → 1 ≤ q → CI0 h (mixM u v q) → FW h0 h → (∀ m, 1 ≤ m → m ≤ 12 → hI h 29 m = 0 ∨ (hI h 29 m = 1 ∧ IMS h r m ∧ ∀ e, 1 ≤ e → e < q → e ∣ m → u e = v e)) → (WS h0) →
    P.2 n_Tower_takeModuli 2 [some (.ref 8), some (.ref R), some (.int (nI q))] [] h 0 0 K := by
  intro j
  induction j with
  | zero =>
    intro q h hq hq1 hC hf hs hw0
    have hw := hC.1
    refine S.at 60 [] rfl ?_
    conv => whnf
    refine bk_t ((zn_lt (a := 12) (by omega) (by omega)).mpr (by omega)) ?_
    conv => whnf
    refine hK h ((CI0_cg (fun k a b => if_pos (by omega)) hC).ci (fun m a b => ?_)) hf
    rcases hs m a b with w | ⟨w1, w2, w3⟩
    · exact Or.inl w
    · refine Or.inr ⟨w1, fun d d1 d2 => ?_⟩
      rw [w2 d d1 d2, IMG_loc hr hr' m d a b d1 d2 (fun e e1 e2 => w3 e e1 (by have := Nat.le_of_dvd a e2; omega) e2)]
  | succ j ih =>
    intro q h hq hq1 hC hf hs hw0
    have hw := hC.1
    have hsh : h.1 R = h0.1 R := (hw.1 R hR3 hR1).trans (hw0.1 R hR3 hR1).symm
    have hT' : hT h R = 20 := by unfold hT; rw [hsh]; exact hRT
    have hN' : hN h R = 13 := by unfold hN; rw [hsh]; exact hRN
    have hI' : hI h R = hI h0 R := (hf.1 R hR1 hR2).1
    have hFq := hC.2.1 q hq1 (by omega)
    rw [show mixM u v q q = u q from if_neg (by omega)] at hFq
    have n24 : ∀ h', CI0 h' (mixM u v (q + 1)) → FW h0 h' → (∀ m, 1 ≤ m → m ≤ 12 → hI h' 29 m = 0 ∨ (hI h' 29 m = 1 ∧ IMS h' r m ∧ ∀ e, 1 ≤ e → e < q + 1 → e ∣ m → u e = v e)) → P.2 n_Tower_takeModuli 24 [some (.ref 8), some (.ref R), some (.int (nI q))] [] h' 0 0 K := by
      intro h' a b c
      have next := ih (q + 1) h' (by omega) (by omega) a b c hw0
      rw [← nI_1] at next
      refine S.at 10 [] rfl ?_
      conv => whnf
      exact next
    have hMv := MOD_lt (by omega : q ≤ 12) (hv q hq1 (by omega)).1
    have hMu := MOD_lt (by omega : q ≤ 12) (hu q hq1 (by omega)).1
    refine S.at 60 [24] rfl ?_
    conv => whnf
    refine bk_f (fun c => absurd ((zn_lt (a := 12) (by omega) (by omega)).mp c) (by omega)) ?_
    conv => whnf
    refine ⟨⟨by omega, by omega⟩, ?_⟩
    conv => whnf
    rw [hN']
    refine bk_f (fun c => absurd ((zn_le (a := 13) (by decide) (by omega)).mp c) (by omega)) ?_
    conv => whnf
    refine ⟨wt_8 hw, ?_⟩
    conv => whnf
    rw [wr_8_0 hw]
    refine ⟨Or.inl (wi_in9 hw hq1 (by omega)), ?_⟩
    conv => whnf
    rw [nI_clamp (by omega), wi_fld hw hq1 (by omega)]
    refine ⟨hFq.1, ?_⟩
    conv => whnf
    rw [hFq.2.2.2]
    refine ⟨inB_of (N := 13) hT' hN' (by omega) (by decide), ?_⟩
    conv => whnf
    rw [nI_clamp (by omega), hI', hRv q hq1 (by omega)]
    refine bk_eq (by omega) (by omega) (fun c => ?_) (fun c => ?_)
    · conv => whnf
      refine n24 h (CI0_cg (fun k a b => ?_) hC) hf (fun m a b => ?_)
      · unfold mixM
        by_cases e : k = q
        · subst e
          rw [if_neg (by omega), if_pos (by omega)]
          exact c
        · by_cases e2 : k < q
          · rw [if_pos e2, if_pos (by omega)]
          · rw [if_neg e2, if_neg (by omega)]
      · rcases hs m a b with w | ⟨w1, w2, w3⟩
        · exact Or.inl w
        · refine Or.inr ⟨w1, w2, fun e e1 e2 e3 => ?_⟩
          rcases Nat.eq_or_lt_of_le (Nat.le_of_lt_succ e2) with z | z
          · subst z
            exact c
          · exact w3 e e1 z e3
    · conv => whnf
      refine ⟨inB_of (N := 13) hT' hN' (by omega) (by decide), ?_⟩
      conv => whnf
      rw [nI_clamp (by omega), hI', hRv q hq1 (by omega)]
      refine ⟨wt_8 hw, ?_⟩
      conv => whnf
      refine c_Tower_setModulus S hq1 (by omega) hC (fun h' a b d => ?_)
      conv => whnf
      refine n24 h' (CI0_cg (fun k k1 k2 => ?_) a) (FW_tr hf b) (fun m m1 m2 => ?_)
      · unfold updM mixM
        by_cases e : k = q
        · subst e
          rw [if_pos rfl, if_pos (by omega)]
        · rw [if_neg e]
          by_cases e2 : k < q
          · rw [if_pos e2, if_pos (by omega)]
          · rw [if_neg e2, if_neg (by omega)]
      · obtain ⟨d1, d2, d3⟩ := d m m1 m2
        by_cases e : q ∣ m
        · exact Or.inl (d1 e)
        · rw [d2 e]
          rcases hs m m1 m2 with w | ⟨w1, w2, w3⟩
          · exact Or.inl w
          · refine Or.inr ⟨w1, fun t t1 t2 => by rw [d3]; exact w2 t t1 t2, fun t t1 t2 t3 => ?_⟩
            rcases Nat.eq_or_lt_of_le (Nat.le_of_lt_succ t2) with z | z
            · subst z
              exact absurd t3 e
            · exact w3 t t1 z t3
theorem c_Tower_takeModuli {P : PSem} (S : SysOK P) {h : PH} {u v : Nat → Nat} {r r' : Nat → Nat → Nat} (hu : MDS u) (hv : MDS v) (hr : IMG u r) (hr' : IMG v r') (hC : CI h u r) {R : Nat} (hR3 : 2 ≤ R) (hR1 : R < 149) (hR2 : ¬ twr R) (hRT : hT h R = 20) (hRN : hN h R = 13) (hRv : ∀ k, 1 ≤ k → k ≤ 12 → hI h R k = nI (v k)) {K : PK}
    (hK : ∀ h', CI h' v r' → FW h h' → K .null h') : P.1 n_Tower_takeModuli [.ref 8, .ref R] h K := by
  refine S.2.1 _ 3 _ _ _ rfl rfl ?_
  refine S.at 2 [] rfl ?_
  conv => whnf
  refine l_Tow_take S hu hv hr hr' hR1 hR2 hRT hRN hRv (fun _ _ _ => trivial) hK hR3 12 1 h (by omega) (Nat.le_refl 1) (CI0_cg (fun k a b => (if_neg (by omega)).symm) hC.i0) (FW_rf h) (fun m a b => ?_) hC.1
  rcases hC.2.2.2.2.2 m a b with w | w
  · exact Or.inl w
  · exact Or.inr ⟨w.1, w.2, fun e e1 e2 => by omega⟩
theorem l_Tow_copy {P : PSem} (S : SysOK P) {h0 : PH} (hw0 : WS h0) {u : Nat → Nat} (hF0 : CF h0 u) {R : Nat} (hR5 : 5 ≤ R) (hR2 : ∀ n, 1 ≤ n → n ≤ 12 → R ≠ 27 + 4 * n) (hRT : hT h0 R = 20) (hRN : hN h0 R = 13) {K : PK}
    (hK : ∀ h', eqX (fun k => k = R) h0 h' → (∀ k, 1 ≤ k → k ≤ 12 → hI h' R k = nI (u k)) → K .null h') : ∀ j q h, q + j = 13 → 1 ≤ q → eqX (fun k => k = R) h0 h → (∀ k, 1 ≤ k → k < q → hI h R k = nI (u k)) →
    P.2 n_Tower_copyModuli 2 [some (.ref 8), some (.ref R), some (.int (nI q))] [] h 0 0 K := by
  intro j
  induction j with
  | zero =>
    intro q h hq hq1 he hs
    refine S.at 60 [] rfl ?_
    conv => whnf
    refine bk_t ((zn_lt (a := 12) (by omega) (by omega)).mpr (by omega)) ?_
    conv => whnf
    exact hK h he (fun k a b => hs k a (by omega))
  | succ j ih =>
    intro q h hq hq1 he hs
    have hw := eqX_WS he hw0
    have hT' : hT h R = 20 := by rw [eqX_T he]; exact hRT
    have hN' : hN h R = 13 := by rw [eqX_N he]; exact hRN
    have hFq := eqX_FOK he (fun e => hR2 q hq1 (by omega) e.symm) (hF0 q hq1 (by omega))
    refine S.at 60 [] rfl ?_
    conv => whnf
    refine bk_f (fun c => absurd ((zn_lt (a := 12) (by omega) (by omega)).mp c) (by omega)) ?_
    conv => whnf
    refine ⟨⟨by omega, by omega⟩, ?_⟩
    conv => whnf
    rw [hN']
    refine bk_f (fun c => absurd ((zn_le (a := 13) (by decide) (by omega)).mp c) (by omega)) ?_
    conv => whnf
    refine ⟨wt_8 hw, ?_⟩
    conv => whnf
    rw [wr_8_0 hw]
    refine ⟨Or.inl (wi_in9 hw hq1 (by omega)), ?_⟩
    conv => whnf
    rw [nI_clamp (by omega), wi_fld hw hq1 (by omega)]
    refine ⟨hFq.1, ?_⟩
    conv => whnf
    rw [hFq.2.2.2]
    refine ⟨⟨hR5, inB_of (N := 13) hT' hN' (by omega) (by decide)⟩, ?_⟩
    rw [nI_clamp (by omega)]
    conv => whnf
    have next := ih (q + 1) (sI h R q (nI (u q))) (by omega) (by omega) (eqX_tr he (eqX_sI rfl)) (fun k a b => by
      by_cases e : k = q
      · subst e
        exact hI_sI
      · rw [hI_sI_j e]
        exact hs k a (by omega))
    rw [← nI_1] at next
    exact next
theorem c_Tower_copyModuli {P : PSem} (S : SysOK P) {h : PH} (hw : WS h) {u : Nat → Nat} (hF : CF h u) {R : Nat} (hR5 : 5 ≤ R) (hR2 : ∀ n, 1 ≤ n → n ≤ 12 → R ≠ 27 + 4 * n) (hRT : hT h R = 20) (hRN : hN h R = 13) {K : PK}
    (hK : ∀ h', eqX (fun k => k = R) h h' → (∀ k, 1 ≤ k → k ≤ 12 → hI h' R k = nI (u k)) → K .null h') : P.1 n_Tower_copyModuli [.ref 8, .ref R] h K := by
  refine S.2.1 _ 3 _ _ _ rfl rfl ?_
  refine S.at 2 [] rfl ?_
  conv => whnf
  exact l_Tow_copy S hw hF hR5 hR2 hRT hRN hK 12 1 h (by omega) (Nat.le_refl 1) (eqX_rf _ _) (fun k a b => by omega)
/-- the fields whose modulus is another one than the least -/
def omS (u : Nat → Nat) : Nat → Nat
  | 0 => 0
  | k + 1 => if u (k + 1) = lm (k + 1) then omS u k else omS u k ||| 1 <<< k
theorem l_Tow_om {P : PSem} (S : SysOK P) {h : PH} (hw : WS h) {u : Nat → Nat} (hu : MDS u) (hF : CF h u) (h2 : ∀ n, n ≤ 12 → hI h 2 n = nI (lm n)) {K : PK} (hK : K (.int (nI (omS u 12))) h) : ∀ j q, q + j = 12 →
    P.2 n_Tower_otherModuli 4 [some (.ref 8), some (.int (nI (omS u q))), some (.int (nI (q + 1)))] [] h 0 0 K := by
  intro j
  induction j with
  | zero =>
    intro q hq
    have e : q = 12 := by omega
    subst e
    refine S.at 60 [] rfl ?_
    conv => whnf
    refine bk_t ((zn_lt (a := 12) (by omega) (by omega)).mpr (by omega)) ?_
    conv => whnf
    exact hK
  | succ j ih =>
    intro q hq
    have hFq := hF (q + 1) (by omega) (by omega)
    have hMu := MOD_lt (by omega : q + 1 ≤ 12) (hu (q + 1) (by omega) (by omega)).1
    have hMl := MOD_lt (by omega : q + 1 ≤ 12) (lm_MOD (n := q + 1) (by omega) (by omega)).1
    refine S.at 60 [] rfl ?_
    conv => whnf
    refine bk_f (fun c => absurd ((zn_lt (a := 12) (by omega) (by omega)).mp c) (by omega)) ?_
    conv => whnf
    refine ⟨wt_8 hw, ?_⟩
    conv => whnf
    rw [wr_8_0 hw]
    refine ⟨Or.inl (wi_in9 hw (n := q + 1) (by omega) (by omega)), ?_⟩
    conv => whnf
    rw [nI_clamp (by omega), wi_fld hw (n := q + 1) (by omega) (by omega)]
    refine ⟨hFq.1, ?_⟩
    conv => whnf
    rw [hFq.2.2.2]
    refine ⟨inB_of (wt_2 hw) (wn_2 hw) (by omega) (by decide), ?_⟩
    conv => whnf
    rw [nI_clamp (by omega), h2 (q + 1) (by omega)]
    have next := ih (q + 1) (by omega)
    rw [← nI_1 (q + 1)] at next
    have e0 : omS u (q + 1) = if u (q + 1) = lm (q + 1) then omS u q else omS u q ||| 1 <<< q := rfl
    rw [e0] at next
    refine bk_eq (by omega) (by omega) (fun c => ?_) (fun c => ?_)
    · rw [if_pos c] at next
      conv => whnf
      exact next
    · rw [if_neg c] at next
      conv => whnf
      have e1 : i_shl 1 (nI (q + 1) - 1) = nI (1 <<< q) := by
        rw [show nI (q + 1) - 1 = nI q from pk_sub (a := q + 1) (b := 1) (by omega)]
        have : (2 : Nat) ^ q ≤ 4096 := pow12 (by omega)
        exact zn_shl (a := 1) (by omega) (by rw [Nat.shiftLeft_eq]; omega)
      rw [← zn_or, ← e1] at next
      exact next
theorem c_Tower_otherModuli {P : PSem} (S : SysOK P) {h : PH} (hw : WS h) {u : Nat → Nat} (hu : MDS u) (hF : CF h u) (h2 : ∀ n, n ≤ 12 → hI h 2 n = nI (lm n)) {K : PK} (hK : K (.int (nI (omS u 12))) h) : P.1 n_Tower_otherModuli [.ref 8] h K := by
  refine S.2.1 _ 3 _ _ _ rfl rfl ?_
  refine S.at 4 [] rfl ?_
  conv => whnf
  exact l_Tow_om S hw hu hF h2 hK 12 0 rfl
