/-! least polynomials and codes of the class -/
theorem eqX_hI {A : Nat → Prop} {h h' : PH} (e : eqX A h h') {k : Nat} (hk : ¬ A k) : hI h' k = hI h k := e.2.2.2.2 k hk
theorem l_Fld_expI {P : PSem} (S : SysOK P) {h0 : PH} (hw0 : WS h0) {n m d b D q : Nat} {c : Nat → Nat} (hn1 : 1 ≤ n) (hn : n ≤ 12) (hF0 : FOK h0 (27 + 4 * n) n m) (hm : MDg n m) (hb : b < 2 ^ n) (hc : ∀ k, c k < 2 ^ n) (hq : q + 1 ≤ 12) {K : PK}
    (hK : ∀ h', eqX (fun k => k = 28 + 4 * n) h0 h' → (∀ i, 1 ≤ i → i ≤ q + 1 → hI h' (28 + 4 * n) i = nI (mlX n m c b i)) → hI h' (28 + 4 * n) 0 = nI (c 0) → P.2 n_Field_expandLeast 53 [some (.ref (27 + 4 * n)), some (.int (nI d)), none, some (.int (nI D)), some (.int (nI b)), some (.int (nI q)), none] [] h' 0 0 K) : ∀ k h, k ≤ q → eqX (fun k => k = 28 + 4 * n) h0 h → (∀ i, k < i → i ≤ q + 1 → hI h (28 + 4 * n) i = nI (mlX n m c b i)) → (∀ i, i ≤ k → hI h (28 + 4 * n) i = nI (c i)) →
    P.2 n_Field_expandLeast 31 [some (.ref (27 + 4 * n)), some (.int (nI d)), none, some (.int (nI D)), some (.int (nI b)), some (.int (nI q)), some (.int (nI k))] [] h 0 0 K := by
  have h12 := pow12 hn
  intro k
  induction k with
  | zero =>
    intro h hk he h1 h2
    refine S.at 60 [53] rfl ?_
    conv => whnf
    refine bk_t ((zn_le (b := 0) (by omega) (by omega)).mpr (by omega)) ?_
    conv => whnf
    exact S.mk [(0, 1), (0, 1), (0, 0), (0, 1), (0, 1), (0, 1), (0, 0)] (hK h he (fun i a b => h1 i (by omega) b) (h2 0 (by omega)))
  | succ k ih =>
    intro h hk he h1 h2
    have hw := eqX_WS he hw0
    have hF := eqX_FOK he (by omega) hF0
    refine S.at 60 [53] rfl ?_
    conv => whnf
    refine bk_f (fun c => absurd ((zn_le (b := 0) (by omega) (by omega)).mp c) (by omega)) ?_
    conv => whnf
    refine ⟨hF.1, ?_⟩
    conv => whnf
    rw [wi_fc hw hn1 hn]
    refine ⟨hF.1, ?_⟩
    conv => whnf
    have e1 : nI (k + 1) - 1 = nI k := pk_sub (a := k + 1) (b := 1) (by omega)
    have e1' : (fun x y : Int32 => x - y) (nI (k + 1)) 1 = nI k := e1
    rw [e1']
    refine ⟨inB_of (wi_cT hw hn1 hn) (wi_cN hw hn1 hn) (by omega) (by decide), ?_⟩
    conv => whnf
    rw [nI_clamp (show k < 2 ^ 31 by omega), h2 k (by omega)]
    refine ⟨hF.1, ?_⟩
    conv => whnf
    rw [wi_fc hw hn1 hn]
    refine ⟨inB_of (wi_cT hw hn1 hn) (wi_cN hw hn1 hn) (by omega) (by decide), ?_⟩
    conv => whnf
    rw [nI_clamp (show k + 1 < 2 ^ 31 by omega), h2 (k + 1) (by omega)]
    refine ⟨hF.1, ?_⟩
    conv => whnf
    refine c_Field_times S hF hn hm (hc (k + 1)) hb ?_
    conv => whnf
    refine ⟨⟨(show 5 ≤ 28 + 4 * n by omega), inB_of (wi_cT hw hn1 hn) (wi_cN hw hn1 hn) (by omega) (by decide)⟩, ?_⟩
    rw [nI_clamp (show k + 1 < 2 ^ 31 by omega)]
    conv => whnf
    have e2 : nI (c k) ^^^ nI (fm n m (c (k + 1)) b) = nI (mlX n m c b (k + 1)) := by
      rw [zn_xor]
      unfold mlX
      rw [if_neg (by omega), Nat.add_sub_cancel]
    have next := ih (sI h (28 + 4 * n) (k + 1) (nI (mlX n m c b (k + 1)))) (by omega) (eqX_tr he (eqX_sI rfl)) (fun i a b => by
      by_cases e : i = k + 1
      · subst e
        exact hI_sI
      · rw [hI_sI_j e]
        exact h1 i (by omega) b) (fun i a => by
      rw [hI_sI_j (by omega)]
      exact h2 i (by omega))
    rw [← pk_m1 k, ← e2] at next
    exact next
theorem l_Fld_expO {P : PSem} (S : SysOK P) {h0 : PH} (hw0 : WS h0) {n m d a D : Nat} (hn1 : 1 ≤ n) (hn : n ≤ 12) (hd : d ≤ 12) (hF0 : FOK h0 (27 + 4 * n) n m) (hm : MDg n m) (ha : a < 2 ^ n) (hD : D ≤ 12) {K : PK}
    (hK : ∀ h', eqX (fun k => k = 28 + 4 * n) h0 h' → (∀ i, i ≤ D → hI h' (28 + 4 * n) i = nI (lpS n m (cjd n m d a) D i)) → K (.int (nI D)) h') : ∀ j q h, q + j = D → eqX (fun k => k = 28 + 4 * n) h0 h → (∀ i, i ≤ q → hI h (28 + 4 * n) i = nI (lpS n m (cjd n m d a) q i)) →
    P.2 n_Field_expandLeast 16 [some (.ref (27 + 4 * n)), some (.int (nI d)), none, some (.int (nI D)), some (.int (nI (cjd n m d a q))), some (.int (nI q)), none] [] h 0 0 K := by
  have h12 := pow12 hn
  intro j
  induction j with
  | zero =>
    intro q h hq he h1
    have e : q = D := by omega
    subst e
    refine S.at 60 [] rfl ?_
    conv => whnf
    refine bk_t ((zn_le (by omega) (by omega)).mpr (by omega)) ?_
    conv => whnf
    exact hK h he h1
  | succ j ih =>
    intro q h hq he h1
    have hw := eqX_WS he hw0
    have hF := eqX_FOK he (by omega) hF0
    have hs := cjd_lt (d := d) hm ha
    have hc := lpS_lt hm hs q
    refine S.at 60 [31] rfl ?_
    conv => whnf
    refine bk_f (fun c => absurd ((zn_le (by omega) (by omega)).mp c) (by omega)) ?_
    conv => whnf
    refine ⟨hF.1, ?_⟩
    conv => whnf
    rw [wi_fc hw hn1 hn]
    refine ⟨hF.1, ?_⟩
    conv => whnf
    refine ⟨inB_of (wi_cT hw hn1 hn) (wi_cN hw hn1 hn) (by omega) (by decide), ?_⟩
    conv => whnf
    rw [nI_clamp (show q < 2 ^ 31 by omega), h1 q (Nat.le_refl q)]
    have e1 : (fun x y : Int32 => x + y) (nI q) 1 = nI (q + 1) := nI_1 q
    rw [e1]
    refine ⟨⟨(show 5 ≤ 28 + 4 * n by omega), inB_of (wi_cT hw hn1 hn) (wi_cN hw hn1 hn) (by omega) (by decide)⟩, ?_⟩
    rw [nI_clamp (show q + 1 < 2 ^ 31 by omega)]
    conv => whnf
    refine l_Fld_expI (c := lpS n m (cjd n m d a) q) (q := q) S hw0 hn1 hn hF0 hm (hs q) hc (by omega) (fun h' a1 a2 a3 => ?_) q (sI h (28 + 4 * n) (q + 1) (nI (lpS n m (cjd n m d a) q q))) (Nat.le_refl q) (eqX_tr he (eqX_sI rfl)) (fun i i1 i2 => ?_) (fun i i1 => ?_)
    · have hw' := eqX_WS a1 hw0
      have hF' := eqX_FOK a1 (by omega) hF0
      refine S.at 60 [] rfl ?_
      conv => whnf
      refine ⟨hF'.1, ?_⟩
      conv => whnf
      rw [wi_fc hw' hn1 hn]
      refine ⟨hF'.1, ?_⟩
      conv => whnf
      try rw [wi_fc hw' hn1 hn]
      refine ⟨inB_of (j := 0) (wi_cT hw' hn1 hn) (wi_cN hw' hn1 hn) (by omega) (by decide), ?_⟩
      rw [show hI h' (28 + 4 * n) ((0 : Int32).toNatClampNeg) = nI (lpS n m (cjd n m d a) q 0) from a3]
      conv => whnf
      refine ⟨hF'.1, ?_⟩
      conv => whnf
      refine c_Field_times S hF' hn hm (hc 0) (hs q) ?_
      conv => whnf
      refine ⟨⟨(show 5 ≤ 28 + 4 * n by omega), inB_of (j := 0) (wi_cT hw' hn1 hn) (wi_cN hw' hn1 hn) (by omega) (by decide)⟩, ?_⟩
      conv => whnf
      have hF'' := eqX_FOK (A := fun k => k = 28 + 4 * n) (eqX_sI (h := h') (j := (0 : Int32).toNatClampNeg) (v := nI (fm n m (lpS n m (cjd n m d a) q 0) (cjd n m d a q))) rfl) (by omega) hF'
      refine ⟨hF''.1, ?_⟩
      conv => whnf
      refine c_Field_squared S hF'' hn (by omega) hm (hs q) ?_
      conv => whnf
      have next := ih (q + 1) (sI h' (28 + 4 * n) 0 (nI (fm n m (lpS n m (cjd n m d a) q 0) (cjd n m d a q)))) (by omega) (eqX_tr a1 (eqX_sI rfl)) (fun i i1 => by
        show _ = nI (mlX n m (lpS n m (cjd n m d a) q) (cjd n m d a q) i)
        by_cases e : i = 0
        · subst e
          rw [hI_sI]
          unfold mlX
          rw [if_pos rfl, Nat.zero_xor]
        · rw [hI_sI_j e]
          exact a2 i (by omega) i1)
      rw [← nI_1, ← cjd_sq] at next
      exact next
    · have e : i = q + 1 := by omega
      subst e
      rw [hI_sI]
      unfold mlX
      rw [if_neg (by omega), Nat.add_sub_cancel, lpS_z hm hs q (q + 1) (by omega), fm_0l hm (hs q), Nat.xor_zero]
    · rw [hI_sI_j (by omega)]
      exact h1 i i1
theorem c_Field_expandLeast {P : PSem} (S : SysOK P) {h : PH} (hw : WS h) {n m d a : Nat} (hn1 : 1 ≤ n) (hn : n ≤ 12) (hF : FOK h (27 + 4 * n) n m) (hG : GF n m) (hd : d ∣ n) (ha : a < 2 ^ n) {K : PK}
    (hK : ∀ h', eqX (fun k => k = 28 + 4 * n) h h' → (∀ i, i ≤ dgO n m d a → hI h' (28 + 4 * n) i = nI (lpD n m d a i)) → K (.int (nI (dgO n m d a))) h') : P.1 n_Field_expandLeast [.ref (27 + 4 * n), .int (nI d), .int (nI a)] h K := by
  have hm := hG.1.1
  have hdn := Nat.le_of_dvd hn1 hd
  obtain ⟨d1, d2, d3, d4⟩ := dgO_ok hG hd ha
  have d5 : n / d ≤ n := Nat.div_le_self _ _
  refine S.2.1 _ 7 _ _ _ rfl rfl ?_
  refine S.at 60 [16] rfl ?_
  conv => whnf
  refine ⟨hF.1, ?_⟩
  conv => whnf
  refine c_Field_degreeOver S hF hn hG ha hd ?_
  conv => whnf
  refine c_Math_min (a := 12) S (by decide) (by omega) ?_
  rw [Nat.min_eq_right (by omega)]
  conv => whnf
  refine ⟨hF.1, ?_⟩
  conv => whnf
  rw [wi_fc hw hn1 hn]
  refine ⟨⟨(show 5 ≤ 28 + 4 * n by omega), inB_of (j := 0) (wi_cT hw hn1 hn) (wi_cN hw hn1 hn) (by omega) (by decide)⟩, ?_⟩
  conv => whnf
  refine S.mk [(0,1),(0,1),(0,0),(0,1),(0,1),(0,1),(0,0)] ?_
  exact l_Fld_expO S hw hn1 hn (by omega) hF hm ha (by omega) hK (dgO n m d a) 0 (sI h (28 + 4 * n) 0 1) (by omega) (eqX_sI rfl) (fun i i1 => by
    have e : i = 0 := by omega
    subst e
    exact hI_sI)
theorem c_Field_leastCoefficient {P : PSem} (S : SysOK P) {h : PH} (hw : WS h) {n m d a i : Nat} (hn1 : 1 ≤ n) (hn : n ≤ 12) (hF : FOK h (27 + 4 * n) n m) (hG : GF n m) (hd : d ∣ n) (ha : a < 2 ^ n) (hi : i ≤ dgO n m d a) {K : PK}
    (hK : ∀ h', eqX (fun k => k = 28 + 4 * n) h h' → K (.int (nI (lpD n m d a i))) h') : P.1 n_Field_leastCoefficient [.ref (27 + 4 * n), .int (nI d), .int (nI a), .int (nI i)] h K := by
  have hdn := Nat.le_of_dvd hn1 hd
  obtain ⟨d1, d2, d3, d4⟩ := dgO_ok hG hd ha
  have d5 : n / d ≤ n := Nat.div_le_self _ _
  refine S.go 60 rfl rfl rfl ?_
  conv => whnf
  refine ⟨hF.1, ?_⟩
  conv => whnf
  refine c_Field_expandLeast S hw hn1 hn hF hG hd ha (fun h' a1 a2 => ?_)
  have hw' := eqX_WS a1 hw
  have hF' := eqX_FOK a1 (by omega) hF
  conv => whnf
  refine bk_f (nI_pos (by omega)) ?_
  conv => whnf
  refine bk_f (fun c => absurd ((zn_lt (by omega) (by omega)).mp c) (by omega)) ?_
  conv => whnf
  refine ⟨hF'.1, ?_⟩
  conv => whnf
  rw [wi_fc hw' hn1 hn]
  refine ⟨inB_of (wi_cT hw' hn1 hn) (wi_cN hw' hn1 hn) (by omega) (by decide), ?_⟩
  conv => whnf
  rw [nI_clamp (by omega), a2 i hi]
  exact hK h' a1
/-- a polynomial of noughts and ones out of its coefficients -/
def lbS (c : Nat → Nat) : Nat → Nat
  | 0 => 0
  | k + 1 => lbS c k ||| (c k <<< k)
theorem lbS_ok {c : Nat → Nat} (hc : ∀ k, c k = 0 ∨ c k = 1) : ∀ k, lbS c k < 2 ^ k ∧ ∀ i, (lbS c k).testBit i = (decide (i < k) && decide (c i = 1))
  | 0 => ⟨by show 0 < 1; decide, fun i => by show (0 : Nat).testBit i = _; rw [Nat.zero_testBit]; simp⟩
  | k + 1 => by
    obtain ⟨h1, h2⟩ := lbS_ok hc k
    have hb2 : ∀ i, (c k <<< k).testBit i = (decide (i = k) && decide (c k = 1)) := by
      intro i
      rcases hc k with w | w
      · rw [w]; simp
      · rw [w, Nat.shiftLeft_eq, Nat.one_mul, Nat.testBit_two_pow]
        simp [eq_comm]
    have e : ∀ i, (lbS c (k + 1)).testBit i = (decide (i < k + 1) && decide (c i = 1)) := by
      intro i
      show (lbS c k ||| _).testBit i = _
      rw [Nat.testBit_or, h2, hb2]
      by_cases hk : i = k
      · subst hk
        simp
      · by_cases hlt : i < k
        · simp [hlt, hk, Nat.lt_succ_of_lt hlt]
        · have : ¬ i < k + 1 := by omega
          simp [hlt, hk, this]
    refine ⟨?_, e⟩
    apply Nat.lt_pow_two_of_testBit
    intro i hi
    rw [e i]
    have : ¬ i < k + 1 := by omega
    simp [this]
theorem lpD_01 {n m a : Nat} (hG : GF n m) (ha : a < 2 ^ n) (k : Nat) : lpD n m 1 a k = 0 ∨ lpD n m 1 a k = 1 :=
  fix_01 hG.1 (lpS_lt hG.1.1 (cjd_lt hG.1.1 ha) _ k) (lpD_fix hG (Nat.one_dvd n) ha k)
def lpB (n m a : Nat) : Nat := lbS (lpD n m 1 a) (dgO n m 1 a + 1)
theorem lpB_lt {n m a : Nat} (hn : n ≤ 12) (hG : GF n m) (ha : a < 2 ^ n) : lpB n m a < 8192 := by
  obtain ⟨d1, d2, d3, d4⟩ := dgO_ok hG (Nat.one_dvd n) ha
  rw [Nat.div_one] at d2
  exact Nat.lt_of_lt_of_le (lbS_ok (lpD_01 hG ha) _).1 (pow_le (j := 13) (by omega))
theorem lpB_bit {n m a : Nat} (hG : GF n m) (ha : a < 2 ^ n) (i : Nat) : (lpB n m a).testBit i = decide (lpD n m 1 a i = 1) := by
  have := (lbS_ok (lpD_01 hG ha) (dgO n m 1 a + 1)).2 i
  unfold lpB
  rw [this]
  by_cases h : i < dgO n m 1 a + 1
  · rw [decide_eq_true h, Bool.true_and]
  · have z : lpD n m 1 a i = 0 := lpS_z hG.1.1 (cjd_lt hG.1.1 ha) _ i (by omega)
    rw [z, decide_eq_false h]
    rfl
theorem lpB_eq {n m a b : Nat} (hG : GF n m) (ha : a < 2 ^ n) (hb : b < 2 ^ n) : lpB n m a = lpB n m b ↔ ∃ i, sqn n m i a = b := by
  constructor
  · intro h
    refine lpD_inj hG ha hb ?_
    funext i
    have e : (lpB n m a).testBit i = (lpB n m b).testBit i := by rw [h]
    rw [lpB_bit hG ha, lpB_bit hG hb] at e
    rcases lpD_01 hG ha i with w | w <;> rcases lpD_01 hG hb i with z | z
    · rw [w, z]
    · rw [w, z] at e
      exact absurd e (by decide)
    · rw [w, z] at e
      exact absurd e (by decide)
    · rw [w, z]
  · rintro ⟨i, rfl⟩
    apply Nat.eq_of_testBit_eq
    intro j
    rw [lpB_bit hG ha, lpB_bit hG hb, lpD_cjs hG ha i]
theorem l_Fld_lp {P : PSem} (S : SysOK P) {h : PH} (hw : WS h) {n m D : Nat} {c : Nat → Nat} (hn1 : 1 ≤ n) (hn : n ≤ 12) (hF : FOK h (27 + 4 * n) n m) (hD : D ≤ 12) (hc : ∀ k, c k = 0 ∨ c k = 1) (hi : ∀ i, i ≤ D → hI h (28 + 4 * n) i = nI (c i)) {K : PK} (hK : K (.int (nI (lbS c (D + 1)))) h) : ∀ j q, q + j = D + 1 →
    P.2 n_Field_leastPolynomial 9 [some (.ref (27 + 4 * n)), none, some (.int (nI D)), some (.int (nI (lbS c q))), some (.int (nI q))] [] h 0 0 K := by
  intro j
  induction j with
  | zero =>
    intro q hq
    have e : q = D + 1 := by omega
    subst e
    refine S.at 60 [] rfl ?_
    conv => whnf
    refine bk_t ((zn_lt (by omega) (by omega)).mpr (by omega)) ?_
    conv => whnf
    exact hK
  | succ j ih =>
    intro q hq
    refine S.at 60 [] rfl ?_
    conv => whnf
    refine bk_f (fun c => absurd ((zn_lt (by omega) (by omega)).mp c) (by omega)) ?_
    conv => whnf
    refine ⟨hF.1, ?_⟩
    conv => whnf
    rw [wi_fc hw hn1 hn]
    refine ⟨inB_of (wi_cT hw hn1 hn) (wi_cN hw hn1 hn) (by omega) (by decide), ?_⟩
    conv => whnf
    rw [nI_clamp (by omega), hi q (by omega)]
    conv => whnf
    have next := ih (q + 1) (by omega)
    have e : nI (lbS c q) ||| i_shl (nI (c q) &&& 1) (nI q) = nI (lbS c (q + 1)) := by
      show _ = nI (lbS c q ||| (c q <<< q))
      rw [← zn_or]
      congr 1
      have : (2 : Nat) ^ q ≤ 4096 := pow12 (by omega)
      rcases hc q with t | t
      · rw [t]
        show i_shl (nI 0) (nI q) = nI (0 <<< q)
        exact zn_shl (by omega) (by rw [Nat.zero_shiftLeft]; decide)
      · rw [t]
        show i_shl (nI 1) (nI q) = nI (1 <<< q)
        exact zn_shl (by omega) (by rw [Nat.shiftLeft_eq]; omega)
    rw [← nI_1, ← e] at next
    exact next
theorem c_Field_leastPolynomial {P : PSem} (S : SysOK P) {h : PH} (hw : WS h) {n m a : Nat} (hn1 : 1 ≤ n) (hn : n ≤ 12) (hF : FOK h (27 + 4 * n) n m) (hG : GF n m) (ha : a < 2 ^ n) {K : PK}
    (hK : ∀ h', eqX (fun k => k = 28 + 4 * n) h h' → K (.int (nI (lpB n m a))) h') : P.1 n_Field_leastPolynomial [.ref (27 + 4 * n), .int (nI a)] h K := by
  obtain ⟨d1, d2, d3, d4⟩ := dgO_ok hG (Nat.one_dvd n) ha
  rw [Nat.div_one] at d2
  refine S.2.1 _ 5 _ _ _ rfl rfl ?_
  refine S.at 60 [9] rfl ?_
  conv => whnf
  refine ⟨hF.1, ?_⟩
  conv => whnf
  refine c_Field_expandLeast (d := 1) S hw hn1 hn hF hG (Nat.one_dvd n) ha (fun h' a1 a2 => ?_)
  have hw' := eqX_WS a1 hw
  have hF' := eqX_FOK a1 (by omega) hF
  conv => whnf
  refine S.mk [(0,1),(0,0),(0,1),(0,1),(0,1)] ?_
  exact l_Fld_lp S hw' hn1 hn hF' (by omega) (lpD_01 hG ha) a2 (hK h' a1) (dgO n m 1 a + 1) 0 (by omega)
