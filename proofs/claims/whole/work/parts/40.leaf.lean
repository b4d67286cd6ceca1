/-! LEAVES -/
theorem c_M_has {P : PSem} (S : SysOK P) {s j : Nat} (hs : s < 2 ^ 31) (hj : j < 32) {h : PH} {K : PK} (hk : K (.int (bI (s.testBit j))) h) : P.1 n_M_has [.int (nI s), .int (nI j)] h K := by
  refine S.go 40 rfl rfl rfl ?_
  conv => whnf
  refine ⟨fun c => ?_, fun c => ?_⟩
  · conv => whnf
    have e : s.testBit j = false := by
      cases hb : s.testBit j with
      | false => rfl
      | true => exact absurd ((zn_bit1 hs hj).mpr hb) c
    rw [e] at hk
    exact ⟨Or.inl rfl, hk⟩
  · conv => whnf
    have e : s.testBit j = true := (zn_bit1 hs hj).mp c
    rw [e] at hk
    exact ⟨Or.inr rfl, hk⟩
/-- the degree's loop -/
theorem l_M_degree {P : PSem} (S : SysOK P) {p i : Nat} (hp : p < 2 ^ 31) (h1 : 2 ^ i ≤ p) (h2 : p < 2 ^ (i + 1)) {h : PH} {K : PK} (hk : K (.int (nI i)) h) : ∀ j d, d + j = i → P.2 n_M_degree 2 [some (.int (nI p)), some (.int (nI d))] [] h 0 0 K := by
  have hi : i < 31 := by
    rcases Nat.lt_or_ge i 31 with w | w
    · exact w
    · have := pow_le w
      omega
  intro j
  induction j with
  | zero =>
    intro d hd
    have e : d = i := by omega
    subst e
    refine S.at 40 [] rfl ?_
    conv => whnf
    refine bk_t ?_ ?_
    · rw [zn_shr hp (by omega)]
      have : p >>> d < 2 := by
        rw [Nat.shiftRight_eq_div_pow, Nat.div_lt_iff_lt_mul (Nat.two_pow_pos d)]
        rw [Nat.pow_succ] at h2
        omega
      exact (zn_le (b := 1) (by omega) (by decide)).mpr (by omega)
    · conv => whnf
      exact hk
  | succ j ih =>
    intro d hd
    refine S.at 40 [] rfl ?_
    conv => whnf
    refine bk_f ?_ ?_
    · rw [zn_shr hp (by omega)]
      intro c
      have hlt : p >>> d < 2 ^ 31 := Nat.lt_of_le_of_lt (by rw [Nat.shiftRight_eq_div_pow]; exact Nat.div_le_self _ _) hp
      have c' := (zn_le (b := 1) hlt (by decide)).mp c
      have : 2 ≤ p >>> d := by
        rw [Nat.shiftRight_eq_div_pow, Nat.le_div_iff_mul_le (Nat.two_pow_pos d)]
        have : 2 * 2 ^ d = 2 ^ (d + 1) := by rw [Nat.pow_succ]; omega
        rw [this]
        exact Nat.le_trans (pow_le (by omega)) h1
      omega
    · conv => whnf
      have := ih (d + 1) (by omega)
      rw [← nI_1] at this
      exact this
theorem c_M_degree {P : PSem} (S : SysOK P) {p i : Nat} (hp : p < 2 ^ 31) (h1 : 2 ^ i ≤ p) (h2 : p < 2 ^ (i + 1)) {h : PH} {K : PK} (hk : K (.int (nI i)) h) : P.1 n_M_degree [.int (nI p)] h K := by
  refine S.2.1 _ 2 _ _ _ rfl rfl ?_
  refine S.at 2 [] rfl ?_
  conv => whnf
  exact l_M_degree S hp h1 h2 hk i 0 (by omega)
theorem SysOK.mk {P : PSem} (S : SysOK P) {i ix : Nat} {pl : PL} {st : List Value} {h : PH} {ca sl : Nat} {K : PK} (m : List (Int32 × Nat)) (hp : P.2 i ix (lmk m pl) st h ca sl K) : P.2 i ix pl st h ca sl K :=
  S.2.2.1 i ix pl _ st h ca sl K (fun _ _ hj => lmk_get hj) hp
theorem c_M_in {P : PSem} (S : SysOK P) (v lo hi : Int32) {h : PH} {K : PK} (hk : K (.int (bI (decide (lo ≤ v ∧ v ≤ hi)))) h) : P.1 n_M_in [.int v, .int lo, .int hi] h K := by
  refine S.go 40 rfl rfl rfl ?_
  conv => whnf
  refine ⟨fun c => ?_, fun c => ?_⟩
  · conv => whnf
    have e : decide (lo ≤ v ∧ v ≤ hi) = false := by
      rw [decide_eq_false_iff_not]
      exact fun q => absurd c (Int32.not_lt.mpr q.1)
    rw [e] at hk
    exact ⟨Or.inl rfl, hk⟩
  · conv => whnf
    refine ⟨fun c2 => ?_, fun c2 => ?_⟩
    · conv => whnf
      have e : decide (lo ≤ v ∧ v ≤ hi) = false := by
        rw [decide_eq_false_iff_not]
        exact fun q => absurd c2 (Int32.not_lt.mpr q.2)
      rw [e] at hk
      exact ⟨Or.inl rfl, hk⟩
    · conv => whnf
      have e : decide (lo ≤ v ∧ v ≤ hi) = true := by
        rw [decide_eq_true_eq]
        exact ⟨Int32.not_lt.mp c, Int32.not_lt.mp c2⟩
      rw [e] at hk
      exact ⟨Or.inr rfl, hk⟩
def okF (n : Int32) : Bool := decide ((1 : Int32) ≤ n ∧ n ≤ 12)
theorem c_M_isField {P : PSem} (S : SysOK P) (n : Int32) {h : PH} {K : PK} (hk : K (.int (bI (okF n))) h) : P.1 n_M_isField [.int n] h K := by
  refine S.go 40 rfl rfl rfl ?_
  conv => whnf
  refine c_M_in S _ _ _ ?_
  conv => whnf
  exact ⟨bI_01 _, hk⟩
/-- the field's product in the reference -/
theorem l_M_product {P : PSem} (S : SysOK P) {h : PH} (hw : WS h) {n m b : Nat} (hn : n ≤ 12) (hm : MDg n m) (hnow : hI h 125 n = nI m) (hb : b < 2 ^ n) {K : PK} : ∀ j k s o, k + j = n → s < 2 ^ n → o < 2 ^ n → K (.int (nI (fmL n m b j k s o))) h →
    P.2 n_M_product 6 [some (.ref 116), some (.int (nI n)), none, some (.int (nI b)), some (.int (nI s)), some (.int (nI o)), some (.int (nI k))] [] h 0 0 K := by
  have hn31 : (2 : Nat) ^ n ≤ 4096 := pow_le hn
  intro j
  induction j with
  | zero =>
    intro k s o hk hs ho hK
    refine S.at 60 [] rfl ?_
    conv => whnf
    refine bk_t ((zn_le (by omega) (by omega)).mpr (by omega)) ?_
    conv => whnf
    exact hK
  | succ j ih =>
    intro k s o hk hs ho hK
    refine S.at 60 [] rfl ?_
    conv => whnf
    refine bk_f (fun c => absurd ((zn_le (by omega) (by omega)).mp c) (by omega)) ?_
    conv => whnf
    refine c_M_has S (by omega) (by omega) ?_
    conv => whnf
    have ho2 : o <<< 1 < 2 ^ 13 := Nat.lt_of_lt_of_le (shl_lt ho) (pow_le (by omega))
    have hsh : i_shl (nI o) 1 = nI (o <<< 1) := zn_shl (k := 1) (by decide) (by omega)
    have hs' : (if b.testBit k then s ^^^ o else s) < 2 ^ n := by
      split
      · exact xor_lt hs ho
      · exact hs
    have next := ih (k + 1) (if b.testBit k then s ^^^ o else s) (fmx n m o) (by omega) hs' (fmx_ok hm ho).1 hK
    rw [← nI_1] at next
    refine bk_b0 (fun e1 => ?_) (fun e1 => ?_)
    · rw [e1] at next
      conv => whnf
      rw [hsh]
      refine c_M_has S (by omega) (by omega) ?_
      conv => whnf
      unfold fmx at next
      refine bk_b0 (fun e2 => ?_) (fun e2 => ?_)
      · rw [e2] at next
        conv => whnf
        exact next
      · rw [e2] at next
        conv => whnf
        refine ⟨wt_116 hw, ?_⟩
        conv => whnf
        rw [wr_116_18 hw]
        refine ⟨inB_of (wt_125 hw) (wn_125 hw) (by omega) (by decide), ?_⟩
        conv => whnf
        rw [nI_clamp (by omega), hnow]
        rw [if_pos rfl, ← zn_xor] at next
        exact next
    · rw [e1] at next
      conv => whnf
      rw [hsh]
      refine c_M_has S (by omega) (by omega) ?_
      conv => whnf
      unfold fmx at next
      rw [if_pos rfl, ← zn_xor] at next
      refine bk_b0 (fun e2 => ?_) (fun e2 => ?_)
      · rw [e2] at next
        conv => whnf
        exact next
      · rw [e2] at next
        conv => whnf
        refine ⟨wt_116 hw, ?_⟩
        conv => whnf
        rw [wr_116_18 hw]
        refine ⟨inB_of (wt_125 hw) (wn_125 hw) (by omega) (by decide), ?_⟩
        conv => whnf
        rw [nI_clamp (by omega), hnow]
        rw [if_pos rfl, ← zn_xor] at next
        exact next
theorem c_M_product {P : PSem} (S : SysOK P) {h : PH} (hw : WS h) {n m a b : Nat} (hn : n ≤ 12) (hm : MDg n m) (hnow : hI h 125 n = nI m) (ha : a < 2 ^ n) (hb : b < 2 ^ n) {K : PK} (hk : K (.int (nI (fm n m a b))) h) : P.1 n_M_product [.ref 116, .int (nI n), .int (nI a), .int (nI b)] h K := by
  refine S.2.1 _ 7 _ _ _ rfl rfl ?_
  refine S.at 6 [] rfl ?_
  conv => whnf
  refine S.mk [(0,1),(0,1),(0,0),(0,1),(0,1),(0,1),(0,1)] ?_
  exact l_M_product S hw hn hm hnow hb n 0 0 a (by omega) (zero_lt2 n) ha hk
