/-! the reference's values and images; digits, letters -/
theorem c_M_isDigit {P : PSem} (S : SysOK P) (v : Int32) {h : PH} {K : PK} (hk : K (.int (bI (decide ((48 : Int32) ≤ v ∧ v ≤ 57)))) h) : P.1 n_M_isDigit [.int v] h K := by
  refine S.go 40 rfl rfl rfl ?_
  conv => whnf
  refine ⟨fun c => ?_, fun c => ?_⟩
  · conv => whnf
    rw [decide_eq_false (fun q => absurd c (Int32.not_lt.mpr q.1))] at hk
    exact ⟨Or.inl rfl, hk⟩
  · conv => whnf
    refine ⟨fun c2 => ?_, fun c2 => ?_⟩
    · conv => whnf
      rw [decide_eq_false (fun q => absurd c2 (Int32.not_lt.mpr q.2))] at hk
      exact ⟨Or.inl rfl, hk⟩
    · conv => whnf
      rw [decide_eq_true ⟨Int32.not_lt.mp c, Int32.not_lt.mp c2⟩] at hk
      exact ⟨Or.inr rfl, hk⟩
theorem c_M_isLetter {P : PSem} (S : SysOK P) (v : Int32) {h : PH} {K : PK} (hk : K (.int (bI (decide ((97 : Int32) ≤ v ∧ v ≤ 122)))) h) : P.1 n_M_isLetter [.int v] h K := by
  refine S.go 40 rfl rfl rfl ?_
  conv => whnf
  refine ⟨fun c => ?_, fun c => ?_⟩
  · conv => whnf
    rw [decide_eq_false (fun q => absurd c (Int32.not_lt.mpr q.1))] at hk
    exact ⟨Or.inl rfl, hk⟩
  · conv => whnf
    refine ⟨fun c2 => ?_, fun c2 => ?_⟩
    · conv => whnf
      rw [decide_eq_false (fun q => absurd c2 (Int32.not_lt.mpr q.2))] at hk
      exact ⟨Or.inl rfl, hk⟩
    · conv => whnf
      rw [decide_eq_true ⟨Int32.not_lt.mp c, Int32.not_lt.mp c2⟩] at hk
      exact ⟨Or.inr rfl, hk⟩
theorem c_Math_max {P : PSem} (S : SysOK P) {a b : Nat} (ha : a < 2 ^ 31) (hb : b < 2 ^ 31) {h : PH} {K : PK} (hk : K (.int (nI (max a b))) h) : P.1 n_Math_max [.int (nI a), .int (nI b)] h K := by
  refine S.go 40 rfl rfl rfl ?_
  conv => whnf
  refine bk_lt ha hb (fun c => ?_) (fun c => ?_)
  · conv => whnf
    rw [Nat.max_eq_right (by omega)] at hk
    exact hk
  · conv => whnf
    rw [Nat.max_eq_left c] at hk
    exact hk
/-- Horner's way in the reference -/
theorem l_M_valueAt {P : PSem} (S : SysOK P) {h : PH} (hw : WS h) {n m a p : Nat} (hn : n ≤ 12) (hm : MDg n m) (hnow : hI h 125 n = nI m) (ha : a < 2 ^ n) (hp : p < 8192) {K : PK} : ∀ j o, j ≤ 13 → o < 2 ^ n → K (.int (nI (hrn n m a p j o))) h →
    P.2 n_M_valueAt 5 [some (.ref 116), some (.int (nI n)), some (.int (nI p)), some (.int (nI a)), some (.int (nI o)), some (.int (nI j + (-1)))] [] h 0 0 K := by
  intro j
  induction j with
  | zero =>
    intro o _ ho hK
    refine S.at 60 [] rfl ?_
    conv => whnf
    refine bk_t neg1 ?_
    conv => whnf
    exact hK
  | succ j ih =>
    intro o hj ho hK
    rw [pk_m1]
    refine S.at 60 [] rfl ?_
    conv => whnf
    refine bk_f (nI_pos (by omega)) ?_
    conv => whnf
    refine ⟨wt_116 hw, ?_⟩
    refine c_M_product S hw hn hm hnow ho ha ?_
    conv => whnf
    refine c_M_has S (by omega) (by omega) ?_
    conv => whnf
    have next := ih (fm n m o a ^^^ (p.testBit j).toNat) (by omega) (xor_lt (fm_lt hm ho ha) (bt_lt hm _)) hK
    rw [← zn_xor] at next
    refine bk_b0 (fun e1 => ?_) (fun e1 => ?_)
    · rw [e1] at next
      conv => whnf
      exact next
    · rw [e1] at next
      conv => whnf
      exact next
theorem c_M_valueAt {P : PSem} (S : SysOK P) {h : PH} (hw : WS h) {n m a p : Nat} (hn : n ≤ 12) (hm : MDg n m) (hnow : hI h 125 n = nI m) (ha : a < 2 ^ n) (hp : p < 8192) {K : PK} (hK : K (.int (nI (pvl n m a p))) h) : P.1 n_M_valueAt [.ref 116, .int (nI n), .int (nI p), .int (nI a)] h K := by
  have l1 := log2_lt13 hp
  refine S.2.1 _ 6 _ _ _ rfl rfl ?_
  refine S.at 30 [5] rfl ?_
  conv => whnf
  refine c_M_degreeL S (by omega) ?_
  conv => whnf
  have := l_M_valueAt S hw hn hm hnow ha hp (p.log2 + 1) 0 (by omega) (zero_lt2 n) (K := K) (by rw [hrn_0 hm ha (Nat.lt_log2_self)]; exact hK)
  rw [pk_m1] at this
  exact this
theorem zn_plus (a b : Nat) : nI (a + b) = nI a + nI b := Int32.ofNat_add a b
theorem zn_tms (a b : Nat) : nI (a * b) = nI a * nI b := Int32.ofNat_mul a b
/-- Horner's way up from a subfield: the image of x stands in xUp -/
theorem l_M_up {P : PSem} (S : SysOK P) {h : PH} (hw : WS h) {d n m a x : Nat} (hn : n ≤ 12) (hd : d ≤ 12) (hm : MDg n m) (hnow : hI h 125 n = nI m) (hx : hI h 144 (13 * d + n) = nI x) (hxl : x < 2 ^ n) (ha : a < 8192) {K : PK} : ∀ j o, j ≤ 13 → o < 2 ^ n → K (.int (nI (hrn n m x a j o))) h →
    P.2 n_M_up 6 [some (.ref 116), some (.int (nI d)), some (.int (nI n)), some (.int (nI a)), some (.int (nI o)), some (.int (nI j + (-1)))] [] h 0 0 K := by
  intro j
  induction j with
  | zero =>
    intro o _ ho hK
    refine S.at 60 [] rfl ?_
    conv => whnf
    refine bk_t neg1 ?_
    conv => whnf
    exact hK
  | succ j ih =>
    intro o hj ho hK
    rw [pk_m1]
    refine S.at 60 [] rfl ?_
    conv => whnf
    refine bk_f (nI_pos (by omega)) ?_
    conv => whnf
    refine ⟨wt_116 hw, ?_⟩
    conv => whnf
    rw [wr_116_44 hw]
    have e : (13 : Int32) * nI d + nI n = nI (13 * d + n) := by
      rw [zn_plus, zn_tms]
      rfl
    refine ⟨(show inB h 144 20 (13 * nI d + nI n) by rw [e]; exact inB_of (wt_144 hw) (wn_144 hw) (by omega) (by decide)), ?_⟩
    conv => whnf
    refine ⟨wt_116 hw, ?_⟩
    have key : ∀ K' : PK, K' (.int (nI (fm n m o x))) h → P.1 n_M_product [.ref 116, .int (nI n), .int (nI o), .int (hI h 144 ((13 : Int32) * nI d + nI n).toNatClampNeg)] h K' := fun K' hk' => by
      rw [e, nI_clamp (by omega), hx]
      exact c_M_product S hw hn hm hnow ho hxl hk'
    refine key _ ?_
    conv => whnf
    refine c_M_has S (by omega) (by omega) ?_
    conv => whnf
    have next := ih (fm n m o x ^^^ (a.testBit j).toNat) (by omega) (xor_lt (fm_lt hm ho hxl) (bt_lt hm _)) hK
    rw [← zn_xor] at next
    refine bk_b0 (fun e1 => ?_) (fun e1 => ?_)
    · rw [e1] at next
      conv => whnf
      exact next
    · rw [e1] at next
      conv => whnf
      exact next
theorem c_M_up {P : PSem} (S : SysOK P) {h : PH} (hw : WS h) {d n m a x : Nat} (hn : n ≤ 12) (hd1 : 1 ≤ d) (hd : d ≤ 12) (hm : MDg n m) (hnow : hI h 125 n = nI m) (hx : hI h 144 (13 * d + n) = nI x) (hxl : x < 2 ^ n) (ha : a < 2 ^ d) {K : PK} (hK : K (.int (nI (pvl n m x a))) h) : P.1 n_M_up [.ref 116, .int (nI d), .int (nI n), .int (nI a)] h K := by
  have hd4 : (2 : Nat) ^ d ≤ 4096 := pow_le hd
  refine S.2.1 _ 6 _ _ _ rfl rfl ?_
  refine S.at 30 [6] rfl ?_
  conv => whnf
  have := l_M_up (a := a) S hw hn hd hm hnow hx hxl (by omega) d 0 (by omega) (zero_lt2 n) (K := K) (by rw [hrn_0 hm hxl ha]; exact hK)
  have e : nI d + (-1) = nI d - 1 := by
    rw [Int32.sub_eq_add_neg]
  rw [e] at this
  exact this
