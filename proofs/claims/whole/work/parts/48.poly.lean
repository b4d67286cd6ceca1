/-! the class's polynomials -/
theorem c_FT_isField {P : PSem} (S : SysOK P) (n : Int32) {h : PH} {K : PK} (hk : K (.int (bI (okF n))) h) : P.1 n_FT_isField [.int n] h K := by
  refine S.go 40 rfl rfl rfl ?_
  unfold okF at hk
  conv => whnf
  refine ⟨fun c => ?_, fun c => ?_⟩
  · conv => whnf
    rw [decide_eq_false (fun q => absurd c (Int32.not_lt.mpr q.1))] at hk
    exact ⟨Or.inl rfl, hk⟩
  · conv => whnf
    refine ⟨fun c2 => ?_, fun c2 => ?_⟩
    · conv => whnf
      rw [decide_eq_false (fun q => absurd c2 (Int32.not_lt.mpr q.2))] at hk
      exact ⟨Or.inl rfl, hk⟩
    · conv => whnf
      rw [decide_eq_true ⟨Int32.not_lt.mp c, Int32.not_lt.mp c2⟩] at hk
      exact ⟨Or.inr rfl, hk⟩
theorem c_FT_hasDegree {P : PSem} (S : SysOK P) (n : Int32) {h : PH} {K : PK} (hk : K (.int (bI (decide ((2 : Int32) ≤ n ∧ n ≤ 8191)))) h) : P.1 n_FT_hasDegree [.int n] h K := by
  refine S.go 40 rfl rfl rfl ?_
  conv => whnf
  refine ⟨fun c => ?_, fun c => ?_⟩
  · conv => whnf
    rw [decide_eq_false (fun q => absurd c (Int32.not_lt.mpr q.1))] at hk
    exact ⟨Or.inl rfl, hk⟩
  · conv => whnf
    refine ⟨fun c2 => ?_, fun c2 => ?_⟩
    · conv => whnf
      rw [decide_eq_false (fun q => absurd c2 (Int32.not_lt.mpr q.2))] at hk
      exact ⟨Or.inl rfl, hk⟩
    · conv => whnf
      rw [decide_eq_true ⟨Int32.not_lt.mp c, Int32.not_lt.mp c2⟩] at hk
      exact ⟨Or.inr rfl, hk⟩
/-- the class's degree of a nonzero polynomial -/
theorem l_Poly_degreeOf {P : PSem} (S : SysOK P) {h : PH} {p i : Nat} (hi : i ≤ 12) (h1 : 2 ^ i ≤ p) (h2 : p < 2 ^ (i + 1)) {K : PK} (hK : K (.int (nI i)) h) : ∀ j, i + j ≤ 12 →
    P.2 n_Poly_degreeOf 2 [some (.int (nI p)), some (.int (nI (i + j)))] [] h 0 0 K := by
  have hp : p < 2 ^ 13 := Nat.lt_of_lt_of_le h2 (pow_le (by omega))
  intro j
  induction j with
  | zero =>
    intro hj
    refine S.at 60 [] rfl ?_
    conv => whnf
    refine bk_f (nI_pos (by omega)) ?_
    conv => whnf
    refine bk_f (fun c => ?_) ?_
    · have c' := (zn_bit0 (a := p) (k := i + 0) (by omega) (by omega)).mp c
      rw [Nat.add_zero, tb_top h1 h2] at c'
      cases c'
    · conv => whnf
      exact hK
  | succ j ih =>
    intro hj
    have next := ih (by omega)
    rw [← km1] at next
    refine S.at 60 [] rfl ?_
    conv => whnf
    refine bk_f (nI_pos (by omega)) ?_
    conv => whnf
    refine bk_t ((zn_bit0 (a := p) (k := i + (j + 1)) (by omega) (by omega)).mpr (tb_lt h2 (by omega))) ?_
    conv => whnf
    exact next
theorem c_Poly_degreeOf {P : PSem} (S : SysOK P) {h : PH} {p : Nat} (h0 : p ≠ 0) (hp : p < 8192) {K : PK} (hK : K (.int (nI p.log2)) h) : P.1 n_Poly_degreeOf [.int (nI p)] h K := by
  have l1 := log2_lt13 hp
  refine S.2.1 _ 2 _ _ _ rfl rfl ?_
  refine S.at 2 [] rfl ?_
  conv => whnf
  have := l_Poly_degreeOf S (h := h) (K := K) (by omega) (Nat.log2_self_le h0) Nat.lt_log2_self hK (12 - p.log2) (by omega)
  rw [show p.log2 + (12 - p.log2) = 12 by omega] at this
  exact this
/-- the class's remainder -/
theorem l_Poly_remainder {P : PSem} (S : SysOK P) {h : PH} {by_ d : Nat} (h1 : 2 ^ d ≤ by_) (h2 : by_ < 2 ^ (d + 1)) {K : PK} : ∀ j left, d + j ≤ 13 → left < 2 ^ (d + j) → K (.int (nI (prd by_ d j left))) h →
    P.2 n_Poly_remainder 7 [none, some (.int (nI by_)), some (.int (nI d)), some (.int (nI left)), some (.int (nI (d + j) + (-1)))] [] h 0 0 K := by
  intro j
  induction j with
  | zero =>
    intro left hd hl hK
    refine S.at 60 [] rfl ?_
    conv => whnf
    refine bk_t (kend (by omega)) ?_
    conv => whnf
    exact hK
  | succ j ih =>
    intro left hd hl hK
    rw [km1]
    have hl13 : left < 2 ^ 13 := Nat.lt_of_lt_of_le hl (pow_le hd)
    have hb13 : by_ <<< j < 2 ^ 14 := Nat.lt_of_lt_of_le (shl_lt h2) (pow_le (by omega))
    have hby : by_ < 2 ^ 14 := Nat.lt_of_lt_of_le h2 (pow_le (by omega))
    refine S.at 60 [] rfl ?_
    conv => whnf
    refine bk_f (fun c => absurd ((zn_lt (by omega) (by omega)).mp c) (by omega)) ?_
    conv => whnf
    refine bk_f (nI_pos (by omega)) ?_
    conv => whnf
    have next := ih (if left.testBit (d + j) then left ^^^ (by_ <<< j) else left) (by omega) (prd_lt_step h1 h2 hl) hK
    refine ⟨fun c => ?_, fun c => ?_⟩
    · have e1 : left.testBit (d + j) = false := (zn_bit0 (a := left) (k := d + j) (by omega) (by omega)).mp c
      rw [e1] at next
      conv => whnf
      exact next
    · have e1 : left.testBit (d + j) = true := by
        cases hb : left.testBit (d + j) with
        | true => rfl
        | false => exact absurd ((zn_bit0 (a := left) (k := d + j) (by omega) (by omega)).mpr hb) c
      rw [e1, if_pos rfl, ← zn_xor, ← zn_shl (a := by_) (k := j) (by omega) (by omega), ← Nat.add_sub_cancel_left (n := d) (m := j), ← pk_sub (Nat.le_add_right d j)] at next
      conv => whnf
      rw [Nat.add_sub_cancel_left] at next
      exact next
theorem c_Poly_remainder {P : PSem} (S : SysOK P) {h : PH} {p by_ : Nat} (hp : p < 8192) (hb0 : by_ ≠ 0) (hb : by_ < 8192) {K : PK} (hK : K (.int (nI (rem13 p by_))) h) : P.1 n_Poly_remainder [.int (nI p), .int (nI by_)] h K := by
  have l2 := log2_lt13 hb
  refine S.2.1 _ 5 _ _ _ rfl rfl ?_
  refine S.at 30 [7] rfl ?_
  conv => whnf
  refine c_Poly_degreeOf S hb0 hb ?_
  conv => whnf
  refine S.mk [(0,0),(0,1),(0,1),(0,1),(0,1)] ?_
  have := l_Poly_remainder S (h := h) (K := K) (Nat.log2_self_le hb0) Nat.lt_log2_self (13 - by_.log2) p (by omega) (by rw [show by_.log2 + (13 - by_.log2) = 13 by omega]; exact hp) hK
  rw [show by_.log2 + (13 - by_.log2) = 13 by omega] at this
  exact this
