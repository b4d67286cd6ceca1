theorem pdq_hi {m n p o : Nat} : ∀ i j, p < 2 ^ (n + j) → pdq m n (j + i) p o = pdq m n j p o
  | 0, j, _ => rfl
  | i + 1, j, h => by
    rw [← Nat.add_assoc]
    show pdq m n (j + i) (if p.testBit (n + (j + i)) then _ else p) (if p.testBit (n + (j + i)) then _ else o) = _
    rw [tb_lt h (by omega), if_neg (by decide), if_neg (by decide)]
    exact pdq_hi i j h
theorem l_M_quotient {P : PSem} (S : SysOK P) {h : PH} {by_ d : Nat} (h1 : 2 ^ d ≤ by_) (h2 : by_ < 2 ^ (d + 1)) {K : PK} : ∀ j left o, d + j ≤ 13 → left < 2 ^ (d + j) → K (.int (nI (pdq by_ d j left o))) h →
    P.2 n_M_quotient 10 [none, some (.int (nI by_)), some (.int (nI left)), some (.int (nI o)), some (.int (nI d)), some (.int (nI (d + j) + (-1)))] [] h 0 0 K := by
  intro j
  induction j with
  | zero =>
    intro left o hd hl hK
    refine S.at 60 [] rfl ?_
    conv => whnf
    refine bk_t (kend (by omega)) ?_
    conv => whnf
    exact hK
  | succ j ih =>
    intro left o hd hl hK
    rw [km1]
    have hl13 : left < 2 ^ 13 := Nat.lt_of_lt_of_le hl (pow_le hd)
    have hb13 : by_ <<< j < 2 ^ 14 := Nat.lt_of_lt_of_le (shl_lt h2) (pow_le (by omega))
    have hj1 : 1 <<< j < 2 ^ 14 := by
      rw [Nat.shiftLeft_eq, Nat.one_mul]
      exact Nat.lt_of_le_of_lt (pow_le (j := 13) (by omega)) (by decide)
    refine S.at 60 [] rfl ?_
    conv => whnf
    refine bk_f (fun c => absurd ((zn_lt (by omega) (by omega)).mp c) (by omega)) ?_
    conv => whnf
    refine c_M_has S (by omega) (by omega) ?_
    conv => whnf
    have next := ih _ _ (by omega) (prd_lt_step h1 h2 hl) hK
    refine bk_b1 (fun e1 => ?_) (fun e1 => ?_)
    · have ej : nI (d + j) - nI d = nI j := by
        rw [pk_sub (Nat.le_add_right d j), Nat.add_sub_cancel_left]
      rw [e1, if_pos rfl, if_pos rfl, ← zn_xor, ← zn_or, ← zn_shl (a := by_) (k := j) (by omega) (by omega), ← zn_shl (a := 1) (k := j) (by omega) (by omega), ← ej] at next
      conv => whnf
      exact next
    · rw [e1] at next
      conv => whnf
      exact next
theorem c_M_quotient {P : PSem} (S : SysOK P) {h : PH} {p by_ : Nat} (hp : p < 8192) (hb0 : by_ ≠ 0) (hb : by_ < 8192) {K : PK} (hK : K (.int (nI (pdq by_ by_.log2 (13 - by_.log2) p 0))) h) : P.1 n_M_quotient [.int (nI p), .int (nI by_)] h K := by
  have l1 := log2_lt13 hp
  have l2 := log2_lt13 hb
  have hpl : p < 2 ^ (p.log2 + 1) := Nat.lt_log2_self
  refine S.2.1 _ 6 _ _ _ rfl rfl ?_
  refine S.at 30 [10] rfl ?_
  conv => whnf
  refine c_M_degreeL S (by omega) ?_
  conv => whnf
  refine c_M_degreeL S (by omega) ?_
  conv => whnf
  refine S.mk [(0,0),(0,1),(0,1),(0,1),(0,1),(0,1)] ?_
  rcases Nat.lt_or_ge p.log2 by_.log2 with w | w
  · refine S.at 30 [] rfl ?_
    conv => whnf
    refine bk_t ((zn_lt (by omega) (by omega)).mpr w) ?_
    conv => whnf
    have := pdq_hi (m := by_) (n := by_.log2) (p := p) (o := 0) (13 - by_.log2) 0 (Nat.lt_of_lt_of_le hpl (pow_le (by omega)))
    rw [Nat.zero_add] at this
    rw [this] at hK
    exact hK
  · have e : nI (by_.log2 + (p.log2 + 1 - by_.log2)) + (-1) = nI p.log2 := by
      rw [show by_.log2 + (p.log2 + 1 - by_.log2) = p.log2 + 1 by omega]
      exact pk_m1 _
    have e2 := pdq_hi (m := by_) (n := by_.log2) (p := p) (o := 0) (12 - p.log2) (p.log2 + 1 - by_.log2) (by rw [show by_.log2 + (p.log2 + 1 - by_.log2) = p.log2 + 1 by omega]; exact hpl)
    rw [show p.log2 + 1 - by_.log2 + (12 - p.log2) = 13 - by_.log2 by omega] at e2
    rw [e2] at hK
    have := l_M_quotient S (h := h) (K := K) (Nat.log2_self_le hb0) Nat.lt_log2_self (p.log2 + 1 - by_.log2) p 0 (by omega) (by rw [show by_.log2 + (p.log2 + 1 - by_.log2) = p.log2 + 1 by omega]; exact hpl) hK
    rw [e] at this
    exact this
