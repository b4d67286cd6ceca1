/-! remainders: the reference's and the class's -/
theorem prd_hi {m n p : Nat} : ∀ i j, p < 2 ^ (n + j) → prd m n (j + i) p = prd m n j p
  | 0, j, _ => rfl
  | i + 1, j, h => by
    rw [← Nat.add_assoc]
    show prd m n (j + i) (if p.testBit (n + (j + i)) then _ else p) = _
    rw [tb_lt h (by omega), if_neg (by decide)]
    exact prd_hi i j h
theorem c_M_degreeL {P : PSem} (S : SysOK P) {p : Nat} (hp : p < 2 ^ 31) {h : PH} {K : PK} (hk : K (.int (nI p.log2)) h) : P.1 n_M_degree [.int (nI p)] h K := by
  rcases Nat.eq_zero_or_pos p with z | z
  · subst z
    refine S.go 40 rfl rfl rfl ?_
    conv => whnf
    refine bk_t (by decide) ?_
    conv => whnf
    exact hk
  · exact c_M_degree S hp (Nat.log2_self_le (by omega)) Nat.lt_log2_self hk
theorem km1 (d j : Nat) : nI (d + (j + 1)) + (-1) = nI (d + j) := pk_m1 (d + j)
theorem kend {d : Nat} (hd : d < 2 ^ 30) : nI (d + 0) + (-1) < nI d := by
  cases d with
  | zero => decide
  | succ d =>
    rw [Nat.add_zero, pk_m1]
    exact (zn_lt (by omega) (by omega)).mpr (by omega)
theorem prd_lt_step {m n j a : Nat} (h1 : 2 ^ n ≤ m) (h2 : m < 2 ^ (n + 1)) (h : a < 2 ^ (n + (j + 1))) : (if a.testBit (n + j) then a ^^^ (m <<< j) else a) < 2 ^ (n + j) := by
  have hm1 : 2 ^ (n + j) ≤ m <<< j := by
    rw [Nat.shiftLeft_eq, Nat.pow_add]
    exact Nat.mul_le_mul_right _ h1
  have hm2 : m <<< j < 2 ^ (n + j + 1) := by
    have := shl_lt (i := j) h2
    rwa [show n + 1 + j = n + j + 1 by omega] at this
  split
  · rename_i hb
    apply Nat.lt_pow_two_of_testBit
    intro i hi
    rw [Nat.testBit_xor]
    rcases Nat.eq_or_lt_of_le hi with rfl | hgt
    · rw [hb, tb_top hm1 hm2]; rfl
    · rw [tb_lt h (by omega : n + (j + 1) ≤ i), tb_lt hm2 (by omega)]; rfl
  · rename_i hb
    apply Nat.lt_pow_two_of_testBit
    intro i hi
    rcases Nat.eq_or_lt_of_le hi with rfl | hgt
    · simpa using hb
    · exact tb_lt h (by omega)
theorem l_M_rest {P : PSem} (S : SysOK P) {h : PH} {by_ d : Nat} (h1 : 2 ^ d ≤ by_) (h2 : by_ < 2 ^ (d + 1)) {K : PK} : ∀ j left, d + j ≤ 13 → left < 2 ^ (d + j) → K (.int (nI (prd by_ d j left))) h →
    P.2 n_M_rest 8 [none, some (.int (nI by_)), some (.int (nI left)), some (.int (nI d)), some (.int (nI (d + j) + (-1)))] [] h 0 0 K := by
  intro j
  induction j with
  | zero =>
    intro left hd hl hK
    refine S.at 60 [] rfl ?_
    conv => whnf
    refine bk_t (kend (by omega)) ?_
    conv => whnf
    exact hK
  | succ j ih =>
    intro left hd hl hK
    rw [km1]
    have hl13 : left < 2 ^ 13 := Nat.lt_of_lt_of_le hl (pow_le hd)
    have hb13 : by_ <<< j < 2 ^ 14 := Nat.lt_of_lt_of_le (shl_lt h2) (pow_le (by omega))
    have hby : by_ < 2 ^ 14 := Nat.lt_of_lt_of_le h2 (pow_le (by omega))
    refine S.at 60 [] rfl ?_
    conv => whnf
    refine bk_f (fun c => absurd ((zn_lt (by omega) (by omega)).mp c) (by omega)) ?_
    conv => whnf
    refine c_M_has S (by omega) (by omega) ?_
    conv => whnf
    have next := ih (if left.testBit (d + j) then left ^^^ (by_ <<< j) else left) (by omega) (prd_lt_step h1 h2 hl) hK
    refine bk_b0 (fun e1 => ?_) (fun e1 => ?_)
    · rw [e1] at next
      conv => whnf
      exact next
    · rw [e1, if_pos rfl, ← zn_xor, ← zn_shl (a := by_) (k := j) (by omega) (by omega), ← Nat.add_sub_cancel_left (n := d) (m := j), ← pk_sub (Nat.le_add_right d j)] at next
      conv => whnf
      rw [Nat.add_sub_cancel_left] at next
      exact next
theorem c_M_rest {P : PSem} (S : SysOK P) {h : PH} {p by_ : Nat} (hp : p < 8192) (hb0 : by_ ≠ 0) (hb : by_ < 8192) {K : PK} (hK : K (.int (nI (rem13 p by_))) h) : P.1 n_M_rest [.int (nI p), .int (nI by_)] h K := by
  have l1 := log2_lt13 hp
  have l2 := log2_lt13 hb
  refine S.2.1 _ 5 _ _ _ rfl rfl ?_
  refine S.at 30 [8] rfl ?_
  conv => whnf
  refine c_M_degreeL S (by omega) ?_
  conv => whnf
  refine c_M_degreeL S (by omega) ?_
  conv => whnf
  refine S.mk [(0,0),(0,1),(0,1),(0,1),(0,1)] ?_
  have hpl : p < 2 ^ (p.log2 + 1) := Nat.lt_log2_self
  rcases Nat.lt_or_ge p.log2 by_.log2 with w | w
  · refine S.at 30 [] rfl ?_
    conv => whnf
    refine bk_t ((zn_lt (by omega) (by omega)).mpr w) ?_
    conv => whnf
    have e : rem13 p by_ = p := by
      unfold rem13
      have := prd_hi (m := by_) (n := by_.log2) (p := p) (13 - by_.log2) 0 (Nat.lt_of_lt_of_le hpl (pow_le (by omega)))
      rw [Nat.zero_add] at this
      exact this
    rw [e] at hK
    exact hK
  · have e : nI (by_.log2 + (p.log2 + 1 - by_.log2)) + (-1) = nI p.log2 := by
      rw [show by_.log2 + (p.log2 + 1 - by_.log2) = p.log2 + 1 by omega]
      exact pk_m1 _
    have := l_M_rest S (h := h) (K := K) (Nat.log2_self_le hb0) Nat.lt_log2_self (p.log2 + 1 - by_.log2) p (by omega) (by rw [show by_.log2 + (p.log2 + 1 - by_.log2) = p.log2 + 1 by omega]; exact hpl) (by
      have e2 : rem13 p by_ = prd by_ by_.log2 (p.log2 + 1 - by_.log2) p := by
        unfold rem13
        have := prd_hi (m := by_) (n := by_.log2) (p := p) (12 - p.log2) (p.log2 + 1 - by_.log2) (by rw [show by_.log2 + (p.log2 + 1 - by_.log2) = p.log2 + 1 by omega]; exact hpl)
        rw [show p.log2 + 1 - by_.log2 + (12 - p.log2) = 13 - by_.log2 by omega] at this
        exact this
      rw [← e2]
      exact hK)
    rw [e] at this
    exact this
