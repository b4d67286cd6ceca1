/-! quotients -/
def pdq (m n : Nat) : Nat → Nat → Nat → Nat
  | 0, _, o => o
  | j + 1, a, o => pdq m n j (if a.testBit (n + j) then a ^^^ (m <<< j) else a) (if a.testBit (n + j) then o ||| 1 <<< j else o)
theorem l_Poly_quotient {P : PSem} (S : SysOK P) {h : PH} {by_ d : Nat} (h1 : 2 ^ d ≤ by_) (h2 : by_ < 2 ^ (d + 1)) {K : PK} : ∀ j left o, d + j ≤ 13 → left < 2 ^ (d + j) → K (.int (nI (pdq by_ d j left o))) h →
    P.2 n_Poly_quotient 9 [none, some (.int (nI by_)), some (.int (nI d)), some (.int (nI left)), some (.int (nI o)), some (.int (nI (d + j) + (-1)))] [] h 0 0 K := by
  intro j
  induction j with
  | zero =>
    intro left o hd hl hK
    refine S.at 60 [] rfl ?_
    conv => whnf
    refine bk_t (kend (by omega)) ?_
    conv => whnf
    exact hK
  | succ j ih =>
    intro left o hd hl hK
    rw [km1]
    have hl13 : left < 2 ^ 13 := Nat.lt_of_lt_of_le hl (pow_le hd)
    have hb13 : by_ <<< j < 2 ^ 14 := Nat.lt_of_lt_of_le (shl_lt h2) (pow_le (by omega))
    have hj1 : 1 <<< j < 2 ^ 14 := by
      rw [Nat.shiftLeft_eq, Nat.one_mul]
      exact Nat.lt_of_le_of_lt (pow_le (j := 13) (by omega)) (by decide)
    refine S.at 60 [] rfl ?_
    conv => whnf
    refine bk_f (fun c => absurd ((zn_lt (by omega) (by omega)).mp c) (by omega)) ?_
    conv => whnf
    refine bk_f (nI_pos (by omega)) ?_
    conv => whnf
    have next := ih _ _ (by omega) (prd_lt_step h1 h2 hl) hK
    refine ⟨fun c => ?_, fun c => ?_⟩
    · have e1 : left.testBit (d + j) = false := (zn_bit0 (a := left) (k := d + j) (by omega) (by omega)).mp c
      rw [e1] at next
      conv => whnf
      exact next
    · have e1 : left.testBit (d + j) = true := by
        cases hb : left.testBit (d + j) with
        | true => rfl
        | false => exact absurd ((zn_bit0 (a := left) (k := d + j) (by omega) (by omega)).mpr hb) c
      have ej : nI (d + j) - nI d = nI j := by
        rw [pk_sub (Nat.le_add_right d j), Nat.add_sub_cancel_left]
      rw [e1, if_pos rfl, if_pos rfl, ← zn_xor, ← zn_or, ← zn_shl (a := by_) (k := j) (by omega) (by omega), ← zn_shl (a := 1) (k := j) (by omega) (by omega), ← ej] at next
      conv => whnf
      exact next
theorem c_Poly_quotient {P : PSem} (S : SysOK P) {h : PH} {p by_ : Nat} (hp : p < 8192) (hb0 : by_ ≠ 0) (hb : by_ < 8192) {K : PK} (hK : K (.int (nI (pdq by_ by_.log2 (13 - by_.log2) p 0))) h) : P.1 n_Poly_quotient [.int (nI p), .int (nI by_)] h K := by
  have l2 := log2_lt13 hb
  refine S.2.1 _ 6 _ _ _ rfl rfl ?_
  refine S.at 30 [9] rfl ?_
  conv => whnf
  refine c_Poly_degreeOf S hb0 hb ?_
  conv => whnf
  refine S.mk [(0,0),(0,1),(0,1),(0,1),(0,1),(0,1)] ?_
  have := l_Poly_quotient S (h := h) (K := K) (Nat.log2_self_le hb0) Nat.lt_log2_self (13 - by_.log2) p 0 (by omega) (by rw [show by_.log2 + (13 - by_.log2) = 13 by omega]; exact hp) hK
  rw [show by_.log2 + (13 - by_.log2) = 13 by omega] at this
  exact this
