theorem c_FT_doubled {P : PSem} (S : SysOK P) {h : PH} {a b : Nat} (hb : b < 2 ^ 30) (ha : a < b) {K : PK} (hK : K (.int (nI (2 * a % b))) h) : P.1 n_FT_doubled [.int (nI a), .int (nI b)] h K := by
  have e2 : (2 : Int32) * nI a = nI (2 * a) := pk_mul 2 a
  refine S.go 40 rfl rfl rfl ?_
  conv => whnf
  refine ⟨fun c => ?_, fun c => ?_⟩
  · have c : nI b ≤ nI (2 * a) := e2 ▸ c
    have c' := (zn_le (by omega) (by omega)).mp c
    conv => whnf
    have e : 2 * a % b = 2 * a - b := by
      rw [Nat.mod_eq_sub_mod c', Nat.mod_eq_of_lt (by omega)]
    rw [e, ← pk_sub c', ← e2] at hK
    exact hK
  · have c : ¬ nI b ≤ nI (2 * a) := e2 ▸ c
    have c' : 2 * a < b := Nat.lt_of_not_le (fun q => c ((zn_le (by omega) (by omega)).mpr q))
    conv => whnf
    rw [Nat.mod_eq_of_lt c', ← e2] at hK
    exact hK
