/-! squares, inverses, values: the class's, then the reference's -/
theorem l_Field_squared {P : PSem} (S : SysOK P) {h : PH} {k n m t : Nat} (hF : FOK h k n m) (hn : n ≤ 12) (ht : t < 2 ^ 31) (hm : MDg n m) {K : PK} : ∀ j q o, q + j = t → o < 2 ^ n → K (.int (nI (sqn n m j o))) h →
    P.2 n_Field_squared 4 [some (.ref k), none, some (.int (nI t)), some (.int (nI o)), some (.int (nI q))] [] h 0 0 K := by
  intro j
  induction j with
  | zero =>
    intro q o hq ho hK
    refine S.at 60 [] rfl ?_
    conv => whnf
    refine bk_t ((zn_le (by omega) (by omega)).mpr (by omega)) ?_
    conv => whnf
    exact hK
  | succ j ih =>
    intro q o hq ho hK
    refine S.at 60 [] rfl ?_
    conv => whnf
    refine bk_f (fun c => absurd ((zn_le (by omega) (by omega)).mp c) (by omega)) ?_
    conv => whnf
    refine ⟨hF.1, ?_⟩
    refine c_Field_times S hF hn hm ho ho ?_
    conv => whnf
    have next := ih (q + 1) (fm n m o o) (by omega) (fm_lt hm ho ho) hK
    rw [← nI_1] at next
    exact next
theorem c_Field_squared {P : PSem} (S : SysOK P) {h : PH} {k n m a t : Nat} (hF : FOK h k n m) (hn : n ≤ 12) (ht : t < 2 ^ 31) (hm : MDg n m) (ha : a < 2 ^ n) {K : PK} (hK : K (.int (nI (sqn n m t a))) h) : P.1 n_Field_squared [.ref k, .int (nI a), .int (nI t)] h K := by
  refine S.2.1 _ 5 _ _ _ rfl rfl ?_
  refine S.at 4 [] rfl ?_
  conv => whnf
  refine S.mk [(0,1),(0,0),(0,1),(0,1),(0,1)] ?_
  exact l_Field_squared S hF hn ht hm t 0 a (by omega) ha hK
theorem c_Field_inverse {P : PSem} (S : SysOK P) {h : PH} {k n m a : Nat} (hF : FOK h k n m) (hn : n ≤ 12) (hm : MDg n m) (ha : a < 2 ^ n) {K : PK} (hK : K (.int (nI (fpw n m a (2 ^ n - 2)))) h) : P.1 n_Field_inverse [.ref k, .int (nI a)] h K := by
  refine S.go 40 rfl rfl rfl ?_
  conv => whnf
  refine ⟨hF.1, ?_⟩
  conv => whnf
  refine ⟨hF.1, ?_⟩
  rw [hF.2.2.1]
  have h2 := two_pow_ge2 hm.1
  have h12 : (2 : Nat) ^ n ≤ 4096 := pow_le hn
  have e : (nI (2 ^ n) - 2).toInt64 = lN (2 ^ n - 2) := by
    rw [show nI (2 ^ n) - 2 = nI (2 ^ n - 2) from pk_sub (b := 2) h2]
    exact nI_l (by omega)
  have key : ∀ K' : PK, K' (.int (nI (fpw n m a (2 ^ n - 2)))) h → P.1 n_Field_toThe [.ref k, .int (nI a), .long (nI (2 ^ n) - 2).toInt64] h K' := fun K' hk' => by
    rw [e]
    exact c_Field_toThe S hF hn hm ha (by omega) hk'
  refine key _ ?_
  conv => whnf
  exact hK
theorem neg1 : (nI 0 + (-1) : Int32) < 0 := by decide
/-- Horner's way down: k is j - 1 -/
theorem l_Field_valueAt {P : PSem} (S : SysOK P) {h : PH} {k n m a p : Nat} (hF : FOK h k n m) (hn : n ≤ 12) (hm : MDg n m) (ha : a < 2 ^ n) (hp : p < 8192) {K : PK} : ∀ j o, j ≤ 13 → o < 2 ^ n → (p >>> j = 0 → o = 0) → K (.int (nI (hrn n m a p j o))) h →
    P.2 n_Field_valueAt 4 [some (.ref k), some (.int (nI p)), some (.int (nI a)), some (.int (nI o)), some (.int (nI j + (-1)))] [] h 0 0 K := by
  intro j
  induction j with
  | zero =>
    intro o _ ho _ hK
    refine S.at 60 [] rfl ?_
    conv => whnf
    refine bk_t neg1 ?_
    conv => whnf
    exact hK
  | succ j ih =>
    intro o hj ho hz hK
    rw [pk_m1]
    refine S.at 60 [] rfl ?_
    conv => whnf
    refine bk_f (nI_pos (by omega)) ?_
    conv => whnf
    rw [zn_shr (by omega) (by omega)]
    have hsr : p >>> j < 2 ^ 31 := sr_lt (by omega)
    refine bk_eq (b := 0) hsr (by decide) (fun c => ?_) (fun c => ?_)
    · conv => whnf
      have ho0 : o = 0 := hz (by rw [Nat.shiftRight_succ, c])
      subst ho0
      have hb : p.testBit j = false := by
        rw [← Bool.not_eq_true]
        intro w
        have := tb_div p j
        rw [c, w] at this
        cases this
      refine ih 0 (by omega) (zero_lt2 n) (fun _ => rfl) ?_
      have hK : K (.int (nI (hrn n m a p j (fm n m 0 a ^^^ (p.testBit j).toNat)))) h := hK
      rw [hb, fm_0l hm ha] at hK
      exact hK
    · conv => whnf
      refine ⟨hF.1, ?_⟩
      refine c_Field_times S hF hn hm ho ha ?_
      conv => whnf
      have next := ih (fm n m o a ^^^ (p.testBit j).toNat) (by omega) (xor_lt (fm_lt hm ho ha) (bt_lt hm _)) (fun w => absurd w c) hK
      rw [← zn_xor, ← zn_bit (a := p) (k := j) (by omega) (by omega)] at next
      exact next
theorem c_Field_valueAt {P : PSem} (S : SysOK P) {h : PH} {k n m a p : Nat} (hF : FOK h k n m) (hn : n ≤ 12) (hm : MDg n m) (ha : a < 2 ^ n) (hp : p < 8192) {K : PK} (hK : K (.int (nI (pvl n m a p))) h) : P.1 n_Field_valueAt [.ref k, .int (nI p), .int (nI a)] h K := by
  refine S.2.1 _ 5 _ _ _ rfl rfl ?_
  refine S.at 4 [] rfl ?_
  conv => whnf
  have e : (12 : Int32) = nI 13 + (-1) := by decide
  have := l_Field_valueAt S hF hn hm ha hp 13 0 (Nat.le_refl _) (zero_lt2 n) (fun _ => rfl) (K := K) (by rw [hrn_0 hm ha (show p < 2 ^ 13 from hp)]; exact hK)
  rw [← e] at this
  exact this
