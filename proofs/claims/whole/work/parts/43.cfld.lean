/-! the class: products, powers, values -/
def FOK (h : PH) (k n m : Nat) : Prop := hT h k = 2 ∧ hI h k 0 = nI n ∧ hI h k 1 = nI (2 ^ n) ∧ hI h k 2 = nI m
theorem fmL_z {n m b : Nat} : ∀ j k s o, b >>> k = 0 → fmL n m b j k s o = s
  | 0, _, _, _, _ => rfl
  | j + 1, k, s, o, h => by
    have h1 : b.testBit k = false := by
      rw [← Bool.not_eq_true]
      intro q
      have := tb_div b k
      rw [h, q] at this
      cases this
    have h2 : b >>> (k + 1) = 0 := by rw [Nat.shiftRight_succ, h]
    show fmL n m b j (k + 1) (if b.testBit k then s ^^^ o else s) _ = s
    rw [h1, if_neg (by decide)]
    exact fmL_z j (k + 1) s _ h2
theorem and_pow (x n : Nat) : x &&& 2 ^ n = if x.testBit n then 2 ^ n else 0 := by
  apply Nat.eq_of_testBit_eq
  intro i
  rw [Nat.testBit_and, Nat.testBit_two_pow]
  by_cases h : n = i
  · subst h
    cases hx : x.testBit n <;> simp [Nat.testBit_two_pow_self]
  · cases hx : x.testBit n <;> simp [h, Nat.testBit_two_pow]
theorem l_Field_times {P : PSem} (S : SysOK P) {h : PH} {k n m b : Nat} (hF : FOK h k n m) (hn : n ≤ 12) (hm : MDg n m) (hb : b < 2 ^ n) {K : PK} : ∀ j q s o, q + j = n → s < 2 ^ n → o < 2 ^ n → K (.int (nI (fmL n m b j q s o))) h →
    P.2 n_Field_times 6 [some (.ref k), none, some (.int (nI b)), some (.int (nI s)), some (.int (nI o)), some (.int (nI q))] [] h 0 0 K := by
  have hn31 : (2 : Nat) ^ n ≤ 4096 := pow_le hn
  obtain ⟨f0, f1, f2, f3⟩ := hF
  intro j
  induction j with
  | zero =>
    intro q s o hq hs ho hK
    refine S.at 60 [] rfl ?_
    conv => whnf
    refine ⟨f0, ?_⟩
    conv => whnf
    rw [f1]
    refine bk_t ((zn_le (by omega) (by omega)).mpr (by omega)) ?_
    conv => whnf
    exact hK
  | succ j ih =>
    intro q s o hq hs ho hK
    refine S.at 60 [] rfl ?_
    conv => whnf
    refine ⟨f0, ?_⟩
    conv => whnf
    rw [f1]
    refine bk_f (fun c => absurd ((zn_le (by omega) (by omega)).mp c) (by omega)) ?_
    conv => whnf
    rw [zn_shr (by omega) (by omega)]
    have hbq : b >>> q < 2 ^ 31 := Nat.lt_of_le_of_lt (by rw [Nat.shiftRight_eq_div_pow]; exact Nat.div_le_self _ _) (by omega : b < 2 ^ 31)
    refine bk_eq (b := 0) hbq (by decide) (fun c => ?_) (fun c => ?_)
    · conv => whnf
      rw [fmL_z _ _ _ _ c] at hK
      exact hK
    · conv => whnf
      have hs' : (if b.testBit q then s ^^^ o else s) < 2 ^ n := by
        split
        · exact xor_lt hs ho
        · exact hs
      have ho2 : o <<< 1 < 2 ^ 13 := Nat.lt_of_lt_of_le (shl_lt ho) (pow_le (by omega))
      have hsh : i_shl (nI o) 1 = nI (o <<< 1) := zn_shl (k := 1) (by decide) (by omega)
      have next := ih (q + 1) (if b.testBit q then s ^^^ o else s) (fmx n m o) (by omega) hs' (fmx_ok hm ho).1 hK
      rw [← nI_1] at next
      have hbit := zn_bit0 (a := b) (k := q) (by omega) (by omega)
      have hand : nI (o <<< 1) &&& nI (2 ^ n) = nI (if (o <<< 1).testBit n then 2 ^ n else 0) := by rw [zn_and, and_pow]
      have h2n : ¬ nI (2 ^ n) = 0 := nI_ne0 (Nat.two_pow_pos n) (by omega)
      unfold fmx at next
      refine ⟨fun e1 => ?_, fun e1 => ?_⟩
      · have e1 := hbit.mp e1
        rw [e1] at next
        conv => whnf
        refine ⟨f0, ?_⟩
        conv => whnf
        rw [f2, hsh]
        have hand : (fun x y : Int32 => x &&& y) (nI (o <<< 1)) (nI (2 ^ n)) = _ := hand
        rw [hand]
        cases e2 : (o <<< 1).testBit n with
        | false =>
          rw [e2] at next
          refine bk_t rfl ?_
          conv => whnf
          exact next
        | true =>
          rw [e2] at next
          refine bk_f h2n ?_
          conv => whnf
          refine ⟨f0, ?_⟩
          conv => whnf
          rw [f3]
          rw [if_pos rfl, ← zn_xor] at next
          exact next
      · have e1 : b.testBit q = true := by
          cases hb1 : b.testBit q with
          | true => rfl
          | false => exact absurd (hbit.mpr hb1) e1
        rw [e1] at next
        rw [if_pos rfl, ← zn_xor] at next
        conv => whnf
        refine ⟨f0, ?_⟩
        conv => whnf
        rw [f2, hsh]
        have hand : (fun x y : Int32 => x &&& y) (nI (o <<< 1)) (nI (2 ^ n)) = _ := hand
        rw [hand]
        cases e2 : (o <<< 1).testBit n with
        | false =>
          rw [e2] at next
          refine bk_t rfl ?_
          conv => whnf
          exact next
        | true =>
          rw [e2] at next
          refine bk_f h2n ?_
          conv => whnf
          refine ⟨f0, ?_⟩
          conv => whnf
          rw [f3]
          rw [if_pos rfl, ← zn_xor] at next
          exact next
theorem c_Field_times {P : PSem} (S : SysOK P) {h : PH} {k n m a b : Nat} (hF : FOK h k n m) (hn : n ≤ 12) (hm : MDg n m) (ha : a < 2 ^ n) (hb : b < 2 ^ n) {K : PK} (hK : K (.int (nI (fm n m a b))) h) : P.1 n_Field_times [.ref k, .int (nI a), .int (nI b)] h K := by
  refine S.2.1 _ 6 _ _ _ rfl rfl ?_
  refine S.at 6 [] rfl ?_
  conv => whnf
  refine S.mk [(0,1),(0,0),(0,1),(0,1),(0,1),(0,1)] ?_
  exact l_Field_times S hF hn hm hb n 0 0 a (by omega) (zero_lt2 n) ha hK
