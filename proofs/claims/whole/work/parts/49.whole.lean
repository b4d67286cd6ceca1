/-! the class's test of wholeness -/
theorem prd_end {m n : Nat} (h1 : 2 ^ n ≤ m) (h2 : m < 2 ^ (n + 1)) : ∀ j a, a < 2 ^ (n + j) → prd m n j a < 2 ^ n
  | 0, _, h => h
  | j + 1, a, h => prd_end h1 h2 j _ (prd_lt_step h1 h2 h)
theorem rem13_deg {p d : Nat} (hp : p < 8192) (h0 : d ≠ 0) (hd : d < 8192) : rem13 p d < 2 ^ d.log2 := by
  have l := log2_lt13 hd
  exact prd_end (Nat.log2_self_le h0) Nat.lt_log2_self _ _ (by rw [show d.log2 + (13 - d.log2) = 13 by omega]; exact hp)
theorem rem13_lt {p d : Nat} (hp : p < 8192) (h0 : d ≠ 0) (hd : d < 8192) : rem13 p d < 8192 :=
  Nat.lt_of_lt_of_le (rem13_deg hp h0 hd) (pow_le (j := 13) (by have := log2_lt13 hd; omega))
theorem l_Poly_isWhole {P : PSem} (S : SysOK P) {h : PH} {p t : Nat} (hp : p < 8192) (ht : t ≤ 8192) {K : PK} : ∀ j s, s + j = t → 2 ≤ s → K (.int (bI (tryD p j s))) h →
    P.2 n_Poly_isWhole 11 [some (.int (nI p)), some (.int (nI t)), some (.int (nI s))] [] h 0 0 K := by
  intro j
  induction j with
  | zero =>
    intro s hs h2 hK
    refine S.at 60 [] rfl ?_
    conv => whnf
    refine bk_t ((zn_le (by omega) (by omega)).mpr (by omega)) ?_
    conv => whnf
    exact ⟨Or.inr rfl, hK⟩
  | succ j ih =>
    intro s hs h2 hK
    refine S.at 60 [] rfl ?_
    conv => whnf
    refine bk_f (fun c => absurd ((zn_le (by omega) (by omega)).mp c) (by omega)) ?_
    conv => whnf
    refine c_Poly_remainder S hp (by omega) (by omega) ?_
    conv => whnf
    have hr : rem13 p s < 8192 := rem13_lt hp (by omega) (by omega)
    have hK : K (.int (bI (if rem13 p s = 0 then false else tryD p j (s + 1)))) h := hK
    refine bk_ne (b := 0) (by omega) (by decide) (fun c => ?_) (fun c => ?_)
    · conv => whnf
      rw [if_neg c] at hK
      have next := ih (s + 1) (by omega) (by omega) hK
      rw [← nI_1] at next
      exact next
    · conv => whnf
      rw [if_pos c] at hK
      exact ⟨Or.inl rfl, hK⟩
theorem c_Poly_isWhole {P : PSem} (S : SysOK P) {h : PH} {p : Nat} (h0 : p ≠ 0) (hp : p < 8192) {K : PK} (hK : K (.int (bI (isIrrB p))) h) : P.1 n_Poly_isWhole [.int (nI p)] h K := by
  have l1 := log2_lt13 hp
  refine S.2.1 _ 3 _ _ _ rfl rfl ?_
  refine S.at 30 [11] rfl ?_
  conv => whnf
  refine c_Poly_degreeOf S h0 hp ?_
  conv => whnf
  refine ⟨by decide, ?_⟩
  conv => whnf
  have e7 : (2 : Nat) ^ (p.log2 / 2 + 1) ≤ 128 := Nat.le_trans (pow_le (j := 7) (by omega)) (by decide)
  have e2 : (2 : Nat) ≤ 2 ^ (p.log2 / 2 + 1) := pow_le (i := 1) (by omega)
  have e : i_shl 1 (nI p.log2 / 2 + 1) = nI (2 ^ (p.log2 / 2 + 1)) := by
    rw [show nI p.log2 / 2 = nI (p.log2 / 2) from pk_div (d := 2) (by omega) (by decide) (by decide), nI_1]
    have := zn_shl (a := 1) (k := p.log2 / 2 + 1) (by omega) (by rw [Nat.shiftLeft_eq, Nat.one_mul]; omega)
    rw [Nat.shiftLeft_eq, Nat.one_mul] at this
    exact this
  have := l_Poly_isWhole S (h := h) (K := K) (t := 2 ^ (p.log2 / 2 + 1)) hp (by omega) (2 ^ (p.log2 / 2 + 1) - 2) 2 (by omega) (by omega) hK
  rw [← e] at this
  exact this
theorem c_Poly_isModulus {P : PSem} (S : SysOK P) {h : PH} {v : Int32} {n : Nat} (hn1 : 1 ≤ n) (hn : n ≤ 12) {K : PK} (hK : K (.int (bI (decide (nI (2 ^ n) ≤ v ∧ v < nI (2 ^ (n + 1))) && isIrrB v.toNatClampNeg))) h) : P.1 n_Poly_isModulus [.int v, .int (nI n)] h K := by
  have hn12 : (2 : Nat) ^ n ≤ 4096 := pow_le hn
  have e1 : i_shl 1 (nI n) = nI (2 ^ n) := by
    have := zn_shl (a := 1) (k := n) (by omega) (by rw [Nat.shiftLeft_eq, Nat.one_mul]; omega)
    rw [Nat.shiftLeft_eq, Nat.one_mul] at this
    exact this
  have e2 : i_shl 2 (nI n) = nI (2 ^ (n + 1)) := by
    have := zn_shl (a := 2) (k := n) (by omega) (by rw [Nat.shiftLeft_eq]; omega)
    rw [Nat.shiftLeft_eq, Nat.mul_comm, ← Nat.pow_succ] at this
    exact this
  refine S.go 40 rfl rfl rfl ?_
  conv => whnf
  refine ⟨fun c => ?_, fun c => ?_⟩
  · have c : v < nI (2 ^ n) := e1 ▸ c
    conv => whnf
    rw [decide_eq_false (fun q => absurd c (Int32.not_lt.mpr q.1))] at hK
    exact ⟨Or.inl rfl, hK⟩
  · have c : ¬ v < nI (2 ^ n) := e1 ▸ c
    conv => whnf
    refine ⟨fun c2 => ?_, fun c2 => ?_⟩
    · have c2 : nI (2 ^ (n + 1)) ≤ v := e2 ▸ c2
      conv => whnf
      rw [decide_eq_false (fun q => absurd q.2 (Int32.not_lt.mpr c2))] at hK
      exact ⟨Or.inl rfl, hK⟩
    · have c2 : ¬ nI (2 ^ (n + 1)) ≤ v := e2 ▸ c2
      have c3 := Int32.not_lt.mp c
      have c4 := Int32.not_le.mp c2
      rw [decide_eq_true ⟨c3, c4⟩, Bool.true_and] at hK
      have hv : ∃ p : Nat, v = nI p ∧ 2 ^ n ≤ p ∧ p < 2 ^ (n + 1) := by
        have h2n : (2 : Nat) ^ (n + 1) ≤ 8192 := pow_le (j := 13) (by omega)
        rcases pk_ix v (n := 8192) (by decide) with w | w | ⟨j, hj, w⟩
        · exact absurd (Int32.lt_of_le_of_lt c3 w) (nI_pos (by omega))
        · exact absurd (Int32.lt_of_le_of_lt w c4) (fun q => absurd ((zn_lt (by decide) (by omega)).mp q) (by omega))
        · subst w
          exact ⟨j, rfl, (zn_le (by omega) (by omega)).mp c3, (zn_lt (by omega) (by omega)).mp c4⟩
      obtain ⟨p, rfl, hp1, hp2⟩ := hv
      have h2n : (2 : Nat) ^ (n + 1) ≤ 8192 := pow_le (j := 13) (by omega)
      rw [nI_clamp (by omega)] at hK
      conv => whnf
      refine c_Poly_isWhole S (by omega) (by omega) ?_
      conv => whnf
      refine bk_b0 (fun e => ?_) (fun e => ?_)
      · conv => whnf
        rw [e] at hK
        exact ⟨Or.inl rfl, hK⟩
      · conv => whnf
        rw [e] at hK
        exact ⟨Or.inr rfl, hK⟩
