/-! common divisors -/
theorem i_rem_n {a d : Nat} (ha : a < 2 ^ 31) (h0 : 0 < d) (hd : d < 2 ^ 31) : i_rem (nI a) (nI d) = nI (a % d) := pk_rem ha h0 hd
theorem gcd_half {a b j : Nat} (h0 : 0 < b) (hb : b ≤ a) (h : a * b < 2 ^ (j + 1)) : b * (a % b) < 2 ^ j := by
  have h1 : a % b < b := Nat.mod_lt _ h0
  have h2 : b + a % b ≤ a := by
    have := Nat.div_add_mod a b
    have h3 : 1 ≤ a / b := Nat.div_pos hb h0
    have h4 : b * 1 ≤ b * (a / b) := Nat.mul_le_mul_left b h3
    omega
  have h5 : b * (2 * (a % b)) ≤ b * a := Nat.mul_le_mul_left b (by omega)
  rw [Nat.mul_left_comm] at h5
  rw [Nat.mul_comm a b, Nat.pow_succ] at h
  omega
theorem gcd_next {a b j : Nat} (h0 : 0 < b) (h : (b ≤ a ∧ a * b < 2 ^ (j + 1)) ∨ (a < b ∧ 2 * (a * b) + 1 < 2 ^ (j + 1))) : b * (a % b) < 2 ^ j := by
  rcases h with ⟨h1, h2⟩ | ⟨h1, h2⟩
  · exact gcd_half h0 h1 h2
  · rw [Nat.mod_eq_of_lt h1, Nat.mul_comm]
    rw [Nat.pow_succ] at h2
    omega
theorem l_FT_common {P : PSem} (S : SysOK P) {h : PH} {K : PK} : ∀ j q a b, q + j = 64 → a < 2 ^ 31 → b < 2 ^ 31 → ((b ≤ a ∧ a * b < 2 ^ j) ∨ (a < b ∧ 2 * (a * b) + 1 < 2 ^ j)) → K (.int (nI (Nat.gcd a b))) h →
    P.2 n_FT_commonDivisor 6 [none, none, some (.int (nI a)), some (.int (nI b)), some (.int (nI q)), none] [] h 0 0 K := by
  intro j
  induction j with
  | zero =>
    intro q a b hq ha hbl hl hK
    have hb0 : b = 0 := by
      rcases hl with ⟨h1, h2⟩ | ⟨_, h2⟩
      · rcases Nat.eq_zero_or_pos b with z | z
        · exact z
        · have : 0 < a * b := Nat.mul_pos (by omega) z
          omega
      · omega
    subst hb0
    rw [Nat.gcd_zero_right] at hK
    refine S.at 60 [] rfl ?_
    conv => whnf
    refine bk_t ((zn_le (a := 64) (by decide) (by omega)).mpr (by omega)) ?_
    conv => whnf
    exact hK
  | succ j ih =>
    intro q a b hq ha hbl hl hK
    refine S.at 60 [] rfl ?_
    conv => whnf
    refine bk_f (fun c => absurd ((zn_le (a := 64) (by decide) (by omega)).mp c) (by omega)) ?_
    conv => whnf
    refine bk_le (b := 0) (by omega) (by decide) (fun c => ?_) (fun c => ?_)
    · conv => whnf
      have hb0 : b = 0 := by omega
      subst hb0
      rw [Nat.gcd_zero_right] at hK
      exact hK
    · conv => whnf
      refine ⟨fun e => absurd ((zn_eq (b := 0) (by omega) (by decide)).mp e) (by omega), ?_⟩
      conv => whnf
      have h1 : a % b < b := Nat.mod_lt _ c
      have next := ih (q + 1) b (a % b) (by omega) hbl (by omega) (Or.inl ⟨Nat.le_of_lt h1, gcd_next c hl⟩) (by
        rw [Nat.gcd_comm a b, Nat.gcd_rec] at hK
        rw [Nat.gcd_comm]
        exact hK)
      rw [← nI_1, ← i_rem_n ha c hbl] at next
      exact next
theorem gcd_top {a b : Nat} (ha : a < 2 ^ 31) (hb : b < 2 ^ 31) : (b ≤ a ∧ a * b < 2 ^ 64) ∨ (a < b ∧ 2 * (a * b) + 1 < 2 ^ 64) := by
  have hab : a * b ≤ 2 ^ 31 * 2 ^ 31 := Nat.mul_le_mul (Nat.le_of_lt ha) (Nat.le_of_lt hb)
  rcases Nat.lt_or_ge a b with w | w
  · exact Or.inr ⟨w, by omega⟩
  · exact Or.inl ⟨w, by omega⟩
theorem c_FT_common {P : PSem} (S : SysOK P) {h : PH} {a b : Nat} (ha : a < 2 ^ 31) (hb : b < 2 ^ 31) {K : PK} (hK : K (.int (nI (Nat.gcd a b))) h) : P.1 n_FT_commonDivisor [.int (nI a), .int (nI b)] h K := by
  refine S.2.1 _ 6 _ _ _ rfl rfl ?_
  refine S.at 6 [] rfl ?_
  conv => whnf
  refine S.mk [(0,0),(0,0),(0,1),(0,1),(0,1),(0,0)] ?_
  exact l_FT_common S 64 0 a b (by omega) ha hb (gcd_top ha hb) hK
theorem l_M_common {P : PSem} (S : SysOK P) {h : PH} {K : PK} : ∀ t a b, b < t → a < 2 ^ 31 → b < 2 ^ 31 → K (.int (nI (Nat.gcd a b))) h →
    P.2 n_M_common 4 [none, none, some (.int (nI a)), some (.int (nI b)), none] [] h 0 0 K := by
  intro t
  induction t with
  | zero => exact fun a b ht => absurd ht (Nat.not_lt_zero _)
  | succ t ih =>
    intro a b ht ha hb hK
    refine S.at 60 [] rfl ?_
    conv => whnf
    refine bk_le (b := 0) (by omega) (by decide) (fun c => ?_) (fun c => ?_)
    · conv => whnf
      have hb0 : b = 0 := by omega
      subst hb0
      rw [Nat.gcd_zero_right] at hK
      exact hK
    · conv => whnf
      refine ⟨fun e => absurd ((zn_eq (b := 0) (by omega) (by decide)).mp e) (by omega), ?_⟩
      conv => whnf
      have h1 : a % b < b := Nat.mod_lt _ c
      have next := ih b (a % b) (by omega) (by omega) (by omega) (by
        rw [Nat.gcd_comm a b, Nat.gcd_rec] at hK
        rw [Nat.gcd_comm]
        exact hK)
      rw [← i_rem_n ha c (by omega)] at next
      exact next
theorem c_M_common {P : PSem} (S : SysOK P) {h : PH} {a b : Nat} (ha : a < 2 ^ 31) (hb : b < 2 ^ 31) {K : PK} (hK : K (.int (nI (Nat.gcd a b))) h) : P.1 n_M_common [.int (nI a), .int (nI b)] h K := by
  refine S.2.1 _ 5 _ _ _ rfl rfl ?_
  refine S.at 4 [] rfl ?_
  conv => whnf
  refine S.mk [(0,0),(0,0),(0,1),(0,1),(0,0)] ?_
  exact l_M_common S (b + 1) a b (by omega) ha hb hK
theorem c_FT_divides {P : PSem} (S : SysOK P) {h : PH} {a b : Nat} (ha : a < 2 ^ 31) (hb : b < 2 ^ 31) {K : PK} (hK : K (.int (bI (decide (0 < a ∧ b % a = 0)))) h) : P.1 n_FT_divides [.int (nI a), .int (nI b)] h K := by
  refine S.go 40 rfl rfl rfl ?_
  conv => whnf
  refine bk_le (b := 0) ha (by decide) (fun c => ?_) (fun c => ?_)
  · conv => whnf
    rw [decide_eq_false (fun q => absurd q.1 (by omega))] at hK
    exact ⟨Or.inl rfl, hK⟩
  · conv => whnf
    refine ⟨fun e => absurd ((zn_eq (b := 0) (by omega) (by decide)).mp e) (by omega), ?_⟩
    conv => whnf
    have hr : b % a < 2 ^ 31 := Nat.lt_trans (Nat.mod_lt _ c) ha
    rw [i_rem_n hb c ha]
    refine bk_ne (b := 0) hr (by decide) (fun c2 => ?_) (fun c2 => ?_)
    · conv => whnf
      rw [decide_eq_false (fun q => absurd q.2 c2)] at hK
      exact ⟨Or.inl rfl, hK⟩
    · conv => whnf
      rw [decide_eq_true ⟨c, c2⟩] at hK
      exact ⟨Or.inr rfl, hK⟩
