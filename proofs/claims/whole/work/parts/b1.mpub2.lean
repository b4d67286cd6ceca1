/-! the reference's questions: elements, fields -/
theorem c_M_element {P : PSem} (S : SysOK P) {h : PH} {u : Nat → Nat} (hM : MJ h u) (hu : MDS u) (n a w : Int32) {K : PK} (hK : ∀ h', eqX mq h h' → K (.int (sElement u n a w)) h') : P.1 n_M_element [.ref 116, .int n, .int a, .int w] h K := by
  have hw := hM.1
  unfold sElement at hK
  refine S.go 120 rfl rfl rfl ?_
  conv => whnf
  refine c_M_isOf S n a ?_
  conv => whnf
  refine bk_b1 (fun c => ?_) (fun c => ?_)
  · rw [c, if_pos rfl] at hK
    obtain ⟨k, x, k1, k2, rfl, rfl, hx⟩ := okE_nat c
    have hk := pow12 k2
    have hMk := hu k k1 k2
    have hm := hMk.1
    have hG := all_GF k2 hMk
    have hnow := hM.2.1 k k1 k2
    rw [nI_clamp (show k < 2 ^ 31 by omega), nI_clamp (show x < 2 ^ 31 by omega)] at hK
    unfold elS at hK
    conv => whnf
    refine ⟨fun e => ?_, fun e0 => ?_⟩
    · rw [if_pos e] at hK
      conv => whnf
      refine bk_ne (b := 0) (by omega) (by decide) (fun z => ?_) (fun z => ?_)
      · rw [if_neg z] at hK
        conv => whnf
        refine ⟨wt_116 hw, ?_⟩
        conv => whnf
        refine c_M_inverse S hw k2 hm hnow hx ?_
        conv => whnf
        exact hK h (eqX_rf _ _)
      · rw [if_pos z] at hK
        conv => whnf
        exact hK h (eqX_rf _ _)
    rw [if_neg e0] at hK
    refine ⟨fun e => ?_, fun e1 => ?_⟩
    · rw [if_pos e] at hK
      conv => whnf
      refine ⟨wt_116 hw, ?_⟩
      conv => whnf
      refine p1c (congrArg (fun z => [Value.ref 116, Value.int (nI k), Value.int (nI x), Value.int z]) (pk_sub (a := k) (b := 1) (by omega))) ?_
      refine c_M_squared S hw k2 (by omega) hm hnow hx ?_
      conv => whnf
      exact hK h (eqX_rf _ _)
    rw [if_neg e1] at hK
    refine ⟨fun e => ?_, fun e2 => ?_⟩
    · rw [if_pos e] at hK
      conv => whnf
      refine bk_ne (b := 0) (by omega) (by decide) (fun z => ?_) (fun z => ?_)
      · rw [if_neg z] at hK
        conv => whnf
        refine ⟨wt_116 hw, ?_⟩
        conv => whnf
        refine c_M_orderOf S hw k2 hG hnow hx z ?_
        conv => whnf
        exact hK h (eqX_rf _ _)
      · rw [if_pos z] at hK
        conv => whnf
        exact hK h (eqX_rf _ _)
    rw [if_neg e2] at hK
    refine ⟨fun e => ?_, fun e3 => ?_⟩
    · rw [if_pos e] at hK
      conv => whnf
      refine bk_ne (b := 0) (by omega) (by decide) (fun z => ?_) (fun z => ?_)
      · rw [if_neg z] at hK
        conv => whnf
        refine ⟨wt_116 hw, ?_⟩
        conv => whnf
        refine c_M_logarithm S hw k2 hMk hnow hx z ?_
        conv => whnf
        exact hK h (eqX_rf _ _)
      · rw [if_pos z] at hK
        conv => whnf
        exact hK h (eqX_rf _ _)
    rw [if_neg e3] at hK
    refine ⟨fun e => ?_, fun e4 => ?_⟩
    · rw [if_pos e] at hK
      conv => whnf
      refine ⟨wt_116 hw, ?_⟩
      conv => whnf
      refine c_M_degreeOf S hw k2 hG hnow hx ?_
      conv => whnf
      exact hK h (eqX_rf _ _)
    rw [if_neg e4] at hK
    refine ⟨fun e => ?_, fun e5 => ?_⟩
    · rw [if_pos e] at hK
      conv => whnf
      refine ⟨wt_116 hw, ?_⟩
      conv => whnf
      refine c_M_leastConjugate S hw k2 hm hnow hx ?_
      conv => whnf
      exact hK h (eqX_rf _ _)
    rw [if_neg e5] at hK
    refine ⟨fun e => ?_, fun e6 => ?_⟩
    · rw [if_pos e] at hK
      conv => whnf
      refine ⟨wt_116 hw, ?_⟩
      conv => whnf
      refine c_M_degreeOf S hw k2 hG hnow hx ?_
      conv => whnf
      exact hK h (eqX_rf _ _)
    rw [if_neg e6] at hK
    refine ⟨fun e => ?_, fun e7 => ?_⟩
    · rw [if_pos e] at hK
      conv => whnf
      refine ⟨wt_116 hw, ?_⟩
      conv => whnf
      refine c_M_isPrimitive S hw k2 hG hnow hx ?_
      conv => whnf
      refine bk_b0 (fun y => ?_) (fun y => ?_)
      · rw [y] at hK
        conv => whnf
        exact hK h (eqX_rf _ _)
      · rw [y] at hK
        conv => whnf
        exact hK h (eqX_rf _ _)
    rw [if_neg e7] at hK
    refine ⟨fun e => ?_, fun e8 => ?_⟩
    · rw [if_pos e] at hK
      conv => whnf
      refine ⟨wt_116 hw, ?_⟩
      conv => whnf
      refine c_M_isNormal S hw k2 hm hnow hx (fun h' a1 => ?_)
      conv => whnf
      refine bk_b0 (fun y => ?_) (fun y => ?_)
      · rw [y] at hK
        conv => whnf
        exact hK h' (mrA_mq a1)
      · rw [y] at hK
        conv => whnf
        exact hK h' (mrA_mq a1)
    rw [if_neg e8] at hK
    refine ⟨fun e => ?_, fun e9 => ?_⟩
    · rw [if_pos e] at hK
      conv => whnf
      refine ⟨wt_116 hw, ?_⟩
      conv => whnf
      refine c_M_coordinates S hw k2 hMk hnow hx (fun h' a1 => ?_)
      conv => whnf
      exact hK h' (mrA_mq a1)
    rw [if_neg e9] at hK
    refine ⟨fun e => ?_, fun e10 => ?_⟩
    · rw [if_pos e] at hK
      conv => whnf
      refine ⟨wt_116 hw, ?_⟩
      conv => whnf
      refine c_M_dualOf S hw k2 hMk hnow hx (fun h' a1 a2 => ?_) (fun h' a1 a2 => ?_)
      · rw [nrmB_iff.mpr a2, if_pos rfl] at hK
        conv => whnf
        exact hK h' (mrA_mq a1)
      · have : nrmB k (u k) x = false := by rw [← Bool.not_eq_true, nrmB_iff]; exact a2
        rw [this, if_neg (by decide)] at hK
        conv => whnf
        exact hK h' (mrA_mq a1)
    rw [if_neg e10] at hK
    conv => whnf
    exact hK h (eqX_rf _ _)
  · rw [c] at hK
    conv => whnf
    exact hK h (eqX_rf _ _)
/-! counting by trial -/
theorem l_M_count {P : PSem} (S : SysOK P) {h0 : PH} {u : Nat → Nat} (hM0 : MJ h0 u) (hu : MDS u) {n : Nat} (n1 : 1 ≤ n) (n2 : n ≤ 12) (w v : Int32) {p : Nat → Bool} (hp : ∀ a, a < 2 ^ n → (sElement u (nI n) (nI a) w = v ↔ p a = true)) {K : PK} (hK : ∀ h', eqX mq h0 h' → K (.int (nI (cnt p (2 ^ n)))) h') : ∀ j q h, q + j = 2 ^ n → eqX mq h0 h →
    P.2 n_M_countOf 4 [some (.ref 116), some (.int (nI n)), some (.int w), some (.int v), some (.int (nI (cnt p q))), some (.int (nI q))] [] h 0 0 K := by
  have h12 := pow12 n2
  intro j
  induction j with
  | zero =>
    intro q h hq he
    have e : q = 2 ^ n := by omega
    subst e
    refine S.at 60 [] rfl ?_
    conv => whnf
    rw [shl_one n2]
    refine bk_t ((zn_le (by omega) (by omega)).mpr (by omega)) ?_
    conv => whnf
    exact hK h he
  | succ j ih =>
    intro q h hq he
    have hM := MJ_eq he hM0
    have hw := hM.1
    refine S.at 60 [] rfl ?_
    conv => whnf
    rw [shl_one n2]
    refine bk_f (fun c => absurd ((zn_le (by omega) (by omega)).mp c) (by omega)) ?_
    conv => whnf
    refine ⟨wt_116 hw, ?_⟩
    conv => whnf
    refine c_M_element S hM hu (nI n) (nI q) w (fun h' a1 => ?_)
    conv => whnf
    have next := ih (q + 1) h' (by omega) (eqX_tr he a1)
    have e4 : cnt p (q + 1) = cnt p q + (p q).toNat := rfl
    rw [e4, ← nI_1 q] at next
    refine ⟨fun c => ?_, fun c => ?_⟩
    · have hb : p q = false := by
        rw [← Bool.not_eq_true, ← hp q (by omega)]
        exact c
      rw [hb] at next
      conv => whnf
      exact next
    · have hb : p q = true := (hp q (by omega)).mp c
      rw [hb, show Bool.toNat true = 1 from rfl, ← nI_1 (cnt p q)] at next
      conv => whnf
      exact next
theorem c_M_countOf {P : PSem} (S : SysOK P) {h : PH} {u : Nat → Nat} (hM : MJ h u) (hu : MDS u) {n : Nat} (n1 : 1 ≤ n) (n2 : n ≤ 12) (w v : Int32) {p : Nat → Bool} (hp : ∀ a, a < 2 ^ n → (sElement u (nI n) (nI a) w = v ↔ p a = true)) {K : PK} (hK : ∀ h', eqX mq h h' → K (.int (nI (cnt p (2 ^ n)))) h') : P.1 n_M_countOf [.ref 116, .int (nI n), .int w, .int v] h K := by
  refine S.2.1 _ 6 _ _ _ rfl rfl ?_
  refine S.at 4 [] rfl ?_
  conv => whnf
  exact l_M_count S hM hu n1 n2 w v hp hK (2 ^ n) 0 h (by omega) (eqX_rf _ _)
/-- how many are normal: by the units -/
theorem nm_eq {n m : Nat} (hn1 : 1 ≤ n) (hn : n ≤ 12) (hM : MOD n m) : cnt (nrmB n m) (2 ^ n) = nmL.getD n 0 := by
  have key : ∀ N, ab (ckU n) (n + 1) 0 = true → cb (unB n) n 0 = N → cnt (nrmB n m) (2 ^ n) = N := fun N a b => nrm_cnt hn hM (fun a _ => nrmB_iff) a b
  rcases (show n = 1 ∨ n = 2 ∨ n = 3 ∨ n = 4 ∨ n = 5 ∨ n = 6 ∨ n = 7 ∨ n = 8 ∨ n = 9 ∨ n = 10 ∨ n = 11 ∨ n = 12 by omega) with rfl | rfl | rfl | rfl | rfl | rfl | rfl | rfl | rfl | rfl | rfl | rfl
  · exact key _ ckU_1 unB_1
  · exact key _ ckU_2 unB_2
  · exact key _ ckU_3 unB_3
  · exact key _ ckU_4 unB_4
  · exact key _ ckU_5 unB_5
  · exact key _ ckU_6 unB_6
  · exact key _ ckU_7 unB_7
  · exact key _ ckU_8 unB_8
  · exact key _ ckU_9 unB_9
  · exact key _ ckU_10 unB_10
  · exact key _ ckU_11 unB_11
  · exact key _ ckU_12 unB_12
/-- how many have degree n: by logarithms -/
def qd (n j : Nat) : Bool := (List.range n).all (fun k => k == 0 || !(j * (2 ^ k - 1) % (2 ^ n - 1) == 0))
theorem qd_ck : (List.range 12).all (fun n => cb (qd (n + 1)) (n + 1) 0 == (n + 1) * whL.getD (n + 1) 0 && (n == 0 || !qd (n + 1) (2 ^ (n + 1) - 1))) = true := by decide +kernel
theorem dg_cnt {n m : Nat} (hn1 : 1 ≤ n) (hn : n ≤ 12) (hM : MOD n m) : cnt (fun a => dgO n m 1 a == n) (2 ^ n) = n * whL.getD n 0 := by
  have hG := all_GF hn hM
  have hm := hM.1
  have hpr := lpF_prim hn hM
  have h2 := two_pow_ge2 hn1
  rw [cnt_log hG hpr]
  have hck := List.all_eq_true.mp qd_ck (n - 1) (List.mem_range.mpr (by omega))
  rw [show n - 1 + 1 = n by omega, Bool.and_eq_true] at hck
  have e1 := eq_of_beq hck.1
  rw [← cb_0] at e1
  have e2 : cnt (qd n) (2 ^ n) = cnt (qd n) (2 ^ n - 1) + (qd n (2 ^ n - 1)).toNat := by
    have : 2 ^ n = (2 ^ n - 1) + 1 := by omega
    rw [show cnt (qd n) (2 ^ n) = cnt (qd n) ((2 ^ n - 1) + 1) from congrArg _ this]
    rfl
  have e3 : cnt (fun j => dgO n m 1 (fpw n m (lpF n m) j) == n) (2 ^ n - 1) = cnt (qd n) (2 ^ n - 1) := by
    refine cnt_cg _ (fun j _ => ?_)
    have ha := fpw_lt hm hpr.1 j
    have h0 := fpw_ne0 hM hpr.1 hpr.2.1 j
    obtain ⟨d1, d2, d3, d4⟩ := dgO_ok hG (Nat.one_dvd n) ha
    rw [Nat.div_one] at d2
    rw [Nat.one_mul] at d3
    have key : ∀ k, sqn n m k (fpw n m (lpF n m) j) = fpw n m (lpF n m) j ↔ j * (2 ^ k - 1) % (2 ^ n - 1) = 0 := by
      intro k
      rw [pw_sq hG ha h0, ← fpw_mul hm hpr.1]
      have := pw_eq hG hpr (i := j * (2 ^ k - 1)) (j := 0)
      rw [Nat.zero_mod] at this
      exact this
    rw [Bool.eq_iff_iff, beq_iff_eq]
    unfold qd
    rw [List.all_eq_true]
    constructor
    · intro e k hk
      rw [List.mem_range] at hk
      rcases Nat.eq_zero_or_pos k with z | z
      · rw [z]; rfl
      · rw [beq_eq_false_iff_ne.mpr (show j * (2 ^ k - 1) % (2 ^ n - 1) ≠ 0 from fun q => d4 k z (by omega) (by rw [Nat.one_mul]; exact (key k).mpr q))]
        rw [Bool.not_false, Bool.or_true]
    · intro hq
      rcases Nat.eq_or_lt_of_le d2 with w | w
      · exact w
      · exfalso
        have := hq (dgO n m 1 (fpw n m (lpF n m) j)) (List.mem_range.mpr w)
        rw [(key _).mp d3, beq_eq_false_iff_ne.mpr (by omega)] at this
        exact absurd this (by decide)
  rw [e3]
  have z0 : dgO n m 1 0 = 1 := by
    obtain ⟨d1, d2, d3, d4⟩ := dgO_ok hG (Nat.one_dvd n) (Nat.two_pow_pos n)
    rcases Nat.eq_or_lt_of_le d1 with w | w
    · exact w.symm
    · exact absurd (by rw [Nat.one_mul]; exact sqn_0 hm 1) (d4 1 (Nat.le_refl 1) w)
  rw [z0]
  by_cases h1 : n = 1
  · subst h1
    have q1 : qd 1 (2 ^ 1 - 1) = true := by decide +kernel
    rw [e2, q1] at e1
    rw [← e1]
    exact Nat.add_comm _ _
  · have hq : qd n (2 ^ n - 1) = false := by
      have := hck.2
      rw [beq_eq_false_iff_ne.mpr (show n - 1 ≠ 0 by omega), Bool.false_or] at this
      simpa using this
    rw [e2, hq] at e1
    rw [← e1, beq_eq_false_iff_ne.mpr (show 1 ≠ n by omega)]
    exact Nat.zero_add _
theorem l_M_prims {P : PSem} (S : SysOK P) {h : PH} {L : Nat} (hL : L < 5000) {K : PK} (hK : K (.int (nI (cnt (fun k => Nat.gcd k L == 1) L))) h) : ∀ j q, q + j = L →
    P.2 n_M_primitives 10 [none, some (.int (nI L)), some (.int (nI (cnt (fun k => Nat.gcd k L == 1) q))), some (.int (nI q))] [] h 0 0 K := by
  intro j
  induction j with
  | zero =>
    intro q hq
    have e : q = L := by omega
    subst e
    refine S.at 60 [] rfl ?_
    conv => whnf
    refine bk_t ((zn_le (by omega) (by omega)).mpr (by omega)) ?_
    conv => whnf
    exact hK
  | succ j ih =>
    intro q hq
    have hg : Nat.gcd q L ≤ L := Nat.le_of_dvd (by omega) (Nat.gcd_dvd_right q L)
    have next := ih (q + 1) (by omega)
    have e4 : cnt (fun k => Nat.gcd k L == 1) (q + 1) = cnt (fun k => Nat.gcd k L == 1) q + (Nat.gcd q L == 1).toNat := rfl
    rw [e4, ← nI_1 q] at next
    refine S.at 60 [] rfl ?_
    conv => whnf
    refine bk_f (fun c => absurd ((zn_le (by omega) (by omega)).mp c) (by omega)) ?_
    conv => whnf
    refine c_M_common S (by omega) (by omega) ?_
    conv => whnf
    refine bk_ne (b := 1) (by omega) (by decide) (fun c => ?_) (fun c => ?_)
    · rw [beq_eq_false_iff_ne.mpr c] at next
      conv => whnf
      exact next
    · rw [beq_iff_eq.mpr c, show Bool.toNat true = 1 from rfl, ← nI_1 (cnt _ q)] at next
      conv => whnf
      exact next
theorem c_M_primitives {P : PSem} (S : SysOK P) {h : PH} {n : Nat} (n1 : 1 ≤ n) (n2 : n ≤ 12) {K : PK} (hK : K (.int (nI (phL.getD n 0))) h) : P.1 n_M_primitives [.int (nI n)] h K := by
  have h12 := pow12 n2
  rw [← gp_eq n1 n2] at hK
  refine S.2.1 _ 4 _ _ _ rfl rfl ?_
  refine S.at 10 [] rfl ?_
  conv => whnf
  refine S.mk [(0,0),(0,1),(0,1),(0,1)] ?_
  refine p2c (congrArg (fun z : Int32 => ([none, some (Value.int z), some (Value.int 0), some (Value.int 0)] : PL)) (shl_m1 n2)) ?_
  exact l_M_prims S (by omega) hK (2 ^ n - 1) 0 (by omega)
theorem l_M_dv {P : PSem} (S : SysOK P) {h : PH} {n : Nat} (hn : n ≤ 12) {K : PK} (hK : K (.int (nI (dbS n n))) h) : ∀ j q, q + j = n →
    P.2 n_M_divisors 4 [some (.int (nI n)), some (.int (nI (dbS n q))), some (.int (nI (q + 1)))] [] h 0 0 K := by
  intro j
  induction j with
  | zero =>
    intro q hq
    have e : q = n := by omega
    subst e
    refine S.at 60 [] rfl ?_
    conv => whnf
    refine bk_t ((zn_lt (by omega) (by omega)).mpr (by omega)) ?_
    conv => whnf
    exact hK
  | succ j ih =>
    intro q hq
    have next := ih (q + 1) (by omega)
    rw [← nI_1 (q + 1)] at next
    have e0 : dbS n (q + 1) = if n % (q + 1) = 0 then dbS n q ||| 1 <<< q else dbS n q := rfl
    rw [e0] at next
    have hr : n % (q + 1) < 13 := Nat.lt_of_le_of_lt (Nat.mod_le _ _) (by omega)
    refine S.at 60 [] rfl ?_
    conv => whnf
    refine bk_f (fun c => absurd ((zn_lt (by omega) (by omega)).mp c) (by omega)) ?_
    conv => whnf
    refine ⟨nI_ne0 (by omega) (by omega), ?_⟩
    conv => whnf
    rw [i_rem_n (by omega) (by omega) (by omega)]
    refine bk_ne (b := 0) (by omega) (by decide) (fun c => ?_) (fun c => ?_)
    · rw [if_neg c] at next
      conv => whnf
      exact next
    · rw [if_pos c, ← zn_or, ← shl_k (by omega)] at next
      conv => whnf
      exact next
theorem c_M_divisors {P : PSem} (S : SysOK P) {h : PH} {n : Nat} (hn : n ≤ 12) {K : PK} (hK : K (.int (nI (dbS n n))) h) : P.1 n_M_divisors [.int (nI n)] h K := by
  refine S.2.1 _ 3 _ _ _ rfl rfl ?_
  refine S.at 4 [] rfl ?_
  conv => whnf
  exact l_M_dv S hn hK n 0 (by omega)
theorem c_M_field {P : PSem} (S : SysOK P) {h : PH} {u : Nat → Nat} (hM : MJ h u) (hu : MDS u) (n w : Int32) {K : PK} (hK : ∀ h', eqX mq h h' → K (.int (sField u n w)) h') : P.1 n_M_field [.ref 116, .int n, .int w] h K := by
  have hw := hM.1
  unfold sField at hK
  refine S.go 80 rfl rfl rfl ?_
  conv => whnf
  refine c_M_isField S _ ?_
  conv => whnf
  refine bk_b1 (fun c => ?_) (fun c => ?_)
  · rw [c, if_pos rfl] at hK
    obtain ⟨k, k1, k2, rfl⟩ := okF_nat c
    have hMk := hu k k1 k2
    have hnow := hM.2.1 k k1 k2
    have h12 := pow12 k2
    have hG := all_GF k2 hMk
    rw [nI_clamp (show k < 2 ^ 31 by omega)] at hK
    unfold fdS at hK
    conv => whnf
    refine ⟨fun e => ?_, fun e0 => ?_⟩
    · rw [if_pos e] at hK
      conv => whnf
      refine ⟨wt_116 hw, ?_⟩
      conv => whnf
      refine c_M_leastPrimitive S hw k2 hMk hnow ?_
      conv => whnf
      exact hK h (eqX_rf _ _)
    rw [if_neg e0] at hK
    refine ⟨fun e => ?_, fun e1 => ?_⟩
    · rw [if_pos e] at hK
      conv => whnf
      refine c_M_primitives S k1 k2 ?_
      conv => whnf
      exact hK h (eqX_rf _ _)
    rw [if_neg e1] at hK
    refine ⟨fun e => ?_, fun e2 => ?_⟩
    · rw [if_pos e] at hK
      conv => whnf
      refine ⟨wt_116 hw, ?_⟩
      conv => whnf
      refine c_M_leastNormal S hw k2 hMk hnow (fun h' a1 => ?_)
      conv => whnf
      exact hK h' (mrA_mq a1)
    rw [if_neg e2] at hK
    have sel : ∀ a, a < 2 ^ k → ∀ w, sElement u (nI k) (nI a) w = elS k (u k) a w := fun a ha w => by
      unfold sElement
      rw [okE_of k1 k2 ha, if_pos rfl, nI_clamp (by omega), nI_clamp (by omega)]
    refine ⟨fun e => ?_, fun e3 => ?_⟩
    · rw [if_pos e, ← nm_eq k1 k2 hMk] at hK
      conv => whnf
      refine ⟨wt_116 hw, ?_⟩
      conv => whnf
      refine c_M_countOf (p := nrmB k (u k)) S hM hu k1 k2 8 1 (fun a ha => ?_) (fun h' a1 => ?_)
      · rw [sel a ha]
        show bI (nrmB k (u k) a) = 1 ↔ _
        cases nrmB k (u k) a <;> decide
      · conv => whnf
        exact hK h' a1
    rw [if_neg e3] at hK
    refine ⟨fun e => ?_, fun e4 => ?_⟩
    · rw [if_pos e, ← dg_cnt k1 k2 hMk] at hK
      conv => whnf
      refine ⟨wt_116 hw, ?_⟩
      conv => whnf
      refine c_M_countOf (p := fun a => dgO k (u k) 1 a == k) S hM hu k1 k2 4 (nI k) (fun a ha => ?_) (fun h' a1 => ?_)
      · rw [sel a ha, beq_iff_eq]
        obtain ⟨d1, d2, -⟩ := dgO_ok hG (Nat.one_dvd k) ha
        rw [Nat.div_one] at d2
        show nI (dgO k (u k) 1 a) = nI k ↔ _
        exact zn_eq (by omega) (by omega)
      · conv => whnf
        exact hK h' a1
    rw [if_neg e4] at hK
    refine ⟨fun e => ?_, fun e5 => ?_⟩
    · rw [if_pos e] at hK
      conv => whnf
      refine c_M_divisors S k2 ?_
      conv => whnf
      exact hK h (eqX_rf _ _)
    rw [if_neg e5] at hK
    conv => whnf
    exact hK h (eqX_rf _ _)
  · rw [c] at hK
    conv => whnf
    exact hK h (eqX_rf _ _)
