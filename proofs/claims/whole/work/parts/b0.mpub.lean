/-! THE REFERENCE'S QUESTIONS -/
def MJ (h : PH) (u : Nat → Nat) : Prop := WS h ∧ NOW h u ∧ SPL h ∧ ∀ n d, 1 ≤ n → n ≤ 12 → 1 ≤ d → d ∣ n → hI h 144 (13 * d + n) = nI (imF u d n)
def mq (k : Nat) : Prop := 145 ≤ k ∧ k ≤ 148
theorem MJ_eq {h h' : PH} {u : Nat → Nat} (e : eqX mq h h') (hM : MJ h u) : MJ h' u := by
  have hi : ∀ k, ¬ mq k → hI h' k = hI h k := e.2.2.2.2
  obtain ⟨m1, m2, m3, m4⟩ := hM
  refine ⟨eqX_WS e m1, fun n a b => ?_, fun p a b => ?_, fun n d a b c f => ?_⟩
  · rw [hi 125 (fun q => by unfold mq at q; omega)]
    exact m2 n a b
  · rw [hi 124 (fun q => by unfold mq at q; omega)]
    exact m3 p a b
  · rw [hi 144 (fun q => by unfold mq at q; omega)]
    exact m4 n d a b c f
theorem mrA_mq {h h' : PH} (e : eqX mrA h h') : eqX mq h h' := eqX_mono (fun k q => by unfold mrA at q; unfold mq; omega) e
theorem m147_mq {h h' : PH} (e : eqX m147 h h') : eqX mq h h' := eqX_mono (fun k q => by unfold m147 at q; unfold mq; omega) e
theorem c_M_modulus {P : PSem} (S : SysOK P) {h : PH} {u : Nat → Nat} (hM : MJ h u) (n : Int32) {K : PK} (hK : K (.int (sMod u n)) h) : P.1 n_M_modulus [.ref 116, .int n] h K := by
  have hw := hM.1
  unfold sMod at hK
  refine S.go 60 rfl rfl rfl ?_
  conv => whnf
  refine c_M_isField S _ ?_
  conv => whnf
  refine bk_b0 (fun c => ?_) (fun c => ?_)
  · conv => whnf
    rw [c] at hK
    exact hK
  · rw [c, if_pos rfl] at hK
    obtain ⟨k, k1, k2, rfl⟩ := okF_nat c
    rw [nI_clamp (by omega)] at hK
    conv => whnf
    refine ⟨wt_116 hw, ?_⟩
    conv => whnf
    rw [wr_116_18 hw]
    refine ⟨inB_of (wt_125 hw) (wn_125 hw) (by omega) (by decide), ?_⟩
    conv => whnf
    rw [nI_clamp (by omega), hM.2.1 k k1 k2]
    exact hK
theorem c_M_whole {P : PSem} (S : SysOK P) {h : PH} {u : Nat → Nat} (hM : MJ h u) (p : Int32) {K : PK} (hK : K (.int (sWhole p)) h) : P.1 n_M_whole [.ref 116, .int p] h K := by
  have hw := hM.1
  unfold sWhole at hK
  refine S.go 60 rfl rfl rfl ?_
  conv => whnf
  refine c_M_in S _ _ _ ?_
  conv => whnf
  refine bk_b0 (fun c => ?_) (fun c => ?_)
  · rw [show hdg p = false from c] at hK
    conv => whnf
    exact hK
  · rw [show hdg p = true from c, if_pos rfl] at hK
    obtain ⟨q, rfl, q1, q2⟩ := hdg_nat c
    rw [nI_clamp (by omega)] at hK
    conv => whnf
    refine ⟨wt_116 hw, ?_⟩
    conv => whnf
    rw [wr_116_17 hw]
    refine ⟨Or.inr (inB_of (wt_124 hw) (wn_124 hw) (by omega) (by decide)), ?_⟩
    rw [nI_clamp (by omega), hM.2.2.1 q q1 q2]
    cases hb : irrT.testBit q with
    | true =>
      rw [hb] at hK
      refine bk_t (rfl) ?_
      conv => whnf
      exact hK
    | false =>
      rw [hb] at hK
      refine bk_f ((by decide)) ?_
      conv => whnf
      exact hK
theorem T_small : irrT.testBit 0 = false ∧ irrT.testBit 1 = false := by decide +kernel
theorem l_M_next {P : PSem} (S : SysOK P) {h : PH} (hw : WS h) (hs : SPL h) {K : PK} : ∀ j q, q + j = 8192 → K (.int (nxI (fnd (fun q => irrT.testBit q) j q))) h →
    P.2 n_M_next 11 [some (.ref 116), none, some (.int (nI q))] [] h 0 0 K := by
  intro j
  induction j with
  | zero =>
    intro q hq hK
    refine S.at 60 [] rfl ?_
    conv => whnf
    refine bk_t ((zn_le (a := 8192) (by omega) (by omega)).mpr (by omega)) ?_
    conv => whnf
    have e : q = 8192 := by omega
    subst e
    exact hK
  | succ j ih =>
    intro q hq hK
    refine S.at 60 [] rfl ?_
    conv => whnf
    refine bk_f (fun c => absurd ((zn_le (a := 8192) (by omega) (by omega)).mp c) (by omega)) ?_
    conv => whnf
    refine ⟨wt_116 hw, ?_⟩
    conv => whnf
    refine c_M_isWhole S hw hs _ ?_
    conv => whnf
    have e : (decide ((2 : Int32) ≤ nI q ∧ nI q ≤ 8191) && irrT.testBit (nI q).toNatClampNeg) = irrT.testBit q := by
      rw [nI_clamp (by omega)]
      rcases Nat.lt_or_ge q 2 with w | w
      · have : irrT.testBit q = false := by
          rcases (show q = 0 ∨ q = 1 by omega) with rfl | rfl
          · exact T_small.1
          · exact T_small.2
        rw [this, Bool.and_false]
      · rw [decide_eq_true ⟨(zn_le (a := 2) (by decide) (by omega)).mpr w, (zn_le (b := 8191) (by omega) (by decide)).mpr (by omega)⟩, Bool.true_and]
    rw [e]
    refine bk_b0 (fun c => ?_) (fun c => ?_)
    · rw [fnd_s0 (p := fun q => irrT.testBit q) (i := q) c] at hK
      conv => whnf
      have next := ih (q + 1) (by omega) hK
      rw [← nI_1] at next
      exact next
    · rw [fnd_s1 (p := fun q => irrT.testBit q) (i := q) c] at hK
      conv => whnf
      unfold nxI at hK
      rw [if_pos (by omega)] at hK
      exact hK
theorem c_M_next {P : PSem} (S : SysOK P) {h : PH} {u : Nat → Nat} (hM : MJ h u) (p : Int32) {K : PK} (hK : K (.int (sNext p)) h) : P.1 n_M_next [.ref 116, .int p] h K := by
  unfold sNext at hK
  refine S.2.1 _ 3 _ _ _ rfl rfl ?_
  refine S.at 60 [11] rfl ?_
  conv => whnf
  refine ⟨fun c => ?_, fun c => ?_⟩
  · rw [if_neg (fun q => absurd c (Int32.not_lt.mpr q.1))] at hK
    conv => whnf
    exact hK
  · conv => whnf
    refine ⟨fun c2 => ?_, fun c2 => ?_⟩
    · obtain ⟨q, rfl, hq⟩ : ∃ q : Nat, p = nI q ∧ q < 8192 := by
        rcases pk_ix p (n := 8192) (by decide) with w | w | ⟨j, hj, w⟩
        · exact absurd w c
        · exact absurd (Int32.lt_of_le_of_lt w c2) (Int32.lt_irrefl)
        · exact ⟨j, w, hj⟩
      conv => whnf
      refine S.mk [(0,1),(0,0),(0,1)] ?_
      have hK2 : K (.int (nxI (nxF q))) h := by
        rcases Nat.lt_or_ge q 8191 with w | w
        · rw [if_pos ⟨Int32.not_lt.mp c, (zn_lt (b := 8191) (by omega) (by decide)).mpr w⟩, nI_clamp (by omega)] at hK
          exact hK
        · have e : q = 8191 := by omega
          subst e
          rw [if_neg (by decide)] at hK
          exact hK
      have next := l_M_next S hM.1 hM.2.2.1 (8191 - q) (q + 1) (by omega) hK2
      rw [← nI_1] at next
      exact next
    · rw [if_neg (fun q => c2 (Int32.lt_trans q.2 (by decide)))] at hK
      conv => whnf
      exact hK
theorem wh_ck : (List.range 12).all (fun n => cb (fun p => irrT.testBit p) (n + 1) (2 ^ (n + 1)) == whL.getD (n + 1) 0) = true := by decide +kernel
theorem wh_eq {n : Nat} (hn1 : 1 ≤ n) (hn : n ≤ 12) : cnt (fun p => irrT.testBit (2 ^ n + p)) (2 ^ n) = whL.getD n 0 := by
  have := List.all_eq_true.mp wh_ck (n - 1) (List.mem_range.mpr (by omega))
  rw [show n - 1 + 1 = n by omega] at this
  have e := eq_of_beq this
  have e2 := cb_eq (fun p => irrT.testBit p) n (2 ^ n)
  rw [cnt_add] at e2
  rw [← e]
  omega
theorem cnt_le (p : Nat → Bool) : ∀ k, cnt p k ≤ k
  | 0 => Nat.le_refl 0
  | k + 1 => by
    have ih := cnt_le p k
    have e : cnt p (k + 1) = cnt p k + (p k).toNat := rfl
    have : (p k).toNat ≤ 1 := by cases p k <;> decide
    omega
theorem l_M_wholes {P : PSem} (S : SysOK P) {h : PH} (hw : WS h) (hs : SPL h) {n : Nat} (hn1 : 1 ≤ n) (hn : n ≤ 12) {K : PK} (hK : K (.int (nI (cnt (fun p => irrT.testBit (2 ^ n + p)) (2 ^ n)))) h) : ∀ j q, q + j = 2 ^ n →
    P.2 n_M_wholes 11 [some (.ref 116), some (.int (nI n)), some (.int (nI (cnt (fun p => irrT.testBit (2 ^ n + p)) q))), some (.int (nI (2 ^ n + q)))] [] h 0 0 K := by
  have h12 := pow12 hn
  have h2 := two_pow_ge2 hn1
  have e2 : i_shl 2 (nI n) = nI (2 ^ (n + 1)) := by
    have := zn_shl (a := 2) (k := n) (by omega) (by rw [Nat.shiftLeft_eq]; omega)
    rw [Nat.shiftLeft_eq, Nat.mul_comm, ← Nat.pow_succ] at this
    exact this
  have e3 : (2 : Nat) ^ (n + 1) = 2 ^ n + 2 ^ n := by rw [Nat.pow_succ]; omega
  intro j
  induction j with
  | zero =>
    intro q hq
    have e : q = 2 ^ n := by omega
    rw [e]
    refine S.at 60 [] rfl ?_
    conv => whnf
    rw [e2, e3]
    refine bk_t ((zn_le (by omega) (by omega)).mpr (by omega)) ?_
    conv => whnf
    exact hK
  | succ j ih =>
    intro q hq
    have next := ih (q + 1) (by omega)
    have e4 : cnt (fun p => irrT.testBit (2 ^ n + p)) (q + 1) = cnt (fun p => irrT.testBit (2 ^ n + p)) q + (irrT.testBit (2 ^ n + q)).toNat := rfl
    rw [e4, ← Nat.add_assoc, ← nI_1 (2 ^ n + q)] at next
    refine S.at 60 [] rfl ?_
    conv => whnf
    rw [e2, e3]
    refine bk_f (fun c => absurd ((zn_le (by omega) (by omega)).mp c) (by omega)) ?_
    conv => whnf
    refine ⟨wt_116 hw, ?_⟩
    conv => whnf
    rw [wr_116_17 hw]
    refine ⟨Or.inr (inB_of (wt_124 hw) (wn_124 hw) (by omega) (by decide)), ?_⟩
    rw [nI_clamp (by omega), hs (2 ^ n + q) (by omega) (by omega)]
    cases hb : irrT.testBit (2 ^ n + q) with
    | true =>
      rw [hb] at next
      refine bk_nf (rfl) ?_
      conv => whnf
      rw [show Bool.toNat true = 1 from rfl, ← nI_1 (cnt _ q)] at next
      exact next
    | false =>
      rw [hb] at next
      refine bk_nt ((by decide)) ?_
      conv => whnf
      exact next
theorem c_M_wholes {P : PSem} (S : SysOK P) {h : PH} {u : Nat → Nat} (hM : MJ h u) (n : Int32) {K : PK} (hK : K (.int (sWholes n)) h) : P.1 n_M_wholes [.ref 116, .int n] h K := by
  unfold sWholes at hK
  refine S.2.1 _ 4 _ _ _ rfl rfl ?_
  refine S.at 60 [11] rfl ?_
  conv => whnf
  refine c_M_isField S _ ?_
  conv => whnf
  refine bk_b1 (fun c => ?_) (fun c => ?_)
  · rw [c, if_pos rfl] at hK
    obtain ⟨k, k1, k2, rfl⟩ := okF_nat c
    rw [nI_clamp (by omega), ← wh_eq k1 k2] at hK
    conv => whnf
    rw [shl_one k2]
    exact l_M_wholes S hM.1 hM.2.2.1 k1 k2 hK (2 ^ k) 0 (by omega)
  · rw [c] at hK
    conv => whnf
    exact hK
theorem c_M_value {P : PSem} (S : SysOK P) {h : PH} {u : Nat → Nat} (hM : MJ h u) (hu : MDS u) (n p a : Int32) {K : PK} (hK : K (.int (sValue u n p a)) h) : P.1 n_M_value [.ref 116, .int n, .int p, .int a] h K := by
  have hw := hM.1
  unfold sValue at hK
  refine S.go 60 rfl rfl rfl ?_
  conv => whnf
  refine c_M_isOf S n a ?_
  conv => whnf
  refine bk_b0 (fun c => ?_) (fun c => ?_)
  · rw [c, Bool.false_and] at hK
    conv => whnf
    exact hK
  rw [c, Bool.true_and] at hK
  conv => whnf
  refine c_M_in S _ _ _ ?_
  conv => whnf
  refine bk_b0 (fun c1 => ?_) (fun c1 => ?_)
  · rw [c1] at hK
    conv => whnf
    exact hK
  · rw [c1, if_pos rfl] at hK
    have c1 := of_decide_eq_true c1
    obtain ⟨k, x, k1, k2, rfl, rfl, hx⟩ := okE_nat c
    obtain ⟨q, rfl, hq⟩ : ∃ q : Nat, p = nI q ∧ q < 8192 := by
      rcases pk_ix p (n := 8192) (by decide) with w | w | ⟨j, hj, w⟩
      · exact absurd (Int32.lt_of_le_of_lt c1.1 w) (by decide)
      · exact absurd (Int32.le_trans w c1.2) (by decide)
      · exact ⟨j, w, hj⟩
    have hk := pow12 k2
    rw [nI_clamp (by omega), nI_clamp (by omega), nI_clamp (by omega)] at hK
    conv => whnf
    refine ⟨wt_116 hw, ?_⟩
    conv => whnf
    refine c_M_valueAt S hw k2 (hu k k1 k2).1 (hM.2.1 k k1 k2) hx hq ?_
    conv => whnf
    exact hK
theorem in02 {w : Int32} (h : decide ((0 : Int32) ≤ w ∧ w ≤ 2) = true) : w = 0 ∨ w = 1 ∨ w = 2 := by
  have c := of_decide_eq_true h
  rcases pk_ix w (n := 3) (by decide) with q | q | ⟨j, hj, q⟩
  · exact absurd (Int32.lt_of_le_of_lt c.1 q) (by decide)
  · exact absurd (Int32.le_trans q c.2) (by decide)
  · rcases (show j = 0 ∨ j = 1 ∨ j = 2 by omega) with rfl | rfl | rfl
    · exact Or.inl q
    · exact Or.inr (Or.inl q)
    · exact Or.inr (Or.inr q)
theorem c_M_both {P : PSem} (S : SysOK P) {h : PH} {u : Nat → Nat} (hM : MJ h u) (hu : MDS u) (n a b w : Int32) {K : PK} (hK : K (.int (sBoth u n a b w)) h) : P.1 n_M_both [.ref 116, .int n, .int a, .int b, .int w] h K := by
  have hw := hM.1
  unfold sBoth at hK
  refine S.go 80 rfl rfl rfl ?_
  conv => whnf
  refine c_M_isOf S n a ?_
  conv => whnf
  refine bk_b0 (fun c => ?_) (fun c => ?_)
  · rw [c, Bool.false_and] at hK
    conv => whnf
    exact hK
  rw [c, Bool.true_and] at hK
  conv => whnf
  refine c_M_isOf S n b ?_
  conv => whnf
  refine bk_b0 (fun c2 => ?_) (fun c2 => ?_)
  · rw [c2] at hK
    conv => whnf
    exact hK
  rw [c2, if_pos rfl] at hK
  obtain ⟨k, x, k1, k2, rfl, rfl, hx⟩ := okE_nat c
  obtain ⟨k', y, -, k2', ek, rfl, hy⟩ := okE_nat c2
  have ek := (zn_eq (by omega) (by omega)).mp ek
  subst ek
  have hk := pow12 k2
  have hm := (hu k k1 k2).1
  rw [nI_clamp (show k < 2 ^ 31 by omega), nI_clamp (show x < 2 ^ 31 by omega), nI_clamp (show y < 2 ^ 31 by omega)] at hK
  conv => whnf
  refine c_M_in S _ _ _ ?_
  conv => whnf
  refine bk_b1 (fun c3 => ?_) (fun c3 => ?_)
  · rcases in02 c3 with rfl | rfl | rfl
    · rw [if_pos rfl] at hK
      conv => whnf
      refine bk_nf (rfl) ?_
      conv => whnf
      exact hK
    · rw [if_neg (by decide), if_pos rfl] at hK
      conv => whnf
      refine bk_nt ((by decide)) ?_
      conv => whnf
      refine bk_nf (rfl) ?_
      conv => whnf
      refine ⟨wt_116 hw, ?_⟩
      conv => whnf
      refine c_M_product S hw k2 hm (hM.2.1 k k1 k2) hx hy ?_
      conv => whnf
      exact hK
    · rw [if_neg (by decide), if_neg (by decide), if_pos rfl] at hK
      conv => whnf
      refine bk_nt ((by decide)) ?_
      conv => whnf
      refine bk_nt ((by decide)) ?_
      conv => whnf
      refine ⟨fun z => ?_, fun z => ?_⟩
      · rw [if_neg z] at hK
        conv => whnf
        refine ⟨wt_116 hw, ?_⟩
        conv => whnf
        refine c_M_inverse S hw k2 hm (hM.2.1 k k1 k2) hy ?_
        conv => whnf
        refine ⟨wt_116 hw, ?_⟩
        conv => whnf
        refine c_M_product S hw k2 hm (hM.2.1 k k1 k2) hx (fpw_lt hm hy _) ?_
        conv => whnf
        exact hK
      · rw [if_pos z] at hK
        conv => whnf
        exact hK
  · have c3 := of_decide_eq_false c3
    rw [if_neg (fun e => c3 (by rw [e]; decide)), if_neg (fun e => c3 (by rw [e]; decide)), if_neg (fun e => c3 (by rw [e]; decide))] at hK
    conv => whnf
    exact hK
/-! powers: the rest by 2^n - 1, of a number below 0 too -/
theorem rem_neg {k : Int32} {m L : Nat} (h : k.toInt = -(m : Int)) (hm : m ≤ 2 ^ 31) (h0 : 0 < L) (hL : L < 2 ^ 31) : (i_rem k (nI L)).toInt = -((m % L : Nat) : Int) := by
  have d1 : m / L ≤ m := Nat.div_le_self m L
  have d2 : m / L * L ≤ m := Nat.div_mul_le_self m L
  have d3 : m / L * L + m % L = m := Nat.div_add_mod' m L
  have e1 : (k / nI L).toInt = -((m / L : Nat) : Int) := by
    rw [Int32.toInt_div, h, nI_toInt hL, Int.neg_tdiv, ← Int.ofNat_tdiv]
    generalize m / L = q at d1 ⊢
    exact Int.bmod_eq_of_le (by omega) (by omega)
  have e2 : (k / nI L * nI L).toInt = -((m / L * L : Nat) : Int) := by
    rw [Int32.toInt_mul, e1, nI_toInt hL, Int.neg_mul, ← Int.natCast_mul]
    exact Int.bmod_eq_of_le (by omega) (by omega)
  unfold i_rem
  rw [Int32.toInt_sub, h, e2]
  have e3 : -(m : Int) - -((m / L * L : Nat) : Int) = -((m % L : Nat) : Int) := by omega
  rw [e3]
  have : m % L ≤ m := Nat.mod_le _ _
  exact Int.bmod_eq_of_le (by omega) (by omega)
theorem pwE_neg {m L : Nat} (hL : 0 < L) : ((L - 1) * m) % L = if m % L = 0 then 0 else L - m % L := by
  have h1 : ((L - 1) * m % L + m % L) % L = 0 := by
    rw [← Nat.add_mod, Nat.sub_mul, Nat.one_mul, Nat.sub_add_cancel (Nat.le_mul_of_pos_left m hL), Nat.mul_mod_right]
  have h2 := Nat.mod_lt ((L - 1) * m) hL
  have h3 := Nat.mod_lt m hL
  generalize (L - 1) * m % L = x at h1 h2 ⊢
  generalize m % L = y at h1 h3 ⊢
  rcases Nat.lt_or_ge (x + y) L with w | w
  · rw [Nat.mod_eq_of_lt w] at h1
    rw [if_pos (by omega)]
    omega
  · rw [Nat.mod_eq_sub_mod w, Nat.mod_eq_of_lt (by omega)] at h1
    by_cases z : y = 0
    · omega
    · rw [if_neg z]
      omega
theorem c_M_power {P : PSem} (S : SysOK P) {h : PH} {u : Nat → Nat} (hM : MJ h u) (hu : MDS u) (n a k : Int32) {K : PK} (hK : K (.int (sPower u n a k)) h) : P.1 n_M_power [.ref 116, .int n, .int a, .int k] h K := by
  have hw := hM.1
  unfold sPower at hK
  refine S.2.1 _ 6 _ _ _ rfl rfl ?_
  refine S.at 60 [38] rfl ?_
  conv => whnf
  refine c_M_isOf S n a ?_
  conv => whnf
  refine bk_b1 (fun c => ?_) (fun c => ?_)
  · rw [c, if_pos rfl] at hK
    obtain ⟨d, x, k1, k2, rfl, rfl, hx⟩ := okE_nat c
    have hk := pow12 k2
    have h2 := two_pow_ge2 k1
    have hm := (hu d k1 k2).1
    rw [nI_clamp (show d < 2 ^ 31 by omega), nI_clamp (show x < 2 ^ 31 by omega)] at hK
    conv => whnf
    refine ⟨fun c0 => ?_, fun c0 => ?_⟩
    · rw [if_neg c0] at hK
      conv => whnf
      have eL : (fun x y : Int32 => x - y) (i_shl 1 (nI d)) 1 = nI (2 ^ d - 1) := shl_m1 k2
      rw [eL]
      refine ⟨nI_ne0 (by omega) (by omega), ?_⟩
      conv => whnf
      have go : ∀ e, e < 2 ^ 31 → e = pwE (2 ^ d - 1) k → P.2 n_M_power 38 [some (.ref 116), some (.int (nI d)), some (.int (nI x)), some (.int k), some (.int (nI (2 ^ d - 1))), some (.int (i_rem k (nI (2 ^ d - 1))))] [.int (nI e), .int (nI x), .int (nI d), .ref 116] h 0 0 K := by
        intro e he e1
        rw [← e1] at hK
        refine S.at 20 [] rfl ?_
        conv => whnf
        refine ⟨wt_116 hw, ?_⟩
        refine c_M_powered S hw k2 hm (hM.2.1 d k1 k2) hx he ?_
        conv => whnf
        exact hK
      refine ⟨fun c1 => ?_, fun c1 => ?_⟩
      · conv => whnf
        rcases Int32.le_total 0 k with p0 | p0
        · obtain ⟨q, rfl, hq⟩ := i32_nat p0
          have hr : i_rem (nI q) (nI (2 ^ d - 1)) = nI (q % (2 ^ d - 1)) := i_rem_n hq (by omega) (by omega)
          have hlt := Nat.mod_lt q (show 0 < 2 ^ d - 1 by omega)
          have g := go (q % (2 ^ d - 1)) (by omega) (by unfold pwE; rw [if_pos p0, nI_toInt hq, Int.toNat_natCast])
          rw [← hr] at g
          exact g
        · rcases Int32.lt_or_eq_of_le p0 with p1 | p1
          · obtain ⟨m, m1, m2, m3⟩ := i32_neg p1
            have hr := rem_neg m3 m2 (show 0 < 2 ^ d - 1 by omega) (by omega)
            have c2 : 0 ≤ (i_rem k (nI (2 ^ d - 1))).toInt := Int32.le_iff_toInt_le.mp c1
            have hz : m % (2 ^ d - 1) = 0 := by omega
            have e0 : i_rem k (nI (2 ^ d - 1)) = nI 0 := by
              apply Int32.toInt_inj.mp
              rw [hr, hz]
              rfl
            have g := go 0 (by decide) (by unfold pwE; rw [if_neg (Int32.not_le.mpr p1), m3, Int.neg_neg, Int.toNat_natCast, pwE_neg (by omega), if_pos hz])
            rw [e0] at g ⊢
            exact g
          · subst p1
            have g := go 0 (by decide) (by unfold pwE; rw [if_pos (Int32.le_refl 0)]; exact (Nat.zero_mod _).symm)
            have e0 : i_rem 0 (nI (2 ^ d - 1)) = nI 0 := by
              have := i_rem_n (a := 0) (d := 2 ^ d - 1) (by decide) (by omega) (by omega)
              rw [Nat.zero_mod] at this
              exact this
            rw [e0] at g ⊢
            exact g
      · conv => whnf
        have p1 : k < 0 := by
          rcases Int32.lt_or_le k 0 with w | w
          · exact w
          · obtain ⟨q, rfl, hq⟩ := i32_nat w
            have hlt := Nat.mod_lt q (show 0 < 2 ^ d - 1 by omega)
            exact absurd (by rw [i_rem_n hq (by omega) (by omega)]; exact nI_pos' (by omega)) c1
        obtain ⟨m, m1, m2, m3⟩ := i32_neg p1
        have hr := rem_neg m3 m2 (show 0 < 2 ^ d - 1 by omega) (by omega)
        have hlt := Nat.mod_lt m (show 0 < 2 ^ d - 1 by omega)
        have hz : m % (2 ^ d - 1) ≠ 0 := fun z => c1 (by
          rw [Int32.le_iff_toInt_le, hr, z]
          decide)
        have e0 : i_rem k (nI (2 ^ d - 1)) + nI (2 ^ d - 1) = nI (2 ^ d - 1 - m % (2 ^ d - 1)) := by
          apply Int32.toInt_inj.mp
          rw [Int32.toInt_add, hr, nI_toInt (by omega), nI_toInt (by omega)]
          generalize m % (2 ^ d - 1) = y at hlt hz ⊢
          have : -(y : Int) + ((2 ^ d - 1 : Nat) : Int) = ((2 ^ d - 1 - y : Nat) : Int) := by omega
          rw [this]
          exact Int.bmod_eq_of_le (by omega) (by omega)
        have g := go (2 ^ d - 1 - m % (2 ^ d - 1)) (by omega) (by unfold pwE; rw [if_neg (Int32.not_le.mpr p1), m3, Int.neg_neg, Int.toNat_natCast, pwE_neg (by omega), if_neg hz])
        rw [← e0] at g
        exact g
    · rw [if_pos c0] at hK
      conv => whnf
      refine ⟨fun c1 => ?_, fun c1 => ?_⟩
      · rw [if_neg (Int32.not_lt.mpr c1)] at hK
        conv => whnf
        refine ⟨fun c2 => ?_, fun c2 => ?_⟩
        · rw [if_neg c2] at hK
          conv => whnf
          exact hK
        · rw [if_pos c2] at hK
          conv => whnf
          exact hK
      · rw [if_pos (Int32.not_le.mp c1)] at hK
        conv => whnf
        exact hK
  · rw [c] at hK
    conv => whnf
    exact hK
