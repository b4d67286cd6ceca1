/-! what is told of a field; codes -/
def phL : List Nat := [0, 1, 2, 6, 8, 30, 36, 126, 128, 432, 600, 1936, 1728]
def nmL : List Nat := [0, 1, 2, 3, 8, 15, 24, 49, 128, 189, 480, 1023, 1536]
theorem ph_ck : (List.range 12).all (fun n => phO 4096 2 (2 ^ (n + 1) - 1) (2 ^ (n + 1) - 1) == phL.getD (n + 1) 0) = true := by decide +kernel
theorem ph_eq {n : Nat} (hn1 : 1 ≤ n) (hn : n ≤ 12) : phO 4096 2 (2 ^ n - 1) (2 ^ n - 1) = phL.getD n 0 := by
  have := List.all_eq_true.mp ph_ck (n - 1) (List.mem_range.mpr (by omega))
  rw [show n - 1 + 1 = n by omega] at this
  exact eq_of_beq this
theorem gp_ck : (List.range 12).all (fun n => cb (fun k => Nat.gcd k (2 ^ (n + 1) - 1) == 1) (n + 1) 0 == phL.getD (n + 1) 0 + (if n = 0 then 1 else 0)) = true := by decide +kernel
theorem gp_eq {n : Nat} (hn1 : 1 ≤ n) (hn : n ≤ 12) : cnt (fun k => Nat.gcd k (2 ^ n - 1) == 1) (2 ^ n - 1) = phL.getD n 0 := by
  have := List.all_eq_true.mp gp_ck (n - 1) (List.mem_range.mpr (by omega))
  rw [show n - 1 + 1 = n by omega] at this
  have e := eq_of_beq this
  rw [← cb_0] at e
  have h2 := two_pow_ge2 hn1
  have e2 : cnt (fun k => Nat.gcd k (2 ^ n - 1) == 1) (2 ^ n) = cnt (fun k => Nat.gcd k (2 ^ n - 1) == 1) (2 ^ n - 1) + (Nat.gcd (2 ^ n - 1) (2 ^ n - 1) == 1).toNat := by
    have : 2 ^ n = (2 ^ n - 1) + 1 := by omega
    rw [show cnt (fun k => Nat.gcd k (2 ^ n - 1) == 1) (2 ^ n) = cnt (fun k => Nat.gcd k (2 ^ n - 1) == 1) ((2 ^ n - 1) + 1) from congrArg _ this]
    rfl
  rw [e2, Nat.gcd_self] at e
  by_cases h : n = 1
  · subst h
    exact Nat.add_right_cancel e
  · rw [if_neg (by omega)] at e
    have h4 : 4 ≤ 2 ^ n := pow_le (i := 2) (by omega)
    rw [beq_eq_false_iff_ne.mpr (by omega)] at e
    exact e
def dbS (n : Nat) : Nat → Nat
  | 0 => 0
  | k + 1 => if n % (k + 1) = 0 then dbS n k ||| 1 <<< k else dbS n k
noncomputable def fdS (n m : Nat) (w : Int32) : Int32 := if w = 0 then nI (lpF n m) else if w = 1 then nI (phL.getD n 0) else if w = 2 then nI (lnF n m) else if w = 3 then nI (nmL.getD n 0) else if w = 4 then nI (n * whL.getD n 0) else if w = 5 then nI (dbS n n) else -1
noncomputable def sField (u : Nat → Nat) (n w : Int32) : Int32 := if okF n then fdS n.toNatClampNeg (u n.toNatClampNeg) w else -1
theorem shl_k {q : Nat} (hq : q ≤ 12) : i_shl 1 (nI (q + 1) - 1) = nI (1 <<< q) := by
  rw [show nI (q + 1) - 1 = nI q from pk_sub (a := q + 1) (b := 1) (by omega)]
  have : (2 : Nat) ^ q ≤ 4096 := pow12 hq
  exact zn_shl (a := 1) (by omega) (by rw [Nat.shiftLeft_eq]; omega)
theorem l_FT_dv {P : PSem} (S : SysOK P) {h : PH} {n : Nat} (hn : n ≤ 12) {K : PK} (hK : K (.int (nI (dbS n n))) h) : ∀ j q, q + j = n →
    P.2 n_FT_divisorBits 4 [some (.int (nI n)), some (.int (nI (dbS n q))), some (.int (nI (q + 1)))] [] h 0 0 K := by
  intro j
  induction j with
  | zero =>
    intro q hq
    have e : q = n := by omega
    subst e
    refine S.at 60 [] rfl ?_
    conv => whnf
    refine bk_t ((zn_lt (by omega) (by omega)).mpr (by omega)) ?_
    conv => whnf
    exact hK
  | succ j ih =>
    intro q hq
    have next := ih (q + 1) (by omega)
    rw [← nI_1 (q + 1)] at next
    have e0 : dbS n (q + 1) = if n % (q + 1) = 0 then dbS n q ||| 1 <<< q else dbS n q := rfl
    rw [e0] at next
    refine S.at 60 [] rfl ?_
    conv => whnf
    refine bk_f (fun c => absurd ((zn_lt (by omega) (by omega)).mp c) (by omega)) ?_
    conv => whnf
    refine c_FT_divides S (by omega) (by omega) ?_
    conv => whnf
    refine bk_b0 (fun c => ?_) (fun c => ?_)
    · have c := of_decide_eq_false c
      rw [if_neg (fun z => c ⟨by omega, z⟩)] at next
      conv => whnf
      exact next
    · have c := of_decide_eq_true c
      rw [if_pos c.2, ← zn_or, ← shl_k (by omega)] at next
      conv => whnf
      exact next
theorem c_FT_divisorBits {P : PSem} (S : SysOK P) {h : PH} {n : Nat} (hn : n ≤ 12) {K : PK} (hK : K (.int (nI (dbS n n))) h) : P.1 n_FT_divisorBits [.int (nI n)] h K := by
  refine S.2.1 _ 3 _ _ _ rfl rfl ?_
  refine S.at 4 [] rfl ?_
  conv => whnf
  exact l_FT_dv S hn hK n 0 (by omega)
theorem c_FT_field {P : PSem} (S : SysOK P) {h : PH} {u : Nat → Nat} {r : Nat → Nat → Nat} (hC : CI h u r) (hu : MDS u) (h3 : ∀ n, n ≤ 12 → hI h 3 n = nI (whL.getD n 0)) (h4 : ∀ n, n ≤ 12 → hI h 4 n = nI (nmL.getD n 0)) (n w : Int32) {K : PK} (hK : ∀ h', CI h' u r → FQ h h' → K (.int (sField u n w)) h') : P.1 n_FT_field [.ref 5, .int n, .int w] h K := by
  have hw := hC.1
  unfold sField at hK
  refine S.go 80 rfl rfl rfl ?_
  conv => whnf
  refine c_FT_isField S _ ?_
  conv => whnf
  refine bk_b1 (fun c => ?_) (fun c => ?_)
  · rw [c, if_pos rfl] at hK
    obtain ⟨k, k1, k2, rfl⟩ := okF_nat c
    have hM := hu k k1 k2
    have hF := hC.2.1 k k1 k2
    obtain ⟨y1, y2⟩ := hC.2.2.1 k k1 k2
    rw [nI_clamp (show k < 2 ^ 31 by omega)] at hK
    unfold fdS at hK
    conv => whnf
    refine ⟨fun e => ?_, fun e0 => ?_⟩
    · rw [if_pos e] at hK
      conv => whnf
      refine ⟨wt_5 hw, ?_⟩
      conv => whnf
      try rw [wr_5_1 hw]
      refine ⟨wt_8 hw, ?_⟩
      conv => whnf
      try rw [wr_8_1 hw]
      refine ⟨Or.inr (Or.inl (wi_in10 hw k1 k2)), ?_⟩
      conv => whnf
      rw [nI_clamp (show k < 2 ^ 31 by omega), wi_cyc hw k1 k2]
      conv => whnf
      refine ⟨wi_yT hw k1 k2, ?_⟩
      conv => whnf
      refine c_Cycle_leastPrimitive S hw k1 k2 hF hM y1 y2 ?_
      conv => whnf
      exact hK _ (CI_prim k1 k2 hC) (FQ_sI (by unfold scr; omega))
    rw [if_neg e0] at hK
    refine ⟨fun e => ?_, fun e1 => ?_⟩
    · rw [if_pos e, ← ph_eq k1 k2] at hK
      conv => whnf
      refine ⟨wt_5 hw, ?_⟩
      conv => whnf
      try rw [wr_5_1 hw]
      refine ⟨wt_8 hw, ?_⟩
      conv => whnf
      try rw [wr_8_1 hw]
      refine ⟨Or.inr (Or.inl (wi_in10 hw k1 k2)), ?_⟩
      conv => whnf
      rw [nI_clamp (show k < 2 ^ 31 by omega), wi_cyc hw k1 k2]
      conv => whnf
      refine ⟨wi_yT hw k1 k2, ?_⟩
      conv => whnf
      refine c_Cycle_primitiveCount S hw k1 k2 y1 ?_
      conv => whnf
      exact hK h hC (FQ_rf h)
    rw [if_neg e1] at hK
    refine ⟨fun e => ?_, fun e2 => ?_⟩
    · rw [if_pos e] at hK
      conv => whnf
      refine ⟨wt_5 hw, ?_⟩
      conv => whnf
      try rw [wr_5_1 hw]
      refine ⟨wt_8 hw, ?_⟩
      conv => whnf
      try rw [wr_8_2 hw]
      refine ⟨Or.inr (Or.inr (Or.inl (wi_in11 hw k1 k2))), ?_⟩
      conv => whnf
      rw [nI_clamp (show k < 2 ^ 31 by omega), wi_spc hw k1 k2]
      conv => whnf
      refine ⟨wi_sT hw k1 k2, ?_⟩
      conv => whnf
      refine c_Space_leastNormal S k1 k2 hu hC (fun h' a1 a2 => ?_)
      conv => whnf
      exact hK h' a1 (FQ_eqX a2 (fun j hj _ => spS_scr k1 k2 hj))
    rw [if_neg e2] at hK
    refine ⟨fun e => ?_, fun e3 => ?_⟩
    · rw [if_pos e, ← h4 k k2] at hK
      conv => whnf
      refine ⟨inB_of (wt_4 hw) (wn_4 hw) (by omega) (by decide), ?_⟩
      conv => whnf
      rw [nI_clamp (by omega)]
      exact hK h hC (FQ_rf h)
    rw [if_neg e3] at hK
    refine ⟨fun e => ?_, fun e4 => ?_⟩
    · rw [if_pos e, ← pk_mul, ← h3 k k2] at hK
      conv => whnf
      refine ⟨inB_of (wt_3 hw) (wn_3 hw) (by omega) (by decide), ?_⟩
      conv => whnf
      rw [nI_clamp (by omega)]
      exact hK h hC (FQ_rf h)
    rw [if_neg e4] at hK
    refine ⟨fun e => ?_, fun e5 => ?_⟩
    · rw [if_pos e] at hK
      conv => whnf
      refine c_FT_divisorBits S k2 ?_
      conv => whnf
      exact hK h hC (FQ_rf h)
    rw [if_neg e5] at hK
    conv => whnf
    exact hK h hC (FQ_rf h)
  · rw [c] at hK
    conv => whnf
    exact hK h hC (FQ_rf h)
def okT (n t : Int32) : Bool := okF n && decide ((2 : Int32) ≤ n) && decide ((1 : Int32) ≤ t ∧ t ≤ 5)
def sCode (u : Nat → Nat) (n t : Int32) : Int64 := if okT n t then lN (cdS (cpt n.toNatClampNeg (u n.toNatClampNeg)) t.toNatClampNeg) else -1
theorem okT_nat {n t : Int32} (h : okT n t = true) : ∃ k q : Nat, 1 ≤ k ∧ k ≤ 12 ∧ n = nI k ∧ t = nI q ∧ q ≤ 5 ∧ 1 ≤ q ∧ 2 ≤ k := by
  unfold okT at h
  rw [Bool.and_eq_true, Bool.and_eq_true] at h
  obtain ⟨k, k1, k2, rfl⟩ := okF_nat h.1.1
  have h2 := of_decide_eq_true h.1.2
  have h3 := of_decide_eq_true h.2
  rcases pk_ix t (n := 6) (by decide) with w | w | ⟨j, hj, w⟩
  · exact absurd (Int32.lt_of_le_of_lt h3.1 w) (by decide)
  · exact absurd (Int32.le_trans w h3.2) (by decide)
  · subst w
    exact ⟨k, j, k1, k2, rfl, rfl, by omega, (zn_le (a := 1) (by decide) (by omega)).mp h3.1, (zn_le (a := 2) (by decide) (by omega)).mp h2⟩
theorem c_FT_code {P : PSem} (S : SysOK P) {h : PH} {u : Nat → Nat} {r : Nat → Nat → Nat} (hC : CI h u r) (hu : MDS u) (n t : Int32) {K : PK} (hK : ∀ h', CI h' u r → FQ h h' → K (.long (sCode u n t)) h') : P.1 n_FT_code [.ref 5, .int n, .int t] h K := by
  have hw := hC.1
  unfold sCode at hK
  refine S.go 60 rfl rfl rfl ?_
  conv => whnf
  refine c_FT_isField S _ ?_
  conv => whnf
  refine bk_b0 (fun c1 => ?_) (fun c1 => ?_)
  · have : okT n t = false := by unfold okT; rw [c1]; rfl
    rw [this] at hK
    conv => whnf
    exact hK h hC (FQ_rf h)
  conv => whnf
  refine ⟨fun c2 => ?_, fun c2 => ?_⟩
  · have : okT n t = false := by unfold okT; rw [decide_eq_false (Int32.not_le.mpr c2), Bool.and_false]; rfl
    rw [this] at hK
    conv => whnf
    exact hK h hC (FQ_rf h)
  conv => whnf
  refine ⟨fun c3 => ?_, fun c3 => ?_⟩
  · have : okT n t = false := by unfold okT; rw [decide_eq_false (fun q : (1 : Int32) ≤ t ∧ t ≤ 5 => absurd c3 (Int32.not_lt.mpr q.1)), Bool.and_false]
    rw [this] at hK
    conv => whnf
    exact hK h hC (FQ_rf h)
  conv => whnf
  refine ⟨fun c4 => ?_, fun c4 => ?_⟩
  · have c5 : okT n t = true := by unfold okT; rw [c1, decide_eq_true (Int32.not_lt.mp c2), decide_eq_true ⟨Int32.not_lt.mp c3, c4⟩]; rfl
    rw [c5, if_pos rfl] at hK
    obtain ⟨k, q, k1, k2, rfl, rfl, q1, q2, -⟩ := okT_nat c5
    rw [nI_clamp (by omega), nI_clamp (by omega)] at hK
    conv => whnf
    refine ⟨wt_5 hw, ?_⟩
    conv => whnf
    rw [wr_5_1 hw]
    refine ⟨wt_8 hw, ?_⟩
    conv => whnf
    refine c_Tower_codePolynomial S k1 k2 hu q1 hC (fun h' a1 a2 => ?_)
    conv => whnf
    exact hK h' a1 a2
  · have : okT n t = false := by unfold okT; rw [decide_eq_false (fun q : (1 : Int32) ≤ t ∧ t ≤ 5 => c4 q.2), Bool.and_false]
    rw [this] at hK
    conv => whnf
    exact hK h hC (FQ_rf h)
