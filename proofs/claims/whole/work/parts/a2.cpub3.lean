/-! the class's questions: squares, roots, cosets -/
theorem cnt_two {p : Nat → Bool} {y z : Nat} : ∀ N, y < N → z < N → (∀ v, v < N → (p v = true ↔ v = y ∨ v = z)) → cnt p N = if y = z then 1 else 2
  | 0, h, _, _ => by omega
  | N + 1, hy, hz, hp => by
    by_cases e : y = z
    · subst e
      rw [if_pos rfl]
      exact cnt_one (e := y) (N + 1) hy (fun j hj => by rw [hp j hj]; exact ⟨fun q => q.elim (fun a => a) (fun a => a), Or.inl⟩)
    · rw [if_neg e]
      show cnt p N + (p N).toNat = 2
      by_cases e1 : y = N
      · have : p N = true := (hp N (by omega)).mpr (Or.inl e1.symm)
        rw [this, cnt_one (e := z) N (by omega) (fun j hj => by rw [hp j (by omega)]; exact ⟨fun q => q.elim (fun a => by omega) (fun a => a), Or.inr⟩)]
        rfl
      · by_cases e2 : z = N
        · have : p N = true := (hp N (by omega)).mpr (Or.inr e2.symm)
          rw [this, cnt_one (e := y) N (by omega) (fun j hj => by rw [hp j (by omega)]; exact ⟨fun q => q.elim (fun a => a) (fun a => by omega), Or.inl⟩)]
          rfl
        · have : p N = false := by
            rw [← Bool.not_eq_true, hp N (by omega)]
            omega
          have ih := cnt_two N (by omega) (by omega) (fun v hv => hp v (by omega))
          rw [this, ih, if_neg e]
          rfl
def fnI (v N : Nat) : Int32 := if v < N then nI v else -2
def is01 (w : Int32) : Bool := decide ((0 : Int32) ≤ w ∧ w ≤ 1)
theorem is01_or {w : Int32} (h : is01 w = true) : w = 0 ∨ w = 1 := by
  have c := of_decide_eq_true h
  rcases pk_ix w (n := 2) (by decide) with q | q | ⟨j, hj, q⟩
  · exact absurd (Int32.lt_of_le_of_lt c.1 q) (by decide)
  · exact absurd (Int32.le_trans q c.2) (by decide)
  · rcases (show j = 0 ∨ j = 1 by omega) with rfl | rfl
    · exact Or.inl q
    · exact Or.inr q
def slS (n m b c : Nat) (w : Int32) : Int32 := if w = 0 then nI (cnt (fun v => sqb n m b v == c) (2 ^ n)) else fnI (fnd (fun v => sqb n m b v == c) (2 ^ n) 0) (2 ^ n)
def sSolve (u : Nat → Nat) (n b c w : Int32) : Int32 := if okE n b && okE n c && is01 w then slS n.toNatClampNeg (u n.toNatClampNeg) b.toNatClampNeg c.toNatClampNeg w else -1
theorem c_FT_solve {P : PSem} (S : SysOK P) {h : PH} {u : Nat → Nat} {r : Nat → Nat → Nat} (hC : CI h u r) (hu : MDS u) (n b c w : Int32) {K : PK} (hK : ∀ h', CI h' u r → FQ h h' → K (.int (sSolve u n b c w)) h') : P.1 n_FT_solve [.ref 5, .int n, .int b, .int c, .int w] h K := by
  have hw := hC.1
  unfold sSolve at hK
  refine S.go 100 rfl rfl rfl ?_
  conv => whnf
  refine c_FT_isElement S n b ?_
  conv => whnf
  refine bk_b0 (fun c1 => ?_) (fun c1 => ?_)
  · rw [c1, Bool.false_and, Bool.false_and] at hK
    conv => whnf
    exact hK h hC (FQ_rf h)
  rw [c1, Bool.true_and] at hK
  conv => whnf
  refine c_FT_isElement S n c ?_
  conv => whnf
  refine bk_b0 (fun c2 => ?_) (fun c2 => ?_)
  · rw [c2, Bool.false_and] at hK
    conv => whnf
    exact hK h hC (FQ_rf h)
  rw [c2, Bool.true_and] at hK
  conv => whnf
  refine ⟨fun c3 => ?_, fun c3 => ?_⟩
  · rw [show is01 w = false from decide_eq_false (fun q => absurd c3 (Int32.not_lt.mpr q.1))] at hK
    conv => whnf
    exact hK h hC (FQ_rf h)
  conv => whnf
  refine ⟨fun c4 => ?_, fun c4 => ?_⟩
  · have c5 : is01 w = true := decide_eq_true ⟨Int32.not_lt.mp c3, c4⟩
    rw [c5, if_pos rfl] at hK
    obtain ⟨k, x, k1, k2, rfl, rfl, hx⟩ := okE_nat c1
    obtain ⟨k', y, -, k2', ek, rfl, hy⟩ := okE_nat c2
    have ek := (zn_eq (by omega) (by omega)).mp ek
    subst ek
    have hk := pow12 k2
    have hM := hu k k1 k2
    have hm := hM.1
    rw [nI_clamp (show k < 2 ^ 31 by omega), nI_clamp (show x < 2 ^ 31 by omega), nI_clamp (show y < 2 ^ 31 by omega)] at hK
    have fq : ∀ h', eqX spA h h' → CI h' u r ∧ FQ h h' := fun h' q => ⟨CI_eqX (fun j hj => spA_frs hj) q hC, FQ_eqX q (fun j hj _ => frs_scr (spA_frs hj))⟩
    unfold slS at hK
    conv => whnf
    refine ⟨wt_5 hw, ?_⟩
    conv => whnf
    try rw [wr_5_1 hw]
    refine ⟨wt_8 hw, ?_⟩
    conv => whnf
    try rw [wr_8_2 hw]
    refine ⟨Or.inr (Or.inr (Or.inl (wi_in11 hw k1 k2))), ?_⟩
    conv => whnf
    rw [nI_clamp (show k < 2 ^ 31 by omega), wi_spc hw k1 k2]
    conv => whnf
    refine ⟨wi_sT hw k1 k2, ?_⟩
    conv => whnf
    refine c_Space_solveSquare S hw k1 k2 (hC.2.1 k k1 k2) hm hx hy (fun h' z a1 a2 a3 => ?_) (fun h' a1 a2 => ?_)
    · obtain ⟨f1, f2⟩ := fq h' a1
      have hsol : ∀ v, v < 2 ^ k → ((sqb k (u k) x v == y) = true ↔ v = z ∨ v = z ^^^ x) := fun v hv => by
        rw [beq_iff_eq, ← a3, eq_comm]
        exact sqb_sol hM hx a2 hv
      have hzx := xor_lt a2 hx
      conv => whnf
      refine bk_nt (nI_ne_m1 (by omega)) ?_
      conv => whnf
      rcases is01_or c5 with rfl | rfl
      · rw [if_pos rfl, cnt_two (2 ^ k) a2 hzx hsol] at hK
        refine bk_nf (rfl) ?_
        conv => whnf
        refine bk_ne (b := 0) (by omega) (by decide) (fun e => ?_) (fun e => ?_)
        · rw [if_neg (fun q => e (by
            have := congrArg (fun t => z ^^^ t) q
            simp only [xor_cx, Nat.xor_self] at this
            exact this.symm))] at hK
          conv => whnf
          exact hK h' f1 f2
        · rw [if_pos (by rw [e, Nat.xor_zero])] at hK
          conv => whnf
          exact hK h' f1 f2
      · rw [if_neg (by decide)] at hK
        refine bk_nt ((by decide)) ?_
        conv => whnf
        refine p1c (congrArg (fun t => [Value.int (nI z), Value.int t]) (zn_xor z x)) ?_
        refine c_Math_min S (by omega) (by omega) ?_
        conv => whnf
        have e : fnd (fun v => sqb k (u k) x v == y) (2 ^ k) 0 = min z (z ^^^ x) := by
          refine fnd_uq (p := fun v => sqb k (u k) x v == y) (Nat.zero_le _) (by omega) ?_ (fun l _ hl => ?_)
          · rw [hsol _ (by omega)]
            omega
          · rw [← Bool.not_eq_true, hsol l (by omega)]
            omega
        unfold fnI at hK
        rw [e, if_pos (by omega)] at hK
        exact hK h' f1 f2
    · obtain ⟨f1, f2⟩ := fq h' a1
      conv => whnf
      refine bk_nf rfl ?_
      conv => whnf
      rcases is01_or c5 with rfl | rfl
      · rw [if_pos rfl, cnt_zero (2 ^ k) (fun v hv => beq_eq_false_iff_ne.mpr (a2 v hv))] at hK
        refine bk_nf (rfl) ?_
        conv => whnf
        exact hK h' f1 f2
      · rw [if_neg (by decide), fnd_no (2 ^ k) 0 (fun v _ hv => beq_eq_false_iff_ne.mpr (a2 v (by omega)))] at hK
        unfold fnI at hK
        rw [if_neg (by omega)] at hK
        refine bk_nt ((by decide)) ?_
        conv => whnf
        exact hK h' f1 f2
  · rw [show is01 w = false from decide_eq_false (fun q => c4 q.2)] at hK
    conv => whnf
    exact hK h hC (FQ_rf h)
def rtS (n m a k : Nat) (w : Int32) : Int32 := if w = 0 then nI (cnt (fun v => fpw n m v k == a) (2 ^ n)) else fnI (rtL n m a k) (2 ^ n)
def okK (k : Int32) : Bool := decide ((1 : Int32) ≤ k ∧ k ≤ 9999)
def sRoots (u : Nat → Nat) (n a k w : Int32) : Int32 := if okE n a && okK k && is01 w then rtS n.toNatClampNeg (u n.toNatClampNeg) a.toNatClampNeg k.toNatClampNeg w else -1
theorem okK_nat {k : Int32} (h : okK k = true) : ∃ q : Nat, k = nI q ∧ 1 ≤ q ∧ q ≤ 9999 := by
  have c := of_decide_eq_true h
  rcases pk_ix k (n := 10000) (by decide) with w | w | ⟨j, hj, w⟩
  · exact absurd (Int32.lt_of_le_of_lt c.1 w) (by decide)
  · exact absurd (Int32.le_trans w c.2) (by decide)
  · subst w
    exact ⟨j, rfl, (zn_le (a := 1) (by decide) (by omega)).mp c.1, by omega⟩
theorem c_FT_roots {P : PSem} (S : SysOK P) {h : PH} {u : Nat → Nat} {r : Nat → Nat → Nat} (hC : CI h u r) (hu : MDS u) (n a k w : Int32) {K : PK} (hK : ∀ h', CI h' u r → FQ h h' → K (.int (sRoots u n a k w)) h') : P.1 n_FT_roots [.ref 5, .int n, .int a, .int k, .int w] h K := by
  have hw := hC.1
  unfold sRoots at hK
  refine S.go 100 rfl rfl rfl ?_
  conv => whnf
  refine c_FT_isElement S n a ?_
  conv => whnf
  refine bk_b0 (fun c1 => ?_) (fun c1 => ?_)
  · rw [c1, Bool.false_and, Bool.false_and] at hK
    conv => whnf
    exact hK h hC (FQ_rf h)
  rw [c1, Bool.true_and] at hK
  conv => whnf
  refine ⟨fun c2 => ?_, fun c2 => ?_⟩
  · rw [show okK k = false from decide_eq_false (fun q => absurd c2 (Int32.not_lt.mpr q.1)), Bool.false_and] at hK
    conv => whnf
    exact hK h hC (FQ_rf h)
  conv => whnf
  refine ⟨fun c3 => ?_, fun c3 => ?_⟩
  · rw [show okK k = false from decide_eq_false (fun q => absurd c3 (Int32.not_lt.mpr q.2)), Bool.false_and] at hK
    conv => whnf
    exact hK h hC (FQ_rf h)
  have c4 : okK k = true := decide_eq_true ⟨Int32.not_lt.mp c2, Int32.not_lt.mp c3⟩
  rw [c4, Bool.true_and] at hK
  conv => whnf
  refine ⟨fun c5 => ?_, fun c5 => ?_⟩
  · rw [show is01 w = false from decide_eq_false (fun q => absurd c5 (Int32.not_lt.mpr q.1))] at hK
    conv => whnf
    exact hK h hC (FQ_rf h)
  conv => whnf
  refine ⟨fun c6 => ?_, fun c6 => ?_⟩
  · have c7 : is01 w = true := decide_eq_true ⟨Int32.not_lt.mp c5, c6⟩
    rw [c7, if_pos rfl] at hK
    obtain ⟨d, x, d1, d2, rfl, rfl, hx⟩ := okE_nat c1
    obtain ⟨q, rfl, q1, q2⟩ := okK_nat c4
    have hk := pow12 d2
    have hM := hu d d1 d2
    have hm := hM.1
    have hG := all_GF d2 hM
    have hpr := lpF_prim d2 hM
    rw [nI_clamp (show d < 2 ^ 31 by omega), nI_clamp (show x < 2 ^ 31 by omega), nI_clamp (show q < 2 ^ 31 by omega)] at hK
    unfold rtS at hK
    conv => whnf
    refine bk_ne (b := 0) (by omega) (by decide) (fun z => ?_) (fun z => ?_)
    · conv => whnf
      refine ⟨wt_5 hw, ?_⟩
      conv => whnf
      try rw [wr_5_1 hw]
      refine ⟨wt_8 hw, ?_⟩
      conv => whnf
      try rw [wr_8_1 hw]
      refine ⟨Or.inr (Or.inl (wi_in10 hw d1 d2)), ?_⟩
      conv => whnf
      rw [nI_clamp (show d < 2 ^ 31 by omega), wi_cyc hw d1 d2]
      conv => whnf
      refine ⟨wi_yT hw d1 d2, ?_⟩
      conv => whnf
      refine c_Cycle_rootCount S d1 d2 hu hC (by omega) hx q1 q2 (fun h' a1 a2 => ?_)
      rw [rt_cnt hG hpr hx z q1] at hK
      have hg := gcd_s (k := q) (show 0 < 2 ^ d - 1 by have := two_pow_ge2 d1; omega)
      have hgk : Nat.gcd q (2 ^ d - 1) ≤ q := Nat.le_of_dvd (by omega) (Nat.gcd_dvd_left _ _)
      conv => whnf
      rcases is01_or c7 with rfl | rfl
      · rw [if_pos rfl] at hK
        refine bk_nf (rfl) ?_
        conv => whnf
        exact hK h' a1 a2
      · rw [if_neg (by decide)] at hK
        refine bk_nt ((by decide)) ?_
        conv => whnf
        by_cases e : lgF d (u d) (lpF d (u d)) x % Nat.gcd q (2 ^ d - 1) = 0
        · rw [if_pos e]
          refine bk_nt (nI_ne0 (by omega) (by omega)) ?_
          conv => whnf
          have hw' := a1.1
          refine ⟨wt_5 hw', ?_⟩
          conv => whnf
          try rw [wr_5_1 hw']
          refine ⟨wt_8 hw', ?_⟩
          conv => whnf
          try rw [wr_8_1 hw']
          refine ⟨Or.inr (Or.inl (wi_in10 hw' d1 d2)), ?_⟩
          conv => whnf
          rw [nI_clamp (show d < 2 ^ 31 by omega), wi_cyc hw' d1 d2]
          conv => whnf
          refine ⟨wi_yT hw' d1 d2, ?_⟩
          conv => whnf
          refine c_Cycle_leastRoot S d1 d2 hu a1 (by omega) hx q1 q2 e (fun h2 b1 b2 => ?_)
          conv => whnf
          have hlt : rtL d (u d) x q < 2 ^ d := by
            rw [rtL_eq hG hpr hx z q1 e]
            obtain ⟨⟨i, -, i2⟩, -⟩ := mnS_ok (fun i => fpw d (u d) (lpF d (u d)) (slF q (2 ^ d - 1) (lgF d (u d) (lpF d (u d)) x) + i * ((2 ^ d - 1) / Nat.gcd q (2 ^ d - 1)))) (Nat.gcd q (2 ^ d - 1) - 1)
            rw [i2]
            exact fpw_lt hm hpr.1 _
          unfold fnI at hK
          rw [if_pos hlt] at hK
          exact hK h2 b1 (FQ_tr a2 b2)
        · rw [if_neg e]
          refine bk_nf (rfl) ?_
          conv => whnf
          have hno : rtL d (u d) x q = 0 + 2 ^ d := fnd_no (2 ^ d) 0 (fun v _ hv => beq_eq_false_iff_ne.mpr (fun y => by
            have hv0 : v ≠ 0 := fun y0 => by
              rw [y0, fpw_0 hm (by omega)] at y
              exact z y.symm
            obtain ⟨j1, j2⟩ := lgF_ok hM hpr (show v < 2 ^ d by omega) hv0
            rw [← j2] at y
            exact mul_no e _ ((root_iff hG hpr hx z).mp y)))
          unfold fnI at hK
          rw [hno, if_neg (by omega)] at hK
          exact hK h' a1 a2
    · subst z
      have h0 : ∀ v, v < 2 ^ d → ((fpw d (u d) v q == 0) = true ↔ v = 0) := fun v hv => by
        rw [beq_iff_eq]
        constructor
        · intro y
          rcases Nat.eq_zero_or_pos v with w | w
          · exact w
          · exact absurd y (fpw_ne0 hM hv (by omega) q)
        · intro y
          rw [y]
          exact fpw_0 hm (by omega)
      conv => whnf
      rcases is01_or c7 with rfl | rfl
      · rw [if_pos rfl, cnt_one (e := 0) (2 ^ d) (Nat.two_pow_pos d) h0] at hK
        refine bk_nf (rfl) ?_
        conv => whnf
        exact hK h hC (FQ_rf h)
      · have e : rtL d (u d) 0 q = 0 := fnd_uq (p := fun v => fpw d (u d) v q == 0) (Nat.le_refl 0) (by omega) ((h0 0 (Nat.two_pow_pos d)).mpr rfl) (fun l _ hl => by omega)
        unfold fnI at hK
        rw [if_neg (by decide), e, if_pos (Nat.two_pow_pos d)] at hK
        refine bk_nt ((by decide)) ?_
        conv => whnf
        exact hK h hC (FQ_rf h)
  · rw [show is01 w = false from decide_eq_false (fun q => c6 q.2)] at hK
    conv => whnf
    exact hK h hC (FQ_rf h)
/-! cosets -/
def dbF (L k : Nat) : Nat → Nat := fun i => 2 ^ i * k % L
theorem db_succ {L k i : Nat} : dbF L k (i + 1) = 2 * dbF L k i % L := by
  unfold dbF
  rw [Nat.pow_succ, Nat.mul_comm (2 ^ i) 2, Nat.mul_assoc, Nat.mul_mod_mod]
def csN (n L k : Nat) : Nat := fnd (fun i => dbF L k i == k) n 1
theorem csN_ok {n k : Nat} (hn1 : 1 ≤ n) (hk : k < 2 ^ n - 1) : 1 ≤ csN n (2 ^ n - 1) k ∧ csN n (2 ^ n - 1) k ≤ n ∧ dbF (2 ^ n - 1) k (csN n (2 ^ n - 1) k) = k ∧ ∀ i, 1 ≤ i → i < csN n (2 ^ n - 1) k → dbF (2 ^ n - 1) k i ≠ k := by
  have h2 := two_pow_ge2 hn1
  have hend : dbF (2 ^ n - 1) k n = k := by
    unfold dbF
    have : 2 ^ n * k = k + (2 ^ n - 1) * k := by
      rw [Nat.sub_mul, Nat.one_mul]
      have := Nat.mul_le_mul_right k (show 1 ≤ 2 ^ n by omega)
      omega
    rw [this, Nat.add_mul_mod_self_left, Nat.mod_eq_of_lt hk]
  obtain ⟨a, b, c, d⟩ := fnd_ok (p := fun i => dbF (2 ^ n - 1) k i == k) n 1 n hn1 (by omega) (beq_iff_eq.mpr hend)
  exact ⟨a, b, eq_of_beq c, fun i h1 h2 => beq_eq_false_iff_ne.mp (d i h1 h2)⟩
def csS (n k : Nat) (w : Int32) : Int32 := if w = 0 then nI (mnS (dbF (2 ^ n - 1) k) (csN n (2 ^ n - 1) k - 1)) else nI (csN n (2 ^ n - 1) k)
def okC (n k : Int32) : Bool := okF n && decide ((0 : Int32) ≤ k ∧ k ≤ nI (2 ^ n.toNatClampNeg) - 2)
def sCoset (n k w : Int32) : Int32 := if okC n k && is01 w then csS n.toNatClampNeg k.toNatClampNeg w else -1
theorem okC_nat {n k : Int32} (h : okC n k = true) : ∃ d q : Nat, 1 ≤ d ∧ d ≤ 12 ∧ n = nI d ∧ k = nI q ∧ q < 2 ^ d - 1 := by
  unfold okC at h
  rw [Bool.and_eq_true] at h
  obtain ⟨d, d1, d2, rfl⟩ := okF_nat h.1
  have h2 := of_decide_eq_true h.2
  have hk := pow12 d2
  have hd := two_pow_ge2 d1
  rw [nI_clamp (by omega), show nI (2 ^ d) - 2 = nI (2 ^ d - 2) from pk_sub (b := 2) hd] at h2
  rcases pk_ix k (n := 2 ^ d - 1) (by omega) with w | w | ⟨j, hj, w⟩
  · exact absurd (Int32.lt_of_le_of_lt h2.1 w) (by decide)
  · exact absurd ((zn_le (by omega) (by omega)).mp (Int32.le_trans w h2.2)) (by omega)
  · exact ⟨d, j, d1, d2, rfl, w, hj⟩
theorem mnS_lt {f : Nat → Nat} {N : Nat} (h : ∀ i, f i < N) (c : Nat) : mnS f c < N := by
  obtain ⟨⟨i, -, i2⟩, -⟩ := mnS_ok f c
  rw [i2]
  exact h i
theorem l_FT_coset {P : PSem} (S : SysOK P) {h : PH} {n k : Nat} {w : Int32} (hn1 : 1 ≤ n) (hn : n ≤ 12) (hk : k < 2 ^ n - 1) {K : PK} (hK : P.2 n_FT_coset 52 [none, none, none, some (.int w), none, some (.int (nI (mnS (dbF (2 ^ n - 1) k) (csN n (2 ^ n - 1) k - 1)))), some (.int (nI (csN n (2 ^ n - 1) k))), none, none] [] h 0 0 K) : ∀ j q, q + j = csN n (2 ^ n - 1) k → 1 ≤ q →
    P.2 n_FT_coset 35 [none, some (.int (nI n)), some (.int (nI k)), some (.int w), some (.int (nI (2 ^ n - 1))), some (.int (nI (mnS (dbF (2 ^ n - 1) k) (q - 1)))), some (.int (nI q)), some (.int (nI (dbF (2 ^ n - 1) k q))), some (.int (nI q))] [] h 0 0 K := by
  have h12 := pow12 hn
  obtain ⟨c1, c2, c3, c4⟩ := csN_ok hn1 hk
  have hlt : ∀ i, dbF (2 ^ n - 1) k i < 2 ^ n - 1 := fun i => Nat.mod_lt _ (by omega)
  have hmn := fun c => mnS_lt hlt c
  intro j
  induction j with
  | zero =>
    intro q hq hq1
    have e : q = csN n (2 ^ n - 1) k := by omega
    rw [← e] at c3 hK c2
    refine S.at 60 [52] rfl ?_
    conv => whnf
    refine bk_le (by omega) (by omega) (fun c => ?_) (fun c => ?_)
    · conv => whnf
      exact S.mk [(0, 0), (0, 0), (0, 0), (0, 1), (0, 0), (0, 1), (0, 1), (0, 0), (0, 0)] hK
    · conv => whnf
      rw [c3]
      refine bk_t (rfl) ?_
      conv => whnf
      exact S.mk [(0, 0), (0, 0), (0, 0), (0, 1), (0, 0), (0, 1), (0, 1), (0, 0), (0, 0)] hK
  | succ j ih =>
    intro q hq hq1
    have b1 := hlt q
    have b2 := hmn (q - 1)
    refine S.at 60 [52] rfl ?_
    conv => whnf
    refine bk_f (fun c => absurd ((zn_le (by omega) (by omega)).mp c) (by omega)) ?_
    conv => whnf
    refine bk_f (fun c => c4 q hq1 (by omega) ((zn_eq (by omega) (by omega)).mp c)) ?_
    conv => whnf
    refine c_Math_min S (by omega) (by omega) ?_
    conv => whnf
    refine c_FT_doubled S (by omega) b1 ?_
    conv => whnf
    have next := ih (q + 1) (by omega) (by omega)
    have e3 : mnS (dbF (2 ^ n - 1) k) (q + 1 - 1) = min (mnS (dbF (2 ^ n - 1) k) (q - 1)) (dbF (2 ^ n - 1) k q) := by
      obtain ⟨t, rfl⟩ : ∃ t, q = t + 1 := ⟨q - 1, by omega⟩
      rfl
    rw [e3, db_succ, ← nI_1] at next
    exact next
theorem c_FT_coset {P : PSem} (S : SysOK P) {h : PH} (n k w : Int32) {K : PK} (hK : K (.int (sCoset n k w)) h) : P.1 n_FT_coset [.ref 5, .int n, .int k, .int w] h K := by
  unfold sCoset at hK
  refine S.2.1 _ 9 _ _ _ rfl rfl ?_
  refine S.at 80 [35] rfl ?_
  conv => whnf
  refine c_FT_isField S _ ?_
  conv => whnf
  refine bk_b0 (fun c1 => ?_) (fun c1 => ?_)
  · have : okC n k = false := by unfold okC; rw [c1]; rfl
    rw [this, Bool.false_and] at hK
    conv => whnf
    exact hK
  obtain ⟨d, d1, d2, rfl⟩ := okF_nat c1
  have hk := pow12 d2
  have hd := two_pow_ge2 d1
  have e2 : (fun x y : Int32 => x - y) (i_shl 1 (nI d)) 2 = nI (2 ^ d) - 2 := by show i_shl 1 (nI d) - 2 = _; rw [shl_one d2]
  conv => whnf
  refine ⟨fun c2 => ?_, fun c2 => ?_⟩
  · have : okC (nI d) k = false := by unfold okC; rw [c1, decide_eq_false (fun q => absurd c2 (Int32.not_lt.mpr q.1))]; rfl
    rw [this, Bool.false_and] at hK
    conv => whnf
    exact hK
  conv => whnf
  rw [e2]
  refine ⟨fun c3 => ?_, fun c3 => ?_⟩
  · have : okC (nI d) k = false := by unfold okC; rw [nI_clamp (by omega), c1, decide_eq_false (fun q => absurd c3 (Int32.not_lt.mpr q.2))]; rfl
    rw [this, Bool.false_and] at hK
    conv => whnf
    exact hK
  have c4 : okC (nI d) k = true := by unfold okC; rw [nI_clamp (by omega), c1, decide_eq_true ⟨Int32.not_lt.mp c2, Int32.not_lt.mp c3⟩]; rfl
  rw [c4, Bool.true_and] at hK
  conv => whnf
  refine ⟨fun c5 => ?_, fun c5 => ?_⟩
  · rw [show is01 w = false from decide_eq_false (fun q => absurd c5 (Int32.not_lt.mpr q.1))] at hK
    conv => whnf
    exact hK
  conv => whnf
  refine ⟨fun c6 => ?_, fun c6 => ?_⟩
  · have c7 : is01 w = true := decide_eq_true ⟨Int32.not_lt.mp c5, c6⟩
    rw [c7, if_pos rfl] at hK
    obtain ⟨d', q, -, d2', ed, rfl, hq⟩ := okC_nat c4
    have ed := (zn_eq (by omega) (by omega)).mp ed
    subst ed
    rw [nI_clamp (by omega), nI_clamp (by omega)] at hK
    obtain ⟨s1, s2, s3, s4⟩ := csN_ok d1 hq
    conv => whnf
    refine p1c (congrArg (fun z => [Value.int (nI q), Value.int z]) (shl_m1 d2)) ?_
    refine c_FT_doubled S (by omega) hq ?_
    conv => whnf
    have next := l_FT_coset S (h := h) (K := K) (w := w) d1 d2 hq (by
      unfold csS at hK
      refine S.at 60 [] rfl ?_
      conv => whnf
      rcases is01_or c7 with rfl | rfl
      · rw [if_pos rfl] at hK
        refine bk_nf rfl ?_
        conv => whnf
        exact hK
      · rw [if_neg (by decide)] at hK
        refine bk_nt (by decide) ?_
        conv => whnf
        exact hK) (csN d (2 ^ d - 1) q - 1) 1 (by omega) (Nat.le_refl 1)
    have e5 : dbF (2 ^ d - 1) q 1 = 2 * q % (2 ^ d - 1) := by unfold dbF; rw [Nat.pow_one]
    have e6 : mnS (dbF (2 ^ d - 1) q) (1 - 1) = q := by
      show dbF (2 ^ d - 1) q 0 = q
      unfold dbF
      rw [Nat.pow_zero, Nat.one_mul, Nat.mod_eq_of_lt hq]
    rw [e5, e6, ← shl_m1 d2] at next
    refine S.mk [(0, 0), (0, 1), (0, 1), (0, 1), (0, 1), (0, 1), (0, 1), (0, 1), (0, 1)] ?_
    rw [shl_m1 d2] at next
    exact p2c (congrArg (fun z : Int32 => ([none, some (Value.int (nI d)), some (Value.int (nI q)), some (Value.int w), some (Value.int z), some (Value.int (nI q)), some (Value.int 1), some (Value.int (nI (2 * q % (2 ^ d - 1)))), some (Value.int 1)] : PL)) (shl_m1 d2)) next
  · rw [show is01 w = false from decide_eq_false (fun q => c6 q.2)] at hK
    conv => whnf
    exact hK
