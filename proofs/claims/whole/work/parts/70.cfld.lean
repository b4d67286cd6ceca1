/-! the class's fields: conjugates, traces, norms -/
theorem c_Math_min {P : PSem} (S : SysOK P) {a b : Nat} (ha : a < 2 ^ 31) (hb : b < 2 ^ 31) {h : PH} {K : PK} (hk : K (.int (nI (min a b))) h) : P.1 n_Math_min [.int (nI a), .int (nI b)] h K := by
  refine S.go 40 rfl rfl rfl ?_
  conv => whnf
  refine bk_lt hb ha (fun c => ?_) (fun c => ?_)
  · conv => whnf
    rw [Nat.min_eq_right (by omega)] at hk
    exact hk
  · conv => whnf
    rw [Nat.min_eq_left c] at hk
    exact hk
theorem fnd_ge {p : Nat → Bool} : ∀ j i, i ≤ fnd p j i
  | 0, i => Nat.le_refl i
  | j + 1, i => by
    unfold fnd
    split
    · exact Nat.le_refl i
    · exact Nat.le_trans (by omega) (fnd_ge j (i + 1))
theorem fnd_le {p : Nat → Bool} : ∀ j i, fnd p j i ≤ i + j
  | 0, i => Nat.le_refl i
  | j + 1, i => by
    unfold fnd
    split
    · omega
    · exact Nat.le_trans (fnd_le j (i + 1)) (by omega)
theorem fnd_s1 {p : Nat → Bool} {j i : Nat} (h : p i = true) : fnd p (j + 1) i = i := by
  unfold fnd
  rw [if_pos h]
theorem fnd_s0 {p : Nat → Bool} {j i : Nat} (h : p i = false) : fnd p (j + 1) i = fnd p j (i + 1) := by
  conv => lhs; unfold fnd
  rw [h, if_neg (by decide)]
theorem l_Field_degreeOver {P : PSem} (S : SysOK P) {h : PH} {k n m d a : Nat} (hF : FOK h k n m) (hn : n ≤ 12) (hm : MDg n m) (ha : a < 2 ^ n) (hd : d < 2 ^ 31) {K : PK} : ∀ j q, q + j = n → 1 ≤ q → fnd (fun k => sqn n m (d * k) a == a) (j + 1) q ≤ n → K (.int (nI (fnd (fun k => sqn n m (d * k) a == a) (j + 1) q))) h →
    P.2 n_Field_degreeOver 9 [some (.ref k), some (.int (nI d)), some (.int (nI a)), some (.int (nI (sqn n m (d * q) a))), some (.int (nI q)), some (.int (nI q))] [] h 0 0 K := by
  have hn31 := pow12 hn
  intro j
  induction j with
  | zero =>
    intro q hq h1 hl hK
    refine S.at 60 [] rfl ?_
    conv => whnf
    refine ⟨hF.1, ?_⟩
    conv => whnf
    rw [hF.2.1]
    refine bk_t ((zn_le (by omega) (by omega)).mpr (by omega)) ?_
    conv => whnf
    have := fnd_ge (p := fun k => sqn n m (d * k) a == a) (0 + 1) q
    rw [show fnd (fun k => sqn n m (d * k) a == a) (0 + 1) q = q by omega] at hK
    exact hK
  | succ j ih =>
    intro q hq h1 hl hK
    have hs := sqn_lt hm (d * q) a ha
    refine S.at 60 [] rfl ?_
    conv => whnf
    refine ⟨hF.1, ?_⟩
    conv => whnf
    rw [hF.2.1]
    refine bk_f (fun c => absurd ((zn_le (by omega) (by omega)).mp c) (by omega)) ?_
    conv => whnf
    refine bk_eq (by omega) (by omega) (fun c => ?_) (fun c => ?_)
    · conv => whnf
      rw [fnd_s1 (p := fun k => sqn n m (d * k) a == a) (i := q) (beq_iff_eq.mpr c)] at hK
      exact hK
    · conv => whnf
      rw [fnd_s0 (p := fun k => sqn n m (d * k) a == a) (i := q) (beq_eq_false_iff_ne.mpr c)] at hK hl
      refine ⟨hF.1, ?_⟩
      conv => whnf
      refine c_Field_squared S hF hn hd hm hs ?_
      conv => whnf
      have next := ih (q + 1) (by omega) (by omega) hl hK
      rw [← nI_1, Nat.mul_succ, sqn_add] at next
      exact next
theorem c_Field_degreeOver {P : PSem} (S : SysOK P) {h : PH} {k n m d a : Nat} (hF : FOK h k n m) (hn : n ≤ 12) (hG : GF n m) (ha : a < 2 ^ n) (hd : d ∣ n) {K : PK} (hK : K (.int (nI (dgO n m d a))) h) : P.1 n_Field_degreeOver [.ref k, .int (nI d), .int (nI a)] h K := by
  have hm := hG.1.1
  have hdn := Nat.le_of_dvd hm.1 hd
  obtain ⟨d1, d2, d3, d4⟩ := dgO_ok hG hd ha
  have hdd : n / d ≤ n := Nat.div_le_self _ _
  refine S.2.1 _ 6 _ _ _ rfl rfl ?_
  refine S.at 30 [9] rfl ?_
  conv => whnf
  refine ⟨hF.1, ?_⟩
  conv => whnf
  refine c_Field_squared S hF hn (by omega) hm ha ?_
  conv => whnf
  unfold dgO at hK d2
  have := l_Field_degreeOver (d := d) S hF hn hm ha (by omega) (n - 1) 1 (by have := hm.1; omega) (Nat.le_refl 1) (by rw [show n - 1 + 1 = n by have := hm.1; omega]; omega) (K := K) (by rw [show n - 1 + 1 = n by have := hm.1; omega]; exact hK)
  rw [Nat.mul_one] at this
  exact this
theorem c_Field_degreeOf {P : PSem} (S : SysOK P) {h : PH} {k n m a : Nat} (hF : FOK h k n m) (hn : n ≤ 12) (hG : GF n m) (ha : a < 2 ^ n) {K : PK} (hK : K (.int (nI (dgO n m 1 a))) h) : P.1 n_Field_degreeOf [.ref k, .int (nI a)] h K := by
  refine S.go 20 rfl rfl rfl ?_
  conv => whnf
  refine ⟨hF.1, ?_⟩
  conv => whnf
  refine c_Field_degreeOver (d := 1) S hF hn hG ha (Nat.one_dvd n) ?_
  conv => whnf
  exact hK
/-- the least conjugate -/
def lcj (n m : Nat) : Nat → Nat → Nat → Nat
  | 0, _, l => l
  | j + 1, o, l => lcj n m j (fm n m o o) (min l (fm n m o o))
theorem l_Field_leastConjugate {P : PSem} (S : SysOK P) {h : PH} {k n m : Nat} (hF : FOK h k n m) (hn : n ≤ 12) (hm : MDg n m) {K : PK} : ∀ j q o l, q + j = n → o < 2 ^ n → l < 2 ^ n → K (.int (nI (lcj n m j o l))) h →
    P.2 n_Field_leastConjugate 6 [some (.ref k), none, some (.int (nI l)), some (.int (nI o)), some (.int (nI q))] [] h 0 0 K := by
  have hn31 := pow12 hn
  intro j
  induction j with
  | zero =>
    intro q o l hq ho hl hK
    refine S.at 60 [] rfl ?_
    conv => whnf
    refine ⟨hF.1, ?_⟩
    conv => whnf
    rw [hF.2.1]
    refine bk_t ((zn_le (by omega) (by omega)).mpr (by omega)) ?_
    conv => whnf
    exact hK
  | succ j ih =>
    intro q o l hq ho hl hK
    have hoo := fm_lt hm ho ho
    refine S.at 60 [] rfl ?_
    conv => whnf
    refine ⟨hF.1, ?_⟩
    conv => whnf
    rw [hF.2.1]
    refine bk_f (fun c => absurd ((zn_le (by omega) (by omega)).mp c) (by omega)) ?_
    conv => whnf
    refine ⟨hF.1, ?_⟩
    conv => whnf
    refine c_Field_times S hF hn hm ho ho ?_
    conv => whnf
    refine c_Math_min S (by omega) (by omega) ?_
    conv => whnf
    have next := ih (q + 1) (fm n m o o) (min l (fm n m o o)) (by omega) hoo (Nat.lt_of_le_of_lt (Nat.min_le_left _ _) hl) hK
    rw [← nI_1] at next
    exact next
theorem c_Field_leastConjugate {P : PSem} (S : SysOK P) {h : PH} {k n m a : Nat} (hF : FOK h k n m) (hn : n ≤ 12) (hm : MDg n m) (ha : a < 2 ^ n) {K : PK} (hK : K (.int (nI (lcj n m (n - 1) a a))) h) : P.1 n_Field_leastConjugate [.ref k, .int (nI a)] h K := by
  refine S.2.1 _ 5 _ _ _ rfl rfl ?_
  refine S.at 6 [] rfl ?_
  conv => whnf
  refine S.mk [(0,1),(0,0),(0,1),(0,1),(0,1)] ?_
  exact l_Field_leastConjugate S hF hn hm (n - 1) 1 a a (by have := hm.1; omega) ha ha hK
theorem l_Field_traceTo {P : PSem} (S : SysOK P) {h : PH} {k n m d : Nat} (hF : FOK h k n m) (hn : n ≤ 12) (hd1 : 1 ≤ d) (hd : d ≤ 12) (hm : MDg n m) {K : PK} : ∀ j q s o, q + d * j = n → o < 2 ^ n → s < 2 ^ n → K (.int (nI (s ^^^ trS n m d j o))) h →
    P.2 n_Field_traceTo 6 [some (.ref k), some (.int (nI d)), none, some (.int (nI s)), some (.int (nI o)), some (.int (nI q))] [] h 0 0 K := by
  have hn31 := pow12 hn
  intro j
  induction j with
  | zero =>
    intro q s o hq ho hs hK
    refine S.at 60 [] rfl ?_
    conv => whnf
    refine ⟨hF.1, ?_⟩
    conv => whnf
    rw [hF.2.1]
    refine bk_t ((zn_le (by omega) (by omega)).mpr (by omega)) ?_
    conv => whnf
    have hK : K (.int (nI (s ^^^ 0))) h := hK
    rw [Nat.xor_zero] at hK
    exact hK
  | succ j ih =>
    intro q s o hq ho hs hK
    rw [Nat.mul_succ] at hq
    refine S.at 60 [] rfl ?_
    conv => whnf
    refine ⟨hF.1, ?_⟩
    conv => whnf
    rw [hF.2.1]
    refine bk_f (fun c => absurd ((zn_le (by omega) (by omega)).mp c) (by omega)) ?_
    conv => whnf
    refine bk_f (fun c => absurd ((zn_le (b := 0) (by omega) (by decide)).mp c) (by omega)) ?_
    conv => whnf
    refine ⟨hF.1, ?_⟩
    conv => whnf
    refine c_Field_squared S hF hn (by omega) hm ho ?_
    conv => whnf
    have next := ih (q + d) (s ^^^ o) (sqn n m d o) (by omega) (sqn_lt hm d o ho) (xor_lt hs ho) (by
      rw [Nat.xor_assoc]
      exact hK)
    rw [zn_plus, ← zn_xor] at next
    exact next
theorem c_Field_traceTo {P : PSem} (S : SysOK P) {h : PH} {k n m d j a : Nat} (hF : FOK h k n m) (hn : n ≤ 12) (hd1 : 1 ≤ d) (hd : d ≤ 12) (hj : d * j = n) (hm : MDg n m) (ha : a < 2 ^ n) {K : PK} (hK : K (.int (nI (trS n m d j a))) h) : P.1 n_Field_traceTo [.ref k, .int (nI d), .int (nI a)] h K := by
  refine S.2.1 _ 6 _ _ _ rfl rfl ?_
  refine S.at 6 [] rfl ?_
  conv => whnf
  refine S.mk [(0,1),(0,1),(0,0),(0,1),(0,1),(0,1)] ?_
  exact l_Field_traceTo S hF hn hd1 hd hm j 0 0 a (by omega) ha (Nat.two_pow_pos n) (by rw [Nat.zero_xor]; exact hK)
theorem l_Field_normTo {P : PSem} (S : SysOK P) {h : PH} {k n m d : Nat} (hF : FOK h k n m) (hn : n ≤ 12) (hd1 : 1 ≤ d) (hd : d ≤ 12) (hm : MDg n m) {K : PK} : ∀ j q s o, q + d * j = n → o < 2 ^ n → s < 2 ^ n → K (.int (nI (fm n m s (nmS n m d j o)))) h →
    P.2 n_Field_normTo 6 [some (.ref k), some (.int (nI d)), none, some (.int (nI s)), some (.int (nI o)), some (.int (nI q))] [] h 0 0 K := by
  have hn31 := pow12 hn
  intro j
  induction j with
  | zero =>
    intro q s o hq ho hs hK
    refine S.at 60 [] rfl ?_
    conv => whnf
    refine ⟨hF.1, ?_⟩
    conv => whnf
    rw [hF.2.1]
    refine bk_t ((zn_le (by omega) (by omega)).mpr (by omega)) ?_
    conv => whnf
    have hK : K (.int (nI (fm n m s 1))) h := hK
    rw [fm_1r hm hs] at hK
    exact hK
  | succ j ih =>
    intro q s o hq ho hs hK
    rw [Nat.mul_succ] at hq
    refine S.at 60 [] rfl ?_
    conv => whnf
    refine ⟨hF.1, ?_⟩
    conv => whnf
    rw [hF.2.1]
    refine bk_f (fun c => absurd ((zn_le (by omega) (by omega)).mp c) (by omega)) ?_
    conv => whnf
    refine bk_f (fun c => absurd ((zn_le (b := 0) (by omega) (by decide)).mp c) (by omega)) ?_
    conv => whnf
    refine ⟨hF.1, ?_⟩
    conv => whnf
    refine c_Field_times S hF hn hm hs ho ?_
    conv => whnf
    refine ⟨hF.1, ?_⟩
    conv => whnf
    refine c_Field_squared S hF hn (by omega) hm ho ?_
    conv => whnf
    have hso := sqn_lt hm d o ho
    have next := ih (q + d) (fm n m s o) (sqn n m d o) (by omega) hso (fm_lt hm hs ho) (by
      rw [fm_assoc hm hs ho (nmS_lt hm j _ hso)]
      exact hK)
    rw [zn_plus] at next
    exact next
theorem c_Field_normTo {P : PSem} (S : SysOK P) {h : PH} {k n m d j a : Nat} (hF : FOK h k n m) (hn : n ≤ 12) (hd1 : 1 ≤ d) (hd : d ≤ 12) (hj : d * j = n) (hm : MDg n m) (ha : a < 2 ^ n) {K : PK} (hK : K (.int (nI (nmS n m d j a))) h) : P.1 n_Field_normTo [.ref k, .int (nI d), .int (nI a)] h K := by
  refine S.2.1 _ 6 _ _ _ rfl rfl ?_
  refine S.at 6 [] rfl ?_
  conv => whnf
  refine S.mk [(0,1),(0,1),(0,0),(0,1),(0,1),(0,1)] ?_
  exact l_Field_normTo S hF hn hd1 hd hm j 0 1 a (by omega) ha (one_lt hm) (by rw [fm_1l hm (nmS_lt hm j a ha)]; exact hK)
theorem xof_rem {n m : Nat} (hn : n ≤ 12) (hm : MDg n m) : rem13 2 m = xof n m := by
  unfold rem13 xof
  rw [MOD_log2 hm]
  have h1 := hm.1
  rcases Nat.lt_or_ge 11 n with w | w
  · have : n = 12 := by omega
    subst this
    exact (prd_hi (m := m) (n := 12) 1 1 (by decide)).symm
  · obtain ⟨j, hj⟩ := Nat.le.dest (show 2 ≤ 13 - n by omega)
    rw [← hj]
    exact prd_hi j 2 (Nat.lt_of_lt_of_le (by decide : 2 < 2 ^ 2) (pow_le (by omega)))
theorem c_Field_x {P : PSem} (S : SysOK P) {h : PH} {k n m : Nat} (hF : FOK h k n m) (hn : n ≤ 12) (hm : MDg n m) {K : PK} (hK : K (.int (nI (xof n m))) h) : P.1 n_Field_x [.ref k] h K := by
  have := MOD_lt hn hm
  refine S.go 20 rfl rfl rfl ?_
  conv => whnf
  refine ⟨hF.1, ?_⟩
  conv => whnf
  rw [hF.2.2.2]
  refine c_Poly_remainder (p := 2) S (by decide) (by omega) (by omega) ?_
  conv => whnf
  rw [xof_rem hn hm]
  exact hK
