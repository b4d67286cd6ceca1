/-! the reference's questions: up and down, squares, roots -/
theorem MJ_up {h : PH} {u : Nat → Nat} (hM : MJ h u) {n d : Nat} (n1 : 1 ≤ n) (n2 : n ≤ 12) (d1 : 1 ≤ d) (hdv : d ∣ n) : hI h 144 (13 * d + n) = nI (imF u d n) := hM.2.2.2 n d n1 n2 d1 hdv
theorem c_M_raise {P : PSem} (S : SysOK P) {h : PH} {u : Nat → Nat} (hM : MJ h u) (hu : MDS u) (d n a : Int32) {K : PK} (hK : K (.int (sRaise u d n a)) h) : P.1 n_M_raise [.ref 116, .int d, .int n, .int a] h K := by
  have hr := img_ex hu
  have hw := hM.1
  unfold sRaise at hK
  refine S.go 60 rfl rfl rfl ?_
  conv => whnf
  refine c_M_isOf S d a ?_
  conv => whnf
  refine bk_b0 (fun c1 => ?_) (fun c1 => ?_)
  · rw [c1, Bool.false_and] at hK
    conv => whnf
    exact hK
  rw [c1, Bool.true_and] at hK
  conv => whnf
  refine c_M_isField S _ ?_
  conv => whnf
  refine bk_b1 (fun c2 => ?_) (fun c2 => ?_)
  · rw [c2, if_pos rfl] at hK
    obtain ⟨d, x, d1, d2, rfl, rfl, hx⟩ := okE_nat c1
    obtain ⟨n, n1, n2, rfl⟩ := okF_nat c2
    have hk := pow12 d2
    rw [nI_clamp (show d < 2 ^ 31 by omega), nI_clamp (show n < 2 ^ 31 by omega), nI_clamp (show x < 2 ^ 31 by omega)] at hK
    have hr1 : n % d < 13 := Nat.lt_of_le_of_lt (Nat.mod_le _ _) (by omega)
    conv => whnf
    refine ⟨nI_ne0 (by omega) (by omega), ?_⟩
    conv => whnf
    rw [i_rem_n (by omega) (by omega) (by omega)]
    refine bk_ne (b := 0) (by omega) (by decide) (fun c3 => ?_) (fun c3 => ?_)
    · rw [show dvI d n = false from beq_eq_false_iff_ne.mpr c3, if_neg (by decide)] at hK
      conv => whnf
      exact hK
    · rw [show dvI d n = true from beq_iff_eq.mpr c3, if_pos rfl] at hK
      have hdv := Nat.dvd_of_mod_eq_zero c3
      conv => whnf
      refine ⟨wt_116 hw, ?_⟩
      conv => whnf
      refine c_M_up S hw n2 d1 d2 (hu n n1 n2).1 (hM.2.1 n n1 n2) (MJ_up hM n1 n2 d1 hdv) (IMG_root hu hr n d n1 n2 d1 hdv).1 hx ?_
      conv => whnf
      exact hK
  · rw [c2] at hK
    conv => whnf
    exact hK
theorem c_M_lower {P : PSem} (S : SysOK P) {h : PH} {u : Nat → Nat} (hM : MJ h u) (hu : MDS u) (n d a : Int32) {K : PK} (hK : K (.int (sLower u n d a)) h) : P.1 n_M_lower [.ref 116, .int n, .int d, .int a] h K := by
  have hr := img_ex hu
  have hw := hM.1
  unfold sLower at hK
  refine S.go 60 rfl rfl rfl ?_
  conv => whnf
  refine c_M_isOf S n a ?_
  conv => whnf
  refine bk_b0 (fun c1 => ?_) (fun c1 => ?_)
  · rw [c1, Bool.false_and] at hK
    conv => whnf
    exact hK
  rw [c1, Bool.true_and] at hK
  conv => whnf
  refine c_M_isField S _ ?_
  conv => whnf
  refine bk_b1 (fun c2 => ?_) (fun c2 => ?_)
  · rw [c2, if_pos rfl] at hK
    obtain ⟨n, x, n1, n2, rfl, rfl, hx⟩ := okE_nat c1
    obtain ⟨d, d1, d2, rfl⟩ := okF_nat c2
    have hk := pow12 n2
    have hkd := pow12 d2
    rw [nI_clamp (show d < 2 ^ 31 by omega), nI_clamp (show n < 2 ^ 31 by omega), nI_clamp (show x < 2 ^ 31 by omega)] at hK
    have hr1 : n % d < 13 := Nat.lt_of_le_of_lt (Nat.mod_le _ _) (by omega)
    conv => whnf
    refine ⟨nI_ne0 (by omega) (by omega), ?_⟩
    conv => whnf
    rw [i_rem_n (by omega) (by omega) (by omega)]
    refine bk_ne (b := 0) (by omega) (by decide) (fun c3 => ?_) (fun c3 => ?_)
    · rw [show dvI d n = false from beq_eq_false_iff_ne.mpr c3, if_neg (by decide)] at hK
      conv => whnf
      refine bk_f ((by decide)) ?_
      conv => whnf
      exact hK
    · rw [show dvI d n = true from beq_iff_eq.mpr c3, if_pos rfl] at hK
      have hdv := Nat.dvd_of_mod_eq_zero c3
      have hrt := IMG_root hu hr n d n1 n2 d1 hdv
      have hm := (hu n n1 n2).1
      conv => whnf
      refine ⟨wt_116 hw, ?_⟩
      conv => whnf
      refine c_M_lowered S hw n2 d2 (all_GF d2 (hu d d1 d2)) hm (hM.2.1 n n1 n2) (MJ_up hM n1 n2 d1 hdv) hrt hx (fun v v1 v2 => ?_) (fun z => ?_)
      · rw [lowF_uq (hu d d1 d2) hm hrt v1 v2] at hK
        unfold fnI at hK
        rw [if_pos v1] at hK
        conv => whnf
        refine bk_t (nI_pos' (by omega)) ?_
        conv => whnf
        exact hK
      · rw [lowF_no z] at hK
        unfold fnI at hK
        rw [if_neg (by omega)] at hK
        conv => whnf
        refine bk_f ((by decide)) ?_
        conv => whnf
        exact hK
  · rw [c2] at hK
    conv => whnf
    exact hK
theorem c_M_lowF {P : PSem} (S : SysOK P) {h : PH} {u : Nat → Nat} (hM : MJ h u) (hu : MDS u) {n d a : Nat} (n1 : 1 ≤ n) (n2 : n ≤ 12) (d1 : 1 ≤ d) (hdv : d ∣ n) (ha : a < 2 ^ n) (hf : sqn n (u n) d a = a) {K : PK} (hK : K (.int (nI (lowF n (u n) (imF u d n) d a))) h) : P.1 n_M_lowered [.ref 116, .int (nI n), .int (nI d), .int (nI a)] h K := by
  have hdn := Nat.le_of_dvd n1 hdv
  have hrt := IMG_root hu (img_ex hu) n d n1 n2 d1 hdv
  have hm := (hu n n1 n2).1
  obtain ⟨l1, l2⟩ := low_fix hu n1 n2 d1 hdv ha hf
  refine c_M_lowered S hM.1 n2 (by omega) (all_GF (by omega : d ≤ 12) (hu d d1 (by omega))) hm (hM.2.1 n n1 n2) (MJ_up hM n1 n2 d1 hdv) hrt ha (fun v v1 v2 => ?_) (fun z => absurd l2 (z _ l1))
  rwa [lowF_uq (hu d d1 (by omega)) hm hrt v1 v2] at hK
theorem l_M_down {P : PSem} (S : SysOK P) {h : PH} (hw : WS h) {n m d : Nat} {w : Int32} (hn1 : 1 ≤ n) (hn : n ≤ 12) (hd1 : 1 ≤ d) (hd : d ≤ 12) (hm : MDg n m) (hnow : hI h 125 n = nI m) {K : PK} : ∀ j q s p o, q + j = n / d → o < 2 ^ n → s < 2 ^ n → p < 2 ^ n → P.2 n_M_down 46 [some (.ref 116), some (.int (nI n)), some (.int (nI d)), none, some (.int w), some (.int (nI (s ^^^ trS n m d j o))), some (.int (nI (fm n m p (nmS n m d j o)))), none, none] [] h 0 0 K →
    P.2 n_M_down 23 [some (.ref 116), some (.int (nI n)), some (.int (nI d)), none, some (.int w), some (.int (nI s)), some (.int (nI p)), some (.int (nI o)), some (.int (nI q))] [] h 0 0 K := by
  have h12 := pow12 hn
  have hdd : n / d ≤ n := Nat.div_le_self _ _
  intro j
  induction j with
  | zero =>
    intro q s p o hq ho hs hp hK
    have hK : P.2 n_M_down 46 [some (.ref 116), some (.int (nI n)), some (.int (nI d)), none, some (.int w), some (.int (nI (s ^^^ 0))), some (.int (nI (fm n m p 1))), none, none] [] h 0 0 K := hK
    rw [Nat.xor_zero, fm_1r hm hp] at hK
    refine S.at 60 [46] rfl ?_
    conv => whnf
    refine ⟨nI_ne0 (by omega) (by omega), ?_⟩
    conv => whnf
    have e : (fun x y : Int32 => x / y) (nI n) (nI d) = nI (n / d) := pk_div (by omega) (by omega) (by omega)
    rw [e]
    refine bk_t ((zn_le (by omega) (by omega)).mpr (by omega)) ?_
    conv => whnf
    exact S.mk [(0, 1), (0, 1), (0, 1), (0, 0), (0, 1), (0, 1), (0, 1), (0, 0), (0, 0)] hK
  | succ j ih =>
    intro q s p o hq ho hs hp hK
    have hso := sqn_lt hm d o ho
    refine S.at 60 [46] rfl ?_
    conv => whnf
    refine ⟨nI_ne0 (by omega) (by omega), ?_⟩
    conv => whnf
    have e : (fun x y : Int32 => x / y) (nI n) (nI d) = nI (n / d) := pk_div (by omega) (by omega) (by omega)
    rw [e]
    refine bk_f (fun c => absurd ((zn_le (by omega) (by omega)).mp c) (by omega)) ?_
    conv => whnf
    refine ⟨wt_116 hw, ?_⟩
    conv => whnf
    refine c_M_product S hw hn hm hnow hp ho ?_
    conv => whnf
    refine ⟨wt_116 hw, ?_⟩
    conv => whnf
    refine c_M_squared S hw hn (by omega) hm hnow ho ?_
    conv => whnf
    have next := ih (q + 1) (s ^^^ o) (fm n m p o) (sqn n m d o) (by omega) hso (xor_lt hs ho) (fm_lt hm hp ho) (by
      rw [Nat.xor_assoc, fm_assoc hm hp ho (nmS_lt hm j _ hso)]
      exact hK)
    rw [← nI_1, ← zn_xor] at next
    exact next
theorem c_M_down {P : PSem} (S : SysOK P) {h : PH} {u : Nat → Nat} (hM : MJ h u) (hu : MDS u) (n d a : Int32) (norm : Bool) {K : PK} (hK : K (.int (sDown u n d a norm)) h) : P.1 n_M_down [.ref 116, .int n, .int d, .int a, .int (bI norm)] h K := by
  have hw := hM.1
  unfold sDown at hK
  refine S.2.1 _ 9 _ _ _ rfl rfl ?_
  refine S.at 60 [23] rfl ?_
  conv => whnf
  refine c_M_isOf S n a ?_
  conv => whnf
  refine bk_b0 (fun c1 => ?_) (fun c1 => ?_)
  · rw [c1, Bool.false_and] at hK
    conv => whnf
    exact hK
  rw [c1, Bool.true_and] at hK
  conv => whnf
  refine c_M_isField S _ ?_
  conv => whnf
  refine bk_b1 (fun c2 => ?_) (fun c2 => ?_)
  · rw [c2, if_pos rfl] at hK
    obtain ⟨n, x, n1, n2, rfl, rfl, hx⟩ := okE_nat c1
    obtain ⟨d, d1, d2, rfl⟩ := okF_nat c2
    have hk := pow12 n2
    rw [nI_clamp (show d < 2 ^ 31 by omega), nI_clamp (show n < 2 ^ 31 by omega), nI_clamp (show x < 2 ^ 31 by omega)] at hK
    have hr1 : n % d < 13 := Nat.lt_of_le_of_lt (Nat.mod_le _ _) (by omega)
    conv => whnf
    refine ⟨nI_ne0 (by omega) (by omega), ?_⟩
    conv => whnf
    rw [i_rem_n (by omega) (by omega) (by omega)]
    refine bk_eq (b := 0) (by omega) (by decide) (fun c3 => ?_) (fun c3 => ?_)
    · rw [show dvI d n = true from beq_iff_eq.mpr c3, if_pos rfl] at hK
      have hdv := Nat.dvd_of_mod_eq_zero c3
      have hnd := Nat.mul_div_cancel' hdv
      have hm := (hu n n1 n2).1
      have hG := all_GF n2 (hu n n1 n2)
      unfold dwS at hK
      conv => whnf
      refine S.mk [(0,1),(0,1),(0,1),(0,0),(0,1),(0,1),(0,1),(0,1),(0,1)] ?_
      refine l_M_down S hw n1 n2 d1 d2 hm (hM.2.1 n n1 n2) (n / d) 0 0 1 x (by omega) hx (Nat.two_pow_pos n) (one_lt hm) ?_
      rw [Nat.zero_xor, fm_1l hm (nmS_lt hm _ _ hx)]
      refine S.at 60 [] rfl ?_
      conv => whnf
      refine bk_b0 (fun c4 => ?_) (fun c4 => ?_)
      · rw [c4, if_neg (by decide)] at hK
        conv => whnf
        refine ⟨wt_116 hw, ?_⟩
        conv => whnf
        refine c_M_lowF S hM hu n1 n2 d1 hdv (trS_lt hm _ _ hx) (trS_fix hG hnd hx) ?_
        conv => whnf
        exact hK
      · rw [c4, if_pos rfl] at hK
        conv => whnf
        refine ⟨wt_116 hw, ?_⟩
        conv => whnf
        refine c_M_lowF S hM hu n1 n2 d1 hdv (nmS_lt hm _ _ hx) (nmS_fix hG hnd hx) ?_
        conv => whnf
        exact hK
    · rw [show dvI d n = false from beq_eq_false_iff_ne.mpr c3, if_neg (by decide)] at hK
      conv => whnf
      exact hK
  · rw [c2] at hK
    conv => whnf
    exact hK
theorem c_M_least {P : PSem} (S : SysOK P) {h : PH} {u : Nat → Nat} (hM : MJ h u) (hu : MDS u) (n d a i : Int32) {K : PK} (hK : ∀ h', eqX mq h h' → K (.int (sLeast u n d a i)) h') : P.1 n_M_least [.ref 116, .int n, .int d, .int a, .int i] h K := by
  have hw := hM.1
  unfold sLeast at hK
  refine S.go 80 rfl rfl rfl ?_
  conv => whnf
  refine c_M_isOf S n a ?_
  conv => whnf
  refine bk_b0 (fun c1 => ?_) (fun c1 => ?_)
  · rw [c1, Bool.false_and, Bool.false_and] at hK
    conv => whnf
    exact hK h (eqX_rf _ _)
  rw [c1, Bool.true_and] at hK
  conv => whnf
  refine c_M_isField S _ ?_
  conv => whnf
  refine bk_b1 (fun c2 => ?_) (fun c2 => ?_)
  · rw [c2, Bool.true_and] at hK
    obtain ⟨n, x, n1, n2, rfl, rfl, hx⟩ := okE_nat c1
    obtain ⟨d, d1, d2, rfl⟩ := okF_nat c2
    have hk := pow12 n2
    rw [nI_clamp (show d < 2 ^ 31 by omega), nI_clamp (show n < 2 ^ 31 by omega), nI_clamp (show x < 2 ^ 31 by omega)] at hK
    have hr1 : n % d < 13 := Nat.lt_of_le_of_lt (Nat.mod_le _ _) (by omega)
    conv => whnf
    refine ⟨nI_ne0 (by omega) (by omega), ?_⟩
    conv => whnf
    rw [i_rem_n (by omega) (by omega) (by omega)]
    refine bk_eq (b := 0) (by omega) (by decide) (fun c3 => ?_) (fun c3 => ?_)
    · rw [show dvI d n = true from beq_iff_eq.mpr c3, if_pos (c := true = true) rfl] at hK
      have hdv := Nat.dvd_of_mod_eq_zero c3
      have hm := (hu n n1 n2).1
      have hG := all_GF n2 (hu n n1 n2)
      obtain ⟨g1, g2, g3, g4⟩ := dgO_ok hG hdv hx
      have g5 : n / d ≤ n := Nat.div_le_self _ _
      unfold lsS at hK
      conv => whnf
      refine ⟨wt_116 hw, ?_⟩
      conv => whnf
      refine c_M_laysLeast S hw n2 hG (hM.2.1 n n1 n2) hdv hx (fun h' a1 a2 => ?_)
      have a1' := m147_mq a1
      have hM' := MJ_eq a1' hM
      have hw' := hM'.1
      conv => whnf
      refine ⟨fun c4 => ?_, fun c4 => ?_⟩
      · conv => whnf
        refine c_M_in S _ _ _ ?_
        conv => whnf
        refine bk_b0 (fun c5 => ?_) (fun c5 => ?_)
        · have c5 := of_decide_eq_false c5
          have hK := hK h' a1'
          by_cases c6 : (-1 : Int32) ≤ i
          · rw [decide_eq_true c6, if_pos rfl, if_neg c4, if_neg (fun q => c5 ⟨i32_m1 c6 c4, q⟩)] at hK
            conv => whnf
            exact hK
          · rw [decide_eq_false c6, if_neg (by decide)] at hK
            conv => whnf
            exact hK
        · have c5 := of_decide_eq_true c5
          obtain ⟨q, rfl, hq⟩ := i32_nat c5.1
          have c7 := (zn_le hq (by omega)).mp c5.2
          have hK := hK h' a1'
          rw [decide_eq_true (Int32.le_trans (by decide) c5.1), if_pos rfl, if_neg c4, if_pos c5.2, nI_clamp hq] at hK
          conv => whnf
          refine ⟨wt_116 hw', ?_⟩
          conv => whnf
          rw [wr_116_47 hw']
          refine ⟨inB_of (wt_147 hw') (wn_147 hw') (by omega) (by decide), ?_⟩
          conv => whnf
          rw [nI_clamp hq, a2 q (by omega)]
          refine ⟨wt_116 hw', ?_⟩
          conv => whnf
          refine c_M_lowF S hM' hu n1 n2 d1 hdv (lpS_lt hm (cjd_lt hm hx) _ _) (lpD_fix hG hdv hx q) ?_
          conv => whnf
          exact hK
      · have hK := hK h' a1'
        rw [decide_eq_true (by rw [c4]; decide), if_pos rfl, if_pos c4] at hK
        conv => whnf
        exact hK
    · rw [show dvI d n = false from beq_eq_false_iff_ne.mpr c3, if_neg (c := false = true) (by decide)] at hK
      conv => whnf
      refine ⟨fun c4 => ?_, fun c4 => ?_⟩
      · rw [decide_eq_true c4, if_pos rfl] at hK
        conv => whnf
        exact hK h (eqX_rf _ _)
      · rw [decide_eq_false c4] at hK
        conv => whnf
        exact hK h (eqX_rf _ _)
  · rw [c2, Bool.false_and] at hK
    conv => whnf
    exact hK h (eqX_rf _ _)
/-! trial over all elements -/
theorem l_M_solve {P : PSem} (S : SysOK P) {h : PH} (hw : WS h) {n m b c : Nat} {w : Int32} (hn : n ≤ 12) (hm : MDg n m) (hnow : hI h 125 n = nI m) (hb : b < 2 ^ n) (hc : c < 2 ^ n) {K : PK} (hK : P.2 n_M_solve 47 [none, none, none, none, some (.int w), some (.int (nI (cnt (fun v => sqb n m b v == c) (2 ^ n)))), some (.int (fnI (fnd (fun v => sqb n m b v == c) (2 ^ n) 0) (2 ^ n))), none] [] h 0 0 K) : ∀ j q z, q + j = 2 ^ n → ((cnt (fun v => sqb n m b v == c) q = 0 ∧ z = -2 ∧ fnd (fun v => sqb n m b v == c) (2 ^ n) 0 = fnd (fun v => sqb n m b v == c) j q) ∨ (0 < cnt (fun v => sqb n m b v == c) q ∧ z = fnI (fnd (fun v => sqb n m b v == c) (2 ^ n) 0) (2 ^ n))) →
    P.2 n_M_solve 21 [some (.ref 116), some (.int (nI n)), some (.int (nI b)), some (.int (nI c)), some (.int w), some (.int (nI (cnt (fun v => sqb n m b v == c) q))), some (.int z), some (.int (nI q))] [] h 0 0 K := by
  have h12 := pow12 hn
  intro j
  induction j with
  | zero =>
    intro q z hq hz
    have e : q = 2 ^ n := by omega
    refine S.at 60 [47] rfl ?_
    conv => whnf
    rw [shl_one hn]
    refine bk_t ((zn_le (by omega) (by omega)).mpr (by omega)) ?_
    conv => whnf
    refine S.mk [(0, 0), (0, 0), (0, 0), (0, 0), (0, 1), (0, 1), (0, 1), (0, 0)] ?_
    have e2 : z = fnI (fnd (fun v => sqb n m b v == c) (2 ^ n) 0) (2 ^ n) := by
      rcases hz with ⟨-, z2, z3⟩ | ⟨-, z2⟩
      · rw [z2, z3]
        show -2 = fnI q (2 ^ n)
        unfold fnI
        rw [if_neg (by omega)]
      · exact z2
    rw [← e2, ← e] at hK
    exact hK
  | succ j ih =>
    intro q z hq hz
    have hc0 := cnt_le (fun v => sqb n m b v == c) q
    have e4 : cnt (fun v => sqb n m b v == c) (q + 1) = cnt (fun v => sqb n m b v == c) q + (sqb n m b q == c).toNat := rfl
    have hq2 : q < 2 ^ n := by omega
    have s1 := fm_lt hm hq2 hq2
    have s2 := fm_lt hm hb hq2
    refine S.at 60 [47] rfl ?_
    conv => whnf
    rw [shl_one hn]
    refine bk_f (fun c => absurd ((zn_le (by omega) (by omega)).mp c) (by omega)) ?_
    conv => whnf
    refine ⟨wt_116 hw, ?_⟩
    conv => whnf
    refine c_M_product S hw hn hm hnow hq2 hq2 ?_
    conv => whnf
    refine ⟨wt_116 hw, ?_⟩
    conv => whnf
    refine c_M_product S hw hn hm hnow hb hq2 ?_
    conv => whnf
    have ex : (fun x y : Int32 => x ^^^ y) (nI (fm n m q q)) (nI (fm n m b q)) = nI (sqb n m b q) := by
      show nI (fm n m q q) ^^^ nI (fm n m b q) = _
      rw [zn_xor, sqb_eq hm hb hq2]
    rw [ex]
    have s3 := sqb_lt hm hb hq2
    refine bk_eq (by omega) (by omega) (fun c1 => ?_) (fun c1 => ?_)
    · have hp : (sqb n m b q == c) = true := beq_iff_eq.mpr c1
      rw [hp, show Bool.toNat true = 1 from rfl] at e4
      conv => whnf
      refine bk_ne (b := 0) (by omega) (by decide) (fun c2 => ?_) (fun c2 => ?_)
      · conv => whnf
        have next := ih (q + 1) z (by omega) (Or.inr ⟨by omega, by
          rcases hz with ⟨z1, -⟩ | ⟨-, z2⟩
          · omega
          · exact z2⟩)
        rw [e4, ← nI_1 q, ← nI_1 (cnt _ q)] at next
        exact next
      · conv => whnf
        have next := ih (q + 1) (nI q) (by omega) (Or.inr ⟨by omega, by
          rcases hz with ⟨-, -, z3⟩ | ⟨z1, -⟩
          · rw [z3, fnd_s1 (p := fun v => sqb n m b v == c) (i := q) hp]
            unfold fnI
            rw [if_pos hq2]
          · omega⟩)
        rw [e4, ← nI_1 q, ← nI_1 (cnt _ q)] at next
        exact next
    · have hp : (sqb n m b q == c) = false := beq_eq_false_iff_ne.mpr c1
      rw [hp] at e4
      have e4 : cnt (fun v => sqb n m b v == c) (q + 1) = cnt (fun v => sqb n m b v == c) q := e4
      conv => whnf
      have next := ih (q + 1) z (by omega) (by
        rw [e4]
        rcases hz with ⟨z1, z2, z3⟩ | hz
        · exact Or.inl ⟨z1, z2, by rw [z3, fnd_s0 (p := fun v => sqb n m b v == c) (i := q) hp]⟩
        · exact Or.inr hz)
      rw [e4, ← nI_1 q] at next
      exact next
theorem c_M_solve {P : PSem} (S : SysOK P) {h : PH} {u : Nat → Nat} (hM : MJ h u) (hu : MDS u) (n b c w : Int32) {K : PK} (hK : K (.int (sSolve u n b c w)) h) : P.1 n_M_solve [.ref 116, .int n, .int b, .int c, .int w] h K := by
  have hw := hM.1
  unfold sSolve at hK
  refine S.2.1 _ 8 _ _ _ rfl rfl ?_
  refine S.at 60 [21] rfl ?_
  conv => whnf
  refine c_M_isOf S n b ?_
  conv => whnf
  refine bk_b0 (fun c1 => ?_) (fun c1 => ?_)
  · rw [c1, Bool.false_and, Bool.false_and] at hK
    conv => whnf
    exact hK
  rw [c1, Bool.true_and] at hK
  conv => whnf
  refine c_M_isOf S n c ?_
  conv => whnf
  refine bk_b0 (fun c2 => ?_) (fun c2 => ?_)
  · rw [c2, Bool.false_and] at hK
    conv => whnf
    exact hK
  rw [c2, Bool.true_and] at hK
  conv => whnf
  refine c_M_in S _ _ _ ?_
  conv => whnf
  refine bk_b1 (fun c3 => ?_) (fun c3 => ?_)
  · have c3 : is01 w = true := c3
    rw [c3, if_pos rfl] at hK
    obtain ⟨k, x, k1, k2, rfl, rfl, hx⟩ := okE_nat c1
    obtain ⟨k', y, -, k2', ek, rfl, hy⟩ := okE_nat c2
    have ek := (zn_eq (by omega) (by omega)).mp ek
    subst ek
    have hk := pow12 k2
    rw [nI_clamp (show k < 2 ^ 31 by omega), nI_clamp (show x < 2 ^ 31 by omega), nI_clamp (show y < 2 ^ 31 by omega)] at hK
    unfold slS at hK
    conv => whnf
    refine l_M_solve S hw k2 (hu k k1 k2).1 (hM.2.1 k k1 k2) hx hy ?_ (2 ^ k) 0 (-2) (by omega) (Or.inl ⟨rfl, rfl, rfl⟩)
    refine S.at 60 [] rfl ?_
    conv => whnf
    rcases is01_or c3 with rfl | rfl
    · rw [if_pos rfl] at hK
      refine bk_nf (rfl) ?_
      conv => whnf
      exact hK
    · rw [if_neg (by decide)] at hK
      refine bk_nt ((by decide)) ?_
      conv => whnf
      exact hK
  · have c3 : is01 w = false := c3
    rw [c3] at hK
    conv => whnf
    exact hK
theorem l_M_roots {P : PSem} (S : SysOK P) {h : PH} (hw : WS h) {n m a k : Nat} {w : Int32} (hn : n ≤ 12) (hm : MDg n m) (hnow : hI h 125 n = nI m) (ha : a < 2 ^ n) (hk : k ≤ 9999) {K : PK} (hK : P.2 n_M_roots 42 [none, none, none, none, some (.int w), some (.int (nI (cnt (fun v => fpw n m v k == a) (2 ^ n)))), some (.int (fnI (rtL n m a k) (2 ^ n))), none] [] h 0 0 K) : ∀ j q z, q + j = 2 ^ n → ((cnt (fun v => fpw n m v k == a) q = 0 ∧ z = -2 ∧ rtL n m a k = fnd (fun v => fpw n m v k == a) j q) ∨ (0 < cnt (fun v => fpw n m v k == a) q ∧ z = fnI (rtL n m a k) (2 ^ n))) →
    P.2 n_M_roots 22 [some (.ref 116), some (.int (nI n)), some (.int (nI a)), some (.int (nI k)), some (.int w), some (.int (nI (cnt (fun v => fpw n m v k == a) q))), some (.int z), some (.int (nI q))] [] h 0 0 K := by
  have h12 := pow12 hn
  intro j
  induction j with
  | zero =>
    intro q z hq hz
    have e : q = 2 ^ n := by omega
    refine S.at 60 [42] rfl ?_
    conv => whnf
    rw [shl_one hn]
    refine bk_t ((zn_le (by omega) (by omega)).mpr (by omega)) ?_
    conv => whnf
    refine S.mk [(0, 0), (0, 0), (0, 0), (0, 0), (0, 1), (0, 1), (0, 1), (0, 0)] ?_
    have e2 : z = fnI (rtL n m a k) (2 ^ n) := by
      rcases hz with ⟨-, z2, z3⟩ | ⟨-, z2⟩
      · rw [z2, z3]
        show -2 = fnI q (2 ^ n)
        unfold fnI
        rw [if_neg (by omega)]
      · exact z2
    rw [← e2, ← e] at hK
    exact hK
  | succ j ih =>
    intro q z hq hz
    have hc0 := cnt_le (fun v => fpw n m v k == a) q
    have e4 : cnt (fun v => fpw n m v k == a) (q + 1) = cnt (fun v => fpw n m v k == a) q + (fpw n m q k == a).toNat := rfl
    have hq2 : q < 2 ^ n := by omega
    have s3 := fpw_lt hm hq2 k
    refine S.at 60 [42] rfl ?_
    conv => whnf
    rw [shl_one hn]
    refine bk_f (fun c => absurd ((zn_le (by omega) (by omega)).mp c) (by omega)) ?_
    conv => whnf
    refine ⟨wt_116 hw, ?_⟩
    conv => whnf
    refine c_M_powered S hw hn hm hnow hq2 (by omega) ?_
    conv => whnf
    refine bk_eq (by omega) (by omega) (fun c1 => ?_) (fun c1 => ?_)
    · have hp : (fpw n m q k == a) = true := beq_iff_eq.mpr c1
      rw [hp, show Bool.toNat true = 1 from rfl] at e4
      conv => whnf
      refine bk_ne (b := 0) (by omega) (by decide) (fun c2 => ?_) (fun c2 => ?_)
      · conv => whnf
        have next := ih (q + 1) z (by omega) (Or.inr ⟨by omega, by
          rcases hz with ⟨z1, -⟩ | ⟨-, z2⟩
          · omega
          · exact z2⟩)
        rw [e4, ← nI_1 q, ← nI_1 (cnt _ q)] at next
        exact next
      · conv => whnf
        have next := ih (q + 1) (nI q) (by omega) (Or.inr ⟨by omega, by
          rcases hz with ⟨-, -, z3⟩ | ⟨z1, -⟩
          · rw [z3, fnd_s1 (p := fun v => fpw n m v k == a) (i := q) hp]
            unfold fnI
            rw [if_pos hq2]
          · omega⟩)
        rw [e4, ← nI_1 q, ← nI_1 (cnt _ q)] at next
        exact next
    · have hp : (fpw n m q k == a) = false := beq_eq_false_iff_ne.mpr c1
      rw [hp] at e4
      have e4 : cnt (fun v => fpw n m v k == a) (q + 1) = cnt (fun v => fpw n m v k == a) q := e4
      conv => whnf
      have next := ih (q + 1) z (by omega) (by
        rw [e4]
        rcases hz with ⟨z1, z2, z3⟩ | hz
        · exact Or.inl ⟨z1, z2, by rw [z3, fnd_s0 (p := fun v => fpw n m v k == a) (i := q) hp]⟩
        · exact Or.inr hz)
      rw [e4, ← nI_1 q] at next
      exact next
theorem c_M_roots {P : PSem} (S : SysOK P) {h : PH} {u : Nat → Nat} (hM : MJ h u) (hu : MDS u) (n a k w : Int32) {K : PK} (hK : K (.int (sRoots u n a k w)) h) : P.1 n_M_roots [.ref 116, .int n, .int a, .int k, .int w] h K := by
  have hw := hM.1
  unfold sRoots at hK
  refine S.2.1 _ 8 _ _ _ rfl rfl ?_
  refine S.at 60 [22] rfl ?_
  conv => whnf
  refine c_M_isOf S n a ?_
  conv => whnf
  refine bk_b0 (fun c1 => ?_) (fun c1 => ?_)
  · rw [c1, Bool.false_and, Bool.false_and] at hK
    conv => whnf
    exact hK
  rw [c1, Bool.true_and] at hK
  conv => whnf
  refine c_M_in S _ _ _ ?_
  conv => whnf
  refine bk_b0 (fun c2 => ?_) (fun c2 => ?_)
  · rw [show okK k = false from c2, Bool.false_and] at hK
    conv => whnf
    exact hK
  rw [show okK k = true from c2, Bool.true_and] at hK
  conv => whnf
  refine c_M_in S _ _ _ ?_
  conv => whnf
  refine bk_b1 (fun c3 => ?_) (fun c3 => ?_)
  · have c3 : is01 w = true := c3
    rw [c3, if_pos rfl] at hK
    obtain ⟨d, x, d1, d2, rfl, rfl, hx⟩ := okE_nat c1
    obtain ⟨q, rfl, q1, q2⟩ := okK_nat c2
    have hk := pow12 d2
    rw [nI_clamp (show d < 2 ^ 31 by omega), nI_clamp (show x < 2 ^ 31 by omega), nI_clamp (show q < 2 ^ 31 by omega)] at hK
    unfold rtS at hK
    conv => whnf
    refine l_M_roots S hw d2 (hu d d1 d2).1 (hM.2.1 d d1 d2) hx q2 ?_ (2 ^ d) 0 (-2) (by omega) (Or.inl ⟨rfl, rfl, rfl⟩)
    refine S.at 60 [] rfl ?_
    conv => whnf
    rcases is01_or c3 with rfl | rfl
    · rw [if_pos rfl] at hK
      refine bk_nf (rfl) ?_
      conv => whnf
      exact hK
    · rw [if_neg (by decide)] at hK
      refine bk_nt ((by decide)) ?_
      conv => whnf
      exact hK
  · have c3 : is01 w = false := c3
    rw [c3] at hK
    conv => whnf
    exact hK
