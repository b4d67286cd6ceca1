/-! the class's questions: powers, elements -/
theorem i32_nat {k : Int32} (h : 0 ≤ k) : ∃ q : Nat, k = nI q ∧ q < 2 ^ 31 := by
  have h1 : 0 ≤ k.toInt := Int32.le_iff_toInt_le.mp h
  have h2 := Int32.toInt_lt k
  refine ⟨k.toInt.toNat, ?_, by omega⟩
  apply Int32.toInt_inj.mp
  rw [nI_toInt (by omega)]
  omega
theorem i32_neg {k : Int32} (h : k < 0) : ∃ m : Nat, 1 ≤ m ∧ m ≤ 2 ^ 31 ∧ k.toInt = -(m : Int) := by
  have h1 : k.toInt < 0 := Int32.lt_iff_toInt_lt.mp h
  have h2 := Int32.le_toInt k
  exact ⟨(-k.toInt).toNat, by omega, by omega, by omega⟩
theorem neg_l {k : Int32} {m : Nat} (h : k.toInt = -(m : Int)) (hm : m ≤ 2 ^ 31) : -k.toInt64 = lN m := by
  apply Int64.toInt_inj.mp
  rw [Int64.toInt_neg, Int32.toInt_toInt64, h, zl_int (by omega), Int.neg_neg]
  exact Int.bmod_eq_of_le (by omega) (by omega)
/-- the exponent, less multiples of 2^n - 1 -/
def pwE (L : Nat) (k : Int32) : Nat := if 0 ≤ k then k.toInt.toNat % L else ((L - 1) * (-k.toInt).toNat) % L
def sPower (u : Nat → Nat) (n a k : Int32) : Int32 := if okE n a then (if a = 0 then (if k < 0 then -2 else if k = 0 then 1 else 0) else nI (fpw n.toNatClampNeg (u n.toNatClampNeg) a.toNatClampNeg (pwE (2 ^ n.toNatClampNeg - 1) k))) else -1
theorem c_FT_power {P : PSem} (S : SysOK P) {h : PH} {u : Nat → Nat} (hw : WS h) (hF : CF h u) (hu : MDS u) (n a k : Int32) {K : PK} (hK : K (.int (sPower u n a k)) h) : P.1 n_FT_power [.ref 5, .int n, .int a, .int k] h K := by
  unfold sPower at hK
  refine S.go 60 rfl rfl rfl ?_
  conv => whnf
  refine c_FT_isElement S n a ?_
  conv => whnf
  refine bk_b1 (fun c => ?_) (fun c => ?_)
  · rw [c, if_pos rfl] at hK
    obtain ⟨d, x, k1, k2, rfl, rfl, hx⟩ := okE_nat c
    have hk := pow12 k2
    have h2 := two_pow_ge2 k1
    have hM := hu d k1 k2
    have hm := hM.1
    have hG := all_GF k2 hM
    rw [nI_clamp (show d < 2 ^ 31 by omega), nI_clamp (show x < 2 ^ 31 by omega)] at hK
    conv => whnf
    refine ⟨wt_5 hw, ?_⟩
    conv => whnf
    try rw [wr_5_1 hw]
    refine ⟨wt_8 hw, ?_⟩
    conv => whnf
    try rw [wr_8_0 hw]
    refine ⟨Or.inl (wi_in9 hw k1 k2), ?_⟩
    conv => whnf
    rw [nI_clamp (show d < 2 ^ 31 by omega), wi_fld hw k1 k2]
    conv => whnf
    refine ⟨fun c1 => ?_, fun c1 => ?_⟩
    · obtain ⟨m, m1, m2, m3⟩ := i32_neg c1
      have n0 : ¬ (0 : Int32) ≤ k := Int32.not_le.mpr c1
      rw [if_pos c1] at hK
      conv => whnf
      refine bk_ne (b := 0) (by omega) (by decide) (fun c2 => ?_) (fun c2 => ?_)
      · rw [if_neg (fun q : nI x = 0 => c2 ((zn_eq (b := 0) (by omega) (by decide)).mp q))] at hK
        unfold pwE at hK
        rw [if_neg n0, m3, Int.neg_neg, Int.toNat_natCast, pw_mod hm hx (fermat hG hx c2)] at hK
        conv => whnf
        refine ⟨(hF d k1 k2).1, ?_⟩
        conv => whnf
        refine c_Field_inverse S (hF d k1 k2) k2 hm hx ?_
        conv => whnf
        refine ⟨(hF d k1 k2).1, ?_⟩
        conv => whnf
        refine p1c (congrArg (fun z => [Value.ref (27 + 4 * d), Value.int (nI (fpw d (u d) x (2 ^ d - 2))), Value.long z]) (neg_l m3 m2)) ?_
        refine c_Field_toThe S (hF d k1 k2) k2 hm (fpw_lt hm hx _) (by omega) ?_
        rw [← fpw_mul hm hx, show 2 ^ d - 2 = 2 ^ d - 1 - 1 by omega]
        conv => whnf
        exact hK
      · rw [if_pos (by rw [c2]; rfl)] at hK
        conv => whnf
        exact hK
    · have p0 : (0 : Int32) ≤ k := Int32.not_lt.mp c1
      obtain ⟨q, rfl, hq⟩ := i32_nat p0
      conv => whnf
      refine ⟨(hF d k1 k2).1, ?_⟩
      conv => whnf
      refine p1c (congrArg (fun z => [Value.ref (27 + 4 * d), Value.int (nI x), Value.long z]) (nI_l hq)) ?_
      refine c_Field_toThe S (hF d k1 k2) k2 hm hx (by omega) ?_
      conv => whnf
      rw [if_neg c1] at hK
      rcases Nat.eq_zero_or_pos x with z | z
      · rw [if_pos (by rw [z]; rfl)] at hK
        rw [z]
        rcases Nat.eq_zero_or_pos q with y | y
        · rw [if_pos (by rw [y]; rfl)] at hK
          rw [y]
          exact hK
        · rw [if_neg (fun e : nI q = 0 => by have := (zn_eq (b := 0) hq (by decide)).mp e; omega)] at hK
          rw [fpw_0 hm (by omega)]
          exact hK
      · rw [if_neg (fun e : nI x = 0 => by have := (zn_eq (b := 0) (by omega) (by decide)).mp e; omega)] at hK
        unfold pwE at hK
        rw [if_pos p0, nI_toInt hq, Int.toNat_natCast, pw_mod hm hx (fermat hG hx (by omega))] at hK
        exact hK
  · rw [c] at hK
    conv => whnf
    exact hK
noncomputable def elS (n m a : Nat) (w : Int32) : Int32 :=
  if w = 0 then (if a = 0 then -2 else nI (fpw n m a (2 ^ n - 2))) else if w = 1 then nI (sqn n m (n - 1) a) else if w = 2 then (if a = 0 then -2 else nI (ordF n m a)) else if w = 3 then (if a = 0 then -2 else nI (lgF n m (lpF n m) a)) else if w = 4 then nI (dgO n m 1 a) else if w = 5 then nI (lcj n m (n - 1) a a) else if w = 6 then nI (dgO n m 1 a) else if w = 7 then bI (decide (a ≠ 0) && (ordF n m a == 2 ^ n - 1)) else if w = 8 then bI (nrmB n m a) else if w = 9 then nI (coF n m (lnF n m) a) else if w = 10 then (if nrmB n m a then nI (duF n m a) else -2) else -1
noncomputable def sElement (u : Nat → Nat) (n a w : Int32) : Int32 := if okE n a then elS n.toNatClampNeg (u n.toNatClampNeg) a.toNatClampNeg w else -1
theorem c_FT_element {P : PSem} (S : SysOK P) {h : PH} {u : Nat → Nat} {r : Nat → Nat → Nat} (hC : CI h u r) (hu : MDS u) (n a w : Int32) {K : PK} (hK : ∀ h', CI h' u r → FQ h h' → K (.int (sElement u n a w)) h') : P.1 n_FT_element [.ref 5, .int n, .int a, .int w] h K := by
  have hw := hC.1
  unfold sElement at hK
  refine S.go 150 rfl rfl rfl ?_
  conv => whnf
  refine c_FT_isElement S n a ?_
  conv => whnf
  refine bk_b1 (fun c => ?_) (fun c => ?_)
  · rw [c, if_pos rfl] at hK
    obtain ⟨k, x, k1, k2, rfl, rfl, hx⟩ := okE_nat c
    have hk := pow12 k2
    have hM := hu k k1 k2
    have hm := hM.1
    have hG := all_GF k2 hM
    have hF := hC.2.1 k k1 k2
    rw [nI_clamp (show k < 2 ^ 31 by omega), nI_clamp (show x < 2 ^ 31 by omega)] at hK
    unfold elS at hK
    conv => whnf
    refine ⟨fun e => ?_, fun e0 => ?_⟩
    · rw [if_pos e] at hK
      conv => whnf
      refine bk_ne (b := 0) (by omega) (by decide) (fun z => ?_) (fun z => ?_)
      · rw [if_neg z] at hK
        conv => whnf
        refine ⟨wt_5 hw, ?_⟩
        conv => whnf
        try rw [wr_5_1 hw]
        refine ⟨wt_8 hw, ?_⟩
        conv => whnf
        try rw [wr_8_0 hw]
        refine ⟨Or.inl (wi_in9 hw k1 k2), ?_⟩
        conv => whnf
        rw [nI_clamp (show k < 2 ^ 31 by omega), wi_fld hw k1 k2]
        conv => whnf
        refine ⟨hF.1, ?_⟩
        conv => whnf
        refine c_Field_inverse S hF k2 hm hx ?_
        conv => whnf
        exact hK h hC (FQ_rf h)
      · rw [if_pos z] at hK
        conv => whnf
        exact hK h hC (FQ_rf h)
    rw [if_neg e0] at hK
    refine ⟨fun e => ?_, fun e1 => ?_⟩
    · rw [if_pos e] at hK
      conv => whnf
      refine ⟨wt_5 hw, ?_⟩
      conv => whnf
      try rw [wr_5_1 hw]
      refine ⟨wt_8 hw, ?_⟩
      conv => whnf
      try rw [wr_8_0 hw]
      refine ⟨Or.inl (wi_in9 hw k1 k2), ?_⟩
      conv => whnf
      rw [nI_clamp (show k < 2 ^ 31 by omega), wi_fld hw k1 k2]
      conv => whnf
      refine ⟨hF.1, ?_⟩
      conv => whnf
      refine p1c (congrArg (fun z => [Value.ref (27 + 4 * k), Value.int (nI x), Value.int z]) (pk_sub (a := k) (b := 1) (by omega))) ?_
      refine c_Field_squared S hF k2 (by omega) hm hx ?_
      conv => whnf
      exact hK h hC (FQ_rf h)
    rw [if_neg e1] at hK
    refine ⟨fun e => ?_, fun e2 => ?_⟩
    · rw [if_pos e] at hK
      conv => whnf
      refine bk_ne (b := 0) (by omega) (by decide) (fun z => ?_) (fun z => ?_)
      · rw [if_neg z] at hK
        conv => whnf
        refine ⟨wt_5 hw, ?_⟩
        conv => whnf
        try rw [wr_5_1 hw]
        refine ⟨wt_8 hw, ?_⟩
        conv => whnf
        try rw [wr_8_1 hw]
        refine ⟨Or.inr (Or.inl (wi_in10 hw k1 k2)), ?_⟩
        conv => whnf
        rw [nI_clamp (show k < 2 ^ 31 by omega), wi_cyc hw k1 k2]
        conv => whnf
        refine ⟨wi_yT hw k1 k2, ?_⟩
        conv => whnf
        refine c_Cycle_orderOf S hw k1 k2 hF hG hx z (hC.2.2.1 k k1 k2).1 ?_
        conv => whnf
        exact hK h hC (FQ_rf h)
      · rw [if_pos z] at hK
        conv => whnf
        exact hK h hC (FQ_rf h)
    rw [if_neg e2] at hK
    refine ⟨fun e => ?_, fun e3 => ?_⟩
    · rw [if_pos e] at hK
      conv => whnf
      refine bk_ne (b := 0) (by omega) (by decide) (fun z => ?_) (fun z => ?_)
      · rw [if_neg z] at hK
        conv => whnf
        refine ⟨wt_5 hw, ?_⟩
        conv => whnf
        try rw [wr_5_1 hw]
        refine ⟨wt_8 hw, ?_⟩
        conv => whnf
        try rw [wr_8_1 hw]
        refine ⟨Or.inr (Or.inl (wi_in10 hw k1 k2)), ?_⟩
        conv => whnf
        rw [nI_clamp (show k < 2 ^ 31 by omega), wi_cyc hw k1 k2]
        conv => whnf
        refine ⟨wi_yT hw k1 k2, ?_⟩
        conv => whnf
        refine c_Cycle_logarithmOf S k1 k2 hu hC (by omega) hx (fun h' a1 a2 => ?_)
        conv => whnf
        exact hK h' a1 a2
      · rw [if_pos z] at hK
        conv => whnf
        exact hK h hC (FQ_rf h)
    rw [if_neg e3] at hK
    refine ⟨fun e => ?_, fun e4 => ?_⟩
    · rw [if_pos e] at hK
      conv => whnf
      refine ⟨wt_5 hw, ?_⟩
      conv => whnf
      try rw [wr_5_1 hw]
      refine ⟨wt_8 hw, ?_⟩
      conv => whnf
      try rw [wr_8_0 hw]
      refine ⟨Or.inl (wi_in9 hw k1 k2), ?_⟩
      conv => whnf
      rw [nI_clamp (show k < 2 ^ 31 by omega), wi_fld hw k1 k2]
      conv => whnf
      refine ⟨hF.1, ?_⟩
      conv => whnf
      refine c_Field_degreeOf S hF k2 hG hx ?_
      conv => whnf
      exact hK h hC (FQ_rf h)
    rw [if_neg e4] at hK
    refine ⟨fun e => ?_, fun e5 => ?_⟩
    · rw [if_pos e] at hK
      conv => whnf
      refine ⟨wt_5 hw, ?_⟩
      conv => whnf
      try rw [wr_5_1 hw]
      refine ⟨wt_8 hw, ?_⟩
      conv => whnf
      try rw [wr_8_0 hw]
      refine ⟨Or.inl (wi_in9 hw k1 k2), ?_⟩
      conv => whnf
      rw [nI_clamp (show k < 2 ^ 31 by omega), wi_fld hw k1 k2]
      conv => whnf
      refine ⟨hF.1, ?_⟩
      conv => whnf
      refine c_Field_leastConjugate S hF k2 hm hx ?_
      conv => whnf
      exact hK h hC (FQ_rf h)
    rw [if_neg e5] at hK
    refine ⟨fun e => ?_, fun e6 => ?_⟩
    · rw [if_pos e] at hK
      conv => whnf
      refine ⟨wt_5 hw, ?_⟩
      conv => whnf
      try rw [wr_5_1 hw]
      refine ⟨wt_8 hw, ?_⟩
      conv => whnf
      try rw [wr_8_0 hw]
      refine ⟨Or.inl (wi_in9 hw k1 k2), ?_⟩
      conv => whnf
      rw [nI_clamp (show k < 2 ^ 31 by omega), wi_fld hw k1 k2]
      conv => whnf
      refine ⟨hF.1, ?_⟩
      conv => whnf
      refine c_Field_degreeOf S hF k2 hG hx ?_
      conv => whnf
      exact hK h hC (FQ_rf h)
    rw [if_neg e6] at hK
    refine ⟨fun e => ?_, fun e7 => ?_⟩
    · rw [if_pos e] at hK
      conv => whnf
      refine bk_eq (b := 0) (by omega) (by decide) (fun z => ?_) (fun z => ?_)
      · rw [decide_eq_false (fun q => q z), Bool.false_and] at hK
        conv => whnf
        exact hK h hC (FQ_rf h)
      · rw [decide_eq_true z, Bool.true_and] at hK
        conv => whnf
        refine ⟨wt_5 hw, ?_⟩
        conv => whnf
        try rw [wr_5_1 hw]
        refine ⟨wt_8 hw, ?_⟩
        conv => whnf
        try rw [wr_8_1 hw]
        refine ⟨Or.inr (Or.inl (wi_in10 hw k1 k2)), ?_⟩
        conv => whnf
        rw [nI_clamp (show k < 2 ^ 31 by omega), wi_cyc hw k1 k2]
        conv => whnf
        refine ⟨wi_yT hw k1 k2, ?_⟩
        conv => whnf
        refine c_Cycle_isPrimitive S hw k1 k2 hF hG hx z (hC.2.2.1 k k1 k2).1 ?_
        conv => whnf
        refine bk_b0 (fun y => ?_) (fun y => ?_)
        · rw [y] at hK
          conv => whnf
          exact hK h hC (FQ_rf h)
        · rw [y] at hK
          conv => whnf
          exact hK h hC (FQ_rf h)
    rw [if_neg e7] at hK
    have fq : ∀ h', eqX (spS k) h h' → FQ h h' := fun h' q => FQ_eqX q (fun j hj _ => spS_scr k1 k2 hj)
    refine ⟨fun e => ?_, fun e8 => ?_⟩
    · rw [if_pos e] at hK
      conv => whnf
      refine ⟨wt_5 hw, ?_⟩
      conv => whnf
      try rw [wr_5_1 hw]
      refine ⟨wt_8 hw, ?_⟩
      conv => whnf
      try rw [wr_8_2 hw]
      refine ⟨Or.inr (Or.inr (Or.inl (wi_in11 hw k1 k2))), ?_⟩
      conv => whnf
      rw [nI_clamp (show k < 2 ^ 31 by omega), wi_spc hw k1 k2]
      conv => whnf
      refine ⟨wi_sT hw k1 k2, ?_⟩
      conv => whnf
      refine c_Space_isNormal S k1 k2 hu hC hx (fun h' a1 a2 a3 => ?_)
      conv => whnf
      refine bk_b0 (fun y => ?_) (fun y => ?_)
      · rw [y] at hK
        conv => whnf
        exact hK h' a1 (fq h' a2)
      · rw [y] at hK
        conv => whnf
        exact hK h' a1 (fq h' a2)
    rw [if_neg e8] at hK
    refine ⟨fun e => ?_, fun e9 => ?_⟩
    · rw [if_pos e] at hK
      conv => whnf
      refine ⟨wt_5 hw, ?_⟩
      conv => whnf
      try rw [wr_5_1 hw]
      refine ⟨wt_8 hw, ?_⟩
      conv => whnf
      try rw [wr_8_2 hw]
      refine ⟨Or.inr (Or.inr (Or.inl (wi_in11 hw k1 k2))), ?_⟩
      conv => whnf
      rw [nI_clamp (show k < 2 ^ 31 by omega), wi_spc hw k1 k2]
      conv => whnf
      refine ⟨wi_sT hw k1 k2, ?_⟩
      conv => whnf
      refine c_Space_coordinatesOf S k1 k2 hu hC hx (fun h' a1 a2 => ?_)
      conv => whnf
      exact hK h' a1 (fq h' a2)
    rw [if_neg e9] at hK
    refine ⟨fun e => ?_, fun e10 => ?_⟩
    · rw [if_pos e] at hK
      conv => whnf
      refine ⟨wt_5 hw, ?_⟩
      conv => whnf
      try rw [wr_5_1 hw]
      refine ⟨wt_8 hw, ?_⟩
      conv => whnf
      try rw [wr_8_2 hw]
      refine ⟨Or.inr (Or.inr (Or.inl (wi_in11 hw k1 k2))), ?_⟩
      conv => whnf
      rw [nI_clamp (show k < 2 ^ 31 by omega), wi_spc hw k1 k2]
      conv => whnf
      refine ⟨wi_sT hw k1 k2, ?_⟩
      conv => whnf
      refine c_Space_isNormal S k1 k2 hu hC hx (fun h' a1 a2 a3 => ?_)
      conv => whnf
      refine bk_b0 (fun y => ?_) (fun y => ?_)
      · rw [y, if_neg (by decide)] at hK
        conv => whnf
        exact hK h' a1 (fq h' a2)
      · rw [y, if_pos rfl] at hK
        have hw' := a1.1
        conv => whnf
        refine ⟨wt_5 hw', ?_⟩
        conv => whnf
        try rw [wr_5_1 hw']
        refine ⟨wt_8 hw', ?_⟩
        conv => whnf
        try rw [wr_8_2 hw']
        refine ⟨Or.inr (Or.inr (Or.inl (wi_in11 hw' k1 k2))), ?_⟩
        conv => whnf
        rw [nI_clamp (show k < 2 ^ 31 by omega), wi_spc hw' k1 k2]
        conv => whnf
        refine ⟨wi_sT hw' k1 k2, ?_⟩
        conv => whnf
        refine c_Space_dualOf S k1 k2 hu a1 hx (nrmB_iff.mp y) (fun h2 b1 b2 => ?_)
        conv => whnf
        exact hK h2 b1 (fq h2 (eqX_tr a2 b2))
    rw [if_neg e10] at hK
    conv => whnf
    exact hK h hC (FQ_rf h)
  · rw [c] at hK
    conv => whnf
    exact hK h hC (FQ_rf h)
