/-! the class's questions: fields in one another -/
theorem lowF_uq {n m p r d a v : Nat} (hP : MOD d p) (hm : MDg n m) (hr : root n m p r) (hv : v < 2 ^ d) (he : pvl n m r v = a) : lowF n m r d a = v := by
  obtain ⟨l1, l2⟩ := lowF_ok hv he
  exact hom_inj hP hm hr l1 hv (by rw [l2, he])
theorem lowF_no {n m r d a : Nat} (h : ∀ v, v < 2 ^ d → pvl n m r v ≠ a) : lowF n m r d a = 2 ^ d := by
  have := fnd_no (p := fun v => pvl n m r v == a) (2 ^ d) 0 (fun v _ hv => beq_eq_false_iff_ne.mpr (h v (by omega)))
  rwa [Nat.zero_add] at this
def dvI (d n : Nat) : Bool := n % d == 0
noncomputable def sRaise (u : Nat → Nat) (d n a : Int32) : Int32 := if okE d a && okF n then (if dvI d.toNatClampNeg n.toNatClampNeg then nI (pvl n.toNatClampNeg (u n.toNatClampNeg) (imF u d.toNatClampNeg n.toNatClampNeg) a.toNatClampNeg) else -2) else -1
theorem dv_true {d n : Nat} (h : dvI d n = true) : d ∣ n := Nat.dvd_of_mod_eq_zero (eq_of_beq h)
theorem dv_dec {d n : Nat} (hd : 1 ≤ d) : decide (0 < d ∧ n % d = 0) = dvI d n := by
  unfold dvI
  rw [Bool.eq_iff_iff, decide_eq_true_iff, beq_iff_eq]
  exact ⟨fun q => q.2, fun q => ⟨by omega, q⟩⟩
theorem c_FT_raise {P : PSem} (S : SysOK P) {h : PH} {u : Nat → Nat} (hC : CI h u (imF u)) (hu : MDS u) (d n a : Int32) {K : PK} (hK : ∀ h', CI h' u (imF u) → FQ h h' → K (.int (sRaise u d n a)) h') : P.1 n_FT_raise [.ref 5, .int d, .int n, .int a] h K := by
  have hr := img_ex hu
  have hw := hC.1
  unfold sRaise at hK
  refine S.go 80 rfl rfl rfl ?_
  conv => whnf
  refine c_FT_isField S _ ?_
  conv => whnf
  refine bk_b0 (fun c1 => ?_) (fun c1 => ?_)
  · rw [c1, Bool.and_false] at hK
    conv => whnf
    exact hK h hC (FQ_rf h)
  rw [c1, Bool.and_true] at hK
  conv => whnf
  refine c_FT_isElement S d a ?_
  conv => whnf
  refine bk_b1 (fun c2 => ?_) (fun c2 => ?_)
  · rw [c2, if_pos rfl] at hK
    obtain ⟨d, x, d1, d2, rfl, rfl, hx⟩ := okE_nat c2
    obtain ⟨n, n1, n2, rfl⟩ := okF_nat c1
    have hk := pow12 d2
    rw [nI_clamp (show d < 2 ^ 31 by omega), nI_clamp (show n < 2 ^ 31 by omega), nI_clamp (show x < 2 ^ 31 by omega)] at hK
    conv => whnf
    refine c_FT_divides S (by omega) (by omega) ?_
    conv => whnf
    rw [dv_dec d1]
    refine bk_b1 (fun c3 => ?_) (fun c3 => ?_)
    · rw [c3, if_pos rfl] at hK
      have hdv := dv_true c3
      conv => whnf
      refine ⟨wt_5 hw, ?_⟩
      conv => whnf
      rw [wr_5_1 hw]
      refine ⟨wt_8 hw, ?_⟩
      conv => whnf
      refine c_Tower_prepare S hu hr n1 n2 hC (fun h' a1 a2 a3 => ?_)
      have hw' := a1.1
      conv => whnf
      refine ⟨wt_5 hw', ?_⟩
      conv => whnf
      rw [wr_5_1 hw']
      refine ⟨wt_8 hw', ?_⟩
      conv => whnf
      refine c_Tower_raised S hw' n1 n2 d2 (a1.2.1 n n1 n2) (hu n n1 n2).1 (a3 n n1 (Nat.dvd_refl n) d d1 hdv) (IMG_root hu hr n d n1 n2 d1 hdv).1 (by omega) ?_
      conv => whnf
      exact hK h' a1 a2
    · rw [c3, if_neg (by decide)] at hK
      conv => whnf
      exact hK h hC (FQ_rf h)
  · rw [c2] at hK
    conv => whnf
    exact hK h hC (FQ_rf h)
noncomputable def sLower (u : Nat → Nat) (n d a : Int32) : Int32 := if okE n a && okF d then (if dvI d.toNatClampNeg n.toNatClampNeg then fnI (lowF n.toNatClampNeg (u n.toNatClampNeg) (imF u d.toNatClampNeg n.toNatClampNeg) d.toNatClampNeg a.toNatClampNeg) (2 ^ d.toNatClampNeg) else -2) else -1
theorem c_FT_lower {P : PSem} (S : SysOK P) {h : PH} {u : Nat → Nat} (hC : CI h u (imF u)) (hu : MDS u) (n d a : Int32) {K : PK} (hK : ∀ h', CI h' u (imF u) → FQ h h' → K (.int (sLower u n d a)) h') : P.1 n_FT_lower [.ref 5, .int n, .int d, .int a] h K := by
  have hr := img_ex hu
  have hw := hC.1
  unfold sLower at hK
  refine S.go 80 rfl rfl rfl ?_
  conv => whnf
  refine c_FT_isField S _ ?_
  conv => whnf
  refine bk_b0 (fun c1 => ?_) (fun c1 => ?_)
  · rw [c1, Bool.and_false] at hK
    conv => whnf
    exact hK h hC (FQ_rf h)
  rw [c1, Bool.and_true] at hK
  conv => whnf
  refine c_FT_isElement S n a ?_
  conv => whnf
  refine bk_b1 (fun c2 => ?_) (fun c2 => ?_)
  · rw [c2, if_pos rfl] at hK
    obtain ⟨n, x, n1, n2, rfl, rfl, hx⟩ := okE_nat c2
    obtain ⟨d, d1, d2, rfl⟩ := okF_nat c1
    have hk := pow12 n2
    rw [nI_clamp (show d < 2 ^ 31 by omega), nI_clamp (show n < 2 ^ 31 by omega), nI_clamp (show x < 2 ^ 31 by omega)] at hK
    conv => whnf
    refine c_FT_divides S (by omega) (by omega) ?_
    conv => whnf
    rw [dv_dec d1]
    refine bk_b1 (fun c3 => ?_) (fun c3 => ?_)
    · rw [c3, if_pos rfl] at hK
      have hdv := dv_true c3
      have hrt := IMG_root hu hr n d n1 n2 d1 hdv
      have hm := (hu n n1 n2).1
      conv => whnf
      refine ⟨wt_5 hw, ?_⟩
      conv => whnf
      rw [wr_5_1 hw]
      refine ⟨wt_8 hw, ?_⟩
      conv => whnf
      refine c_Tower_prepare S hu hr n1 n2 hC (fun h' a1 a2 a3 => ?_)
      have hw' := a1.1
      conv => whnf
      refine ⟨wt_5 hw', ?_⟩
      conv => whnf
      rw [wr_5_1 hw']
      refine ⟨wt_8 hw', ?_⟩
      conv => whnf
      have fq : ∀ h2, eqX spA h' h2 → CI h2 u (imF u) ∧ FQ h h2 := fun h2 q => ⟨CI_eqX (fun j hj => spA_frs hj) q a1, FQ_tr a2 (FQ_eqX q (fun j hj _ => frs_scr (spA_frs hj)))⟩
      refine c_Tower_lowered S hw' n1 n2 d1 d2 (a1.2.1 n n1 n2) hm (a3 n n1 (Nat.dvd_refl n) d d1 hdv) hrt.1 hx (fun h2 v b1 b2 b3 => ?_) (fun h2 b1 b2 => ?_)
      · conv => whnf
        rw [lowF_uq (hu d d1 d2) hm hrt b2 b3] at hK
        unfold fnI at hK
        rw [if_pos b2] at hK
        exact hK h2 (fq h2 b1).1 (fq h2 b1).2
      · conv => whnf
        rw [lowF_no b2] at hK
        unfold fnI at hK
        rw [if_neg (by omega)] at hK
        exact hK h2 (fq h2 b1).1 (fq h2 b1).2
    · rw [c3, if_neg (by decide)] at hK
      conv => whnf
      exact hK h hC (FQ_rf h)
  · rw [c2] at hK
    conv => whnf
    exact hK h hC (FQ_rf h)
noncomputable def dwS (u : Nat → Nat) (n d a : Nat) (norm : Bool) : Nat := lowF n (u n) (imF u d n) d (if norm then nmS n (u n) d (n / d) a else trS n (u n) d (n / d) a)
noncomputable def sDown (u : Nat → Nat) (n d a : Int32) (norm : Bool) : Int32 := if okE n a && okF d then (if dvI d.toNatClampNeg n.toNatClampNeg then nI (dwS u n.toNatClampNeg d.toNatClampNeg a.toNatClampNeg norm) else -2) else -1
/-- what the lowering of something fixed gives -/
theorem low_fix {u : Nat → Nat} (hu : MDS u) {n d a : Nat} (n1 : 1 ≤ n) (n2 : n ≤ 12) (d1 : 1 ≤ d) (hdv : d ∣ n) (ha : a < 2 ^ n) (hf : sqn n (u n) d a = a) : lowF n (u n) (imF u d n) d a < 2 ^ d ∧ pvl n (u n) (imF u d n) (lowF n (u n) (imF u d n) d a) = a := by
  have hdn := Nat.le_of_dvd n1 hdv
  obtain ⟨v, v1, v2⟩ := fix_img (all_GF (by omega : d ≤ 12) (hu d d1 (by omega))) (all_GF n2 (hu n n1 n2)) (all_prim n2 (hu n n1 n2)) (IMG_root hu (img_ex hu) n d n1 n2 d1 hdv) hdv ha hf
  exact lowF_ok v1 v2
theorem c_Tower_lowF {P : PSem} (S : SysOK P) {h : PH} {u : Nat → Nat} (hC : CI h u (imF u)) (hu : MDS u) {n d a : Nat} (n1 : 1 ≤ n) (n2 : n ≤ 12) (d1 : 1 ≤ d) (hdv : d ∣ n) (hi : IMS h (imF u) n) (ha : a < 2 ^ n) (hf : sqn n (u n) d a = a) {K : PK} (hK : ∀ h', CI h' u (imF u) → FQ h h' → K (.int (nI (lowF n (u n) (imF u d n) d a))) h') : P.1 n_Tower_lowered [.ref 8, .int (nI n), .int (nI d), .int (nI a)] h K := by
  have hdn := Nat.le_of_dvd n1 hdv
  have hrt := IMG_root hu (img_ex hu) n d n1 n2 d1 hdv
  have hm := (hu n n1 n2).1
  obtain ⟨l1, l2⟩ := low_fix hu n1 n2 d1 hdv ha hf
  refine c_Tower_lowered S hC.1 n1 n2 d1 (by omega) (hC.2.1 n n1 n2) hm (hi d d1 hdv) hrt.1 ha (fun h2 v b1 b2 b3 => ?_) (fun h2 b1 b2 => absurd l2 (b2 _ l1))
  have := hK h2 (CI_eqX (fun j hj => spA_frs hj) b1 hC) (FQ_eqX b1 (fun j hj _ => frs_scr (spA_frs hj)))
  rwa [lowF_uq (hu d d1 (by omega)) hm hrt b2 b3] at this
theorem c_FT_down {P : PSem} (S : SysOK P) {h : PH} {u : Nat → Nat} (hC : CI h u (imF u)) (hu : MDS u) (n d a : Int32) (norm : Bool) {K : PK} (hK : ∀ h', CI h' u (imF u) → FQ h h' → K (.int (sDown u n d a norm)) h') : P.1 n_FT_down [.ref 5, .int n, .int d, .int a, .int (bI norm)] h K := by
  have hr := img_ex hu
  have hw := hC.1
  unfold sDown at hK
  refine S.go 80 rfl rfl rfl ?_
  conv => whnf
  refine c_FT_isField S _ ?_
  conv => whnf
  refine bk_b0 (fun c1 => ?_) (fun c1 => ?_)
  · rw [c1, Bool.and_false] at hK
    conv => whnf
    exact hK h hC (FQ_rf h)
  rw [c1, Bool.and_true] at hK
  conv => whnf
  refine c_FT_isElement S n a ?_
  conv => whnf
  refine bk_b1 (fun c2 => ?_) (fun c2 => ?_)
  · rw [c2, if_pos rfl] at hK
    obtain ⟨n, x, n1, n2, rfl, rfl, hx⟩ := okE_nat c2
    obtain ⟨d, d1, d2, rfl⟩ := okF_nat c1
    have hk := pow12 n2
    rw [nI_clamp (show d < 2 ^ 31 by omega), nI_clamp (show n < 2 ^ 31 by omega), nI_clamp (show x < 2 ^ 31 by omega)] at hK
    conv => whnf
    refine c_FT_divides S (by omega) (by omega) ?_
    conv => whnf
    rw [dv_dec d1]
    refine bk_b1 (fun c3 => ?_) (fun c3 => ?_)
    · rw [c3, if_pos rfl] at hK
      have hdv := dv_true c3
      have hnd := Nat.mul_div_cancel' hdv
      have hm := (hu n n1 n2).1
      have hG := all_GF n2 (hu n n1 n2)
      unfold dwS at hK
      conv => whnf
      refine ⟨wt_5 hw, ?_⟩
      conv => whnf
      rw [wr_5_1 hw]
      refine ⟨wt_8 hw, ?_⟩
      conv => whnf
      refine c_Tower_prepare S hu hr n1 n2 hC (fun h' a1 a2 a3 => ?_)
      have hw' := a1.1
      have hF' := a1.2.1 n n1 n2
      conv => whnf
      refine ⟨wt_5 hw', ?_⟩
      conv => whnf
      rw [wr_5_1 hw']
      refine bk_b0 (fun c4 => ?_) (fun c4 => ?_)
      · rw [c4, if_neg (by decide)] at hK
        conv => whnf
        refine ⟨wt_5 hw', ?_⟩
        conv => whnf
        try rw [wr_5_1 hw']
        refine ⟨wt_8 hw', ?_⟩
        conv => whnf
        try rw [wr_8_0 hw']
        refine ⟨Or.inl (wi_in9 hw' n1 n2), ?_⟩
        conv => whnf
        rw [nI_clamp (show n < 2 ^ 31 by omega), wi_fld hw' n1 n2]
        conv => whnf
        refine ⟨hF'.1, ?_⟩
        conv => whnf
        refine c_Field_traceTo S hF' n2 d1 d2 hnd hm hx ?_
        conv => whnf
        refine ⟨wt_8 hw', ?_⟩
        conv => whnf
        refine c_Tower_lowF S a1 hu n1 n2 d1 hdv (a3 n n1 (Nat.dvd_refl n)) (trS_lt hm _ _ hx) (trS_fix hG hnd hx) (fun h2 b1 b2 => ?_)
        conv => whnf
        exact hK h2 b1 (FQ_tr a2 b2)
      · rw [c4, if_pos rfl] at hK
        conv => whnf
        refine ⟨wt_5 hw', ?_⟩
        conv => whnf
        try rw [wr_5_1 hw']
        refine ⟨wt_8 hw', ?_⟩
        conv => whnf
        try rw [wr_8_0 hw']
        refine ⟨Or.inl (wi_in9 hw' n1 n2), ?_⟩
        conv => whnf
        rw [nI_clamp (show n < 2 ^ 31 by omega), wi_fld hw' n1 n2]
        conv => whnf
        refine ⟨hF'.1, ?_⟩
        conv => whnf
        refine c_Field_normTo S hF' n2 d1 d2 hnd hm hx ?_
        conv => whnf
        refine ⟨wt_8 hw', ?_⟩
        conv => whnf
        refine c_Tower_lowF S a1 hu n1 n2 d1 hdv (a3 n n1 (Nat.dvd_refl n)) (nmS_lt hm _ _ hx) (nmS_fix hG hnd hx) (fun h2 b1 b2 => ?_)
        conv => whnf
        exact hK h2 b1 (FQ_tr a2 b2)
    · rw [c3, if_neg (by decide)] at hK
      conv => whnf
      exact hK h hC (FQ_rf h)
  · rw [c2] at hK
    conv => whnf
    exact hK h hC (FQ_rf h)
noncomputable def lsS (u : Nat → Nat) (n d a : Nat) (i : Int32) : Int32 := if i = -1 then nI (dgO n (u n) d a) else if i ≤ nI (dgO n (u n) d a) then nI (lowF n (u n) (imF u d n) d (lpD n (u n) d a i.toNatClampNeg)) else -1
noncomputable def sLeast (u : Nat → Nat) (n d a i : Int32) : Int32 := if okE n a && okF d && decide ((-1 : Int32) ≤ i) then (if dvI d.toNatClampNeg n.toNatClampNeg then lsS u n.toNatClampNeg d.toNatClampNeg a.toNatClampNeg i else -2) else -1
theorem i32_m1 {i : Int32} (h1 : (-1 : Int32) ≤ i) (h2 : ¬ i = -1) : 0 ≤ i := by
  rw [Int32.le_iff_toInt_le] at h1 ⊢
  have h3 : i.toInt ≠ -1 := fun q => h2 (Int32.toInt_inj.mp q)
  have e1 : (-1 : Int32).toInt = -1 := by decide
  have e2 : (0 : Int32).toInt = 0 := by decide
  omega
theorem c_FT_least {P : PSem} (S : SysOK P) {h : PH} {u : Nat → Nat} (hC : CI h u (imF u)) (hu : MDS u) (n d a i : Int32) {K : PK} (hK : ∀ h', CI h' u (imF u) → FQ h h' → K (.int (sLeast u n d a i)) h') : P.1 n_FT_least [.ref 5, .int n, .int d, .int a, .int i] h K := by
  have hr := img_ex hu
  have hw := hC.1
  unfold sLeast at hK
  refine S.go 100 rfl rfl rfl ?_
  conv => whnf
  refine c_FT_isField S _ ?_
  conv => whnf
  refine bk_b0 (fun c1 => ?_) (fun c1 => ?_)
  · rw [c1, Bool.and_false, Bool.false_and] at hK
    conv => whnf
    exact hK h hC (FQ_rf h)
  rw [c1, Bool.and_true] at hK
  conv => whnf
  refine c_FT_isElement S n a ?_
  conv => whnf
  refine bk_b0 (fun c2 => ?_) (fun c2 => ?_)
  · rw [c2, Bool.false_and] at hK
    conv => whnf
    exact hK h hC (FQ_rf h)
  rw [c2, Bool.true_and] at hK
  conv => whnf
  refine ⟨fun c3 => ?_, fun c3 => ?_⟩
  · rw [decide_eq_true c3, if_pos rfl] at hK
    obtain ⟨n, x, n1, n2, rfl, rfl, hx⟩ := okE_nat c2
    obtain ⟨d, d1, d2, rfl⟩ := okF_nat c1
    have hk := pow12 n2
    rw [nI_clamp (show d < 2 ^ 31 by omega), nI_clamp (show n < 2 ^ 31 by omega), nI_clamp (show x < 2 ^ 31 by omega)] at hK
    conv => whnf
    refine c_FT_divides S (by omega) (by omega) ?_
    conv => whnf
    rw [dv_dec d1]
    refine bk_b1 (fun c4 => ?_) (fun c4 => ?_)
    · rw [c4, if_pos rfl] at hK
      have hdv := dv_true c4
      have hm := (hu n n1 n2).1
      have hG := all_GF n2 (hu n n1 n2)
      have hF := hC.2.1 n n1 n2
      obtain ⟨g1, g2, g3, g4⟩ := dgO_ok hG hdv hx
      have g5 : n / d ≤ n := Nat.div_le_self _ _
      unfold lsS at hK
      conv => whnf
      refine ⟨wt_5 hw, ?_⟩
      conv => whnf
      try rw [wr_5_1 hw]
      refine ⟨wt_8 hw, ?_⟩
      conv => whnf
      try rw [wr_8_0 hw]
      refine ⟨Or.inl (wi_in9 hw n1 n2), ?_⟩
      conv => whnf
      rw [nI_clamp (show n < 2 ^ 31 by omega), wi_fld hw n1 n2]
      conv => whnf
      refine ⟨hF.1, ?_⟩
      conv => whnf
      refine c_Field_degreeOver S hF n2 hG hx hdv ?_
      conv => whnf
      refine ⟨fun c5 => ?_, fun c5 => ?_⟩
      · rw [if_neg c5] at hK
        obtain ⟨q, rfl, hq⟩ := i32_nat (i32_m1 c3 c5)
        conv => whnf
        refine ⟨fun c6 => ?_, fun c6 => ?_⟩
        · rw [if_pos c6, nI_clamp hq] at hK
          have c7 := (zn_le hq (by omega)).mp c6
          conv => whnf
          refine ⟨wt_5 hw, ?_⟩
          conv => whnf
          rw [wr_5_1 hw]
          refine ⟨wt_8 hw, ?_⟩
          conv => whnf
          refine c_Tower_prepare S hu hr n1 n2 hC (fun h' a1 a2 a3 => ?_)
          have hw' := a1.1
          have hF' := a1.2.1 n n1 n2
          conv => whnf
          refine ⟨wt_5 hw', ?_⟩
          conv => whnf
          rw [wr_5_1 hw']
          refine ⟨wt_5 hw', ?_⟩
          conv => whnf
          try rw [wr_5_1 hw']
          refine ⟨wt_8 hw', ?_⟩
          conv => whnf
          try rw [wr_8_0 hw']
          refine ⟨Or.inl (wi_in9 hw' n1 n2), ?_⟩
          conv => whnf
          rw [nI_clamp (show n < 2 ^ 31 by omega), wi_fld hw' n1 n2]
          conv => whnf
          refine ⟨hF'.1, ?_⟩
          conv => whnf
          refine c_Field_leastCoefficient S hw' n1 n2 hF' hG hdv hx c7 (fun h2 b1 => ?_)
          have hC2 := CI_eqX (fun k q => by unfold frs; omega) b1 a1
          have hf2 := FQ_eqX b1 (fun k q _ => by unfold scr; omega)
          conv => whnf
          refine ⟨wt_8 hC2.1, ?_⟩
          conv => whnf
          have hi2 : IMS h2 (imF u) n := fun d' e1 e2 => by rw [b1.2.2.2.2 _ (by omega)]; exact a3 n n1 (Nat.dvd_refl n) d' e1 e2
          refine c_Tower_lowF S hC2 hu n1 n2 d1 hdv hi2 (lpS_lt hm (cjd_lt hm hx) _ _) (lpD_fix hG hdv hx q) (fun h3 b3 b4 => ?_)
          conv => whnf
          exact hK h3 b3 (FQ_tr (FQ_tr a2 hf2) b4)
        · rw [if_neg c6] at hK
          conv => whnf
          exact hK h hC (FQ_rf h)
      · rw [if_pos c5] at hK
        conv => whnf
        exact hK h hC (FQ_rf h)
    · rw [c4, if_neg (by decide)] at hK
      conv => whnf
      exact hK h hC (FQ_rf h)
  · rw [decide_eq_false c3] at hK
    conv => whnf
    exact hK h hC (FQ_rf h)
