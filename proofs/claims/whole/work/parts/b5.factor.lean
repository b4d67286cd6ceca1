/-! FACTORS -/
theorem pdq_pdv {m n : Nat} : ∀ j a o, (∀ i, i < j → o.testBit i = false) → pdq m n j a o = o ^^^ pdv m n j a
  | 0, a, o, _ => (Nat.xor_zero o).symm
  | j + 1, a, o, h => by
    unfold pdq pdv
    by_cases hb : a.testBit (n + j)
    · rw [if_pos hb, if_pos hb, if_pos hb]
      have e : o ||| 1 <<< j = o ^^^ 2 ^ j := by
        apply Nat.eq_of_testBit_eq
        intro i
        rw [Nat.testBit_or, Nat.testBit_xor, Nat.shiftLeft_eq, Nat.one_mul, Nat.testBit_two_pow]
        by_cases hi : j = i
        · subst hi
          rw [h j (by omega)]
          simp
        · simp [hi]
      rw [e, pdq_pdv j _ _ (fun i hi => by
        rw [Nat.testBit_xor, h i (by omega), Nat.testBit_two_pow]
        have : ¬ j = i := by omega
        simp [this]), Nat.xor_assoc]
    · rw [if_neg hb, if_neg hb, if_neg hb]
      exact pdq_pdv j a o (fun i hi => h i (by omega))
def qtF (p q : Nat) : Nat := pdq q q.log2 (13 - q.log2) p 0
theorem qtF_ok {p q : Nat} (hp : p < 8192) (h0 : q ≠ 0) (hq : q < 8192) (h : rem13 p q = 0) : p = cl (qtF p q) q := by
  have l := log2_lt13 hq
  have e : qtF p q = pdv q q.log2 (13 - q.log2) p := by
    unfold qtF
    rw [pdq_pdv _ _ _ (fun i _ => Nat.zero_testBit i), Nat.zero_xor]
  obtain ⟨-, g2, -⟩ := prd_ok (Nat.log2_self_le h0) (Nat.lt_log2_self (n := q)) (13 - q.log2) p (by rw [show q.log2 + (13 - q.log2) = 13 by omega]; exact hp)
  have h : prd q q.log2 (13 - q.log2) p = 0 := h
  rw [h, Nat.xor_zero] at g2
  rw [e]
  exact g2
theorem qtF_deg {p q : Nat} (hp0 : p ≠ 0) (hp : p < 8192) (h0 : q ≠ 0) (hq : q < 8192) (h : rem13 p q = 0) : qtF p q ≠ 0 ∧ (qtF p q).log2 + q.log2 = p.log2 ∧ qtF p q < 8192 ∧ pdvd (qtF p q) p := by
  have e := qtF_ok hp h0 hq h
  have hn : qtF p q ≠ 0 := fun z => by
    rw [z, cl_0l] at e
    exact hp0 e
  have d := cl_deg (Nat.log2_self_le hn) (Nat.lt_log2_self (n := qtF p q)) (Nat.log2_self_le h0) (Nat.lt_log2_self (n := q))
  rw [← e] at d
  have d1 := dg_uq d.1 d.2 (Nat.log2_self_le hp0) (Nat.lt_log2_self (n := p))
  have lp := log2_lt13 hp
  refine ⟨hn, d1, Nat.lt_of_lt_of_le (Nat.lt_log2_self (n := qtF p q)) (pow_le (j := 13) (by omega)), ⟨q, by rw [cl_comm]; exact e⟩⟩
/-- the least factor -/
def lfF (p : Nat) : Nat := fnd (fun q => rem13 p q == 0) 8192 2
theorem rem_self {p : Nat} (h2 : 2 ≤ p) (hp : p < 8192) : rem13 p p = 0 := (rem13_dvd hp (by omega) hp).mpr (pdvd_rf p)
theorem lfF_eq {p q : Nat} (h2 : 2 ≤ q) (hq : q < 8192) (h : rem13 p q = 0) (hs : ∀ r, 2 ≤ r → r < q → rem13 p r ≠ 0) : lfF p = q :=
  fnd_uq (p := fun q => rem13 p q == 0) h2 (by omega) (beq_iff_eq.mpr h) (fun l h1 h3 => beq_eq_false_iff_ne.mpr (hs l h1 h3))
theorem lf_irr {p q : Nat} (h0 : p ≠ 0) (hp : p < 8192) (h2 : 2 ≤ q) (hq : q < 8192) (h : rem13 p q = 0) (hs : ∀ r, 2 ≤ r → r < q → rem13 p r ≠ 0) : irr q := by
  obtain ⟨r, r1, r2, r3, r4⟩ := least_dv h0 h2 ((rem13_dvd hp (by omega) hq).mp h)
  rcases Nat.eq_or_lt_of_le r2 with w | w
  · rw [← w]
    exact r4
  · exact absurd ((rem13_dvd hp (by omega) (by omega)).mpr r3) (hs r r1 w)
theorem qt_small {p q : Nat} (h0 : p ≠ 0) (hp : p < 8192) (h2 : 2 ≤ q) (hq : q < 8192) (h : rem13 p q = 0) (hs : ∀ r, 2 ≤ r → r < q → rem13 p r ≠ 0) : ∀ r, 2 ≤ r → r < q → rem13 (qtF p q) r ≠ 0 := by
  intro r r1 r2 z
  obtain ⟨a, b, c, d⟩ := qtF_deg h0 hp (by omega) hq h
  exact hs r r1 r2 ((rem13_dvd hp (by omega) (by omega)).mpr (pdvd_tr ((rem13_dvd c (by omega) (by omega)).mp z) d))
/-- the factors in turn -/
def fcG : Nat → Nat → Nat → Int32 → Int32
  | 0, _, n, i => if i = -1 then nI n else -1
  | f + 1, r, n, i => if r < 2 then (if i = -1 then nI n else -1) else if nI n = i then nI (lfF r) else fcG f (qtF r (lfF r)) (n + 1) i
theorem qt_self {p : Nat} (h2 : 2 ≤ p) (hp : p < 8192) : qtF p p = 1 := by
  have e := qtF_ok hp (by omega) hp (rem_self h2 hp)
  exact (cl_cancel (c := p) (by omega) (by rw [cl_1l]; exact e)).symm
/-- what has no small factor is not split -/
theorem lf_self {p q : Nat} (h2 : 2 ≤ p) (hp : p < 8192) (hq : 2 ≤ q) (hs : ∀ r, 2 ≤ r → r < q → rem13 p r ≠ 0) (hd : p.log2 < 2 * q.log2) : lfF p = p := by
  refine lfF_eq h2 hp (rem_self h2 hp) (fun r r1 r2 z => ?_)
  have hr : r < 8192 := by omega
  obtain ⟨a, b, c, d⟩ := qtF_deg (by omega) hp (show r ≠ 0 by omega) hr z
  have e := qtF_ok hp (by omega) hr z
  have rq : q ≤ r := Nat.le_of_not_lt (fun y => hs r r1 y z)
  have lr : q.log2 ≤ r.log2 := by
    rcases Nat.lt_or_ge r.log2 q.log2 with y | y
    · have h1 := Nat.lt_log2_self (n := r)
      have h3 := Nat.log2_self_le (n := q) (by omega)
      have := pow_le (show r.log2 + 1 ≤ q.log2 from y)
      omega
    · exact y
  have c2 : 2 ≤ qtF p r := by
    rcases Nat.lt_or_ge (qtF p r) 2 with y | y
    · have : qtF p r = 1 := by omega
      rw [this, cl_1l] at e
      omega
    · exact y
  have cq : qtF p r < q := by
    have h1 := Nat.lt_log2_self (n := qtF p r)
    have h3 := Nat.log2_self_le (n := q) (by omega)
    have := pow_le (show (qtF p r).log2 + 1 ≤ q.log2 by omega)
    omega
  exact hs _ c2 cq ((rem13_dvd hp (by omega) c).mpr d)
theorem l_Poly_fac {P : PSem} (S : SysOK P) {h : PH} {i : Int32} {K : PK} : ∀ f t r n, r.log2 < f → 2 ≤ r → r < 8192 → ∀ q, q + t = 128 → 2 ≤ q → n + r.log2 ≤ 12 → (∀ s, 2 ≤ s → s < q → rem13 r s ≠ 0) → K (.int (fcG (f + 1) r n i)) h →
    P.2 n_Poly_factorAt 8 [none, some (.int i), some (.int (nI r)), some (.int (nI n)), some (.int (nI q)), some (.int (nI (q - 2 + n)))] [] h 0 0 K := by
  -- the end of the search
  have fin : ∀ f r n, 2 ≤ r → r < 8192 → n ≤ 12 → lfF r = r → K (.int (fcG (f + 2) r n i)) h → ∀ z1 z2, P.2 n_Poly_factorAt 36 [none, some (.int i), some (.int (nI r)), some (.int (nI n)), z1, z2] [] h 0 0 K := by
    intro f r n r2 r8 n12 hl hK z1 z2
    unfold fcG at hK
    rw [if_neg (by omega), hl, qt_self r2 r8] at hK
    refine S.at 60 [] rfl ?_
    conv => whnf
    refine ⟨fun c => ?_, fun c => ?_⟩
    · conv => whnf
      refine ⟨fun c2 => ?_, fun c2 => ?_⟩
      · rw [if_neg c2] at hK
        unfold fcG at hK
        rw [if_pos (by decide), if_neg c] at hK
        conv => whnf
        exact hK
      · rw [if_pos c2] at hK
        conv => whnf
        exact hK
    · rw [if_neg (fun e => by rw [c] at e; exact nI_ne_m1 (by omega) e)] at hK
      unfold fcG at hK
      rw [if_pos (by decide), if_pos c, ← nI_1] at hK
      conv => whnf
      exact hK
  intro f
  induction f with
  | zero => intro t r n hf; omega
  | succ f ihf =>
    intro t
    induction t with
    | zero =>
      intro r n hf r2 r8 q hq q2 hn hs hK
      have lr := log2_lt13 r8
      have e : q = 128 := by omega
      subst e
      refine S.at 60 [36] rfl ?_
      conv => whnf
      refine bk_f (fun c => absurd ((zn_lt (a := 8191) (by omega) (by omega)).mp c) (by omega)) ?_
      conv => whnf
      refine c_Poly_degreeOf (p := 128) S (by decide) (by decide) ?_
      conv => whnf
      refine c_Poly_degreeOf S (by omega) r8 ?_
      conv => whnf
      have e2 : (fun x y : Int32 => x * y) 2 (nI (Nat.log2 128)) = nI 14 := by decide +kernel
      rw [e2]
      refine bk_t ((zn_lt (by omega) (by omega)).mpr (by omega)) ?_
      conv => whnf
      exact fin f r n r2 r8 (by omega) (lf_self r2 r8 (q := 128) (by decide) hs (by
        have : Nat.log2 128 = 7 := by decide +kernel
        omega)) hK _ _
    | succ t iht =>
      intro r n hf r2 r8 q hq q2 hn hs hK
      have lr := log2_lt13 r8
      have lq := log2_lt13 (show q < 8192 by omega)
      refine S.at 60 [34, 36] rfl ?_
      conv => whnf
      refine bk_f (fun c => absurd ((zn_lt (a := 8191) (by omega) (by omega)).mp c) (by omega)) ?_
      conv => whnf
      refine c_Poly_degreeOf S (show q ≠ 0 by omega) (by omega) ?_
      conv => whnf
      refine c_Poly_degreeOf S (by omega) r8 ?_
      conv => whnf
      have e2 : (fun x y : Int32 => x * y) 2 (nI q.log2) = nI (2 * q.log2) := pk_mul 2 q.log2
      rw [e2]
      refine bk_lt (by omega) (by omega) (fun c => ?_) (fun c => ?_)
      · conv => whnf
        exact fin f r n r2 r8 (by omega) (lf_self r2 r8 q2 hs c) hK _ _
      · conv => whnf
        refine c_Poly_remainder S r8 (by omega) (by omega) ?_
        conv => whnf
        have hr := rem13_lt r8 (show q ≠ 0 by omega) (by omega)
        refine bk_eq (b := 0) (by omega) (by decide) (fun c2 => ?_) (fun c2 => ?_)
        · have hl : lfF r = q := lfF_eq q2 (by omega) c2 hs
          unfold fcG at hK
          rw [if_neg (by omega), hl] at hK
          conv => whnf
          refine ⟨fun c3 => ?_, fun c3 => ?_⟩
          · rw [if_neg c3] at hK
            obtain ⟨d1, d2, d3, d4⟩ := qtF_deg (by omega) r8 (show q ≠ 0 by omega) (by omega) c2
            have lq1 : 1 ≤ q.log2 := (pMDg q2 (by omega)).1.1
            have hq2 : 2 ≤ qtF r q := by
              rcases Nat.lt_or_ge (qtF r q) 2 with y | y
              · have : qtF r q = 1 := by omega
                rw [this] at d2
                have : Nat.log2 1 = 0 := by decide +kernel
                omega
              · exact y
            conv => whnf
            refine c_Poly_quotient S r8 (by omega) (by omega) ?_
            conv => whnf
            have next := ihf (t + 1) (qtF r q) (n + 1) (by omega) hq2 d3 q hq q2 (by omega) (qt_small (by omega) r8 q2 (by omega) c2 hs) hK
            rw [show q - 2 + (n + 1) = q - 2 + n + 1 by omega, ← nI_1 (q - 2 + n), ← nI_1 n] at next
            refine S.at 10 [] rfl ?_
            conv => whnf
            exact next
          · rw [if_pos c3] at hK
            conv => whnf
            exact hK
        · conv => whnf
          have next := iht r n hf r2 r8 (q + 1) (by omega) (by omega) hn (fun s s1 s2 => by
            rcases Nat.eq_or_lt_of_le (Nat.le_of_lt_succ s2) with w | w
            · subst w
              exact c2
            · exact hs s s1 w) hK
          rw [show q + 1 - 2 + n = q - 2 + n + 1 by omega, ← nI_1 (q - 2 + n), ← nI_1 q] at next
          refine S.at 10 [] rfl ?_
          conv => whnf
          exact next
theorem c_Poly_factorAt {P : PSem} (S : SysOK P) {h : PH} {p : Nat} {i : Int32} (h2 : 2 ≤ p) (hp : p < 8192) {K : PK} (hK : K (.int (fcG 14 p 0 i)) h) : P.1 n_Poly_factorAt [.int (nI p), .int i] h K := by
  have l := log2_lt13 hp
  refine S.2.1 _ 6 _ _ _ rfl rfl ?_
  refine S.at 8 [] rfl ?_
  conv => whnf
  refine S.mk [(0,0),(0,1),(0,1),(0,1),(0,1),(0,1)] ?_
  exact l_Poly_fac S 13 126 p 0 (by omega) h2 hp 2 rfl (Nat.le_refl 2) (by omega) (fun s s1 s2 => by omega) hK
def sFactor (p i : Int32) : Int32 := if hdg p then (if (-1 : Int32) ≤ i then fcG 14 p.toNatClampNeg 0 i else -1) else -1
theorem c_FT_factor {P : PSem} (S : SysOK P) {h : PH} (p i : Int32) {K : PK} (hK : K (.int (sFactor p i)) h) : P.1 n_FT_factor [.ref 5, .int p, .int i] h K := by
  unfold sFactor at hK
  refine S.go 60 rfl rfl rfl ?_
  conv => whnf
  refine c_FT_hasDegree S p ?_
  conv => whnf
  refine bk_b0 (fun c => ?_) (fun c => ?_)
  · rw [show hdg p = false from c] at hK
    conv => whnf
    exact hK
  · rw [show hdg p = true from c, if_pos rfl] at hK
    obtain ⟨q, rfl, q1, q2⟩ := hdg_nat c
    rw [nI_clamp (by omega)] at hK
    conv => whnf
    refine ⟨fun c2 => ?_, fun c2 => ?_⟩
    · rw [if_pos c2] at hK
      conv => whnf
      refine c_Poly_factorAt S q1 q2 ?_
      conv => whnf
      exact hK
    · rw [if_neg c2] at hK
      conv => whnf
      exact hK
/-! the reference: all numbers in turn -/
theorem l_M_fac {P : PSem} (S : SysOK P) {h : PH} (hw : WS h) (hsp : SPL h) {i : Int32} {K : PK} : ∀ t f r n, r.log2 < f → 1 ≤ r → r < 8192 → ∀ q, q + t = 8192 → 2 ≤ q → n + r.log2 ≤ 12 → (2 ≤ r → ∀ s, 2 ≤ s → s < q → rem13 r s ≠ 0) → K (.int (fcG f r n i)) h →
    P.2 n_M_factor 16 [some (.ref 116), none, some (.int i), some (.int (nI r)), some (.int (nI n)), some (.int (nI q))] [] h 0 0 K ∧ P.2 n_M_factor 13 [some (.ref 116), none, some (.int i), some (.int (nI r)), some (.int (nI n)), some (.int (nI q))] [] h 0 0 K := by
  have fin : ∀ f n q, 1 ≤ f → n ≤ 12 → 2 ≤ q → q ≤ 8192 → K (.int (fcG f 1 n i)) h → P.2 n_M_factor 13 [some (.ref 116), none, some (.int i), some (.int (nI 1)), some (.int (nI n)), some (.int (nI q))] [] h 0 0 K := by
    intro f n q f1 n12 q2 q8 hK
    obtain ⟨f', rfl⟩ : ∃ f', f = f' + 1 := ⟨f - 1, by omega⟩
    unfold fcG at hK
    rw [if_pos (by decide)] at hK
    refine S.at 60 [] rfl ?_
    conv => whnf
    refine bk_t ((zn_lt (by omega) (by omega)).mpr (by omega)) ?_
    conv => whnf
    refine ⟨fun c => ?_, fun c => ?_⟩
    · rw [if_neg c] at hK
      conv => whnf
      exact hK
    · rw [if_pos c] at hK
      conv => whnf
      exact hK
  intro t
  induction t with
  | zero =>
    intro f r n hf r1 r8 q hq q2 hn hs hK
    have e : q = 8192 := by omega
    subst e
    have hr1 : r = 1 := by
      rcases Nat.lt_or_ge r 2 with w | w
      · omega
      · exact absurd (rem_self w r8) (hs w r w (by omega))
    subst hr1
    have e13 := fin f n 8192 (by omega) (by omega) (by decide) (by decide) hK
    refine ⟨?_, e13⟩
    obtain ⟨f', rfl⟩ : ∃ f', f = f' + 1 := ⟨f - 1, by omega⟩
    unfold fcG at hK
    rw [if_pos (by decide)] at hK
    refine S.at 60 [13] rfl ?_
    conv => whnf
    refine bk_t ((zn_le (b := 1) (by omega) (by omega)).mpr (by omega)) ?_
    conv => whnf
    refine S.at 60 [] rfl ?_
    conv => whnf
    refine bk_t (by decide +kernel) ?_
    conv => whnf
    refine ⟨fun c => ?_, fun c => ?_⟩
    · rw [if_neg c] at hK
      conv => whnf
      exact hK
    · rw [if_pos c] at hK
      conv => whnf
      exact hK
  | succ t iht =>
    intro f
    induction f with
    | zero => intro r n hf; omega
    | succ f ihf =>
      intro r n hf r1 r8 q hq q2 hn hs hK
      have lr := log2_lt13 r8
      have e16 : P.2 n_M_factor 16 [some (.ref 116), none, some (.int i), some (.int (nI r)), some (.int (nI n)), some (.int (nI q))] [] h 0 0 K := by
        have n43 : (2 ≤ r → rem13 r q ≠ 0) → P.2 n_M_factor 43 [some (.ref 116), none, some (.int i), some (.int (nI r)), some (.int (nI n)), some (.int (nI q))] [] h 0 0 K := by
          intro hz
          have next := (iht (f + 1) r n hf r1 r8 (q + 1) (by omega) (by omega) hn (fun w s s1 s2 => by
            rcases Nat.eq_or_lt_of_le (Nat.le_of_lt_succ s2) with y | y
            · subst y
              exact hz w
            · exact hs w s s1 y) hK).2
          rw [← nI_1 q] at next
          refine S.at 10 [] rfl ?_
          conv => whnf
          exact next
        refine S.at 60 [43] rfl ?_
        conv => whnf
        refine bk_le (b := 1) (by omega) (by decide) (fun c => ?_) (fun c => ?_)
        · conv => whnf
          exact n43 (fun w => by omega)
        · conv => whnf
          refine ⟨wt_116 hw, ?_⟩
          conv => whnf
          refine c_M_isWhole S hw hsp _ ?_
          conv => whnf
          have ew : (decide ((2 : Int32) ≤ nI q ∧ nI q ≤ 8191) && irrT.testBit (nI q).toNatClampNeg) = irrT.testBit q := by
            rw [nI_clamp (by omega), decide_eq_true ⟨(zn_le (a := 2) (by decide) (by omega)).mpr q2, (zn_le (b := 8191) (by omega) (by decide)).mpr (by omega)⟩, Bool.true_and]
          rw [ew]
          refine bk_b0 (fun c2 => ?_) (fun c2 => ?_)
          · conv => whnf
            refine n43 (fun w z => ?_)
            have := irr_T q2 (by omega) (lf_irr (by omega) r8 q2 (by omega) z (hs w))
            rw [c2] at this
            cases this
          · conv => whnf
            have lq := log2_lt13 (show q < 8192 by omega)
            refine c_M_degreeL S (by omega) ?_
            conv => whnf
            refine c_M_degreeL S (by omega) ?_
            conv => whnf
            refine bk_lt (by omega) (by omega) (fun c3 => ?_) (fun c3 => ?_)
            · conv => whnf
              refine n43 (fun w z => ?_)
              have := (qtF_deg (by omega) r8 (show q ≠ 0 by omega) (by omega) z).2.1
              omega
            · conv => whnf
              refine c_M_rest S r8 (by omega) (by omega) ?_
              conv => whnf
              have hr := rem13_lt r8 (show q ≠ 0 by omega) (by omega)
              refine bk_ne (b := 0) (by omega) (by decide) (fun c4 => ?_) (fun c4 => ?_)
              · conv => whnf
                exact n43 (fun _ => c4)
              · have w : 2 ≤ r := c
                have hl : lfF r = q := lfF_eq q2 (by omega) c4 (hs w)
                unfold fcG at hK
                rw [if_neg (by omega), hl] at hK
                conv => whnf
                refine ⟨fun c5 => ?_, fun c5 => ?_⟩
                · rw [if_neg c5] at hK
                  obtain ⟨d1, d2, d3, d4⟩ := qtF_deg (by omega) r8 (show q ≠ 0 by omega) (by omega) c4
                  have lq1 : 1 ≤ q.log2 := (pMDg q2 (by omega)).1.1
                  conv => whnf
                  refine c_M_quotient S r8 (by omega) (by omega) ?_
                  conv => whnf
                  have next := (ihf (qtF r q) (n + 1) (by omega) (by omega) d3 q hq q2 (by omega) (fun _ => qt_small (by omega) r8 q2 (by omega) c4 (hs w)) hK).1
                  rw [← nI_1 n] at next
                  exact next
                · rw [if_pos c5] at hK
                  conv => whnf
                  exact hK
      refine ⟨e16, ?_⟩
      rcases Nat.lt_or_ge r q with y | y
      · have hr1 : r = 1 := by
          rcases Nat.lt_or_ge r 2 with w | w
          · omega
          · exact absurd (rem_self w r8) (hs w r w y)
        subst hr1
        exact fin (f + 1) n q (by omega) (by omega) q2 (by omega) hK
      · refine S.at 60 [16] rfl ?_
        conv => whnf
        refine bk_f (fun c => absurd ((zn_lt (by omega) (by omega)).mp c) (by omega)) ?_
        conv => whnf
        exact e16
theorem fcG_neg {i : Int32} (h : ¬ (-1 : Int32) ≤ i) : ∀ f r n, n + f < 2 ^ 31 → fcG f r n i = -1 := by
  have hne : i ≠ -1 := fun e => h (by rw [e]; decide)
  intro f
  induction f with
  | zero => intro r n _; unfold fcG; rw [if_neg hne]
  | succ f ih =>
    intro r n hn
    unfold fcG
    by_cases c : r < 2
    · rw [if_pos c, if_neg hne]
    · rw [if_neg c, if_neg (fun e => h (by
        rw [← e]
        exact Int32.le_trans (by decide) (nI_pos' (by omega))))]
      exact ih _ (n + 1) (by omega)
theorem c_M_factor {P : PSem} (S : SysOK P) {h : PH} {u : Nat → Nat} (hM : MJ h u) (p i : Int32) {K : PK} (hK : K (.int (sFactor p i)) h) : P.1 n_M_factor [.ref 116, .int p, .int i] h K := by
  unfold sFactor at hK
  refine S.2.1 _ 6 _ _ _ rfl rfl ?_
  refine S.at 60 [13] rfl ?_
  conv => whnf
  refine c_M_in S _ _ _ ?_
  conv => whnf
  refine bk_b1 (fun c => ?_) (fun c => ?_)
  · rw [show hdg p = true from c, if_pos rfl] at hK
    obtain ⟨q, rfl, q1, q2⟩ := hdg_nat c
    rw [nI_clamp (by omega)] at hK
    have l := log2_lt13 q2
    have hK2 : K (.int (fcG 14 q 0 i)) h := by
      by_cases c2 : (-1 : Int32) ≤ i
      · rw [if_pos c2] at hK
        exact hK
      · rw [if_neg c2] at hK
        rw [fcG_neg c2 14 q 0 (by decide)]
        exact hK
    conv => whnf
    refine S.mk [(0,1),(0,0),(0,1),(0,1),(0,1),(0,1)] ?_
    exact (l_M_fac S hM.1 hM.2.2.1 8190 14 q 0 (by omega) (by omega) q2 2 rfl (Nat.le_refl 2) (by omega) (fun _ s s1 s2 => by omega) hK2).2
  · rw [show hdg p = false from c] at hK
    conv => whnf
    exact hK
