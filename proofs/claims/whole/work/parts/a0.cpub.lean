/-! THE CLASS'S QUESTIONS, and what both sides answer -/
theorem okE_nat {n v : Int32} (h : okE n v = true) : ∃ k a : Nat, 1 ≤ k ∧ k ≤ 12 ∧ n = nI k ∧ v = nI a ∧ a < 2 ^ k := by
  unfold okE at h
  rw [Bool.and_eq_true] at h
  obtain ⟨k, k1, k2, rfl⟩ := okF_nat h.1
  have h2 := of_decide_eq_true h.2
  rw [nI_clamp (by omega)] at h2
  have hk := pow12 k2
  rcases pk_ix v (n := 2 ^ k) (by omega) with w | w | ⟨j, hj, w⟩
  · exact absurd (Int32.lt_of_le_of_lt h2.1 w) (by decide)
  · exact absurd (Int32.lt_of_le_of_lt w h2.2) (Int32.lt_irrefl)
  · exact ⟨k, j, k1, k2, rfl, w, hj⟩
theorem okF_of {k : Nat} (k1 : 1 ≤ k) (k2 : k ≤ 12) : okF (nI k) = true := by
  unfold okF
  rw [decide_eq_true_eq]
  exact ⟨(zn_le (a := 1) (by decide) (by omega)).mpr k1, (zn_le (b := 12) (by omega) (by decide)).mpr k2⟩
theorem okE_of {k a : Nat} (k1 : 1 ≤ k) (k2 : k ≤ 12) (ha : a < 2 ^ k) : okE (nI k) (nI a) = true := by
  have hk := pow12 k2
  unfold okE
  rw [okF_of k1 k2, Bool.true_and, nI_clamp (by omega), decide_eq_true_eq]
  exact ⟨nI_pos' (by omega), (zn_lt (by omega) (by omega)).mpr ha⟩
def hdg (p : Int32) : Bool := decide ((2 : Int32) ≤ p ∧ p ≤ 8191)
theorem hdg_nat {p : Int32} (h : hdg p = true) : ∃ q : Nat, p = nI q ∧ 2 ≤ q ∧ q < 8192 := by
  have c := of_decide_eq_true h
  rcases pk_ix p (n := 8192) (by decide) with w | w | ⟨j, hj, w⟩
  · exact absurd (Int32.lt_of_le_of_lt c.1 w) (by decide)
  · exact absurd (Int32.le_trans w c.2) (by decide)
  · subst w
    exact ⟨j, rfl, (zn_le (a := 2) (by decide) (by omega)).mp c.1, hj⟩
def sMod (u : Nat → Nat) (n : Int32) : Int32 := if okF n then nI (u n.toNatClampNeg) else -1
theorem c_FT_modulus {P : PSem} (S : SysOK P) {h : PH} {u : Nat → Nat} (hw : WS h) (hF : CF h u) (n : Int32) {K : PK} (hK : K (.int (sMod u n)) h) : P.1 n_FT_modulus [.ref 5, .int n] h K := by
  unfold sMod at hK
  refine S.go 60 rfl rfl rfl ?_
  conv => whnf
  refine c_FT_isField S _ ?_
  conv => whnf
  refine bk_b0 (fun c => ?_) (fun c => ?_)
  · conv => whnf
    rw [c] at hK
    exact hK
  · rw [c, if_pos rfl] at hK
    obtain ⟨k, k1, k2, rfl⟩ := okF_nat c
    rw [nI_clamp (by omega)] at hK
    conv => whnf
    refine ⟨wt_5 hw, ?_⟩
    conv => whnf
    try rw [wr_5_1 hw]
    refine ⟨wt_8 hw, ?_⟩
    conv => whnf
    try rw [wr_8_0 hw]
    refine ⟨Or.inl (wi_in9 hw k1 k2), ?_⟩
    conv => whnf
    rw [nI_clamp (show k < 2 ^ 31 by omega), wi_fld hw k1 k2]
    conv => whnf
    refine ⟨(hF k k1 k2).1, ?_⟩
    conv => whnf
    rw [(hF k k1 k2).2.2.2]
    exact hK
theorem isIrr_T {p : Nat} (h2 : 2 ≤ p) (hp : p < 8192) : isIrrB p = irrT.testBit p := by
  rw [Bool.eq_iff_iff, isIrrB_iff h2 hp]
  exact lm_irr_iff h2 hp
def sWhole (p : Int32) : Int32 := if hdg p then bI (irrT.testBit p.toNatClampNeg) else -1
theorem c_FT_whole {P : PSem} (S : SysOK P) {h : PH} (p : Int32) {K : PK} (hK : K (.int (sWhole p)) h) : P.1 n_FT_whole [.ref 5, .int p] h K := by
  unfold sWhole at hK
  refine S.go 60 rfl rfl rfl ?_
  conv => whnf
  refine c_FT_hasDegree S p ?_
  conv => whnf
  refine bk_b1 (fun c => ?_) (fun c => ?_)
  · rw [show hdg p = true from c, if_pos rfl] at hK
    obtain ⟨q, rfl, q1, q2⟩ := hdg_nat c
    rw [nI_clamp (by omega), ← isIrr_T q1 q2] at hK
    conv => whnf
    refine c_Poly_isWhole S (by omega) q2 ?_
    conv => whnf
    refine bk_b0 (fun c => ?_) (fun c => ?_)
    · conv => whnf
      rw [c] at hK
      exact hK
    · conv => whnf
      rw [c] at hK
      exact hK
  · rw [show hdg p = false from c] at hK
    conv => whnf
    exact hK
def nxF (p : Nat) : Nat := fnd (fun q => irrT.testBit q) (8191 - p) (p + 1)
def nxI (q : Nat) : Int32 := if q < 8192 then nI q else -1
def sNext (p : Int32) : Int32 := if (0 : Int32) ≤ p ∧ p < 8191 then nxI (nxF p.toNatClampNeg) else -1
theorem l_FT_next {P : PSem} (S : SysOK P) {h : PH} {K : PK} : ∀ j q, q + j = 8192 → 2 ≤ q → K (.int (nxI (fnd (fun q => irrT.testBit q) j q))) h →
    P.2 n_FT_next 13 [none, none, some (.int (nI q))] [] h 0 0 K := by
  intro j
  induction j with
  | zero =>
    intro q hq hq2 hK
    refine S.at 60 [] rfl ?_
    conv => whnf
    refine bk_t ((zn_lt (a := 8191) (by omega) (by omega)).mpr (by omega)) ?_
    conv => whnf
    have e : q = 8192 := by omega
    subst e
    exact hK
  | succ j ih =>
    intro q hq hq2 hK
    refine S.at 60 [] rfl ?_
    conv => whnf
    refine bk_f (fun c => absurd ((zn_lt (a := 8191) (by omega) (by omega)).mp c) (by omega)) ?_
    conv => whnf
    refine c_Poly_isWhole S (by omega) (by omega) ?_
    conv => whnf
    rw [isIrr_T hq2 (by omega)]
    refine bk_b0 (fun c => ?_) (fun c => ?_)
    · rw [fnd_s0 (p := fun q => irrT.testBit q) (i := q) c] at hK
      conv => whnf
      have next := ih (q + 1) (by omega) (by omega) hK
      rw [← nI_1] at next
      exact next
    · rw [fnd_s1 (p := fun q => irrT.testBit q) (i := q) c] at hK
      conv => whnf
      unfold nxI at hK
      rw [if_pos (by omega)] at hK
      exact hK
theorem nx_2 {p : Nat} (hp : p < 8191) : nxF p = fnd (fun q => irrT.testBit q) (8192 - max 2 (p + 1)) (max 2 (p + 1)) := by
  rcases Nat.lt_or_ge p 1 with w | w
  · have : p = 0 := by omega
    subst this
    show fnd (fun q => irrT.testBit q) 8191 1 = fnd (fun q => irrT.testBit q) 8190 2
    exact fnd_s0 (p := fun q => irrT.testBit q) (i := 1) (j := 8190) (by decide +kernel)
  · rw [Nat.max_eq_right (by omega)]
    unfold nxF
    congr 1
    omega
theorem c_FT_next {P : PSem} (S : SysOK P) {h : PH} (p : Int32) {K : PK} (hK : K (.int (sNext p)) h) : P.1 n_FT_next [.ref 5, .int p] h K := by
  unfold sNext at hK
  refine S.2.1 _ 3 _ _ _ rfl rfl ?_
  refine S.at 60 [13] rfl ?_
  conv => whnf
  refine ⟨fun c => ?_, fun c => ?_⟩
  · rw [if_neg (fun q => absurd c (Int32.not_lt.mpr q.1))] at hK
    conv => whnf
    exact hK
  · conv => whnf
    refine ⟨fun c2 => ?_, fun c2 => ?_⟩
    · rw [if_pos ⟨Int32.not_lt.mp c, c2⟩] at hK
      obtain ⟨q, rfl, hq⟩ : ∃ q : Nat, p = nI q ∧ q < 8191 := by
        rcases pk_ix p (n := 8191) (by decide) with w | w | ⟨j, hj, w⟩
        · exact absurd w c
        · exact absurd (Int32.lt_of_le_of_lt w c2) (Int32.lt_irrefl)
        · exact ⟨j, w, hj⟩
      rw [nI_clamp (by omega), nx_2 hq] at hK
      conv => whnf
      refine p1c (congrArg (fun z => [Value.int 2, Value.int z]) (nI_1 q)) ?_
      refine c_Math_max (a := 2) S (by decide) (by omega) ?_
      conv => whnf
      refine S.mk [(0,0),(0,0),(0,1)] ?_
      exact l_FT_next S (8192 - max 2 (q + 1)) (max 2 (q + 1)) (by omega) (by omega) hK
    · rw [if_neg (fun q => c2 q.2)] at hK
      conv => whnf
      exact hK
def whL : List Nat := [0, 2, 1, 2, 3, 6, 9, 18, 30, 56, 99, 186, 335]
def sWholes (n : Int32) : Int32 := if okF n then nI (whL.getD n.toNatClampNeg 0) else -1
theorem c_FT_wholes {P : PSem} (S : SysOK P) {h : PH} (hw : WS h) (h3 : ∀ n, n ≤ 12 → hI h 3 n = nI (whL.getD n 0)) (n : Int32) {K : PK} (hK : K (.int (sWholes n)) h) : P.1 n_FT_wholes [.ref 5, .int n] h K := by
  unfold sWholes at hK
  refine S.go 60 rfl rfl rfl ?_
  conv => whnf
  refine c_FT_isField S _ ?_
  conv => whnf
  refine bk_b0 (fun c => ?_) (fun c => ?_)
  · conv => whnf
    rw [c] at hK
    exact hK
  · rw [c, if_pos rfl] at hK
    obtain ⟨k, k1, k2, rfl⟩ := okF_nat c
    rw [nI_clamp (by omega), ← h3 k k2] at hK
    conv => whnf
    refine ⟨inB_of (wt_3 hw) (wn_3 hw) (by omega) (by decide), ?_⟩
    conv => whnf
    rw [nI_clamp (by omega)]
    exact hK
def sValue (u : Nat → Nat) (n p a : Int32) : Int32 := if okE n a && decide ((0 : Int32) ≤ p ∧ p ≤ 8191) then nI (pvl n.toNatClampNeg (u n.toNatClampNeg) a.toNatClampNeg p.toNatClampNeg) else -1
theorem c_FT_value {P : PSem} (S : SysOK P) {h : PH} {u : Nat → Nat} (hw : WS h) (hF : CF h u) (hu : MDS u) (n p a : Int32) {K : PK} (hK : K (.int (sValue u n p a)) h) : P.1 n_FT_value [.ref 5, .int n, .int p, .int a] h K := by
  unfold sValue at hK
  refine S.go 60 rfl rfl rfl ?_
  conv => whnf
  refine c_FT_isElement S n a ?_
  conv => whnf
  refine bk_b0 (fun c => ?_) (fun c => ?_)
  · rw [c, Bool.false_and] at hK
    conv => whnf
    exact hK
  · rw [c, Bool.true_and] at hK
    conv => whnf
    refine ⟨fun c1 => ?_, fun c1 => ?_⟩
    · rw [decide_eq_false (fun q => absurd c1 (Int32.not_lt.mpr q.1))] at hK
      conv => whnf
      exact hK
    · conv => whnf
      refine ⟨fun c2 => ?_, fun c2 => ?_⟩
      · rw [decide_eq_true ⟨Int32.not_lt.mp c1, c2⟩, if_pos rfl] at hK
        obtain ⟨k, x, k1, k2, rfl, rfl, hx⟩ := okE_nat c
        obtain ⟨q, rfl, hq⟩ : ∃ q : Nat, p = nI q ∧ q < 8192 := by
          rcases pk_ix p (n := 8192) (by decide) with w | w | ⟨j, hj, w⟩
          · exact absurd w c1
          · exact absurd (Int32.le_trans w c2) (by decide)
          · exact ⟨j, w, hj⟩
        have hk := pow12 k2
        rw [nI_clamp (by omega), nI_clamp (by omega), nI_clamp (by omega)] at hK
        conv => whnf
        refine ⟨wt_5 hw, ?_⟩
        conv => whnf
        try rw [wr_5_1 hw]
        refine ⟨wt_8 hw, ?_⟩
        conv => whnf
        try rw [wr_8_0 hw]
        refine ⟨Or.inl (wi_in9 hw k1 k2), ?_⟩
        conv => whnf
        rw [nI_clamp (show k < 2 ^ 31 by omega), wi_fld hw k1 k2]
        conv => whnf
        refine ⟨(hF k k1 k2).1, ?_⟩
        conv => whnf
        refine c_Field_valueAt S (hF k k1 k2) k2 (hu k k1 k2).1 hx hq ?_
        conv => whnf
        exact hK
      · rw [decide_eq_false (fun q => c2 q.2)] at hK
        conv => whnf
        exact hK
def sBoth (u : Nat → Nat) (n a b w : Int32) : Int32 := if okE n a && okE n b then (if w = 0 then a ^^^ b else if w = 1 then nI (fm n.toNatClampNeg (u n.toNatClampNeg) a.toNatClampNeg b.toNatClampNeg) else if w = 2 then (if b = 0 then -2 else nI (fm n.toNatClampNeg (u n.toNatClampNeg) a.toNatClampNeg (fpw n.toNatClampNeg (u n.toNatClampNeg) b.toNatClampNeg (2 ^ n.toNatClampNeg - 2)))) else -1) else -1
theorem c_FT_both {P : PSem} (S : SysOK P) {h : PH} {u : Nat → Nat} (hw : WS h) (hF : CF h u) (hu : MDS u) (n a b w : Int32) {K : PK} (hK : K (.int (sBoth u n a b w)) h) : P.1 n_FT_both [.ref 5, .int n, .int a, .int b, .int w] h K := by
  unfold sBoth at hK
  refine S.go 60 rfl rfl rfl ?_
  conv => whnf
  refine c_FT_isElement S n a ?_
  conv => whnf
  refine bk_b0 (fun c => ?_) (fun c => ?_)
  · rw [c, Bool.false_and] at hK
    conv => whnf
    exact hK
  · rw [c, Bool.true_and] at hK
    conv => whnf
    refine c_FT_isElement S n b ?_
    conv => whnf
    refine bk_b1 (fun c2 => ?_) (fun c2 => ?_)
    · rw [c2, if_pos rfl] at hK
      obtain ⟨k, x, k1, k2, rfl, rfl, hx⟩ := okE_nat c
      obtain ⟨k', y, -, k2', ek, rfl, hy⟩ := okE_nat c2
      have ek := (zn_eq (by omega) (by omega)).mp ek
      subst ek
      have hk := pow12 k2
      have hm := (hu k k1 k2).1
      rw [nI_clamp (show k < 2 ^ 31 by omega), nI_clamp (show x < 2 ^ 31 by omega), nI_clamp (show y < 2 ^ 31 by omega)] at hK
      conv => whnf
      refine ⟨wt_5 hw, ?_⟩
      conv => whnf
      try rw [wr_5_1 hw]
      refine ⟨wt_8 hw, ?_⟩
      conv => whnf
      try rw [wr_8_0 hw]
      refine ⟨Or.inl (wi_in9 hw k1 k2), ?_⟩
      conv => whnf
      rw [nI_clamp (show k < 2 ^ 31 by omega), wi_fld hw k1 k2]
      conv => whnf
      refine ⟨fun e => ?_, fun e0 => ?_⟩
      · rw [if_pos e] at hK
        conv => whnf
        exact hK
      · rw [if_neg e0] at hK
        refine ⟨fun e => ?_, fun e1 => ?_⟩
        · rw [if_pos e] at hK
          conv => whnf
          refine ⟨(hF k k1 k2).1, ?_⟩
          conv => whnf
          refine c_Field_times S (hF k k1 k2) k2 hm hx hy ?_
          conv => whnf
          exact hK
        · rw [if_neg e1] at hK
          refine ⟨fun e => ?_, fun e2 => ?_⟩
          · rw [if_pos e] at hK
            conv => whnf
            refine ⟨fun z => ?_, fun z => ?_⟩
            · rw [if_neg z] at hK
              conv => whnf
              refine ⟨(hF k k1 k2).1, ?_⟩
              conv => whnf
              refine c_Field_inverse S (hF k k1 k2) k2 hm hy ?_
              conv => whnf
              refine ⟨(hF k k1 k2).1, ?_⟩
              conv => whnf
              refine c_Field_times S (hF k k1 k2) k2 hm hx (fpw_lt hm hy _) ?_
              conv => whnf
              exact hK
            · rw [if_pos z] at hK
              conv => whnf
              exact hK
          · rw [if_neg e2] at hK
            conv => whnf
            exact hK
    · rw [c2] at hK
      conv => whnf
      exact hK
