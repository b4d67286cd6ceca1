/-! the reference: normal elements, coordinates, duals -/
def MRH (h : PH) (row made : Nat → Nat) (k : Nat) : Prop := ∀ i, i < k → hI h 145 i = nI (row i) ∧ hI h 146 i = nI (made i)
def mrA (k : Nat) : Prop := k = 145 ∨ k = 146
theorem log2_lt31 {p n : Nat} (hn : n ≤ 12) (h : p < 2 ^ n) : p.log2 < 13 := log2_lt13 (Nat.lt_of_lt_of_le h (Nat.le_trans (pow12 hn) (by decide)))
theorem l_M_nrI {P : PSem} (S : SysOK P) {h : PH} (hw : WS h) {n k : Nat} (hn : n ≤ 12) (hk : k < n) {r row made : Nat → Nat} {w5 : Int32} (hE : ELI row made r n k) (hH : MRH h row made k) {K : PK}
    (hK : ∀ v s, v < 2 ^ n → s < 2 ^ (k + 1) → s.testBit k = true → v = cmb r n s → (∀ i, i < k → v.testBit (row i).log2 = false) → P.2 n_M_isNormal 43 [some (.ref 116), some (.int (nI n)), none, some (.int w5), some (.int (nI k)), some (.int (nI v)), some (.int (nI s)), none] [] h 0 0 K) : ∀ j i v s, i + j = k → v < 2 ^ n → s < 2 ^ (k + 1) → s.testBit k = true → v = cmb r n s → (∀ i', i' < i → v.testBit (row i').log2 = false) →
    P.2 n_M_isNormal 15 [some (.ref 116), some (.int (nI n)), none, some (.int w5), some (.int (nI k)), some (.int (nI v)), some (.int (nI s)), some (.int (nI i))] [] h 0 0 K := by
  have h12 := pow12 hn
  intro j
  induction j with
  | zero =>
    intro i v s hi hv hs hb hc hz
    have e : i = k := by omega
    subst e
    refine S.at 60 [43] rfl ?_
    conv => whnf
    refine bk_t ((zn_le (by omega) (by omega)).mpr (by omega)) ?_
    conv => whnf
    exact S.mk [(0, 1), (0, 1), (0, 0), (0, 1), (0, 1), (0, 1), (0, 1), (0, 0)] (hK v s hv hs hb hc hz)
  | succ j ih =>
    intro i v s hi hv hs hb hc hz
    obtain ⟨e1, e2, e3⟩ := hE
    obtain ⟨r1, r2⟩ := e1 i (by omega)
    obtain ⟨m1, m2⟩ := e2 i (by omega)
    have hl := log2_lt31 hn r2
    refine S.at 60 [43] rfl ?_
    conv => whnf
    refine bk_f (fun c => absurd ((zn_le (by omega) (by omega)).mp c) (by omega)) ?_
    conv => whnf
    refine ⟨wt_116 hw, ?_⟩
    conv => whnf
    rw [wr_116_45 hw]
    refine ⟨inB_of (wt_145 hw) (wn_145 hw) (by omega) (by decide), ?_⟩
    conv => whnf
    rw [nI_clamp (by omega), (hH i (by omega)).1]
    refine c_M_degreeL S (by omega) ?_
    conv => whnf
    refine c_M_has S (by omega) (by omega) ?_
    conv => whnf
    refine bk_b1 (fun c => ?_) (fun c => ?_)
    · conv => whnf
      refine ⟨wt_116 hw, ?_⟩
      conv => whnf
      rw [wr_116_45 hw]
      refine ⟨inB_of (wt_145 hw) (wn_145 hw) (by omega) (by decide), ?_⟩
      conv => whnf
      rw [nI_clamp (by omega), (hH i (by omega)).1]
      refine ⟨wt_116 hw, ?_⟩
      conv => whnf
      rw [wr_116_46 hw]
      refine ⟨inB_of (wt_146 hw) (wn_146 hw) (by omega) (by decide), ?_⟩
      conv => whnf
      rw [nI_clamp (by omega), (hH i (by omega)).2]
      have htop := tb_top (Nat.log2_self_le r1) (Nat.lt_log2_self (n := row i))
      have next := ih (i + 1) (v ^^^ row i) (s ^^^ made i) (by omega) (xor_lt hv r2) (xor_lt hs (Nat.lt_of_lt_of_le m2 (pow_le (by omega)))) (by
        rw [Nat.testBit_xor, hb, tb_lt m2 (by omega)]
        rfl) (by rw [cmb_xor, ← hc, ← m1]) (fun i' hi' => by
        rw [Nat.testBit_xor]
        rcases Nat.eq_or_lt_of_le (Nat.le_of_lt_succ hi') with w | w
        · subst w
          rw [c, htop]
          rfl
        · rw [hz i' w, e3 i' i w (by omega)]
          rfl)
      rw [← nI_1, ← zn_xor, ← zn_xor] at next
      exact next
    · conv => whnf
      have next := ih (i + 1) v s (by omega) hv hs hb hc (fun i' hi' => by
        rcases Nat.eq_or_lt_of_le (Nat.le_of_lt_succ hi') with w | w
        · subst w
          exact c
        · exact hz i' w)
      rw [← nI_1] at next
      exact next
theorem l_M_nrO {P : PSem} (S : SysOK P) {h0 : PH} (hw0 : WS h0) {n m a : Nat} (hn : n ≤ 12) (hm : MDg n m) (hnow0 : hI h0 125 n = nI m) (ha : a < 2 ^ n) {K : PK}
    (hY : ∀ h' row made, eqX mrA h0 h' → ELI row made (cjn n m a) n n → MRH h' row made n → K (.int 1) h') (hN : ∀ h', eqX mrA h0 h' → ¬ nrm n m a → K (.int 0) h') : ∀ j k h row made, k + j = n → eqX mrA h0 h → ELI row made (cjn n m a) n k → MRH h row made k →
    P.2 n_M_isNormal 4 [some (.ref 116), some (.int (nI n)), none, some (.int (nI (cjn n m a k))), some (.int (nI k)), none, none, none] [] h 0 0 K := by
  have h12 := pow12 hn
  intro j
  induction j with
  | zero =>
    intro k h row made hk he hE hH
    have e : k = n := by omega
    subst e
    refine S.at 60 [] rfl ?_
    conv => whnf
    refine bk_t ((zn_le (by omega) (by omega)).mpr (by omega)) ?_
    conv => whnf
    exact ⟨Or.inr rfl, hY h row made he hE hH⟩
  | succ j ih =>
    intro k h row made hk he hE hH
    have hw := eqX_WS he hw0
    have hnow : hI h 125 n = nI m := by rw [he.2.2.2.2 125 (fun q => by unfold mrA at q; omega)]; exact hnow0
    have hc := cjn_lt hm ha k
    refine S.at 60 [15] rfl ?_
    conv => whnf
    refine bk_f (fun c => absurd ((zn_le (by omega) (by omega)).mp c) (by omega)) ?_
    conv => whnf
    rw [shl_one (by omega)]
    refine l_M_nrI S hw hn (by omega) hE hH (fun v s v1 s1 s2 v2 v3 => ?_) k 0 (cjn n m a k) (2 ^ k) (by omega) hc (Nat.pow_lt_pow_right (by decide) (by omega)) (Nat.testBit_two_pow_self) (cmb_2k _ (by omega)).symm (fun i hi => by omega)
    refine S.at 60 [] rfl ?_
    conv => whnf
    refine bk_ne (b := 0) (by omega) (by decide) (fun c => ?_) (fun c => ?_)
    · conv => whnf
      refine ⟨wt_116 hw, ?_⟩
      conv => whnf
      rw [wr_116_45 hw]
      refine ⟨⟨by decide, inB_of (wt_145 hw) (wn_145 hw) (by omega) (by decide)⟩, ?_⟩
      conv => whnf
      rw [nI_clamp (by omega)]
      refine ⟨wt_116 hw, ?_⟩
      conv => whnf
      rw [hR_sI, wr_116_46 hw]
      refine ⟨⟨by decide, inB_of (h := sI h 145 _ _) (wt_146 hw) (wn_146 hw) (by omega) (by decide)⟩, ?_⟩
      conv => whnf
      try rw [nI_clamp (by omega)]
      have he' : eqX mrA h0 (sI (sI h 145 k (nI v)) 146 k (nI s)) := eqX_tr he (eqX_tr (eqX_sI (Or.inl rfl)) (eqX_sI (Or.inr rfl)))
      have hnow' : hI (sI (sI h 145 k (nI v)) 146 k (nI s)) 125 n = nI m := by rw [he'.2.2.2.2 125 (fun q => by unfold mrA at q; omega)]; exact hnow0
      refine ⟨wt_116 hw, ?_⟩
      conv => whnf
      refine c_M_product S (eqX_WS he' hw0) hn hm hnow' hc hc ?_
      conv => whnf
      obtain ⟨e1, e2, e3⟩ := hE
      have next := ih (k + 1) (sI (sI h 145 k (nI v)) 146 k (nI s)) (fun i => if i = k then v else row i) (fun i => if i = k then s else made i) (by omega) he' ⟨fun i hi => ?_, fun i hi => ?_, fun i l hil hl => ?_⟩ (fun i hi => ?_)
      · have e5 : cjn n m a (k + 1) = fm n m (cjn n m a k) (cjn n m a k) := sqn_succ k a
        rw [← nI_1, e5] at next
        exact next
      · show (if i = k then v else row i) ≠ 0 ∧ (if i = k then v else row i) < 2 ^ n
        split
        · exact ⟨c, v1⟩
        · exact e1 i (by omega)
      · show (if i = k then v else row i) = cmb (cjn n m a) n (if i = k then s else made i) ∧ (if i = k then s else made i) < 2 ^ (i + 1)
        by_cases z : i = k
        · subst z
          rw [if_pos rfl, if_pos rfl]
          exact ⟨v2, s1⟩
        · rw [if_neg z, if_neg z]
          exact e2 i (by omega)
      · show (if l = k then v else row l).testBit (if i = k then v else row i).log2 = false
        rw [if_neg (show i ≠ k by omega)]
        by_cases z : l = k
        · subst z
          rw [if_pos rfl]
          exact v3 i hil
        · rw [if_neg z]
          exact e3 i l hil (by omega)
      · show hI (sI (sI h 145 k (nI v)) 146 k (nI s)) 145 i = nI (if i = k then v else row i) ∧ hI (sI (sI h 145 k (nI v)) 146 k (nI s)) 146 i = nI (if i = k then s else made i)
        by_cases z : i = k
        · subst z
          rw [if_pos rfl, if_pos rfl, hI_sI, hI_sI_ne (by decide : 145 ≠ 146), hI_sI]
          exact ⟨rfl, rfl⟩
        · rw [if_neg z, if_neg z, hI_sI_j z, hI_sI_ne (by decide : 145 ≠ 146), hI_sI_j z, hI_sI_ne (by decide : 146 ≠ 145)]
          exact hH i (by omega)
    · conv => whnf
      refine ⟨Or.inl rfl, hN h he (fun q => ?_)⟩
      have z := q s (Nat.lt_of_lt_of_le s1 (pow_le (by omega))) (by rw [← v2]; exact c)
      rw [z, Nat.zero_testBit] at s2
      cases s2
theorem c_M_isNormalX {P : PSem} (S : SysOK P) {h : PH} (hw : WS h) {n m a : Nat} (hn : n ≤ 12) (hm : MDg n m) (hnow : hI h 125 n = nI m) (ha : a < 2 ^ n) {K : PK}
    (hY : ∀ h' row made, eqX mrA h h' → ELI row made (cjn n m a) n n → MRH h' row made n → K (.int 1) h') (hN : ∀ h', eqX mrA h h' → ¬ nrm n m a → K (.int 0) h') : P.1 n_M_isNormal [.ref 116, .int (nI n), .int (nI a)] h K := by
  refine S.2.1 _ 8 _ _ _ rfl rfl ?_
  refine S.at 4 [] rfl ?_
  conv => whnf
  refine S.mk [(0,1),(0,1),(0,0),(0,1),(0,1),(0,0),(0,0),(0,0)] ?_
  exact l_M_nrO S hw hn hm hnow ha hY hN n 0 h (fun _ => 0) (fun _ => 0) (by omega) (eqX_rf _ _) ⟨fun i hi => by omega, fun i hi => by omega, fun i l _ hl => by omega⟩ (fun i hi => by omega)
theorem c_M_isNormal {P : PSem} (S : SysOK P) {h : PH} (hw : WS h) {n m a : Nat} (hn : n ≤ 12) (hm : MDg n m) (hnow : hI h 125 n = nI m) (ha : a < 2 ^ n) {K : PK} (hK : ∀ h', eqX mrA h h' → K (.int (bI (nrmB n m a))) h') : P.1 n_M_isNormal [.ref 116, .int (nI n), .int (nI a)] h K := by
  refine c_M_isNormalX S hw hn hm hnow ha (fun h' row made a1 a2 a3 => ?_) (fun h' a1 a2 => ?_)
  · have : nrmB n m a = true := nrmB_iff.mpr (a2.all (fun i _ => cjn_lt hm ha i))
    rw [this] at hK
    exact hK h' a1
  · have : nrmB n m a = false := by rw [← Bool.not_eq_true, nrmB_iff]; exact a2
    rw [this] at hK
    exact hK h' a1
theorem mrA_now {h h' : PH} (e : eqX mrA h h') : hI h' 125 = hI h 125 := e.2.2.2.2 125 (fun q => by unfold mrA at q; omega)
theorem l_M_ln {P : PSem} (S : SysOK P) {h0 : PH} (hw0 : WS h0) {n m : Nat} (hn : n ≤ 12) (hM : MOD n m) (hnow0 : hI h0 125 n = nI m) {K : PK} (hK : ∀ h', eqX mrA h0 h' → K (.int (nI (lnF n m))) h') : ∀ j q h, q + j = lnF n m → 1 ≤ q → eqX mrA h0 h →
    P.2 n_M_leastNormal 2 [some (.ref 116), some (.int (nI n)), some (.int (nI q))] [] h 0 0 K := by
  obtain ⟨l1, l2, l3, l4⟩ := lnF_ok hn hM
  intro j
  induction j with
  | zero =>
    intro q h hq hq1 he
    have e : q = lnF n m := by omega
    subst e
    have hw := eqX_WS he hw0
    refine S.at 60 [] rfl ?_
    conv => whnf
    refine ⟨wt_116 hw, ?_⟩
    conv => whnf
    refine c_M_isNormal S hw hn hM.1 (by rw [mrA_now he]; exact hnow0) l2 (fun h' a1 => ?_)
    conv => whnf
    rw [nrmB_iff.mpr l3]
    refine bk_nt ((by decide)) ?_
    conv => whnf
    exact hK h' (eqX_tr he a1)
  | succ j ih =>
    intro q h hq hq1 he
    have hw := eqX_WS he hw0
    refine S.at 60 [] rfl ?_
    conv => whnf
    refine ⟨wt_116 hw, ?_⟩
    conv => whnf
    refine c_M_isNormal S hw hn hM.1 (by rw [mrA_now he]; exact hnow0) (show q < 2 ^ n by omega) (fun h' a1 => ?_)
    conv => whnf
    have : nrmB n m q = false := by rw [← Bool.not_eq_true, nrmB_iff]; exact l4 q hq1 (by omega)
    rw [this]
    refine bk_nf (rfl) ?_
    conv => whnf
    have next := ih (q + 1) h' (by omega) (by omega) (eqX_tr he a1)
    rw [← nI_1] at next
    exact next
theorem c_M_leastNormal {P : PSem} (S : SysOK P) {h : PH} (hw : WS h) {n m : Nat} (hn : n ≤ 12) (hM : MOD n m) (hnow : hI h 125 n = nI m) {K : PK} (hK : ∀ h', eqX mrA h h' → K (.int (nI (lnF n m))) h') : P.1 n_M_leastNormal [.ref 116, .int (nI n)] h K := by
  obtain ⟨l1, l2, l3, l4⟩ := lnF_ok hn hM
  refine S.2.1 _ 3 _ _ _ rfl rfl ?_
  refine S.at 2 [] rfl ?_
  conv => whnf
  exact l_M_ln S hw hn hM hnow hK (lnF n m - 1) 1 h (by omega) (Nat.le_refl 1) (eqX_rf _ _)
/-! coordinates: the highest bits go in turn -/
theorem l_M_coI {P : PSem} (S : SysOK P) {h : PH} (hw : WS h) {n d t a : Nat} (hn : n ≤ 12) (hd : d < n) {r row made : Nat → Nat} (hE : ELI row made r n n) (hH : MRH h row made n) {K : PK}
    (hK : ∀ v s, v < 2 ^ d → s < 2 ^ n → cmb r n s = a ^^^ v → P.2 n_M_coordinates 52 [some (.ref 116), some (.int (nI n)), none, none, some (.int 1), some (.int (nI v)), some (.int (nI s)), some (.int (nI t)), none] [] h 0 0 K) : ∀ j i v s, i + j = n → v < 2 ^ (d + 1) → (v < 2 ^ d ∨ ∃ i0, i ≤ i0 ∧ i0 < n ∧ (row i0).log2 = d) → s < 2 ^ n → cmb r n s = a ^^^ v →
    P.2 n_M_coordinates 22 [some (.ref 116), some (.int (nI n)), none, none, some (.int 1), some (.int (nI v)), some (.int (nI s)), some (.int (nI t)), some (.int (nI i))] [] h 0 0 K := by
  have h12 := pow12 hn
  intro j
  induction j with
  | zero =>
    intro i v s hi hv hx hs hc
    refine S.at 60 [52] rfl ?_
    conv => whnf
    refine bk_t ((zn_le (by omega) (by omega)).mpr (by omega)) ?_
    conv => whnf
    refine S.mk [(0, 1), (0, 1), (0, 0), (0, 0), (0, 1), (0, 1), (0, 1), (0, 1), (0, 0)] (hK v s ?_ hs hc)
    rcases hx with w | ⟨i0, w1, w2, -⟩
    · exact w
    · omega
  | succ j ih =>
    intro i v s hi hv hx hs hc
    obtain ⟨r1, r2⟩ := hE.1 i (by omega)
    obtain ⟨m1, m2⟩ := hE.2.1 i (by omega)
    have hl := log2_lt31 hn r2
    have hd2 : (2 : Nat) ^ (d + 1) ≤ 2 ^ n := pow_le (by omega)
    have hvl := log2_lt31 hn (Nat.lt_of_lt_of_le hv hd2)
    have n50 : (v < 2 ^ d ∨ (row i).log2 ≠ d) → P.2 n_M_coordinates 50 [some (.ref 116), some (.int (nI n)), none, none, some (.int 1), some (.int (nI v)), some (.int (nI s)), some (.int (nI t)), some (.int (nI i))] [] h 0 0 K := by
      intro hq
      have next := ih (i + 1) v s (by omega) hv (by
        rcases hq with w | w
        · exact Or.inl w
        · rcases hx with z | ⟨i0, z1, z2, z3⟩
          · exact Or.inl z
          · refine Or.inr ⟨i0, ?_, z2, z3⟩
            rcases Nat.eq_or_lt_of_le z1 with y | y
            · subst y
              exact absurd z3 w
            · exact y) hs hc
      rw [← nI_1] at next
      refine S.at 10 [] rfl ?_
      conv => whnf
      exact next
    refine S.at 60 [50] rfl ?_
    conv => whnf
    refine bk_f (fun c => absurd ((zn_le (by omega) (by omega)).mp c) (by omega)) ?_
    conv => whnf
    refine bk_eq (b := 0) (by omega) (by decide) (fun c => ?_) (fun c => ?_)
    · conv => whnf
      exact n50 (Or.inl (by rw [c]; exact Nat.two_pow_pos d))
    · conv => whnf
      refine ⟨wt_116 hw, ?_⟩
      conv => whnf
      rw [wr_116_45 hw]
      refine ⟨inB_of (wt_145 hw) (wn_145 hw) (by omega) (by decide), ?_⟩
      conv => whnf
      rw [nI_clamp (by omega), (hH i (by omega)).1]
      refine c_M_degreeL S (by omega) ?_
      conv => whnf
      refine c_M_degreeL S (by omega) ?_
      conv => whnf
      have v1 := Nat.log2_self_le c
      have v2 := Nat.lt_log2_self (n := v)
      refine bk_eq (by omega) (by omega) (fun c2 => ?_) (fun c2 => ?_)
      · conv => whnf
        refine ⟨wt_116 hw, ?_⟩
        conv => whnf
        rw [wr_116_45 hw]
        refine ⟨inB_of (wt_145 hw) (wn_145 hw) (by omega) (by decide), ?_⟩
        conv => whnf
        rw [nI_clamp (by omega), (hH i (by omega)).1]
        refine ⟨wt_116 hw, ?_⟩
        conv => whnf
        rw [wr_116_46 hw]
        refine ⟨inB_of (wt_146 hw) (wn_146 hw) (by omega) (by decide), ?_⟩
        conv => whnf
        rw [nI_clamp (by omega), (hH i (by omega)).2]
        have r3 := Nat.log2_self_le r1
        have r4 := Nat.lt_log2_self (n := row i)
        rw [c2] at r3 r4
        have hlt : v ^^^ row i < 2 ^ v.log2 := by
          apply Nat.lt_pow_two_of_testBit
          intro b hb
          rw [Nat.testBit_xor]
          rcases Nat.eq_or_lt_of_le hb with w | w
          · rw [← w, tb_top v1 v2, tb_top r3 r4]
            rfl
          · rw [tb_lt v2 w, tb_lt r4 w]
            rfl
        have hle : v.log2 ≤ d := by
          rcases Nat.lt_or_ge d v.log2 with w | w
          · have := pow_le (show d + 1 ≤ v.log2 from w)
            omega
          · exact w
        have hlt2 : v ^^^ row i < 2 ^ d := Nat.lt_of_lt_of_le hlt (pow_le hle)
        have next := ih (i + 1) (v ^^^ row i) (s ^^^ made i) (by omega) (Nat.lt_of_lt_of_le hlt2 (pow_le (by omega))) (Or.inl hlt2) (xor_lt hs (Nat.lt_of_lt_of_le m2 (pow_le (by omega)))) (by rw [cmb_xor, hc, ← m1, Nat.xor_assoc])
        rw [← nI_1, ← zn_xor, ← zn_xor] at next
        refine S.at 10 [] rfl ?_
        conv => whnf
        exact next
      · conv => whnf
        refine n50 ?_
        rcases Nat.lt_or_ge v (2 ^ d) with w | w
        · exact Or.inl w
        · right
          rw [dg_uq v1 v2 w hv] at c2
          exact c2
theorem l_M_coO {P : PSem} (S : SysOK P) {h : PH} (hw : WS h) {n a : Nat} (hn : n ≤ 12) {r row made : Nat → Nat} (hE : ELI row made r n n) (hH : MRH h row made n) {K : PK}
    (hK : ∀ s, s < 2 ^ n → cmb r n s = a → K (.int (nI s)) h) : ∀ j t v s, t + j = n → v < 2 ^ j → s < 2 ^ n → cmb r n s = a ^^^ v →
    P.2 n_M_coordinates 15 [some (.ref 116), some (.int (nI n)), none, none, some (.int 1), some (.int (nI v)), some (.int (nI s)), some (.int (nI t)), none] [] h 0 0 K := by
  intro j
  induction j with
  | zero =>
    intro t v s ht hv hs hc
    refine S.at 60 [] rfl ?_
    conv => whnf
    refine bk_t ((zn_le (by omega) (by omega)).mpr (by omega)) ?_
    conv => whnf
    have : v = 0 := by
      have : v < 1 := hv
      omega
    rw [this, Nat.xor_zero] at hc
    exact hK s hs hc
  | succ j ih =>
    intro t v s ht hv hs hc
    refine S.at 60 [22] rfl ?_
    conv => whnf
    refine bk_f (fun c => absurd ((zn_le (by omega) (by omega)).mp c) (by omega)) ?_
    conv => whnf
    refine bk_f ((by decide)) ?_
    conv => whnf
    refine l_M_coI S hw hn (d := j) (by omega) hE hH (fun v' s' a1 a2 a3 => ?_) n 0 v s (by omega) hv ?_ hs hc
    · have next := ih (t + 1) v' s' (by omega) a1 a2 a3
      rw [← nI_1] at next
      refine S.at 10 [] rfl ?_
      conv => whnf
      exact next
    · right
      obtain ⟨i, i1, i2⟩ := hE.deg (show j < n by omega)
      exact ⟨i, Nat.zero_le _, i1, i2⟩
theorem c_M_coordinates {P : PSem} (S : SysOK P) {h : PH} (hw : WS h) {n m a : Nat} (hn : n ≤ 12) (hM : MOD n m) (hnow : hI h 125 n = nI m) (ha : a < 2 ^ n) {K : PK} (hK : ∀ h', eqX mrA h h' → K (.int (nI (coF n m (lnF n m) a))) h') : P.1 n_M_coordinates [.ref 116, .int (nI n), .int (nI a)] h K := by
  obtain ⟨l1, l2, l3, l4⟩ := lnF_ok hn hM
  refine S.2.1 _ 9 _ _ _ rfl rfl ?_
  refine S.at 60 [15] rfl ?_
  conv => whnf
  refine ⟨wt_116 hw, ?_⟩
  conv => whnf
  refine c_M_leastNormal S hw hn hM hnow (fun h1 a1 => ?_)
  conv => whnf
  refine ⟨wt_116 (eqX_WS a1 hw), ?_⟩
  conv => whnf
  refine c_M_isNormalX S (eqX_WS a1 hw) hn hM.1 (by rw [mrA_now a1]; exact hnow) l2 (fun h2 row made b1 b2 b3 => ?_) (fun h2 b1 b2 => absurd l3 b2)
  conv => whnf
  refine S.mk [(0,1),(0,1),(0,0),(0,0),(0,1),(0,1),(0,1),(0,1),(0,0)] ?_
  have he := eqX_tr a1 b1
  refine l_M_coO S (eqX_WS he hw) hn b2 b3 (fun s s1 s2 => ?_) n 0 a 0 (by omega) ha (Nat.two_pow_pos n) (by rw [cmb_0, Nat.xor_self])
  have := hK h2 he
  rw [coF_eq l3 s1 s2] at this
  exact this
theorem l_M_du {P : PSem} (S : SysOK P) {h : PH} (hw : WS h) {n m b : Nat} (hn : n ≤ 12) (hG : GF n m) (hnow : hI h 125 n = nI m) (hb : b < 2 ^ n) (hN : nrm n m b) {K : PK} (hK : K (.int (nI (duF n m b))) h) : ∀ j q, q + j = duF n m b →
    P.2 n_M_dualOf 9 [some (.ref 116), some (.int (nI n)), some (.int (nI b)), some (.int (nI q))] [] h 0 0 K := by
  obtain ⟨d1, d2, d3⟩ := duF_ok hG hb hN
  intro j
  induction j with
  | zero =>
    intro q hq
    have e : q = duF n m b := by omega
    subst e
    refine S.at 60 [] rfl ?_
    conv => whnf
    refine ⟨wt_116 hw, ?_⟩
    conv => whnf
    refine c_M_isDual S hw hn hG hnow hb d1 ?_
    conv => whnf
    rw [d2]
    refine bk_nt ((by decide)) ?_
    conv => whnf
    exact hK
  | succ j ih =>
    intro q hq
    refine S.at 60 [] rfl ?_
    conv => whnf
    refine ⟨wt_116 hw, ?_⟩
    conv => whnf
    refine c_M_isDual S hw hn hG hnow hb (by omega) ?_
    conv => whnf
    rw [beq_eq_false_iff_ne.mpr (d3 q (by omega))]
    refine bk_nf (rfl) ?_
    conv => whnf
    have next := ih (q + 1) (by omega)
    rw [← nI_1] at next
    exact next
theorem c_M_dualOf {P : PSem} (S : SysOK P) {h : PH} (hw : WS h) {n m b : Nat} (hn : n ≤ 12) (hM : MOD n m) (hnow : hI h 125 n = nI m) (hb : b < 2 ^ n) {K : PK} (hY : ∀ h', eqX mrA h h' → nrm n m b → K (.int (nI (duF n m b))) h') (hN : ∀ h', eqX mrA h h' → ¬ nrm n m b → K (.int (-2)) h') : P.1 n_M_dualOf [.ref 116, .int (nI n), .int (nI b)] h K := by
  refine S.2.1 _ 4 _ _ _ rfl rfl ?_
  refine S.at 60 [9] rfl ?_
  conv => whnf
  refine ⟨wt_116 hw, ?_⟩
  conv => whnf
  refine c_M_isNormal S hw hn hM.1 hnow hb (fun h' a1 => ?_)
  conv => whnf
  refine bk_b1 (fun c => ?_) (fun c => ?_)
  · conv => whnf
    have hq := nrmB_iff.mp c
    exact l_M_du S (eqX_WS a1 hw) hn (all_GF hn hM) (by rw [mrA_now a1]; exact hnow) hb hq (hY h' a1 hq) (duF n m b) 0 (by omega)
  · conv => whnf
    exact hN h' a1 (fun q => by rw [nrmB_iff.mpr q] at c; cases c)
