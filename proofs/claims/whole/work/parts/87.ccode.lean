/-! codes; how many are primitive -/
theorem zl_shl {a k : Nat} (hk : k < 64) : l_shl (lN a) (nI k) = lN (a <<< k) := by
  unfold l_shl
  rw [zl_c k hk]
  apply Int64.toBitVec_inj.1
  show BitVec.ofNat 64 a <<< ((lN k).toBitVec.smod 64).toNat = BitVec.ofNat 64 (a <<< k)
  rw [zl_sm k hk]
  apply BitVec.eq_of_toNat_eq
  simp only [BitVec.toNat_shiftLeft]
  simp only [BitVec.toNat_ofNat, Nat.shiftLeft_eq, Nat.mod_mul_mod]
theorem zl_xor (a b : Nat) : lN a ^^^ lN b = lN (a ^^^ b) := by
  apply Int64.toBitVec_inj.1
  show BitVec.ofNat 64 a ^^^ BitVec.ofNat 64 b = BitVec.ofNat 64 (a ^^^ b)
  apply BitVec.eq_of_getLsbD_eq
  intro i hi
  simp [hi]
theorem l_Poly_product {P : PSem} (S : SysOK P) {h : PH} {a b : Nat} (hb : b < 8192) {K : PK} (hK : K (.long (lN (clN a b 13))) h) : ∀ j q, q + j = 13 →
    P.2 n_Poly_product 4 [some (.long (lN a)), none, some (.int (nI b)), some (.long (lN (clN a b q))), none, some (.int (nI q))] [] h 0 0 K := by
  intro j
  induction j with
  | zero =>
    intro q hq
    have e : q = 13 := by omega
    subst e
    refine S.at 60 [] rfl ?_
    conv => whnf
    refine bk_t ((zn_lt (a := 12) (by omega) (by omega)).mpr (by omega)) ?_
    conv => whnf
    exact hK
  | succ j ih =>
    intro q hq
    have hbit := zn_bit0 (a := b) (k := q) (by omega) (by omega)
    have next := ih (q + 1) (by omega)
    have e : clN a b (q + 1) = clN a b q ^^^ (if b.testBit q then a <<< q else 0) := rfl
    rw [e] at next
    refine S.at 60 [] rfl ?_
    conv => whnf
    refine bk_f (fun c => absurd ((zn_lt (a := 12) (by omega) (by omega)).mp c) (by omega)) ?_
    conv => whnf
    refine ⟨fun c => ?_, fun c => ?_⟩
    · have c := hbit.mp c
      rw [c, if_neg (by decide), Nat.xor_zero, ← nI_1] at next
      conv => whnf
      exact next
    · have c : b.testBit q = true := by
        cases hb1 : b.testBit q with
        | true => rfl
        | false => exact absurd (hbit.mpr hb1) c
      rw [if_pos c, ← zl_xor, ← zl_shl (by omega), ← nI_1] at next
      conv => whnf
      exact next
theorem c_Poly_product {P : PSem} (S : SysOK P) {h : PH} {a b : Nat} (hb : b < 8192) {K : PK} (hK : K (.long (lN (cl a b))) h) : P.1 n_Poly_product [.long (lN a), .int (nI b)] h K := by
  refine S.2.1 _ 6 _ _ _ rfl rfl ?_
  refine S.at 4 [] rfl ?_
  conv => whnf
  exact l_Poly_product S hb (by rw [clN_eq (show b < 2 ^ 13 from hb)]; exact hK) 13 0 rfl
def nwB (pt : Nat → Nat) (i : Nat) : Bool := decide (∀ k, k < i → pt k ≠ pt i)
def cdS (pt : Nat → Nat) : Nat → Nat
  | 0 => 1
  | i + 1 => if nwB pt i then cl (cdS pt i) (pt i) else cdS pt i
theorem cdS_lt {pt : Nat → Nat} (hp : ∀ i, pt i < 8192) : ∀ i, cdS pt i < 2 ^ (12 * i + 1)
  | 0 => by show 1 < 2 ^ 1; decide
  | i + 1 => by
    have ih := cdS_lt hp i
    show (if nwB pt i then cl (cdS pt i) (pt i) else cdS pt i) < _
    split
    · rw [← clN_eq (show pt i < 2 ^ 13 from hp i)]
      have := clN_lt (b := pt i) (k := 13) ih
      rwa [show 12 * i + 13 = 12 * (i + 1) + 1 by omega] at this
    · exact Nat.lt_of_lt_of_le ih (pow_le (by omega))
theorem l_Tow_new {P : PSem} (S : SysOK P) {h : PH} (hw : WS h) {pt : Nat → Nat} {i : Nat} (hi : i < 5) (hp : ∀ i, pt i < 8192) (hh : ∀ k, k ≤ i → hI h 30 k = nI (pt k)) {K : PK} (hK : K (.int (bI (nwB pt i))) h) : ∀ j q, q + j = i → (∀ k, k < q → pt k ≠ pt i) →
    P.2 n_Tower_isNewPart 2 [some (.ref 8), some (.int (nI i)), some (.int (nI q))] [] h 0 0 K := by
  intro j
  induction j with
  | zero =>
    intro q hq hs
    have e : q = i := by omega
    subst e
    refine S.at 60 [] rfl ?_
    conv => whnf
    refine bk_t ((zn_le (by omega) (by omega)).mpr (by omega)) ?_
    conv => whnf
    have : nwB pt q = true := decide_eq_true hs
    rw [this] at hK
    exact ⟨Or.inr rfl, hK⟩
  | succ j ih =>
    intro q hq hs
    have p1 := hp q
    have p2 := hp i
    refine S.at 60 [] rfl ?_
    conv => whnf
    refine bk_f (fun c => absurd ((zn_le (by omega) (by omega)).mp c) (by omega)) ?_
    conv => whnf
    refine ⟨wt_8 hw, ?_⟩
    conv => whnf
    rw [wr_8_6 hw]
    refine ⟨inB_of (wt_30 hw) (wn_30 hw) (by omega) (by decide), ?_⟩
    conv => whnf
    rw [nI_clamp (by omega), hh q (by omega)]
    refine ⟨wt_8 hw, ?_⟩
    conv => whnf
    try rw [wr_8_6 hw]
    refine ⟨inB_of (wt_30 hw) (wn_30 hw) (by omega) (by decide), ?_⟩
    conv => whnf
    rw [nI_clamp (by omega), hh i (by omega)]
    refine bk_ne (by omega) (by omega) (fun c => ?_) (fun c => ?_)
    · conv => whnf
      have next := ih (q + 1) (by omega) (fun k hk => by
        rcases Nat.eq_or_lt_of_le (Nat.le_of_lt_succ hk) with w | w
        · subst w
          exact c
        · exact hs k w)
      rw [← nI_1] at next
      exact next
    · conv => whnf
      have : nwB pt i = false := decide_eq_false (fun z => z q (by omega) c)
      rw [this] at hK
      exact ⟨Or.inl rfl, hK⟩
theorem c_Tower_isNewPart {P : PSem} (S : SysOK P) {h : PH} (hw : WS h) {pt : Nat → Nat} {i : Nat} (hi : i < 5) (hp : ∀ i, pt i < 8192) (hh : ∀ k, k ≤ i → hI h 30 k = nI (pt k)) {K : PK} (hK : K (.int (bI (nwB pt i))) h) : P.1 n_Tower_isNewPart [.ref 8, .int (nI i)] h K := by
  refine S.2.1 _ 3 _ _ _ rfl rfl ?_
  refine S.at 2 [] rfl ?_
  conv => whnf
  exact l_Tow_new S hw hi hp hh hK i 0 (by omega) (fun k hk => by omega)
def cpt (n m : Nat) : Nat → Nat := fun i => lpB n m (fpw n m (lpF n m) (i + 1))
theorem l_Tow_code {P : PSem} (S : SysOK P) {h0 : PH} {u : Nat → Nat} {r : Nat → Nat → Nat} {n t : Nat} (hn1 : 1 ≤ n) (hn : n ≤ 12) (hu : MDS u) (ht : t ≤ 5) {K : PK}
    (hK : ∀ h', CI h' u r → FQ h0 h' → K (.long (lN (cdS (cpt n (u n)) t))) h') : ∀ j q h, q + j = t → CI h u r → FQ h0 h → (∀ k, k < q → hI h 30 k = nI (cpt n (u n) k)) →
    P.2 n_Tower_codePolynomial 12 [some (.ref 8), some (.int (nI n)), some (.int (nI t)), some (.int (nI (lpF n (u n)))), some (.long (lN (cdS (cpt n (u n)) q))), none, some (.int (nI (fpw n (u n) (lpF n (u n)) q))), some (.int (nI q))] [] h 0 0 K := by
  have hM := hu n hn1 hn
  have hG := all_GF hn hM
  have hm := hM.1
  have hpr := lpF_prim hn hM
  have hpt : ∀ i, cpt n (u n) i < 8192 := fun i => lpB_lt hn hG (fpw_lt hm hpr.1 _)
  intro j
  induction j with
  | zero =>
    intro q h hq hC hf hs
    have e : q = t := by omega
    subst e
    refine S.at 60 [] rfl ?_
    conv => whnf
    refine bk_t ((zn_le (by omega) (by omega)).mpr (by omega)) ?_
    conv => whnf
    exact hK h hC hf
  | succ j ih =>
    intro q h hq hC hf hs
    have hw := hC.1
    have hF := hC.2.1 n hn1 hn
    have hp := fpw_lt hm hpr.1 q
    have hp1 := fpw_lt hm hpr.1 (q + 1)
    have n47 : ∀ h' L, CI h' u r → FQ h0 h' → (∀ k, k < q + 1 → hI h' 30 k = nI (cpt n (u n) k)) → L = cdS (cpt n (u n)) (q + 1) → P.2 n_Tower_codePolynomial 47 [some (.ref 8), some (.int (nI n)), some (.int (nI t)), some (.int (nI (lpF n (u n)))), some (.long (lN L)), none, some (.int (nI (fpw n (u n) (lpF n (u n)) (q + 1)))), some (.int (nI q))] [] h' 0 0 K := by
      intro h' L a b c d
      have next := ih (q + 1) h' (by omega) a b c
      rw [← nI_1 q, ← d] at next
      refine S.at 10 [] rfl ?_
      conv => whnf
      exact next
    refine S.at 60 [47] rfl ?_
    conv => whnf
    refine bk_f (fun c => absurd ((zn_le (by omega) (by omega)).mp c) (by omega)) ?_
    conv => whnf
    refine bk_f (fun c => absurd ((zn_le (a := 5) (by omega) (by omega)).mp c) (by omega)) ?_
    conv => whnf
    refine ⟨wt_8 hw, ?_⟩
    conv => whnf
    rw [wr_8_0 hw]
    refine ⟨Or.inl (wi_in9 hw hn1 hn), ?_⟩
    conv => whnf
    rw [nI_clamp (by omega), wi_fld hw hn1 hn]
    refine ⟨hF.1, ?_⟩
    conv => whnf
    refine c_Field_times S hF hn hm hp hpr.1 ?_
    conv => whnf
    refine ⟨wt_8 hw, ?_⟩
    conv => whnf
    rw [wr_8_6 hw]
    refine ⟨wt_8 hw, ?_⟩
    conv => whnf
    rw [wr_8_0 hw]
    refine ⟨Or.inl (wi_in9 hw hn1 hn), ?_⟩
    conv => whnf
    rw [nI_clamp (by omega), wi_fld hw hn1 hn]
    refine ⟨hF.1, ?_⟩
    conv => whnf
    refine c_Field_leastPolynomial S hw hn1 hn hF hG hp1 (fun h1 a1 => ?_)
    have hC1 := CI_eqX (fun k q => by unfold frs; omega) a1 hC
    have hf1 := FQ_eqX a1 (fun k q _ => by unfold scr; omega)
    have hw1 := hC1.1
    conv => whnf
    refine ⟨⟨by decide, inB_of (wt_30 hw1) (wn_30 hw1) (by omega) (by decide)⟩, ?_⟩
    rw [nI_clamp (by omega)]
    have hC2 : CI (sI h1 30 q (nI (cpt n (u n) q))) u r := CI_eqX (A := fun k => k = 30) (fun k q => by unfold frs; omega) (eqX_sI rfl) hC1
    have hf2 : FQ h0 (sI h1 30 q (nI (cpt n (u n) q))) := FQ_tr (FQ_tr hf hf1) (FQ_sI (by unfold scr; omega))
    have hs2 : ∀ k, k ≤ q → hI (sI h1 30 q (nI (cpt n (u n) q))) 30 k = nI (cpt n (u n) k) := fun k hk => by
      by_cases e : k = q
      · subst e
        exact hI_sI
      · rw [hI_sI_j e, a1.2.2.2.2 30 (by omega)]
        exact hs k (by omega)
    conv => whnf
    refine ⟨wt_8 hC2.1, ?_⟩
    conv => whnf
    refine c_Tower_isNewPart (pt := cpt n (u n)) S hC2.1 (by omega) hpt hs2 ?_
    conv => whnf
    have e1 : cdS (cpt n (u n)) (q + 1) = if nwB (cpt n (u n)) q then cl (cdS (cpt n (u n)) q) (cpt n (u n) q) else cdS (cpt n (u n)) q := rfl
    refine bk_b0 (fun c => ?_) (fun c => ?_)
    · conv => whnf
      exact n47 _ _ hC2 hf2 (fun k hk => hs2 k (by omega)) (by rw [e1, c, if_neg (by decide)])
    · conv => whnf
      refine ⟨wt_8 hC2.1, ?_⟩
      conv => whnf
      rw [hR_sI, wr_8_6 hw1]
      refine ⟨inB_of (h := sI h1 30 _ _) (wt_30 hw1) (wn_30 hw1) (by omega) (by decide), ?_⟩
      rw [nI_clamp (by omega)]
      have e2 : hI (sI h1 30 q (nI (cpt n (u n) q))) 30 q = nI (cpt n (u n) q) := hI_sI
      have e3 : hI (sI h1 30 q (nI (lpB n (u n) (fpw n (u n) (lpF n (u n)) (q + 1))))) 30 q = nI (cpt n (u n) q) := hI_sI
      refine p1c (as' := [Value.long (lN (cdS (cpt n (u n)) q)), Value.int (nI (cpt n (u n) q))]) (congrArg (fun z => [Value.long (lN (cdS (cpt n (u n)) q)), Value.int z]) e3) ?_
      refine c_Poly_product S (hpt q) ?_
      conv => whnf
      exact n47 _ _ hC2 hf2 (fun k hk => hs2 k (by omega)) (by rw [e1, c, if_pos rfl])
theorem c_Tower_codePolynomial {P : PSem} (S : SysOK P) {h : PH} {u : Nat → Nat} {r : Nat → Nat → Nat} {n t : Nat} (hn1 : 1 ≤ n) (hn : n ≤ 12) (hu : MDS u) (ht : t ≤ 5) (hC : CI h u r) {K : PK}
    (hK : ∀ h', CI h' u r → FQ h h' → K (.long (lN (cdS (cpt n (u n)) t))) h') : P.1 n_Tower_codePolynomial [.ref 8, .int (nI n), .int (nI t)] h K := by
  have hw := hC.1
  obtain ⟨y1, y2⟩ := hC.2.2.1 n hn1 hn
  refine S.2.1 _ 8 _ _ _ rfl rfl ?_
  refine S.at 60 [12] rfl ?_
  conv => whnf
  refine ⟨wt_8 hw, ?_⟩
  conv => whnf
  rw [wr_8_1 hw]
  refine ⟨Or.inr (Or.inl (wi_in10 hw hn1 hn)), ?_⟩
  conv => whnf
  rw [nI_clamp (by omega), wi_cyc hw hn1 hn]
  refine ⟨wi_yT hw hn1 hn, ?_⟩
  conv => whnf
  refine c_Cycle_leastPrimitive S hw hn1 hn (hC.2.1 n hn1 hn) (hu n hn1 hn) y1 y2 ?_
  conv => whnf
  exact l_Tow_code S hn1 hn hu ht hK t 0 _ (by omega) (CI_prim hn1 hn hC) (FQ_sI (by unfold scr; omega)) (fun k hk => by omega)
/-! how many primitive elements: by the primes of 2^n - 1 -/
def phI (p : Nat) : Nat → Nat → Nat
  | 0, r => r
  | f + 1, r => if r % p = 0 then phI p f (r / p) else r
def phO : Nat → Nat → Nat → Nat → Nat
  | 0, _, o, _ => o
  | f + 1, p, o, r => if p ≤ r then phO f (p + 1) (if r % p = 0 then o - o / p else o) (phI p 12 r) else o
theorem phI_le (p : Nat) : ∀ f r, phI p f r ≤ r
  | 0, r => Nat.le_refl r
  | f + 1, r => by
    unfold phI
    split
    · exact Nat.le_trans (phI_le p f _) (Nat.div_le_self _ _)
    · exact Nat.le_refl r
theorem l_Cyc_phI {P : PSem} (S : SysOK P) {h : PH} {o p : Nat} (hp1 : 2 ≤ p) (hp : p < 5000) {K : PK} : ∀ f s r, s + f = 12 → r ≤ 4095 → P.2 n_Cycle_primitiveCount 8 [none, some (.int (nI o)), some (.int (nI (phI p f r))), some (.int (nI (p + 1))), none] [] h 0 0 K →
    P.2 n_Cycle_primitiveCount 23 [none, some (.int (nI o)), some (.int (nI r)), some (.int (nI p)), some (.int (nI s))] [] h 0 0 K := by
  intro f
  induction f with
  | zero =>
    intro s r hs hr next
    refine S.at 60 [] rfl ?_
    conv => whnf
    refine bk_t ((zn_le (a := 12) (by omega) (by omega)).mpr (by omega)) ?_
    conv => whnf
    rw [← nI_1] at next
    exact next
  | succ f ih =>
    intro s r hs hr next
    have hrp : r % p < 5000 := Nat.lt_trans (Nat.mod_lt _ (by omega)) hp
    have hp0 : ¬ nI p = 0 := nI_ne0 (by omega) (by omega)
    have hrp2 : r / p ≤ 4095 := Nat.le_trans (Nat.div_le_self _ _) hr
    refine S.at 60 [] rfl ?_
    conv => whnf
    refine bk_f (fun c => absurd ((zn_le (a := 12) (by omega) (by omega)).mp c) (by omega)) ?_
    conv => whnf
    refine ⟨hp0, ?_⟩
    conv => whnf
    rw [i_rem_n (by omega) (by omega) (by omega)]
    unfold phI at next
    refine bk_ne (b := 0) (by omega) (by decide) (fun c => ?_) (fun c => ?_)
    · rw [if_neg c] at next
      conv => whnf
      rw [← nI_1] at next
      exact next
    · rw [if_pos c] at next
      conv => whnf
      refine ⟨hp0, ?_⟩
      conv => whnf
      have ed : nI r / nI p = nI (r / p) := pk_div (by omega) (by omega) (by omega)
      have next := ih (s + 1) (r / p) (by omega) hrp2 next
      rw [← nI_1, ← ed] at next
      exact next
theorem l_Cyc_phO {P : PSem} (S : SysOK P) {h : PH} {K : PK} : ∀ f p o r, p + f = 4098 → 2 ≤ p → o ≤ 4095 → r ≤ 4095 → K (.int (nI (phO f p o r))) h →
    P.2 n_Cycle_primitiveCount 8 [none, some (.int (nI o)), some (.int (nI r)), some (.int (nI p)), none] [] h 0 0 K := by
  intro f
  induction f with
  | zero =>
    intro p o r hp hp2 ho hr hK
    refine S.at 60 [] rfl ?_
    conv => whnf
    refine bk_t ((zn_lt (by omega) (by omega)).mpr (by omega)) ?_
    conv => whnf
    exact hK
  | succ f ih =>
    intro p o r hp hp2 ho hr hK
    unfold phO at hK
    have hrp : r % p < 5000 := Nat.lt_trans (Nat.mod_lt _ (by omega)) (by omega)
    have hp0 : ¬ nI p = 0 := nI_ne0 (by omega) (by omega)
    have hle := phI_le p 12 r
    have hop : o / p ≤ o := Nat.div_le_self _ _
    refine S.at 60 [21] rfl ?_
    conv => whnf
    refine bk_lt (by omega) (by omega) (fun c => ?_) (fun c => ?_)
    · rw [if_neg (by omega)] at hK
      conv => whnf
      exact hK
    · rw [if_pos c] at hK
      conv => whnf
      refine ⟨hp0, ?_⟩
      conv => whnf
      rw [i_rem_n (by omega) (by omega) (by omega)]
      refine bk_ne (b := 0) (by omega) (by decide) (fun c => ?_) (fun c => ?_)
      · rw [if_neg c] at hK
        conv => whnf
        refine S.at 2 [] rfl ?_
        conv => whnf
        exact l_Cyc_phI S hp2 (by omega) 12 0 r rfl hr (ih (p + 1) _ _ (by omega) (by omega) ho (by omega) hK)
      · rw [if_pos c] at hK
        conv => whnf
        refine ⟨hp0, ?_⟩
        conv => whnf
        refine S.at 2 [] rfl ?_
        conv => whnf
        have e : nI o - nI o / nI p = nI (o - o / p) := by rw [pk_div (by omega) (by omega) (by omega), pk_sub hop]
        have next := l_Cyc_phI S hp2 (by omega) (K := K) (h := h) (o := o - o / p) 12 0 r rfl hr (ih (p + 1) _ _ (by omega) (by omega) (Nat.le_trans (Nat.sub_le _ _) ho) (by omega) hK)
        rw [← e] at next
        exact next
theorem c_Cycle_primitiveCount {P : PSem} (S : SysOK P) {h : PH} (hw : WS h) {n : Nat} (hn1 : 1 ≤ n) (hn : n ≤ 12) (hl : hI h (29 + 4 * n) 1 = nI (2 ^ n - 1)) {K : PK} (hK : K (.int (nI (phO 4096 2 (2 ^ n - 1) (2 ^ n - 1)))) h) : P.1 n_Cycle_primitiveCount [.ref (29 + 4 * n)] h K := by
  have h12 := pow12 hn
  refine S.2.1 _ 5 _ _ _ rfl rfl ?_
  refine S.at 8 [] rfl ?_
  conv => whnf
  refine ⟨wi_yT hw hn1 hn, ?_⟩
  conv => whnf
  rw [hl]
  refine ⟨wi_yT hw hn1 hn, ?_⟩
  conv => whnf
  refine S.mk [(0,0),(0,1),(0,1),(0,1),(0,0)] ?_
  exact l_Cyc_phO S 4096 2 (2 ^ n - 1) (2 ^ n - 1) rfl (Nat.le_refl 2) (by omega) (by omega) hK
