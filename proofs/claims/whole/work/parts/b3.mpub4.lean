/-! the reference's questions: cosets, codes -/
def csL (L k : Nat) (q : Nat) : Nat := if q = 0 then k else mnS (dbF L k) (q - 1)
theorem l_M_coset {P : PSem} (S : SysOK P) {h : PH} {n k : Nat} {w : Int32} (hn1 : 1 ≤ n) (hn : n ≤ 12) (hk : k < 2 ^ n - 1) {K : PK} (hK : P.2 n_M_coset 64 [none, none, none, some (.int w), some (.int (nI (mnS (dbF (2 ^ n - 1) k) (csN n (2 ^ n - 1) k - 1)))), some (.int (nI (csN n (2 ^ n - 1) k))), none, none] [] h 0 0 K) : ∀ j q, q + (j + 1) = csN n (2 ^ n - 1) k →
    P.2 n_M_coset 27 [none, some (.int (nI n)), some (.int (nI k)), some (.int w), some (.int (nI (csL (2 ^ n - 1) k q))), some (.int (nI q)), some (.int (nI (dbF (2 ^ n - 1) k q))), some (.int 1)] [] h 0 0 K := by
  have h12 := pow12 hn
  have h2 := two_pow_ge2 hn1
  obtain ⟨c1, c2, c3, c4⟩ := csN_ok hn1 hk
  have hlt : ∀ i, dbF (2 ^ n - 1) k i < 2 ^ n - 1 := fun i => Nat.mod_lt _ (by omega)
  have hmn := fun c => mnS_lt hlt c
  have hcl : ∀ q, csL (2 ^ n - 1) k q < 2 ^ n - 1 := fun q => by
    unfold csL
    split
    · exact hk
    · exact hmn _
  have d0 : dbF (2 ^ n - 1) k 0 = k := by
    unfold dbF
    rw [Nat.pow_zero, Nat.one_mul, Nat.mod_eq_of_lt hk]
  have hst : ∀ q, min (csL (2 ^ n - 1) k q) (dbF (2 ^ n - 1) k q) = mnS (dbF (2 ^ n - 1) k) q := fun q => by
    cases q with
    | zero =>
      show min k (dbF (2 ^ n - 1) k 0) = dbF (2 ^ n - 1) k 0
      rw [d0]
      exact Nat.min_self k
    | succ q => rfl
  -- from the comparison on
  have fin : ∀ j q, q + (j + 1) = csN n (2 ^ n - 1) k → (∀ j', j = j' + 1 → P.2 n_M_coset 27 [none, some (.int (nI n)), some (.int (nI k)), some (.int w), some (.int (nI (csL (2 ^ n - 1) k (q + 1)))), some (.int (nI (q + 1))), some (.int (nI (dbF (2 ^ n - 1) k (q + 1)))), some (.int 1)] [] h 0 0 K) → P.2 n_M_coset 56 [none, some (.int (nI n)), some (.int (nI k)), some (.int w), some (.int (nI (mnS (dbF (2 ^ n - 1) k) q))), some (.int (nI (q + 1))), some (.int (nI (dbF (2 ^ n - 1) k (q + 1)))), some (.int 1)] [] h 0 0 K := by
    intro j q hq hih
    have b1 := hlt (q + 1)
    refine S.at 60 [27] rfl ?_
    conv => whnf
    cases j with
    | zero =>
      have e : q + 1 = csN n (2 ^ n - 1) k := by omega
      rw [← e] at c3 hK
      rw [c3]
      refine bk_t (rfl) ?_
      conv => whnf
      refine S.at 60 [64] rfl ?_
      conv => whnf
      refine bk_t (rfl) ?_
      conv => whnf
      rw [Nat.add_sub_cancel] at hK
      exact S.mk [(0, 0), (0, 0), (0, 0), (0, 1), (0, 1), (0, 1), (0, 0), (0, 0)] hK
    | succ j =>
      refine bk_f (fun c => c4 (q + 1) (by omega) (by omega) ((zn_eq (by omega) (by omega)).mp c)) ?_
      conv => whnf
      exact hih j rfl
  intro j
  induction j with
  | zero =>
    intro q hq
    have b1 := hlt q
    have b2 := hcl q
    have e4 : (fun x y : Int32 => x - y) (i_shl 1 (nI n)) 1 = nI (2 ^ n - 1) := shl_m1 hn
    have next := fin 0 q hq (fun j' e => by omega)
    rw [← nI_1 q, ← hst q, db_succ] at next
    refine S.at 60 [36, 56] rfl ?_
    conv => whnf
    refine bk_f ((by decide)) ?_
    conv => whnf
    have go : ∀ z, z = nI (min (csL (2 ^ n - 1) k q) (dbF (2 ^ n - 1) k q)) → P.2 n_M_coset 36 [none, some (.int (nI n)), some (.int (nI k)), some (.int w), some (.int (nI (csL (2 ^ n - 1) k q))), some (.int (nI q + 1)), some (.int (nI (dbF (2 ^ n - 1) k q))), some (.int 1)] [.int z] h 0 0 K := by
      intro z hz
      rw [← hz] at next
      refine S.at 60 [56] rfl ?_
      conv => whnf
      have e5 : (fun x y : Int32 => x * y) (nI (dbF (2 ^ n - 1) k q)) 2 = nI (2 * dbF (2 ^ n - 1) k q) := by
        show nI (dbF (2 ^ n - 1) k q) * 2 = _
        rw [Nat.mul_comm 2]
        exact pk_mul _ 2
      rw [e4, e5]
      refine bk_lt (by omega) (by omega) (fun c => ?_) (fun c => ?_)
      · conv => whnf
        rw [Nat.mod_eq_of_lt c] at next
        exact next
      · conv => whnf
        rw [Nat.mod_eq_sub_mod c, Nat.mod_eq_of_lt (by omega), ← pk_sub c, ← shl_m1 hn] at next
        exact next
    refine bk_le (by omega) (by omega) (fun c => ?_) (fun c => ?_)
    · conv => whnf
      exact go _ (by rw [Nat.min_eq_left c])
    · conv => whnf
      exact go _ (by rw [Nat.min_eq_right (by omega)])
  | succ j ih =>
    intro q hq
    have b1 := hlt q
    have b2 := hcl q
    have e4 : (fun x y : Int32 => x - y) (i_shl 1 (nI n)) 1 = nI (2 ^ n - 1) := shl_m1 hn
    have next := fin (j + 1) q hq (fun j' e => ih (q + 1) (by omega))
    rw [← nI_1 q, ← hst q, db_succ] at next
    refine S.at 60 [36, 56] rfl ?_
    conv => whnf
    refine bk_f ((by decide)) ?_
    conv => whnf
    have go : ∀ z, z = nI (min (csL (2 ^ n - 1) k q) (dbF (2 ^ n - 1) k q)) → P.2 n_M_coset 36 [none, some (.int (nI n)), some (.int (nI k)), some (.int w), some (.int (nI (csL (2 ^ n - 1) k q))), some (.int (nI q + 1)), some (.int (nI (dbF (2 ^ n - 1) k q))), some (.int 1)] [.int z] h 0 0 K := by
      intro z hz
      rw [← hz] at next
      refine S.at 60 [56] rfl ?_
      conv => whnf
      have e5 : (fun x y : Int32 => x * y) (nI (dbF (2 ^ n - 1) k q)) 2 = nI (2 * dbF (2 ^ n - 1) k q) := by
        show nI (dbF (2 ^ n - 1) k q) * 2 = _
        rw [Nat.mul_comm 2]
        exact pk_mul _ 2
      rw [e4, e5]
      refine bk_lt (by omega) (by omega) (fun c => ?_) (fun c => ?_)
      · conv => whnf
        rw [Nat.mod_eq_of_lt c] at next
        exact next
      · conv => whnf
        rw [Nat.mod_eq_sub_mod c, Nat.mod_eq_of_lt (by omega), ← pk_sub c, ← shl_m1 hn] at next
        exact next
    refine bk_le (by omega) (by omega) (fun c => ?_) (fun c => ?_)
    · conv => whnf
      exact go _ (by rw [Nat.min_eq_left c])
    · conv => whnf
      exact go _ (by rw [Nat.min_eq_right (by omega)])
theorem c_M_coset {P : PSem} (S : SysOK P) {h : PH} (n k w : Int32) {K : PK} (hK : K (.int (sCoset n k w)) h) : P.1 n_M_coset [.ref 116, .int n, .int k, .int w] h K := by
  unfold sCoset at hK
  refine S.2.1 _ 8 _ _ _ rfl rfl ?_
  refine S.at 80 [27] rfl ?_
  conv => whnf
  refine c_M_isField S _ ?_
  conv => whnf
  refine bk_b0 (fun c1 => ?_) (fun c1 => ?_)
  · have : okC n k = false := by unfold okC; rw [c1]; rfl
    rw [this, Bool.false_and] at hK
    conv => whnf
    exact hK
  obtain ⟨d, d1, d2, rfl⟩ := okF_nat c1
  have hk := pow12 d2
  have hd := two_pow_ge2 d1
  conv => whnf
  refine p1c (congrArg (fun z => [Value.int k, Value.int 0, Value.int z]) (show i_shl 1 (nI d) - 2 = nI (2 ^ d) - 2 by rw [shl_one d2])) ?_
  refine c_M_in S _ _ _ ?_
  conv => whnf
  refine bk_b0 (fun c2 => ?_) (fun c2 => ?_)
  · have : okC (nI d) k = false := by unfold okC; rw [nI_clamp (by omega), c1, c2]; rfl
    rw [this, Bool.false_and] at hK
    conv => whnf
    exact hK
  have c4 : okC (nI d) k = true := by unfold okC; rw [nI_clamp (by omega), c1, c2]; rfl
  rw [c4, Bool.true_and] at hK
  conv => whnf
  refine c_M_in S _ _ _ ?_
  conv => whnf
  refine bk_b1 (fun c3 => ?_) (fun c3 => ?_)
  · have c7 : is01 w = true := c3
    rw [c7, if_pos rfl] at hK
    obtain ⟨d', q, -, d2', ed, rfl, hq⟩ := okC_nat c4
    have ed := (zn_eq (by omega) (by omega)).mp ed
    subst ed
    rw [nI_clamp (by omega), nI_clamp (by omega)] at hK
    obtain ⟨s1, s2, s3, s4⟩ := csN_ok d1 hq
    conv => whnf
    refine S.mk [(0,0),(0,1),(0,1),(0,1),(0,1),(0,1),(0,1),(0,1)] ?_
    have next := l_M_coset S (h := h) (K := K) (w := w) d1 d2 hq (by
      unfold csS at hK
      refine S.at 60 [] rfl ?_
      conv => whnf
      rcases is01_or c7 with rfl | rfl
      · rw [if_pos rfl] at hK
        refine bk_nf rfl ?_
        conv => whnf
        exact hK
      · rw [if_neg (by decide)] at hK
        refine bk_nt (by decide) ?_
        conv => whnf
        exact hK) (csN d (2 ^ d - 1) q - 1) 0 (by omega)
    have e5 : dbF (2 ^ d - 1) q 0 = q := by unfold dbF; rw [Nat.pow_zero, Nat.one_mul, Nat.mod_eq_of_lt hq]
    rw [e5] at next
    exact next
  · rw [show is01 w = false from c3] at hK
    conv => whnf
    exact hK
/-! conjugates by their least one -/
theorem lcj_mn {n m a : Nat} : ∀ j q, lcj n m j (cjn n m a q) (mnS (cjn n m a) q) = mnS (cjn n m a) (q + j)
  | 0, q => rfl
  | j + 1, q => by
    show lcj n m j (fm n m (cjn n m a q) (cjn n m a q)) (min (mnS (cjn n m a) q) (fm n m (cjn n m a q) (cjn n m a q))) = _
    have e : fm n m (cjn n m a q) (cjn n m a q) = cjn n m a (q + 1) := (sqn_succ q a).symm
    rw [e, show q + (j + 1) = (q + 1) + j by omega]
    exact lcj_mn j (q + 1)
theorem lcj_eq {n m a : Nat} : lcj n m (n - 1) a a = mnS (cjn n m a) (n - 1) := by
  have := lcj_mn (n := n) (m := m) (a := a) (n - 1) 0
  rw [Nat.zero_add] at this
  exact this
theorem cjn_mod {n m a : Nat} (hG : GF n m) (ha : a < 2 ^ n) (i : Nat) : sqn n m i a = sqn n m (i % n) a := by
  have e : i = n * (i / n) + i % n := (Nat.div_add_mod i n).symm
  have h1 := sqn_per a (hG.2 a ha) (i / n)
  calc sqn n m i a = sqn n m (n * (i / n) + i % n) a := congrArg (fun z => sqn n m z a) e
    _ = sqn n m (i % n) a := by rw [sqn_add, h1]
theorem lcj_iff {n m a b : Nat} (hG : GF n m) (ha : a < 2 ^ n) (hb : b < 2 ^ n) : lcj n m (n - 1) a a = lcj n m (n - 1) b b ↔ ∃ i, sqn n m i a = b := by
  have hn := hG.1.1.1
  rw [lcj_eq, lcj_eq]
  obtain ⟨⟨i, i1, i2⟩, hi⟩ := mnS_ok (cjn n m a) (n - 1)
  obtain ⟨⟨j, j1, j2⟩, hj⟩ := mnS_ok (cjn n m b) (n - 1)
  have le : ∀ x y, x < 2 ^ n → (∃ t, sqn n m t x = y) → mnS (cjn n m x) (n - 1) ≤ mnS (cjn n m y) (n - 1) := by
    rintro x y hx ⟨t, rfl⟩
    obtain ⟨⟨k, k1, k2⟩, -⟩ := mnS_ok (cjn n m (sqn n m t x)) (n - 1)
    rw [k2]
    have e : cjn n m (sqn n m t x) k = cjn n m x ((t + k) % n) := by
      unfold cjn
      rw [← sqn_add, cjn_mod hG hx]
    rw [e]
    exact (mnS_ok (cjn n m x) (n - 1)).2 _ (by have := Nat.mod_lt (t + k) (show 0 < n by omega); omega)
  constructor
  · intro h
    rw [i2, j2] at h
    refine ⟨i + (n - j), ?_⟩
    have h : sqn n m i a = sqn n m j b := h
    rw [sqn_add, h, ← sqn_add, show j + (n - j) = n by omega, hG.2 b hb]
  · rintro ⟨t, rfl⟩
    refine Nat.le_antisymm (le a _ ha ⟨t, rfl⟩) (le _ a hb ⟨n - t % n, ?_⟩)
    have := Nat.mod_lt t (show 0 < n by omega)
    rw [cjn_mod hG ha t, ← sqn_add, show t % n + (n - t % n) = n by omega, hG.2 a ha]
theorem l_M_cdI {P : PSem} (S : SysOK P) {h : PH} (hw : WS h) {n m g t k : Nat} {all : Int64} (hn : n ≤ 12) (hM : MOD n m) (hnow : hI h 125 n = nI m) (hg : g < 2 ^ n) (hk : k ≤ 5) {K : PK} (hK : P.2 n_M_code 53 [some (.ref 116), some (.int (nI n)), some (.int (nI t)), some (.int (nI g)), some (.long all), none, some (.int (nI (k + 1))), some (.int (nI (fpw n m g (k + 1)))), some (.int (bI (nwB (fun i => lpB n m (fpw n m g (i + 1))) k))), none, none, none, none] [] h 0 0 K) : ∀ j q b, q + j = k → (b = true ↔ ∀ o, o < q → lpB n m (fpw n m g (o + 1)) ≠ lpB n m (fpw n m g (k + 1))) →
    P.2 n_M_code 33 [some (.ref 116), some (.int (nI n)), some (.int (nI t)), some (.int (nI g)), some (.long all), none, some (.int (nI (k + 1))), some (.int (nI (fpw n m g (k + 1)))), some (.int (bI b)), some (.int (nI (q + 1))), none, none, none] [] h 0 0 K := by
  have hG := all_GF hn hM
  have hm := hM.1
  have h12 := pow12 hn
  intro j
  induction j with
  | zero =>
    intro q b hq hb
    have e : q = k := by omega
    subst e
    refine S.at 60 [53] rfl ?_
    conv => whnf
    refine bk_t ((zn_le (by omega) (by omega)).mpr (by omega)) ?_
    conv => whnf
    have e2 : nwB (fun i => lpB n m (fpw n m g (i + 1))) q = b := by
      rw [Bool.eq_iff_iff, hb]
      unfold nwB
      rw [decide_eq_true_iff]
    rw [e2] at hK
    exact S.mk [(0, 1), (0, 1), (0, 1), (0, 1), (0, 1), (0, 0), (0, 1), (0, 1), (0, 1), (0, 0), (0, 0), (0, 0), (0, 0)] hK
  | succ j ih =>
    intro q b hq hb
    have p1 := fpw_lt hm hg (q + 1)
    have p2 := fpw_lt hm hg (k + 1)
    have l1 : lcj n m (n - 1) (fpw n m g (q + 1)) (fpw n m g (q + 1)) < 2 ^ n := by rw [lcj_eq]; exact mnS_lt (fun i => cjn_lt hm p1 i) _
    have l2 : lcj n m (n - 1) (fpw n m g (k + 1)) (fpw n m g (k + 1)) < 2 ^ n := by rw [lcj_eq]; exact mnS_lt (fun i => cjn_lt hm p2 i) _
    refine S.at 60 [53] rfl ?_
    conv => whnf
    refine bk_f (fun c => absurd ((zn_le (by omega) (by omega)).mp c) (by omega)) ?_
    conv => whnf
    refine ⟨wt_116 hw, ?_⟩
    conv => whnf
    refine c_M_powered S hw hn hm hnow hg (by omega) ?_
    conv => whnf
    refine ⟨wt_116 hw, ?_⟩
    conv => whnf
    refine c_M_leastConjugate S hw hn hm hnow p1 ?_
    conv => whnf
    refine ⟨wt_116 hw, ?_⟩
    conv => whnf
    refine c_M_leastConjugate S hw hn hm hnow p2 ?_
    conv => whnf
    have key : lcj n m (n - 1) (fpw n m g (q + 1)) (fpw n m g (q + 1)) = lcj n m (n - 1) (fpw n m g (k + 1)) (fpw n m g (k + 1)) ↔ lpB n m (fpw n m g (q + 1)) = lpB n m (fpw n m g (k + 1)) := (lcj_iff hG p1 p2).trans (lpB_eq hG p1 p2).symm
    refine bk_ne (by omega) (by omega) (fun c => ?_) (fun c => ?_)
    · conv => whnf
      have next := ih (q + 1) b (by omega) (by
        rw [hb]
        constructor
        · intro z o ho
          rcases Nat.eq_or_lt_of_le (Nat.le_of_lt_succ ho) with w | w
          · subst w
            exact fun y => c (key.mpr y)
          · exact z o w
        · intro z o ho
          exact z o (by omega))
      rw [← nI_1 (q + 1)] at next
      exact next
    · conv => whnf
      have next := ih (q + 1) false (by omega) ⟨fun z => (by cases z), fun z => absurd (key.mp c) (z q (by omega))⟩
      rw [← nI_1 (q + 1)] at next
      exact next
theorem l_M_cdS {P : PSem} (S : SysOK P) {h : PH} (hw : WS h) {n t g k D A pp : Nat} {c : Nat → Nat} (hD : D ≤ 12) (hc : ∀ i, c i = 0 ∨ c i = 1) (hi : ∀ i, i ≤ D → hI h 147 i = nI (c i)) (hp : ∀ i, i ≤ D → pp.testBit i = decide (c i = 1)) {K : PK} (hK : P.2 n_M_code 83 [some (.ref 116), some (.int (nI n)), some (.int (nI t)), some (.int (nI g)), some (.long (lN A)), none, some (.int (nI k)), none, none, none, some (.long (lN (clN A pp (D + 1)))), none, none] [] h 0 0 K) : ∀ j q, q + j = D + 1 →
    P.2 n_M_code 66 [some (.ref 116), some (.int (nI n)), some (.int (nI t)), some (.int (nI g)), some (.long (lN A)), none, some (.int (nI k)), none, none, some (.int (nI D)), some (.long (lN (clN A pp q))), none, some (.int (nI q))] [] h 0 0 K := by
  intro j
  induction j with
  | zero =>
    intro q hq
    have e : q = D + 1 := by omega
    subst e
    refine S.at 60 [83] rfl ?_
    conv => whnf
    refine bk_t ((zn_lt (by omega) (by omega)).mpr (by omega)) ?_
    conv => whnf
    exact S.mk [(0, 1), (0, 1), (0, 1), (0, 1), (0, 1), (0, 0), (0, 1), (0, 0), (0, 0), (0, 0), (0, 1), (0, 0), (0, 0)] hK
  | succ j ih =>
    intro q hq
    have next := ih (q + 1) (by omega)
    have e1 : clN A pp (q + 1) = clN A pp q ^^^ (if pp.testBit q then A <<< q else 0) := rfl
    rw [e1, hp q (by omega)] at next
    refine S.at 60 [83] rfl ?_
    conv => whnf
    refine bk_f (fun c => absurd ((zn_lt (by omega) (by omega)).mp c) (by omega)) ?_
    conv => whnf
    refine ⟨wt_116 hw, ?_⟩
    conv => whnf
    rw [wr_116_47 hw]
    refine ⟨inB_of (wt_147 hw) (wn_147 hw) (by omega) (by decide), ?_⟩
    conv => whnf
    rw [nI_clamp (by omega), hi q (by omega)]
    rcases hc q with w | w
    · rw [w]
      rw [w, if_neg (by decide), Nat.xor_zero, ← nI_1 q] at next
      refine bk_nt ((by decide)) ?_
      conv => whnf
      exact next
    · rw [w]
      rw [w, if_pos (by decide), ← zl_xor, ← zl_shl (by omega), ← nI_1 q] at next
      refine bk_nf (rfl) ?_
      conv => whnf
      exact next
theorem l_M_cdO {P : PSem} (S : SysOK P) {h0 : PH} {u : Nat → Nat} (hM0 : MJ h0 u) (hu : MDS u) {n t : Nat} (n1 : 1 ≤ n) (n2 : n ≤ 12) (ht : t ≤ 5) {K : PK} (hK : ∀ h', eqX mq h0 h' → K (.long (lN (cdS (cpt n (u n)) t))) h') : ∀ j q h, q + j = t → eqX mq h0 h →
    P.2 n_M_code 20 [some (.ref 116), some (.int (nI n)), some (.int (nI t)), some (.int (nI (lpF n (u n)))), some (.long (lN (cdS (cpt n (u n)) q))), none, some (.int (nI (q + 1))), none, none, none, none, none, none] [] h 0 0 K := by
  have hM := hu n n1 n2
  have hG := all_GF n2 hM
  have hm := hM.1
  have hpr := lpF_prim n2 hM
  intro j
  induction j with
  | zero =>
    intro q h hq he
    have e : q = t := by omega
    subst e
    refine S.at 60 [] rfl ?_
    conv => whnf
    refine bk_t ((zn_lt (by omega) (by omega)).mpr (by omega)) ?_
    conv => whnf
    exact hK h he
  | succ j ih =>
    intro q h hq he
    have hMh := MJ_eq he hM0
    have hw := hMh.1
    have hnow := hMh.2.1 n n1 n2
    have p1 := fpw_lt hm hpr.1 (q + 1)
    have e1 : cdS (cpt n (u n)) (q + 1) = if nwB (cpt n (u n)) q then cl (cdS (cpt n (u n)) q) (cpt n (u n) q) else cdS (cpt n (u n)) q := rfl
    have n85 : ∀ h' A, eqX mq h0 h' → A = cdS (cpt n (u n)) (q + 1) → ∀ x7 x8 x9 x10 x11 x12, P.2 n_M_code 85 [some (.ref 116), some (.int (nI n)), some (.int (nI t)), some (.int (nI (lpF n (u n)))), some (.long (lN A)), none, some (.int (nI (q + 1))), x7, x8, x9, x10, x11, x12] [] h' 0 0 K := by
      intro h' A a b x7 x8 x9 x10 x11 x12
      have next := ih (q + 1) h' (by omega) a
      rw [← b, ← nI_1 (q + 1)] at next
      refine S.mk [(0, 1), (0, 1), (0, 1), (0, 1), (0, 1), (0, 0), (0, 1), (0, 0), (0, 0), (0, 0), (0, 0), (0, 0), (0, 0)] ?_
      refine S.at 10 [] rfl ?_
      conv => whnf
      exact next
    refine S.at 60 [33, 85] rfl ?_
    conv => whnf
    refine bk_f (fun c => absurd ((zn_lt (by omega) (by omega)).mp c) (by omega)) ?_
    conv => whnf
    refine ⟨wt_116 hw, ?_⟩
    conv => whnf
    refine c_M_powered S hw n2 hm hnow hpr.1 (by omega) ?_
    conv => whnf
    refine l_M_cdI (k := q) (all := lN (cdS (cpt n (u n)) q)) S hw n2 hM hnow hpr.1 (by omega) ?_ q 0 true (by omega) ⟨fun _ o ho => by omega, fun _ => rfl⟩
    refine S.at 60 [66, 85] rfl ?_
    conv => whnf
    refine bk_b1 (fun c => ?_) (fun c => ?_)
    · have c : nwB (cpt n (u n)) q = true := c
      rw [c, if_pos rfl] at e1
      conv => whnf
      refine ⟨wt_116 hw, ?_⟩
      conv => whnf
      refine c_M_laysLeast (d := 1) S hw n2 hG hnow (Nat.one_dvd n) p1 (fun h' a1 a2 => ?_)
      obtain ⟨d1, d2, d3, d4⟩ := dgO_ok hG (Nat.one_dvd n) p1
      rw [Nat.div_one] at d2
      have hlb : lpB n (u n) (fpw n (u n) (lpF n (u n)) (q + 1)) < 2 ^ (dgO n (u n) 1 (fpw n (u n) (lpF n (u n)) (q + 1)) + 1) := (lbS_ok (lpD_01 hG p1) _).1
      conv => whnf
      refine S.mk [(0,1),(0,1),(0,1),(0,1),(0,1),(0,0),(0,1),(0,0),(0,0),(0,1),(0,1),(0,0),(0,1)] ?_
      refine l_M_cdS (pp := lpB n (u n) (fpw n (u n) (lpF n (u n)) (q + 1))) S (eqX_WS a1 hw) (by omega) (lpD_01 hG p1) (fun i hi => a2 i (by omega)) (fun i _ => lpB_bit hG p1 i) ?_ (dgO n (u n) 1 (fpw n (u n) (lpF n (u n)) (q + 1)) + 1) 0 (by omega)
      rw [clN_eq hlb]
      refine S.at 60 [85] rfl ?_
      conv => whnf
      exact n85 h' _ (eqX_tr he (m147_mq a1)) (by rw [e1]; rfl) _ _ _ _ _ _
    · have c : nwB (cpt n (u n)) q = false := c
      rw [c, if_neg (by decide)] at e1
      conv => whnf
      exact n85 h _ he e1.symm _ _ _ _ _ _
theorem okT_in {n t : Int32} : (decide ((2 : Int32) ≤ n ∧ n ≤ 12) && decide ((1 : Int32) ≤ t ∧ t ≤ 5)) = okT n t := by
  unfold okT okF
  congr 1
  rw [Bool.eq_iff_iff, Bool.and_eq_true, decide_eq_true_iff, decide_eq_true_iff, decide_eq_true_iff]
  constructor
  · rintro ⟨a, b⟩
    exact ⟨⟨Int32.le_trans (by decide) a, b⟩, a⟩
  · rintro ⟨⟨a, b⟩, c⟩
    exact ⟨c, b⟩
theorem c_M_code {P : PSem} (S : SysOK P) {h : PH} {u : Nat → Nat} (hM : MJ h u) (hu : MDS u) (n t : Int32) {K : PK} (hK : ∀ h', eqX mq h h' → K (.long (sCode u n t)) h') : P.1 n_M_code [.ref 116, .int n, .int t] h K := by
  have hw := hM.1
  unfold sCode at hK
  rw [← okT_in] at hK
  refine S.2.1 _ 13 _ _ _ rfl rfl ?_
  refine S.at 60 [20] rfl ?_
  conv => whnf
  refine c_M_in S _ _ _ ?_
  conv => whnf
  refine bk_b0 (fun c1 => ?_) (fun c1 => ?_)
  · rw [c1, Bool.false_and] at hK
    conv => whnf
    exact hK h (eqX_rf _ _)
  rw [c1, Bool.true_and] at hK
  conv => whnf
  refine c_M_in S _ _ _ ?_
  conv => whnf
  refine bk_b1 (fun c2 => ?_) (fun c2 => ?_)
  · rw [c2, if_pos rfl] at hK
    have c3 : okT n t = true := by rw [← okT_in, c1, c2]; rfl
    obtain ⟨k, q, k1, k2, rfl, rfl, q1, q2, -⟩ := okT_nat c3
    rw [nI_clamp (by omega), nI_clamp (by omega)] at hK
    conv => whnf
    refine ⟨wt_116 hw, ?_⟩
    conv => whnf
    refine c_M_leastPrimitive S hw k2 (hu k k1 k2) (hM.2.1 k k1 k2) ?_
    conv => whnf
    exact l_M_cdO S hM hu k1 k2 q1 hK q 0 h (by omega) (eqX_rf _ _)
  · rw [c2] at hK
    conv => whnf
    exact hK h (eqX_rf _ _)
