/-! CHANGE: the reference's hold and restore; places; names; counts -/
theorem l_M_hold {P : PSem} (S : SysOK P) {h0 : PH} (hw0 : WS h0) {u : Nat → Nat} {q : Nat} (hq : q < 3) (nw : NOW h0 u) {K : PK} (hK : ∀ h', eqX (fun k => k = 142) h0 h' → (∀ z, (∀ k, 1 ≤ k → k ≤ 12 → z ≠ 13 * q + k) → hI h' 142 z = hI h0 142 z) → (∀ k, 1 ≤ k → k ≤ 12 → hI h' 142 (13 * q + k) = nI (u k)) → P.2 n_M_hold 26 [some (.ref 116), some (.int (nI q)), none] [] h' 0 0 K) : ∀ j i h, i + j = 13 → 1 ≤ i → eqX (fun k => k = 142) h0 h → (∀ z, (∀ k, 1 ≤ k → k ≤ 12 → z ≠ 13 * q + k) → hI h 142 z = hI h0 142 z) → (∀ k, 1 ≤ k → k < i → hI h 142 (13 * q + k) = nI (u k)) → P.2 n_M_hold 9 [some (.ref 116), some (.int (nI q)), some (.int (nI i))] [] h 0 0 K := by
  intro j
  induction j with
  | zero =>
    intro i h hj hi f a1 a2
    have hj : i = 13 := by omega
    refine S.at 40 [26] rfl ?_
    conv => whnf
    refine bk_t ((zn_lt (a := 12) (by omega) (by omega)).mpr (by omega)) ?_
    conv => whnf
    refine S.mk [(0,1),(0,1),(0,0)] ?_
    exact hK h f a1 (fun k k1 k2 => a2 k k1 (by omega))
  | succ j ih =>
    intro i h hj hi f a1 a2
    have hw := eqX_WS f hw0
    have nwi : hI h 125 i = nI (u i) := by
      rw [f.2.2.2.2 125 (by decide)]
      exact nw i hi (by omega)
    have next := ih (i + 1) (sI h 142 (13 * q + i) (nI (u i))) (by omega) (by omega) (eqX_tr f (eqX_sI rfl)) (fun z hz => by
      rw [hI_sI_j (hz i hi (by omega))]
      exact a1 z hz) (fun k y1 y2 => by
      rcases Nat.lt_or_ge k i with z | z
      · rw [hI_sI_j (by omega)]
        exact a2 k y1 z
      · have : k = i := by omega
        rw [this, hI_sI])
    rw [← nI_1 i] at next
    refine S.at 40 [26] rfl ?_
    conv => whnf
    refine bk_f (fun c => absurd ((zn_lt (a := 12) (by omega) (by omega)).mp c) (by omega)) ?_
    conv => whnf
    refine ⟨wt_116 hw, ?_⟩
    conv => whnf
    rw [wr_116_42 hw]
    rw [show (fun x y : Int32 => x + y) ((fun x y : Int32 => x * y) 13 (nI q)) (nI i) = nI (13 * q + i) from by rw [show (fun x y : Int32 => x * y) 13 (nI q) = nI (13 * q) from (zn_tms 13 _).symm]; exact (zn_plus _ _).symm]
    refine ⟨wt_116 hw, ?_⟩
    conv => whnf
    rw [wr_116_18 hw]
    refine ⟨inB_of (wt_125 hw) (wn_125 hw) (show i < 13 by omega) (by decide), ?_⟩
    conv => whnf
    rw [nI_clamp (show i < 2 ^ 31 by omega), nwi]
    refine ⟨⟨by decide, inB_of (wt_142 hw) (wn_142 hw) (show 13 * q + i < 39 by omega) (by decide)⟩, ?_⟩
    conv => whnf
    rw [nI_clamp (show 13 * q + i < 2 ^ 31 by omega)]
    exact next
theorem in_dec (w : Int32) : (w < 0 ∨ 3 ≤ w → decide ((0 : Int32) ≤ w ∧ w ≤ 2) = false) ∧ (∀ q, q < 3 → w = nI q → decide ((0 : Int32) ≤ w ∧ w ≤ 2) = true) := by
  refine ⟨fun c => ?_, fun q hq e => ?_⟩
  · rw [decide_eq_false_iff_not]
    intro y
    rcases c with c | c
    · exact absurd (Int32.lt_of_le_of_lt y.1 c) (by decide)
    · exact absurd (Int32.le_trans c y.2) (by decide)
  · rw [e, decide_eq_true_iff]
    exact ⟨(zn_le (a := 0) (by decide) (by omega)).mpr (Nat.zero_le q), (zn_le (b := 2) (by omega) (by decide)).mpr (by omega)⟩
theorem c_M_hold {P : PSem} (S : SysOK P) {h : PH} {u tx : Nat → Nat} {L : Nat} {l0 : Nat → Int64} {f0 : Nat → Int32} (r0 : RST h u tx L l0 f0) {g : Nat → Option (Nat → Nat)} (ml : ML h g) {w : Int32} {K : PK}
    (hN : (w < 0 ∨ 3 ≤ w) → K (.int 0) h)
    (hY : ∀ q, q < 3 → w = nI q → ∀ h', RST h' u tx L l0 f0 → ML h' (fun k => if k = q then some u else g k) → eqY (fun k => k = 142 ∨ k = 143) h h' → K (.int 1) h') : P.1 n_M_hold [.ref 116, .int w] h K := by
  have hw := r0.1.1
  refine S.2.1 _ 3 _ _ _ rfl rfl ?_
  refine S.at 40 [9] rfl ?_
  conv => whnf
  refine c_M_in S _ _ _ ?_
  conv => whnf
  rcases pk_ix w (n := 3) (by decide) with c | c | ⟨q, hq, rfl⟩
  · rw [(in_dec w).1 (Or.inl c)]
    refine bk_nf (rfl) ?_
    conv => whnf
    exact ⟨Or.inl rfl, hN (Or.inl c)⟩
  · have c : (3 : Int32) ≤ w := c
    rw [(in_dec w).1 (Or.inr c)]
    refine bk_nf (rfl) ?_
    conv => whnf
    exact ⟨Or.inl rfl, hN (Or.inr c)⟩
  · rw [(in_dec (nI q)).2 q hq rfl]
    refine bk_nt (by decide) ?_
    conv => whnf
    refine l_M_hold S hw hq r0.1.2.1 ?_ 12 1 h rfl (Nat.le_refl 1) (eqX_rf _ _) (fun z hz => rfl) (fun k y1 y2 => absurd y1 (by omega))
    intro h1 f1 a1 a2
    have hw1 := eqX_WS f1 hw
    refine S.at 40 [] rfl ?_
    conv => whnf
    refine ⟨wt_116 hw1, ?_⟩
    conv => whnf
    rw [wr_116_43 hw1]
    refine ⟨Or.inr (inB_of (wt_143 hw1) (wn_143 hw1) hq (by decide)), ?_⟩
    try rw [nI_clamp (show q < 2 ^ 31 by omega)]
    rw [wt_143 hw1]
    conv => whnf
    have ff : eqY (fun k => k = 142 ∨ k = 143) h (sI h1 143 q 1) := eqY_tr (eqY_mono (fun k hk => Or.inl hk) f1.y) (eqY_sI (Or.inr rfl))
    refine ⟨Or.inr rfl, hY q hq rfl _ (r0.fr (J := fun _ => False) ⟨ff, fun j _ => congrFun (ff.2.2.2 116 (by decide)).1 j⟩ id id (fun k y1 y2 y3 => by omega) (by decide)) (fun r hr => ?_) ff⟩
    show ((if r = q then some u else g r) = none → hI (sI h1 143 q 1) 143 r = 0) ∧ ∀ v, (if r = q then some u else g r) = some v → hI (sI h1 143 q 1) 143 r = 1 ∧ ∀ k, 1 ≤ k → k ≤ 12 → hI (sI h1 143 q 1) 142 (13 * r + k) = nI (v k)
    by_cases e : r = q
    · rw [e, if_pos rfl]
      refine ⟨fun y => absurd y (by simp), fun v hv => ⟨hI_sI, fun k k1 k2 => ?_⟩⟩
      rw [← Option.some.inj hv, hI_ne (by decide)]
      exact a2 k k1 k2
    · rw [if_neg e, hI_sI_j e, f1.2.2.2.2 143 (by decide)]
      refine ⟨(ml r hr).1, fun v hv => ⟨((ml r hr).2 v hv).1, fun k k1 k2 => ?_⟩⟩
      rw [hI_ne (by decide), a1 _ (fun j j1 j2 => by omega)]
      exact ((ml r hr).2 v hv).2 k k1 k2
theorem c_M_restore {P : PSem} (S : SysOK P) {h : PH} {u tx : Nat → Nat} {L : Nat} {l0 : Nat → Int64} {f0 : Nat → Int32} (r0 : RST h u tx L l0 f0) {g : Nat → Option (Nat → Nat)} (ml : ML h g) {w : Int32} {K : PK}
    (hN : (w < 0 ∨ 3 ≤ w ∨ ∃ q, q < 3 ∧ w = nI q ∧ g q = none) → K (.int 0) h)
    (hY : ∀ q v, q < 3 → w = nI q → g q = some v → GOOD tx L l0 v ∧ ∀ h', RST h' v tx L l0 f0 → hI h' 116 41 = nI 0 → eqY (fun k => k = 116 ∨ LA2 k) h h' → (∀ j, j ≠ 41 → hI h' 116 j = hI h 116 j) → K (.int 1) h') : P.1 n_M_restore [.ref 116, .int w] h K := by
  have hw := r0.1.1
  refine S.go 60 rfl rfl rfl ?_
  conv => whnf
  refine c_M_in S _ _ _ ?_
  conv => whnf
  rcases pk_ix w (n := 3) (by decide) with c | c | ⟨q, hq, rfl⟩
  · rw [(in_dec w).1 (Or.inl c)]
    refine bk_t (rfl) ?_
    conv => whnf
    exact ⟨Or.inl rfl, hN (Or.inl c)⟩
  · have c : (3 : Int32) ≤ w := c
    rw [(in_dec w).1 (Or.inr c)]
    refine bk_t (rfl) ?_
    conv => whnf
    exact ⟨Or.inl rfl, hN (Or.inr (Or.inl c))⟩
  · rw [(in_dec (nI q)).2 q hq rfl]
    refine bk_f (by decide) ?_
    conv => whnf
    refine ⟨wt_116 hw, ?_⟩
    conv => whnf
    rw [wr_116_43 hw]
    refine ⟨Or.inr (inB_of (wt_143 hw) (wn_143 hw) hq (by decide)), ?_⟩
    conv => whnf
    rw [nI_clamp (by omega)]
    cases hg : g q with
    | none =>
      rw [(ml q hq).1 hg]
      refine bk_nf (rfl) ?_
      conv => whnf
      exact ⟨Or.inl rfl, hN (Or.inr (Or.inr ⟨q, hq, rfl, hg⟩))⟩
    | some v =>
      obtain ⟨gd, hY⟩ := hY q v hq rfl hg
      obtain ⟨l1, l2⟩ := (ml q hq).2 v hg
      rw [l1]
      refine bk_nt (by decide) ?_
      conv => whnf
      refine ⟨wt_116 hw, ?_⟩
      conv => whnf
      rw [wr_116_42 hw]
      rw [show (fun x y : Int32 => x * y) 13 (nI q) = nI (13 * q) from (zn_tms 13 _).symm]
      refine ⟨wt_116 hw, ?_⟩
      refine c_M_lays2 S r0 (R := 142) (N := 39) (wt_142 hw) (wn_142 hw) (by decide) (by omega) (by decide) gd l2 ?_
      intro h1 f1 r1
      have hw1 := eqY_WS f1 hw
      conv => whnf
      refine ⟨wt_116 hw1, ?_⟩
      conv => whnf
      refine ⟨Or.inr rfl, hY _ (r1.fr (J := fun j => j = 41) (A := fun k => k = 116) (MNX_J rfl rfl) (by decide) (by decide) (fun k _ _ _ => by omega) (by decide)) (by rw [hI_sI]; rfl) (eqY_tr (eqY_mono (fun k hk => Or.inr hk) f1) (eqY_sI (Or.inl rfl))) (fun j hj => ?_)⟩
      rw [hI_sI_j hj, (f1.2.2.2 116 (by unfold LA2; omega)).1]
theorem c_FT_place {P : PSem} (S : SysOK P) {h : PH} (hw : WS h) {K : PK} (hK : K (.int (hI h 5 11)) h) : P.1 n_FT_place [.ref 5] h K := by
  refine S.go 10 rfl rfl rfl ?_
  conv => whnf
  refine ⟨wt_5 hw, ?_⟩
  conv => whnf
  exact hK
theorem c_M_place {P : PSem} (S : SysOK P) {h : PH} (hw : WS h) {K : PK} (hK : K (.int (hI h 116 16)) h) : P.1 n_M_place [.ref 116] h K := by
  refine S.go 10 rfl rfl rfl ?_
  conv => whnf
  refine ⟨wt_116 hw, ?_⟩
  conv => whnf
  exact hK
/-! names -/
noncomputable def ltV (u : Nat → Nat) (n a : Nat) (w : Int32) : Int32 := if w = 0 then nI n else if w = 1 then nI a else if w = 2 then nI (dgO n (u n) 1 a) else if w = 3 then nI (lowF n (u n) (imF u (dgO n (u n) 1 a) n) (dgO n (u n) 1 a) a) else -1
theorem c_FT_let {P : PSem} (S : SysOK P) {h : PH} {u tx : Nat → Nat} {L : Nat} {l0 : Nat → Int64} {f0 s0 m0 : Nat → Int32} {s s' : Nat} (c0 : CST h u tx L l0 f0 s0 m0 s s') (hu : MDS u) {i w : Int32} {K : PK}
    (hN : (i < 0 ∨ nI (cnm tx L (pT (tkk tx L))) ≤ i) → K (.int (-1)) h)
    (hY : ∀ q, q < cnm tx L (pT (tkk tx L)) → i = nI q → ∀ h', CI h' u (imF u) → FQ h h' → K (.int (ltV u (rNF tx L (pT (tkk tx L)) q) ((mst tx L l0 u (pT (tkk tx L))).2.2.2 q) w)) h') : P.1 n_FT_let [.ref 5, .int i, .int w] h K := by
  obtain ⟨hC, ⟨r9, r10, ss⟩, sct, tt, en, nv, sta⟩ := c0
  have hw := hC.1
  have hs := ss.l
  have c8 := (cnm_le (tx := tx) (L := L) (t := pT (tkk tx L)) (Nat.le_refl _)).1
  rcases pk_ix i (n := cnm tx L (pT (tkk tx L))) (by omega) with c | c | ⟨q, hq, rfl⟩
  · refine S.go 80 rfl rfl rfl ?_
    conv => whnf
    refine bk_t (c) ?_
    conv => whnf
    exact hN (Or.inl c)
  · have n0 : ¬ i < 0 := fun y => absurd (Int32.lt_of_le_of_lt (Int32.le_trans ((zn_le (a := 0) (by decide) (by omega)).mpr (Nat.zero_le _)) c) y) (by decide)
    refine S.go 80 rfl rfl rfl ?_
    conv => whnf
    refine bk_f (n0) ?_
    conv => whnf
    refine ⟨wt_5 hw, ?_⟩
    conv => whnf
    rw [r9]
    refine ⟨sc_t hw hs, ?_⟩
    conv => whnf
    rw [sct.2.1]
    refine bk_t (c) ?_
    conv => whnf
    exact hN (Or.inr c)
  · have hY := hY q hq rfl
    obtain ⟨n1, n2, n3⟩ := (RC_ok l0 f0 (pT (tkk tx L)) (Nat.le_refl _) tt.2.2).2.1 q hq
    have bl := (BND_ok l0 f0 hu (pT (tkk tx L)) (Nat.le_refl _) tt.2.2).1 q hq
    have nq := nv q hq
    revert n1 n2 n3 bl nq hY
    generalize rNF tx L (pT (tkk tx L)) q = n
    generalize (mst tx L l0 u (pT (tkk tx L))).2.2.2 q = a
    intro hY n1 n2 n3 bl nq
    have hm := (hu n n2 n3).1
    have hG := all_GF n3 (hu n n2 n3)
    have hF := hC.2.1 n n2 n3
    have pw := pow12 n3
    obtain ⟨d1, d2, d3, -⟩ := dgO_ok hG (Nat.one_dvd n) bl
    rw [Nat.one_mul] at d3
    have dv : dgO n (u n) 1 a ∣ n := Nat.dvd_of_mod_eq_zero (dgO_n hG bl)
    unfold ltV at hY
    refine S.go 80 rfl rfl rfl ?_
    conv => whnf
    refine bk_f (fun c => absurd ((zn_lt (b := 0) (by omega) (by omega)).mp c) (by omega)) ?_
    conv => whnf
    refine ⟨wt_5 hw, ?_⟩
    conv => whnf
    rw [r9]
    refine ⟨sc_t hw hs, ?_⟩
    conv => whnf
    rw [sct.2.1]
    refine bk_f (fun c => absurd ((zn_le (by omega) (by omega)).mp c) (by omega)) ?_
    conv => whnf
    refine bk_t ((zn_lt (b := 8) (by omega) (by omega)).mpr (by omega)) ?_
    conv => whnf
    refine ⟨wt_5 hw, ?_⟩
    conv => whnf
    rw [r9]
    refine ⟨sc_t hw hs, ?_⟩
    conv => whnf
    rw [sc_r8 hw hs]
    refine ⟨inB_of (sc_t7 hw hs) (sc_n7 hw hs) (show q < 8 by omega) (by decide), ?_⟩
    conv => whnf
    rw [nI_clamp (show q < 2 ^ 31 by omega), (sct.2.2.2 q).1, n1]
    refine ⟨wt_5 hw, ?_⟩
    conv => whnf
    rw [wr_5_4 hw]
    refine ⟨inB_of (wt_88 hw) (wn_88 hw) (show q < 8 by omega) (by decide), ?_⟩
    conv => whnf
    rw [nI_clamp (show q < 2 ^ 31 by omega), nq]
    refine c_FT_isElement S _ _ ?_
    conv => whnf
    rw [okE_of n2 n3 bl]
    refine bk_nt (by decide) ?_
    conv => whnf
    refine ⟨fun e => ?_, fun e0 => ?_⟩
    · rw [if_pos e] at hY
      conv => whnf
      exact hY h hC (FQ_rf h)
    rw [if_neg e0] at hY
    refine ⟨fun e => ?_, fun e1 => ?_⟩
    · rw [if_pos e] at hY
      conv => whnf
      exact hY h hC (FQ_rf h)
    rw [if_neg e1] at hY
    refine ⟨fun e => ?_, fun e2 => ?_⟩
    · rw [if_pos e] at hY
      conv => whnf
      refine ⟨wt_5 hw, ?_⟩
      conv => whnf
      try rw [wr_5_1 hw]
      refine ⟨wt_8 hw, ?_⟩
      conv => whnf
      try rw [wr_8_0 hw]
      refine ⟨Or.inl (wi_in9 hw n2 n3), ?_⟩
      conv => whnf
      rw [nI_clamp (show n < 2 ^ 31 by omega), wi_fld hw n2 n3]
      refine ⟨hF.1, ?_⟩
      refine c_Field_degreeOf S hF n3 hG bl ?_
      exact hY h hC (FQ_rf h)
    rw [if_neg e2] at hY
    refine ⟨fun e => ?_, fun e3 => ?_⟩
    · rw [if_pos e] at hY
      conv => whnf
      refine ⟨wt_5 hw, ?_⟩
      conv => whnf
      rw [wr_5_1 hw]
      refine ⟨wt_8 hw, ?_⟩
      refine c_Tower_prepare S hu (img_ex hu) n2 n3 hC ?_
      intro h1 hC1 q1 im1
      have hw1 := hC1.1
      have hF1 := hC1.2.1 n n2 n3
      conv => whnf
      refine ⟨wt_5 hw1, ?_⟩
      conv => whnf
      rw [wr_5_1 hw1]
      refine ⟨wt_5 hw1, ?_⟩
      conv => whnf
      try rw [wr_5_1 hw1]
      refine ⟨wt_8 hw1, ?_⟩
      conv => whnf
      try rw [wr_8_0 hw1]
      refine ⟨Or.inl (wi_in9 hw1 n2 n3), ?_⟩
      conv => whnf
      rw [nI_clamp (show n < 2 ^ 31 by omega), wi_fld hw1 n2 n3]
      refine ⟨hF1.1, ?_⟩
      refine c_Field_degreeOf S hF1 n3 hG bl ?_
      conv => whnf
      refine ⟨wt_8 hw1, ?_⟩
      refine c_Tower_lowF S hC1 hu n2 n3 d1 dv (im1 n n2 (Nat.dvd_refl n)) bl d3 ?_
      intro h2 hC2 q2
      exact hY h2 hC2 (FQ_tr q1 q2)
    · rw [if_neg e3] at hY
      conv => whnf
      exact hY h hC (FQ_rf h)
theorem c_M_let {P : PSem} (S : SysOK P) {h : PH} {u tx : Nat → Nat} {L : Nat} {l0 : Nat → Int64} {f0 : Nat → Int32} (r0 : RST h u tx L l0 f0) (hu : MDS u) {i w : Int32} {K : PK}
    (hN : (i < 0 ∨ nI (cnm tx L (pT (tkk tx L))) ≤ i) → K (.int (-1)) h)
    (hY : ∀ q, q < cnm tx L (pT (tkk tx L)) → i = nI q → K (.int (ltV u (rNF tx L (pT (tkk tx L)) q) ((mst tx L l0 u (pT (tkk tx L))).2.2.2 q) w)) h) : P.1 n_M_let [.ref 116, .int i, .int w] h K := by
  obtain ⟨hM, ky, tt, rv, en, nv⟩ := r0
  have hw := hM.1
  have c8 := (cnm_le (tx := tx) (L := L) (t := pT (tkk tx L)) (Nat.le_refl _)).1
  have mm : (i < 0 ∨ nI (cnm tx L (pT (tkk tx L))) ≤ i) → decide ((0 : Int32) ≤ i ∧ i ≤ nI (cnm tx L (pT (tkk tx L))) - 1) = false := by
    intro c
    rw [decide_eq_false_iff_not]
    intro y
    rcases c with c | c
    · exact absurd (Int32.lt_of_le_of_lt y.1 c) (by decide)
    · have := Int32.le_trans c y.2
      rcases Nat.eq_zero_or_pos (cnm tx L (pT (tkk tx L))) with z | z
      · rw [z] at this
        exact absurd this (by decide)
      · rw [show nI (cnm tx L (pT (tkk tx L))) - 1 = nI (cnm tx L (pT (tkk tx L)) - 1) from zn_mns (b := 1) z, zn_le (by omega) (by omega)] at this
        omega
  refine S.go 80 rfl rfl rfl ?_
  conv => whnf
  refine ⟨wt_116 hw, ?_⟩
  conv => whnf
  rw [rv.1]
  refine c_M_in S _ _ _ ?_
  conv => whnf
  rcases pk_ix i (n := cnm tx L (pT (tkk tx L))) (by omega) with c | c | ⟨q, hq, rfl⟩
  · rw [mm (Or.inl c)]
    refine bk_nf (rfl) ?_
    conv => whnf
    exact hN (Or.inl c)
  · rw [mm (Or.inr c)]
    refine bk_nf (rfl) ?_
    conv => whnf
    exact hN (Or.inr c)
  · have hY := hY q hq rfl
    have tr : decide ((0 : Int32) ≤ nI q ∧ nI q ≤ nI (cnm tx L (pT (tkk tx L))) - 1) = true := by
      rw [decide_eq_true_iff, show nI (cnm tx L (pT (tkk tx L))) - 1 = nI (cnm tx L (pT (tkk tx L)) - 1) from zn_mns (b := 1) (by omega)]
      exact ⟨(zn_le (a := 0) (by decide) (by omega)).mpr (Nat.zero_le _), (zn_le (by omega) (by omega)).mpr (by omega)⟩
    rw [tr]
    obtain ⟨-, n2, n3⟩ := (RC_ok l0 f0 (pT (tkk tx L)) (Nat.le_refl _) tt.2.2).2.1 q hq
    have bl := (BND_ok l0 f0 hu (pT (tkk tx L)) (Nat.le_refl _) tt.2.2).1 q hq
    have nq := nv q hq
    have nf := rv.2.2.1 q hq
    revert n2 n3 bl nq hY nf
    generalize rNF tx L (pT (tkk tx L)) q = n
    generalize (mst tx L l0 u (pT (tkk tx L))).2.2.2 q = a
    intro hY n2 n3 bl nq nf
    have hm := (hu n n2 n3).1
    have hG := all_GF n3 (hu n n2 n3)
    obtain ⟨d1, d2, d3, -⟩ := dgO_ok hG (Nat.one_dvd n) bl
    rw [Nat.one_mul] at d3
    have dv : dgO n (u n) 1 a ∣ n := Nat.dvd_of_mod_eq_zero (dgO_n hG bl)
    have nw := hM.2.1 n n2 n3
    unfold ltV at hY
    refine bk_nt (by decide) ?_
    conv => whnf
    refine ⟨wt_116 hw, ?_⟩
    conv => whnf
    rw [wr_116_26 hw]
    refine ⟨inB_of (wt_131 hw) (wn_131 hw) (show q < 8 by omega) (by decide), ?_⟩
    conv => whnf
    rw [nI_clamp (show q < 2 ^ 31 by omega), nf]
    refine ⟨wt_116 hw, ?_⟩
    conv => whnf
    rw [wr_116_27 hw]
    refine ⟨inB_of (wt_132 hw) (wn_132 hw) (show q < 8 by omega) (by decide), ?_⟩
    conv => whnf
    rw [nI_clamp (show q < 2 ^ 31 by omega), nq]
    refine ⟨wt_116 hw, ?_⟩
    refine c_M_degreeOf S hw n3 hG nw bl ?_
    conv => whnf
    refine ⟨fun e => ?_, fun e0 => ?_⟩
    · rw [if_pos e] at hY
      conv => whnf
      exact hY
    rw [if_neg e0] at hY
    refine ⟨fun e => ?_, fun e1 => ?_⟩
    · rw [if_pos e] at hY
      conv => whnf
      refine ⟨wt_116 hw, ?_⟩
      conv => whnf
      rw [wr_116_27 hw]
      refine ⟨inB_of (wt_132 hw) (wn_132 hw) (show q < 8 by omega) (by decide), ?_⟩
      conv => whnf
      rw [nI_clamp (show q < 2 ^ 31 by omega), nq]
      exact hY
    rw [if_neg e1] at hY
    refine ⟨fun e => ?_, fun e2 => ?_⟩
    · rw [if_pos e] at hY
      conv => whnf
      exact hY
    rw [if_neg e2] at hY
    refine ⟨fun e => ?_, fun e3 => ?_⟩
    · rw [if_pos e] at hY
      conv => whnf
      refine ⟨wt_116 hw, ?_⟩
      conv => whnf
      rw [wr_116_27 hw]
      refine ⟨inB_of (wt_132 hw) (wn_132 hw) (show q < 8 by omega) (by decide), ?_⟩
      conv => whnf
      rw [nI_clamp (show q < 2 ^ 31 by omega), nq]
      refine ⟨wt_116 hw, ?_⟩
      refine c_M_lowF S hM hu n2 n3 d1 dv bl d3 ?_
      exact hY
    · rw [if_neg e3] at hY
      conv => whnf
      exact hY
