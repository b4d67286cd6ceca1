/-! CHANGE: the reference's change, hold and restore -/
theorem l_M_earlier {P : PSem} (S : SysOK P) {h0 : PH} (hw0 : WS h0) {n w b : Nat} {v : Nat → Nat} (hb : b < 30) (hn : n ≤ 12) (nw : NOW h0 v) {K : PK} (hK : ∀ h', eqX (fun k => k = 141) h0 h' → (∀ q, (∀ k, 1 ≤ k → k ≤ 12 → q ≠ 13 * b + k) → hI h' 141 q = hI h0 141 q) → (∀ k, 1 ≤ k → k ≤ 12 → hI h' 141 (13 * b + k) = nI (updM v n w k)) → P.2 n_M_change 96 [some (.ref 116), some (.int (nI n)), none, some (.int (nI w)), some (.int (nI (13 * b))), none] [] h' 0 0 K) : ∀ j i h, i + j = 13 → 1 ≤ i → eqX (fun k => k = 141) h0 h → (∀ q, (∀ k, 1 ≤ k → k ≤ 12 → q ≠ 13 * b + k) → hI h 141 q = hI h0 141 q) → (∀ k, 1 ≤ k → k < i → hI h 141 (13 * b + k) = nI (updM v n w k)) → P.2 n_M_change 76 [some (.ref 116), some (.int (nI n)), none, some (.int (nI w)), some (.int (nI (13 * b))), some (.int (nI i))] [] h 0 0 K := by
  intro j
  induction j with
  | zero =>
    intro i h hj hi f a1 a2
    have hj : i = 13 := by omega
    refine S.at 40 [96] rfl ?_
    conv => whnf
    refine bk_t ((zn_lt (a := 12) (by omega) (by omega)).mpr (by omega)) ?_
    conv => whnf
    refine S.mk [(0,1),(0,1),(0,0),(0,1),(0,1),(0,0)] ?_
    exact hK h f a1 (fun k k1 k2 => a2 k k1 (by omega))
  | succ j ih =>
    intro i h hj hi f a1 a2
    have hw := eqX_WS f hw0
    have nwi : hI h 125 i = nI (v i) := by
      rw [f.2.2.2.2 125 (by decide)]
      exact nw i hi (by omega)
    have next := ih (i + 1) (sI h 141 (13 * b + i) (nI (updM v n w i))) (by omega) (by omega) (eqX_tr f (eqX_sI rfl)) (fun q hq => by
      rw [hI_sI_j (hq i hi (by omega))]
      exact a1 q hq) (fun k y1 y2 => by
      rcases Nat.lt_or_ge k i with z | z
      · rw [hI_sI_j (by omega)]
        exact a2 k y1 z
      · have : k = i := by omega
        rw [this, hI_sI])
    rw [← nI_1 i] at next
    have g93 : ∀ x : Int32, x = nI (updM v n w i) → P.2 n_M_change 93 [some (.ref 116), some (.int (nI n)), none, some (.int (nI w)), some (.int (nI (13 * b))), some (.int (nI i))] [.int x, .int (nI (13 * b + i)), .ref 141] h 0 0 K := by
      intro x hx
      rw [hx]
      refine S.at 20 [] rfl ?_
      conv => whnf
      refine ⟨⟨by decide, inB_of (wt_141 hw) (wn_141 hw) (show 13 * b + i < 390 by omega) (by decide)⟩, ?_⟩
      conv => whnf
      rw [nI_clamp (by omega)]
      exact next
    have ui : updM v n w i = if i = n then w else v i := rfl
    refine S.at 40 [93] rfl ?_
    conv => whnf
    refine bk_f (fun c => absurd ((zn_lt (a := 12) (by omega) (by omega)).mp c) (by omega)) ?_
    conv => whnf
    refine ⟨wt_116 hw, ?_⟩
    conv => whnf
    rw [wr_116_39 hw]
    rw [show (fun x y : Int32 => x + y) (nI (13 * b)) (nI i) = nI (13 * b + i) from (zn_plus _ _).symm]
    refine bk_ne (by omega) (by omega) (fun c => ?_) (fun c => ?_)
    · rw [if_neg c] at ui
      conv => whnf
      refine ⟨wt_116 hw, ?_⟩
      conv => whnf
      rw [wr_116_18 hw]
      refine ⟨inB_of (wt_125 hw) (wn_125 hw) (show i < 13 by omega) (by decide), ?_⟩
      conv => whnf
      rw [nI_clamp (show i < 2 ^ 31 by omega), nwi]
      exact g93 _ (by rw [ui])
    · rw [if_pos c] at ui
      conv => whnf
      exact g93 _ (by rw [ui])
theorem c_M_change {P : PSem} (S : SysOK P) {h : PH} {u tx : Nat → Nat} {L : Nat} {l0 : Nat → Int64} {f0 : Nat → Int32} (r0 : RST h u tx L l0 f0) (hu : MDS u) {H : List (Nat × Nat)} (m : MR h u H) {n p : Int32} {K : PK}
    (hN : (chB u n p = false ∨ (mst tx L l0 (updM u n.toNatClampNeg p.toNatClampNeg) (pT (tkk tx L))).1 ≠ none) → ∀ h', RST h' u tx L l0 f0 → MR h' u H → eqY LA2 h h' → K (.int 0) h')
    (hY : chB u n p = true → (mst tx L l0 (updM u n.toNatClampNeg p.toNatClampNeg) (pT (tkk tx L))).1 = none → ∀ h', RST h' (updM u n.toNatClampNeg p.toNatClampNeg) tx L l0 f0 → MR h' (updM u n.toNatClampNeg p.toNatClampNeg) (((n.toNatClampNeg, u n.toNatClampNeg) :: H).take 30) → eqY (fun k => k = 116 ∨ k = 141 ∨ LA2 k) h h' → (∀ j, j ≠ 40 → j ≠ 41 → hI h' 116 j = hI h 116 j) → K (.int 1) h') : P.1 n_M_change [.ref 116, .int n, .int p] h K := by
  have hw := r0.1.1
  have hs := r0.1.2.2.1
  have no : chB u n p = false → K (.int 0) h := fun z => hN (Or.inl z) h r0 m (eqY_rf _ _)
  unfold chB at no hY
  refine S.2.1 _ 6 _ _ _ rfl rfl ?_
  refine S.at 60 [19] rfl ?_
  conv => whnf
  refine c_M_isField S _ ?_
  conv => whnf
  cases hn : okF n with
  | false =>
    rw [hn] at no
    refine bk_t (rfl) ?_
    conv => whnf
    exact ⟨Or.inl rfl, no rfl⟩
  | true =>
    obtain ⟨k, k1, k2, rfl⟩ := okF_nat hn
    rw [nI_clamp (by omega)] at no hY hN
    rw [hn, Bool.true_and] at no hY
    have p12 : 2 ^ k ≤ 2 ^ 12 := Nat.pow_le_pow_right (by decide) k2
    have p13 : 2 ^ (k + 1) ≤ 2 ^ 13 := Nat.pow_le_pow_right (by decide) (by omega)
    have c12 : 2 ^ 12 = 4096 := by decide
    have c13 : 2 ^ 13 = 8192 := by decide
    refine bk_f (by decide) ?_
    conv => whnf
    refine ⟨wt_116 hw, ?_⟩
    refine c_M_isWhole S hw hs _ ?_
    conv => whnf
    have out : (∀ j, j < 8192 → p ≠ nI j) → isMB k p = false ∧ (decide ((2 : Int32) ≤ p ∧ p ≤ 8191) && irrT.testBit p.toNatClampNeg) = false := by
      intro z
      refine ⟨?_, ?_⟩
      · cases hb : isMB k p with
        | false => rfl
        | true =>
          obtain ⟨v, v1, v2, -⟩ := mb_nat k1 k2 hb
          exact absurd v2 (z v v1)
      · rw [decide_eq_false, Bool.false_and]
        intro y
        rcases pk_ix p (n := 8192) (by decide) with w | w | ⟨j, hj, w⟩
        · exact absurd (Int32.lt_of_le_of_lt y.1 w) (by decide)
        · exact absurd (Int32.le_trans w y.2) (by decide)
        · exact z j hj w
    rcases pk_ix p (n := 8192) (by decide) with w | w | ⟨v, hv8, rfl⟩
    · obtain ⟨o1, o2⟩ := out (fun j hj y => by
        rw [y] at w
        exact absurd ((zn_lt (b := 0) (by omega) (by decide)).mp w) (by omega))
      rw [o1] at no
      rw [o2]
      refine bk_t (rfl) ?_
      conv => whnf
      exact ⟨Or.inl rfl, no rfl⟩
    · obtain ⟨o1, o2⟩ := out (fun j hj y => by
        rw [y] at w
        exact absurd ((zn_le (a := 8192) (by decide) (by omega)).mp w) (by omega))
      rw [o1] at no
      rw [o2]
      refine bk_t (rfl) ?_
      conv => whnf
      exact ⟨Or.inl rfl, no rfl⟩
    · have mo := mb_ok k1 k2 hv8
      have wb : (decide ((2 : Int32) ≤ nI v ∧ nI v ≤ 8191) && irrT.testBit (nI v).toNatClampNeg) = (decide (2 ≤ v) && irrT.testBit v) := by
        rw [nI_clamp (by omega)]
        have a : ((2 : Int32) ≤ nI v) ↔ 2 ≤ v := zn_le (a := 2) (by decide) (by omega)
        have b : (nI v ≤ (8191 : Int32)) ↔ v ≤ 8191 := zn_le (b := 8191) (by omega) (by decide)
        rw [show decide ((2 : Int32) ≤ nI v ∧ nI v ≤ 8191) = decide (2 ≤ v) from decide_eq_decide.mpr (by rw [a, b]; omega)]
      rw [wb]
      rw [nI_clamp (by omega)] at hY hN
      refine bk_b0 (fun w => ?_) (fun w => ?_)
      · have nb : isMB k (nI v) = false := by
          rw [mo]
          by_cases q : 2 ≤ v
          · rw [decide_eq_true q, Bool.true_and] at w
            rw [w, Bool.and_false]
          · rw [decide_eq_false (fun p => q p.1), Bool.false_and]
        rw [nb] at no
        conv => whnf
        exact ⟨Or.inl rfl, no rfl⟩
      rw [Bool.and_eq_true, decide_eq_true_iff] at w
      rw [w.2, Bool.and_true] at mo
      have lg : v.log2 < 13 := by
        rw [Nat.log2_lt (by omega)]
        exact hv8
      conv => whnf
      refine c_M_degreeL S (by omega) ?_
      conv => whnf
      refine bk_ne (by omega) (by omega) (fun c => ?_) (fun c => ?_)
      · rw [mo, decide_eq_false (fun p => c p.2)] at no
        conv => whnf
        exact ⟨Or.inl rfl, no rfl⟩
      have hb : isMB k (nI v) = true := by
        rw [mo, decide_eq_true ⟨w.1, c⟩]
      obtain ⟨v', v1', v2', v3'⟩ := mb_nat k1 k2 hb
      have v3 : MOD k v := by
        rw [(zn_eq (by omega) (by omega)).mp v2']
        exact v3'
      rw [hb, Bool.true_and] at no hY
      have nwk := r0.1.2.1 k k1 k2
      have ul : u k < 8192 := by
        have := (hu k k1 k2).1.2.2
        omega
      conv => whnf
      refine ⟨wt_116 hw, ?_⟩
      conv => whnf
      rw [wr_116_18 hw]
      refine ⟨inB_of (wt_125 hw) (wn_125 hw) (show k < 13 by omega) (by decide), ?_⟩
      conv => whnf
      rw [nI_clamp (show k < 2 ^ 31 by omega), nwk]
      refine bk_ne (by omega) (by omega) (fun z => ?_) (fun z => ?_)
      rotate_left
      · conv => whnf
        exact ⟨Or.inl rfl, no (by rw [z, beq_self_eq_true]; rfl)⟩
      have cb : (!(nI v == nI (u k))) = true := by
        rw [Bool.not_eq_true', beq_eq_false_iff_ne]
        exact fun y => z ((zn_eq (by omega) (by omega)).mp y)
      have hY := hY cb
      have hv := upd_MDS hu v3
      have hw1 : WS (sI h 125 k (nI v)) := hw
      have nw1 : NOW (sI h 125 k (nI v)) (updM u k v) := fun q y1 y2 => by
        show _ = nI (if q = k then v else u q)
        by_cases e : q = k
        · rw [if_pos e, e, hI_sI]
        · rw [if_neg e, hI_sI_j e]
          exact r0.1.2.1 q y1 y2
      conv => whnf
      refine S.at 80 [46,64,76] rfl ?_
      conv => whnf
      refine ⟨wt_116 hw, ?_⟩
      conv => whnf
      rw [wr_116_18 hw]
      refine ⟨inB_of (wt_125 hw) (wn_125 hw) (show k < 13 by omega) (by decide), ?_⟩
      conv => whnf
      rw [nI_clamp (show k < 2 ^ 31 by omega), nwk]
      refine ⟨wt_116 hw, ?_⟩
      conv => whnf
      try rw [wr_116_18 hw]
      refine ⟨⟨by decide, inB_of (wt_125 hw) (wn_125 hw) (show k < 13 by omega) (by decide)⟩, ?_⟩
      conv => whnf
      try rw [nI_clamp (show k < 2 ^ 31 by omega)]
      refine ⟨wt_116 hw1, ?_⟩
      refine c_M_again S r0 hv (eqY_sI (Or.inl rfl)) nw1 ?_
      intro h2 f2 hw2 wk
      conv => whnf
      refine ⟨wt_116 hw2, ?_⟩
      refine wk _ ?_
      intro h3 f3
      have hw3 := eqY_WS f3 hw
      have m3 : MR h3 u H := MR_eq (by rw [(f3.2.2.2 116 (by unfold LA2; omega)).1]) (by rw [(f3.2.2.2 116 (by unfold LA2; omega)).1]) (f3.2.2.2 141 (by unfold LA2; omega)).1 m
      refine ⟨fun en r3 nw3 => ?_, fun q qb ep nw3 => ?_⟩
      · obtain ⟨e, e1, e2, e3, e4, e5⟩ := m3
        have fin : ∀ h4 e' (G : List (Nat × Nat)), e' < 30 → G.length < 30 → eqY (fun k => k = 116) h3 h4 → (∀ j, j ≠ 40 → j ≠ 41 → hI h4 116 j = hI h3 116 j) → hI h4 116 40 = nI e' → hI h4 116 41 = nI G.length → RG h3 e' u G → ((k, u k) :: H).take 30 = (k, u k) :: G → P.2 n_M_change 64 [some (.ref 116), some (.int (nI k)), some (.int (nI v)), some (.int (nI (u k))), none, none] [] h4 0 0 K := by
          intro h4 e' G b1 b2 f4 j4 b3 b4 b5 b6
          have hw4 := eqY_WS f4 hw3
          have nw4 : NOW h4 (updM u k v) := fun q y1 y2 => by
            rw [(f4.2.2.2 125 (by decide)).1]
            exact nw3 q y1 y2
          have rm : (e' + G.length) % 30 < 30 := Nat.mod_lt _ (by decide)
          refine S.at 60 [76] rfl ?_
          conv => whnf
          refine ⟨wt_116 hw4, ?_⟩
          conv => whnf
          rw [b3]
          refine ⟨wt_116 hw4, ?_⟩
          conv => whnf
          rw [b4]
          rw [show (fun x y : Int32 => x + y) (nI e') (nI G.length) = nI (e' + G.length) from (zn_plus _ _).symm]
          refine ⟨by decide, ?_⟩
          conv => whnf
          rw [show i_rem (nI (e' + G.length)) 30 = nI ((e' + G.length) % 30) from i_rem_n (d := 30) (by omega) (by decide) (by decide)]
          rw [show (fun x y : Int32 => x * y) 13 (nI ((e' + G.length) % 30)) = nI (13 * ((e' + G.length) % 30)) from (zn_tms 13 _).symm]
          refine S.mk [(0,1),(0,1),(0,0),(0,1),(0,1),(0,1)] ?_
          refine l_M_earlier S hw4 rm k2 nw4 ?_ 12 1 h4 rfl (Nat.le_refl 1) (eqX_rf _ _) (fun q hq => rfl) (fun q y1 y2 => absurd y1 (by omega))
          intro h5 f5 a1 a2
          have hw5 := eqX_WS f5 hw4
          have g41 : hI h5 116 41 = nI G.length := by
            rw [f5.2.2.2.2 116 (by decide)]
            exact b4
          rw [upd_back] at a2
          refine S.at 40 [] rfl ?_
          conv => whnf
          refine ⟨wt_116 hw5, ?_⟩
          conv => whnf
          rw [g41, show (fun x y : Int32 => x + y) (nI G.length) 1 = nI (G.length + 1) from nI_1 _]
          refine ⟨wt_116 hw5, ?_⟩
          conv => whnf
          have ff : eqY (fun k => k = 116 ∨ k = 141) h3 (sI h5 116 41 (nI (G.length + 1))) := eqY_tr (eqY_mono (fun k hk => Or.inl hk) f4) (eqY_tr (eqY_mono (fun k hk => Or.inr hk) f5.y) (eqY_sI (Or.inl rfl)))
          have jj : ∀ j, j ≠ 40 → j ≠ 41 → hI (sI h5 116 41 (nI (G.length + 1))) 116 j = hI h3 116 j := fun j y1 y2 => by
            rw [hI_sI_j y2, f5.2.2.2.2 116 (by decide)]
            exact j4 j y1 y2
          refine ⟨Or.inr rfl, hY en _ (r3.fr (J := fun j => j = 40 ∨ j = 41) ⟨ff, fun j y => jj j (fun q => y (Or.inl q)) (fun q => y (Or.inr q))⟩ (by decide) (by decide) (fun k y1 y2 y3 => by omega) (by decide)) ⟨e', b1, ?_, ?_, ?_, ?_⟩ (eqY_tr (eqY_mono (fun k hk => Or.inr (Or.inr hk)) f3) (eqY_mono (fun k hk => by omega) ff)) (fun j y1 y2 => ?_)⟩
          · rw [hI_sI_j (by decide), f5.2.2.2.2 116 (by decide)]
            exact b3
          · rw [b6, hI_sI]
            rfl
          · rw [List.length_take]
            omega
          · rw [b6]
            refine ⟨fun q y1 y2 => ?_, ?_⟩
            · show hI (sI h5 116 41 (nI (G.length + 1))) 141 (13 * ((e' + G.length) % 30) + q) = nI (updM (updM u k v) k (u k) q)
              rw [hI_ne (by decide), upd_back]
              exact a2 q y1 y2
            · show RG _ e' (updM (updM u k v) k (u k)) G
              rw [upd_back]
              refine RG_oth (b := G.length) G u (Nat.le_refl _) b2 (fun q hq => ?_) b5
              rw [hI_ne (by decide), a1 q hq, (f4.2.2.2 141 (by decide)).1]
          · rw [jj j y1 y2, (f3.2.2.2 116 (by unfold LA2; omega)).1]
        conv => whnf
        refine bk_t (by decide) ?_
        conv => whnf
        refine S.at 60 [64] rfl ?_
        conv => whnf
        refine ⟨wt_116 hw3, ?_⟩
        conv => whnf
        rw [e3]
        refine bk_ne (b := 30) (by omega) (by omega) (fun d => ?_) (fun d => ?_)
        · conv => whnf
          exact fin h3 e H e1 (by omega) (eqY_rf _ _) (fun j _ _ => rfl) e2 e3 e5 (List.take_of_length_le (by rw [List.length_cons]; omega))
        · have hw4 : WS (sI h3 116 40 (nI ((e + 1) % 30))) := hw3
          have rm : (e + 1) % 30 < 30 := Nat.mod_lt _ (by decide)
          conv => whnf
          refine ⟨wt_116 hw3, ?_⟩
          conv => whnf
          rw [e2]
          rw [show (fun x y : Int32 => x + y) (nI e) 1 = nI (e + 1) from nI_1 _]
          refine ⟨by decide, ?_⟩
          conv => whnf
          rw [show i_rem (nI (e + 1)) 30 = nI ((e + 1) % 30) from i_rem_n (d := 30) (by omega) (by decide) (by decide)]
          refine ⟨wt_116 hw3, ?_⟩
          conv => whnf
          refine ⟨wt_116 hw4, ?_⟩
          conv => whnf
          rw [hI_sI_j (by decide), e3, show (fun x y : Int32 => x - y) (nI H.length) 1 = nI 29 from by rw [d]; exact nI_d1 29]
          refine ⟨wt_116 hw4, ?_⟩
          conv => whnf
          have tl : (H.take 29).length = 29 := by rw [List.length_take]; omega
          refine fin (sI (sI h3 116 40 (nI ((e + 1) % 30))) 116 41 (nI 29)) ((e + 1) % 30) (H.take 29) rm (by omega) (eqY_tr (eqY_sI rfl) (eqY_sI rfl)) (fun j y1 y2 => by rw [hI_sI_j y2, hI_sI_j y1]) ?_ ?_ (RG_take 29 H u d (by decide) e5) rfl
          · rw [hI_sI_j (by decide), hI_sI]
          · rw [hI_sI, tl]
      · have hw4 : WS (sI h3 125 k (nI (u k))) := hw3
        have nw4 : NOW (sI h3 125 k (nI (u k))) u := fun q y1 y2 => by
          by_cases e : q = k
          · rw [e, hI_sI]
          · rw [hI_sI_j e, nw3 q y1 y2]
            show nI (if q = k then v else u q) = _
            rw [if_neg e]
        conv => whnf
        refine bk_f (fun c => absurd ((zn_lt (b := 0) (by omega) (by omega)).mp c) (by omega)) ?_
        conv => whnf
        refine ⟨wt_116 hw3, ?_⟩
        conv => whnf
        rw [wr_116_18 hw3]
        refine ⟨⟨by decide, inB_of (wt_125 hw3) (wn_125 hw3) (show k < 13 by omega) (by decide)⟩, ?_⟩
        conv => whnf
        rw [nI_clamp (show k < 2 ^ 31 by omega)]
        refine ⟨wt_116 hw4, ?_⟩
        refine c_M_again S r0 hu (eqY_tr f3 (eqY_sI (Or.inl rfl))) nw4 ?_
        intro h5 f5 hw5 wk5
        conv => whnf
        refine ⟨wt_116 hw5, ?_⟩
        refine wk5 _ ?_
        intro h6 f6
        refine ⟨fun en6 r6 _ => ?_, fun q6 _ ep6 _ => ?_⟩
        · conv => whnf
          exact ⟨Or.inl rfl, hN (Or.inr (by rw [ep]; simp)) h6 r6 (MR_eq (by rw [(f6.2.2.2 116 (by unfold LA2; omega)).1]) (by rw [(f6.2.2.2 116 (by unfold LA2; omega)).1]) (f6.2.2.2 141 (by unfold LA2; omega)).1 m) f6⟩
        · rw [r0.2.2.2.2.1] at ep6
          exact absurd ep6 (by simp)
