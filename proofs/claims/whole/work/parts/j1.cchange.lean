/-! CHANGE: the class's change, undo, hold and restore -/
noncomputable def GOOD (tx : Nat → Nat) (L : Nat) (l0 : Nat → Int64) (u : Nat → Nat) : Prop := MDS u ∧ (mst tx L l0 u (pT (tkk tx L))).1 = none
def chB (u : Nat → Nat) (n p : Int32) : Bool := okF n && isMB n.toNatClampNeg p && !(p == nI (u n.toNatClampNeg))
def K8 (k : Nat) : Prop := W6 k ∨ k = 88
theorem mb_nat {n : Nat} {p : Int32} (n1 : 1 ≤ n) (n2 : n ≤ 12) (h : isMB n p = true) : ∃ v, v < 8192 ∧ p = nI v ∧ MOD n v := by
  have p1 : 2 ^ n ≤ 2 ^ 12 := Nat.pow_le_pow_right (by decide) n2
  have c1 : 2 ^ 12 = 4096 := by decide
  have p2 : 2 ^ (n + 1) ≤ 2 ^ 13 := Nat.pow_le_pow_right (by decide) (by omega)
  have c2 : 2 ^ 13 = 8192 := by decide
  have h' := h
  unfold isMB at h'
  rw [Bool.and_eq_true, decide_eq_true_iff] at h'
  rcases pk_ix p (n := 2 ^ (n + 1)) (by omega) with w | w | ⟨j, hj, w⟩
  · have z : (0 : Int32) ≤ nI (2 ^ n) := (zn_le (a := 0) (b := 2 ^ n) (by decide) (by omega)).mpr (Nat.zero_le _)
    exact absurd (Int32.lt_of_le_of_lt (Int32.le_trans z h'.1.1) w) (by decide)
  · exact absurd (Int32.lt_of_le_of_lt w h'.1.2) Int32.lt_irrefl
  · rw [w, mb_ok n1 n2 (by omega), Bool.and_eq_true, decide_eq_true_iff] at h
    exact ⟨j, by omega, w, ⟨⟨n1, (Nat.log2_eq_iff (by omega)).mp h.1.2⟩, T_irr h.1.1 (by omega) h.2⟩⟩
theorem nt95 {k : Nat} (h : k < 149) (h2 : k < 8 ∨ (79 ≤ k ∧ k ≠ 95)) : ¬ twr k := by
  unfold twr scr
  omega
/-- the tower has moduli u: the text is worked out and its values are kept -/
theorem c_work_keep {P : PSem} (S : SysOK P) {h0 h : PH} {u0 u tx : Nat → Nat} {L : Nat} {l0 : Nat → Int64} {f0 s0 m0 : Nat → Int32} {s s' : Nat} (c0 : CST h0 u0 tx L l0 f0 s0 m0 s s') (hC : CI h u (imF u)) (hu : MDS u) {A : Nat → Prop} (f : FO A h0 h) (a1 : ∀ k, 96 ≤ k → k ≤ 115 → ¬ A k) (a3 : ∀ k, 2 ≤ k → k ≤ 4 → ¬ A k) {K : PK}
    (hK1 : (mst tx L l0 u (pT (tkk tx L))).1 = none → ∀ h', CI h' u (imF u) → FO W6 h h' → WS h' → CST (sCp h' 80 0 88 0 8) u tx L l0 f0 s0 m0 s s' → K (.int 1) h') (hK0 : ∀ p, (mst tx L l0 u (pT (tkk tx L))).1 = some p → ∀ h', CI h' u (imF u) → FO W6 h h' → K (.int 0) h') : P.1 n_Worker_workOut [.ref 79, .ref s, .ref 8] h K := by
  have ss := c0.2.1.2.2
  have sb : (s = 96 ∨ s = 106) := by
    unfold SS at ss
    omega
  have sc : SCT h s tx L l0 f0 s0 m0 := c0.2.2.1.fo ss.l a1 f
  refine c_Worker_workOut S ss.l sc c0.2.2.2.1 hu hC ?_ ?_
  · intro en h' hC' f' rs
    refine hK1 en h' hC' f' hC'.1 ?_
    have ff : FO (fun k => A k ∨ K8 k) h0 h' := FO_tr (FO_mono (fun k hk => Or.inl hk) f) (FO_mono (fun k hk => Or.inr (Or.inl hk)) f')
    have c8 := (cnm_le (tx := tx) (L := L) (t := pT (tkk tx L)) (Nat.le_refl _)).1
    obtain ⟨d1, d2, d3, d4, d5, d6, d7⟩ := c0
    have r5 : hR (sCp h' 80 0 88 0 8) 5 = hR h0 5 := ff.2.1 5 (by decide) (nt95 (by decide) (by decide))
    have ev : ∀ k, k ≠ 88 → hI (sCp h' 80 0 88 0 8) k = hI h' k := fun k hk => hI_sCp_ne hk
    refine ⟨CI_out (A := fun k => k = 88) (fun k hk => by omega) (eqY_sCp rfl) hC', ⟨by rw [r5]; exact d2.1, by rw [r5]; exact d2.2.1, d2.2.2⟩, d3.eq (fun k k1 k2 => ?_), d4, en, fun w hw => ?_, ⟨fun n hn => ?_, fun n hn => ?_, fun n hn => ?_⟩⟩
    · rw [ev k (by omega)]
      exact ff.1 k (by omega) (nt95 (by omega) (by omega)) (fun q => by
        rcases q with q | q
        · exact a1 k (by omega) (by omega) q
        · unfold K8 W6 at q
          omega)
    · rw [hI_sCp_in (Nat.zero_le w) (by omega), Nat.zero_add, Nat.sub_zero]
      exact rs w hw
    · rw [ev 2 (by decide), (ff.1 2 (by decide) (nt95 (by decide) (by decide)) (fun q => by
        rcases q with q | q
        · exact a3 2 (by decide) (by decide) q
        · unfold K8 W6 at q
          omega)).1]
      exact d7.1 n hn
    · rw [ev 3 (by decide), (ff.1 3 (by decide) (nt95 (by decide) (by decide)) (fun q => by
        rcases q with q | q
        · exact a3 3 (by decide) (by decide) q
        · unfold K8 W6 at q
          omega)).1]
      exact d7.2.1 n hn
    · rw [ev 4 (by decide), (ff.1 4 (by decide) (nt95 (by decide) (by decide)) (fun q => by
        rcases q with q | q
        · exact a3 4 (by decide) (by decide) q
        · unfold K8 W6 at q
          omega)).1]
      exact d7.2.2 n hn
  · exact fun p ep h' hC' f' _ => hK0 p ep h' hC' f'
/-- cells that a change may change -/
def CA (k : Nat) : Prop := K8 k ∨ H3 k
theorem c_FT_change {P : PSem} (S : SysOK P) {h : PH} {u tx : Nat → Nat} {L : Nat} {l0 : Nat → Int64} {f0 s0 m0 : Nat → Int32} {s s' : Nat} (c0 : CST h u tx L l0 f0 s0 m0 s s') (hu : MDS u) {H : List (Nat × Nat)} (hh : HR h H) {n p : Int32} {K : PK}
    (hN : (chB u n p = false ∨ (mst tx L l0 (updM u n.toNatClampNeg p.toNatClampNeg) (pT (tkk tx L))).1 ≠ none) → ∀ h', CST h' u tx L l0 f0 s0 m0 s s' → FO CA h h' → HR h' H → K (.int 0) h')
    (hY : chB u n p = true → GOOD tx L l0 (updM u n.toNatClampNeg p.toNatClampNeg) → 1 ≤ n.toNatClampNeg → n.toNatClampNeg ≤ 12 → ∀ h', CST h' (updM u n.toNatClampNeg p.toNatClampNeg) tx L l0 f0 s0 m0 s s' → FO CA h h' → HR h' (((n.toNatClampNeg, u n.toNatClampNeg) :: H).take 30) → K (.int 1) h') : P.1 n_FT_change [.ref 5, .int n, .int p] h K := by
  have hC := c0.1
  have hw := hC.1
  have ss := c0.2.1.2.2
  have sb : (s = 96 ∨ s = 106) := by
    unfold SS at ss
    omega
  have no : chB u n p = false → K (.int 0) h := fun z => hN (Or.inl z) h c0 (FO_rf _ _) hh
  unfold chB at no hY
  refine S.go 100 rfl rfl rfl ?_
  conv => whnf
  refine c_FT_isField S _ ?_
  conv => whnf
  cases hn : okF n with
  | false =>
    rw [hn] at no
    refine bk_t (rfl) ?_
    conv => whnf
    exact ⟨Or.inl rfl, no rfl⟩
  | true =>
    obtain ⟨k, k1, k2, rfl⟩ := okF_nat hn
    rw [nI_clamp (by omega)] at no hY hN
    rw [hn, Bool.true_and] at no hY
    refine bk_f (by decide) ?_
    conv => whnf
    refine c_Poly_isModulus S k1 k2 ?_
    rw [show (decide (nI (2 ^ k) ≤ p ∧ p < nI (2 ^ (k + 1))) && isIrrB p.toNatClampNeg) = isMB k p from rfl]
    cases hb : isMB k p with
    | false =>
      rw [hb] at no
      conv => whnf
      refine bk_nf (rfl) ?_
      conv => whnf
      exact ⟨Or.inl rfl, no rfl⟩
    | true =>
      obtain ⟨v, v1, rfl, v3⟩ := mb_nat k1 k2 hb
      rw [nI_clamp (by omega)] at hY hN
      rw [hb, Bool.true_and] at no hY
      have hF := hC.2.1 k k1 k2
      have ul : u k < 8192 := by
        have p2 : 2 ^ (k + 1) ≤ 2 ^ 13 := Nat.pow_le_pow_right (by decide) (by omega)
        have c2 : 2 ^ 13 = 8192 := by decide
        have := (hu k k1 k2).1.2.2
        omega
      conv => whnf
      refine bk_nt (by decide) ?_
      conv => whnf
      refine ⟨wt_5 hw, ?_⟩
      conv => whnf
      try rw [wr_5_1 hw]
      refine ⟨wt_8 hw, ?_⟩
      conv => whnf
      try rw [wr_8_0 hw]
      refine ⟨Or.inl (wi_in9 hw k1 k2), ?_⟩
      conv => whnf
      rw [nI_clamp (show k < 2 ^ 31 by omega), wi_fld hw k1 k2]
      refine ⟨hF.1, ?_⟩
      conv => whnf
      rw [hF.2.2.2]
      refine bk_ne (by omega) (by omega) (fun z => ?_) (fun z => ?_)
      rotate_left
      · conv => whnf
        exact ⟨Or.inl rfl, no (by rw [z, beq_self_eq_true]; rfl)⟩
      have cb : (!(nI v == nI (u k))) = true := by
        rw [Bool.not_eq_true', beq_eq_false_iff_ne]
        exact fun y => z ((zn_eq (by omega) (by omega)).mp y).symm
      have hY := hY cb
      have hv := upd_MDS hu v3
      conv => whnf
      refine ⟨wt_5 hw, ?_⟩
      conv => whnf
      rw [wr_5_1 hw]
      refine ⟨wt_8 hw, ?_⟩
      refine c_Tower_setModulus S k1 k2 hC.i0 ?_
      intro h1 a1 a2 a3
      have hC1 := set_CI hu hv hC a1 a3
      have hw1 := hC1.1
      have f1 : FO CA h h1 := FO_W a2
      have q9 : hR h1 5 9 = s := by
        rw [(a2.1 5 (by decide) (nt95 (by decide) (by decide))).2.2]
        exact c0.2.1.1
      conv => whnf
      refine ⟨wt_5 hw1, ?_⟩
      conv => whnf
      rw [wr_5_2 hw1]
      refine ⟨wt_5 hw1, ?_⟩
      conv => whnf
      rw [q9]
      refine ⟨wt_5 hw1, ?_⟩
      conv => whnf
      rw [wr_5_1 hw1]
      refine ⟨wt_79 hw1, ?_⟩
      refine c_work_keep S c0 hC1 hv (A := CA) f1 (fun k k1 k2 => by unfold CA K8 W6 H3; omega) (fun k k1 k2 => by unfold CA K8 W6 H3; omega) ?_ ?_
      · intro en h2 hC2 f2 hw2 cst
        conv => whnf
        refine bk_nt (by decide) ?_
        conv => whnf
        refine ⟨wt_5 hw2, ?_⟩
        refine c_FT_keepNameValues S hw2 ?_
        have hw3 : WS (sCp h2 80 0 88 0 8) := hw2
        conv => whnf
        refine ⟨wt_5 hw3, ?_⟩
        conv => whnf
        rw [wr_5_3 hw3]
        refine ⟨wt_85 hw3, ?_⟩
        have f3 : FO CA h (sCp h2 80 0 88 0 8) := FO_tr f1 (FO_tr (FO_mono (fun k hk => Or.inl (Or.inl hk)) f2) (FO_Y (eqY_sCp (Or.inl (Or.inr rfl)))))
        have hh3 : HR (sCp h2 80 0 88 0 8) H := by
          have g : ∀ k, 85 ≤ k → k ≤ 87 → hI (sCp h2 80 0 88 0 8) k = hI h k := fun k y1 y2 => by
            rw [hI_sCp_ne (by omega), (f2.1 k (by omega) (nt95 (by omega) (by omega)) (by unfold W6; omega)).1, (a2.1 k (by omega) (nt95 (by omega) (by omega))).1]
          exact hh.eq ⟨g 85 (by decide) (by decide), g 86 (by decide) (by decide), g 87 (by decide) (by decide)⟩
        refine c_Hist_push S hw3 hh3 ?_
        intro h4 f4 hr4
        have hC4 : CI h4 (updM u k v) (imF (updM u k v)) := CI_out (fun q hq => by unfold H3 at hq; omega) f4 cst.1
        conv => whnf
        exact ⟨Or.inr rfl, hY ⟨hv, en⟩ k1 k2 h4 (cst.fo hC4 (FO_Y f4) (fun q _ _ => by unfold H3; omega) (by unfold H3; omega) (fun q _ _ => by unfold H3; omega) rfl) (FO_tr f3 (FO_Y (eqY_mono (fun q hq => Or.inr hq) f4))) hr4⟩
      · intro q ep h2 hC2 f2
        have hw2 := hC2.1
        conv => whnf
        refine bk_nf (rfl) ?_
        conv => whnf
        refine ⟨wt_5 hw2, ?_⟩
        conv => whnf
        rw [wr_5_1 hw2]
        refine ⟨wt_8 hw2, ?_⟩
        refine c_Tower_setModulus S k1 k2 hC2.i0 ?_
        rw [upd_back]
        intro h3 b1 b2 b3
        have hC3 : CI h3 u (imF u) := by
          have e := upd_back u k v
          have := set_CI (n := k) (p := u k) hv (by rw [e]; exact hu) hC2 (by rw [e]; exact b1) b3
          rw [e] at this
          exact this
        have f3 : FO CA h h3 := FO_tr f1 (FO_tr (FO_mono (fun k hk => Or.inl (Or.inl hk)) f2) (FO_W b2))
        have f3' : FO W6 h h3 := FO_tr (FO_W a2) (FO_tr f2 (FO_W b2))
        conv => whnf
        refine ⟨Or.inl rfl, hN (Or.inr (by rw [ep]; simp)) h3 (c0.fo hC3 f3' (fun q _ _ => by unfold W6; omega) (by unfold W6; omega) (fun q _ _ => by unfold W6; omega) rfl) f3 (hh.eq ⟨?_, ?_, ?_⟩)⟩
        · exact (f3'.1 85 (by decide) (nt95 (by decide) (by decide)) (by unfold W6; omega)).1
        · exact (f3'.1 86 (by decide) (nt95 (by decide) (by decide)) (by unfold W6; omega)).1
        · exact (f3'.1 87 (by decide) (nt95 (by decide) (by decide)) (by unfold W6; omega)).1
