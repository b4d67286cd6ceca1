/-! CLASS: the worker works a text out -/
theorem c_Worker_workLine {P : PSem} (S : SysOK P) {h : PH} (hw : WS h) {s : Nat} (hs : SCL s) {tx : Nat → Nat} {L : Nat} {l0 : Nat → Int64} {f0 s0 m0 : Nat → Int32} (sc : SCT h s tx L l0 f0 s0 m0) (tt : TXT tx L l0 f0) {u : Nat → Nat} (hu : MDS u) (hF : CF h u) {a T j : Nat} (ha : cR tx L a = 6) (haT : a < T) (hT : T < pT (tkk tx L)) (h6 : tkk tx L T = 6) (haj : cnm tx L a = j) (hj8 : j < 8) (hi : ∀ i, a < i → i ≤ T → 7 ≤ cR tx L i ∧ cnm tx L i = j ∧ clf tx L i = tkw tx L a ∧ (i < T → tkk tx L i ≠ 6)) (iml : IML h tx L f0 l0 u (tkw tx L a) a T) (en : (mst tx L l0 u a).1 = none) (ra : ∀ w, w < j → hI h 80 w = nI ((mst tx L l0 u a).2.2.2 w)) (hns : cNS tx L s0 (pT (tkk tx L)) j = nI (a + 1)) (hnf : cNF tx L f0 (pT (tkk tx L)) j = nI (tkw tx L a)) {K : PK}
    (hK1 : (mst tx L l0 u (T + 1)).1 = none → ∀ h', eqX W6 h h' → (∀ w, w < j → hI h' 80 w = nI ((mst tx L l0 u (T + 1)).2.2.2 w)) → hI h' 80 j = nI ((mst tx L l0 u (T + 1)).2.2.2 j) → hI h' 79 1 = hI h 79 1 → K (.int 1) h')
    (hK0 : ∀ p, (mst tx L l0 u (T + 1)).1 = some p → ∀ h', eqX W6 h h' → hI h' 79 1 = nI p → K (.int 0) h') : P.1 n_Worker_workLine [.ref 79, .ref s, .ref 8, .int (nI j)] h K := by
  have t4 := (pT_ok (tkk tx L)).1
  obtain ⟨n1, n2, n3⟩ := nm_12 tt.2.2 ha (by omega)
  have m1 := mst_6 (l0 := l0) (u := u) ha
  have hw1 : WS (bgH h 0) := hw
  refine S.2.1 _ 9 _ _ _ rfl rfl ?_
  refine S.at 60 [25] rfl ?_
  conv => whnf
  refine ⟨sc_t hw hs, ?_⟩
  conv => whnf
  rw [sc_r8 hw hs]
  refine ⟨inB_of (sc_t7 hw hs) (sc_n7 hw hs) hj8 (by decide), ?_⟩
  conv => whnf
  rw [nI_clamp (by omega), (sc.2.2.2 j).1, hnf]
  refine c_FT_isField S _ ?_
  conv => whnf
  rw [okF_ok n1 n2]
  refine bk_nt (by decide) ?_
  conv => whnf
  refine ⟨wt_8 hw, ?_⟩
  conv => whnf
  rw [wr_8_0 hw]
  refine ⟨Or.inl (wi_in9 hw n1 n2), ?_⟩
  conv => whnf
  rw [nI_clamp (by omega), wi_fld hw n1 n2]
  refine ⟨wt_79 hw, ?_⟩
  refine c_Worker_begin (o := 0) S hw (by decide) ?_
  have sc1 : SCT (bgH h 0) s tx L l0 f0 s0 m0 := sc.eq (fun k k1 k2 => ⟨bgH_F.2.2.2.2 k (by unfold W6 SCL at *; omega), rfl⟩)
  conv => whnf
  refine ⟨sc_t hw1 hs, ?_⟩
  conv => whnf
  rw [sc_r9 hw1 hs]
  refine ⟨inB_of (sc_t8 hw1 hs) (sc_n8 hw1 hs) hj8 (by decide), ?_⟩
  conv => whnf
  rw [nI_clamp (by omega), (sc1.2.2.2 j).2.1, hns]
  have g := l_Worker_line S hw hs sc tt hu hF ha haT hT h6 haj hj8 hi iml ra hK1 hK0 (T - (a + 1)) (a + 1) (bgH h 0) (by omega) (by omega) (by rw [m1]; exact en) (by rw [m1]) bgH_F (by
    rw [m1]
    exact WKL.new (h := h) (r := []) (fun i l hl => absurd hl (by simp)) 0) (fun y => absurd (by
      have tab := rtab (tx := tx) (L := L) (t := a) (by omega)
      omega) y) (by unfold bgH; rw [hI_sI_ne (by decide), hI_sI_ne (by decide), hI_sI_ne (by decide)]) (by unfold bgH; rw [hI_ne (by decide), hI_ne (by decide), hI_ne (by decide)])
  rw [m1] at g
  exact g
theorem l_workOut {P : PSem} (S : SysOK P) {h0 : PH} {s : Nat} (hs : SCL s) {tx : Nat → Nat} {L : Nat} {l0 : Nat → Int64} {f0 s0 m0 : Nat → Int32} (sc0 : SCT h0 s tx L l0 f0 s0 m0) (tt : TXT tx L l0 f0) {u : Nat → Nat} (hu : MDS u) {K : PK}
    (hK1 : (mst tx L l0 u (pT (tkk tx L))).1 = none → ∀ h', CI h' u (imF u) → FO W6 h0 h' → (∀ w, w < cnm tx L (pT (tkk tx L)) → hI h' 80 w = nI ((mst tx L l0 u (pT (tkk tx L))).2.2.2 w)) → K (.int 1) h')
    (hK0 : ∀ p, (mst tx L l0 u (pT (tkk tx L))).1 = some p → ∀ h', CI h' u (imF u) → FO W6 h0 h' → hI h' 79 1 = nI p → K (.int 0) h') : ∀ d j h, j + d = cnm tx L (pT (tkk tx L)) → CI h u (imF u) → FO W6 h0 h → eA tx L l0 u j = none → (∀ w, w < j → hI h 80 w = nI (nA tx L l0 u j w)) → P.2 n_Worker_workOut 5 [some (.ref 79), some (.ref s), some (.ref 8), some (.int (nI j))] [] h 0 0 K := by
  have s96 : 96 ≤ s ∧ s ≤ 106 := by
    unfold SCL at hs
    omega
  have t4 := (pT_ok (tkk tx L)).1
  have c8 := (cnm_le (tx := tx) (L := L) (t := pT (tkk tx L)) (Nat.le_refl _)).1
  have bf := bef (tx := tx) (L := L) l0 u (t := pT (tkk tx L)) (Nat.le_refl _) (by rw [tt.2.1.1]; decide)
  intro d
  induction d with
  | zero =>
    intro j h hd hC f ea na
    have hw := hC.1
    have sc : SCT h s tx L l0 f0 s0 m0 := sc0.fo hs (fun k k1 k2 => by unfold W6; omega) f
    have e : j = cnm tx L (pT (tkk tx L)) := by omega
    rw [e] at ea na
    have fin := hK1 (by rw [bf.1]; exact ea) h hC f (fun w hw => by rw [na w hw, bf.2 w hw])
    refine S.at 40 [] rfl ?_
    conv => whnf
    refine ⟨sc_t hw hs, ?_⟩
    conv => whnf
    rw [sc.2.1]
    refine bk_t ((zn_le (by omega) (by omega)).mpr (by omega)) ?_
    conv => whnf
    exact ⟨Or.inr rfl, fin⟩
  | succ d ih =>
    intro j h hd hC f ea na
    have hw := hC.1
    have sc : SCT h s tx L l0 f0 s0 m0 := sc0.fo hs (fun k k1 k2 => by unfold W6; omega) f
    have jc : j < cnm tx L (pT (tkk tx L)) := by omega
    obtain ⟨ln, a2, a3, a4, a5, a6⟩ := (LNI_ok (tx := tx) (L := L) l0 f0 s0 (pT (tkk tx L)) (Nat.le_refl _)).1 j jc
    revert ln a2 a3 a4 a5 a6
    have eAs : eA tx L l0 u (j + 1) = (mst tx L l0 u (lnT tx L (pT (tkk tx L)) j + 1)).1 := rfl
    have nAs : nA tx L l0 u (j + 1) = (mst tx L l0 u (lnT tx L (pT (tkk tx L)) j + 1)).2.2.2 := rfl
    revert eAs nAs
    generalize lnA tx L (pT (tkk tx L)) j = a
    generalize lnT tx L (pT (tkk tx L)) j = T
    intro eAs nAs ln a2 a3 a4 a5 a6
    obtain ⟨b1, b2, b3, b4, b5, b6, b7, b8⟩ := ln
    obtain ⟨n1, n2, n3⟩ := nm_12 tt.2.2 b1 b3
    have bfa := bef (tx := tx) (L := L) l0 u (t := a) (by omega) (by omega)
    rw [b2] at bfa
    have pl : ∀ p, (mst tx L l0 u (T + 1)).1 = some p → (mst tx L l0 u (pT (tkk tx L))).1 = some p := fun p hp => by
      have := mst_err (pT (tkk tx L) - (T + 1)) (T + 1) hp
      rw [show T + 1 + (pT (tkk tx L) - (T + 1)) = pT (tkk tx L) by omega] at this
      exact this
    have g23 : ∀ h1, CI h1 u (imF u) → FQ h h1 → IML h1 tx L f0 l0 u (tkw tx L a) a T → P.2 n_Worker_workOut 23 [some (.ref 79), some (.ref s), some (.ref 8), some (.int (nI j))] [] h1 0 0 K := by
      intro h1 hC1 q1 im1
      have hw1 := hC1.1
      have f1 : FO W6 h0 h1 := FO_tr f (FO_Q q1)
      have sc1 : SCT h1 s tx L l0 f0 s0 m0 := sc0.fo hs (fun k k1 k2 => by unfold W6; omega) f1
      have r80 : hI h1 80 = hI h 80 := (q1.1 80 (by decide) (by unfold scr; omega)).1
      refine S.at 40 [31] rfl ?_
      conv => whnf
      refine ⟨wt_79 hw1, ?_⟩
      refine c_Worker_workLine S hw1 hs sc1 tt hu hC1.2.1 b1 a2 a3 a4 b2 (by omega) a6 im1 (by rw [bfa.1]; exact ea) (fun w hw => by rw [r80, na w hw, bfa.2 w hw]) b4 b5 ?_ ?_
      · intro en h2 e2 y1 y2 y3
        have hC2 : CI h2 u (imF u) := CI_out (fun k hk => by unfold W6 at hk; omega) e2.y hC1
        have g := ih (j + 1) h2 (by omega) hC2 (FO_tr f1 (FO_Y e2.y)) (by rw [eAs]; exact en) (fun w hw => by
          rw [nAs]
          rcases Nat.lt_or_ge w j with v | v
          · exact y1 w v
          · have : w = j := by omega
            rw [this]
            exact y2)
        rw [← nI_1 j] at g
        conv => whnf
        refine bk_nt (by decide) ?_
        conv => whnf
        refine S.at 10 [] rfl ?_
        conv => whnf
        exact g
      · intro p ep h2 e2 y1
        have hC2 : CI h2 u (imF u) := CI_out (fun k hk => by unfold W6 at hk; omega) e2.y hC1
        conv => whnf
        refine bk_nf (rfl) ?_
        conv => whnf
        exact ⟨Or.inl rfl, hK0 p (pl p ep) h2 hC2 (FO_tr f1 (FO_Y e2.y)) y1⟩
    refine S.at 60 [23] rfl ?_
    conv => whnf
    refine ⟨sc_t hw hs, ?_⟩
    conv => whnf
    rw [sc.2.1]
    refine bk_f (fun c => absurd ((zn_le (by omega) (by omega)).mp c) (by omega)) ?_
    conv => whnf
    refine bk_f (fun c => absurd ((zn_le (a := 8) (by omega) (by omega)).mp c) (by omega)) ?_
    conv => whnf
    refine ⟨sc_t hw hs, ?_⟩
    conv => whnf
    rw [sc_r10 hw hs]
    refine ⟨Or.inr (inB_of (sc_t9 hw hs) (sc_n9 hw hs) (show j < 8 by omega) (by decide)), ?_⟩
    conv => whnf
    rw [nI_clamp (by omega), (sc.2.2.2 j).2.2]
    refine ⟨fun z => ?_, fun z => ?_⟩
    · conv => whnf
      refine g23 h hC (FQ_rf h) (fun i y1 y2 y3 y4 y5 => ?_)
      exfalso
      obtain ⟨x1, x2, x3, x4⟩ := a6 i y1 (by omega)
      have := mix_ok (tx := tx) (L := L) (l0 := l0) (f0 := f0) (m0 := m0) (pT (tkk tx L)) (Nat.le_refl _) i (by omega) y3 y4 (by rw [x3]; exact y5)
      rw [x2, z] at this
      exact absurd this (by decide)
    · conv => whnf
      refine ⟨sc_t hw hs, ?_⟩
      conv => whnf
      rw [sc_r8 hw hs]
      refine ⟨inB_of (sc_t7 hw hs) (sc_n7 hw hs) (show j < 8 by omega) (by decide), ?_⟩
      conv => whnf
      rw [nI_clamp (by omega), (sc.2.2.2 j).1, b5]
      refine ⟨wt_8 hw, ?_⟩
      refine c_Tower_prepare S hu (img_ex hu) n1 n2 hC ?_
      intro h1 hC1 q1 im1
      conv => whnf
      exact g23 h1 hC1 q1 (fun i y1 y2 y3 y4 y5 => im1 _ n1 (Nat.dvd_refl _))
theorem c_Worker_workOut {P : PSem} (S : SysOK P) {h : PH} {s : Nat} (hs : SCL s) {tx : Nat → Nat} {L : Nat} {l0 : Nat → Int64} {f0 s0 m0 : Nat → Int32} (sc : SCT h s tx L l0 f0 s0 m0) (tt : TXT tx L l0 f0) {u : Nat → Nat} (hu : MDS u) (hC : CI h u (imF u)) {K : PK}
    (hK1 : (mst tx L l0 u (pT (tkk tx L))).1 = none → ∀ h', CI h' u (imF u) → FO W6 h h' → (∀ w, w < cnm tx L (pT (tkk tx L)) → hI h' 80 w = nI ((mst tx L l0 u (pT (tkk tx L))).2.2.2 w)) → K (.int 1) h')
    (hK0 : ∀ p, (mst tx L l0 u (pT (tkk tx L))).1 = some p → ∀ h', CI h' u (imF u) → FO W6 h h' → hI h' 79 1 = nI p → K (.int 0) h') : P.1 n_Worker_workOut [.ref 79, .ref s, .ref 8] h K := by
  have hw := hC.1
  have s96 : 96 ≤ s ∧ s ≤ 106 := by
    unfold SCL at hs
    omega
  have f1 : FO W6 h (sI h 79 1 (-1)) := FO_Y (eqY_sI (by unfold W6; omega))
  have hC1 : CI (sI h 79 1 (-1)) u (imF u) := CI_out (A := W6) (fun k hk => by unfold W6 at hk; omega) (eqY_sI (by unfold W6; omega)) hC
  refine S.2.1 _ 4 _ _ _ rfl rfl ?_
  refine S.at 10 [5] rfl ?_
  conv => whnf
  refine ⟨wt_79 hw, ?_⟩
  conv => whnf
  exact l_workOut S hs (sc.fo hs (fun k k1 k2 => by unfold W6; omega) f1) tt hu (fun en h' c1 c2 c3 => hK1 en h' c1 (FO_tr f1 c2) c3) (fun p ep h' c1 c2 c3 => hK0 p ep h' c1 (FO_tr f1 c2) c3) (cnm tx L (pT (tkk tx L))) 0 _ (Nat.zero_add _) hC1 (FO_rf _ _) rfl (fun w hw => absurd hw (Nat.not_lt_zero w))
