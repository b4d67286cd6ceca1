/-! READ: the class's read, whole -/
theorem CHK_SCT {h0 h : PH} {s : Nat} {tx : Nat → Nat} {L : Nat} {l0 : Nat → Int64} {f0 s0 m0 d0 : Nat → Int32} (c : CHK h0 h s tx L l0 f0 s0 m0 d0 (pT (tkk tx L))) : SCT h s tx L l0 f0 s0 m0 := by
  obtain ⟨c1, c2, c3, c4, c5, c6, c7, c8, c9, c10, c11, c12⟩ := c
  refine ⟨c2, c3, fun i hi => ⟨(c6 i hi).1, (c6 i hi).2.1, (c6 i hi).2.2, ?_⟩, fun j => ⟨c9 j, c10 j, c11 j⟩⟩
  rw [c7 i hi, if_pos hi]
theorem c_FT_read {P : PSem} (S : SysOK P) {h : PH} {u tx0 : Nat → Nat} {L0 : Nat} {l00 : Nat → Int64} {f00 s00 m00 : Nat → Int32} {s s' : Nat} (c0 : CST h u tx0 L0 l00 f00 s00 m00 s s') (hu : MDS u) {tx : Nat → Nat} {L : Nat} (hT : TC h tx L) (hB : TXB tx) (hM : L ≤ 2000) {K : PK}
    (hE : rdR tx L (hL h (s' + 6)) (hI h (s' + 7)) ≠ 0 → ∀ h', CST h' u tx0 L0 l00 f00 s00 m00 s s' → FO (RA s') h h' → hI h' 6 1 = nI 0 → hI h' 5 11 = nI (rdP tx L (hL h (s' + 6)) (hI h (s' + 7))) → K (.int (nI (rdR tx L (hL h (s' + 6)) (hI h (s' + 7))))) h')
    (hG : rdR tx L (hL h (s' + 6)) (hI h (s' + 7)) = 0 → ∀ h', CST h' (vM tx L) tx L (hL h (s' + 6)) (hI h (s' + 7)) (hI h (s' + 8)) (hI h (s' + 9)) s' s → MFX h h' → (hI h' 1 = hI h 1 ∧ h'.1 1 = h.1 1) → hI h' 6 1 = nI 0 → hI h' 5 11 = -1 → hI h' 85 2 = nI 0 → (∀ q, q < 3 → hI h' 94 q = 0) → K (.int 0) h') : P.1 n_FT_read [.ref 5] h K := by
  obtain ⟨hC, ⟨r9, r10, ss⟩, sct, tt0, en0, nv0, sta⟩ := id c0
  have hw := hC.1
  have hs' := ss.r
  have sb' : (s' = 96 ∨ s' = 106) ∧ (s = 96 ∨ s = 106) ∧ s ≠ s' := by
    unfold SS at ss
    omega
  have pl := pF_le (tkk tx L)
  have g12 : ∀ h1 r p, FO (RA s') h h1 → CI h1 u (imF u) → r ≠ 0 → r < 10 → r = rdR tx L (hL h (s' + 6)) (hI h (s' + 7)) → p = rdP tx L (hL h (s' + 6)) (hI h (s' + 7)) → hI h1 s' 12 = nI p → P.2 n_FT_read 12 [some (.ref 5), some (.int (nI r)), none] [] h1 0 0 K := by
    intro h1 r p f1 hC1 r0 rl er ep hp
    have hw1 := hC1.1
    have q10 : hR h1 5 10 = s' := by
      rw [f1.2.1 5 (by decide) (by unfold twr scr; omega)]
      exact r10
    have hw2 : WS (sI h1 6 1 0) := hw1
    have f2 : FO (RA s') h (sI (sI h1 6 1 0) 5 11 (nI p)) := FO_tr f1 (FO_tr (FO_Y (eqY_sI (by unfold RA; omega))) (FO_Y (eqY_sI (by unfold RA; omega))))
    have hC2 : CI (sI (sI h1 6 1 0) 5 11 (nI p)) u (imF u) := CI_out (A := fun k => k = 5 ∨ k = 6) (fun k hk => by omega) (eqY_tr (eqY_sI (Or.inr rfl)) (eqY_sI (Or.inl rfl))) hC1
    have fin := hE (by rw [← er]; exact r0) _ (c0.fo hC2 f2 (fun k k1 k2 => by unfold RA W6; omega) (by unfold RA W6; omega) (fun k k1 k2 => by unfold RA W6; omega) rfl) f2 (by rw [hI_ne (by decide), hI_sI]; rfl) (by rw [hI_sI, ep])
    rw [← er] at fin
    refine S.at 60 [] rfl ?_
    conv => whnf
    refine ⟨wt_5 hw1, ?_⟩
    conv => whnf
    rw [wr_5_0 hw1]
    refine ⟨wt_6 hw1, ?_⟩
    conv => whnf
    refine ⟨wt_5 hw2, ?_⟩
    conv => whnf
    rw [show hR (sI h1 6 1 0) 5 10 = s' from q10]
    refine ⟨sc_t hw2 hs', ?_⟩
    conv => whnf
    rw [hI_ne (by omega), hp]
    refine ⟨wt_5 hw2, ?_⟩
    conv => whnf
    refine bk_f (fun c => absurd ((zn_eq (b := 0) (by omega) (by omega)).mp c) (by omega)) ?_
    conv => whnf
    exact fin
  refine S.2.1 _ 3 _ _ _ rfl rfl ?_
  refine S.at 60 [12] rfl ?_
  conv => whnf
  refine ⟨wt_5 hw, ?_⟩
  conv => whnf
  rw [r10]
  refine ⟨wt_5 hw, ?_⟩
  conv => whnf
  rw [wr_5_0 hw]
  refine ⟨sc_t hw hs', ?_⟩
  refine c_Script_parse S hw hs' hT hB hM ?_
  intro h1 p1 p12
  have hw1 := eqY_WS p1.1 hw
  have f1 : FO (RA s') h h1 := FO_Y (eqY_mono (fun k hk => by unfold PRA at hk; unfold RA; omega) p1.1)
  have hC1 : CI h1 u (imF u) := CI_out (A := PRA s') (fun k hk => by unfold PRA at hk; omega) p1.1 hC
  have k5 : ∀ k, s' + 5 ≤ k → k ≤ s' + 9 → hI h1 k = hI h k ∧ hL h1 k = hL h k := fun k a b => p1.1.2.2.2 k (by unfold PRA; omega)
  by_cases z : pF (tkk tx L) ≠ 0
  · have e1 : rdR tx L (hL h (s' + 6)) (hI h (s' + 7)) = pF (tkk tx L) := if_pos z
    have e2 : rdP tx L (hL h (s' + 6)) (hI h (s' + 7)) = tkS tx L (pT (tkk tx L)) := if_pos z
    rw [if_neg z] at p12
    conv => whnf
    refine bk_nt (fun c => absurd ((zn_eq (b := 0) (by omega) (by omega)).mp c) (by omega)) ?_
    conv => whnf
    exact g12 h1 _ _ f1 hC1 z (by omega) e1.symm e2.symm p12
  have z : pF (tkk tx L) = 0 := by omega
  have nz : ¬ pF (tkk tx L) ≠ 0 := fun y => y z
  rw [if_pos z] at p12
  have eo : EOK tx L := by
    unfold pF at z
    split at z
    · rename_i y
      exact ⟨y.2, y.1⟩
    · split at z
      · omega
      · omega
  have q10 : hR h1 5 10 = s' := by
    rw [p1.1.2.1]
    exact r10
  rw [z]
  conv => whnf
  refine bk_nf (rfl) ?_
  conv => whnf
  refine ⟨wt_5 hw1, ?_⟩
  conv => whnf
  rw [q10]
  refine ⟨sc_t hw1 hs', ?_⟩
  refine c_Script_check S hw1 hs' hM p1.2.2.1 (fun i hi => p1.2.2.2 i hi) ?_ ?_
  rotate_left
  · rw [(k5 (s' + 6) (by omega) (by omega)).2, (k5 (s' + 7) (by omega) (by omega)).1]
    intro cl h2 f2 b12
    have fl := cFL_le tx L (hL h (s' + 6)) (hI h (s' + 7)) (cFT tx L (hL h (s' + 6)) (hI h (s' + 7)))
    have ne := (cFT_ok tx L (hL h (s' + 6)) (hI h (s' + 7))).2.1 cl
    have hC2 : CI h2 u (imF u) := CI_out (fun k hk => by omega) f2 hC1
    have f12 : FO (RA s') h h2 := FO_tr f1 (FO_Y (eqY_mono (fun k hk => by unfold RA; omega) f2))
    have e1 : rdR tx L (hL h (s' + 6)) (hI h (s' + 7)) = cFL tx L (hL h (s' + 6)) (hI h (s' + 7)) (cFT tx L (hL h (s' + 6)) (hI h (s' + 7))) := by
      unfold rdR
      rw [if_neg nz, if_pos cl]
    have e2 : rdP tx L (hL h (s' + 6)) (hI h (s' + 7)) = tkS tx L (cFT tx L (hL h (s' + 6)) (hI h (s' + 7))) := by
      unfold rdP
      rw [if_neg nz, if_pos cl]
    conv => whnf
    refine S.mk [(0,1),(0,1),(0,0)] ?_
    exact g12 h2 _ _ f12 hC2 ne (by omega) e1.symm e2.symm b12
  rw [(k5 (s' + 6) (by omega) (by omega)).2, (k5 (s' + 7) (by omega) (by omega)).1, (k5 (s' + 8) (by omega) (by omega)).1, (k5 (s' + 9) (by omega) (by omega)).1]
  intro ce h2 ck
  have hw2 := eqY_WS ck.1 hw1
  have f2 := ck.1
  have hC2 : CI h2 u (imF u) := CI_out (fun k hk => by omega) f2 hC1
  have f12 : FO (RA s') h h2 := FO_tr f1 (FO_Y (eqY_mono (fun k hk => by unfold RA; omega) f2))
  have cz : ∀ i, i < pT (tkk tx L) → cFL tx L (hL h (s' + 6)) (hI h (s' + 7)) i = 0 := by
    intro i hi
    exact (cFT_ok tx L (hL h (s' + 6)) (hI h (s' + 7))).2.2 i (by omega)
  obtain ⟨hv, hv2⟩ := vM_ok cz
  have tt : TXT tx L (hL h (s' + 6)) (hI h (s' + 7)) := ⟨hM, eo, cz⟩
  have nlt : ¬ cFT tx L (hL h (s' + 6)) (hI h (s' + 7)) < pT (tkk tx L) := by omega
  have e1n : (mst tx L (hL h (s' + 6)) (vM tx L) (pT (tkk tx L))).1 = none → rdR tx L (hL h (s' + 6)) (hI h (s' + 7)) = 0 := fun en => by
    unfold rdR
    rw [if_neg nz, if_neg nlt, en]
  have e1s : ∀ p, (mst tx L (hL h (s' + 6)) (vM tx L) (pT (tkk tx L))).1 = some p → rdR tx L (hL h (s' + 6)) (hI h (s' + 7)) = 7 ∧ rdP tx L (hL h (s' + 6)) (hI h (s' + 7)) = p := fun p en => by
    unfold rdR rdP
    rw [if_neg nz, if_neg nlt, if_neg nz, if_neg nlt, en]
    exact ⟨rfl, rfl⟩
  have b12 : hI h2 s' 12 = -1 := by
    rw [ck.2.2.2.2.1]
    exact p12
  have md : ∀ k, 1 ≤ k → k ≤ 12 → hI h2 (s' + 5) k = nI (vM tx L k) := by
    intro k k1 k2
    rw [ck.2.2.2.2.2.2.2.2.2.2.2 k, cMD_cg (d' := dLm) ?_, hv2 k k1 k2]
    unfold cD0
    rw [if_pos (by omega), (p1.1.2.2.2 2 (by unfold PRA; omega)).1]
    exact sta.1 k k2
  have t10 : hR h2 5 10 = s' := by
    rw [f2.2.1]
    exact q10
  have hw3 : WS (sI h2 6 1 0) := hw2
  have hw4 : WS (sI (sI h2 6 1 0) 5 11 (-1)) := hw2
  conv => whnf
  refine S.at 60 [25] rfl ?_
  conv => whnf
  refine ⟨wt_5 hw2, ?_⟩
  conv => whnf
  rw [wr_5_0 hw2]
  refine ⟨wt_6 hw2, ?_⟩
  conv => whnf
  refine ⟨wt_5 hw3, ?_⟩
  conv => whnf
  rw [show hR (sI h2 6 1 0) 5 10 = s' from t10]
  refine ⟨sc_t hw3 hs', ?_⟩
  conv => whnf
  rw [hI_ne (by omega), b12]
  refine ⟨wt_5 hw3, ?_⟩
  conv => whnf
  refine bk_t (rfl) ?_
  conv => whnf
  refine S.mk [(0,1),(0,0),(0,0)] ?_
  have f4 : FO (RA s') h (sI (sI h2 6 1 0) 5 11 (-1)) := FO_tr f12 (FO_tr (FO_Y (eqY_sI (by unfold RA; omega))) (FO_Y (eqY_sI (by unfold RA; omega))))
  have hC4 : CI (sI (sI h2 6 1 0) 5 11 (-1)) u (imF u) := CI_out (A := fun k => k = 5 ∨ k = 6) (fun k hk => by omega) (eqY_tr (eqY_sI (Or.inr rfl)) (eqY_sI (Or.inl rfl))) hC2
  have sc4 : SCT (sI (sI h2 6 1 0) 5 11 (-1)) s' tx L (hL h (s' + 6)) (hI h (s' + 7)) (hI h (s' + 8)) (hI h (s' + 9)) := SCT.eq (h := h2) (fun k k1 k2 => ⟨by rw [hI_sI_ne (by omega), hI_sI_ne (by omega)], rfl⟩) (CHK_SCT ck)
  have md4 : ∀ k, 1 ≤ k → k ≤ 12 → hI (sI (sI h2 6 1 0) 5 11 (-1)) (s' + 5) k = nI (vM tx L k) := fun k k1 k2 => by
    rw [hI_ne (by omega), hI_ne (by omega)]
    exact md k k1 k2
  have u10 : hR (sI (sI h2 6 1 0) 5 11 (-1)) 5 10 = s' := t10
  have u9 : hR (sI (sI h2 6 1 0) 5 11 (-1)) 5 9 = s := by
    show hR h2 5 9 = s
    rw [f2.2.1, p1.1.2.1]
    exact r9
  have l6 : hI (sI (sI h2 6 1 0) 5 11 (-1)) 6 1 = nI 0 := by
    rw [hI_ne (by decide), hI_sI]
    rfl
  have l5 : hI (sI (sI h2 6 1 0) 5 11 (-1)) 5 11 = -1 := hI_sI
  revert f4 hC4 sc4 md4 u10 u9 hw4 l6 l5
  generalize sI (sI h2 6 1 0) 5 11 (-1) = h4
  intro hw4 f4 hC4 sc4 md4 u10 u9 l6 l5
  refine S.at 60 [56] rfl ?_
  conv => whnf
  refine ⟨wt_5 hw4, ?_⟩
  conv => whnf
  rw [wr_5_1 hw4]
  refine ⟨wt_5 hw4, ?_⟩
  conv => whnf
  rw [wr_5_5 hw4]
  refine ⟨wt_8 hw4, ?_⟩
  refine c_Tower_copyModuli S hw4 hC4.2.1 (by decide) (fun n _ _ => by omega) (wt_89 hw4) (wn_89 hw4) ?_
  intro h5 f5 d5
  have hw5 := eqX_WS f5 hw4
  have hC5 : CI h5 u (imF u) := CI_out (fun k hk => by omega) f5.y hC4
  have f45 : FO (RA s') h h5 := FO_tr f4 (FO_Y (eqY_mono (fun k hk => by unfold RA; omega) f5.y))
  have v10 : hR h5 5 10 = s' := by
    rw [f5.2.1]
    exact u10
  conv => whnf
  refine ⟨wt_5 hw5, ?_⟩
  conv => whnf
  rw [wr_5_1 hw5]
  refine ⟨wt_5 hw5, ?_⟩
  conv => whnf
  rw [v10]
  refine ⟨sc_t hw5 hs', ?_⟩
  conv => whnf
  rw [sc_r5 hw5 hs']
  refine ⟨wt_8 hw5, ?_⟩
  refine c_Tower_takeModuli S hu hv (img_ex hu) (img_ex hv) hC5 (R := s' + 5) (by omega) (by omega) (by unfold twr scr; omega) (sc_t5 hw5 hs') (sc_n5 hw5 hs') (fun k k1 k2 => by
    rw [f5.2.2.2.2 (s' + 5) (by omega)]
    exact md4 k k1 k2) ?_
  intro h6 hC6 w6
  have hw6 := hC6.1
  have f46 : FO (RA s') h h6 := FO_tr f45 (FO_W w6)
  have nt : ∀ k, k < 149 → ¬ (8 ≤ k ∧ k ≤ 95) → ¬ twr k := fun k _ k2 => by unfold twr scr; omega
  have sc6 : SCT h6 s' tx L (hL h (s' + 6)) (hI h (s' + 7)) (hI h (s' + 8)) (hI h (s' + 9)) := sc4.eq (fun k k1 k2 => by
    obtain ⟨y1, y2, -⟩ := w6.1 k (by omega) (nt k (by omega) (by omega))
    rw [y1, y2, f5.2.2.2.2 k (by omega), f5.2.2.1]
    exact ⟨rfl, rfl⟩)
  have r6 : hR h6 5 = hR h5 5 := (w6.1 5 (by decide) (nt 5 (by decide) (by decide))).2.2
  have x10 : hR h6 5 10 = s' := by
    rw [r6]
    exact v10
  have x9 : hR h6 5 9 = s := by
    rw [r6, f5.2.1]
    exact u9
  have l66 : hI h6 6 1 = nI 0 := by
    rw [(w6.1 6 (by decide) (nt 6 (by decide) (by decide))).1, f5.2.2.2.2 6 (by decide)]
    exact l6
  have l65 : hI h6 5 11 = -1 := by
    rw [(w6.1 5 (by decide) (nt 5 (by decide) (by decide))).1, f5.2.2.2.2 5 (by decide)]
    exact l5
  have d6 : ∀ k, 1 ≤ k → k ≤ 12 → hI h6 89 k = nI (u k) := fun k k1 k2 => by
    rw [(w6.1 89 (by decide) (by unfold twr scr; omega)).1]
    exact d5 k k1 k2
  conv => whnf
  refine ⟨wt_5 hw6, ?_⟩
  conv => whnf
  rw [wr_5_2 hw6]
  refine ⟨wt_5 hw6, ?_⟩
  conv => whnf
  rw [x10]
  refine ⟨wt_5 hw6, ?_⟩
  conv => whnf
  rw [wr_5_1 hw6]
  refine ⟨wt_79 hw6, ?_⟩
  refine c_Worker_workOut S hs' sc6 tt hv hC6 ?_ ?_
  · intro en h7 hC7 f7 rs
    have hw7 := hC7.1
    have y10 : hR h7 5 10 = s' := by
      rw [f7.2.1 5 (by decide) (nt 5 (by decide) (by decide))]
      exact x10
    have y9 : hR h7 5 9 = s := by
      rw [f7.2.1 5 (by decide) (nt 5 (by decide) (by decide))]
      exact x9
    have hw8 : WS (sR h7 5 9 s') := WS_5 (by decide) hw7
    have hw9 : WS (sR (sR h7 5 9 s') 5 10 s) := WS_5 (by decide) hw8
    have hC9 : CI (sR (sR h7 5 9 s') 5 10 s) (vM tx L) (imF (vM tx L)) := CI_5 (by decide) (CI_5 (by decide) hC7)
    conv => whnf
    refine bk_nt (by decide) ?_
    conv => whnf
    refine S.at 60 [] rfl ?_
    conv => whnf
    refine ⟨wt_5 hw7, ?_⟩
    conv => whnf
    rw [y9]
    refine ⟨wt_5 hw7, ?_⟩
    conv => whnf
    rw [y10]
    refine ⟨wt_5 hw7, ?_⟩
    conv => whnf
    refine ⟨wt_5 hw8, ?_⟩
    conv => whnf
    refine ⟨wt_5 hw9, ?_⟩
    refine c_FT_keepNameValues S hw9 ?_
    have hw10 : WS (sCp (sR (sR h7 5 9 s') 5 10 s) 80 0 88 0 8) := hw9
    have hw11 : WS (sI (sCp (sR (sR h7 5 9 s') 5 10 s) 80 0 88 0 8) 85 2 0) := hw9
    conv => whnf
    refine ⟨wt_5 hw10, ?_⟩
    conv => whnf
    rw [wr_5_3 hw10]
    refine ⟨wt_85 hw10, ?_⟩
    conv => whnf
    refine ⟨wt_5 hw11, ?_⟩
    refine c_FT_emptySlots S hw11 ?_
    intro h12 f12' d12
    have ev : ∀ k, k ≠ 88 → k ≠ 85 → k ≠ 94 → hI h12 k = hI h7 k := fun k k1 k2 k3 => by
      rw [f12'.2.2.2.2 k k3, hI_sI_ne k2, hI_sCp_ne k1]
      rfl
    have el : hL h12 = hL h7 := by
      rw [f12'.2.2.1]
      rfl
    have er : ∀ k, k ≠ 5 → hR h12 k = hR h7 k := fun k hk => by
      rw [f12'.2.1]
      show hR (sR (sR h7 5 9 s') 5 10 s) k = hR h7 k
      funext i
      rw [hR_5 hk, hR_5 hk]
    have e7 : FO W6 h6 h7 := f7
    have f17 : FO (RA s') h h7 := FO_tr f46 (FO_mono (fun k hk => Or.inr (Or.inr (Or.inl hk))) f7)
    refine hG (e1n en) h12 ⟨?_, ⟨?_, ?_, ss.sw⟩, ?_, tt, en, fun w hw => ?_, ⟨fun n hn => ?_, fun n hn => ?_, fun n hn => ?_⟩⟩ ?_ ⟨?_, ?_⟩ ?_ ?_ ?_ d12
    · refine CI_out (A := fun k => k = 88 ∨ k = 85 ∨ k = 94) (fun k hk => by omega) (eqY_tr (eqY_tr (eqY_sCp (Or.inl rfl)) (eqY_sI (Or.inr (Or.inl rfl)))) (eqY_mono (fun k hk => Or.inr (Or.inr hk)) f12'.y)) hC9
    · rw [f12'.2.1]
      show hR (sR (sR h7 5 9 s') 5 10 s) 5 9 = s'
      rw [hR_sR_ne (by decide), hR_sR]
    · rw [f12'.2.1]
      show hR (sR (sR h7 5 9 s') 5 10 s) 5 10 = s
      rw [hR_sR]
    · exact sc6.eq (fun k k1 k2 => by
        obtain ⟨y1, y2⟩ := f7.1 k (by omega) (nt k (by omega) (by omega)) (by unfold W6; omega)
        rw [ev k (by omega) (by omega) (by omega), el, y1, y2]
        exact ⟨rfl, rfl⟩)
    · have c8 := (cnm_le (tx := tx) (L := L) (t := pT (tkk tx L)) (Nat.le_refl _)).1
      rw [f12'.2.2.2.2 88 (by decide), hI_ne (by decide), hI_sCp_in (Nat.zero_le w) (by omega), Nat.zero_add, Nat.sub_zero]
      exact rs w hw
    · rw [ev 2 (by decide) (by decide) (by decide), (f17.1 2 (by decide) (nt 2 (by decide) (by decide)) (by unfold RA W6; omega)).1]
      exact sta.1 n hn
    · rw [ev 3 (by decide) (by decide) (by decide), (f17.1 3 (by decide) (nt 3 (by decide) (by decide)) (by unfold RA W6; omega)).1]
      exact sta.2.1 n hn
    · rw [ev 4 (by decide) (by decide) (by decide), (f17.1 4 (by decide) (nt 4 (by decide) (by decide)) (by unfold RA W6; omega)).1]
      exact sta.2.2 n hn
    · intro k k1 k2
      obtain ⟨y1, y2, y3⟩ := MFX_FO f17 (fun k hk => by unfold RA W6 at hk; omega) k k1 k2
      rw [ev k (by omega) (by omega) (by omega), el, er k (by omega)]
      exact ⟨y1, y2, y3⟩
    · rw [ev 1 (by decide) (by decide) (by decide), (f17.1 1 (by decide) (nt 1 (by decide) (by decide)) (by unfold RA W6; omega)).1]
    · rw [f12'.1]
      exact f17.2.2
    · rw [ev 6 (by decide) (by decide) (by decide), (f7.1 6 (by decide) (nt 6 (by decide) (by decide)) (by unfold W6; omega)).1]
      exact l66
    · rw [ev 5 (by decide) (by decide) (by decide), (f7.1 5 (by decide) (nt 5 (by decide) (by decide)) (by unfold W6; omega)).1]
      exact l65
    · rw [f12'.2.2.2.2 85 (by decide), hI_sI]
      rfl
  · intro p ep h7 hC7 f7 zp
    have hw7 := hC7.1
    obtain ⟨e1, e2⟩ := e1s p ep
    have d7 : ∀ k, 1 ≤ k → k ≤ 12 → hI h7 89 k = nI (u k) := fun k k1 k2 => by
      rw [(f7.1 89 (by decide) (by unfold twr scr; omega) (by unfold W6; omega)).1]
      exact d6 k k1 k2
    conv => whnf
    refine bk_nf (rfl) ?_
    conv => whnf
    refine ⟨wt_5 hw7, ?_⟩
    conv => whnf
    rw [wr_5_1 hw7]
    refine ⟨wt_5 hw7, ?_⟩
    conv => whnf
    rw [wr_5_5 hw7]
    refine ⟨wt_8 hw7, ?_⟩
    refine c_Tower_takeModuli S hv hu (img_ex hv) (img_ex hu) hC7 (R := 89) (by decide) (by decide) (by unfold twr scr; omega) (wt_89 hw7) (wn_89 hw7) d7 ?_
    intro h8 hC8 w8
    have hw8 := hC8.1
    have z8 : hI h8 79 1 = nI p := by
      rw [(w8.1 79 (by decide) (by unfold twr scr; omega)).1]
      exact zp
    have f18 : FO (RA s') h (sI h8 5 11 (nI p)) := FO_tr f46 (FO_tr (FO_mono (fun k hk => Or.inr (Or.inr (Or.inl hk))) f7) (FO_tr (FO_W w8) (FO_Y (eqY_sI (by unfold RA; omega)))))
    have hC9 : CI (sI h8 5 11 (nI p)) u (imF u) := CI_out (A := fun k => k = 5) (fun k hk => by omega) (eqY_sI rfl) hC8
    have fin := hE (by rw [e1]; decide) (sI h8 5 11 (nI p)) (c0.fo hC9 f18 (fun k k1 k2 => by unfold RA W6; omega) (by unfold RA W6; omega) (fun k k1 k2 => by unfold RA W6; omega) rfl) f18 (by
      rw [hI_ne (by decide), (w8.1 6 (by decide) (nt 6 (by decide) (by decide))).1, (f7.1 6 (by decide) (nt 6 (by decide) (by decide)) (by unfold W6; omega)).1]
      exact l66) (by rw [hI_sI, e2])
    rw [e1] at fin
    conv => whnf
    refine ⟨wt_5 hw8, ?_⟩
    conv => whnf
    rw [wr_5_2 hw8]
    refine ⟨wt_79 hw8, ?_⟩
    conv => whnf
    rw [z8]
    refine ⟨wt_5 hw8, ?_⟩
    conv => whnf
    exact fin
