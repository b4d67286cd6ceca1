/-! READ: the reference's read -/
def GJ (j : Nat) : Prop := j = 2 ∨ j = 4 ∨ (10 ≤ j ∧ j ≤ 16) ∨ j = 20 ∨ j = 24 ∨ j = 29 ∨ j = 35 ∨ j = 37
def GA (k : Nat) : Prop := k = 116 ∨ (118 ≤ k ∧ k ≤ 122) ∨ (125 ≤ k ∧ k ≤ 140) ∨ k = 144
def MFR (h h' : PH) : Prop := eqY (fun k => 116 ≤ k ∧ k ≤ 148) h h'
theorem GA_HF {h h' : PH} (e : MNX GJ GA h h') : HF h h' := ⟨e.2 40 (by unfold GJ; omega), e.2 41 (by unfold GJ; omega), (e.1.2.2.2 141 (by unfold GA; omega)).1, (e.1.2.2.2 142 (by unfold GA; omega)).1, (e.1.2.2.2 143 (by unfold GA; omega)).1⟩
theorem GA_MFR {h h' : PH} (e : MNX GJ GA h h') : MFR h h' := eqY_mono (fun k hk => by unfold GA at hk; omega) e.1
theorem MJ_fr {h h' : PH} {A : Nat → Prop} {u : Nat → Nat} (e : eqY A h h') (h5 : ¬ A 125) (h4 : ¬ A 124) (h44 : ¬ A 144) (m : MJ h u) : MJ h' u := by
  obtain ⟨a, b, c, d⟩ := m
  refine ⟨eqY_WS e a, fun q y1 y2 => ?_, fun q y1 y2 => ?_, fun n d' y1 y2 y3 y4 => ?_⟩
  · rw [(e.2.2.2 125 h5).1]
    exact b q y1 y2
  · rw [(e.2.2.2 124 h4).1]
    exact c q y1 y2
  · rw [(e.2.2.2 144 h44).1]
    exact d n d' y1 y2 y3 y4
theorem REV_fr {h h' : PH} {J A : Nat → Prop} {tx : Nat → Nat} {L : Nat} {l0 : Nat → Int64} (e : MNX J A h h') (j1 : ¬ J 24) (j2 : ¬ J 29) (ha : ∀ k, 127 ≤ k → k ≤ 131 → ¬ A k) (r : REV h tx L l0) : REV h' tx L l0 := by
  obtain ⟨a, b, c, d⟩ := r
  refine ⟨(e.2 29 j2).trans a, fun j hj => ?_, fun j hj => ?_, d.fr e j1 (ha 127 (by decide) (by decide)) (ha 128 (by decide) (by decide)) (ha 129 (by decide) (by decide))⟩
  · rw [(e.1.2.2.2 130 (ha 130 (by decide) (by decide))).1]
    exact b j hj
  · rw [(e.1.2.2.2 131 (ha 131 (by decide) (by decide))).1]
    exact c j hj
theorem RST.fr {h h' : PH} {J A : Nat → Prop} {u tx : Nat → Nat} {L : Nat} {l0 : Nat → Int64} {f0 : Nat → Int32} (e : MNX J A h h') (j1 : ¬ J 24) (j2 : ¬ J 29) (ha : ∀ k, 123 ≤ k → k ≤ 132 → k ≠ 126 → ¬ A k) (h44 : ¬ A 144) (r : RST h u tx L l0 f0) : RST h' u tx L l0 f0 := by
  obtain ⟨a, b, c, d, f, g⟩ := r
  refine ⟨MJ_fr e.1 (ha 125 (by decide) (by decide) (by decide)) (ha 124 (by decide) (by decide) (by decide)) h44 a, ?_, c, REV_fr e j1 j2 (fun k k1 k2 => ha k (by omega) (by omega) (by omega)) d, f, fun w hw => ?_⟩
  · unfold MKY
    rw [(e.1.2.2.2 123 (ha 123 (by decide) (by decide) (by decide))).2]
    exact b
  · rw [(e.1.2.2.2 132 (ha 132 (by decide) (by decide) (by decide))).1]
    exact g w hw
theorem c_M_read {P : PSem} (S : SysOK P) {h : PH} {u tx0 : Nat → Nat} {L0 : Nat} {l00 : Nat → Int64} {f00 : Nat → Int32} (r0 : RST h u tx0 L0 l00 f00) (hu : MDS u) {tx : Nat → Nat} {L : Nat} (hT : TM h tx L) (hB : TXB tx) (hM : L ≤ 2000) (l0 : Nat → Int64) (f0 : Nat → Int32) {K : PK}
    (hE : rdR tx L l0 f0 ≠ 0 → ∀ h', RST h' u tx0 L0 l00 f00 → HF h h' → hI h' 116 2 = nI 0 → hI h' 116 16 = nI (rdP tx L l0 f0) → MFR h h' → K (.int (nI (rdR tx L l0 f0))) h')
    (hG : rdR tx L l0 f0 = 0 → ∀ h', RST h' (vM tx L) tx L l0 f0 → hI h' 116 40 = hI h 116 40 → hI h' 116 41 = nI 0 → (∀ q, q < 3 → hI h' 143 q = 0) → hI h' 116 2 = nI 0 → hI h' 116 16 = -1 → MFR h h' → K (.int 0) h') : P.1 n_M_read [.ref 116] h K := by
  have hw := r0.1.1
  have t4 := (pT_ok (tkk tx L)).1
  have t40 := (pT_ok (tkk tx0 L0)).1
  refine f_M_read S hw hT r0.2.1 hB hM ?_
  intro h1 m1
  obtain ⟨f1, x1, a2, a14, htk, a12, a13, ntk⟩ := m1
  have f1 : MNX RDJ RDA h h1 := f1
  have hw1 := eqY_WS f1.1 hw
  have f1g : MNX GJ GA h h1 := MNX_mono (fun j y => by unfold RDJ at y; unfold GJ; omega) (fun k y => by unfold RDA at y; unfold GA; omega) f1
  have pl := pF_le (tkk tx L)
  have r1 : RST h1 u tx0 L0 l00 f00 := r0.fr f1 (by unfold RDJ; omega) (by unfold RDJ; omega) (fun k _ _ _ => by unfold RDA; omega) (by unfold RDA; omega)
  by_cases z : pF (tkk tx L) ≠ 0
  · have e1 : rdR tx L l0 f0 = pF (tkk tx L) := if_pos z
    have e2 : rdP tx L l0 f0 = tkS tx L (pT (tkk tx L)) := if_pos z
    have f2 : MNX (fun j => j = 16) (fun k => k = 116) h1 (sI h1 116 16 (nI (tkS tx L (pT (tkk tx L))))) := MNX_J rfl rfl
    have fin := hE (by rw [e1]; exact z) (sI h1 116 16 (nI (tkS tx L (pT (tkk tx L))))) (r1.fr f2 (by decide) (by decide) (fun k _ _ _ => by omega) (by decide)) (GA_HF (MNX_tr f1g (MNX_J (by unfold GA; omega) (by unfold GJ; omega)))) ((hI_sI_j (by decide)).trans a2) (by rw [e2, hI_sI]) (GA_MFR (MNX_tr f1g (MNX_J (by unfold GA; omega) (by unfold GJ; omega))))
    rw [e1] at fin
    refine S.at 60 [] rfl ?_
    conv => whnf
    refine ⟨wt_116 hw1, ?_⟩
    conv => whnf
    rw [a12]
    refine bk_f (fun c => absurd ((zn_le (b := 0) (by omega) (by omega)).mp c) (by omega)) ?_
    conv => whnf
    refine ⟨wt_116 hw1, ?_⟩
    conv => whnf
    rw [a13 z]
    refine ⟨wt_116 hw1, ?_⟩
    conv => whnf
    have hw2 : WS (sI h1 116 16 (nI (tkS tx L (pT (tkk tx L))))) := hw1
    refine ⟨wt_116 hw2, ?_⟩
    conv => whnf
    rw [hI_sI_j (by decide), a12]
    exact fin
  have z : pF (tkk tx L) = 0 := by omega
  rw [z] at a12
  have eo : EOK tx L := by
    unfold pF at z
    split at z
    · rename_i y
      exact ⟨y.2, y.1⟩
    · split at z
      · omega
      · omega
  have nz : ¬ pF (tkk tx L) ≠ 0 := fun y => y z
  have tk1 : ∀ k, k ≤ pT (tkk tx L) → TOK h1 tx L k := fun k hk => htk k (by omega) (pT_14 hk)
  have t10 : hI h1 116 10 = nI (pT (tkk tx L) + 1) := ntk _ t4 (pT_14 (Nat.le_refl _)) eo.2
  have el0 := eW_len tx0 L0 l00 (pT (tkk tx0 L0))
  have tab92 : ∀ h5, MNX GJ GA h h5 → hI h5 116 2 = nI 0 → SVD h1 h5 (eW tx0 L0 l00 (pT (tkk tx0 L0))).1.length → SPL h5 → MKY h5 → rdR tx L l0 f0 ≠ 0 → rdR tx L l0 f0 ≤ 7 → hI h5 116 14 = nI (rdR tx L l0 f0) → hI h5 116 15 = nI (rdP tx L l0 f0) → ∀ x, P.2 n_M_read 92 [some (.ref 116), x] [] h5 0 0 K := by
    intro h5 f5 b2 sv sp ky n0 n7 b14 b15 x
    have hw5 := eqY_WS f5.1 hw
    refine S.at 60 [] rfl ?_
    conv => whnf
    refine ⟨wt_116 hw5, ?_⟩
    conv => whnf
    rw [b14]
    refine bk_f (fun c => absurd ((zn_le (b := 0) (by omega) (by omega)).mp c) (by omega)) ?_
    conv => whnf
    refine ⟨wt_116 hw5, ?_⟩
    conv => whnf
    rw [b15]
    refine ⟨wt_116 hw5, ?_⟩
    conv => whnf
    have hw6 : WS (sI h5 116 16 (nI (rdP tx L l0 f0))) := hw5
    refine ⟨wt_116 hw6, ?_⟩
    conv => whnf
    rw [hI_sI_j (by decide), b14]
    refine bk_f (fun c => absurd ((zn_le (b := 0) (by omega) (by omega)).mp c) (by omega)) ?_
    conv => whnf
    refine ⟨wt_116 hw6, ?_⟩
    have sv6 : SVD h1 (sI h5 116 16 (nI (rdP tx L l0 f0))) (eW tx0 L0 l00 (pT (tkk tx0 L0))).1.length := by
      unfold SVD
      rw [hI_sI_j (by decide), hI_sI_ne (by decide), hI_sI_ne (by decide), hI_sI_ne (by decide), hI_sI_ne (by decide), hI_sI_ne (by decide)]
      exact sv
    refine c_M_takes S hw6 (by omega) sv6 hu r1.1.2.1 ?_
    intro h7 f7 mq x7
    have hw7 := eqY_WS f7.1 hw6
    have g7 : MNX GJ GA h h7 := MNX_tr f5 (MNX_tr (MNX_J (by unfold GA; omega) (by unfold GJ; omega)) (MNX_mono (fun j y => by unfold QJ at y; unfold GJ; omega) (fun k y => by unfold QA at y; unfold GA; omega) f7))
    have r7 : RST h7 u tx0 L0 l00 f00 := by
      refine ⟨⟨hw7, fun q y1 y2 => ?_, fun q y1 y2 => ?_, x7⟩, ?_, r1.2.2.1, REV_meq r1.2.2.2.1 mq, r1.2.2.2.2.1, fun w hw => ?_⟩
      · rw [mq.2.2.2.2.2 q y1 (by omega)]
        exact r1.1.2.1 q y1 y2
      · rw [(f7.1.2.2.2 124 (by unfold QA; omega)).1, hI_ne (by decide)]
        exact sp q y1 y2
      · unfold MKY
        rw [(f7.1.2.2.2 123 (by unfold QA; omega)).2, hL_sI]
        exact ky
      · have c8 := (cnm_le (tx := tx0) (L := L0) (t := pT (tkk tx0 L0)) (Nat.le_refl _)).1
        rw [(mq.2.2.2.1 w (by omega)).2.2]
        exact r1.2.2.2.2.2 w hw
    have fin := hE n0 h7 r7 (GA_HF g7) (by rw [f7.2 2 (by unfold QJ; omega), hI_sI_j (by decide)]; exact b2) (by rw [f7.2 16 (by unfold QJ; omega), hI_sI]) (GA_MFR g7)
    have q14 : hI h7 116 14 = nI (rdR tx L l0 f0) := by
      rw [f7.2 14 (by unfold QJ; omega), hI_sI_j (by decide)]
      exact b14
    conv => whnf
    refine ⟨wt_116 hw7, ?_⟩
    conv => whnf
    rw [q14]
    exact fin
  refine S.at 60 [66,92] rfl ?_
  conv => whnf
  refine ⟨wt_116 hw1, ?_⟩
  conv => whnf
  rw [a12]
  refine bk_t ((zn_le (a := 0) (b := 0) (by omega) (by omega)).mpr (by omega)) ?_
  conv => whnf
  refine ⟨wt_116 hw1, ?_⟩
  refine c_M_puts S hw1 (e := (eW tx0 L0 l00 (pT (tkk tx0 L0))).1.length) (by omega) r1.2.2.2.1.2.2.2.1 ?_
  intro h2 f2 sv2
  have hw2 := eqY_WS f2.1 hw1
  have g2 : MNX GJ GA h1 h2 := MNX_mono (fun j y => by unfold PJ at y; unfold GJ; omega) (fun k y => by unfold PA at y; unfold GA; omega) f2
  have sp2 : SPL h2 := fun q y1 y2 => by rw [(f2.1.2.2.2 124 (by unfold PA; omega)).1]; exact r1.1.2.2.1 q y1 y2
  conv => whnf
  refine ⟨wt_116 hw2, ?_⟩
  refine c_M_means S hw2 sp2 hB hM eo l0 f0 ?_ ?_ ?_ ?_ ?_ ?_
  · rw [f2.2 10 (by unfold PJ; omega)]
    exact t10
  · exact fun k hk => (tk1 k hk).fr f2.1 (by unfold PA; omega) (by unfold PA; omega) (by unfold PA; omega) (by unfold PA; omega)
  · refine ⟨?_, ?_⟩
    · rw [f2.2 4 (by unfold PJ; omega)]
      exact x1.1
    · rw [(f2.1.2.2.2 118 (by unfold PA; omega)).1]
      exact x1.2
  · rw [f2.2 12 (by unfold PJ; omega)]
    exact a12
  · rw [f2.2 14 (by unfold PJ; omega)]
    exact a14
  intro h3 f3 ms
  have hw3 := eqY_WS f3.1 hw2
  have g3 : MNX GJ GA h2 h3 := MNX_mono (fun j y => by unfold LJ at y; unfold GJ; omega) (fun k y => by unfold LA SA at y; unfold GA; omega) f3
  have gg3 : MNX GJ GA h h3 := MNX_tr f1g (MNX_tr g2 g3)
  have b2 : hI h3 116 2 = nI 0 := by
    rw [f3.2 2 (by unfold LJ; omega), f2.2 2 (by unfold PJ; omega)]
    exact a2
  have sv3 : SVD h1 h3 (eW tx0 L0 l00 (pT (tkk tx0 L0))).1.length := by
    unfold SVD
    rw [f3.2 35 (by unfold LJ; omega), (f3.1.2.2.2 134 (by unfold LA SA; omega)).1, (f3.1.2.2.2 135 (by unfold LA SA; omega)).1, (f3.1.2.2.2 136 (by unfold LA SA; omega)).1, (f3.1.2.2.2 137 (by unfold LA SA; omega)).1, (f3.1.2.2.2 138 (by unfold LA SA; omega)).1]
    exact sv2
  have sp3 : SPL h3 := fun q y1 y2 => by rw [(f3.1.2.2.2 124 (by unfold LA SA; omega)).1]; exact sp2 q y1 y2
  have ky3 : MKY h3 := by
    unfold MKY
    rw [(f3.1.2.2.2 123 (by unfold LA SA; omega)).2, (f2.1.2.2.2 123 (by unfold PA; omega)).2]
    exact r1.2.1
  have rv3 : REV h3 tx L l0 := ⟨ms.1.1.2.2.2.1, ms.2.1, fun j hj => (ms.1.1.2.2.2.2.2 j hj).1, ms.1.2.1⟩
  rcases WR_cF f0 ms.1.2.2.2 with ⟨c14, cT, cz⟩ | ⟨c1, c2, c14, c15⟩
  rotate_left
  · have e1 : rdR tx L l0 f0 = cFL tx L l0 f0 (cFT tx L l0 f0) := by
      unfold rdR
      rw [if_neg nz, if_pos c1]
    have e2 : rdP tx L l0 f0 = tkS tx L (cFT tx L l0 f0) := by
      unfold rdP
      rw [if_neg nz, if_pos c1]
    have fl := cFL_le tx L l0 f0 (cFT tx L l0 f0)
    conv => whnf
    refine ⟨wt_116 hw3, ?_⟩
    conv => whnf
    rw [c14]
    refine bk_nt (fun c => absurd ((zn_eq (b := 0) (by omega) (by omega)).mp c) (by omega)) ?_
    conv => whnf
    exact tab92 h3 gg3 b2 sv3 sp3 ky3 (by rw [e1]; exact c2) (by omega) (by rw [e1]; exact c14) (by rw [e2]; exact c15) _
  obtain ⟨hv, hv2⟩ := vM_ok cz
  have tt : TXT tx L l0 f0 := ⟨hM, eo, cz⟩
  have nlt : ¬ cFT tx L l0 f0 < pT (tkk tx L) := by omega
  have e1n : (mst tx L l0 (vM tx L) (pT (tkk tx L))).1 = none → rdR tx L l0 f0 = 0 := fun en => by
    unfold rdR
    rw [if_neg nz, if_neg nlt, en]
  have e1s : ∀ p, (mst tx L l0 (vM tx L) (pT (tkk tx L))).1 = some p → rdR tx L l0 f0 = 7 ∧ rdP tx L l0 f0 = p := fun p en => by
    unfold rdR rdP
    rw [if_neg nz, if_neg nlt, if_neg nz, if_neg nlt, en]
    exact ⟨rfl, rfl⟩
  conv => whnf
  refine ⟨wt_116 hw3, ?_⟩
  conv => whnf
  rw [c14]
  refine bk_nf ((zn_eq (a := 0) (b := 0) (by omega) (by omega)).mpr (by omega)) ?_
  conv => whnf
  refine S.mk [(0,1),(0,1)] ?_
  refine l_read3 S hw3 ?_ 12 1 h3 rfl (Nat.le_refl 1) (eqX_rf _ _) (fun q y1 y2 => absurd y1 (by omega))
  intro h4 f4 d4
  have hw4 := eqX_WS f4 hw3
  have nw4 : NOW h4 (vM tx L) := fun q y1 y2 => by
    rw [d4 q y1 (by omega), ms.2.2 cz q y1 y2]
    exact hv2 q y1 y2
  refine S.at 60 [92] rfl ?_
  conv => whnf
  refine ⟨wt_116 hw4, ?_⟩
  refine c_M_laysTower S hw4 hv (img_ex hv) nw4 ?_
  intro h5 f5 x5
  have hw5 := eqX_WS f5 hw4
  have f45 : MNX (fun _ => False) (fun k => k = 125 ∨ k = 144) h3 h5 := MNX_tr (eqX_MNX f4 (fun k hk => Or.inl hk) (by decide)) (eqX_MNX f5 (fun k hk => Or.inr hk) (by unfold m144; decide))
  have rv5 : REV h5 tx L l0 := REV_fr f45 (fun y => y) (fun y => y) (fun k k1 k2 => by omega) rv3
  have nw5 : NOW h5 (vM tx L) := fun q y1 y2 => by
    rw [f5.2.2.2.2 125 (by unfold m144; decide)]
    exact nw4 q y1 y2
  have c5 : ∀ k, k ≠ 125 → k ≠ 144 → hI h5 k = hI h3 k := fun k k1 k2 => (f45.1.2.2.2 k (by omega)).1
  conv => whnf
  refine ⟨wt_116 hw5, ?_⟩
  refine c_M_works S tt hv hw5 rv5 nw5 x5 ?_
  intro h6 f6
  have hw6 := eqX_WS f6 hw5
  have c6 : ∀ k, k ≠ 125 → k ≠ 144 → k ≠ 132 → k ≠ 140 → hI h6 k = hI h3 k := fun k k1 k2 k3 k4 => by
    rw [f6.2.2.2.2 k (by omega), c5 k k1 k2]
  have l6 : hL h6 = hL h3 := by
    rw [f6.2.2.1, f5.2.2.1, f4.2.2.1]
  have gg6 : MNX GJ GA h h6 := MNX_tr gg3 (MNX_tr (MNX_mono (fun j y => absurd y id) (fun k y => by unfold GA; omega) f45) (eqX_MNX f6 (fun k hk => by unfold GA; omega) (by decide)))
  refine ⟨fun en ev => ?_, fun p pb ep => ?_⟩
  · have e1 := e1n en
    have rv6 : REV h6 tx L l0 := REV_fr (J := fun _ => False) (A := fun k => k = 132 ∨ k = 140) (eqX_MNX f6 (fun k hk => hk) (by decide)) (fun y => y) (fun y => y) (fun k k1 k2 => by omega) rv5
    conv => whnf
    refine bk_t (by decide) ?_
    conv => whnf
    refine S.at 60 [114] rfl ?_
    conv => whnf
    refine ⟨wt_116 hw6, ?_⟩
    conv => whnf
    rw [c6 116 (by decide) (by decide) (by decide) (by decide), c14]
    refine bk_t ((zn_le (a := 0) (b := 0) (by omega) (by omega)).mpr (by omega)) ?_
    conv => whnf
    refine ⟨wt_116 hw6, ?_⟩
    conv => whnf
    have hw7 : WS (sI h6 116 16 (-1)) := hw6
    refine ⟨wt_116 hw7, ?_⟩
    conv => whnf
    rw [hI_sI_j (by decide), c6 116 (by decide) (by decide) (by decide) (by decide), c14]
    refine bk_t ((zn_le (a := 0) (b := 0) (by omega) (by omega)).mpr (by omega)) ?_
    conv => whnf
    refine ⟨wt_116 hw7, ?_⟩
    conv => whnf
    have hw8 : WS (sI (sI h6 116 16 (-1)) 116 41 0) := hw6
    refine l_M_unhold (h0 := sI (sI h6 116 16 (-1)) 116 41 0) S hw8 ?_ 3 0 _ rfl (eqX_rf _ _) (fun q hq => absurd hq (Nat.not_lt_zero q))
    intro h9 f9 d9
    have f69 : MNX (fun j => j = 16 ∨ j = 41) (fun k => k = 116 ∨ k = 143) h6 h9 := MNX_tr (MNX_J (Or.inl rfl) (Or.inl rfl)) (MNX_tr (MNX_J (Or.inl rfl) (Or.inr rfl)) (eqX_MNX f9 (fun k hk => Or.inr hk) (by decide)))
    have c9 : ∀ k, k ≠ 116 → k ≠ 143 → hI h9 k = hI h6 k := fun k k1 k2 => (f69.1.2.2.2 k (by omega)).1
    refine hG e1 h9 ⟨⟨eqY_WS f69.1 hw6, fun q y1 y2 => ?_, fun q y1 y2 => ?_, fun n d y1 y2 y3 y4 => ?_⟩, ?_, tt, REV_fr f69 (by decide) (by decide) (fun k k1 k2 => by omega) rv6, en, fun w hw => ?_⟩ (by rw [f69.2 40 (by decide)]; exact gg6.2 40 (by unfold GJ; omega)) ?_ d9 ?_ ?_ ?_
    · rw [c9 125 (by decide) (by decide), f6.2.2.2.2 125 (by decide)]
      exact nw5 q y1 y2
    · rw [c9 124 (by decide) (by decide), c6 124 (by decide) (by decide) (by decide) (by decide)]
      exact sp3 q y1 y2
    · rw [c9 144 (by decide) (by decide), f6.2.2.2.2 144 (by decide)]
      exact x5 n d y1 y2 y3 y4
    · unfold MKY
      rw [(f69.1.2.2.2 123 (by decide)).2, l6]
      exact ky3
    · rw [c9 132 (by decide) (by decide)]
      exact ev w hw
    · rw [f9.2.2.2.2 116 (by decide), hI_sI]
      rfl
    · rw [f69.2 2 (by decide), c6 116 (by decide) (by decide) (by decide) (by decide)]
      exact b2
    · rw [f9.2.2.2.2 116 (by decide), hI_sI_j (by decide), hI_sI]
    · exact eqY_tr (GA_MFR gg6) (eqY_mono (fun k hk => by omega) f69.1)
  · obtain ⟨e1, e2⟩ := e1s p ep
    conv => whnf
    refine bk_f (fun c => absurd ((zn_lt (b := 0) (by omega) (by omega)).mp c) (by omega)) ?_
    conv => whnf
    refine ⟨wt_116 hw6, ?_⟩
    conv => whnf
    have hw7 : WS (sI h6 116 14 7) := hw6
    refine ⟨wt_116 hw7, ?_⟩
    conv => whnf
    have f67 : MNX (fun j => j = 14 ∨ j = 15) (fun k => k = 116) h6 (sI (sI h6 116 14 7) 116 15 (nI p)) := MNX_tr (MNX_J rfl (Or.inl rfl)) (MNX_J rfl (Or.inr rfl))
    refine tab92 (sI (sI h6 116 14 7) 116 15 (nI p)) (MNX_tr gg6 (MNX_mono (fun j y => by unfold GJ; omega) (fun k y => by unfold GA; omega) f67)) ?_ ?_ ?_ ?_ (by rw [e1]; decide) (by omega) ?_ ?_ _
    · rw [f67.2 2 (by decide), c6 116 (by decide) (by decide) (by decide) (by decide)]
      exact b2
    · unfold SVD
      rw [f67.2 35 (by decide), (f67.1.2.2.2 134 (by decide)).1, (f67.1.2.2.2 135 (by decide)).1, (f67.1.2.2.2 136 (by decide)).1, (f67.1.2.2.2 137 (by decide)).1, (f67.1.2.2.2 138 (by decide)).1, c6 116 (by decide) (by decide) (by decide) (by decide), c6 134 (by decide) (by decide) (by decide) (by decide), c6 135 (by decide) (by decide) (by decide) (by decide), c6 136 (by decide) (by decide) (by decide) (by decide), c6 137 (by decide) (by decide) (by decide) (by decide), c6 138 (by decide) (by decide) (by decide) (by decide)]
      exact sv3
    · intro q y1 y2
      rw [(f67.1.2.2.2 124 (by decide)).1, c6 124 (by decide) (by decide) (by decide) (by decide)]
      exact sp3 q y1 y2
    · unfold MKY
      rw [(f67.1.2.2.2 123 (by decide)).2, l6]
      exact ky3
    · rw [hI_sI_j (by decide), hI_sI, e1]
      rfl
    · rw [hI_sI, e2]
