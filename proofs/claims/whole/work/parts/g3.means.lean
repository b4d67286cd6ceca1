/-! MEANS: all lines, by the reference -/
theorem c_M_meansLet {P : PSem} (S : SysOK P) {h : PH} (hw : WS h) {tx : Nat → Nat} {L : Nat} (hB : TXB tx) (hM : L ≤ 2000) (eo : EOK tx L) {l0 : Nat → Int64} {k : Nat} (hk : k < pT (tkk tx L)) (hr : cR tx L k = 1) (hk2 : tkk tx L k = 2) (m : MST h tx L l0 k) (lf : LFR h tx L l0 k) {K : PK}
    (hK : ∀ h' e, MNX LJ LA h h' → hI h' 126 = hI h 126 → k < e → e ≤ pT (tkk tx L) → cR tx L e = 1 → (∀ i, k < i → i < e → cR tx L i ≠ 1) → MST h' tx L l0 e → LFR h' tx L l0 e → (∀ j, j < 13 → ∀ d0 : Nat → Int32, cMD tx L d0 e j = cMD tx L d0 k j) → K .null h') : P.1 n_M_meansLet [.ref 116, .int (nI k)] h K := by
  have t4 := (pT_ok (tkk tx L)).1
  have tab := rtab hk
  have r1 : cR tx L (k + 1) = 5 := by omega
  have l1 := eo.lt (t := k + 1) (by omega) (by omega)
  have tab1 := rtab l1
  have k4 : tkk tx L (k + 1) = 4 := by omega
  have r2 : cR tx L (k + 1 + 1) = 6 := by omega
  have r2 : cR tx L (k + 2) = 6 := r2
  have l2 := eo.lt (t := k + 2) (by omega) (by omega)
  have tab2 := rtab l2
  have k5 : tkk tx L (k + 2) = 5 := by omega
  have r3 : cR tx L (k + 2 + 1) = 7 := by omega
  have r3 : cR tx L (k + 3) = 7 := r3
  clear tab tab1 tab2
  have vb := tkv_bd (tx := tx) (L := L) (t := k + 2) hB
  obtain ⟨mb, mr, mw, me⟩ := m
  have tk1 := mb.1 (k + 1) (by omega)
  have tk2 := mb.1 (k + 2) (by omega)
  have n1 : cnm tx L (k + 1) = cnm tx L k := by
    show (if _ then _ else _) = _
    rw [if_neg (by omega)]
  have n2 : cnm tx L (k + 2) = cnm tx L k := by
    rw [← n1]
    show (if _ then _ else _) = _
    rw [if_neg (by omega)]
  have n3 : cnm tx L (k + 3) = cnm tx L k := by
    rw [← n2]
    show (if _ then _ else _) = _
    rw [if_neg (by omega)]
  have e1 : eW tx L l0 (k + 1) = eW tx L l0 k := eW_flat l0 (by omega)
  have e2 : eW tx L l0 (k + 2) = eW tx L l0 k := (eW_flat l0 (by omega)).trans e1
  have e3 : eW tx L l0 (k + 3) = ((eW tx L l0 k).1, []) := by
    rw [eW_6 l0 r2, e2]
  have cl := cnm_le (tx := tx) (L := L) (t := k + 2) (by omega)
  have cl8 : cnm tx L k < 8 := by
    have := cl.2 (by omega)
    omega
  have mb1 : MSB h tx L l0 (k + 1) := mb.nx (by omega)
  have iv := mb1.ix hM (by omega) k4
  have iv' : ixV (hL h 133) (cnm tx L k) (lN (tkn tx L (k + 1))) = cIV tx L l0 (k + 1) := by
    rw [← n1]
    exact iv
  have z0 : rFL tx L l0 k = 0 := by
    unfold rFL
    rw [if_neg (by omega), if_neg (by omega), if_neg (by omega), if_neg (by omega), if_neg (by omega)]
  have z1 : rFL tx L l0 (k + 1) = if cIX tx L l0 (k + 1) < cnm tx L (k + 1) then 3 else 0 := by
    unfold rFL
    rw [if_neg (by omega), if_neg (by omega), if_pos r1]
  have z2 : rFL tx L l0 (k + 2) = if 1 ≤ tkv tx L (k + 2) ∧ tkv tx L (k + 2) ≤ 12 then 0 else 5 := by
    unfold rFL
    rw [if_pos (Or.inr r2)]
  have g31 : ∀ h1, MNX WJ WA h h1 → WR h1 tx L (rFL tx L l0) (fun i => i < k + 3) → P.2 n_M_meansLet 31 [some (.ref 116), some (.int (nI k)), some (.int (nI (tkv tx L (k + 2)))), none] [] h1 0 0 K := by
    intro h1 f1 d1
    have hw1 := eqY_WS f1.1 hw
    have mb1 := mb.fr (fun _ y => y) (WJ_TJ f1)
    have mr1 := mr.wr f1
    refine S.at 60 [45] rfl ?_
    conv => whnf
    refine ⟨wt_116 hw1, ?_⟩
    conv => whnf
    rw [wr_116_25 hw1]
    refine ⟨wt_116 hw1, ?_⟩
    conv => whnf
    rw [mb1.2.2.2.1]
    refine ⟨wt_116 hw1, ?_⟩
    conv => whnf
    rw [mr1.1]
    refine ⟨⟨(by decide), inB_of (wt_130 hw1) (wn_130 hw1) (show cnm tx L k < 9 by omega) (by decide)⟩, ?_⟩
    conv => whnf
    rw [nI_clamp (by omega)]
    have hw2 : WS (sI h1 130 (cnm tx L k) (nI (eW tx L l0 k).1.length)) := hw1
    refine ⟨wt_116 hw2, ?_⟩
    conv => whnf
    have fr : MNX LJ LA h (sI (sI h1 130 (cnm tx L k) (nI (eW tx L l0 k).1.length)) 116 37 0) := MNX_tr (TJ_LJ (WJ_TJ f1)) (MNX_tr (MNX_A (by unfold LA; omega) (by decide)) (MNX_J (by unfold LA SA; omega) (by unfold LJ; omega)))
    have fr2 : MNX LJ LA h1 (sI (sI h1 130 (cnm tx L k) (nI (eW tx L l0 k).1.length)) 116 37 0) := MNX_tr (MNX_A (by unfold LA; omega) (by decide)) (MNX_J (by unfold LA SA; omega) (by unfold LJ; omega))
    have mb2 : MSB (sI (sI h1 130 (cnm tx L k) (nI (eW tx L l0 k).1.length)) 116 37 0) tx L l0 k := by
      refine ⟨fun q hq => (mb1.1 q hq).fr fr2.1 (by unfold LA SA; omega) (by unfold LA SA; omega) (by unfold LA SA; omega) (by unfold LA SA; omega), ⟨?_, ?_⟩, ?_, ?_, ?_, ?_⟩
      · rw [hI_sI_j (by decide), hI_ne (by decide)]
        exact mb1.2.1.1
      · rw [hI_sI_ne (by decide), hI_sI_ne (by decide)]
        exact mb1.2.1.2
      · rw [hI_sI_j (by decide), hI_ne (by decide)]
        exact mb1.2.2.1
      · rw [hI_sI_j (by decide), hI_ne (by decide)]
        exact mb1.2.2.2.1
      · exact mb1.2.2.2.2.1
      · rw [hI_sI_ne (by decide), hI_sI_ne (by decide)]
        exact mb1.2.2.2.2.2
    rw [show (fun x y : Int32 => x + y) (nI k) 3 = nI (k + 3) from (zn_plus k 3).symm]
    refine l_M_let (k := k) S hw hB hM eo k4 lf hK (pT (tkk tx L) - (k + 3)) (k + 3) _ (by have := eo.lt (t := k + 3) (by omega) (by omega); omega) (Nat.le_refl _) (by omega) (fun j y1 y2 => ?_) ?_ n3 (fun j hj => ⟨?_, ?_⟩) ?_ (fun j hj d0 => ?_) fr ?_ (fun j hj => ?_) ?_ (fun y => ?_) ⟨((mb2.nx (by omega)).nx (by omega)).nx (by omega), ?_, ?_, ?_⟩
    · rcases (show j = k + 1 ∨ j = k + 2 ∨ j = k + 3 by omega) with e | e | e
      · rw [e]; omega
      · rw [e]; omega
      · rw [e]; omega
    · show (if _ then _ else _) = _
      rw [if_pos ⟨r2, n2.symm⟩]
    · show (if _ then _ else if _ then _ else if _ then _ else _) = _
      rw [if_neg (by omega), if_neg (by omega), if_neg (by omega)]
    · show (if _ then _ else if _ then _ else if _ then _ else _) = _
      rw [if_neg (by omega), if_neg (by omega), if_neg (by omega)]
    · show (if _ then _ else _) = _
      rw [if_pos (Or.inr r2)]
    · show (if _ then _ else if _ then _ else if _ then _ else _) = _
      rw [if_neg (by omega), if_neg (by omega), if_neg (by omega)]
    · rw [hI_sI_ne (by decide), hI_sI_ne (by decide), (f1.1.2.2.2 126 (by unfold WA; omega)).1]
    · rw [hI_ne (by decide), hI_sI_j (by omega), (f1.1.2.2.2 130 (by unfold WA; omega)).1]
    · rw [hI_ne (by decide), hI_sI, e3]
    · obtain ⟨x, hx⟩ := Nat.exists_eq_succ_of_ne_zero y
      have hx : cnm tx L k = x + 1 := hx
      rw [hx, (lf x (by omega)).2, e3, ((FLT_ok l0 (fun _ => 0) k (by omega) (by omega)).2 x hx).2.2]
    · rw [e3]
      have fr5 : MNX (fun j => j = 37) A4 h1 (sI (sI h1 130 (cnm tx L k) (nI (eW tx L l0 k).1.length)) 116 37 0) := MNX_tr (MNX_A (by unfold A4; omega) (by decide)) (MNX_J (by unfold A4; omega) rfl)
      exact mr1.fr fr5 (by decide) (by unfold A4; omega) (by unfold A4; omega) (by unfold A4; omega)
    · rw [e3]
      exact fun _ => ⟨hI_sI, fun i w hi => absurd hi (by simp)⟩
    · unfold WR
      rw [hI_sI_j (by decide), hI_sI_j (by decide), hI_ne (by decide), hI_ne (by decide)]
      exact d1
  have g16 : ∀ h1, MNX WJ WA h h1 → WR h1 tx L (rFL tx L l0) (fun i => i < k + 1 ∨ i = k + 2) → P.2 n_M_meansLet 16 [some (.ref 116), some (.int (nI k)), some (.int (nI (tkv tx L (k + 2)))), none] [] h1 0 0 K := by
    intro h1 f1 d1
    have hw1 := eqY_WS f1.1 hw
    have mb1 := mb.fr (fun _ y => y) (WJ_TJ f1)
    have iv1 : ixV (hL h1 133) (cnm tx L k) (lN (tkn tx L (k + 1))) = cIV tx L l0 (k + 1) := by
      rw [(f1.1.2.2.2 133 (by unfold WA; omega)).2]
      exact iv'
    refine S.at 60 [31] rfl ?_
    conv => whnf
    refine ⟨wt_116 hw1, ?_⟩
    conv => whnf
    rw [wr_116_8 hw1]
    try rw [show (fun x y : Int32 => x + y) (nI k) 1 = nI (k + 1) from nI_1 k]
    refine ⟨inB_of (wt_122 hw1) (wn_122 hw1) (show k + 1 < 403 by omega) (by decide), ?_⟩
    conv => whnf
    rw [nI_clamp (by omega), (mb1.1 (k + 1) (by omega)).2.2.2]
    refine ⟨wt_116 hw1, ?_⟩
    refine c_M_named S hw1 (by omega) mb1.2.2.2.1 ?_
    rw [iv1]
    unfold cIV
    by_cases c : cIX tx L l0 (k + 1) < cnm tx L (k + 1)
    · rw [if_pos c] at z1 ⊢
      conv => whnf
      refine bk_f (fun c => absurd ((zn_lt (b := 0) (by omega) (by omega)).mp c) (by omega)) ?_
      conv => whnf
      try rw [show (fun x y : Int32 => x + y) (nI k) 1 = nI (k + 1) from nI_1 k]
      refine ⟨wt_116 hw1, ?_⟩
      refine c_M_wrong (v := 3) S hw1 hM (rFL_le tx L l0) (fun i hi => by omega) l1 (by omega) (mb1.1 (k + 1) (by omega)) mb1.2.2.1 z1 (by decide) d1 ?_
      intro h2 f2 d2
      conv => whnf
      refine S.mk [(0,1),(0,1),(0,1),(0,0)] ?_
      exact g31 h2 (MNX_tr f1 f2) (d2.sq (fun i => by omega))
    · rw [if_neg c] at z1 ⊢
      conv => whnf
      refine bk_t (by decide) ?_
      conv => whnf
      refine S.mk [(0,1),(0,1),(0,1),(0,0)] ?_
      exact g31 h1 f1 (d1.eq (fun i => ⟨fun y => by
        rcases (show (i < k + 1 ∨ i = k + 2) ∨ i = k + 1 by omega) with w | w
        · exact Or.inl w
        · exact Or.inr ⟨y, by rw [w]; exact z1⟩, fun y => by
        rcases y with y | y
        · omega
        · exact y.1⟩))
  refine S.2.1 _ 4 _ _ _ rfl rfl ?_
  refine S.at 60 [16] rfl ?_
  conv => whnf
  refine ⟨wt_116 hw, ?_⟩
  conv => whnf
  rw [wr_116_7 hw]
  try rw [show (fun x y : Int32 => x + y) (nI k) 2 = nI (k + 2) from (zn_plus k 2).symm]
  refine ⟨inB_of (wt_121 hw) (wn_121 hw) (show k + 2 < 403 by omega) (by decide), ?_⟩
  conv => whnf
  rw [nI_clamp (by omega), tk2.2.2.1]
  refine c_M_isField S _ ?_
  conv => whnf
  rw [okF_n (by omega)]
  have me1 := me.nx z0
  refine bk_b1 (fun y => ?_) (fun y => ?_)
  · have y := of_decide_eq_true y
    rw [if_pos y] at z2
    conv => whnf
    refine S.mk [(0,1),(0,1),(0,1),(0,0)] ?_
    exact g16 h (MNX_rf _ _ _) (me1.eq (fun i => ⟨fun x => by
        rcases x with w | w
        · exact Or.inl w
        · exact Or.inr ⟨Or.inr w, by rw [w]; exact z2⟩, fun x => by
        rcases x with x | x
        · exact Or.inl x
        · exact x.1⟩))
  · have y := of_decide_eq_false y
    rw [if_neg y] at z2
    conv => whnf
    try rw [show (fun x y : Int32 => x + y) (nI k) 2 = nI (k + 2) from (zn_plus k 2).symm]
    refine ⟨wt_116 hw, ?_⟩
    refine c_M_wrong (v := 5) S hw hM (rFL_le tx L l0) (fun i hi => by have hi : i < k + 1 := hi; omega) l2 (by omega) tk2 mb.2.2.1 z2 (by decide) me1 ?_
    intro h2 f2 d2
    conv => whnf
    refine S.mk [(0,1),(0,1),(0,1),(0,0)] ?_
    exact g16 h2 f2 d2
