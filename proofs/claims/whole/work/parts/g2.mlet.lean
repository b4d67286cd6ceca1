/-! MEANS: a line, by the reference -/
def LJ (j : Nat) : Prop := j = 14 ∨ j = 15 ∨ j = 24 ∨ j = 29 ∨ j = 37
def LA (k : Nat) : Prop := SA k ∨ k = 126 ∨ k = 130 ∨ k = 131 ∨ k = 133
def LFR (h : PH) (tx : Nat → Nat) (L : Nat) (l0 : Nat → Int64) (e : Nat) : Prop := ∀ j, j < cnm tx L e → hI h 130 j = nI (eW tx L l0 (lnA tx L e j + 1)).1.length ∧ hI h 130 (j + 1) = nI (eW tx L l0 (lnT tx L e j + 1)).1.length
def EOK (tx : Nat → Nat) (L : Nat) : Prop := cR tx L (pT (tkk tx L)) = 1 ∧ tkk tx L (pT (tkk tx L)) = 14
theorem TJ_LJ {h h' : PH} (e : MNX TJ SA h h') : MNX LJ LA h h' := MNX_mono (fun j y => by unfold TJ at y; unfold LJ; omega) (fun j y => Or.inl y) e
theorem EOK.lt {tx : Nat → Nat} {L t : Nat} (e : EOK tx L) (ht : t ≤ pT (tkk tx L)) (hr : cR tx L t ≠ 1) : t < pT (tkk tx L) := by
  rcases Nat.lt_or_ge t (pT (tkk tx L)) with w | w
  · exact w
  · have : t = pT (tkk tx L) := by omega
    rw [this] at hr
    exact absurd e.1 hr
theorem RR.fr {h h' : PH} {J A : Nat → Prop} {E : List Qst} (r : RR h E) (e : MNX J A h h') (j : ¬ J 24) (a : ¬ A 127) (b : ¬ A 128) (c : ¬ A 129) : RR h' E := by
  unfold RR
  rw [e.2 24 j, (e.1.2.2.2 127 a).1, (e.1.2.2.2 128 b).1, (e.1.2.2.2 129 c).1]
  exact r
theorem WW.fr {h h' : PH} {J A : Nat → Prop} {W : List Nat} (r : WW h W) (e : MNX J A h h') (j : ¬ J 37) (a : ¬ A 139) : WW h' W := by
  unfold WW
  rw [e.2 37 j, (e.1.2.2.2 139 a).1]
  exact r
def J9 (j : Nat) : Prop := j = 29
def A4 (k : Nat) : Prop := k = 116 ∨ k = 130 ∨ k = 131 ∨ k = 133
theorem RR.lr {h : PH} {E : List Qst} (r : RR h E) {k j : Nat} {v : Int32} (hk : k = 130 ∨ k = 131) : RR (sI h k j v) E := by
  unfold RR
  rw [hI_ne (by omega), hI_sI_ne (by omega), hI_sI_ne (by omega), hI_sI_ne (by omega)]
  exact r
theorem l_M_let {P : PSem} (S : SysOK P) {h0 : PH} (hw0 : WS h0) {tx : Nat → Nat} {L : Nat} (hB : TXB tx) (hM : L ≤ 2000) (eo : EOK tx L) {l0 : Nat → Int64} {k : Nat} (hk5 : tkk tx L (k + 1) = 4) {K : PK}
    (lf0 : LFR h0 tx L l0 k)
    (hK : ∀ h' e, MNX LJ LA h0 h' → hI h' 126 = hI h0 126 → k < e → e ≤ pT (tkk tx L) → cR tx L e = 1 → (∀ i, k < i → i < e → cR tx L i ≠ 1) → MST h' tx L l0 e → LFR h' tx L l0 e → (∀ j, j < 13 → ∀ d0 : Nat → Int32, cMD tx L d0 e j = cMD tx L d0 k j) → K .null h') : ∀ d i h, i + d = pT (tkk tx L) → k + 3 ≤ i → 7 ≤ cR tx L i → (∀ j, k < j → j ≤ i → cR tx L j ≠ 1) → lnA tx L i (cnm tx L k) = k + 2 → cnm tx L i = cnm tx L k → (∀ j, j < cnm tx L k → lnA tx L i j = lnA tx L k j ∧ lnT tx L i j = lnT tx L k j) → rlf tx L i = tkv tx L (k + 2) → (∀ j, j < 13 → ∀ d0 : Nat → Int32, cMD tx L d0 i j = cMD tx L d0 k j) → MNX LJ LA h0 h → hI h 126 = hI h0 126 → (∀ j, j < cnm tx L k → hI h 130 j = hI h0 130 j) → hI h 130 (cnm tx L k) = nI (eW tx L l0 (k + 3)).1.length → (cnm tx L k ≠ 0 → hI h0 130 (cnm tx L k) = nI (eW tx L l0 (k + 3)).1.length) → MST h tx L l0 i →
    P.2 n_M_meansLet 45 [some (.ref 116), some (.int (nI k)), some (.int (nI (tkv tx L (k + 2)))), some (.int (nI i))] [] h 0 0 K := by
  intro d
  induction d with
  | zero =>
    intro i h hi h3 h7 hn1 a1 a2 a3 a4 a5 f f126 l1 l2 l3 m
    exact absurd (eo.lt (t := i) (by omega) (by omega)) (by omega)
  | succ d ih =>
    intro i h hi h3 h7 hn1 a1 a2 a3 a4 a5 f f126 l1 l2 l3 m
    have hw := eqY_WS f.1 hw0
    have t4 := (pT_ok (tkk tx L)).1
    have tab := rtab (tx := tx) (L := L) (t := i) (by omega)
    have tk := m.1.1 i (by omega)
    have cl := cnm_le (tx := tx) (L := L) (t := i) (by omega)
    have kl := tkk_le tx L i
    have kl2 := kM_le (tkk tx L i) (by omega)
    have vb := tkv_bd (tx := tx) (L := L) (t := k + 2) hB
    have el := eW_len tx L l0 i
    by_cases k6 : tkk tx L i = 6
    · have c8 : cR tx L i = 8 ∨ cR tx L i = 10 := by omega
      have z : rFL tx L l0 i = 0 := by
        unfold rFL
        rw [if_neg (by omega), if_neg (by omega), if_neg (by omega), if_neg (by omega), if_neg (by omega)]
      have e1 : eW tx L l0 (i + 1) = ((eW tx L l0 i).1 ++ (stl tx L 1 (eW tx L l0 i).2).1, (stl tx L 1 (eW tx L l0 i).2).2) := by
        show (if _ then _ else if _ then _ else if _ then _ else if _ then _ else _) = _
        rw [if_neg (by omega), if_neg (by omega), if_neg (by omega), if_pos c8, if_neg (by omega), if_neg (by omega), if_pos k6]
      have n' : cnm tx L (i + 1) = cnm tx L k + 1 := by
        show (if _ then _ else _) = _
        rw [if_pos ⟨c8, k6⟩, a2]
      have el1 := eW_len tx L l0 (i + 1)
      have tks : TKS h tx L (eW tx L l0 i).2 := fun w hx => by
        have := eW_mem tx L l0 i w hx
        exact ⟨by omega, m.1.1 w (by omega)⟩
      refine S.at 60 [] rfl ?_
      conv => whnf
      refine ⟨wt_116 hw, ?_⟩
      conv => whnf
      rw [wr_116_5 hw]
      refine ⟨inB_of (wt_119 hw) (wn_119 hw) (show i < 403 by omega) (by decide), ?_⟩
      conv => whnf
      rw [nI_clamp (by omega), tk.1, k6]
      refine bk_t (rfl) ?_
      conv => whnf
      refine ⟨wt_116 hw, ?_⟩
      refine c_M_settles (q := 1) S hw hM (by decide) (by decide) tks m.2.1 (m.2.2.1 h7) (by omega) ?_
      intro h1 f1 r1 w1
      have hw1 := eqY_WS f1.1 hw
      have mb1 := m.1.fr (fun _ y => by unfold SJ at y; unfold TJ; omega) f1
      have r1 : RR h1 (eW tx L l0 (i + 1)).1 := by rw [e1]; exact r1
      have w1 : WW h1 (eW tx L l0 (i + 1)).2 := by rw [e1]; exact w1
      have n1 := mb1.2.2.2.1
      rw [a2] at n1
      have cl8 : cnm tx L k < 8 := by
        have := cl.2 (by omega)
        omega
      conv => whnf
      refine ⟨wt_116 hw1, ?_⟩
      conv => whnf
      rw [wr_116_28 hw1]
      refine ⟨wt_116 hw1, ?_⟩
      conv => whnf
      rw [n1]
      refine ⟨wt_116 hw1, ?_⟩
      conv => whnf
      rw [wr_116_8 hw1]
      try rw [show (fun x y : Int32 => x + y) (nI k) 1 = nI (k + 1) from nI_1 k]
      refine ⟨inB_of (wt_122 hw1) (wn_122 hw1) (show k + 1 < 403 by omega) (by decide), ?_⟩
      conv => whnf
      rw [nI_clamp (show k + 1 < 2 ^ 31 by omega), (mb1.1 (k + 1) (by omega)).2.2.2]
      refine ⟨inB_of (wt_133 hw1) (wn_133 hw1) (show cnm tx L k < 8 by omega) (by decide), ?_⟩
      conv => whnf
      rw [nI_clamp (show cnm tx L k < 2 ^ 31 by omega)]
      have hw2 : WS (sL h1 133 (cnm tx L k) (lN (tkn tx L (k + 1)))) := hw1
      refine ⟨wt_116 hw2, ?_⟩
      conv => whnf
      rw [wr_116_26 hw2]
      refine ⟨wt_116 hw2, ?_⟩
      conv => whnf
      rw [hI_sL, n1]
      refine ⟨⟨(by decide), inB_of (wt_131 hw2) (wn_131 hw2) (show cnm tx L k < 8 by omega) (by decide)⟩, ?_⟩
      conv => whnf
      rw [nI_clamp (show cnm tx L k < 2 ^ 31 by omega)]
      have hw3 : WS (sI (sL h1 133 (cnm tx L k) (lN (tkn tx L (k + 1)))) 131 (cnm tx L k) (nI (tkv tx L (k + 2)))) := hw1
      refine ⟨wt_116 hw3, ?_⟩
      conv => whnf
      rw [hI_ne (by decide), hI_sL, n1, show (fun x y : Int32 => x + y) (nI (cnm tx L k)) 1 = nI (cnm tx L k + 1) from nI_1 _]
      refine ⟨wt_116 hw3, ?_⟩
      conv => whnf
      have hw4 : WS (sI (sI (sL h1 133 (cnm tx L k) (lN (tkn tx L (k + 1)))) 131 (cnm tx L k) (nI (tkv tx L (k + 2)))) 116 29 (nI (cnm tx L k + 1))) := hw1
      refine ⟨wt_116 hw4, ?_⟩
      conv => whnf
      rw [wr_116_25 hw4]
      refine ⟨wt_116 hw4, ?_⟩
      conv => whnf
      rw [hI_sI]
      refine ⟨wt_116 hw4, ?_⟩
      conv => whnf
      rw [hI_sI_j (by decide), hI_ne (by decide), hI_sL, r1.1]
      refine ⟨⟨(by decide), inB_of (wt_130 hw4) (wn_130 hw4) (show cnm tx L k + 1 < 9 by omega) (by decide)⟩, ?_⟩
      conv => whnf
      rw [nI_clamp (show cnm tx L k + 1 < 2 ^ 31 by omega)]
      have fr : MNX LJ LA h1 (sI (sI (sI (sL h1 133 (cnm tx L k) (lN (tkn tx L (k + 1)))) 131 (cnm tx L k) (nI (tkv tx L (k + 2)))) 116 29 (nI (cnm tx L k + 1))) 130 (cnm tx L k + 1) (nI (eW tx L l0 (i + 1)).1.length)) := MNX_tr (MNX_tr (MNX_tr (MNX_L (by unfold LA; omega)) (MNX_A (by unfold LA; omega) (by decide))) (MNX_J (by unfold LA SA; omega) (by unfold LJ; omega))) (MNX_A (by unfold LA; omega) (by decide))
      have fr3 : MNX J9 A4 h1 (sI (sI (sI (sL h1 133 (cnm tx L k) (lN (tkn tx L (k + 1)))) 131 (cnm tx L k) (nI (tkv tx L (k + 2)))) 116 29 (nI (cnm tx L k + 1))) 130 (cnm tx L k + 1) (nI (eW tx L l0 (i + 1)).1.length)) := MNX_tr (MNX_tr (MNX_tr (MNX_L (by unfold A4; omega)) (MNX_A (by unfold A4; omega) (by decide))) (MNX_J (by unfold A4; omega) (by unfold J9; omega))) (MNX_A (by unfold A4; omega) (by decide))
      have lnA' : ∀ j, lnA tx L (i + 1) j = lnA tx L i j := fun j => by
        show (if _ then _ else _) = _
        rw [if_neg (by omega)]
      have lnT' : ∀ j, lnT tx L (i + 1) j = if j = cnm tx L k then i else lnT tx L i j := fun j => by
        show (if _ then _ else _) = _
        by_cases y : j = cnm tx L k
        · rw [if_pos ⟨⟨c8, k6⟩, by rw [a2]; exact y⟩, if_pos y]
        · rw [if_neg (fun x => y (by rw [← a2]; exact x.2)), if_neg y]
      obtain ⟨-, ln2, -⟩ := LNI_ok (tx := tx) (L := L) l0 (fun _ => 0) (fun _ => 0) i (by omega)
      obtain ⟨ln3, -⟩ := ln2 h7
      rw [a2, a1] at ln3
      have cN : ∀ j, cNL tx L l0 (i + 1) j = cNL tx L l0 i j := fun j => by
        show (if _ then _ else _) = _
        rw [if_neg (by omega)]
      have rN : ∀ j, rNF tx L (i + 1) j = rNF tx L i j := fun j => by
        show (if _ then _ else _) = _
        rw [if_neg (by omega)]
      refine hK _ (i + 1) (MNX_tr f (MNX_tr (TJ_LJ (SJ_TJ f1)) fr)) ?_ (by omega) (by omega) (by omega) (fun j y1 y2 => hn1 j y1 (by omega)) ⟨⟨fun q hq => (mb1.1 q hq).fr fr.1 (by unfold LA SA; omega) (by unfold LA SA; omega) (by unfold LA SA; omega) (by unfold LA SA; omega), ⟨?_, ?_⟩, ?_, ?_, fun j hj => ?_, fun j hj => ?_⟩, ?_, ?_, ?_⟩ (fun j hj => ?_) (fun j hj d0 => ?_)
      · rw [hI_sI_ne (by decide), hI_sI_ne (by decide), hI_sI_ne (by decide), hI_sL, (f1.1.2.2.2 126 (by unfold SA; omega)).1]
        exact f126
      · rw [hI_ne (by decide), hI_sI_j (by decide), hI_ne (by decide), hI_sL]
        exact mb1.2.1.1
      · rw [hI_sI_ne (by decide), hI_sI_ne (by decide), hI_sI_ne (by decide), hI_sL]
        exact mb1.2.1.2
      · rw [hI_ne (by decide), hI_sI_j (by decide), hI_ne (by decide), hI_sL]
        exact mb1.2.2.1
      · rw [hI_ne (by decide), hI_sI, n']
      · rw [n'] at hj
        rw [cN, hL_sI, hL_sI, hL_sI]
        rcases Nat.lt_or_ge j (cnm tx L k) with w | w
        · obtain ⟨x, x1, x2, x3⟩ := mb1.2.2.2.2.1 j (by omega)
          exact ⟨x, x1, x2, by rw [hL_sL_ne (by omega)]; exact x3⟩
        · have e : j = cnm tx L k := by omega
          rw [e]
          exact ⟨k + 1, hk5, ln3.2.2.2.2.2.2.1, hL_sL⟩
      · rw [n'] at hj
        rw [rN, hI_ne (by decide), hI_ne (by decide)]
        rcases Nat.lt_or_ge j (cnm tx L k) with w | w
        · rw [hI_sI_j (by omega), hI_sL]
          exact mb1.2.2.2.2.2 j (by omega)
        · have e : j = cnm tx L k := by omega
          rw [e, hI_sI, ln3.2.2.2.2.2.1]
          exact ⟨rfl, vb⟩
      · exact r1.fr fr3 (by unfold J9; omega) (by unfold A4; omega) (by unfold A4; omega) (by unfold A4; omega)
      · exact fun _ => w1.fr fr3 (by unfold J9; omega) (by unfold A4; omega)
      · exact ((m.2.2.2.nx z).fr f1 (by unfold SJ; omega) (by unfold SJ; omega)).fr fr3 (by unfold J9; omega) (by unfold J9; omega)
      · rw [n'] at hj
        have g130 : ∀ q, q ≤ cnm tx L k → hI (sI (sI (sI (sL h1 133 (cnm tx L k) (lN (tkn tx L (k + 1)))) 131 (cnm tx L k) (nI (tkv tx L (k + 2)))) 116 29 (nI (cnm tx L k + 1))) 130 (cnm tx L k + 1) (nI (eW tx L l0 (i + 1)).1.length)) 130 q = hI h 130 q := fun q hq => by
          rw [hI_sI_j (by omega), hI_ne (by decide), hI_ne (by decide), hI_sL, (f1.1.2.2.2 130 (by unfold SA; omega)).1]
        rw [lnA', lnT', g130 j (by omega)]
        rcases Nat.lt_or_ge j (cnm tx L k) with w | w
        · rw [if_neg (by omega), (a3 j w).1, (a3 j w).2, l1 j w, g130 (j + 1) (by omega)]
          refine ⟨(lf0 j w).1, ?_⟩
          rcases Nat.lt_or_ge (j + 1) (cnm tx L k) with v | v
          · rw [l1 _ v]
            exact (lf0 j w).2
          · have e : j + 1 = cnm tx L k := by omega
            rw [e, l2, ← l3 (by omega), ← e]
            exact (lf0 j w).2
        · have e : j = cnm tx L k := by omega
          rw [if_pos e, e, a1, l2, hI_sI]
          exact ⟨rfl, rfl⟩
      · rw [← a5 j hj d0]
        show (if _ then _ else _) = _
        rw [if_neg (by omega)]
    · have next : ∀ h', MNX TJ SA h h' → MST h' tx L l0 (i + 1) → P.2 n_M_meansLet 45 [some (.ref 116), some (.int (nI k)), some (.int (nI (tkv tx L (k + 2)))), some (.int (nI (i + 1)))] [] h' 0 0 K := by
        intro h' f' m'
        refine ih (i + 1) h' (by omega) (by omega) (by omega) (fun j y1 y2 => ?_) ?_ ?_ (fun j hj => ?_) ?_ (fun j hj d0 => ?_) (MNX_tr f (TJ_LJ f')) ?_ (fun j hj => ?_) ?_ l3 m'
        · rcases Nat.lt_or_ge j (i + 1) with w | w
          · exact hn1 j y1 (by omega)
          · have : j = i + 1 := by omega
            rw [this]
            omega
        · rw [← a1]
          show (if _ then _ else _) = _
          rw [if_neg (by omega)]
        · rw [← a2]
          show (if _ then _ else _) = _
          rw [if_neg (by omega)]
        · rw [← (a3 j hj).1, ← (a3 j hj).2]
          refine ⟨?_, ?_⟩
          · show (if _ then _ else _) = _
            rw [if_neg (by omega)]
          · show (if _ then _ else _) = _
            rw [if_neg (by omega)]
        · rw [← a4]
          show (if _ then _ else _) = _
          rw [if_neg (by omega)]
        · rw [← a5 j hj d0]
          show (if _ then _ else _) = _
          rw [if_neg (by omega)]
        · rw [(f'.1.2.2.2 126 (by unfold SA; omega)).1]
          exact f126
        · rw [(f'.1.2.2.2 130 (by unfold SA; omega)).1]
          exact l1 j hj
        · rw [(f'.1.2.2.2 130 (by unfold SA; omega)).1]
          exact l2
      have call := c_M_meansToken S hw hB hM (l0 := l0) (i := i) (by omega) h7 k6 (fun y => stl_ne l0 (by omega) h7 y) (by rw [a4]; exact vb) m (K := fun _ h' => P.2 n_M_meansLet 45 [some (.ref 116), some (.int (nI k)), some (.int (nI (tkv tx L (k + 2)))), some (.int (nI i + 1))] [] h' 0 0 K) (fun h' f' m' => by
        rw [nI_1]
        exact next h' f' m')
      rw [a4] at call
      refine S.at 60 [] rfl ?_
      conv => whnf
      refine ⟨wt_116 hw, ?_⟩
      conv => whnf
      rw [wr_116_5 hw]
      refine ⟨inB_of (wt_119 hw) (wn_119 hw) (show i < 403 by omega) (by decide), ?_⟩
      conv => whnf
      rw [nI_clamp (by omega), tk.1]
      refine bk_f (fun y => k6 ((kM_tk (k := 6) (by decide) (by decide)).mp ((zn_eq (b := 4) (by omega) (by decide)).mp y))) ?_
      conv => whnf
      refine ⟨wt_116 hw, ?_⟩
      exact call
