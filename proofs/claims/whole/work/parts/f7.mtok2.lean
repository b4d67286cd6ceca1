/-! MEANS: a token, by the reference, all kinds -/
def MST (h : PH) (tx : Nat → Nat) (L : Nat) (l0 : Nat → Int64) (i : Nat) : Prop := MSB h tx L l0 i ∧ RR h (eW tx L l0 i).1 ∧ (7 ≤ cR tx L i → WW h (eW tx L l0 i).2) ∧ WR h tx L (rFL tx L l0) (fun k => k < i)
theorem cBt_or {tx : Nat → Nat} {L t : Nat} (hk : tkk tx L t = 5) : cBt tx L t = -1 ∨ ∃ v, v < 8192 ∧ cBt tx L t = nI v := by
  have h13 : rwE tx L (tkS tx L t) - tkS tx L t ≤ 13 := by
    unfold tkk tkK at hk
    split at hk
    · omega
    · split at hk
      · split at hk
        · omega
        · unfold wdK at hk
          repeat' split at hk
          all_goals omega
      · split at hk
        · split at hk
          · omega
          · omega
        · unfold sgK at hk
          repeat' split at hk
          all_goals omega
  unfold cBt sRow
  split
  · rename_i z
    refine Or.inr ⟨_, ?_, rfl⟩
    have a := bcF_lt (tx := tx) (q := tkS tx L t) _ (of_decide_eq_true (p := ∀ i, i < rwE tx L (tkS tx L t) - tkS tx L t → tx (tkS tx L t + i) ≤ 49) z)
    have b : 2 ^ (rwE tx L (tkS tx L t) - tkS tx L t) ≤ 2 ^ 13 := Nat.pow_le_pow_right (by decide) h13
    have c : 2 ^ 13 = 8192 := by decide
    omega
  · exact Or.inl rfl
theorem RR.wr {h h' : PH} {E : List Qst} (r : RR h E) (e : MNX WJ WA h h') : RR h' E := by
  unfold RR
  rw [e.2 24 (by unfold WJ; omega), (e.1.2.2.2 127 (by unfold WA; omega)).1, (e.1.2.2.2 128 (by unfold WA; omega)).1, (e.1.2.2.2 129 (by unfold WA; omega)).1]
  exact r
theorem WW.wr {h h' : PH} {W : List Nat} (r : WW h W) (e : MNX WJ WA h h') : WW h' W := by
  unfold WW
  rw [e.2 37 (by unfold WJ; omega), (e.1.2.2.2 139 (by unfold WA; omega)).1]
  exact r
theorem WJ_TJ {h h' : PH} (e : MNX WJ WA h h') : MNX TJ SA h h' := MNX_mono (fun j y => by unfold WJ at y; unfold TJ; omega) (fun j y => Or.inl y) e
theorem SJ_TJ {h h' : PH} (e : MNX SJ SA h h') : MNX TJ SA h h' := MNX_mono (fun j y => by unfold SJ at y; unfold TJ; omega) (fun j y => y) e
theorem lt_S (i : Nat) : ∀ k, k < i + 1 ↔ (k < i ∨ k = i) := fun k => by omega
theorem WR.nx {h : PH} {tx : Nat → Nat} {L : Nat} {F : Nat → Nat} {i : Nat} (w : WR h tx L F (fun k => k < i)) (e : F i = 0) : WR h tx L F (fun k => k < i + 1) := w.eq (fun k => ⟨fun y => by
    rcases Nat.lt_or_ge k i with z | z
    · exact Or.inl z
    · have : k = i := by have y : k < i + 1 := y; omega
      exact Or.inr ⟨y, by rw [this]; exact e⟩, fun y => by
    rcases y with y | y
    · exact Nat.lt_succ_of_lt y
    · exact y.1⟩)
theorem WR.sq {h : PH} {tx : Nat → Nat} {L : Nat} {F : Nat → Nat} {D D' : Nat → Prop} (w : WR h tx L F D) (e : ∀ k, D' k ↔ D k) : WR h tx L F D' := by
  have : D' = D := funext fun k => propext (e k)
  rw [this]
  exact w
theorem c_M_meansToken {P : PSem} (S : SysOK P) {h : PH} (hw : WS h) {tx : Nat → Nat} {L : Nat} (hB : TXB tx) (hM : L ≤ 2000) {l0 : Nat → Int64} {i : Nat} (hi : i < pT (tkk tx L)) (hr : 7 ≤ cR tx L i) (h6 : tkk tx L i ≠ 6) (h12 : tkk tx L i = 12 → (stl tx L 1 (eW tx L l0 i).2).2 ≠ []) (hf : rlf tx L i < 2000000) (m : MST h tx L l0 i) {K : PK}
    (hK : ∀ h', MNX TJ SA h h' → MST h' tx L l0 (i + 1) → K .null h') : P.1 n_M_meansToken [.ref 116, .int (nI i), .int (nI (rlf tx L i))] h K := by
  obtain ⟨mb, mr, mw, me⟩ := m
  have mw := mw hr
  have t4 := (pT_ok (tkk tx L)).1
  have tab := rtab hi
  have tk := mb.1 i (by omega)
  have el := eW_len tx L l0 i
  have cl := cnm_le (tx := tx) (L := L) (t := i) (by omega)
  have e1 : eW tx L l0 (i + 1) = if cR tx L i = 6 then ((eW tx L l0 i).1, [])
    else if cR tx L i = 7 then (if tkk tx L i = 11 then ((eW tx L l0 i).1, i :: (eW tx L l0 i).2) else if tkk tx L i = 3 then ((eW tx L l0 i).1 ++ [(0, 0, 0)], (eW tx L l0 i).2) else if tkk tx L i = 5 then ((eW tx L l0 i).1 ++ [(1, cBt tx L i, 0)], (eW tx L l0 i).2) else ((eW tx L l0 i).1 ++ [(2, cIV tx L l0 i, 0)], (eW tx L l0 i).2))
    else if cR tx L i = 9 then ((eW tx L l0 i).1 ++ [(6, nI (tkv tx L i), 0)], (eW tx L l0 i).2)
    else if cR tx L i = 8 ∨ cR tx L i = 10 then (if tkk tx L i = 10 then eW tx L l0 i else if tkk tx L i = 12 then ((eW tx L l0 i).1 ++ (stl tx L 1 (eW tx L l0 i).2).1, (stl tx L 1 (eW tx L l0 i).2).2.tail) else if tkk tx L i = 6 then ((eW tx L l0 i).1 ++ (stl tx L 1 (eW tx L l0 i).2).1, (stl tx L 1 (eW tx L l0 i).2).2) else ((eW tx L l0 i).1 ++ (stl tx L (rkk (tkk tx L i)) (eW tx L l0 i).2).1, i :: (stl tx L (rkk (tkk tx L i)) (eW tx L l0 i).2).2))
    else eW tx L l0 i := rfl
  rw [if_neg (by omega)] at e1
  have fin : ∀ h', MNX TJ SA h h' → RR h' (eW tx L l0 (i + 1)).1 → WW h' (eW tx L l0 (i + 1)).2 → WR h' tx L (rFL tx L l0) (fun k => k < i + 1) → K .null h' := fun h' a b c d => hK h' a ⟨(mb.fr (fun _ y => y) a).nx (by omega), b, fun _ => c, d⟩
  have pv : 1 ≤ i := by
    cases i with
    | zero => exact absurd hr (by show ¬ 7 ≤ 1; omega)
    | succ i => omega
  have tkp := mb.1 (i - 1) (by omega)
  have tabp := rtab (tx := tx) (L := L) (t := i - 1) (by omega)
  rw [show i - 1 + 1 = i by omega] at tabp
  have r7 : cR tx L i = 7 → tkk tx L (i - 1) ≠ 10 := by omega
  have r9 : cR tx L i = 9 → tkk tx L (i - 1) = 10 := by omega
  have kp := tkk_le tx L (i - 1)
  have kl2 := kM_le (tkk tx L (i - 1)) (by omega)
  have vb := tkv_bd (tx := tx) (L := L) (t := i) hB
  clear tabp
  have fl0 : ∀ (z : rFL tx L l0 i = 0), WR h tx L (rFL tx L l0) (fun k => k < i + 1) := fun z => me.nx z
  have tks : TKS h tx L (eW tx L l0 i).2 := fun w hx => by
    have := eW_mem tx L l0 i w hx
    exact ⟨by omega, mb.1 w (by omega)⟩
  have wrg : ∀ (K' : PK) v, rFL tx L l0 i = v → v ≠ 0 → (∀ h', MNX WJ WA h h' → WR h' tx L (rFL tx L l0) (fun k => k < i + 1) → K' .null h') → P.1 n_M_wrong [.ref 116, .int (nI v), .int (nI i)] h K' := fun K' v z1 z2 z3 =>
    c_M_wrong S hw hM (rFL_le tx L l0) (fun k hk => Nat.lt_trans hk hi) hi (Nat.lt_irrefl i) tk mb.2.2.1 z1 z2 me (fun h' a b => z3 h' a (b.sq (lt_S i)))
  refine S.2.1 _ 4 _ _ _ rfl rfl ?_
  by_cases k11 : tkk tx L i = 11
  · have c7 : cR tx L i = 7 := by omega
    rw [if_pos c7, if_pos k11] at e1
    have z : rFL tx L l0 i = 0 := by
      unfold rFL
      rw [if_neg (by omega), if_neg (by omega), if_neg (by omega), if_pos c7, if_neg (by omega), if_neg (by omega)]
    refine S.at 60 [] rfl ?_
    conv => whnf
    refine ⟨wt_116 hw, ?_⟩
    conv => whnf
    rw [wr_116_5 hw]
    refine ⟨inB_of (wt_119 hw) (wn_119 hw) (show i < 403 by omega) (by decide), ?_⟩
    conv => whnf
    rw [nI_clamp (by omega), tk.1, k11]
    repeat refine bk_f (by decide) ?_
    refine bk_t (by decide) ?_
    conv => whnf
    refine ⟨wt_116 hw, ?_⟩
    conv => whnf
    rw [wr_116_36 hw]
    refine ⟨wt_116 hw, ?_⟩
    conv => whnf
    rw [mw.1]
    refine ⟨⟨(by decide), inB_of (wt_139 hw) (wn_139 hw) (show (eW tx L l0 i).2.length < 400 by omega) (by decide)⟩, ?_⟩
    conv => whnf
    rw [nI_clamp (by omega)]
    have hw1 : WS (sI h 139 (eW tx L l0 i).2.length (nI i)) := hw
    refine ⟨wt_116 hw1, ?_⟩
    conv => whnf
    rw [hI_ne (by decide), mw.1, show (fun x y : Int32 => x + y) (nI (eW tx L l0 i).2.length) 1 = nI ((eW tx L l0 i).2.length + 1) from nI_1 _]
    refine ⟨wt_116 hw1, ?_⟩
    conv => whnf
    have fr : MNX SJ SA h (sI (sI h 139 (eW tx L l0 i).2.length (nI i)) 116 37 (nI ((eW tx L l0 i).2.length + 1))) := MNX_tr (MNX_A (by unfold SA; omega) (by decide)) (MNX_J (by unfold SA; omega) (by unfold SJ; omega))
    exact fin _ (SJ_TJ fr) (by rw [e1]; exact mr.p) (by rw [e1]; exact mw.push i) ((fl0 z).fr fr (by unfold SJ; omega) (by unfold SJ; omega))
  by_cases k3 : tkk tx L i = 3
  · have c7 : cR tx L i = 7 := by omega
    rw [if_pos c7, if_neg k11, if_pos k3] at e1
    have z : rFL tx L l0 i = 0 := by
      unfold rFL
      rw [if_neg (by omega), if_neg (by omega), if_neg (by omega), if_pos c7, if_neg (by omega), if_neg (by omega)]
    refine S.at 60 [] rfl ?_
    conv => whnf
    refine ⟨wt_116 hw, ?_⟩
    conv => whnf
    rw [wr_116_5 hw]
    refine ⟨inB_of (wt_119 hw) (wn_119 hw) (show i < 403 by omega) (by decide), ?_⟩
    conv => whnf
    rw [nI_clamp (by omega), tk.1, k3]
    repeat refine bk_f (by decide) ?_
    refine bk_t (by decide) ?_
    conv => whnf
    refine ⟨wt_116 hw, ?_⟩
    refine c_M_step S hw (by omega) mr.1 ?_
    exact fin _ (SJ_TJ stH_F) (by rw [e1]; exact mr.step 0 0 0) (by rw [e1]; exact mw.st) ((fl0 z).fr (stH_F) (by unfold SJ; omega) (by unfold SJ; omega))
  by_cases k10 : tkk tx L i = 10
  · have c8 : cR tx L i = 8 := by omega
    rw [if_neg (by omega), if_neg (by omega), if_pos (Or.inl c8), if_pos k10] at e1
    have z : rFL tx L l0 i = 0 := by
      unfold rFL
      rw [if_neg (by omega), if_neg (by omega), if_neg (by omega), if_neg (by omega), if_neg (by omega)]
    refine S.at 60 [] rfl ?_
    conv => whnf
    refine ⟨wt_116 hw, ?_⟩
    conv => whnf
    rw [wr_116_5 hw]
    refine ⟨inB_of (wt_119 hw) (wn_119 hw) (show i < 403 by omega) (by decide), ?_⟩
    conv => whnf
    rw [nI_clamp (by omega), tk.1, k10]
    repeat refine bk_f (by decide) ?_
    refine bk_t (by decide) ?_
    conv => whnf
    exact fin h (MNX_rf _ _ _) (by rw [e1]; exact mr) (by rw [e1]; exact mw) (fl0 z)
  by_cases k12 : tkk tx L i = 12
  · have c8 : cR tx L i = 8 ∨ cR tx L i = 10 := by omega
    rw [if_neg (by omega), if_neg (by omega), if_pos c8, if_neg k10, if_pos k12] at e1
    have z : rFL tx L l0 i = 0 := by
      unfold rFL
      rw [if_neg (by omega), if_neg (by omega), if_neg (by omega), if_neg (by omega), if_neg (by omega)]
    have ne := h12 k12
    refine S.at 60 [] rfl ?_
    conv => whnf
    refine ⟨wt_116 hw, ?_⟩
    conv => whnf
    rw [wr_116_5 hw]
    refine ⟨inB_of (wt_119 hw) (wn_119 hw) (show i < 403 by omega) (by decide), ?_⟩
    conv => whnf
    rw [nI_clamp (by omega), tk.1, k12]
    repeat refine bk_f (by decide) ?_
    refine bk_t (by decide) ?_
    conv => whnf
    refine ⟨wt_116 hw, ?_⟩
    refine c_M_settles (q := 1) S hw hM (by decide) (by decide) tks mr mw (by omega) ?_
    intro h1 f1 r1 w1
    have hw1 := eqY_WS f1.1 hw
    revert w1 ne e1
    generalize (stl tx L 1 (eW tx L l0 i).2).2 = W2
    intro e1 ne w1
    cases W2 with
    | nil => exact absurd rfl ne
    | cons x W2 =>
      have wl := w1.1
      rw [List.length_cons] at wl
      conv => whnf
      refine ⟨wt_116 hw1, ?_⟩
      conv => whnf
      rw [wl, show (fun x y : Int32 => x - y) (nI (W2.length + 1)) 1 = nI W2.length from nI_d1 _]
      refine ⟨wt_116 hw1, ?_⟩
      conv => whnf
      have f2 : MNX SJ SA h (sI h1 116 37 (nI W2.length)) := MNX_tr f1 (MNX_J (by unfold SA; omega) (by unfold SJ; omega))
      exact fin _ (SJ_TJ f2) (by rw [e1]; exact r1.w) (by rw [e1]; exact w1.pop) ((fl0 z).fr f2 (by unfold SJ; omega) (by unfold SJ; omega))
  by_cases k5 : tkk tx L i = 5
  · rcases (show cR tx L i = 7 ∨ cR tx L i = 9 by omega) with c7 | c9
    · rw [if_pos c7, if_neg k11, if_neg k3, if_pos k5] at e1
      have z : rFL tx L l0 i = if cBt tx L i = -1 then 5 else 0 := by
        unfold rFL
        rw [if_neg (by omega), if_neg (by omega), if_neg (by omega), if_pos c7, if_pos k5]
      have g46 : ∀ h1, MNX WJ WA h h1 → WR h1 tx L (rFL tx L l0) (fun k => k < i + 1) → P.2 n_M_meansToken 46 [some (.ref 116), some (.int (nI i)), some (.int (nI (rlf tx L i))), none] [] h1 0 0 K := by
        intro h1 f1 d1
        have hw1 := eqY_WS f1.1 hw
        have mb1 := mb.fr (fun _ y => y) (WJ_TJ f1)
        refine S.at 60 [] rfl ?_
        conv => whnf
        refine ⟨wt_116 hw1, ?_⟩
        refine c_M_rowAt S hw1 mb1.2.1 hB hM (by omega) (mb1.1 i (by omega)).2.1 k5 ?_
        conv => whnf
        refine ⟨wt_116 hw1, ?_⟩
        refine c_M_step S hw1 (by omega) (mr.wr f1).1 ?_
        exact fin _ (MNX_tr (WJ_TJ f1) (SJ_TJ stH_F)) (by rw [e1]; exact (mr.wr f1).step 1 _ 0) (by rw [e1]; exact (mw.wr f1).st) (d1.fr (stH_F) (by unfold SJ; omega) (by unfold SJ; omega))
      refine S.at 60 [46] rfl ?_
      conv => whnf
      refine ⟨wt_116 hw, ?_⟩
      conv => whnf
      rw [wr_116_5 hw]
      refine ⟨inB_of (wt_119 hw) (wn_119 hw) (show i < 403 by omega) (by decide), ?_⟩
      conv => whnf
      rw [nI_clamp (by omega), tk.1, k5]
      repeat refine bk_f (by decide) ?_
      refine bk_t (by decide) ?_
      conv => whnf
      refine ⟨wt_116 hw, ?_⟩
      conv => whnf
      rw [wr_116_5 hw]
      try rw [show (fun x y : Int32 => x - y) (nI i) 1 = nI (i - 1) from zn_mns (b := 1) pv]
      refine ⟨inB_of (wt_119 hw) (wn_119 hw) (show i - 1 < 403 by omega) (by decide), ?_⟩
      conv => whnf
      rw [nI_clamp (by omega), tkp.1]
      refine bk_nt (fun y => r7 c7 ((kM_tk (k := 10) (by decide) (by decide)).mp ((zn_eq (b := 8) (by omega) (by decide)).mp y))) ?_
      conv => whnf
      refine ⟨wt_116 hw, ?_⟩
      refine c_M_rowAt S hw mb.2.1 hB hM (by omega) tk.2.1 k5 ?_
      rw [show sRow tx (tkS tx L i) (rwE tx L (tkS tx L i) - tkS tx L i) = cBt tx L i from rfl]
      rcases cBt_or k5 with y | ⟨v, y1, y2⟩
      · rw [y] at z ⊢
        conv => whnf
        refine bk_f (by decide) ?_
        conv => whnf
        refine ⟨wt_116 hw, ?_⟩
        refine wrg _ 5 (z.trans (if_pos rfl)) (by decide) ?_
        intro h1 f1 d1
        conv => whnf
        refine S.mk [(0,1),(0,1),(0,1),(0,0)] ?_
        exact g46 h1 f1 d1
      · rw [y2] at z ⊢
        rw [if_neg (nI_nm1 (by omega))] at z
        conv => whnf
        refine bk_t ((zn_le (a := 0) (by omega) (by omega)).mpr (by omega)) ?_
        conv => whnf
        refine S.mk [(0,1),(0,1),(0,1),(0,0)] ?_
        exact g46 h (MNX_rf _ _ _) (fl0 z)
    · rw [if_neg (by omega), if_pos c9] at e1
      have z : rFL tx L l0 i = if 9999 < tkv tx L i then 5 else 0 := by
        unfold rFL
        rw [if_neg (by omega), if_neg (by omega), if_neg (by omega), if_neg (by omega), if_pos c9]
      have g29 : ∀ h1, MNX WJ WA h h1 → WR h1 tx L (rFL tx L l0) (fun k => k < i + 1) → P.2 n_M_meansToken 29 [some (.ref 116), some (.int (nI i)), some (.int (nI (rlf tx L i))), none] [] h1 0 0 K := by
        intro h1 f1 d1
        have hw1 := eqY_WS f1.1 hw
        have mb1 := mb.fr (fun _ y => y) (WJ_TJ f1)
        refine S.at 60 [] rfl ?_
        conv => whnf
        refine ⟨wt_116 hw1, ?_⟩
        conv => whnf
        rw [wr_116_7 hw1]
        refine ⟨inB_of (wt_121 hw1) (wn_121 hw1) (show i < 403 by omega) (by decide), ?_⟩
        conv => whnf
        rw [nI_clamp (by omega), (mb1.1 i (by omega)).2.2.1]
        refine ⟨wt_116 hw1, ?_⟩
        refine c_M_step S hw1 (by omega) (mr.wr f1).1 ?_
        exact fin _ (MNX_tr (WJ_TJ f1) (SJ_TJ stH_F)) (by rw [e1]; exact (mr.wr f1).step 6 _ 0) (by rw [e1]; exact (mw.wr f1).st) (d1.fr (stH_F) (by unfold SJ; omega) (by unfold SJ; omega))
      refine S.at 60 [29] rfl ?_
      conv => whnf
      refine ⟨wt_116 hw, ?_⟩
      conv => whnf
      rw [wr_116_5 hw]
      refine ⟨inB_of (wt_119 hw) (wn_119 hw) (show i < 403 by omega) (by decide), ?_⟩
      conv => whnf
      rw [nI_clamp (by omega), tk.1, k5]
      repeat refine bk_f (by decide) ?_
      refine bk_t (by decide) ?_
      conv => whnf
      refine ⟨wt_116 hw, ?_⟩
      conv => whnf
      rw [wr_116_5 hw]
      try rw [show (fun x y : Int32 => x - y) (nI i) 1 = nI (i - 1) from zn_mns (b := 1) pv]
      refine ⟨inB_of (wt_119 hw) (wn_119 hw) (show i - 1 < 403 by omega) (by decide), ?_⟩
      conv => whnf
      rw [nI_clamp (by omega), tkp.1, r9 c9]
      refine bk_nf (rfl) ?_
      conv => whnf
      refine ⟨wt_116 hw, ?_⟩
      conv => whnf
      rw [wr_116_7 hw]
      refine ⟨inB_of (wt_121 hw) (wn_121 hw) (show i < 403 by omega) (by decide), ?_⟩
      conv => whnf
      rw [nI_clamp (by omega), tk.2.2.1]
      refine bk_le (b := 9999) (by omega) (by omega) (fun c => ?_) (fun c => ?_)
      · rw [if_neg (by omega)] at z
        conv => whnf
        refine S.mk [(0,1),(0,1),(0,1),(0,0)] ?_
        exact g29 h (MNX_rf _ _ _) (fl0 z)
      · rw [if_pos c] at z
        conv => whnf
        refine ⟨wt_116 hw, ?_⟩
        refine wrg _ 5 z (by decide) ?_
        intro h1 f1 d1
        conv => whnf
        refine S.mk [(0,1),(0,1),(0,1),(0,0)] ?_
        exact g29 h1 f1 d1
  by_cases k4 : tkk tx L i = 4
  · have c7 : cR tx L i = 7 := by omega
    rw [if_pos c7, if_neg k11, if_neg k3, if_neg k5] at e1
    have z : rFL tx L l0 i = (if cIX tx L l0 i < cnm tx L i then (if (1 ≤ rlf tx L i ∧ rlf tx L i ≤ 12) ∧ (1 ≤ rNF tx L i (cIX tx L l0 i) ∧ rNF tx L i (cIX tx L l0 i) ≤ 12) ∧ rlf tx L i % rNF tx L i (cIX tx L l0 i) ≠ 0 then 6 else 0) else 4) := by
      unfold rFL
      rw [if_neg (by omega), if_neg (by omega), if_neg (by omega), if_pos c7, if_neg k5, if_pos k4]
    have iv := mb.ix hM cl.1 k4
    have g88 : ∀ h1, MNX WJ WA h h1 → WR h1 tx L (rFL tx L l0) (fun k => k < i + 1) → P.2 n_M_meansToken 88 [some (.ref 116), some (.int (nI i)), some (.int (nI (rlf tx L i))), some (.int (cIV tx L l0 i))] [] h1 0 0 K := by
      intro h1 f1 d1
      have hw1 := eqY_WS f1.1 hw
      refine S.at 60 [] rfl ?_
      conv => whnf
      refine ⟨wt_116 hw1, ?_⟩
      refine c_M_step S hw1 (by omega) (mr.wr f1).1 ?_
      exact fin _ (MNX_tr (WJ_TJ f1) (SJ_TJ stH_F)) (by rw [e1]; exact (mr.wr f1).step 2 _ 0) (by rw [e1]; exact (mw.wr f1).st) (d1.fr (stH_F) (by unfold SJ; omega) (by unfold SJ; omega))
    refine S.at 60 [88] rfl ?_
    conv => whnf
    refine ⟨wt_116 hw, ?_⟩
    conv => whnf
    rw [wr_116_5 hw]
    refine ⟨inB_of (wt_119 hw) (wn_119 hw) (show i < 403 by omega) (by decide), ?_⟩
    conv => whnf
    rw [nI_clamp (by omega), tk.1, k4]
    repeat refine bk_f (by decide) ?_
    refine bk_t (by decide) ?_
    conv => whnf
    refine ⟨wt_116 hw, ?_⟩
    conv => whnf
    rw [wr_116_8 hw]
    refine ⟨inB_of (wt_122 hw) (wn_122 hw) (show i < 403 by omega) (by decide), ?_⟩
    conv => whnf
    rw [nI_clamp (by omega), tk.2.2.2]
    refine ⟨wt_116 hw, ?_⟩
    refine c_M_named S hw cl.1 mb.2.2.2.1 ?_
    rw [iv]
    unfold cIV at g88 ⊢
    by_cases c : cIX tx L l0 i < cnm tx L i
    · rw [if_pos c] at z g88 ⊢
      obtain ⟨q1, q2⟩ := mb.2.2.2.2.2 _ c
      conv => whnf
      refine bk_t ((zn_le (a := 0) (by omega) (by omega)).mpr (by omega)) ?_
      conv => whnf
      refine c_M_isField S _ ?_
      conv => whnf
      rw [okF_n (by omega)]
      refine bk_b0 (fun y => ?_) (fun y => ?_)
      · have y := of_decide_eq_false y
        rw [if_neg (fun x => y x.1)] at z
        conv => whnf
        exact g88 h (MNX_rf _ _ _) (fl0 z)
      have y := of_decide_eq_true y
      conv => whnf
      refine ⟨wt_116 hw, ?_⟩
      conv => whnf
      rw [wr_116_26 hw]
      refine ⟨inB_of (wt_131 hw) (wn_131 hw) (show cIX tx L l0 i < 8 by omega) (by decide), ?_⟩
      conv => whnf
      rw [nI_clamp (by omega), q1]
      refine c_M_isField S _ ?_
      conv => whnf
      rw [okF_n (by omega)]
      refine bk_b0 (fun y2 => ?_) (fun y2 => ?_)
      · have y2 := of_decide_eq_false y2
        rw [if_neg (fun x => y2 x.2.1)] at z
        conv => whnf
        exact g88 h (MNX_rf _ _ _) (fl0 z)
      have y2 := of_decide_eq_true y2
      conv => whnf
      refine ⟨wt_116 hw, ?_⟩
      conv => whnf
      rw [wr_116_26 hw]
      refine ⟨inB_of (wt_131 hw) (wn_131 hw) (show cIX tx L l0 i < 8 by omega) (by decide), ?_⟩
      conv => whnf
      rw [nI_clamp (by omega), q1]
      refine ⟨fun x => absurd ((zn_eq (b := 0) (by omega) (by decide)).mp x) (by omega), ?_⟩
      conv => whnf
      rw [i_rem_n (by omega) (by omega) (by omega)]
      have ml : rlf tx L i % rNF tx L i (cIX tx L l0 i) < 12 := Nat.lt_of_lt_of_le (Nat.mod_lt _ (by omega)) (by omega)
      refine bk_eq (b := 0) (by omega) (by omega) (fun d => ?_) (fun d => ?_)
      · rw [if_neg (fun x => x.2.2 d)] at z
        conv => whnf
        exact g88 h (MNX_rf _ _ _) (fl0 z)
      · rw [if_pos ⟨y, y2, d⟩] at z
        conv => whnf
        refine ⟨wt_116 hw, ?_⟩
        refine wrg _ 6 z (by decide) ?_
        intro h1 f1 d1
        conv => whnf
        exact g88 h1 f1 d1
    · rw [if_neg c] at z g88 ⊢
      conv => whnf
      refine bk_f (by decide) ?_
      conv => whnf
      refine ⟨wt_116 hw, ?_⟩
      refine wrg _ 4 z (by decide) ?_
      intro h1 f1 d1
      conv => whnf
      exact g88 h1 f1 d1
  have kk : tkk tx L i = 7 ∨ tkk tx L i = 8 ∨ tkk tx L i = 9 := by omega
  have c8 : cR tx L i = 8 ∨ cR tx L i = 10 := by omega
  rw [if_neg (by omega), if_neg (by omega), if_pos c8, if_neg k10, if_neg k12, if_neg h6] at e1
  have z : rFL tx L l0 i = 0 := by
    unfold rFL
    rw [if_neg (by omega), if_neg (by omega), if_neg (by omega), if_neg (by omega), if_neg (by omega)]
  have rk : 1 ≤ rkk (tkk tx L i) ∧ rkk (tkk tx L i) ≤ 2 := by
    unfold rkk
    repeat' split
    all_goals omega
  have g117 : P.2 n_M_meansToken 117 [some (.ref 116), some (.int (nI i)), some (.int (nI (rlf tx L i))), none] [] h 0 0 K := by
    refine S.at 60 [] rfl ?_
    conv => whnf
    refine ⟨wt_116 hw, ?_⟩
    conv => whnf
    rw [wr_116_5 hw]
    refine ⟨inB_of (wt_119 hw) (wn_119 hw) (show i < 403 by omega) (by decide), ?_⟩
    conv => whnf
    rw [nI_clamp (by omega), tk.1]
    refine c_M_rank S (show tkk tx L i < 15 by omega) ?_
    conv => whnf
    refine ⟨wt_116 hw, ?_⟩
    refine c_M_settles S hw hM rk.1 rk.2 tks mr mw (by omega) ?_
    intro h1 f1 r1 w1
    have hw1 := eqY_WS f1.1 hw
    have sl := stl_len tx L (rkk (tkk tx L i)) (eW tx L l0 i).2
    revert w1 e1 sl
    generalize (stl tx L (rkk (tkk tx L i)) (eW tx L l0 i).2).2 = W2
    intro e1 w1 sl
    conv => whnf
    refine ⟨wt_116 hw1, ?_⟩
    conv => whnf
    rw [wr_116_36 hw1]
    refine ⟨wt_116 hw1, ?_⟩
    conv => whnf
    rw [w1.1]
    refine ⟨⟨(by decide), inB_of (wt_139 hw1) (wn_139 hw1) (show W2.length < 400 by omega) (by decide)⟩, ?_⟩
    conv => whnf
    rw [nI_clamp (by omega)]
    have hw2 : WS (sI h1 139 W2.length (nI i)) := hw1
    refine ⟨wt_116 hw2, ?_⟩
    conv => whnf
    rw [hI_ne (by decide), w1.1, show (fun x y : Int32 => x + y) (nI W2.length) 1 = nI (W2.length + 1) from nI_1 _]
    refine ⟨wt_116 hw2, ?_⟩
    conv => whnf
    have f2 : MNX SJ SA h (sI (sI h1 139 W2.length (nI i)) 116 37 (nI (W2.length + 1))) := MNX_tr f1 (MNX_tr (MNX_A (by unfold SA; omega) (by decide)) (MNX_J (by unfold SA; omega) (by unfold SJ; omega)))
    exact fin _ (SJ_TJ f2) (by rw [e1]; exact r1.p) (by rw [e1]; exact w1.push i) ((fl0 z).fr f2 (by unfold SJ; omega) (by unfold SJ; omega))
  refine S.at 60 [117] rfl ?_
  conv => whnf
  refine ⟨wt_116 hw, ?_⟩
  conv => whnf
  rw [wr_116_5 hw]
  refine ⟨inB_of (wt_119 hw) (wn_119 hw) (show i < 403 by omega) (by decide), ?_⟩
  conv => whnf
  rw [nI_clamp (by omega), tk.1]
  rcases kk with y | y | y
  · rw [y]
    repeat refine bk_f (by decide) ?_
    refine bk_t (by decide) ?_
    conv => whnf
    exact g117
  · rw [y]
    repeat refine bk_f (by decide) ?_
    refine bk_t (by decide) ?_
    conv => whnf
    exact g117
  · rw [y]
    repeat refine bk_f (by decide) ?_
    refine bk_t (by decide) ?_
    conv => whnf
    exact g117
