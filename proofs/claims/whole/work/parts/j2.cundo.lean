/-! CHANGE: the class's undo, hold and restore -/
theorem c_FT_undo {P : PSem} (S : SysOK P) {h : PH} {u tx : Nat → Nat} {L : Nat} {l0 : Nat → Int64} {f0 s0 m0 : Nat → Int32} {s s' : Nat} (c0 : CST h u tx L l0 f0 s0 m0 s s') (hu : MDS u) {H : List (Nat × Nat)} (hh : HR h H) {K : PK}
    (hN : H = [] → K (.int 0) h)
    (hY : ∀ x H', H = x :: H' → 1 ≤ x.1 ∧ x.1 ≤ 12 ∧ GOOD tx L l0 (updM u x.1 x.2) ∧ ∀ h', CST h' (updM u x.1 x.2) tx L l0 f0 s0 m0 s s' → FO CA h h' → HR h' H' → K (.int 1) h') : P.1 n_FT_undo [.ref 5] h K := by
  have hC := c0.1
  have hw := hC.1
  cases H with
  | nil =>
    have r1 : hI h 85 2 = nI 0 := hh.1
    refine S.go 60 rfl rfl rfl ?_
    conv => whnf
    refine ⟨wt_5 hw, ?_⟩
    conv => whnf
    rw [wr_5_3 hw]
    refine ⟨wt_85 hw, ?_⟩
    conv => whnf
    rw [r1]
    refine bk_f (fun c => absurd ((zn_lt (a := 0) (b := 0) (by omega) (by omega)).mp c) (by omega)) ?_
    conv => whnf
    exact ⟨Or.inl rfl, hN rfl⟩
  | cons x H =>
    obtain ⟨x1, x2, gd, hY⟩ := hY x H rfl
    obtain ⟨hv, en⟩ := gd
    have r1 : hI h 85 2 = nI (H.length + 1) := hh.1
    have hl : H.length + 1 ≤ 30 := hh.2.1
    refine S.go 80 rfl rfl rfl ?_
    conv => whnf
    refine ⟨wt_5 hw, ?_⟩
    conv => whnf
    rw [wr_5_3 hw]
    refine ⟨wt_85 hw, ?_⟩
    conv => whnf
    rw [r1]
    refine bk_t ((zn_lt (a := 0) (by omega) (by omega)).mpr (by omega)) ?_
    conv => whnf
    refine ⟨wt_5 hw, ?_⟩
    conv => whnf
    rw [wr_5_1 hw]
    refine ⟨wt_5 hw, ?_⟩
    conv => whnf
    rw [wr_5_3 hw]
    refine ⟨wt_85 hw, ?_⟩
    refine (c_Hist_last S hw hh (K' := fun _ _ => True) ?_ trivial).1
    conv => whnf
    refine ⟨wt_5 hw, ?_⟩
    conv => whnf
    rw [wr_5_3 hw]
    refine ⟨wt_85 hw, ?_⟩
    refine (c_Hist_last S hw hh (K := fun _ _ => True) trivial ?_).2
    conv => whnf
    refine ⟨wt_8 hw, ?_⟩
    refine c_Tower_setModulus S x1 x2 hC.i0 ?_
    intro h1 a1 a2 a3
    have hC1 := set_CI hu hv hC a1 a3
    have hw1 := hC1.1
    have l1 : hI h1 85 2 = nI (H.length + 1) := by
      rw [(a2.1 85 (by decide) (nt95 (by decide) (by decide))).1]
      exact r1
    have hw2 : WS (sI h1 85 2 (nI H.length)) := hw1
    have hC2 : CI (sI h1 85 2 (nI H.length)) (updM u x.1 x.2) (imF (updM u x.1 x.2)) := CI_out (A := H3) (fun q hq => by unfold H3 at hq; omega) (eqY_sI (by unfold H3; omega)) hC1
    have f2 : FO CA h (sI h1 85 2 (nI H.length)) := FO_tr (FO_W a2) (FO_Y (eqY_sI (by unfold CA H3; omega)))
    have q9 : hR (sI h1 85 2 (nI H.length)) 5 9 = s := by
      rw [f2.2.1 5 (by decide) (nt95 (by decide) (by decide))]
      exact c0.2.1.1
    conv => whnf
    refine ⟨wt_5 hw1, ?_⟩
    conv => whnf
    rw [wr_5_3 hw1]
    refine ⟨wt_85 hw1, ?_⟩
    conv => whnf
    rw [l1, show (fun x y : Int32 => x - y) (nI (H.length + 1)) 1 = nI H.length from nI_d1 _]
    refine ⟨wt_85 hw1, ?_⟩
    conv => whnf
    refine ⟨wt_5 hw2, ?_⟩
    conv => whnf
    rw [wr_5_2 hw2]
    refine ⟨wt_5 hw2, ?_⟩
    conv => whnf
    rw [q9]
    refine ⟨wt_5 hw2, ?_⟩
    conv => whnf
    rw [wr_5_1 hw2]
    refine ⟨wt_79 hw2, ?_⟩
    refine c_work_keep S c0 hC2 hv (A := CA) f2 (fun k k1 k2 => by unfold CA K8 W6 H3; omega) (fun k k1 k2 => by unfold CA K8 W6 H3; omega) ?_ ?_
    · intro _ h3 hC3 f3 hw3 cst
      conv => whnf
      refine ⟨wt_5 hw3, ?_⟩
      refine c_FT_keepNameValues S hw3 ?_
      have f4 : FO CA h (sCp h3 80 0 88 0 8) := FO_tr f2 (FO_tr (FO_mono (fun k hk => Or.inl (Or.inl hk)) f3) (FO_Y (eqY_sCp (Or.inl (Or.inr rfl)))))
      have g : ∀ k, 85 ≤ k → k ≤ 87 → hI (sCp h3 80 0 88 0 8) k = hI (sI h1 85 2 (nI H.length)) k := fun k y1 y2 => by
        rw [hI_sCp_ne (by omega), (f3.1 k (by omega) (nt95 (by omega) (by omega)) (by unfold W6; omega)).1]
      have hh4 : HR (sCp h3 80 0 88 0 8) H := by
        refine ⟨?_, by omega, fun i y hy => ?_⟩
        · rw [g 85 (by decide) (by decide), hI_sI]
        · have hl2 := lt_some hy
          have := hh.2.2 (i + 1) y (by simpa using hy)
          rw [List.length_cons, show H.length + 1 - 1 - (i + 1) = H.length - 1 - i by omega] at this
          rw [g 86 (by decide) (by decide), g 87 (by decide) (by decide), hI_ne (by decide), hI_ne (by decide), (a2.1 86 (by decide) (nt95 (by decide) (by decide))).1, (a2.1 87 (by decide) (nt95 (by decide) (by decide))).1]
          exact this
      conv => whnf
      exact ⟨Or.inr rfl, hY _ cst f4 hh4⟩
    · intro q ep
      rw [en] at ep
      exact absurd ep (by simp)
def SL (h : PH) (g : Nat → Option (Nat → Nat)) : Prop := ∀ q, q < 3 → (g q = none → hI h 94 q = 0) ∧ (∀ v, g q = some v → hI h 94 q = 1 ∧ ∀ k, 1 ≤ k → k ≤ 12 → hI h (91 + q) k = nI (v k))
theorem wr_90 {h : PH} (hw : WS h) {q : Nat} (hq : q < 3) : hR h 90 q = 91 + q := by
  rcases (show q = 0 ∨ q = 1 ∨ q = 2 by omega) with e | e | e
  · rw [e]; exact wr_90_0 hw
  · rw [e]; exact wr_90_1 hw
  · rw [e]; exact wr_90_2 hw
theorem wt_91q {h : PH} (hw : WS h) {q : Nat} (hq : q < 3) : hT h (91 + q) = 20 ∧ hN h (91 + q) = 13 := by
  rcases (show q = 0 ∨ q = 1 ∨ q = 2 by omega) with e | e | e
  · rw [e]; exact ⟨wt_91 hw, wn_91 hw⟩
  · rw [e]; exact ⟨wt_92 hw, wn_92 hw⟩
  · rw [e]; exact ⟨wt_93 hw, wn_93 hw⟩
def A90 (k : Nat) : Prop := 91 ≤ k ∧ k ≤ 94
theorem c_FT_hold {P : PSem} (S : SysOK P) {h : PH} {u tx : Nat → Nat} {L : Nat} {l0 : Nat → Int64} {f0 s0 m0 : Nat → Int32} {s s' : Nat} (c0 : CST h u tx L l0 f0 s0 m0 s s') {g : Nat → Option (Nat → Nat)} (sl : SL h g) {w : Int32} {K : PK}
    (hN : (w < 0 ∨ 3 ≤ w) → K (.int 0) h)
    (hY : ∀ q, q < 3 → w = nI q → ∀ h', CST h' u tx L l0 f0 s0 m0 s s' → FO A90 h h' → SL h' (fun k => if k = q then some u else g k) → K (.int 1) h') : P.1 n_FT_hold [.ref 5, .int w] h K := by
  have hC := c0.1
  have hw := hC.1
  rcases pk_ix w (n := 3) (by decide) with c | c | ⟨q, hq, rfl⟩
  · refine S.go 60 rfl rfl rfl ?_
    conv => whnf
    refine bk_t (c) ?_
    conv => whnf
    exact ⟨Or.inl rfl, hN (Or.inl c)⟩
  · have c : (3 : Int32) ≤ w := c
    have n0 : ¬ w < 0 := fun y => absurd (Int32.lt_of_le_of_lt c y) (by decide)
    have n3 : ¬ w < 3 := fun y => absurd (Int32.lt_of_le_of_lt c y) (by decide)
    refine S.go 60 rfl rfl rfl ?_
    conv => whnf
    refine bk_f (n0) ?_
    conv => whnf
    refine bk_f (n3) ?_
    conv => whnf
    exact ⟨Or.inl rfl, hN (Or.inr c)⟩
  · refine S.go 60 rfl rfl rfl ?_
    conv => whnf
    refine bk_f (fun c => absurd ((zn_lt (b := 0) (by omega) (by omega)).mp c) (by omega)) ?_
    conv => whnf
    refine bk_t ((zn_lt (b := 3) (by omega) (by omega)).mpr (by omega)) ?_
    conv => whnf
    refine ⟨wt_5 hw, ?_⟩
    conv => whnf
    rw [wr_5_1 hw]
    refine ⟨wt_5 hw, ?_⟩
    conv => whnf
    rw [wr_5_6 hw]
    refine ⟨Or.inr (Or.inr (Or.inr (inB_of (wt_90 hw) (wn_90 hw) hq (by decide)))), ?_⟩
    conv => whnf
    rw [nI_clamp (by omega), wr_90 hw hq]
    refine ⟨wt_8 hw, ?_⟩
    refine c_Tower_copyModuli S hw hC.2.1 (by omega) (fun n n1 n2 => by omega) (wt_91q hw hq).1 (wt_91q hw hq).2 ?_
    intro h1 f1 d1
    have hw1 := eqX_WS f1 hw
    have hC1 : CI h1 u (imF u) := CI_out (fun k hk => by omega) f1.y hC
    conv => whnf
    refine ⟨wt_5 hw1, ?_⟩
    conv => whnf
    rw [wr_5_7 hw1]
    refine ⟨Or.inr (inB_of (wt_94 hw1) (wn_94 hw1) hq (by decide)), ?_⟩
    try rw [nI_clamp (show q < 2 ^ 31 by omega)]
    rw [wt_94 hw1]
    conv => whnf
    have f2 : FO A90 h (sI h1 94 q 1) := FO_tr (FO_Y (eqY_mono (fun k hk => by unfold A90; omega) f1.y)) (FO_Y (eqY_sI (by unfold A90; omega)))
    have hC2 : CI (sI h1 94 q 1) u (imF u) := CI_out (A := A90) (fun k hk => by unfold A90 at hk; omega) (eqY_sI (by unfold A90; omega)) hC1
    have ss := c0.2.1.2.2
    have sb : (s = 96 ∨ s = 106) := by
      unfold SS at ss
      omega
    refine ⟨Or.inr rfl, hY q hq rfl _ (c0.fo hC2 f2 (fun k k1 k2 => by unfold A90; omega) (by unfold A90; omega) (fun k k1 k2 => by unfold A90; omega) rfl) f2 (fun r hr => ?_)⟩
    show ((if r = q then some u else g r) = none → hI (sI h1 94 q 1) 94 r = 0) ∧ ∀ v, (if r = q then some u else g r) = some v → hI (sI h1 94 q 1) 94 r = 1 ∧ ∀ k, 1 ≤ k → k ≤ 12 → hI (sI h1 94 q 1) (91 + r) k = nI (v k)
    by_cases e : r = q
    · rw [e, if_pos rfl]
      refine ⟨fun y => absurd y (by simp), fun v hv => ⟨hI_sI, fun k k1 k2 => ?_⟩⟩
      rw [← Option.some.inj hv, hI_ne (by omega)]
      exact d1 k k1 k2
    · rw [if_neg e, hI_sI_j e, f1.2.2.2.2 94 (by omega)]
      refine ⟨(sl r hr).1, fun v hv => ⟨((sl r hr).2 v hv).1, fun k k1 k2 => ?_⟩⟩
      rw [hI_ne (by omega), f1.2.2.2.2 (91 + r) (by omega)]
      exact ((sl r hr).2 v hv).2 k k1 k2
theorem c_FT_restore {P : PSem} (S : SysOK P) {h : PH} {u tx : Nat → Nat} {L : Nat} {l0 : Nat → Int64} {f0 s0 m0 : Nat → Int32} {s s' : Nat} (c0 : CST h u tx L l0 f0 s0 m0 s s') (hu : MDS u) {g : Nat → Option (Nat → Nat)} (sl : SL h g) {w : Int32} {K : PK}
    (hN : (w < 0 ∨ 3 ≤ w ∨ ∃ q, q < 3 ∧ w = nI q ∧ g q = none) → K (.int 0) h)
    (hY : ∀ q v, q < 3 → w = nI q → g q = some v → GOOD tx L l0 v ∧ ∀ h', CST h' v tx L l0 f0 s0 m0 s s' → FO CA h h' → hI h' 85 2 = nI 0 → K (.int 1) h') : P.1 n_FT_restore [.ref 5, .int w] h K := by
  have hC := c0.1
  have hw := hC.1
  rcases pk_ix w (n := 3) (by decide) with c | c | ⟨q, hq, rfl⟩
  · refine S.go 60 rfl rfl rfl ?_
    conv => whnf
    refine bk_t (c) ?_
    conv => whnf
    exact ⟨Or.inl rfl, hN (Or.inl c)⟩
  · have c : (3 : Int32) ≤ w := c
    have n0 : ¬ w < 0 := fun y => absurd (Int32.lt_of_le_of_lt c y) (by decide)
    refine S.go 60 rfl rfl rfl ?_
    conv => whnf
    refine bk_f (n0) ?_
    conv => whnf
    refine bk_t (c) ?_
    conv => whnf
    exact ⟨Or.inl rfl, hN (Or.inr (Or.inl c))⟩
  · cases hg : g q with
    | none =>
      refine S.go 60 rfl rfl rfl ?_
      conv => whnf
      refine bk_f (fun c => absurd ((zn_lt (b := 0) (by omega) (by omega)).mp c) (by omega)) ?_
      conv => whnf
      refine bk_f (fun c => absurd ((zn_le (a := 3) (by omega) (by omega)).mp c) (by omega)) ?_
      conv => whnf
      refine ⟨wt_5 hw, ?_⟩
      conv => whnf
      rw [wr_5_7 hw]
      refine ⟨Or.inr (inB_of (wt_94 hw) (wn_94 hw) hq (by decide)), ?_⟩
      conv => whnf
      rw [nI_clamp (by omega), (sl q hq).1 hg]
      refine bk_nf (rfl) ?_
      conv => whnf
      exact ⟨Or.inl rfl, hN (Or.inr (Or.inr ⟨q, hq, rfl, hg⟩))⟩
    | some v =>
      obtain ⟨⟨hv, en⟩, hY⟩ := hY q v hq rfl hg
      obtain ⟨l1, l2⟩ := (sl q hq).2 v hg
      refine S.go 80 rfl rfl rfl ?_
      conv => whnf
      refine bk_f (fun c => absurd ((zn_lt (b := 0) (by omega) (by omega)).mp c) (by omega)) ?_
      conv => whnf
      refine bk_f (fun c => absurd ((zn_le (a := 3) (by omega) (by omega)).mp c) (by omega)) ?_
      conv => whnf
      refine ⟨wt_5 hw, ?_⟩
      conv => whnf
      rw [wr_5_7 hw]
      refine ⟨Or.inr (inB_of (wt_94 hw) (wn_94 hw) hq (by decide)), ?_⟩
      conv => whnf
      rw [nI_clamp (by omega), l1]
      refine bk_nt (by decide) ?_
      conv => whnf
      refine ⟨wt_5 hw, ?_⟩
      conv => whnf
      rw [wr_5_1 hw]
      refine ⟨wt_5 hw, ?_⟩
      conv => whnf
      rw [wr_5_6 hw]
      refine ⟨Or.inr (Or.inr (Or.inr (inB_of (wt_90 hw) (wn_90 hw) hq (by decide)))), ?_⟩
      conv => whnf
      try rw [nI_clamp (show q < 2 ^ 31 by omega)]
      rw [wr_90 hw hq]
      refine ⟨wt_8 hw, ?_⟩
      refine c_Tower_takeModuli S hu hv (img_ex hu) (img_ex hv) hC (R := 91 + q) (by omega) (by omega) (nt95 (by omega) (by omega)) (wt_91q hw hq).1 (wt_91q hw hq).2 l2 ?_
      intro h1 hC1 a2
      have hw1 := hC1.1
      have f1 : FO CA h h1 := FO_W a2
      have q9 : hR h1 5 9 = s := by
        rw [f1.2.1 5 (by decide) (nt95 (by decide) (by decide))]
        exact c0.2.1.1
      conv => whnf
      refine ⟨wt_5 hw1, ?_⟩
      conv => whnf
      rw [wr_5_2 hw1]
      refine ⟨wt_5 hw1, ?_⟩
      conv => whnf
      rw [q9]
      refine ⟨wt_5 hw1, ?_⟩
      conv => whnf
      rw [wr_5_1 hw1]
      refine ⟨wt_79 hw1, ?_⟩
      refine c_work_keep S c0 hC1 hv (A := CA) f1 (fun k k1 k2 => by unfold CA K8 W6 H3; omega) (fun k k1 k2 => by unfold CA K8 W6 H3; omega) ?_ ?_
      · intro _ h3 hC3 f3 hw3 cst
        conv => whnf
        refine ⟨wt_5 hw3, ?_⟩
        refine c_FT_keepNameValues S hw3 ?_
        have hw4 : WS (sCp h3 80 0 88 0 8) := hw3
        have f5 : FO CA h (sI (sCp h3 80 0 88 0 8) 85 2 0) := FO_tr f1 (FO_tr (FO_mono (fun k hk => Or.inl (Or.inl hk)) f3) (FO_tr (FO_Y (eqY_sCp (Or.inl (Or.inr rfl)))) (FO_Y (eqY_sI (by unfold CA H3; omega)))))
        have hC5 : CI (sI (sCp h3 80 0 88 0 8) 85 2 0) v (imF v) := CI_out (A := H3) (fun q hq => by unfold H3 at hq; omega) (eqY_sI (by unfold H3; omega)) cst.1
        conv => whnf
        refine ⟨wt_5 hw4, ?_⟩
        conv => whnf
        rw [wr_5_3 hw4]
        refine ⟨wt_85 hw4, ?_⟩
        conv => whnf
        exact ⟨Or.inr rfl, hY _ (cst.fo hC5 (A := H3) (FO_Y (eqY_sI (by unfold H3; omega))) (fun q _ _ => by have ss := c0.2.1.2.2; unfold SS at ss; unfold H3; omega) (by unfold H3; omega) (fun q _ _ => by unfold H3; omega) rfl) f5 (by rw [hI_sI]; rfl)⟩
      · intro q ep
        rw [en] at ep
        exact absurd ep (by simp)
