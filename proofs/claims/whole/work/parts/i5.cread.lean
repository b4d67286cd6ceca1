/-! READ: the class's read -/
def STA (h : PH) : Prop := (∀ n, n ≤ 12 → hI h 2 n = nI (lm n)) ∧ (∀ n, n ≤ 12 → hI h 3 n = nI (whL.getD n 0)) ∧ ∀ n, n ≤ 12 → hI h 4 n = nI (nmL.getD n 0)
def SS (s s' : Nat) : Prop := (s = 96 ∧ s' = 106) ∨ (s = 106 ∧ s' = 96)
theorem SS.l {s s' : Nat} (h : SS s s') : SCL s := by unfold SS at h; unfold SCL; omega
theorem SS.r {s s' : Nat} (h : SS s s') : SCL s' := by unfold SS at h; unfold SCL; omega
theorem SS.sw {s s' : Nat} (h : SS s s') : SS s' s := by unfold SS at *; omega
def CST (h : PH) (u tx : Nat → Nat) (L : Nat) (l0 : Nat → Int64) (f0 s0 m0 : Nat → Int32) (s s' : Nat) : Prop := CI h u (imF u) ∧ (hR h 5 9 = s ∧ hR h 5 10 = s' ∧ SS s s') ∧ SCT h s tx L l0 f0 s0 m0 ∧ TXT tx L l0 f0 ∧ (mst tx L l0 u (pT (tkk tx L))).1 = none ∧ (∀ w, w < cnm tx L (pT (tkk tx L)) → hI h 88 w = nI ((mst tx L l0 u (pT (tkk tx L))).2.2.2 w)) ∧ STA h
def MFX (h h' : PH) : Prop := ∀ k, 116 ≤ k → k ≤ 148 → hI h' k = hI h k ∧ hL h' k = hL h k ∧ hR h' k = hR h k
theorem MFX_rf (h : PH) : MFX h h := fun _ _ _ => ⟨rfl, rfl, rfl⟩
theorem MFX_tr {a b c : PH} (x : MFX a b) (y : MFX b c) : MFX a c := fun k h1 h2 => ⟨(y k h1 h2).1.trans (x k h1 h2).1, (y k h1 h2).2.1.trans (x k h1 h2).2.1, (y k h1 h2).2.2.trans (x k h1 h2).2.2⟩
theorem MFX_FO {A : Nat → Prop} {h h' : PH} (e : FO A h h') (hA : ∀ k, A k → k < 116) : MFX h h' := fun k h1 h2 => ⟨(e.1 k (by omega) (by unfold twr scr; omega) (fun q => by have := hA k q; omega)).1, (e.1 k (by omega) (by unfold twr scr; omega) (fun q => by have := hA k q; omega)).2, e.2.1 k (by omega) (by unfold twr scr; omega)⟩
/-- cells that a read may change -/
def RA (s' k : Nat) : Prop := k = 5 ∨ k = 6 ∨ W6 k ∨ k = 89 ∨ (s' ≤ k ∧ k ≤ s' + 9)
theorem cMD_cg {tx : Nat → Nat} {L : Nat} {d d' : Nat → Int32} {n : Nat} (h : d n = d' n) : ∀ t, cMD tx L d t n = cMD tx L d' t n := by
  intro t
  induction t with
  | zero => exact h
  | succ t ih =>
    show (if cR tx L t = 3 ∧ n = clf tx L t then cBt tx L t else cMD tx L d t n) = if cR tx L t = 3 ∧ n = clf tx L t then cBt tx L t else cMD tx L d' t n
    rw [ih]
theorem CST.fo {A : Nat → Prop} {h h' : PH} {u tx : Nat → Nat} {L : Nat} {l0 : Nat → Int64} {f0 s0 m0 : Nat → Int32} {s s' : Nat} (c : CST h u tx L l0 f0 s0 m0 s s') {u' : Nat → Nat} (hC : CI h' u' (imF u')) (e : FO A h h') (a1 : ∀ k, s ≤ k → k ≤ s + 9 → ¬ A k) (a2 : ¬ A 88) (a3 : ∀ k, 2 ≤ k → k ≤ 4 → ¬ A k) (hu : u' = u) : CST h' u' tx L l0 f0 s0 m0 s s' := by
  subst hu
  obtain ⟨c1, c2, c3, c4, c5, c6, c7⟩ := c
  have r5 : hR h' 5 = hR h 5 := e.2.1 5 (by decide) (by unfold twr scr; omega)
  have s96 : 96 ≤ s ∧ s ≤ 106 := by
    have := c2.2.2
    unfold SS at this
    omega
  refine ⟨hC, ⟨by rw [r5]; exact c2.1, by rw [r5]; exact c2.2.1, c2.2.2⟩, c3.eq (fun k k1 k2 => e.1 k (by omega) (by unfold twr scr; omega) (a1 k k1 k2)), c4, c5, fun w hw => ?_, ⟨fun n hn => ?_, fun n hn => ?_, fun n hn => ?_⟩⟩
  · rw [(e.1 88 (by decide) (by unfold twr scr; omega) a2).1]
    exact c6 w hw
  · rw [(e.1 2 (by decide) (by unfold twr scr; omega) (a3 2 (by decide) (by decide))).1]
    exact c7.1 n hn
  · rw [(e.1 3 (by decide) (by unfold twr scr; omega) (a3 3 (by decide) (by decide))).1]
    exact c7.2.1 n hn
  · rw [(e.1 4 (by decide) (by unfold twr scr; omega) (a3 4 (by decide) (by decide))).1]
    exact c7.2.2 n hn
theorem l_empty {P : PSem} (S : SysOK P) {h0 : PH} (hw0 : WS h0) {K : PK} (hK : ∀ h', eqX (fun k => k = 94) h0 h' → (∀ q, q < 3 → hI h' 94 q = 0) → K .null h') : ∀ j i h, i + j = 3 → eqX (fun k => k = 94) h0 h → (∀ q, q < i → hI h 94 q = 0) → P.2 n_FT_emptySlots 2 [some (.ref 5), some (.int (nI i))] [] h 0 0 K := by
  intro j
  induction j with
  | zero =>
    intro i h hj f a
    have hj : i = 3 := by omega
    refine S.at 40 [] rfl ?_
    conv => whnf
    refine bk_t ((zn_le (a := 3) (by omega) (by omega)).mpr (by omega)) ?_
    conv => whnf
    exact hK h f (fun q hq => a q (by omega))
  | succ j ih =>
    intro i h hj f a
    have hw := eqX_WS f hw0
    have next := ih (i + 1) (sI h 94 i 0) (by omega) (eqX_tr f (eqX_sI rfl)) (fun q hq => by
      rcases Nat.lt_or_ge q i with w | w
      · rw [hI_sI_j (by omega)]
        exact a q w
      · have : q = i := by omega
        rw [this, hI_sI])
    rw [← nI_1 i] at next
    refine S.at 40 [] rfl ?_
    conv => whnf
    refine bk_f (fun c => absurd ((zn_le (a := 3) (by omega) (by omega)).mp c) (by omega)) ?_
    conv => whnf
    refine ⟨wt_5 hw, ?_⟩
    conv => whnf
    rw [wr_5_7 hw]
    refine ⟨Or.inr (inB_of (wt_94 hw) (wn_94 hw) (show i < 3 by omega) (by decide)), ?_⟩
    try rw [nI_clamp (show i < 2 ^ 31 by omega)]
    rw [wt_94 hw]
    conv => whnf
    exact next
theorem c_FT_emptySlots {P : PSem} (S : SysOK P) {h : PH} (hw : WS h) {K : PK} (hK : ∀ h', eqX (fun k => k = 94) h h' → (∀ q, q < 3 → hI h' 94 q = 0) → K .null h') : P.1 n_FT_emptySlots [.ref 5] h K := by
  refine S.2.1 _ 2 _ _ _ rfl rfl ?_
  refine S.at 10 [2] rfl ?_
  conv => whnf
  exact l_empty S hw hK 3 0 h rfl (eqX_rf _ _) (fun q hq => absurd hq (Nat.not_lt_zero q))
theorem c_FT_keepNameValues {P : PSem} (S : SysOK P) {h : PH} (hw : WS h) {K : PK} (hK : K .null (sCp h 80 0 88 0 8)) : P.1 n_FT_keepNameValues [.ref 5] h K := by
  refine S.go 40 rfl rfl rfl ?_
  conv => whnf
  refine ⟨wt_5 hw, ?_⟩
  conv => whnf
  rw [wr_5_2 hw]
  refine ⟨wt_79 hw, ?_⟩
  conv => whnf
  rw [wr_79_0 hw]
  refine ⟨wt_5 hw, ?_⟩
  conv => whnf
  rw [wr_5_4 hw]
  refine ⟨⟨by decide, wt_80 hw, wt_88 hw, by decide, by decide, by decide, show (8 : Nat) ≤ hN h 80 from Nat.le_of_eq (wn_80 hw).symm, show (8 : Nat) ≤ hN h 88 from Nat.le_of_eq (wn_88 hw).symm⟩, ?_⟩
  conv => whnf
  exact hK
theorem hR_5 {h : PH} {j r k i : Nat} (hk : k ≠ 5) : hR (sR h 5 j r) k i = hR h k i := hR_sR_ne (fun y => hk y.1)
theorem WS_5 {h : PH} {j r : Nat} (hj : 9 ≤ j) (hw : WS h) : WS (sR h 5 j r) := by
  refine ⟨hw.1, fun q hq => ?_, hw.2.2.1, hw.2.2.2⟩
  rw [hR_sR_ne (fun y => ?_)]
  · exact hw.2.1 q hq
  · have ck : refL.all (fun q => !(q.1 == 5) || Nat.blt q.2.1 9) = true := by decide +kernel
    have := List.all_eq_true.mp ck q hq
    rw [y.1, y.2] at this
    simp at this
    omega
theorem CI_5 {h : PH} {u : Nat → Nat} {r : Nat → Nat → Nat} {j v : Nat} (hj : 9 ≤ j) (hC : CI h u r) : CI (sR h 5 j v) u r := by
  obtain ⟨c1, c2, c3, c4, c5, c6⟩ := hC
  refine ⟨WS_5 hj c1, c2, c3, ⟨fun n a b => ?_, fun n k a b c d e => ?_⟩, c5, c6⟩
  · rw [hR_5 (by omega)]
    exact c4.1 n a b
  · rw [hR_5 (by omega), hR_5 (by omega)]
    exact c4.2 n k a b c d e
