/-! MEANS: the reference's means, whole -/
theorem l_M_least {P : PSem} (S : SysOK P) {h0 : PH} (hw0 : WS h0) (hs0 : SPL h0) {K : PK} (hK : ∀ h', MNX LJ LA h0 h' → (∀ k, k ≠ 126 → hI h' k = hI h0 k) → hL h' = hL h0 → (∀ n, 1 ≤ n → n ≤ 12 → hI h' 126 n = dLm n) → P.2 n_M_means 14 [some (.ref 116), none] [] h' 0 0 K) : ∀ j n h, n + j = 13 → 1 ≤ n → MNX LJ LA h0 h → (∀ k, k ≠ 126 → hI h k = hI h0 k) → hL h = hL h0 → (∀ q, 1 ≤ q → q < n → hI h 126 q = dLm q) → P.2 n_M_means 2 [some (.ref 116), some (.int (nI n))] [] h 0 0 K := by
  intro j
  induction j with
  | zero =>
    intro n h e h1 f g gl a
    have e : n = 13 := by omega
    subst e
    refine S.at 40 [14] rfl ?_
    conv => whnf
    refine bk_t (by decide) ?_
    conv => whnf
    refine S.mk [(0,1),(0,0)] ?_
    exact hK h f g gl (fun q y1 y2 => a q y1 (by omega))
  | succ j ih =>
    intro n h e h1 f g gl a
    have hw := eqY_WS f.1 hw0
    have hs : SPL h := fun p y1 y2 => by rw [g 124 (by decide)]; exact hs0 p y1 y2
    have next := ih (n + 1) (sI h 126 n (nI (lm n))) (by omega) (by omega) (MNX_tr f (MNX_A (by unfold LA; omega) (by decide))) (fun k hk => by rw [hI_sI_ne hk]; exact g k hk) gl (fun q y1 y2 => by
      rcases Nat.lt_or_ge q n with w | w
      · rw [hI_sI_j (by omega)]
        exact a q y1 w
      · have : q = n := by omega
        rw [this, hI_sI]
        rfl)
    rw [← nI_1 n] at next
    refine S.at 40 [14] rfl ?_
    conv => whnf
    refine bk_f (fun c => absurd ((zn_lt (a := 12) (by omega) (by omega)).mp c) (by omega)) ?_
    conv => whnf
    refine ⟨wt_116 hw, ?_⟩
    conv => whnf
    rw [wr_116_19 hw]
    refine ⟨wt_116 hw, ?_⟩
    refine c_M_leastWhole S hw hs h1 (by omega) ?_
    conv => whnf
    refine ⟨⟨by decide, inB_of (wt_126 hw) (wn_126 hw) (show n < 13 by omega) (by decide)⟩, ?_⟩
    conv => whnf
    rw [nI_clamp (by omega)]
    exact next
theorem MSE.fr0 {h h' : PH} {tx : Nat → Nat} {L : Nat} {l0 : Nat → Int64} {f0 : Nat → Int32} {e : Nat} (he : h' = h) (m : MSE h tx L l0 f0 e) : MSE h' tx L l0 f0 e := by rw [he]; exact m
theorem l_M_means {P : PSem} (S : SysOK P) {h0 : PH} (hw0 : WS h0) (hs0 : SPL h0) {tx : Nat → Nat} {L : Nat} (hB : TXB tx) (hM : L ≤ 2000) (eo : EOK tx L) {l0 : Nat → Int64} {f0 : Nat → Int32} (h10 : hI h0 116 10 = nI (pT (tkk tx L) + 1)) {K : PK} (hK : ∀ h', MNX LJ LA h0 h' → MSE h' tx L l0 f0 (pT (tkk tx L)) → K .null h') : ∀ j k e h, k + j = pT (tkk tx L) + 1 → MNX LJ LA h0 h → e ≤ pT (tkk tx L) → cR tx L e = 1 → MSE h tx L l0 f0 e → (k = pT (tkk tx L) + 1 → e = pT (tkk tx L)) → (k ≤ pT (tkk tx L) → k ≤ e ∧ ∀ i, k ≤ i → i < e → cR tx L i ≠ 1) → P.2 n_M_means 22 [some (.ref 116), some (.int (nI k))] [] h 0 0 K := by
  have t4 := (pT_ok (tkk tx L)).1
  intro j
  induction j with
  | zero =>
    intro k e h hj f a1 a2 m a3 a4
    have hw := eqY_WS f.1 hw0
    have ek := a3 (by omega)
    rw [ek] at m
    have t10 : hI h 116 10 = nI (pT (tkk tx L) + 1) := by
      rw [f.2 10 (by unfold LJ; omega)]
      exact h10
    refine S.at 60 [] rfl ?_
    conv => whnf
    refine ⟨wt_116 hw, ?_⟩
    conv => whnf
    rw [t10]
    refine bk_t ((zn_le (by omega) (by omega)).mpr (by omega)) ?_
    conv => whnf
    exact hK h f m
  | succ j ih =>
    intro k e h hj f a1 a2 m a3 a4
    have hw := eqY_WS f.1 hw0
    have hs : SPL h := fun p y1 y2 => by rw [(f.1.2.2.2 124 (by unfold LA SA; omega)).1]; exact hs0 p y1 y2
    have t10 : hI h 116 10 = nI (pT (tkk tx L) + 1) := by
      rw [f.2 10 (by unfold LJ; omega)]
      exact h10
    obtain ⟨b1, b2⟩ := a4 (by omega)
    have tk := m.1.1.1 k (by omega)
    have kl := tkk_le tx L k
    have kl2 := kM_le (tkk tx L k) (by omega)
    have g55 : ∀ h' e', MNX LJ LA h0 h' → e' ≤ pT (tkk tx L) → cR tx L e' = 1 → MSE h' tx L l0 f0 e' → (k = pT (tkk tx L) → e' = pT (tkk tx L)) → (k < pT (tkk tx L) → k < e' ∧ ∀ i, k < i → i < e' → cR tx L i ≠ 1) → P.2 n_M_means 55 [some (.ref 116), some (.int (nI k))] [] h' 0 0 K := by
      intro h' e' f' c1 c2 m' c3 c4
      have next := ih (k + 1) e' h' (by omega) f' c1 c2 m' (fun y => c3 (by omega)) (fun y => ⟨by have := (c4 (by omega)).1; omega, fun i y1 y2 => (c4 (by omega)).2 i (by omega) y2⟩)
      rw [← nI_1 k] at next
      refine S.at 10 [] rfl ?_
      conv => whnf
      exact next
    by_cases ke : k = e
    · have g46 : tkk tx L k ≠ 2 → ∀ h' e', MNX LJ LA h0 h' → e' ≤ pT (tkk tx L) → cR tx L e' = 1 → MSE h' tx L l0 f0 e' → (k = pT (tkk tx L) → e' = pT (tkk tx L)) → (k < pT (tkk tx L) → k < e' ∧ ∀ i, k < i → i < e' → cR tx L i ≠ 1) → P.2 n_M_means 46 [some (.ref 116), some (.int (nI k))] [] h' 0 0 K := by
        intro n2 h' e' f' c1 c2 m' c3 c4
        have hw' := eqY_WS f'.1 hw0
        have tk' := m'.1.1.1 k (by omega)
        refine S.at 40 [55] rfl ?_
        conv => whnf
        refine ⟨wt_116 hw', ?_⟩
        conv => whnf
        rw [wr_116_5 hw']
        refine ⟨inB_of (wt_119 hw') (wn_119 hw') (show k < 403 by omega) (by decide), ?_⟩
        conv => whnf
        rw [nI_clamp (by omega), tk'.1]
        refine bk_nt (fun y => n2 ((kM_tk (k := 2) (by decide) (by decide)).mp ((zn_eq (b := 21) (by omega) (by decide)).mp y))) ?_
        conv => whnf
        exact g55 h' e' f' c1 c2 m' c3 c4
      have g37 : P.2 n_M_means 37 [some (.ref 116), some (.int (nI k))] [] h 0 0 K := by
        rw [← ke] at a2 m
        by_cases k1 : tkk tx L k = 1
        · have kl : k < pT (tkk tx L) := by
            rcases Nat.lt_or_ge k (pT (tkk tx L)) with w | w
            · exact w
            · have y : k = pT (tkk tx L) := by omega
              rw [y, eo.2] at k1
              exact absurd k1 (by decide)
          refine S.at 40 [46] rfl ?_
          conv => whnf
          refine ⟨wt_116 hw, ?_⟩
          conv => whnf
          rw [wr_116_5 hw]
          refine ⟨inB_of (wt_119 hw) (wn_119 hw) (show k < 403 by omega) (by decide), ?_⟩
          conv => whnf
          rw [nI_clamp (by omega), tk.1, k1]
          refine bk_nf (rfl) ?_
          conv => whnf
          refine ⟨wt_116 hw, ?_⟩
          refine c_M_meansModulus S hw hs hB hM eo kl a2 k1 m ?_
          intro h' f' d1 d2 d3 m'
          conv => whnf
          exact g46 (by omega) h' (k + 4) (MNX_tr f f') d1 d2 m' (fun y => by omega) (fun _ => ⟨by omega, d3⟩)
        · by_cases k2 : tkk tx L k = 2
          · have kl : k < pT (tkk tx L) := by
              rcases Nat.lt_or_ge k (pT (tkk tx L)) with w | w
              · exact w
              · have y : k = pT (tkk tx L) := by omega
                rw [y, eo.2] at k2
                exact absurd k2 (by decide)
            refine S.at 60 [55] rfl ?_
            conv => whnf
            refine ⟨wt_116 hw, ?_⟩
            conv => whnf
            rw [wr_116_5 hw]
            refine ⟨inB_of (wt_119 hw) (wn_119 hw) (show k < 403 by omega) (by decide), ?_⟩
            conv => whnf
            rw [nI_clamp (by omega), tk.1, k2]
            refine bk_nt (by decide) ?_
            conv => whnf
            refine ⟨wt_116 hw, ?_⟩
            conv => whnf
            rw [wr_116_5 hw]
            refine ⟨inB_of (wt_119 hw) (wn_119 hw) (show k < 403 by omega) (by decide), ?_⟩
            conv => whnf
            rw [nI_clamp (by omega), tk.1, k2]
            refine bk_nf (rfl) ?_
            conv => whnf
            refine ⟨wt_116 hw, ?_⟩
            refine c_M_meansLet S hw hB hM eo kl a2 k2 m.1 m.2.1 ?_
            intro h' e' f' g126 d1 d2 d3 d4 m' l' d5
            conv => whnf
            refine g55 h' e' (MNX_tr f f') d2 d3 ⟨m', l', fun hz n y1 y2 => ?_⟩ (fun y => by omega) (fun _ => ⟨d1, d4⟩)
            rw [g126, d5 n (by omega) dLm]
            exact m.2.2 (fun i hi => hz i (by omega)) n y1 y2
          · have kp : k = pT (tkk tx L) := by
              rcases Nat.lt_or_ge k (pT (tkk tx L)) with w | w
              · have tab := rtab w
                omega
              · omega
            refine S.at 60 [46] rfl ?_
            conv => whnf
            refine ⟨wt_116 hw, ?_⟩
            conv => whnf
            rw [wr_116_5 hw]
            refine ⟨inB_of (wt_119 hw) (wn_119 hw) (show k < 403 by omega) (by decide), ?_⟩
            conv => whnf
            rw [nI_clamp (by omega), tk.1]
            refine bk_nt (fun y => k1 ((kM_tk (k := 1) (by decide) (by decide)).mp ((zn_eq (b := 20) (by omega) (by decide)).mp y))) ?_
            conv => whnf
            exact g46 k2 h k f (by omega) a2 m (fun y => y) (fun y => by omega)
      refine S.at 60 [37] rfl ?_
      conv => whnf
      refine ⟨wt_116 hw, ?_⟩
      conv => whnf
      rw [t10]
      refine bk_f (fun c => absurd ((zn_le (by omega) (by omega)).mp c) (by omega)) ?_
      conv => whnf
      refine bk_le (b := 0) (by omega) (by omega) (fun c => ?_) (fun c => ?_)
      · conv => whnf
        exact g37
      · have tabp := rtab (tx := tx) (L := L) (t := k - 1) (by omega)
        rw [show k - 1 + 1 = k by omega] at tabp
        rw [← ke] at a2
        have kp : tkk tx L (k - 1) = 6 := by omega
        have tkp := m.1.1.1 (k - 1) (by omega)
        conv => whnf
        refine ⟨wt_116 hw, ?_⟩
        conv => whnf
        rw [wr_116_5 hw]
        try rw [show (fun x y : Int32 => x - y) (nI k) 1 = nI (k - 1) from zn_mns (b := 1) (by omega)]
        refine ⟨inB_of (wt_119 hw) (wn_119 hw) (show k - 1 < 403 by omega) (by decide), ?_⟩
        conv => whnf
        rw [nI_clamp (by omega), tkp.1, kp]
        refine bk_t (rfl) ?_
        conv => whnf
        exact g37
    · have nk := b2 k (Nat.le_refl k) (by omega)
      have k0 : k ≠ 0 := fun y => nk (by rw [y]; rfl)
      have tabp := rtab (tx := tx) (L := L) (t := k - 1) (by omega)
      rw [show k - 1 + 1 = k by omega] at tabp
      have kp : tkk tx L (k - 1) ≠ 6 := by omega
      have tkp := m.1.1.1 (k - 1) (by omega)
      have klp := tkk_le tx L (k - 1)
      have kl2p := kM_le (tkk tx L (k - 1)) (by omega)
      refine S.at 60 [55] rfl ?_
      conv => whnf
      refine ⟨wt_116 hw, ?_⟩
      conv => whnf
      rw [t10]
      refine bk_f (fun c => absurd ((zn_le (by omega) (by omega)).mp c) (by omega)) ?_
      conv => whnf
      refine bk_f (fun c => absurd ((zn_le (b := 0) (by omega) (by omega)).mp c) (by omega)) ?_
      conv => whnf
      refine ⟨wt_116 hw, ?_⟩
      conv => whnf
      rw [wr_116_5 hw]
      try rw [show (fun x y : Int32 => x - y) (nI k) 1 = nI (k - 1) from zn_mns (b := 1) (by omega)]
      refine ⟨inB_of (wt_119 hw) (wn_119 hw) (show k - 1 < 403 by omega) (by decide), ?_⟩
      conv => whnf
      rw [nI_clamp (by omega), tkp.1]
      refine bk_f (fun y => kp ((kM_tk (k := 6) (by decide) (by decide)).mp ((zn_eq (b := 4) (by omega) (by decide)).mp y))) ?_
      conv => whnf
      exact g55 h e f a1 a2 m (fun y => by omega) (fun _ => ⟨by omega, fun i y1 y2 => b2 i (by omega) y2⟩)
theorem c_M_means {P : PSem} (S : SysOK P) {h : PH} (hw : WS h) (hs : SPL h) {tx : Nat → Nat} {L : Nat} (hB : TXB tx) (hM : L ≤ 2000) (eo : EOK tx L) (l0 : Nat → Int64) (f0 : Nat → Int32) (h10 : hI h 116 10 = nI (pT (tkk tx L) + 1)) (htk : ∀ k, k ≤ pT (tkk tx L) → TOK h tx L k) (hT : TX h tx L) (h12 : hI h 116 12 = nI 0) (h14 : hI h 116 14 = nI 0) {K : PK} (hK : ∀ h', MNX LJ LA h h' → MSE h' tx L l0 f0 (pT (tkk tx L)) → K .null h') : P.1 n_M_means [.ref 116] h K := by
  refine S.2.1 _ 2 _ _ _ rfl rfl ?_
  refine S.at 10 [2] rfl ?_
  conv => whnf
  refine l_M_least S hw hs ?_ 12 1 h rfl (Nat.le_refl 1) (MNX_rf _ _ _) (fun _ _ => rfl) rfl (fun q y1 y2 => absurd y1 (by omega))
  intro h1 f1 g1 gl1 d1
  have hw1 := eqY_WS f1.1 hw
  have hs1 : SPL h1 := fun p y1 y2 => by rw [g1 124 (by decide)]; exact hs p y1 y2
  refine S.at 40 [22] rfl ?_
  conv => whnf
  refine ⟨wt_116 hw1, ?_⟩
  conv => whnf
  refine ⟨wt_116 hw1, ?_⟩
  conv => whnf
  have f2 : MNX LJ LA h1 (sI (sI h1 116 24 0) 116 29 0) := MNX_tr (MNX_J (by unfold LA SA; omega) (by unfold LJ; omega)) (MNX_J (by unfold LA SA; omega) (by unfold LJ; omega))
  have hp0 : cR tx L 0 = 1 := rfl
  refine l_M_means (l0 := l0) (f0 := f0) S hw hs hB hM eo h10 hK (pT (tkk tx L) + 1) 0 0 _ (by omega) (MNX_tr f1 f2) (Nat.zero_le _) hp0 ⟨⟨⟨fun k hk => ((htk k hk).fr f1.1 (by unfold LA SA; omega) (by unfold LA SA; omega) (by unfold LA SA; omega) (by unfold LA SA; omega)).fr f2.1 (by unfold LA SA; omega) (by unfold LA SA; omega) (by unfold LA SA; omega) (by unfold LA SA; omega), ⟨?_, ?_⟩, ?_, hI_sI, fun j hj => absurd hj (Nat.not_lt_zero j), fun j hj => absurd hj (Nat.not_lt_zero j)⟩, ⟨?_, fun i s hi => absurd hi (by simp [eW])⟩, ?_, Or.inl ⟨?_, fun i hi => absurd hi (Nat.not_lt_zero i)⟩⟩, fun j hj => absurd hj (Nat.not_lt_zero j), fun _ n y1 y2 => ?_⟩ (fun y => by omega) (fun _ => ⟨Nat.le_refl 0, fun i y1 y2 => absurd y2 (Nat.not_lt_zero i)⟩)
  · rw [hI_sI_j (by decide), hI_sI_j (by decide), g1 116 (by decide)]
    exact hT.1
  · rw [hI_sI_ne (by decide), hI_sI_ne (by decide), g1 118 (by decide)]
    exact hT.2
  · rw [hI_sI_j (by decide), hI_sI_j (by decide), g1 116 (by decide)]
    exact h12
  · rw [hI_sI_j (by decide), hI_sI]
    rfl
  · exact fun y => absurd y (by omega)
  · rw [hI_sI_j (by decide), hI_sI_j (by decide), g1 116 (by decide)]
    exact h14
  · rw [hI_ne (by decide), hI_ne (by decide), d1 n y1 y2]
    rfl
