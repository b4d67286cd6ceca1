/-! READ: the reference saves and restores; printed by wip/gen/copies.py -/
theorem l_puts1 {P : PSem} (S : SysOK P) {h0 : PH} (hw0 : WS h0) {e : Nat} (he : e ≤ 400) (h24 : hI h0 116 24 = nI e) {K : PK} (hK : ∀ h', eqX (fun k => k = 134 ∨ k = 135 ∨ k = 136) h0 h' → (∀ q, 0 ≤ q → q < e → hI h' 134 (q) = hI h0 127 (q) ∧ hI h' 135 (q) = hI h0 128 (q) ∧ hI h' 136 (q) = hI h0 129 (q)) → P.2 n_M_puts 32 [some (.ref 116), none] [] h' 0 0 K) : ∀ j i h, i + j = e → 0 ≤ i → eqX (fun k => k = 134 ∨ k = 135 ∨ k = 136) h0 h → (∀ q, 0 ≤ q → q < i → hI h 134 (q) = hI h0 127 (q) ∧ hI h 135 (q) = hI h0 128 (q) ∧ hI h 136 (q) = hI h0 129 (q)) → P.2 n_M_puts 2 [some (.ref 116), some (.int (nI i))] [] h 0 0 K := by
  intro j
  induction j with
  | zero =>
    intro i h hj hi f a
    have hw := eqX_WS f hw0
    have hj : i = e := by omega
    have g24 : hI h 116 24 = nI e := by
      rw [f.2.2.2.2 116 (by decide)]
      exact h24
    refine S.at 60 [32] rfl ?_
    conv => whnf
    refine ⟨wt_116 hw, ?_⟩
    conv => whnf
    rw [g24]
    refine bk_t ((zn_le (by omega) (by omega)).mpr (by omega)) ?_
    conv => whnf
    refine S.mk [(0,1),(0,0)] ?_
    exact hK h f (fun q y1 y2 => a q y1 (by omega))
  | succ j ih =>
    intro i h hj hi f a
    have hw := eqX_WS f hw0
    have g24 : hI h 116 24 = nI e := by
      rw [f.2.2.2.2 116 (by decide)]
      exact h24
    have hw1 : WS (sI h 134 (i) (hI h 127 (i))) := hw
    have hw2 : WS (sI (sI h 134 (i) (hI h 127 (i))) 135 (i) (hI h 128 (i))) := hw
    have hw3 : WS (sI (sI (sI h 134 (i) (hI h 127 (i))) 135 (i) (hI h 128 (i))) 136 (i) (hI h 129 (i))) := hw
    have inv : ∀ q, 0 ≤ q → q < i + 1 → hI (sI (sI (sI h 134 (i) (hI h 127 (i))) 135 (i) (hI h 128 (i))) 136 (i) (hI h 129 (i))) 134 (q) = hI h0 127 (q) ∧ hI (sI (sI (sI h 134 (i) (hI h 127 (i))) 135 (i) (hI h 128 (i))) 136 (i) (hI h 129 (i))) 135 (q) = hI h0 128 (q) ∧ hI (sI (sI (sI h 134 (i) (hI h 127 (i))) 135 (i) (hI h 128 (i))) 136 (i) (hI h 129 (i))) 136 (q) = hI h0 129 (q) := by
      intro q y1 y2
      have sr : ∀ k, ¬ (fun k => k = 134 ∨ k = 135 ∨ k = 136) k → hI h k = hI h0 k := fun k hk => f.2.2.2.2 k hk
      rcases Nat.lt_or_ge q i with w | w
      · have aa := a q y1 w
        exact ⟨by rw [hI_ne (by decide), hI_ne (by decide), hI_sI_j (by omega)]; exact aa.1, by rw [hI_ne (by decide), hI_sI_j (by omega), hI_ne (by decide)]; exact aa.2.1, by rw [hI_sI_j (by omega), hI_ne (by decide), hI_ne (by decide)]; exact aa.2.2⟩
      · have e : q = i := by omega
        subst e
        exact ⟨by rw [hI_ne (by decide), hI_ne (by decide), hI_sI, sr 127 (by decide)], by rw [hI_ne (by decide), hI_sI, sr 128 (by decide)], by rw [hI_sI, sr 129 (by decide)]⟩
    have next := ih (i + 1) (sI (sI (sI h 134 (i) (hI h 127 (i))) 135 (i) (hI h 128 (i))) 136 (i) (hI h 129 (i))) (by omega) (by omega) (eqX_tr (eqX_tr (eqX_tr (f) (eqX_sI (by decide))) (eqX_sI (by decide))) (eqX_sI (by decide))) inv
    rw [← nI_1 i] at next
    refine S.at 60 [32] rfl ?_
    conv => whnf
    refine ⟨wt_116 hw, ?_⟩
    conv => whnf
    rw [g24]
    refine bk_f (fun c => absurd ((zn_le (by omega) (by omega)).mp c) (by omega)) ?_
    conv => whnf
    refine ⟨wt_116 hw, ?_⟩
    conv => whnf
    rw [wr_116_30 hw]
    refine ⟨wt_116 hw, ?_⟩
    conv => whnf
    try rw [wr_116_21 hw]
    refine ⟨inB_of (wt_127 hw) (wn_127 hw) (show i < 410 by omega) (by decide), ?_⟩
    conv => whnf
    try rw [nI_clamp (show i < 2 ^ 31 by omega)]
    refine ⟨⟨by decide, inB_of (wt_134 hw) (wn_134 hw) (show i < 410 by omega) (by decide)⟩, ?_⟩
    conv => whnf
    try rw [nI_clamp (show i < 2 ^ 31 by omega)]
    refine ⟨wt_116 hw1, ?_⟩
    conv => whnf
    rw [wr_116_31 hw1]
    refine ⟨wt_116 hw1, ?_⟩
    conv => whnf
    try rw [wr_116_22 hw1]
    refine ⟨inB_of (wt_128 hw1) (wn_128 hw1) (show i < 410 by omega) (by decide), ?_⟩
    conv => whnf
    try rw [nI_clamp (show i < 2 ^ 31 by omega)]
    refine ⟨⟨by decide, inB_of (wt_135 hw1) (wn_135 hw1) (show i < 410 by omega) (by decide)⟩, ?_⟩
    conv => whnf
    try rw [nI_clamp (show i < 2 ^ 31 by omega)]
    try rw [hI_ne (q := 128) (k := 134) (by decide)]
    refine ⟨wt_116 hw2, ?_⟩
    conv => whnf
    rw [wr_116_32 hw2]
    refine ⟨wt_116 hw2, ?_⟩
    conv => whnf
    try rw [wr_116_23 hw2]
    refine ⟨inB_of (wt_129 hw2) (wn_129 hw2) (show i < 410 by omega) (by decide), ?_⟩
    conv => whnf
    try rw [nI_clamp (show i < 2 ^ 31 by omega)]
    refine ⟨⟨by decide, inB_of (wt_136 hw2) (wn_136 hw2) (show i < 410 by omega) (by decide)⟩, ?_⟩
    conv => whnf
    try rw [nI_clamp (show i < 2 ^ 31 by omega)]
    try rw [hI_ne (q := 129) (k := 135) (by decide), hI_ne (q := 129) (k := 134) (by decide)]
    exact next
theorem l_puts2 {P : PSem} (S : SysOK P) {h0 : PH} (hw0 : WS h0) {K : PK} (hK : ∀ h', eqX (fun k => k = 137) h0 h' → (∀ q, 0 ≤ q → q < 8 → hI h' 137 (q) = hI h0 130 (q) ∧ hI h' 137 (8 + q) = hI h0 131 (q) ∧ hI h' 137 (16 + q) = hI h0 132 (q)) → hI h' 137 25 = hI h0 137 25 → P.2 n_M_puts 77 [some (.ref 116), none] [] h' 0 0 K) : ∀ j i h, i + j = 8 → 0 ≤ i → eqX (fun k => k = 137) h0 h → (∀ q, 0 ≤ q → q < i → hI h 137 (q) = hI h0 130 (q) ∧ hI h 137 (8 + q) = hI h0 131 (q) ∧ hI h 137 (16 + q) = hI h0 132 (q)) → hI h 137 25 = hI h0 137 25 → P.2 n_M_puts 44 [some (.ref 116), some (.int (nI i))] [] h 0 0 K := by
  intro j
  induction j with
  | zero =>
    intro i h hj hi f a kp
    have hw := eqX_WS f hw0
    have hj : i = 8 := by omega
    refine S.at 60 [77] rfl ?_
    conv => whnf
    refine bk_t ((zn_le (a := 8) (by omega) (by omega)).mpr (by omega)) ?_
    conv => whnf
    refine S.mk [(0,1),(0,0)] ?_
    exact hK h f (fun q y1 y2 => a q y1 (by omega)) kp
  | succ j ih =>
    intro i h hj hi f a kp
    have hw := eqX_WS f hw0
    have hw1 : WS (sI h 137 (i) (hI h 130 (i))) := hw
    have hw2 : WS (sI (sI h 137 (i) (hI h 130 (i))) 137 (8 + i) (hI h 131 (i))) := hw
    have hw3 : WS (sI (sI (sI h 137 (i) (hI h 130 (i))) 137 (8 + i) (hI h 131 (i))) 137 (16 + i) (hI h 132 (i))) := hw
    have inv : ∀ q, 0 ≤ q → q < i + 1 → hI (sI (sI (sI h 137 (i) (hI h 130 (i))) 137 (8 + i) (hI h 131 (i))) 137 (16 + i) (hI h 132 (i))) 137 (q) = hI h0 130 (q) ∧ hI (sI (sI (sI h 137 (i) (hI h 130 (i))) 137 (8 + i) (hI h 131 (i))) 137 (16 + i) (hI h 132 (i))) 137 (8 + q) = hI h0 131 (q) ∧ hI (sI (sI (sI h 137 (i) (hI h 130 (i))) 137 (8 + i) (hI h 131 (i))) 137 (16 + i) (hI h 132 (i))) 137 (16 + q) = hI h0 132 (q) := by
      intro q y1 y2
      have sr : ∀ k, ¬ (fun k => k = 137) k → hI h k = hI h0 k := fun k hk => f.2.2.2.2 k hk
      rcases Nat.lt_or_ge q i with w | w
      · have aa := a q y1 w
        exact ⟨by rw [hI_sI_j (by omega), hI_sI_j (by omega), hI_sI_j (by omega)]; exact aa.1, by rw [hI_sI_j (by omega), hI_sI_j (by omega), hI_sI_j (by omega)]; exact aa.2.1, by rw [hI_sI_j (by omega), hI_sI_j (by omega), hI_sI_j (by omega)]; exact aa.2.2⟩
      · have e : q = i := by omega
        subst e
        exact ⟨by rw [hI_sI_j (by omega), hI_sI_j (by omega), hI_sI, sr 130 (by decide)], by rw [hI_sI_j (by omega), hI_sI, sr 131 (by decide)], by rw [hI_sI, sr 132 (by decide)]⟩
    have next := ih (i + 1) (sI (sI (sI h 137 (i) (hI h 130 (i))) 137 (8 + i) (hI h 131 (i))) 137 (16 + i) (hI h 132 (i))) (by omega) (by omega) (eqX_tr (eqX_tr (eqX_tr (f) (eqX_sI (by decide))) (eqX_sI (by decide))) (eqX_sI (by decide))) inv (by rw [hI_sI_j (by omega), hI_sI_j (by omega), hI_sI_j (by omega)]; exact kp)
    rw [← nI_1 i] at next
    refine S.at 60 [77] rfl ?_
    conv => whnf
    refine bk_f (fun c => absurd ((zn_le (a := 8) (by omega) (by omega)).mp c) (by omega)) ?_
    conv => whnf
    refine ⟨wt_116 hw, ?_⟩
    conv => whnf
    rw [wr_116_33 hw]
    refine ⟨wt_116 hw, ?_⟩
    conv => whnf
    try rw [wr_116_25 hw]
    refine ⟨inB_of (wt_130 hw) (wn_130 hw) (show i < 9 by omega) (by decide), ?_⟩
    conv => whnf
    try rw [nI_clamp (show i < 2 ^ 31 by omega)]
    refine ⟨⟨by decide, inB_of (wt_137 hw) (wn_137 hw) (show i < 26 by omega) (by decide)⟩, ?_⟩
    conv => whnf
    try rw [nI_clamp (show i < 2 ^ 31 by omega)]
    refine ⟨wt_116 hw1, ?_⟩
    conv => whnf
    rw [wr_116_33 hw1]
    refine ⟨wt_116 hw1, ?_⟩
    conv => whnf
    try rw [wr_116_26 hw1]
    refine ⟨inB_of (wt_131 hw1) (wn_131 hw1) (show i < 8 by omega) (by decide), ?_⟩
    conv => whnf
    try rw [nI_clamp (show i < 2 ^ 31 by omega)]
    try rw [show (fun x y : Int32 => x + y) 8 (nI i) = nI (8 + i) from (zn_plus 8 i).symm]
    refine ⟨⟨by decide, inB_of (wt_137 hw1) (wn_137 hw1) (show 8 + i < 26 by omega) (by decide)⟩, ?_⟩
    conv => whnf
    try rw [nI_clamp (show 8 + i < 2 ^ 31 by omega)]
    try rw [hI_ne (q := 131) (k := 137) (by decide)]
    refine ⟨wt_116 hw2, ?_⟩
    conv => whnf
    rw [wr_116_33 hw2]
    refine ⟨wt_116 hw2, ?_⟩
    conv => whnf
    try rw [wr_116_27 hw2]
    refine ⟨inB_of (wt_132 hw2) (wn_132 hw2) (show i < 8 by omega) (by decide), ?_⟩
    conv => whnf
    try rw [nI_clamp (show i < 2 ^ 31 by omega)]
    try rw [show (fun x y : Int32 => x + y) 16 (nI i) = nI (16 + i) from (zn_plus 16 i).symm]
    refine ⟨⟨by decide, inB_of (wt_137 hw2) (wn_137 hw2) (show 16 + i < 26 by omega) (by decide)⟩, ?_⟩
    conv => whnf
    try rw [nI_clamp (show 16 + i < 2 ^ 31 by omega)]
    try rw [hI_ne (q := 132) (k := 137) (by decide), hI_ne (q := 132) (k := 137) (by decide)]
    exact next
theorem l_puts3 {P : PSem} (S : SysOK P) {h0 : PH} (hw0 : WS h0) {K : PK} (hK : ∀ h', eqX (fun k => k = 138) h0 h' → (∀ q, 1 ≤ q → q < 13 → hI h' 138 (q) = hI h0 125 (q)) → P.2 n_M_puts 100 [some (.ref 116), none] [] h' 0 0 K) : ∀ j i h, i + j = 13 → 1 ≤ i → eqX (fun k => k = 138) h0 h → (∀ q, 1 ≤ q → q < i → hI h 138 (q) = hI h0 125 (q)) → P.2 n_M_puts 87 [some (.ref 116), some (.int (nI i))] [] h 0 0 K := by
  intro j
  induction j with
  | zero =>
    intro i h hj hi f a
    have hw := eqX_WS f hw0
    have hj : i = 13 := by omega
    refine S.at 60 [100] rfl ?_
    conv => whnf
    refine bk_t ((zn_lt (a := 12) (by omega) (by omega)).mpr (by omega)) ?_
    conv => whnf
    refine S.mk [(0,1),(0,0)] ?_
    exact hK h f (fun q y1 y2 => a q y1 (by omega))
  | succ j ih =>
    intro i h hj hi f a
    have hw := eqX_WS f hw0
    have hw1 : WS (sI h 138 (i) (hI h 125 (i))) := hw
    have inv : ∀ q, 1 ≤ q → q < i + 1 → hI (sI h 138 (i) (hI h 125 (i))) 138 (q) = hI h0 125 (q) := by
      intro q y1 y2
      have sr : ∀ k, ¬ (fun k => k = 138) k → hI h k = hI h0 k := fun k hk => f.2.2.2.2 k hk
      rcases Nat.lt_or_ge q i with w | w
      · have aa := a q y1 w
        exact by rw [hI_sI_j (by omega)]; exact aa
      · have e : q = i := by omega
        subst e
        exact by rw [hI_sI, sr 125 (by decide)]
    have next := ih (i + 1) (sI h 138 (i) (hI h 125 (i))) (by omega) (by omega) (eqX_tr (f) (eqX_sI (by decide))) inv
    rw [← nI_1 i] at next
    refine S.at 60 [100] rfl ?_
    conv => whnf
    refine bk_f (fun c => absurd ((zn_lt (a := 12) (by omega) (by omega)).mp c) (by omega)) ?_
    conv => whnf
    refine ⟨wt_116 hw, ?_⟩
    conv => whnf
    rw [wr_116_34 hw]
    refine ⟨wt_116 hw, ?_⟩
    conv => whnf
    try rw [wr_116_18 hw]
    refine ⟨inB_of (wt_125 hw) (wn_125 hw) (show i < 13 by omega) (by decide), ?_⟩
    conv => whnf
    try rw [nI_clamp (show i < 2 ^ 31 by omega)]
    refine ⟨⟨by decide, inB_of (wt_138 hw) (wn_138 hw) (show i < 13 by omega) (by decide)⟩, ?_⟩
    conv => whnf
    try rw [nI_clamp (show i < 2 ^ 31 by omega)]
    exact next
theorem l_takes1 {P : PSem} (S : SysOK P) {h0 : PH} (hw0 : WS h0) {e : Nat} (he : e ≤ 400) (h24 : hI h0 116 24 = nI e) {K : PK} (hK : ∀ h', eqX (fun k => k = 127 ∨ k = 128 ∨ k = 129) h0 h' → (∀ q, 0 ≤ q → q < e → hI h' 127 (q) = hI h0 134 (q) ∧ hI h' 128 (q) = hI h0 135 (q) ∧ hI h' 129 (q) = hI h0 136 (q)) → P.2 n_M_takes 36 [some (.ref 116), none] [] h' 0 0 K) : ∀ j i h, i + j = e → 0 ≤ i → eqX (fun k => k = 127 ∨ k = 128 ∨ k = 129) h0 h → (∀ q, 0 ≤ q → q < i → hI h 127 (q) = hI h0 134 (q) ∧ hI h 128 (q) = hI h0 135 (q) ∧ hI h 129 (q) = hI h0 136 (q)) → P.2 n_M_takes 6 [some (.ref 116), some (.int (nI i))] [] h 0 0 K := by
  intro j
  induction j with
  | zero =>
    intro i h hj hi f a
    have hw := eqX_WS f hw0
    have hj : i = e := by omega
    have g24 : hI h 116 24 = nI e := by
      rw [f.2.2.2.2 116 (by decide)]
      exact h24
    refine S.at 60 [36] rfl ?_
    conv => whnf
    refine ⟨wt_116 hw, ?_⟩
    conv => whnf
    rw [g24]
    refine bk_t ((zn_le (by omega) (by omega)).mpr (by omega)) ?_
    conv => whnf
    refine S.mk [(0,1),(0,0)] ?_
    exact hK h f (fun q y1 y2 => a q y1 (by omega))
  | succ j ih =>
    intro i h hj hi f a
    have hw := eqX_WS f hw0
    have g24 : hI h 116 24 = nI e := by
      rw [f.2.2.2.2 116 (by decide)]
      exact h24
    have hw1 : WS (sI h 127 (i) (hI h 134 (i))) := hw
    have hw2 : WS (sI (sI h 127 (i) (hI h 134 (i))) 128 (i) (hI h 135 (i))) := hw
    have hw3 : WS (sI (sI (sI h 127 (i) (hI h 134 (i))) 128 (i) (hI h 135 (i))) 129 (i) (hI h 136 (i))) := hw
    have inv : ∀ q, 0 ≤ q → q < i + 1 → hI (sI (sI (sI h 127 (i) (hI h 134 (i))) 128 (i) (hI h 135 (i))) 129 (i) (hI h 136 (i))) 127 (q) = hI h0 134 (q) ∧ hI (sI (sI (sI h 127 (i) (hI h 134 (i))) 128 (i) (hI h 135 (i))) 129 (i) (hI h 136 (i))) 128 (q) = hI h0 135 (q) ∧ hI (sI (sI (sI h 127 (i) (hI h 134 (i))) 128 (i) (hI h 135 (i))) 129 (i) (hI h 136 (i))) 129 (q) = hI h0 136 (q) := by
      intro q y1 y2
      have sr : ∀ k, ¬ (fun k => k = 127 ∨ k = 128 ∨ k = 129) k → hI h k = hI h0 k := fun k hk => f.2.2.2.2 k hk
      rcases Nat.lt_or_ge q i with w | w
      · have aa := a q y1 w
        exact ⟨by rw [hI_ne (by decide), hI_ne (by decide), hI_sI_j (by omega)]; exact aa.1, by rw [hI_ne (by decide), hI_sI_j (by omega), hI_ne (by decide)]; exact aa.2.1, by rw [hI_sI_j (by omega), hI_ne (by decide), hI_ne (by decide)]; exact aa.2.2⟩
      · have e : q = i := by omega
        subst e
        exact ⟨by rw [hI_ne (by decide), hI_ne (by decide), hI_sI, sr 134 (by decide)], by rw [hI_ne (by decide), hI_sI, sr 135 (by decide)], by rw [hI_sI, sr 136 (by decide)]⟩
    have next := ih (i + 1) (sI (sI (sI h 127 (i) (hI h 134 (i))) 128 (i) (hI h 135 (i))) 129 (i) (hI h 136 (i))) (by omega) (by omega) (eqX_tr (eqX_tr (eqX_tr (f) (eqX_sI (by decide))) (eqX_sI (by decide))) (eqX_sI (by decide))) inv
    rw [← nI_1 i] at next
    refine S.at 60 [36] rfl ?_
    conv => whnf
    refine ⟨wt_116 hw, ?_⟩
    conv => whnf
    rw [g24]
    refine bk_f (fun c => absurd ((zn_le (by omega) (by omega)).mp c) (by omega)) ?_
    conv => whnf
    refine ⟨wt_116 hw, ?_⟩
    conv => whnf
    rw [wr_116_21 hw]
    refine ⟨wt_116 hw, ?_⟩
    conv => whnf
    try rw [wr_116_30 hw]
    refine ⟨inB_of (wt_134 hw) (wn_134 hw) (show i < 410 by omega) (by decide), ?_⟩
    conv => whnf
    try rw [nI_clamp (show i < 2 ^ 31 by omega)]
    refine ⟨⟨by decide, inB_of (wt_127 hw) (wn_127 hw) (show i < 410 by omega) (by decide)⟩, ?_⟩
    conv => whnf
    try rw [nI_clamp (show i < 2 ^ 31 by omega)]
    refine ⟨wt_116 hw1, ?_⟩
    conv => whnf
    rw [wr_116_22 hw1]
    refine ⟨wt_116 hw1, ?_⟩
    conv => whnf
    try rw [wr_116_31 hw1]
    refine ⟨inB_of (wt_135 hw1) (wn_135 hw1) (show i < 410 by omega) (by decide), ?_⟩
    conv => whnf
    try rw [nI_clamp (show i < 2 ^ 31 by omega)]
    refine ⟨⟨by decide, inB_of (wt_128 hw1) (wn_128 hw1) (show i < 410 by omega) (by decide)⟩, ?_⟩
    conv => whnf
    try rw [nI_clamp (show i < 2 ^ 31 by omega)]
    try rw [hI_ne (q := 135) (k := 127) (by decide)]
    refine ⟨wt_116 hw2, ?_⟩
    conv => whnf
    rw [wr_116_23 hw2]
    refine ⟨wt_116 hw2, ?_⟩
    conv => whnf
    try rw [wr_116_32 hw2]
    refine ⟨inB_of (wt_136 hw2) (wn_136 hw2) (show i < 410 by omega) (by decide), ?_⟩
    conv => whnf
    try rw [nI_clamp (show i < 2 ^ 31 by omega)]
    refine ⟨⟨by decide, inB_of (wt_129 hw2) (wn_129 hw2) (show i < 410 by omega) (by decide)⟩, ?_⟩
    conv => whnf
    try rw [nI_clamp (show i < 2 ^ 31 by omega)]
    try rw [hI_ne (q := 136) (k := 128) (by decide), hI_ne (q := 136) (k := 127) (by decide)]
    exact next
theorem l_takes2 {P : PSem} (S : SysOK P) {h0 : PH} (hw0 : WS h0) {K : PK} (hK : ∀ h', eqX (fun k => k = 130 ∨ k = 131 ∨ k = 132) h0 h' → (∀ q, 0 ≤ q → q < 8 → hI h' 130 (q) = hI h0 137 (q) ∧ hI h' 131 (q) = hI h0 137 (8 + q) ∧ hI h' 132 (q) = hI h0 137 (16 + q)) → P.2 n_M_takes 77 [some (.ref 116), none] [] h' 0 0 K) : ∀ j i h, i + j = 8 → 0 ≤ i → eqX (fun k => k = 130 ∨ k = 131 ∨ k = 132) h0 h → (∀ q, 0 ≤ q → q < i → hI h 130 (q) = hI h0 137 (q) ∧ hI h 131 (q) = hI h0 137 (8 + q) ∧ hI h 132 (q) = hI h0 137 (16 + q)) → P.2 n_M_takes 44 [some (.ref 116), some (.int (nI i))] [] h 0 0 K := by
  intro j
  induction j with
  | zero =>
    intro i h hj hi f a
    have hw := eqX_WS f hw0
    have hj : i = 8 := by omega
    refine S.at 60 [77] rfl ?_
    conv => whnf
    refine bk_t ((zn_le (a := 8) (by omega) (by omega)).mpr (by omega)) ?_
    conv => whnf
    refine S.mk [(0,1),(0,0)] ?_
    exact hK h f (fun q y1 y2 => a q y1 (by omega))
  | succ j ih =>
    intro i h hj hi f a
    have hw := eqX_WS f hw0
    have hw1 : WS (sI h 130 (i) (hI h 137 (i))) := hw
    have hw2 : WS (sI (sI h 130 (i) (hI h 137 (i))) 131 (i) (hI h 137 (8 + i))) := hw
    have hw3 : WS (sI (sI (sI h 130 (i) (hI h 137 (i))) 131 (i) (hI h 137 (8 + i))) 132 (i) (hI h 137 (16 + i))) := hw
    have inv : ∀ q, 0 ≤ q → q < i + 1 → hI (sI (sI (sI h 130 (i) (hI h 137 (i))) 131 (i) (hI h 137 (8 + i))) 132 (i) (hI h 137 (16 + i))) 130 (q) = hI h0 137 (q) ∧ hI (sI (sI (sI h 130 (i) (hI h 137 (i))) 131 (i) (hI h 137 (8 + i))) 132 (i) (hI h 137 (16 + i))) 131 (q) = hI h0 137 (8 + q) ∧ hI (sI (sI (sI h 130 (i) (hI h 137 (i))) 131 (i) (hI h 137 (8 + i))) 132 (i) (hI h 137 (16 + i))) 132 (q) = hI h0 137 (16 + q) := by
      intro q y1 y2
      have sr : ∀ k, ¬ (fun k => k = 130 ∨ k = 131 ∨ k = 132) k → hI h k = hI h0 k := fun k hk => f.2.2.2.2 k hk
      rcases Nat.lt_or_ge q i with w | w
      · have aa := a q y1 w
        exact ⟨by rw [hI_ne (by decide), hI_ne (by decide), hI_sI_j (by omega)]; exact aa.1, by rw [hI_ne (by decide), hI_sI_j (by omega), hI_ne (by decide)]; exact aa.2.1, by rw [hI_sI_j (by omega), hI_ne (by decide), hI_ne (by decide)]; exact aa.2.2⟩
      · have e : q = i := by omega
        subst e
        exact ⟨by rw [hI_ne (by decide), hI_ne (by decide), hI_sI, sr 137 (by decide)], by rw [hI_ne (by decide), hI_sI, sr 137 (by decide)], by rw [hI_sI, sr 137 (by decide)]⟩
    have next := ih (i + 1) (sI (sI (sI h 130 (i) (hI h 137 (i))) 131 (i) (hI h 137 (8 + i))) 132 (i) (hI h 137 (16 + i))) (by omega) (by omega) (eqX_tr (eqX_tr (eqX_tr (f) (eqX_sI (by decide))) (eqX_sI (by decide))) (eqX_sI (by decide))) inv
    rw [← nI_1 i] at next
    refine S.at 60 [77] rfl ?_
    conv => whnf
    refine bk_f (fun c => absurd ((zn_le (a := 8) (by omega) (by omega)).mp c) (by omega)) ?_
    conv => whnf
    refine ⟨wt_116 hw, ?_⟩
    conv => whnf
    rw [wr_116_25 hw]
    refine ⟨wt_116 hw, ?_⟩
    conv => whnf
    try rw [wr_116_33 hw]
    refine ⟨inB_of (wt_137 hw) (wn_137 hw) (show i < 26 by omega) (by decide), ?_⟩
    conv => whnf
    try rw [nI_clamp (show i < 2 ^ 31 by omega)]
    refine ⟨⟨by decide, inB_of (wt_130 hw) (wn_130 hw) (show i < 9 by omega) (by decide)⟩, ?_⟩
    conv => whnf
    try rw [nI_clamp (show i < 2 ^ 31 by omega)]
    refine ⟨wt_116 hw1, ?_⟩
    conv => whnf
    rw [wr_116_26 hw1]
    refine ⟨wt_116 hw1, ?_⟩
    conv => whnf
    try rw [wr_116_33 hw1]
    try rw [show (fun x y : Int32 => x + y) 8 (nI i) = nI (8 + i) from (zn_plus 8 i).symm]
    refine ⟨inB_of (wt_137 hw1) (wn_137 hw1) (show 8 + i < 26 by omega) (by decide), ?_⟩
    conv => whnf
    try rw [nI_clamp (show 8 + i < 2 ^ 31 by omega)]
    refine ⟨⟨by decide, inB_of (wt_131 hw1) (wn_131 hw1) (show i < 8 by omega) (by decide)⟩, ?_⟩
    conv => whnf
    try rw [nI_clamp (show i < 2 ^ 31 by omega)]
    try rw [hI_ne (q := 137) (k := 130) (by decide)]
    refine ⟨wt_116 hw2, ?_⟩
    conv => whnf
    rw [wr_116_27 hw2]
    refine ⟨wt_116 hw2, ?_⟩
    conv => whnf
    try rw [wr_116_33 hw2]
    try rw [show (fun x y : Int32 => x + y) 16 (nI i) = nI (16 + i) from (zn_plus 16 i).symm]
    refine ⟨inB_of (wt_137 hw2) (wn_137 hw2) (show 16 + i < 26 by omega) (by decide), ?_⟩
    conv => whnf
    try rw [nI_clamp (show 16 + i < 2 ^ 31 by omega)]
    refine ⟨⟨by decide, inB_of (wt_132 hw2) (wn_132 hw2) (show i < 8 by omega) (by decide)⟩, ?_⟩
    conv => whnf
    try rw [nI_clamp (show i < 2 ^ 31 by omega)]
    try rw [hI_ne (q := 137) (k := 131) (by decide), hI_ne (q := 137) (k := 130) (by decide)]
    exact next
theorem l_takes3 {P : PSem} (S : SysOK P) {h0 : PH} (hw0 : WS h0) {K : PK} (hK : ∀ h', eqX (fun k => k = 125) h0 h' → (∀ q, 1 ≤ q → q < 13 → hI h' 125 (q) = hI h0 138 (q)) → P.2 n_M_takes 100 [some (.ref 116), none] [] h' 0 0 K) : ∀ j i h, i + j = 13 → 1 ≤ i → eqX (fun k => k = 125) h0 h → (∀ q, 1 ≤ q → q < i → hI h 125 (q) = hI h0 138 (q)) → P.2 n_M_takes 87 [some (.ref 116), some (.int (nI i))] [] h 0 0 K := by
  intro j
  induction j with
  | zero =>
    intro i h hj hi f a
    have hw := eqX_WS f hw0
    have hj : i = 13 := by omega
    refine S.at 60 [100] rfl ?_
    conv => whnf
    refine bk_t ((zn_lt (a := 12) (by omega) (by omega)).mpr (by omega)) ?_
    conv => whnf
    refine S.mk [(0,1),(0,0)] ?_
    exact hK h f (fun q y1 y2 => a q y1 (by omega))
  | succ j ih =>
    intro i h hj hi f a
    have hw := eqX_WS f hw0
    have hw1 : WS (sI h 125 (i) (hI h 138 (i))) := hw
    have inv : ∀ q, 1 ≤ q → q < i + 1 → hI (sI h 125 (i) (hI h 138 (i))) 125 (q) = hI h0 138 (q) := by
      intro q y1 y2
      have sr : ∀ k, ¬ (fun k => k = 125) k → hI h k = hI h0 k := fun k hk => f.2.2.2.2 k hk
      rcases Nat.lt_or_ge q i with w | w
      · have aa := a q y1 w
        exact by rw [hI_sI_j (by omega)]; exact aa
      · have e : q = i := by omega
        subst e
        exact by rw [hI_sI, sr 138 (by decide)]
    have next := ih (i + 1) (sI h 125 (i) (hI h 138 (i))) (by omega) (by omega) (eqX_tr (f) (eqX_sI (by decide))) inv
    rw [← nI_1 i] at next
    refine S.at 60 [100] rfl ?_
    conv => whnf
    refine bk_f (fun c => absurd ((zn_lt (a := 12) (by omega) (by omega)).mp c) (by omega)) ?_
    conv => whnf
    refine ⟨wt_116 hw, ?_⟩
    conv => whnf
    rw [wr_116_18 hw]
    refine ⟨wt_116 hw, ?_⟩
    conv => whnf
    try rw [wr_116_34 hw]
    refine ⟨inB_of (wt_138 hw) (wn_138 hw) (show i < 13 by omega) (by decide), ?_⟩
    conv => whnf
    try rw [nI_clamp (show i < 2 ^ 31 by omega)]
    refine ⟨⟨by decide, inB_of (wt_125 hw) (wn_125 hw) (show i < 13 by omega) (by decide)⟩, ?_⟩
    conv => whnf
    try rw [nI_clamp (show i < 2 ^ 31 by omega)]
    exact next
theorem l_read3 {P : PSem} (S : SysOK P) {h0 : PH} (hw0 : WS h0) {K : PK} (hK : ∀ h', eqX (fun k => k = 125) h0 h' → (∀ q, 1 ≤ q → q < 13 → hI h' 125 (q) = hI h0 126 (q)) → P.2 n_M_read 79 [some (.ref 116), none] [] h' 0 0 K) : ∀ j i h, i + j = 13 → 1 ≤ i → eqX (fun k => k = 125) h0 h → (∀ q, 1 ≤ q → q < i → hI h 125 (q) = hI h0 126 (q)) → P.2 n_M_read 66 [some (.ref 116), some (.int (nI i))] [] h 0 0 K := by
  intro j
  induction j with
  | zero =>
    intro i h hj hi f a
    have hw := eqX_WS f hw0
    have hj : i = 13 := by omega
    refine S.at 60 [79] rfl ?_
    conv => whnf
    refine bk_t ((zn_lt (a := 12) (by omega) (by omega)).mpr (by omega)) ?_
    conv => whnf
    refine S.mk [(0,1),(0,0)] ?_
    exact hK h f (fun q y1 y2 => a q y1 (by omega))
  | succ j ih =>
    intro i h hj hi f a
    have hw := eqX_WS f hw0
    have hw1 : WS (sI h 125 (i) (hI h 126 (i))) := hw
    have inv : ∀ q, 1 ≤ q → q < i + 1 → hI (sI h 125 (i) (hI h 126 (i))) 125 (q) = hI h0 126 (q) := by
      intro q y1 y2
      have sr : ∀ k, ¬ (fun k => k = 125) k → hI h k = hI h0 k := fun k hk => f.2.2.2.2 k hk
      rcases Nat.lt_or_ge q i with w | w
      · have aa := a q y1 w
        exact by rw [hI_sI_j (by omega)]; exact aa
      · have e : q = i := by omega
        subst e
        exact by rw [hI_sI, sr 126 (by decide)]
    have next := ih (i + 1) (sI h 125 (i) (hI h 126 (i))) (by omega) (by omega) (eqX_tr (f) (eqX_sI (by decide))) inv
    rw [← nI_1 i] at next
    refine S.at 60 [79] rfl ?_
    conv => whnf
    refine bk_f (fun c => absurd ((zn_lt (a := 12) (by omega) (by omega)).mp c) (by omega)) ?_
    conv => whnf
    refine ⟨wt_116 hw, ?_⟩
    conv => whnf
    rw [wr_116_18 hw]
    refine ⟨wt_116 hw, ?_⟩
    conv => whnf
    try rw [wr_116_19 hw]
    refine ⟨inB_of (wt_126 hw) (wn_126 hw) (show i < 13 by omega) (by decide), ?_⟩
    conv => whnf
    try rw [nI_clamp (show i < 2 ^ 31 by omega)]
    refine ⟨⟨by decide, inB_of (wt_125 hw) (wn_125 hw) (show i < 13 by omega) (by decide)⟩, ?_⟩
    conv => whnf
    try rw [nI_clamp (show i < 2 ^ 31 by omega)]
    exact next
