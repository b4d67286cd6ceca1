/-! READ: the reference's puts and takes -/
def PA (k : Nat) : Prop := k = 116 ∨ (134 ≤ k ∧ k ≤ 138)
def PJ (j : Nat) : Prop := j = 35
def SVD (h h' : PH) (e : Nat) : Prop := hI h' 116 35 = nI e ∧ (∀ q, q < e → hI h' 134 q = hI h 127 q ∧ hI h' 135 q = hI h 128 q ∧ hI h' 136 q = hI h 129 q) ∧ hI h' 137 25 = hI h 116 29 ∧ (∀ q, q < 8 → hI h' 137 q = hI h 130 q ∧ hI h' 137 (8 + q) = hI h 131 q ∧ hI h' 137 (16 + q) = hI h 132 q) ∧ hI h' 137 24 = hI h 130 8 ∧ ∀ q, 1 ≤ q → q < 13 → hI h' 138 q = hI h 125 q
theorem eqX_MNX {A J B : Nat → Prop} {h h' : PH} (e : eqX A h h') (ha : ∀ k, A k → B k) (hn : ¬ A 116) : MNX J B h h' := ⟨eqY_mono ha e.y, fun j _ => by rw [e.2.2.2.2 116 hn]⟩
theorem c_M_puts {P : PSem} (S : SysOK P) {h : PH} (hw : WS h) {e : Nat} (he : e ≤ 400) (h24 : hI h 116 24 = nI e) {K : PK} (hK : ∀ h', MNX PJ PA h h' → SVD h h' e → K .null h') : P.1 n_M_puts [.ref 116] h K := by
  refine S.2.1 _ 2 _ _ _ rfl rfl ?_
  refine S.at 10 [2] rfl ?_
  conv => whnf
  refine l_puts1 S hw he h24 ?_ e 0 h (Nat.zero_add e) (Nat.le_refl 0) (eqX_rf _ _) (fun q _ y => absurd y (Nat.not_lt_zero q))
  intro h1 f1 d1
  have hw1 := eqX_WS f1 hw
  have g24 : hI h1 116 24 = nI e := by
    rw [f1.2.2.2.2 116 (by decide)]
    exact h24
  refine S.at 60 [44] rfl ?_
  conv => whnf
  refine ⟨wt_116 hw1, ?_⟩
  conv => whnf
  rw [g24]
  refine ⟨wt_116 hw1, ?_⟩
  conv => whnf
  have hw2 : WS (sI h1 116 35 (nI e)) := hw1
  refine ⟨wt_116 hw2, ?_⟩
  conv => whnf
  rw [wr_116_33 hw2]
  refine ⟨wt_116 hw2, ?_⟩
  conv => whnf
  rw [hI_sI_j (by decide)]
  refine ⟨⟨by decide, inB_of (j := 25) (wt_137 hw2) (wn_137 hw2) (by decide) (by decide)⟩, ?_⟩
  conv => whnf
  have hw3 : WS (sI (sI h1 116 35 (nI e)) 137 25 (hI h1 116 29)) := hw1
  refine l_puts2 (h0 := sI (sI h1 116 35 (nI e)) 137 25 (hI h1 116 29)) S hw3 ?_ 8 0 _ rfl (Nat.le_refl 0) (eqX_rf _ _) (fun q _ y => absurd y (Nat.not_lt_zero q)) rfl
  intro h2 f2 d2 k2
  have hw4 := eqX_WS f2 hw3
  refine S.at 60 [87] rfl ?_
  conv => whnf
  refine ⟨wt_116 hw4, ?_⟩
  conv => whnf
  rw [wr_116_33 hw4]
  refine ⟨wt_116 hw4, ?_⟩
  conv => whnf
  try rw [wr_116_25 hw4]
  refine ⟨inB_of (j := 8) (wt_130 hw4) (wn_130 hw4) (by decide) (by decide), ?_⟩
  conv => whnf
  refine ⟨⟨by decide, inB_of (j := 24) (wt_137 hw4) (wn_137 hw4) (by decide) (by decide)⟩, ?_⟩
  conv => whnf
  have hw5 : WS (sI h2 137 24 (hI h2 130 8)) := hw4
  refine l_puts3 (h0 := sI h2 137 24 (hI h2 130 8)) S hw5 ?_ 12 1 _ rfl (Nat.le_refl 1) (eqX_rf _ _) (fun q y1 y2 => absurd y1 (by omega))
  intro h3 f3 d3
  have src : ∀ k, k ≠ 116 → k < 134 → hI h2 k = hI h k := by
    intro k k1 k2
    rw [f2.2.2.2.2 k (show ¬ (k = 137) by omega), hI_sI_ne (by omega), hI_sI_ne k1, f1.2.2.2.2 k (show ¬ (k = 134 ∨ k = 135 ∨ k = 136) by omega)]
  have f12 : MNX PJ PA h h3 := MNX_tr (eqX_MNX f1 (fun k hk => by unfold PA; omega) (by decide)) (MNX_tr (MNX_J (by unfold PA; omega) rfl) (MNX_tr (MNX_A (by unfold PA; omega) (by decide)) (MNX_tr (eqX_MNX f2 (fun k hk => by unfold PA; omega) (by decide)) (MNX_tr (MNX_A (by unfold PA; omega) (by decide)) (eqX_MNX f3 (fun k hk => by unfold PA; omega) (by decide))))))
  have fin := hK h3 f12 ⟨?_, fun q hq => ?_, ?_, fun q hq => ?_, ?_, fun q y1 y2 => ?_⟩
  · refine S.at 10 [] rfl ?_
    conv => whnf
    exact fin
  · rw [f3.2.2.2.2 116 (by decide), hI_ne (by decide), f2.2.2.2.2 116 (by decide), hI_ne (by decide), hI_sI]
  · rw [f3.2.2.2.2 134 (by decide), f3.2.2.2.2 135 (by decide), f3.2.2.2.2 136 (by decide), hI_ne (by decide), hI_ne (by decide), hI_ne (by decide), f2.2.2.2.2 134 (by decide), f2.2.2.2.2 135 (by decide), f2.2.2.2.2 136 (by decide), hI_ne (by decide), hI_ne (by decide), hI_ne (by decide), hI_ne (by decide), hI_ne (by decide), hI_ne (by decide)]
    exact d1 q (Nat.zero_le q) hq
  · rw [f3.2.2.2.2 137 (by decide), hI_sI_j (by decide)]
    rw [k2, hI_sI, f1.2.2.2.2 116 (by decide)]
  · rw [f3.2.2.2.2 137 (by decide), hI_sI_j (by omega), hI_sI_j (by omega), hI_sI_j (by omega)]
    have := d2 q (Nat.zero_le q) hq
    rw [hI_ne (by decide), hI_ne (by decide), hI_ne (by decide), hI_ne (by decide), hI_ne (by decide), hI_ne (by decide)] at this
    rw [f1.2.2.2.2 130 (by decide), f1.2.2.2.2 131 (by decide), f1.2.2.2.2 132 (by decide)] at this
    exact this
  · rw [f3.2.2.2.2 137 (by decide), hI_sI, src 130 (by decide) (by decide)]
  · rw [d3 q y1 y2, hI_ne (by decide), src 125 (by decide) (by decide)]
/-- what is worked with is as it was -/
def MEQ (h h' : PH) (e : Nat) : Prop := hI h' 116 24 = nI e ∧ (∀ q, q < e → hI h' 127 q = hI h 127 q ∧ hI h' 128 q = hI h 128 q ∧ hI h' 129 q = hI h 129 q) ∧ hI h' 116 29 = hI h 116 29 ∧ (∀ q, q < 8 → hI h' 130 q = hI h 130 q ∧ hI h' 131 q = hI h 131 q ∧ hI h' 132 q = hI h 132 q) ∧ hI h' 130 8 = hI h 130 8 ∧ ∀ q, 1 ≤ q → q < 13 → hI h' 125 q = hI h 125 q
def QA (k : Nat) : Prop := k = 116 ∨ k = 125 ∨ (127 ≤ k ∧ k ≤ 132) ∨ k = 144
def QJ (j : Nat) : Prop := j = 24 ∨ j = 29
theorem c_M_takes {P : PSem} (S : SysOK P) {hh h : PH} (hw : WS h) {e : Nat} (he : e ≤ 400) (sv : SVD hh h e) {u : Nat → Nat} (hu : MDS u) (nw : NOW hh u) {K : PK} (hK : ∀ h', MNX QJ QA h h' → MEQ hh h' e → (∀ n d, 1 ≤ n → n ≤ 12 → 1 ≤ d → d ∣ n → hI h' 144 (13 * d + n) = nI (imF u d n)) → K .null h') : P.1 n_M_takes [.ref 116] h K := by
  obtain ⟨v1, v2, v3, v4, v5, v6⟩ := sv
  refine S.2.1 _ 2 _ _ _ rfl rfl ?_
  refine S.at 20 [6] rfl ?_
  conv => whnf
  refine ⟨wt_116 hw, ?_⟩
  conv => whnf
  rw [v1]
  refine ⟨wt_116 hw, ?_⟩
  conv => whnf
  have hw0 : WS (sI h 116 24 (nI e)) := hw
  refine l_takes1 (h0 := sI h 116 24 (nI e)) S hw0 he hI_sI ?_ e 0 _ (Nat.zero_add e) (Nat.le_refl 0) (eqX_rf _ _) (fun q _ y => absurd y (Nat.not_lt_zero q))
  intro h1 f1 d1
  have hw1 := eqX_WS f1 hw0
  have g25 : hI h1 137 25 = hI hh 116 29 := by
    rw [f1.2.2.2.2 137 (by decide), hI_ne (by decide)]
    exact v3
  refine S.at 60 [44] rfl ?_
  conv => whnf
  refine ⟨wt_116 hw1, ?_⟩
  conv => whnf
  rw [wr_116_33 hw1]
  refine ⟨inB_of (j := 25) (wt_137 hw1) (wn_137 hw1) (by decide) (by decide), ?_⟩
  conv => whnf
  rw [show hI h1 137 (Int32.toNatClampNeg 25) = hI hh 116 29 from g25]
  refine ⟨wt_116 hw1, ?_⟩
  conv => whnf
  have hw2 : WS (sI h1 116 29 (hI hh 116 29)) := hw1
  refine l_takes2 (h0 := sI h1 116 29 (hI hh 116 29)) S hw2 ?_ 8 0 _ rfl (Nat.le_refl 0) (eqX_rf _ _) (fun q _ y => absurd y (Nat.not_lt_zero q))
  intro h2 f2 d2
  have hw3 := eqX_WS f2 hw2
  have up : ∀ k, 134 ≤ k → hI h2 k = hI h k := by
    intro k hk
    rw [f2.2.2.2.2 k (show ¬ (k = 130 ∨ k = 131 ∨ k = 132) by omega), hI_sI_ne (by omega), f1.2.2.2.2 k (show ¬ (k = 127 ∨ k = 128 ∨ k = 129) by omega), hI_sI_ne (by omega)]
  have g24 : hI h2 137 24 = hI hh 130 8 := by
    rw [up 137 (by decide)]
    exact v5
  refine S.at 60 [87] rfl ?_
  conv => whnf
  refine ⟨wt_116 hw3, ?_⟩
  conv => whnf
  rw [wr_116_25 hw3]
  refine ⟨wt_116 hw3, ?_⟩
  conv => whnf
  try rw [wr_116_33 hw3]
  refine ⟨inB_of (j := 24) (wt_137 hw3) (wn_137 hw3) (by decide) (by decide), ?_⟩
  conv => whnf
  rw [show hI h2 137 (Int32.toNatClampNeg 24) = hI hh 130 8 from g24]
  refine ⟨⟨by decide, inB_of (j := 8) (wt_130 hw3) (wn_130 hw3) (by decide) (by decide)⟩, ?_⟩
  conv => whnf
  have hw4 : WS (sI h2 130 8 (hI hh 130 8)) := hw3
  refine l_takes3 (h0 := sI h2 130 8 (hI hh 130 8)) S hw4 ?_ 12 1 _ rfl (Nat.le_refl 1) (eqX_rf _ _) (fun q y1 y2 => absurd y1 (by omega))
  intro h3 f3 d3
  have hw5 := eqX_WS f3 hw4
  have n125 : ∀ q, 1 ≤ q → q < 13 → hI h3 125 q = hI hh 125 q := fun q y1 y2 => by
    rw [d3 q y1 y2, hI_ne (by decide), up 138 (by decide)]
    exact v6 q y1 y2
  have nw3 : NOW h3 u := fun q y1 y2 => by
    rw [n125 q y1 (by omega)]
    exact nw q y1 y2
  refine S.at 10 [] rfl ?_
  conv => whnf
  refine ⟨wt_116 hw5, ?_⟩
  refine c_M_laysTower S hw5 hu (img_ex hu) nw3 ?_
  intro h4 f4 x4
  have f4' : ∀ k, k ≠ 144 → hI h4 k = hI h3 k := fun k hk => f4.2.2.2.2 k hk
  have fr : MNX QJ QA h h4 := MNX_tr (MNX_J (by unfold QA; omega) (Or.inl rfl)) (MNX_tr (eqX_MNX f1 (fun k hk => by unfold QA; omega) (by decide)) (MNX_tr (MNX_J (by unfold QA; omega) (Or.inr rfl)) (MNX_tr (eqX_MNX f2 (fun k hk => by unfold QA; omega) (by decide)) (MNX_tr (MNX_A (by unfold QA; omega) (by decide)) (MNX_tr (eqX_MNX f3 (fun k hk => by unfold QA; omega) (by decide)) (eqX_MNX f4 (fun k hk => by have hk : k = 144 := hk; unfold QA; omega) (by unfold m144; decide)))))))
  have fin := hK h4 fr ⟨?_, fun q hq => ?_, ?_, fun q hq => ?_, ?_, fun q y1 y2 => ?_⟩ x4
  · conv => whnf
    exact fin
  · rw [f4' 116 (by decide), f3.2.2.2.2 116 (by decide), hI_ne (by decide), f2.2.2.2.2 116 (by decide), hI_sI_j (by decide), f1.2.2.2.2 116 (by decide), hI_sI]
  · have a1 : ∀ k, 127 ≤ k → k ≤ 129 → hI h4 k = hI h1 k := fun k k1 k2 => by
      rw [f4' k (by omega), f3.2.2.2.2 k (show ¬ (k = 125) by omega), hI_sI_ne (by omega), f2.2.2.2.2 k (show ¬ (k = 130 ∨ k = 131 ∨ k = 132) by omega), hI_sI_ne (by omega)]
    have := d1 q (Nat.zero_le q) hq
    rw [hI_ne (by decide), hI_ne (by decide), hI_ne (by decide)] at this
    rw [a1 127 (by decide) (by decide), a1 128 (by decide) (by decide), a1 129 (by decide) (by decide), this.1, this.2.1, this.2.2]
    exact v2 q hq
  · rw [f4' 116 (by decide), f3.2.2.2.2 116 (by decide), hI_ne (by decide), f2.2.2.2.2 116 (by decide), hI_sI]
  · have a1 : ∀ k, 130 ≤ k → k ≤ 132 → hI h4 k q = hI h2 k q := fun k k1 k2 => by
      rw [f4' k (by omega), f3.2.2.2.2 k (show ¬ (k = 125) by omega)]
      by_cases y : k = 130
      · rw [y, hI_sI_j (by omega)]
      · rw [hI_ne y]
    have := d2 q (Nat.zero_le q) hq
    rw [hI_ne (by decide), hI_ne (by decide), hI_ne (by decide), f1.2.2.2.2 137 (by decide), hI_ne (by decide), hI_ne (by decide), hI_ne (by decide)] at this
    rw [a1 130 (by decide) (by decide), a1 131 (by decide) (by decide), a1 132 (by decide) (by decide), this.1, this.2.1, this.2.2]
    exact v4 q hq
  · rw [f4' 130 (by decide), f3.2.2.2.2 130 (by decide), hI_sI]
  · rw [f4' 125 (by decide)]
    exact n125 q y1 y2
