/-! CHANGE: the reference's -/
def RG (h : PH) (e : Nat) : (Nat → Nat) → List (Nat × Nat) → Prop
  | _, [] => True
  | u, x :: H => (∀ k, 1 ≤ k → k ≤ 12 → hI h 141 (13 * ((e + H.length) % 30) + k) = nI (updM u x.1 x.2 k)) ∧ RG h e (updM u x.1 x.2) H
def MR (h : PH) (u : Nat → Nat) (H : List (Nat × Nat)) : Prop := ∃ e, e < 30 ∧ hI h 116 40 = nI e ∧ hI h 116 41 = nI H.length ∧ H.length ≤ 30 ∧ RG h e u H
def ML (h : PH) (g : Nat → Option (Nat → Nat)) : Prop := ∀ q, q < 3 → (g q = none → hI h 143 q = 0) ∧ (∀ v, g q = some v → hI h 143 q = 1 ∧ ∀ k, 1 ≤ k → k ≤ 12 → hI h 142 (13 * q + k) = nI (v k))
theorem RG_eq {h h' : PH} {e : Nat} (hh : hI h' 141 = hI h 141) : ∀ H u, RG h e u H → RG h' e u H := by
  intro H
  induction H with
  | nil => exact fun u r => trivial
  | cons x H ih =>
    intro u r
    exact ⟨fun k k1 k2 => by rw [hh]; exact r.1 k k1 k2, ih _ r.2⟩
theorem MR_eq {h h' : PH} {u : Nat → Nat} {H : List (Nat × Nat)} (h1 : hI h' 116 40 = hI h 116 40) (h2 : hI h' 116 41 = hI h 116 41) (h3 : hI h' 141 = hI h 141) (m : MR h u H) : MR h' u H := by
  obtain ⟨e, e1, e2, e3, e4, e5⟩ := m
  exact ⟨e, e1, h1.trans e2, h2.trans e3, e4, RG_eq h3 H u e5⟩
/-- other places of the ring -/
theorem RG_oth {h h' : PH} {e b : Nat} : ∀ H u, H.length ≤ b → b < 30 → (∀ q, (∀ k, 1 ≤ k → k ≤ 12 → q ≠ 13 * ((e + b) % 30) + k) → hI h' 141 q = hI h 141 q) → RG h e u H → RG h' e u H := by
  intro H
  induction H with
  | nil => exact fun u _ _ _ r => trivial
  | cons x H ih =>
    intro u hl hb hh r
    have hl : H.length + 1 ≤ b := hl
    refine ⟨fun k k1 k2 => ?_, ih _ (by omega) hb hh r.2⟩
    rw [hh _ (fun j j1 j2 => ?_)]
    · exact r.1 k k1 k2
    · have : (e + H.length) % 30 ≠ (e + b) % 30 := by omega
      omega
theorem RG_take {h : PH} {e : Nat} : ∀ m H u, H.length = m + 1 → m < 30 → RG h e u H → RG h ((e + 1) % 30) u (H.take m) := by
  intro m
  induction m with
  | zero => exact fun H u _ _ r => trivial
  | succ m ih =>
    intro H u hl hm r
    cases H with
    | nil => exact absurd hl (by simp)
    | cons x H =>
      have hl : H.length + 1 = m + 1 + 1 := hl
      have tl : (H.take m).length = m := by rw [List.length_take]; omega
      refine ⟨fun k k1 k2 => ?_, ih H _ (by omega) (by omega) r.2⟩
      have := r.1 k k1 k2
      rw [tl, show ((e + 1) % 30 + m) % 30 = (e + H.length) % 30 by omega]
      exact this
def LA2 (k : Nat) : Prop := k = 125 ∨ k = 132 ∨ k = 140 ∨ k = 144
/-- the tower laid anew for v, the text worked out -/
theorem c_M_again {P : PSem} (S : SysOK P) {h0 h : PH} {u tx : Nat → Nat} {L : Nat} {l0 : Nat → Int64} {f0 : Nat → Int32} (r0 : RST h0 u tx L l0 f0) {v : Nat → Nat} (hv : MDS v) (f : eqY LA2 h0 h) (nw : NOW h v) {K : PK}
    (hK : ∀ h1, eqY LA2 h0 h1 → WS h1 → (∀ K' : PK, (∀ h', eqY LA2 h0 h' → ((mst tx L l0 v (pT (tkk tx L))).1 = none → RST h' v tx L l0 f0 → NOW h' v → K' (.int (-1)) h') ∧ (∀ p, p ≤ 2000 → (mst tx L l0 v (pT (tkk tx L))).1 = some p → NOW h' v → K' (.int (nI p)) h')) → P.1 n_M_works [.ref 116] h1 K') → K .null h1) : P.1 n_M_laysTower [.ref 116] h K := by
  obtain ⟨⟨m1, m2, m3, m4⟩, ky, tt, rv, en, vals⟩ := r0
  have hw := eqY_WS f m1
  refine c_M_laysTower S hw hv (img_ex hv) nw ?_
  intro h1 f1 x1
  have ff : eqY LA2 h0 h1 := eqY_tr f (eqY_mono (fun k hk => Or.inr (Or.inr (Or.inr hk))) f1.y)
  have hw1 := eqY_WS ff m1
  refine hK h1 ff hw1 ?_
  intro K' hK'
  have nw1 : NOW h1 v := fun q y1 y2 => by
    rw [f1.2.2.2.2 125 (by unfold m144; decide)]
    exact nw q y1 y2
  have mx : MNX (fun _ => False) LA2 h0 h1 := ⟨ff, fun j _ => by rw [(ff.2.2.2 116 (by unfold LA2; omega)).1]⟩
  have rv1 : REV h1 tx L l0 := REV_fr mx id id (fun k k1 k2 => by unfold LA2; omega) rv
  refine c_M_works S tt hv hw1 rv1 nw1 x1 ?_
  intro h2 f2
  have ff2 : eqY LA2 h0 h2 := eqY_tr ff (eqY_mono (fun k hk => by unfold LA2; omega) f2.y)
  have mx2 : MNX (fun _ => False) LA2 h0 h2 := ⟨ff2, fun j _ => by rw [(ff2.2.2.2 116 (by unfold LA2; omega)).1]⟩
  have nw2 : NOW h2 v := fun q y1 y2 => by
    rw [f2.2.2.2.2 125 (by decide)]
    exact nw1 q y1 y2
  obtain ⟨k1, k2⟩ := hK' h2 ff2
  refine ⟨fun en' ev => k1 en' ⟨⟨eqY_WS ff2 m1, nw2, fun q y1 y2 => ?_, fun n d y1 y2 y3 y4 => ?_⟩, ?_, tt, REV_fr mx2 id id (fun k k1 k2 => by unfold LA2; omega) rv, en', ev⟩ nw2, fun p pb ep => k2 p pb ep nw2⟩
  · rw [(ff2.2.2.2 124 (by unfold LA2; omega)).1]
    exact m3 q y1 y2
  · rw [f2.2.2.2.2 144 (by decide)]
    exact x1 n d y1 y2 y3 y4
  · unfold MKY
    rw [(ff2.2.2.2 123 (by unfold LA2; omega)).2]
    exact ky
theorem l_M_lays2 {P : PSem} (S : SysOK P) {h0 : PH} (hw0 : WS h0) {R at_ N : Nat} (hT : hT h0 R = 20) (hN : hN h0 R = N) (hNb : N < 1000) (hat : at_ + 12 < N) (hR : R ≠ 125) {v : Nat → Nat} (hv : ∀ k, 1 ≤ k → k ≤ 12 → hI h0 R (at_ + k) = nI (v k)) {K : PK} (hK : ∀ h', eqX (fun k => k = 125) h0 h' → NOW h' v → P.2 n_M_lays2 16 [some (.ref 116), some (.ref R), some (.int (nI at_)), none] [] h' 0 0 K) : ∀ j i h, i + j = 13 → 1 ≤ i → eqX (fun k => k = 125) h0 h → (∀ q, 1 ≤ q → q < i → hI h 125 q = nI (v q)) → P.2 n_M_lays2 2 [some (.ref 116), some (.ref R), some (.int (nI at_)), some (.int (nI i))] [] h 0 0 K := by
  intro j
  induction j with
  | zero =>
    intro i h hj hi f a
    have hj : i = 13 := by omega
    refine S.at 40 [16] rfl ?_
    conv => whnf
    refine bk_t ((zn_lt (a := 12) (by omega) (by omega)).mpr (by omega)) ?_
    conv => whnf
    refine S.mk [(0,1),(0,1),(0,1),(0,0)] ?_
    exact hK h f (fun q y1 y2 => a q y1 (by omega))
  | succ j ih =>
    intro i h hj hi f a
    have hw := eqX_WS f hw0
    have rv : hI h R (at_ + i) = nI (v i) := by
      rw [f.2.2.2.2 R hR]
      exact hv i hi (by omega)
    have next := ih (i + 1) (sI h 125 i (nI (v i))) (by omega) (by omega) (eqX_tr f (eqX_sI rfl)) (fun q y1 y2 => by
      rcases Nat.lt_or_ge q i with w | w
      · rw [hI_sI_j (by omega)]
        exact a q y1 w
      · have : q = i := by omega
        rw [this, hI_sI])
    rw [← nI_1 i] at next
    refine S.at 40 [16] rfl ?_
    conv => whnf
    refine bk_f (fun c => absurd ((zn_lt (a := 12) (by omega) (by omega)).mp c) (by omega)) ?_
    conv => whnf
    refine ⟨wt_116 hw, ?_⟩
    conv => whnf
    rw [wr_116_18 hw]
    rw [show (fun x y : Int32 => x + y) (nI at_) (nI i) = nI (at_ + i) from (zn_plus at_ i).symm]
    refine ⟨inB_of (by rw [eqX_T f]; exact hT) (by rw [eqX_N f]; exact hN) (show at_ + i < N by omega) (by omega), ?_⟩
    conv => whnf
    rw [nI_clamp (show at_ + i < 2 ^ 31 by omega), rv]
    refine ⟨⟨by decide, inB_of (wt_125 hw) (wn_125 hw) (show i < 13 by omega) (by decide)⟩, ?_⟩
    conv => whnf
    rw [nI_clamp (by omega)]
    exact next
theorem c_M_lays2 {P : PSem} (S : SysOK P) {h : PH} {u tx : Nat → Nat} {L : Nat} {l0 : Nat → Int64} {f0 : Nat → Int32} (r0 : RST h u tx L l0 f0) {R at_ N : Nat} (hT : hT h R = 20) (hN : hN h R = N) (hNb : N < 1000) (hat : at_ + 12 < N) (hR : R ≠ 125) {v : Nat → Nat} (gd : GOOD tx L l0 v) (hv : ∀ k, 1 ≤ k → k ≤ 12 → hI h R (at_ + k) = nI (v k)) {K : PK} (hK : ∀ h', eqY LA2 h h' → RST h' v tx L l0 f0 → K .null h') : P.1 n_M_lays2 [.ref 116, .ref R, .int (nI at_)] h K := by
  have hw := r0.1.1
  refine S.2.1 _ 4 _ _ _ rfl rfl ?_
  refine S.at 10 [2] rfl ?_
  conv => whnf
  refine l_M_lays2 S hw hT hN hNb hat hR hv ?_ 12 1 h rfl (Nat.le_refl 1) (eqX_rf _ _) (fun q y1 y2 => absurd y1 (by omega))
  intro h1 f1 nw1
  have hw1 := eqX_WS f1 hw
  refine S.at 20 [] rfl ?_
  conv => whnf
  refine ⟨wt_116 hw1, ?_⟩
  refine c_M_again S r0 gd.1 (eqY_mono (fun k hk => Or.inl hk) f1.y) nw1 ?_
  intro h2 f2 hw2 wk
  conv => whnf
  refine ⟨wt_116 hw2, ?_⟩
  refine wk _ ?_
  intro h3 f3
  refine ⟨fun _ r3 _ => ?_, fun p _ ep => ?_⟩
  · conv => whnf
    exact hK h3 f3 r3
  · rw [gd.2] at ep
    exact absurd ep (by simp)
theorem c_M_undo {P : PSem} (S : SysOK P) {h : PH} {u tx : Nat → Nat} {L : Nat} {l0 : Nat → Int64} {f0 : Nat → Int32} (r0 : RST h u tx L l0 f0) {H : List (Nat × Nat)} (m : MR h u H) {K : PK}
    (hN : H = [] → K (.int 0) h)
    (hY : ∀ x H', H = x :: H' → GOOD tx L l0 (updM u x.1 x.2) ∧ ∀ h', RST h' (updM u x.1 x.2) tx L l0 f0 → MR h' (updM u x.1 x.2) H' → eqY (fun k => k = 116 ∨ LA2 k) h h' → (∀ j, j ≠ 41 → hI h' 116 j = hI h 116 j) → K (.int 1) h') : P.1 n_M_undo [.ref 116] h K := by
  have hw := r0.1.1
  obtain ⟨e, e1, e2, e3, e4, e5⟩ := m
  cases H with
  | nil =>
    have e3 : hI h 116 41 = nI 0 := e3
    refine S.go 60 rfl rfl rfl ?_
    conv => whnf
    refine ⟨wt_116 hw, ?_⟩
    conv => whnf
    rw [e3]
    refine bk_nf ((zn_eq (a := 0) (b := 0) (by omega) (by omega)).mpr (by omega)) ?_
    conv => whnf
    exact ⟨Or.inl rfl, hN rfl⟩
  | cons x H =>
    have e3 : hI h 116 41 = nI (H.length + 1) := e3
    have e4 : H.length + 1 ≤ 30 := e4
    obtain ⟨gd, hY⟩ := hY x H rfl
    have hw1 : WS (sI h 116 41 (nI H.length)) := hw
    have r1 : RST (sI h 116 41 (nI H.length)) u tx L l0 f0 := r0.fr (J := fun j => j = 41) (A := fun k => k = 116) (MNX_J rfl rfl) (by decide) (by decide) (fun k _ _ _ => by omega) (by decide)
    have rem : (e + H.length) % 30 < 30 := Nat.mod_lt _ (by decide)
    refine S.go 60 rfl rfl rfl ?_
    conv => whnf
    refine ⟨wt_116 hw, ?_⟩
    conv => whnf
    rw [e3]
    refine bk_nt (fun c => absurd ((zn_eq (b := 0) (by omega) (by omega)).mp c) (by omega)) ?_
    conv => whnf
    refine ⟨wt_116 hw, ?_⟩
    conv => whnf
    rw [e3, show (fun x y : Int32 => x - y) (nI (H.length + 1)) 1 = nI H.length from nI_d1 _]
    refine ⟨wt_116 hw, ?_⟩
    conv => whnf
    refine ⟨wt_116 hw1, ?_⟩
    conv => whnf
    rw [wr_116_39 hw1]
    refine ⟨wt_116 hw1, ?_⟩
    conv => whnf
    rw [show hI (sI h 116 41 (nI H.length)) 116 40 = nI e from (hI_sI_j (by decide)).trans e2]
    refine ⟨wt_116 hw1, ?_⟩
    conv => whnf
    try rw [hI_sI]
    rw [show (fun x y : Int32 => x + y) (nI e) (nI H.length) = nI (e + H.length) from (zn_plus _ _).symm]
    refine ⟨by decide, ?_⟩
    conv => whnf
    rw [show i_rem (nI (e + H.length)) 30 = nI ((e + H.length) % 30) from i_rem_n (d := 30) (by omega) (by decide) (by decide)]
    rw [show (fun x y : Int32 => x * y) 13 (nI ((e + H.length) % 30)) = nI (13 * ((e + H.length) % 30)) from (zn_tms 13 _).symm]
    refine ⟨wt_116 hw1, ?_⟩
    refine c_M_lays2 S r1 (R := 141) (N := 390) (wt_141 hw1) (wn_141 hw1) (by decide) (by omega) (by decide) gd (fun k k1 k2 => by
      rw [hI_ne (by decide)]
      exact e5.1 k k1 k2) ?_
    intro h2 f2 r2
    have g116 : ∀ j, hI h2 116 j = hI (sI h 116 41 (nI H.length)) 116 j := fun j => by rw [(f2.2.2.2 116 (by unfold LA2; omega)).1]
    conv => whnf
    refine ⟨Or.inr rfl, hY h2 r2 ⟨e, e1, ?_, ?_, by omega, ?_⟩ (eqY_tr (eqY_sI (Or.inl rfl)) (eqY_mono (fun k hk => Or.inr hk) f2)) (fun j hj => ?_)⟩
    · rw [g116, hI_sI_j (by decide)]
      exact e2
    · rw [g116, hI_sI]
    · exact RG_eq (by rw [(f2.2.2.2 141 (by unfold LA2; omega)).1, hI_sI_ne (by decide)]) H _ e5.2
    · rw [g116, hI_sI_j hj]
