/-! CHANGE: the class's history -/
def HR (h : PH) (H : List (Nat × Nat)) : Prop := hI h 85 2 = nI H.length ∧ H.length ≤ 30 ∧ ∀ i x, H[i]? = some x → hI h 86 (H.length - 1 - i) = nI x.1 ∧ hI h 87 (H.length - 1 - i) = nI x.2
theorem HR.eq {h h' : PH} {H : List (Nat × Nat)} (e : hI h' 85 = hI h 85 ∧ hI h' 86 = hI h 86 ∧ hI h' 87 = hI h 87) (r : HR h H) : HR h' H := by
  unfold HR
  rw [e.1, e.2.1, e.2.2]
  exact r
theorem HR.add {h h' : PH} {H : List (Nat × Nat)} {x : Nat × Nat} (r : ∀ i y, H[i]? = some y → hI h 86 (H.length - 1 - i) = nI y.1 ∧ hI h 87 (H.length - 1 - i) = nI y.2) (hl : H.length < 30) (e : ∀ q, q < H.length → hI h' 86 q = hI h 86 q ∧ hI h' 87 q = hI h 87 q) (t1 : hI h' 86 H.length = nI x.1) (t2 : hI h' 87 H.length = nI x.2) (t3 : hI h' 85 2 = nI (H.length + 1)) : HR h' (x :: H) := by
  refine ⟨t3, by rw [List.length_cons]; omega, fun i y hy => ?_⟩
  rw [List.length_cons]
  cases i with
  | zero =>
    have ev : x = y := by simpa using hy
    rw [show H.length + 1 - 1 - 0 = H.length by omega, ← ev]
    exact ⟨t1, t2⟩
  | succ i =>
    have hy : H[i]? = some y := by simpa using hy
    have hl2 := lt_some hy
    rw [show H.length + 1 - 1 - (i + 1) = H.length - 1 - i by omega, (e _ (by omega)).1, (e _ (by omega)).2]
    exact r i y hy
def H3 (k : Nat) : Prop := 85 ≤ k ∧ k ≤ 87
theorem c_Hist_push {P : PSem} (S : SysOK P) {h : PH} (hw : WS h) {H : List (Nat × Nat)} (r : HR h H) {n p : Nat} {K : PK} (hK : ∀ h', eqY H3 h h' → HR h' (((n, p) :: H).take 30) → K .null h') : P.1 n_Hist_push [.ref 85, .int (nI n), .int (nI p)] h K := by
  obtain ⟨r1, r2, r3⟩ := r
  have g23 : ∀ h1 (G : List (Nat × Nat)), eqY H3 h h1 → hI h1 85 2 = nI G.length → G.length < 30 → (∀ i y, G[i]? = some y → hI h1 86 (G.length - 1 - i) = nI y.1 ∧ hI h1 87 (G.length - 1 - i) = nI y.2) → ((n, p) :: H).take 30 = (n, p) :: G → P.2 n_Hist_push 23 [some (.ref 85), some (.int (nI n)), some (.int (nI p))] [] h1 0 0 K := by
    intro h1 G f1 g1 g2 g3 ge
    have hw1 := eqY_WS f1 hw
    have hw2 : WS (sI h1 86 G.length (nI n)) := hw1
    have hw3 : WS (sI (sI h1 86 G.length (nI n)) 87 G.length (nI p)) := hw1
    have fin := hK (sI (sI (sI h1 86 G.length (nI n)) 87 G.length (nI p)) 85 2 (nI (G.length + 1))) (eqY_tr f1 (eqY_tr (eqY_tr (eqY_sI (by unfold H3; omega)) (eqY_sI (by unfold H3; omega))) (eqY_sI (by unfold H3; omega)))) (by
      rw [ge]
      refine HR.add g3 g2 (fun q hq => ⟨?_, ?_⟩) ?_ ?_ hI_sI
      · rw [hI_ne (by decide), hI_ne (by decide), hI_sI_j (by omega)]
      · rw [hI_ne (by decide), hI_sI_j (by omega), hI_ne (by decide)]
      · rw [hI_ne (by decide), hI_ne (by decide), hI_sI]
      · rw [hI_ne (by decide), hI_sI])
    refine S.at 60 [] rfl ?_
    conv => whnf
    refine ⟨wt_85 hw1, ?_⟩
    conv => whnf
    rw [wr_85_0 hw1]
    refine ⟨wt_85 hw1, ?_⟩
    conv => whnf
    rw [g1]
    refine ⟨⟨by decide, inB_of (wt_86 hw1) (wn_86 hw1) g2 (by decide)⟩, ?_⟩
    conv => whnf
    rw [nI_clamp (by omega)]
    refine ⟨wt_85 hw2, ?_⟩
    conv => whnf
    rw [wr_85_1 hw2]
    refine ⟨wt_85 hw2, ?_⟩
    conv => whnf
    rw [hI_ne (by decide), g1]
    refine ⟨⟨by decide, inB_of (wt_87 hw2) (wn_87 hw2) g2 (by decide)⟩, ?_⟩
    conv => whnf
    rw [nI_clamp (by omega)]
    refine ⟨wt_85 hw3, ?_⟩
    conv => whnf
    rw [hI_ne (by decide), hI_ne (by decide), g1, show (fun x y : Int32 => x + y) (nI G.length) 1 = nI (G.length + 1) from nI_1 _]
    refine ⟨wt_85 hw3, ?_⟩
    conv => whnf
    exact fin
  refine S.2.1 _ 3 _ _ _ rfl rfl ?_
  refine S.at 60 [23] rfl ?_
  conv => whnf
  refine ⟨wt_85 hw, ?_⟩
  conv => whnf
  rw [r1]
  refine bk_lt (b := 30) (by omega) (by omega) (fun c => ?_) (fun c => ?_)
  · conv => whnf
    exact g23 h H (eqY_rf _ _) r1 c r3 (List.take_of_length_le (by rw [List.length_cons]; omega))
  · have e30 : H.length = 30 := by omega
    have hw1 : WS (sCp h 86 1 86 0 29) := hw
    have hw2 : WS (sCp (sCp h 86 1 86 0 29) 87 1 87 0 29) := hw
    conv => whnf
    refine ⟨wt_85 hw, ?_⟩
    conv => whnf
    rw [wr_85_0 hw]
    refine ⟨wt_85 hw, ?_⟩
    conv => whnf
    try rw [wr_85_0 hw]
    refine ⟨⟨by decide, wt_86 hw, wt_86 hw, by decide, by decide, by decide, show (1 + 29 : Nat) ≤ hN h 86 from Nat.le_of_eq (wn_86 hw).symm, show (29 : Nat) ≤ hN h 86 from Nat.le_trans (by decide) (Nat.le_of_eq (wn_86 hw).symm)⟩, ?_⟩
    conv => whnf
    refine ⟨wt_85 hw1, ?_⟩
    conv => whnf
    rw [show hR (sCp h 86 (Int32.toNatClampNeg 1) 86 (Int32.toNatClampNeg 0) (Int32.toNatClampNeg 29)) 85 1 = 87 from wr_85_1 hw]
    refine ⟨wt_85 hw1, ?_⟩
    conv => whnf
    try rw [show hR (sCp h 86 (Int32.toNatClampNeg 1) 86 (Int32.toNatClampNeg 0) (Int32.toNatClampNeg 29)) 85 1 = 87 from wr_85_1 hw]
    refine ⟨⟨by decide, wt_87 hw, wt_87 hw, by decide, by decide, by decide, show (1 + 29 : Nat) ≤ hN h 87 from Nat.le_of_eq (wn_87 hw).symm, show (29 : Nat) ≤ hN h 87 from Nat.le_trans (by decide) (Nat.le_of_eq (wn_87 hw).symm)⟩, ?_⟩
    conv => whnf
    refine ⟨wt_85 hw2, ?_⟩
    conv => whnf
    have tl : (H.take 29).length = 29 := by rw [List.length_take]; omega
    refine g23 (sI (sCp (sCp h 86 1 86 0 29) 87 1 87 0 29) 85 2 29) (H.take 29) (eqY_tr (eqY_tr (eqY_sCp (by unfold H3; omega)) (eqY_sCp (by unfold H3; omega))) (eqY_sI (by unfold H3; omega))) (by rw [tl]; exact hI_sI) (by omega) (fun i y hy => ?_) rfl
    have hl := lt_some hy
    rw [tl] at hl ⊢
    have hy : H[i]? = some y := by
      rw [List.getElem?_take, if_pos hl] at hy
      exact hy
    have := r3 i y hy
    rw [e30] at this
    have a86 : hI (sI (sCp (sCp h 86 1 86 0 29) 87 1 87 0 29) 85 2 29) 86 (29 - 1 - i) = hI h 86 (30 - 1 - i) := by
      rw [hI_ne (by decide), hI_sCp_ne (by decide), hI_sCp_in (Nat.zero_le _) (by omega), show 1 + (29 - 1 - i - 0) = 30 - 1 - i by omega]
    have a87 : hI (sI (sCp (sCp h 86 1 86 0 29) 87 1 87 0 29) 85 2 29) 87 (29 - 1 - i) = hI h 87 (30 - 1 - i) := by
      rw [hI_ne (by decide), hI_sCp_in (Nat.zero_le _) (by omega), hI_sCp_ne (by decide), show 1 + (29 - 1 - i - 0) = 30 - 1 - i by omega]
    rw [a86, a87]
    exact this
theorem c_Hist_last {P : PSem} (S : SysOK P) {h : PH} (hw : WS h) {x : Nat × Nat} {H : List (Nat × Nat)} (r : HR h (x :: H)) {K K' : PK} (hK : K (.int (nI x.1)) h) (hK' : K' (.int (nI x.2)) h) : P.1 n_Hist_lastField [.ref 85] h K ∧ P.1 n_Hist_lastModulus [.ref 85] h K' := by
  obtain ⟨r1, r2, r3⟩ := r
  obtain ⟨a, b⟩ := r3 0 x rfl
  rw [List.length_cons] at r1 r2 a b
  rw [show H.length + 1 - 1 - 0 = H.length by omega] at a b
  refine ⟨?_, ?_⟩
  · refine S.go 40 rfl rfl rfl ?_
    conv => whnf
    refine ⟨wt_85 hw, ?_⟩
    conv => whnf
    rw [r1]
    refine bk_f (fun c => absurd ((zn_le (b := 0) (by omega) (by omega)).mp c) (by omega)) ?_
    conv => whnf
    refine ⟨wt_85 hw, ?_⟩
    conv => whnf
    rw [wr_85_0 hw]
    refine ⟨wt_85 hw, ?_⟩
    conv => whnf
    rw [r1, show (fun x y : Int32 => x - y) (nI (H.length + 1)) 1 = nI H.length from nI_d1 _]
    refine ⟨inB_of (wt_86 hw) (wn_86 hw) (show H.length < 30 by omega) (by decide), ?_⟩
    conv => whnf
    rw [nI_clamp (by omega), a]
    exact hK
  · refine S.go 40 rfl rfl rfl ?_
    conv => whnf
    refine ⟨wt_85 hw, ?_⟩
    conv => whnf
    rw [r1]
    refine bk_f (fun c => absurd ((zn_le (b := 0) (by omega) (by omega)).mp c) (by omega)) ?_
    conv => whnf
    refine ⟨wt_85 hw, ?_⟩
    conv => whnf
    rw [wr_85_1 hw]
    refine ⟨wt_85 hw, ?_⟩
    conv => whnf
    rw [r1, show (fun x y : Int32 => x - y) (nI (H.length + 1)) 1 = nI H.length from nI_d1 _]
    refine ⟨inB_of (wt_87 hw) (wn_87 hw) (show H.length < 30 by omega) (by decide), ?_⟩
    conv => whnf
    rw [nI_clamp (by omega), b]
    exact hK'
/-- a modulus changed: the tower -/
theorem set_CI {h h' : PH} {u : Nat → Nat} {n p : Nat} (hu : MDS u) (hv : MDS (updM u n p)) (hC : CI h u (imF u)) (c0 : CI0 h' (updM u n p)) (im : ∀ m, 1 ≤ m → m ≤ 12 → (n ∣ m → hI h' 29 m = 0) ∧ (¬ n ∣ m → hI h' 29 m = hI h 29 m) ∧ hI h' (16 + m) = hI h (16 + m)) : CI h' (updM u n p) (imF (updM u n p)) := by
  refine c0.ci (fun m m1 m2 => ?_)
  obtain ⟨i1, i2, i3⟩ := im m m1 m2
  by_cases d : n ∣ m
  · exact Or.inl (i1 d)
  · rw [i2 d, i3]
    rcases hC.2.2.2.2.2 m m1 m2 with w | ⟨w1, w2⟩
    · exact Or.inl w
    · refine Or.inr ⟨w1, fun q q1 q2 => ?_⟩
      rw [w2 q q1 q2, IMG_loc (img_ex hu) (img_ex hv) m q m1 m2 q1 q2 (fun e e1 e2 => ?_)]
      show u e = if e = n then p else u e
      have ne : ¬ e = n := fun y => d (by rw [← y]; exact e2)
      rw [if_neg ne]
theorem upd_MDS {u : Nat → Nat} {n p : Nat} (hu : MDS u) (hp : MOD n p) : MDS (updM u n p) := by
  intro k k1 k2
  show MOD k (if k = n then p else u k)
  by_cases e : k = n
  · rw [if_pos e, e]
    exact hp
  · rw [if_neg e]
    exact hu k k1 k2
theorem upd_back (u : Nat → Nat) (n p : Nat) : updM (updM u n p) n (u n) = u := by
  funext k
  show (if k = n then u n else if k = n then p else u k) = u k
  by_cases e : k = n
  · rw [if_pos e, e]
  · rw [if_neg e, if_neg e]
