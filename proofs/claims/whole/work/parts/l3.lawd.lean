/-! THE LAW: read, change, undo, hold, restore; printed by wip/gen/lawd.py -/
theorem OUT.cls {h h1 : PH} {A : Nat → Prop} {u : Nat → Nat} {H : List (Nat × Nat)} {g : Nat → Option (Nat → Nat)} {ttx : Nat → Nat} {tL : Nat} (o : OUT h u H g ttx tL) (f : FO A h h1) (hA : ∀ k, A k → k < 116) : MR h1 u H ∧ ML h1 g ∧ TM h1 ttx tL ∧ hI h1 116 = hI h 116 := by
  have m := MFX_FO f hA
  have e : ∀ k, 116 ≤ k → k ≤ 148 → hI h1 k = hI h k := fun k y1 y2 => (m k y1 y2).1
  refine ⟨MR_eq (by rw [e 116 (by decide) (by decide)]) (by rw [e 116 (by decide) (by decide)]) (e 141 (by decide) (by decide)) o.2.1, fun q hq => ?_, ⟨?_, ?_⟩, e 116 (by decide) (by decide)⟩
  · rw [e 143 (by decide) (by decide), e 142 (by decide) (by decide)]
    exact o.2.2.2.1 q hq
  · rw [e 116 (by decide) (by decide)]; exact o.2.2.2.2.2.1.1
  · rw [e 117 (by decide) (by decide)]; exact o.2.2.2.2.2.1.2
theorem SL_eq {h h' : PH} {g : Nat → Option (Nat → Nat)} (e : ∀ k, 91 ≤ k → k ≤ 94 → hI h' k = hI h k) (s : SL h g) : SL h' g := fun q hq => by
  rw [e 94 (by decide) (by decide), e (91 + q) (by omega) (by omega)]
  exact s q hq
theorem ML_eq {h h' : PH} {g : Nat → Option (Nat → Nat)} (e1 : hI h' 142 = hI h 142) (e2 : hI h' 143 = hI h 143) (s : ML h g) : ML h' g := fun q hq => by
  rw [e1, e2]
  exact s q hq
/-- the reference's step behind the class's: what the class holds is as it was -/
theorem CST.ref {h h' : PH} {u tx : Nat → Nat} {L : Nat} {l0 : Nat → Int64} {f0 s0 m0 : Nat → Int32} {s s' : Nat} (c : CST h u tx L l0 f0 s0 m0 s s') (e : MFR h h') : CST h' u tx L l0 f0 s0 m0 s s' := by
  have ss := c.2.1.2.2
  exact c.fo (CI_out (fun k hk => by omega) e c.1) (FO_Y e) (fun k k1 k2 => by unfold SS at ss; omega) (by decide) (fun k k1 k2 => by omega) rfl
theorem TC0 {h : PH} {tx : Nat → Nat} (e : hI h 6 1 = nI 0) : TC h tx 0 := ⟨e, fun i hi => absurd hi (Nat.not_lt_zero i)⟩
theorem TM0 {h : PH} {tx : Nat → Nat} (e : hI h 116 2 = nI 0) : TM h tx 0 := ⟨e, fun i hi => absurd hi (Nat.not_lt_zero i)⟩
set_option maxRecDepth 20000 in
theorem law_read {P : PSem} (S : SysOK P) {h : PH} {u tx : Nat → Nat} {L : Nat} {l0 : Nat → Int64} {f0 s0 m0 : Nat → Int32} {s s' : Nat} {H : List (Nat × Nat)} {g : Nat → Option (Nat → Nat)} {ttx : Nat → Nat} {tL Ls : Nat} {xs : Nat → Int32} (I : INVg h u tx L l0 f0 s0 m0 s s' H g ttx tL Ls xs) {i : Nat} (hi : i + 6 ≤ Ls) (hLs : Ls ≤ 3072) {ca sl : Nat} (hca : ca ≤ 2000) (hsl : sl ≤ 5000000) {K : PK} (nx : ∀ h' c' s', INV h' Ls xs → c' ≤ ca + 2 → s' ≤ sl + 8192 → P.2 n_Law_law 901 [some (.ref 1), some (.ref 5), some (.ref 116), some (.int (nI i))] [] h' c' s' K) : P.2 n_Law_law 96 [some (.ref 1), some (.ref 5), some (.ref 116), some (.int (nI i))] [] h ca sl K := by
  have o := I.2.2.2.1
  have tl := I.2.2.2.2.2.2.2.1
  have tb := I.2.2.2.2.2.2.1
  have hg := I.2.2.2.2.1
  have gd := I.2.2.2.2.2.1
  have ss := I.1.2.1.2.2
  have sb : (s = 96 ∨ s = 106) ∧ (s' = 96 ∨ s' = 106) := by
    unfold SS at ss
    omega
  refine S.at 120 [901] rfl ?_
  conv => whnf
  refine bifT (and3 (a := ca + 0) (b := 600000) (c := sl + 0) (d := 7302250) (by omega) (by omega) rfl) ?_
  conv => whnf
  refine ⟨wt_5 I.1.1.1, ?_⟩
  refine c_FT_read S I.1 I.2.2.1 o.2.2.2.2.1 tb tl (fun ne h1 c1 f1 l6 l5 => ?_) (fun ze h1 c1 m1 x1 l6 l5 l85 l94 => ?_)
  · have hw1 := c1.1.1
    obtain ⟨mr1, ml1, tm1, e116⟩ := o.cls f1 (fun k hk => by unfold RA W6 at hk; omega)
    have rst1 := RST_mx (MFX_FO f1 (fun k hk => by unfold RA W6 at hk; omega)) hw1 I.2.1
    conv => whnf
    refine bifT (and3 (a := ca + 0 + 0) (b := 600000) (c := sl + 0 + 0) (d := 7302250) (by omega) (by omega) rfl) ?_
    conv => whnf
    refine ⟨wt_116 hw1, ?_⟩
    refine c_M_read S rst1 I.2.2.1 tm1 tb tl (hL h (s' + 6)) (hI h (s' + 7)) (fun _ h2 r2 hf l2 l16 m2 => ?_) (fun ze => absurd ze ne)
    have e12 : ∀ k, k < 116 → hI h2 k = hI h1 k := fun k hk => (m2.2.2.2 k (by omega)).1
    have E : ∀ k, k < 116 → ¬ twr k → ¬ RA s' k → hI h2 k = hI h k := fun k k1 k2 k3 => (e12 k k1).trans (f1.1 k (by omega) k2 k3).1
    have I2 : INVg h2 u tx L l0 f0 s0 m0 s s' H g ttx 0 Ls xs := ⟨c1.ref m2, r2, I.2.2.1, ⟨o.1.eq ⟨E 85 (by decide) (nt95 (by decide) (by decide)) (by unfold RA W6; omega), E 86 (by decide) (nt95 (by decide) (by decide)) (by unfold RA W6; omega), E 87 (by decide) (nt95 (by decide) (by decide)) (by unfold RA W6; omega)⟩, MR_eq hf.1 hf.2.1 hf.2.2.1 mr1, SL_eq (fun k k1 k2 => E k (by omega) (nt95 (by omega) (by omega)) (by unfold RA W6; omega)) o.2.2.1, ML_eq hf.2.2.2.1 hf.2.2.2.2 ml1, TC0 ((congrFun (e12 6 (by decide)) 1).trans l6), TM0 l2, ((congrFun (e12 5 (by decide)) 11).trans l5).trans l16.symm⟩, hg, gd, tb, Nat.zero_le _, (E 1 (by decide) (nt95 (by decide) (by decide)) (by unfold RA W6; omega)).trans I.x1, by rw [m2.1, f1.2.2]; exact I.2.2.2.2.2.2.2.2.2⟩
    conv => whnf
    refine bk_t (rfl) ?_
    conv => whnf
    exact nx _ (ca + 0 + 0) (sl + 0 + 0) I2.inv (by omega) (by omega)
  · have hw1 := c1.1.1
    have rst1 := RST_mx m1 hw1 I.2.1
    have e116 : ∀ k, 116 ≤ k → k ≤ 148 → hI h1 k = hI h k := fun k y1 y2 => (m1 k y1 y2).1
    have tm1 : TM h1 ttx tL := ⟨by rw [e116 116 (by decide) (by decide)]; exact o.2.2.2.2.2.1.1, by rw [e116 117 (by decide) (by decide)]; exact o.2.2.2.2.2.1.2⟩
    conv => whnf
    refine bifT (and3 (a := ca + 0 + 0) (b := 600000) (c := sl + 0 + 0) (d := 7302250) (by omega) (by omega) rfl) ?_
    conv => whnf
    refine ⟨wt_116 hw1, ?_⟩
    refine c_M_read S rst1 I.2.2.1 tm1 tb tl (hL h (s' + 6)) (hI h (s' + 7)) (fun ne => absurd ze ne) (fun _ h2 r2 l40 l41 l143 l2 l16 m2 => ?_)
    have e12 : ∀ k, k < 116 → hI h2 k = hI h1 k := fun k hk => (m2.2.2.2 k (by omega)).1
    obtain ⟨e, e1, e2, e3, e4, e5⟩ := o.2.1
    have cz := c1.2.2.2.1
    have I2 : INVg h2 (vM ttx tL) ttx tL (hL h (s' + 6)) (hI h (s' + 7)) (hI h (s' + 8)) (hI h (s' + 9)) s' s [] (fun _ => none) ttx 0 Ls xs := ⟨c1.ref m2, r2, (vM_ok cz.2.2).1, ⟨⟨(congrFun (e12 85 (by decide)) 2).trans l85, Nat.zero_le _, fun i x hx => absurd hx (by simp)⟩, ⟨e, e1, by rw [l40, e116 116 (by decide) (by decide)]; exact e2, l41, Nat.zero_le _, trivial⟩, fun q hq => ⟨fun _ => (congrFun (e12 94 (by decide)) q).trans (l94 q hq), fun v hv => absurd hv (by simp)⟩, fun q hq => ⟨fun _ => l143 q hq, fun v hv => absurd hv (by simp)⟩, TC0 ((congrFun (e12 6 (by decide)) 1).trans l6), TM0 l2, ((congrFun (e12 5 (by decide)) 11).trans l5).trans l16.symm⟩, trivial, fun q v hq hv => absurd hv (by simp), tb, Nat.zero_le _, ((e12 1 (by decide)).trans x1.1).trans I.x1, by rw [m2.1, x1.2]; exact I.2.2.2.2.2.2.2.2.2⟩
    conv => whnf
    refine bk_t (rfl) ?_
    conv => whnf
    exact nx _ (ca + 0 + 0) (sl + 0 + 0) I2.inv (by omega) (by omega)
set_option maxRecDepth 20000 in
theorem law_change {P : PSem} (S : SysOK P) {h : PH} {u tx : Nat → Nat} {L : Nat} {l0 : Nat → Int64} {f0 s0 m0 : Nat → Int32} {s s' : Nat} {H : List (Nat × Nat)} {g : Nat → Option (Nat → Nat)} {ttx : Nat → Nat} {tL Ls : Nat} {xs : Nat → Int32} (I : INVg h u tx L l0 f0 s0 m0 s s' H g ttx tL Ls xs) {i : Nat} (hi : i + 6 ≤ Ls) (hLs : Ls ≤ 3072) {ca sl : Nat} (hca : ca ≤ 2000) (hsl : sl ≤ 5000000) {K : PK} (nx : ∀ h' c' s', INV h' Ls xs → c' ≤ ca + 2 → s' ≤ sl + 8192 → P.2 n_Law_law 901 [some (.ref 1), some (.ref 5), some (.ref 116), some (.int (nI i))] [] h' c' s' K) : P.2 n_Law_law 110 [some (.ref 1), some (.ref 5), some (.ref 116), some (.int (nI i))] [] h ca sl K := by
  have o := I.2.2.2.1
  have tl := I.2.2.2.2.2.2.2.1
  have tb := I.2.2.2.2.2.2.1
  have hg := I.2.2.2.2.1
  have gd := I.2.2.2.2.2.1
  have ss := I.1.2.1.2.2
  have sb : (s = 96 ∨ s = 106) ∧ (s' = 96 ∨ s' = 106) := by
    unfold SS at ss
    omega
  have gu : GOOD tx L l0 u := ⟨I.2.2.1, I.1.2.2.2.2.1⟩
  refine S.at 120 [901] rfl ?_
  conv => whnf
  try rw [show (fun x y : Int32 => x + y) (nI i) 1 = nI (i + 1) from (zn_plus i 1).symm]
  refine ⟨inB_of (INVg.t1 I) (INVg.n1 I) (show i + 1 < Ls by omega) (by omega), ?_⟩
  conv => whnf
  rw [nI_clamp (show i + 1 < 2 ^ 31 by omega)]
  try rw [INVg.x1 I]
  try rw [show (fun x y : Int32 => x + y) (nI i) 2 = nI (i + 2) from (zn_plus i 2).symm]
  refine ⟨inB_of (INVg.t1 I) (INVg.n1 I) (show i + 2 < Ls by omega) (by omega), ?_⟩
  conv => whnf
  rw [nI_clamp (show i + 2 < 2 ^ 31 by omega)]
  try rw [INVg.x1 I]
  refine bifT (and3 (a := ca + 0) (b := 600000) (c := sl + 0) (d := 7302250) (by omega) (by omega) rfl) ?_
  conv => whnf
  refine ⟨wt_5 I.1.1.1, ?_⟩
  refine c_FT_change S I.1 I.2.2.1 o.1 (fun c h1 c1 f1 r1 => ?_) (fun c gv n1 n2 h1 c1 f1 r1 => ?_)
  · have hw1 := c1.1.1
    have cA : ∀ k, CA k → k < 116 := fun k hk => by unfold CA K8 W6 H3 at hk; omega
    obtain ⟨mr1, ml1, tm1, e116⟩ := o.cls f1 cA
    have rst1 := RST_mx (MFX_FO f1 cA) hw1 I.2.1
    have t1' : hT h1 1 = 20 := (congrArg (fun x => x.1) f1.2.2).trans I.t1
    have n1' : hN h1 1 = Ls := (congrArg (fun x => x.2) f1.2.2).trans I.n1
    have E0 : ∀ k, k < 116 → ¬ twr k → ¬ CA k → hI h1 k = hI h k := fun k k1 k2 k3 => (f1.1 k (by omega) k2 k3).1
    have x1' : hI h1 1 = xs := (E0 1 (by decide) (nt95 (by decide) (by decide)) (by unfold CA K8 W6 H3; omega)).trans I.x1
    conv => whnf
    try rw [show (fun x y : Int32 => x + y) (nI i) 1 = nI (i + 1) from (zn_plus i 1).symm]
    refine ⟨inB_of t1' n1' (show i + 1 < Ls by omega) (by omega), ?_⟩
    conv => whnf
    rw [nI_clamp (show i + 1 < 2 ^ 31 by omega)]
    try rw [x1']
    try rw [show (fun x y : Int32 => x + y) (nI i) 2 = nI (i + 2) from (zn_plus i 2).symm]
    refine ⟨inB_of t1' n1' (show i + 2 < Ls by omega) (by omega), ?_⟩
    conv => whnf
    rw [nI_clamp (show i + 2 < 2 ^ 31 by omega)]
    try rw [x1']
    refine bifT (and3 (a := ca + 0 + 0) (b := 600000) (c := sl + 0 + 0) (d := 7302250) (by omega) (by omega) rfl) ?_
    conv => whnf
    refine ⟨wt_116 hw1, ?_⟩
    refine c_M_change S rst1 I.2.2.1 mr1 (fun _ h2 r2 m2 e2 => ?_) (fun cc en => ?_)
    rotate_left
    · exfalso
      rcases c with c | c
      · rw [cc] at c
        exact absurd c (by decide)
      · exact c en
    have cB : ∀ k, LA2 k → 116 ≤ k ∧ k ≤ 148 := fun k hk => by unfold LA2 at hk; omega
    have e12 : ∀ k, k < 116 → hI h2 k = hI h1 k := fun k hk => (e2.2.2.2 k (fun q => by have := cB k q; omega)).1
    have mf : MFR h1 h2 := eqY_mono cB e2
    have E : ∀ k, k < 116 → ¬ twr k → ¬ CA k → hI h2 k = hI h k := fun k k1 k2 k3 => (e12 k k1).trans (E0 k k1 k2 k3)
    have sl2 : SL h2 g := SL_eq (fun k k1 k2 => E k (by omega) (nt95 (by omega) (by omega)) (by unfold CA K8 W6 H3; omega)) o.2.2.1
    have tc2 : TC h2 ttx tL := ⟨by rw [E 6 (by decide) (nt95 (by decide) (by decide)) (by unfold CA K8 W6 H3; omega)]; exact o.2.2.2.2.1.1, by rw [E 7 (by decide) (nt95 (by decide) (by decide)) (by unfold CA K8 W6 H3; omega)]; exact o.2.2.2.2.1.2⟩
    have x2 : hI h2 1 = xs := (e12 1 (by decide)).trans x1'
    have s2 : h2.1 1 = (20, Ls) := by rw [e2.1, f1.2.2]; exact I.2.2.2.2.2.2.2.2.2
    have k2 : ∀ k, 116 ≤ k → ¬ LA2 k → hI h2 k = hI h1 k := fun k _ hk => (e2.2.2.2 k hk).1
    have ml2 : ML h2 g := ML_eq (k2 142 (by decide) (by unfold LA2; omega)) (k2 143 (by decide) (by unfold LA2; omega)) ml1
    have r12 : HR h2 H := r1.eq ⟨e12 85 (by decide), e12 86 (by decide), e12 87 (by decide)⟩
    have I2 : INVg h2 u tx L l0 f0 s0 m0 s s' H g ttx tL Ls xs := ⟨c1.ref mf, r2, I.2.2.1, ⟨r12, m2, sl2, ml2, tc2, ⟨by rw [k2 116 (by decide) (by unfold LA2; omega)]; exact tm1.1, by rw [k2 117 (by decide) (by unfold LA2; omega)]; exact tm1.2⟩, by rw [E 5 (by decide) (nt95 (by decide) (by decide)) (by unfold CA K8 W6 H3; omega), k2 116 (by decide) (by unfold LA2; omega), e116]; exact o.2.2.2.2.2.2⟩, hg, gd, tb, tl, x2, s2⟩
    conv => whnf
    refine bk_t (rfl) ?_
    conv => whnf
    exact nx _ (ca + 0 + 0) (sl + 0 + 0) I2.inv (by omega) (by omega)
  · have hw1 := c1.1.1
    have cA : ∀ k, CA k → k < 116 := fun k hk => by unfold CA K8 W6 H3 at hk; omega
    obtain ⟨mr1, ml1, tm1, e116⟩ := o.cls f1 cA
    have rst1 := RST_mx (MFX_FO f1 cA) hw1 I.2.1
    have t1' : hT h1 1 = 20 := (congrArg (fun x => x.1) f1.2.2).trans I.t1
    have n1' : hN h1 1 = Ls := (congrArg (fun x => x.2) f1.2.2).trans I.n1
    have E0 : ∀ k, k < 116 → ¬ twr k → ¬ CA k → hI h1 k = hI h k := fun k k1 k2 k3 => (f1.1 k (by omega) k2 k3).1
    have x1' : hI h1 1 = xs := (E0 1 (by decide) (nt95 (by decide) (by decide)) (by unfold CA K8 W6 H3; omega)).trans I.x1
    conv => whnf
    try rw [show (fun x y : Int32 => x + y) (nI i) 1 = nI (i + 1) from (zn_plus i 1).symm]
    refine ⟨inB_of t1' n1' (show i + 1 < Ls by omega) (by omega), ?_⟩
    conv => whnf
    rw [nI_clamp (show i + 1 < 2 ^ 31 by omega)]
    try rw [x1']
    try rw [show (fun x y : Int32 => x + y) (nI i) 2 = nI (i + 2) from (zn_plus i 2).symm]
    refine ⟨inB_of t1' n1' (show i + 2 < Ls by omega) (by omega), ?_⟩
    conv => whnf
    rw [nI_clamp (show i + 2 < 2 ^ 31 by omega)]
    try rw [x1']
    refine bifT (and3 (a := ca + 0 + 0) (b := 600000) (c := sl + 0 + 0) (d := 7302250) (by omega) (by omega) rfl) ?_
    conv => whnf
    refine ⟨wt_116 hw1, ?_⟩
    refine c_M_change S rst1 I.2.2.1 mr1 (fun cc => ?_) (fun _ _ h2 r2 m2 e2 j2 => ?_)
    · exfalso
      rcases cc with cc | cc
      · rw [c] at cc
        exact absurd cc (by decide)
      · exact cc gv.2
    have cB : ∀ k, (k = 116 ∨ k = 141 ∨ LA2 k) → 116 ≤ k ∧ k ≤ 148 := fun k hk => by unfold LA2 at hk; omega
    have e12 : ∀ k, k < 116 → hI h2 k = hI h1 k := fun k hk => (e2.2.2.2 k (fun q => by have := cB k q; omega)).1
    have mf : MFR h1 h2 := eqY_mono cB e2
    have E : ∀ k, k < 116 → ¬ twr k → ¬ CA k → hI h2 k = hI h k := fun k k1 k2 k3 => (e12 k k1).trans (E0 k k1 k2 k3)
    have sl2 : SL h2 g := SL_eq (fun k k1 k2 => E k (by omega) (nt95 (by omega) (by omega)) (by unfold CA K8 W6 H3; omega)) o.2.2.1
    have tc2 : TC h2 ttx tL := ⟨by rw [E 6 (by decide) (nt95 (by decide) (by decide)) (by unfold CA K8 W6 H3; omega)]; exact o.2.2.2.2.1.1, by rw [E 7 (by decide) (nt95 (by decide) (by decide)) (by unfold CA K8 W6 H3; omega)]; exact o.2.2.2.2.1.2⟩
    have x2 : hI h2 1 = xs := (e12 1 (by decide)).trans x1'
    have s2 : h2.1 1 = (20, Ls) := by rw [e2.1, f1.2.2]; exact I.2.2.2.2.2.2.2.2.2
    have k2 : ∀ k, k ≠ 116 → k ≠ 141 → ¬ LA2 k → hI h2 k = hI h1 k := fun k y1 y2 hk => (e2.2.2.2 k (fun q => by rcases q with q | q | q; exact y1 q; exact y2 q; exact hk q)).1
    have ml2 : ML h2 g := ML_eq (k2 142 (by decide) (by decide) (by unfold LA2; omega)) (k2 143 (by decide) (by decide) (by unfold LA2; omega)) ml1
    have r12 : HR h2 (((xs (i + 1)).toNatClampNeg, u (xs (i + 1)).toNatClampNeg) :: H |>.take 30) := r1.eq ⟨e12 85 (by decide), e12 86 (by decide), e12 87 (by decide)⟩
    have hg2 : HG tx L l0 (updM u (xs (i + 1)).toNatClampNeg (xs (i + 2)).toNatClampNeg) ((((xs (i + 1)).toNatClampNeg, u (xs (i + 1)).toNatClampNeg) :: H).take 30) := HG_take 30 _ _ ⟨⟨n1, n2, by show GOOD tx L l0 (updM (updM u _ _) _ (u _)); rw [upd_back]; exact gu⟩, by show HG tx L l0 (updM (updM u _ _) _ (u _)) H; rw [upd_back]; exact hg⟩
    have I2 : INVg h2 (updM u (xs (i + 1)).toNatClampNeg (xs (i + 2)).toNatClampNeg) tx L l0 f0 s0 m0 s s' ((((xs (i + 1)).toNatClampNeg, u (xs (i + 1)).toNatClampNeg) :: H).take 30) g ttx tL Ls xs := ⟨c1.ref mf, r2, gv.1, ⟨r12, m2, sl2, ml2, tc2, ⟨by rw [j2 2 (by decide) (by decide)]; exact tm1.1, by rw [k2 117 (by decide) (by decide) (by unfold LA2; omega)]; exact tm1.2⟩, by rw [E 5 (by decide) (nt95 (by decide) (by decide)) (by unfold CA K8 W6 H3; omega), j2 16 (by decide) (by decide), e116]; exact o.2.2.2.2.2.2⟩, hg2, gd, tb, tl, x2, s2⟩
    conv => whnf
    refine bk_t (rfl) ?_
    conv => whnf
    exact nx _ (ca + 0 + 0) (sl + 0 + 0) I2.inv (by omega) (by omega)
set_option maxRecDepth 20000 in
theorem law_undo {P : PSem} (S : SysOK P) {h : PH} {u tx : Nat → Nat} {L : Nat} {l0 : Nat → Int64} {f0 s0 m0 : Nat → Int32} {s s' : Nat} {H : List (Nat × Nat)} {g : Nat → Option (Nat → Nat)} {ttx : Nat → Nat} {tL Ls : Nat} {xs : Nat → Int32} (I : INVg h u tx L l0 f0 s0 m0 s s' H g ttx tL Ls xs) {i : Nat} (hi : i + 6 ≤ Ls) (hLs : Ls ≤ 3072) {ca sl : Nat} (hca : ca ≤ 2000) (hsl : sl ≤ 5000000) {K : PK} (nx : ∀ h' c' s', INV h' Ls xs → c' ≤ ca + 2 → s' ≤ sl + 8192 → P.2 n_Law_law 901 [some (.ref 1), some (.ref 5), some (.ref 116), some (.int (nI i))] [] h' c' s' K) : P.2 n_Law_law 137 [some (.ref 1), some (.ref 5), some (.ref 116), some (.int (nI i))] [] h ca sl K := by
  have o := I.2.2.2.1
  have tl := I.2.2.2.2.2.2.2.1
  have tb := I.2.2.2.2.2.2.1
  have hg := I.2.2.2.2.1
  have gd := I.2.2.2.2.2.1
  have ss := I.1.2.1.2.2
  have sb : (s = 96 ∨ s = 106) ∧ (s' = 96 ∨ s' = 106) := by
    unfold SS at ss
    omega
  refine S.at 120 [901] rfl ?_
  conv => whnf
  refine bifT (and3 (a := ca + 0) (b := 600000) (c := sl + 0) (d := 7302250) (by omega) (by omega) rfl) ?_
  conv => whnf
  refine ⟨wt_5 I.1.1.1, ?_⟩
  refine c_FT_undo S I.1 I.2.2.1 o.1 (fun ez => ?_) (fun x H' ex => ?_)
  · conv => whnf
    refine bifT (and3 (a := ca + 0 + 0) (b := 600000) (c := sl + 0 + 0) (d := 7302250) (by omega) (by omega) rfl) ?_
    conv => whnf
    refine ⟨wt_116 I.1.1.1, ?_⟩
    refine c_M_undo S I.2.1 o.2.1 (fun _ => ?_) (fun x H' ex => ?_)
    · conv => whnf
      refine bk_t (rfl) ?_
      conv => whnf
      exact nx _ (ca + 0 + 0) (sl + 0 + 0) I.inv (by omega) (by omega)
    · rw [ez] at ex
      exact absurd ex (by simp)
  · rw [ex] at hg
    obtain ⟨⟨xa, xb, gv⟩, hg2⟩ := hg
    refine ⟨xa, xb, gv, fun h1 c1 f1 r1 => ?_⟩
    have hw1 := c1.1.1
    have cA : ∀ k, CA k → k < 116 := fun k hk => by unfold CA K8 W6 H3 at hk; omega
    obtain ⟨mr1, ml1, tm1, e116⟩ := o.cls f1 cA
    have rst1 := RST_mx (MFX_FO f1 cA) hw1 I.2.1
    have t1' : hT h1 1 = 20 := (congrArg (fun x => x.1) f1.2.2).trans I.t1
    have n1' : hN h1 1 = Ls := (congrArg (fun x => x.2) f1.2.2).trans I.n1
    have E0 : ∀ k, k < 116 → ¬ twr k → ¬ CA k → hI h1 k = hI h k := fun k k1 k2 k3 => (f1.1 k (by omega) k2 k3).1
    have x1' : hI h1 1 = xs := (E0 1 (by decide) (nt95 (by decide) (by decide)) (by unfold CA K8 W6 H3; omega)).trans I.x1
    conv => whnf
    refine bifT (and3 (a := ca + 0 + 0) (b := 600000) (c := sl + 0 + 0) (d := 7302250) (by omega) (by omega) rfl) ?_
    conv => whnf
    refine ⟨wt_116 hw1, ?_⟩
    refine c_M_undo S rst1 mr1 (fun ez => ?_) (fun y H2 ey => ?_)
    · rw [ez] at ex
      exact absurd ex (by simp)
    rw [ex] at ey
    obtain ⟨rfl, rfl⟩ := List.cons.inj ey
    refine ⟨gv, fun h2 r2 m2 e2 j2 => ?_⟩
    have cB : ∀ k, (k = 116 ∨ LA2 k) → 116 ≤ k ∧ k ≤ 148 := fun k hk => by unfold LA2 at hk; omega
    have e12 : ∀ k, k < 116 → hI h2 k = hI h1 k := fun k hk => (e2.2.2.2 k (fun q => by have := cB k q; omega)).1
    have mf : MFR h1 h2 := eqY_mono cB e2
    have E : ∀ k, k < 116 → ¬ twr k → ¬ CA k → hI h2 k = hI h k := fun k k1 k2 k3 => (e12 k k1).trans (E0 k k1 k2 k3)
    have sl2 : SL h2 g := SL_eq (fun k k1 k2 => E k (by omega) (nt95 (by omega) (by omega)) (by unfold CA K8 W6 H3; omega)) o.2.2.1
    have tc2 : TC h2 ttx tL := ⟨by rw [E 6 (by decide) (nt95 (by decide) (by decide)) (by unfold CA K8 W6 H3; omega)]; exact o.2.2.2.2.1.1, by rw [E 7 (by decide) (nt95 (by decide) (by decide)) (by unfold CA K8 W6 H3; omega)]; exact o.2.2.2.2.1.2⟩
    have x2 : hI h2 1 = xs := (e12 1 (by decide)).trans x1'
    have s2 : h2.1 1 = (20, Ls) := by rw [e2.1, f1.2.2]; exact I.2.2.2.2.2.2.2.2.2
    have k2 : ∀ k, k ≠ 116 → ¬ LA2 k → hI h2 k = hI h1 k := fun k y1 hk => (e2.2.2.2 k (fun q => by rcases q with q | q; exact y1 q; exact hk q)).1
    have ml2 : ML h2 g := ML_eq (k2 142 (by decide) (by unfold LA2; omega)) (k2 143 (by decide) (by unfold LA2; omega)) ml1
    have I2 : INVg h2 (updM u x.1 x.2) tx L l0 f0 s0 m0 s s' H' g ttx tL Ls xs := ⟨c1.ref mf, r2, gv.1, ⟨r1.eq ⟨e12 85 (by decide), e12 86 (by decide), e12 87 (by decide)⟩, m2, sl2, ml2, tc2, ⟨by rw [j2 2 (by decide)]; exact tm1.1, by rw [k2 117 (by decide) (by unfold LA2; omega)]; exact tm1.2⟩, by rw [E 5 (by decide) (nt95 (by decide) (by decide)) (by unfold CA K8 W6 H3; omega), j2 16 (by decide), e116]; exact o.2.2.2.2.2.2⟩, hg2, gd, tb, tl, x2, s2⟩
    conv => whnf
    refine bk_t (rfl) ?_
    conv => whnf
    exact nx _ (ca + 0 + 0) (sl + 0 + 0) I2.inv (by omega) (by omega)
set_option maxRecDepth 20000 in
theorem law_hold {P : PSem} (S : SysOK P) {h : PH} {u tx : Nat → Nat} {L : Nat} {l0 : Nat → Int64} {f0 s0 m0 : Nat → Int32} {s s' : Nat} {H : List (Nat × Nat)} {g : Nat → Option (Nat → Nat)} {ttx : Nat → Nat} {tL Ls : Nat} {xs : Nat → Int32} (I : INVg h u tx L l0 f0 s0 m0 s s' H g ttx tL Ls xs) {i : Nat} (hi : i + 6 ≤ Ls) (hLs : Ls ≤ 3072) {ca sl : Nat} (hca : ca ≤ 2000) (hsl : sl ≤ 5000000) {K : PK} (nx : ∀ h' c' s', INV h' Ls xs → c' ≤ ca + 2 → s' ≤ sl + 8192 → P.2 n_Law_law 901 [some (.ref 1), some (.ref 5), some (.ref 116), some (.int (nI i))] [] h' c' s' K) : P.2 n_Law_law 850 [some (.ref 1), some (.ref 5), some (.ref 116), some (.int (nI i))] [] h ca sl K := by
  have o := I.2.2.2.1
  have tl := I.2.2.2.2.2.2.2.1
  have tb := I.2.2.2.2.2.2.1
  have hg := I.2.2.2.2.1
  have gd := I.2.2.2.2.2.1
  have ss := I.1.2.1.2.2
  have sb : (s = 96 ∨ s = 106) ∧ (s' = 96 ∨ s' = 106) := by
    unfold SS at ss
    omega
  have gu : GOOD tx L l0 u := ⟨I.2.2.1, I.1.2.2.2.2.1⟩
  refine S.at 120 [901] rfl ?_
  conv => whnf
  try rw [show (fun x y : Int32 => x + y) (nI i) 1 = nI (i + 1) from (zn_plus i 1).symm]
  refine ⟨inB_of (INVg.t1 I) (INVg.n1 I) (show i + 1 < Ls by omega) (by omega), ?_⟩
  conv => whnf
  rw [nI_clamp (show i + 1 < 2 ^ 31 by omega)]
  try rw [INVg.x1 I]
  refine bifT (and3 (a := ca + 0) (b := 600000) (c := sl + 0) (d := 7302250) (by omega) (by omega) rfl) ?_
  conv => whnf
  refine ⟨wt_5 I.1.1.1, ?_⟩
  refine c_FT_hold S I.1 o.2.2.1 (fun c => ?_) (fun q hq eq h1 c1 f1 sl1 => ?_)
  · conv => whnf
    try rw [show (fun x y : Int32 => x + y) (nI i) 1 = nI (i + 1) from (zn_plus i 1).symm]
    refine ⟨inB_of I.t1 I.n1 (show i + 1 < Ls by omega) (by omega), ?_⟩
    conv => whnf
    rw [nI_clamp (show i + 1 < 2 ^ 31 by omega)]
    try rw [I.x1]
    refine bifT (and3 (a := ca + 0 + 0) (b := 600000) (c := sl + 0 + 0) (d := 7302250) (by omega) (by omega) rfl) ?_
    conv => whnf
    refine ⟨wt_116 I.1.1.1, ?_⟩
    refine c_M_hold S I.2.1 o.2.2.2.1 (fun _ => ?_) (fun q hq eq => ?_)
    · conv => whnf
      refine bk_t (rfl) ?_
      conv => whnf
      exact nx _ (ca + 0 + 0) (sl + 0 + 0) I.inv (by omega) (by omega)
    · exfalso
      rw [eq] at c
      rcases c with c | c
      · exact absurd ((zn_lt (b := 0) (by omega) (by decide)).mp c) (by omega)
      · exact absurd ((zn_le (a := 3) (by decide) (by omega)).mp c) (by omega)
  · have hw1 := c1.1.1
    have cA : ∀ k, A90 k → k < 116 := fun k hk => by unfold A90 at hk; omega
    obtain ⟨mr1, ml1, tm1, e116⟩ := o.cls f1 cA
    have rst1 := RST_mx (MFX_FO f1 cA) hw1 I.2.1
    have t1' : hT h1 1 = 20 := (congrArg (fun x => x.1) f1.2.2).trans I.t1
    have n1' : hN h1 1 = Ls := (congrArg (fun x => x.2) f1.2.2).trans I.n1
    have E0 : ∀ k, k < 116 → ¬ twr k → ¬ A90 k → hI h1 k = hI h k := fun k k1 k2 k3 => (f1.1 k (by omega) k2 k3).1
    have x1' : hI h1 1 = xs := (E0 1 (by decide) (nt95 (by decide) (by decide)) (by unfold A90; omega)).trans I.x1
    conv => whnf
    try rw [show (fun x y : Int32 => x + y) (nI i) 1 = nI (i + 1) from (zn_plus i 1).symm]
    refine ⟨inB_of t1' n1' (show i + 1 < Ls by omega) (by omega), ?_⟩
    conv => whnf
    rw [nI_clamp (show i + 1 < 2 ^ 31 by omega)]
    try rw [x1']
    refine bifT (and3 (a := ca + 0 + 0) (b := 600000) (c := sl + 0 + 0) (d := 7302250) (by omega) (by omega) rfl) ?_
    conv => whnf
    refine ⟨wt_116 hw1, ?_⟩
    refine c_M_hold S rst1 ml1 (fun c => ?_) (fun q' hq' eq' h2 r2 ml2 e2 => ?_)
    · exfalso
      rw [eq] at c
      rcases c with c | c
      · exact absurd ((zn_lt (b := 0) (by omega) (by decide)).mp c) (by omega)
      · exact absurd ((zn_le (a := 3) (by decide) (by omega)).mp c) (by omega)
    have qq : q' = q := (zn_eq (by omega) (by omega)).mp (eq'.symm.trans eq)
    subst qq
    have e12 : ∀ k, k ≠ 142 → k ≠ 143 → hI h2 k = hI h1 k := fun k y1 y2 => (e2.2.2.2 k (by omega)).1
    have mf : MFR h1 h2 := eqY_mono (fun k hk => by omega) e2
    have E : ∀ k, k < 116 → ¬ twr k → ¬ A90 k → hI h2 k = hI h k := fun k k1 k2 k3 => (e12 k (by omega) (by omega)).trans (E0 k k1 k2 k3)
    have I2 : INVg h2 u tx L l0 f0 s0 m0 s s' H (fun k => if k = q' then some u else g k) ttx tL Ls xs := ⟨c1.ref mf, r2, I.2.2.1, ⟨o.1.eq ⟨E 85 (by decide) (nt95 (by decide) (by decide)) (by unfold A90; omega), E 86 (by decide) (nt95 (by decide) (by decide)) (by unfold A90; omega), E 87 (by decide) (nt95 (by decide) (by decide)) (by unfold A90; omega)⟩, MR_eq (by rw [e12 116 (by decide) (by decide)]) (by rw [e12 116 (by decide) (by decide)]) (e12 141 (by decide) (by decide)) mr1, SL_eq (fun k k1 k2 => e12 k (by omega) (by omega)) sl1, ml2, ⟨by rw [E 6 (by decide) (nt95 (by decide) (by decide)) (by unfold A90; omega)]; exact o.2.2.2.2.1.1, by rw [E 7 (by decide) (nt95 (by decide) (by decide)) (by unfold A90; omega)]; exact o.2.2.2.2.1.2⟩, ⟨by rw [e12 116 (by decide) (by decide)]; exact tm1.1, by rw [e12 117 (by decide) (by decide)]; exact tm1.2⟩, by rw [E 5 (by decide) (nt95 (by decide) (by decide)) (by unfold A90; omega), e12 116 (by decide) (by decide), e116]; exact o.2.2.2.2.2.2⟩, hg, fun z v hz hv => by
      have hv : (if z = q' then some u else g z) = some v := hv
      by_cases y : z = q'
      · rw [if_pos y] at hv
        rw [← Option.some.inj hv]
        exact gu
      · rw [if_neg y] at hv
        exact gd z v hz hv, tb, tl, (e12 1 (by decide) (by decide)).trans x1', by rw [e2.1, f1.2.2]; exact I.2.2.2.2.2.2.2.2.2⟩
    conv => whnf
    refine bk_t (rfl) ?_
    conv => whnf
    exact nx _ (ca + 0 + 0) (sl + 0 + 0) I2.inv (by omega) (by omega)
set_option maxRecDepth 20000 in
theorem law_restore {P : PSem} (S : SysOK P) {h : PH} {u tx : Nat → Nat} {L : Nat} {l0 : Nat → Int64} {f0 s0 m0 : Nat → Int32} {s s' : Nat} {H : List (Nat × Nat)} {g : Nat → Option (Nat → Nat)} {ttx : Nat → Nat} {tL Ls : Nat} {xs : Nat → Int32} (I : INVg h u tx L l0 f0 s0 m0 s s' H g ttx tL Ls xs) {i : Nat} (hi : i + 6 ≤ Ls) (hLs : Ls ≤ 3072) {ca sl : Nat} (hca : ca ≤ 2000) (hsl : sl ≤ 5000000) {K : PK} (nx : ∀ h' c' s', INV h' Ls xs → c' ≤ ca + 2 → s' ≤ sl + 8192 → P.2 n_Law_law 901 [some (.ref 1), some (.ref 5), some (.ref 116), some (.int (nI i))] [] h' c' s' K) : P.2 n_Law_law 867 [some (.ref 1), some (.ref 5), some (.ref 116), some (.int (nI i))] [] h ca sl K := by
  have o := I.2.2.2.1
  have tl := I.2.2.2.2.2.2.2.1
  have tb := I.2.2.2.2.2.2.1
  have hg := I.2.2.2.2.1
  have gd := I.2.2.2.2.2.1
  have ss := I.1.2.1.2.2
  have sb : (s = 96 ∨ s = 106) ∧ (s' = 96 ∨ s' = 106) := by
    unfold SS at ss
    omega
  refine S.at 120 [901] rfl ?_
  conv => whnf
  try rw [show (fun x y : Int32 => x + y) (nI i) 1 = nI (i + 1) from (zn_plus i 1).symm]
  refine ⟨inB_of (INVg.t1 I) (INVg.n1 I) (show i + 1 < Ls by omega) (by omega), ?_⟩
  conv => whnf
  rw [nI_clamp (show i + 1 < 2 ^ 31 by omega)]
  try rw [INVg.x1 I]
  refine bifT (and3 (a := ca + 0) (b := 600000) (c := sl + 0) (d := 7302250) (by omega) (by omega) rfl) ?_
  conv => whnf
  refine ⟨wt_5 I.1.1.1, ?_⟩
  refine c_FT_restore S I.1 I.2.2.1 o.2.2.1 (fun c => ?_) (fun q v hq eq eg => ?_)
  · conv => whnf
    try rw [show (fun x y : Int32 => x + y) (nI i) 1 = nI (i + 1) from (zn_plus i 1).symm]
    refine ⟨inB_of I.t1 I.n1 (show i + 1 < Ls by omega) (by omega), ?_⟩
    conv => whnf
    rw [nI_clamp (show i + 1 < 2 ^ 31 by omega)]
    try rw [I.x1]
    refine bifT (and3 (a := ca + 0 + 0) (b := 600000) (c := sl + 0 + 0) (d := 7302250) (by omega) (by omega) rfl) ?_
    conv => whnf
    refine ⟨wt_116 I.1.1.1, ?_⟩
    refine c_M_restore S I.2.1 o.2.2.2.1 (fun _ => ?_) (fun q v hq eq eg => ?_)
    · conv => whnf
      refine bk_t (rfl) ?_
      conv => whnf
      exact nx _ (ca + 0 + 0) (sl + 0 + 0) I.inv (by omega) (by omega)
    · exfalso
      rw [eq] at c
      rcases c with c | c | ⟨q2, hq2, eq2, eg2⟩
      · exact absurd ((zn_lt (b := 0) (by omega) (by decide)).mp c) (by omega)
      · exact absurd ((zn_le (a := 3) (by decide) (by omega)).mp c) (by omega)
      · rw [(zn_eq (by omega) (by omega)).mp eq2, eg2] at eg
        exact absurd eg (by simp)
  · have gv := gd q v hq eg
    refine ⟨gv, fun h1 c1 f1 l85 => ?_⟩
    have hw1 := c1.1.1
    have cA : ∀ k, CA k → k < 116 := fun k hk => by unfold CA K8 W6 H3 at hk; omega
    obtain ⟨mr1, ml1, tm1, e116⟩ := o.cls f1 cA
    have rst1 := RST_mx (MFX_FO f1 cA) hw1 I.2.1
    have t1' : hT h1 1 = 20 := (congrArg (fun x => x.1) f1.2.2).trans I.t1
    have n1' : hN h1 1 = Ls := (congrArg (fun x => x.2) f1.2.2).trans I.n1
    have E0 : ∀ k, k < 116 → ¬ twr k → ¬ CA k → hI h1 k = hI h k := fun k k1 k2 k3 => (f1.1 k (by omega) k2 k3).1
    have x1' : hI h1 1 = xs := (E0 1 (by decide) (nt95 (by decide) (by decide)) (by unfold CA K8 W6 H3; omega)).trans I.x1
    conv => whnf
    try rw [show (fun x y : Int32 => x + y) (nI i) 1 = nI (i + 1) from (zn_plus i 1).symm]
    refine ⟨inB_of t1' n1' (show i + 1 < Ls by omega) (by omega), ?_⟩
    conv => whnf
    rw [nI_clamp (show i + 1 < 2 ^ 31 by omega)]
    try rw [x1']
    refine bifT (and3 (a := ca + 0 + 0) (b := 600000) (c := sl + 0 + 0) (d := 7302250) (by omega) (by omega) rfl) ?_
    conv => whnf
    refine ⟨wt_116 hw1, ?_⟩
    refine c_M_restore S rst1 ml1 (fun c => ?_) (fun q' v' hq' eq' eg' => ?_)
    · exfalso
      rw [eq] at c
      rcases c with c | c | ⟨q2, hq2, eq2, eg2⟩
      · exact absurd ((zn_lt (b := 0) (by omega) (by decide)).mp c) (by omega)
      · exact absurd ((zn_le (a := 3) (by decide) (by omega)).mp c) (by omega)
      · rw [(zn_eq (by omega) (by omega)).mp eq2, eg2] at eg
        exact absurd eg (by simp)
    have qq : q' = q := (zn_eq (by omega) (by omega)).mp (eq'.symm.trans eq)
    subst qq
    have vv : v' = v := Option.some.inj (eg'.symm.trans eg)
    subst vv
    refine ⟨gv, fun h2 r2 l41 e2 j2 => ?_⟩
    have cB : ∀ k, (k = 116 ∨ LA2 k) → 116 ≤ k ∧ k ≤ 148 := fun k hk => by unfold LA2 at hk; omega
    have e12 : ∀ k, k < 116 → hI h2 k = hI h1 k := fun k hk => (e2.2.2.2 k (fun q => by have := cB k q; omega)).1
    have mf : MFR h1 h2 := eqY_mono cB e2
    have E : ∀ k, k < 116 → ¬ twr k → ¬ CA k → hI h2 k = hI h k := fun k k1 k2 k3 => (e12 k k1).trans (E0 k k1 k2 k3)
    have sl2 : SL h2 g := SL_eq (fun k k1 k2 => E k (by omega) (nt95 (by omega) (by omega)) (by unfold CA K8 W6 H3; omega)) o.2.2.1
    have tc2 : TC h2 ttx tL := ⟨by rw [E 6 (by decide) (nt95 (by decide) (by decide)) (by unfold CA K8 W6 H3; omega)]; exact o.2.2.2.2.1.1, by rw [E 7 (by decide) (nt95 (by decide) (by decide)) (by unfold CA K8 W6 H3; omega)]; exact o.2.2.2.2.1.2⟩
    have x2 : hI h2 1 = xs := (e12 1 (by decide)).trans x1'
    have s2 : h2.1 1 = (20, Ls) := by rw [e2.1, f1.2.2]; exact I.2.2.2.2.2.2.2.2.2
    have k2 : ∀ k, k ≠ 116 → ¬ LA2 k → hI h2 k = hI h1 k := fun k y1 hk => (e2.2.2.2 k (fun q => by rcases q with q | q; exact y1 q; exact hk q)).1
    have ml2 : ML h2 g := ML_eq (k2 142 (by decide) (by unfold LA2; omega)) (k2 143 (by decide) (by unfold LA2; omega)) ml1
    obtain ⟨e, y1, y2, y3, y4, y5⟩ := mr1
    have I2 : INVg h2 v' tx L l0 f0 s0 m0 s s' [] g ttx tL Ls xs := ⟨c1.ref mf, r2, gv.1, ⟨⟨(congrFun (e12 85 (by decide)) 2).trans l85, Nat.zero_le _, fun i x hx => absurd hx (by simp)⟩, ⟨e, y1, (j2 40 (by decide)).trans y2, l41, Nat.zero_le _, trivial⟩, sl2, ml2, tc2, ⟨by rw [j2 2 (by decide)]; exact tm1.1, by rw [k2 117 (by decide) (by unfold LA2; omega)]; exact tm1.2⟩, by rw [E 5 (by decide) (nt95 (by decide) (by decide)) (by unfold CA K8 W6 H3; omega), j2 16 (by decide), e116]; exact o.2.2.2.2.2.2⟩, trivial, gd, tb, tl, x2, s2⟩
    conv => whnf
    refine bk_t (rfl) ?_
    conv => whnf
    exact nx _ (ca + 0 + 0) (sl + 0 + 0) I2.inv (by omega) (by omega)
