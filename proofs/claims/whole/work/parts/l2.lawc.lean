/-! THE LAW: calls that change something; printed by wip/gen/lawc.py -/
theorem INVg.tape {h h2 : PH} {u tx : Nat → Nat} {L : Nat} {l0 : Nat → Int64} {f0 s0 m0 : Nat → Int32} {s s' : Nat} {H : List (Nat × Nat)} {g : Nat → Option (Nat → Nat)} {ttx : Nat → Nat} {tL Ls : Nat} {xs : Nat → Int32} (I : INVg h u tx L l0 f0 s0 m0 s s' H g ttx tL Ls xs) {ttx' : Nat → Nat} {tL' : Nat} (e : eqY (fun k => k = 6 ∨ k = 7 ∨ k = 116 ∨ k = 117) h h2) (j : ∀ j, j ≠ 2 → hI h2 116 j = hI h 116 j) (tc : TC h2 ttx' tL') (tm : TM h2 ttx' tL') (tb : TXB ttx') (tl : tL' ≤ 2000) : INVg h2 u tx L l0 f0 s0 m0 s s' H g ttx' tL' Ls xs := by
  obtain ⟨a, b, c, o, p, r, t, w, x, y⟩ := I
  have hC : CI h2 u (imF u) := CI_out (fun k hk => by omega) e a.1
  have ss := a.2.1.2.2
  have q : ∀ k, k ≠ 6 → k ≠ 7 → k ≠ 116 → k ≠ 117 → hI h2 k = hI h k := fun k y1 y2 y3 y4 => (e.2.2.2 k (by omega)).1
  obtain ⟨o1, o2, o3, o4, o5, o6, o7⟩ := o
  refine ⟨a.fo hC (FO_Y e) (fun k k1 k2 => by unfold SS at ss; omega) (by decide) (fun k k1 k2 => by omega) rfl, b.fr (J := fun j => j = 2) ⟨e, j⟩ (by decide) (by decide) (fun k k1 k2 k3 => by omega) (by decide), c, ⟨o1.eq ⟨q 85 (by decide) (by decide) (by decide) (by decide), q 86 (by decide) (by decide) (by decide) (by decide), q 87 (by decide) (by decide) (by decide) (by decide)⟩, MR_eq (j 40 (by decide)) (j 41 (by decide)) (q 141 (by decide) (by decide) (by decide) (by decide)) o2, fun z hz => ?_, fun z hz => ?_, tc, tm, ?_⟩, p, r, tb, tl, ?_, ?_⟩
  · rw [q 94 (by decide) (by decide) (by decide) (by decide), q (91 + z) (by omega) (by omega) (by omega) (by omega)]
    exact o3 z hz
  · rw [q 143 (by decide) (by decide) (by decide) (by decide), q 142 (by decide) (by decide) (by decide) (by decide)]
    exact o4 z hz
  · rw [q 5 (by decide) (by decide) (by decide) (by decide), j 16 (by decide)]
    exact o7
  · rw [q 1 (by decide) (by decide) (by decide) (by decide)]
    exact x
  · rw [e.1]
    exact y
theorem bk_no {n : Int32} {k L : Nat} (hL : L ≤ 2000) (e : n = nI k) (hk : k ≤ L) (c : n < 0 ∨ nI L < n) : False := by
  rw [e] at c
  rcases c with c | c
  · exact absurd ((zn_lt (b := 0) (by omega) (by decide)).mp c) (by omega)
  · exact absurd ((zn_lt (by omega) (by omega)).mp c) (by omega)
set_option maxRecDepth 20000 in
theorem law_feed {P : PSem} (S : SysOK P) {h : PH} {u tx : Nat → Nat} {L : Nat} {l0 : Nat → Int64} {f0 s0 m0 : Nat → Int32} {s s' : Nat} {H : List (Nat × Nat)} {g : Nat → Option (Nat → Nat)} {ttx : Nat → Nat} {tL Ls : Nat} {xs : Nat → Int32} (I : INVg h u tx L l0 f0 s0 m0 s s' H g ttx tL Ls xs) {i : Nat} (hi : i + 6 ≤ Ls) (hLs : Ls ≤ 3072) {ca sl : Nat} (hca : ca ≤ 2000) (hsl : sl ≤ 5000000) {K : PK} (nx : ∀ h' c' s', INV h' Ls xs → c' ≤ ca + 2 → s' ≤ sl + 8192 → P.2 n_Law_law 901 [some (.ref 1), some (.ref 5), some (.ref 116), some (.int (nI i))] [] h' c' s' K) : P.2 n_Law_law 22 [some (.ref 1), some (.ref 5), some (.ref 116), some (.int (nI i))] [] h ca sl K := by
  have o := I.2.2.2.1
  have tl := I.2.2.2.2.2.2.2.1
  have tb := I.2.2.2.2.2.2.1
  refine S.at 120 [901] rfl ?_
  conv => whnf
  try rw [show (fun x y : Int32 => x + y) (nI i) 1 = nI (i + 1) from (zn_plus i 1).symm]
  refine ⟨inB_of (INVg.t1 I) (INVg.n1 I) (show i + 1 < Ls by omega) (by omega), ?_⟩
  conv => whnf
  rw [nI_clamp (show i + 1 < 2 ^ 31 by omega)]
  try rw [INVg.x1 I]
  try rw [show (fun x y : Int32 => x + y) (nI i) 2 = nI (i + 2) from (zn_plus i 2).symm]
  refine ⟨inB_of (INVg.t1 I) (INVg.n1 I) (show i + 2 < Ls by omega) (by omega), ?_⟩
  conv => whnf
  rw [nI_clamp (show i + 2 < 2 ^ 31 by omega)]
  try rw [INVg.x1 I]
  try rw [show (fun x y : Int32 => x + y) (nI i) 3 = nI (i + 3) from (zn_plus i 3).symm]
  refine ⟨inB_of (INVg.t1 I) (INVg.n1 I) (show i + 3 < Ls by omega) (by omega), ?_⟩
  conv => whnf
  rw [nI_clamp (show i + 3 < 2 ^ 31 by omega)]
  try rw [INVg.x1 I]
  try rw [show (fun x y : Int32 => x + y) (nI i) 4 = nI (i + 4) from (zn_plus i 4).symm]
  refine ⟨inB_of (INVg.t1 I) (INVg.n1 I) (show i + 4 < Ls by omega) (by omega), ?_⟩
  conv => whnf
  rw [nI_clamp (show i + 4 < 2 ^ 31 by omega)]
  try rw [INVg.x1 I]
  try rw [show (fun x y : Int32 => x + y) (nI i) 5 = nI (i + 5) from (zn_plus i 5).symm]
  refine ⟨inB_of (INVg.t1 I) (INVg.n1 I) (show i + 5 < Ls by omega) (by omega), ?_⟩
  conv => whnf
  rw [nI_clamp (show i + 5 < 2 ^ 31 by omega)]
  try rw [INVg.x1 I]
  refine bifT (and3 (a := ca + 0) (b := 600000) (c := sl + 0) (d := 7302250) (by omega) (by omega) rfl) ?_
  conv => whnf
  refine ⟨wt_5 I.1.1.1, ?_⟩
  refine c_FT_feed S I.1.1.1 o.2.2.2.2.1 tl (fun c h1 f1 t1 => ?_) (fun c => ?_)
  · have hw1 := eqX_WS f1.1 I.1.1.1
    have t1' : hT h1 1 = 20 := by rw [eqX_T f1.1]; exact I.t1
    have n1' : hN h1 1 = Ls := by rw [eqX_N f1.1]; exact I.n1
    have x1' : hI h1 1 = xs := by rw [f1.1.2.2.2.2 1 (by unfold tpA; omega)]; exact I.x1
    have tm1 : TM h1 ttx tL := ⟨by rw [f1.1.2.2.2.2 116 (by unfold tpA; omega)]; exact o.2.2.2.2.2.1.1, by rw [f1.1.2.2.2.2 117 (by unfold tpA; omega)]; exact o.2.2.2.2.2.1.2⟩
    conv => whnf
    try rw [show (fun x y : Int32 => x + y) (nI i) 1 = nI (i + 1) from (zn_plus i 1).symm]
    refine ⟨inB_of t1' n1' (show i + 1 < Ls by omega) (by omega), ?_⟩
    conv => whnf
    rw [nI_clamp (show i + 1 < 2 ^ 31 by omega)]
    try rw [x1']
    try rw [show (fun x y : Int32 => x + y) (nI i) 2 = nI (i + 2) from (zn_plus i 2).symm]
    refine ⟨inB_of t1' n1' (show i + 2 < Ls by omega) (by omega), ?_⟩
    conv => whnf
    rw [nI_clamp (show i + 2 < 2 ^ 31 by omega)]
    try rw [x1']
    try rw [show (fun x y : Int32 => x + y) (nI i) 3 = nI (i + 3) from (zn_plus i 3).symm]
    refine ⟨inB_of t1' n1' (show i + 3 < Ls by omega) (by omega), ?_⟩
    conv => whnf
    rw [nI_clamp (show i + 3 < 2 ^ 31 by omega)]
    try rw [x1']
    try rw [show (fun x y : Int32 => x + y) (nI i) 4 = nI (i + 4) from (zn_plus i 4).symm]
    refine ⟨inB_of t1' n1' (show i + 4 < Ls by omega) (by omega), ?_⟩
    conv => whnf
    rw [nI_clamp (show i + 4 < 2 ^ 31 by omega)]
    try rw [x1']
    try rw [show (fun x y : Int32 => x + y) (nI i) 5 = nI (i + 5) from (zn_plus i 5).symm]
    refine ⟨inB_of t1' n1' (show i + 5 < Ls by omega) (by omega), ?_⟩
    conv => whnf
    rw [nI_clamp (show i + 5 < 2 ^ 31 by omega)]
    try rw [x1']
    refine bifT (and3 (a := ca + 0 + 0) (b := 600000) (c := sl + 0 + 0) (d := 7302250) (by omega) (by omega) rfl) ?_
    conv => whnf
    refine ⟨wt_116 hw1, ?_⟩
    refine c_M_feed S hw1 tm1 tl (fun _ h2 f2 t2 => ?_) (fun z => absurd z (by omega))
    have e12 : eqY (fun k => k = 6 ∨ k = 7 ∨ k = 116 ∨ k = 117) h h2 := eqY_tr (eqY_mono (fun k hk => by unfold tpA at hk; omega) f1.1.y) (eqY_mono (fun k hk => by omega) f2.1.y)
    have I2 := I.tape e12 (fun j hj => by rw [f2.2 j hj, f1.1.2.2.2.2 116 (by unfold tpA; omega)]) (ttx' := tx20 ttx tL (xs (i + 1)) (xs (i + 2)) (xs (i + 3)) (xs (i + 4)) (xs (i + 5))) (tL' := tL + 20) ⟨by rw [f2.1.2.2.2.2 6 (by decide)]; exact t1.1, by rw [f2.1.2.2.2.2 7 (by decide)]; exact t1.2⟩ t2 (tx4_B (tx4_B (tx4_B (tx4_B (tx4_B tb _ _) _ _) _ _) _ _) _ _) c
    conv => whnf
    refine bk_t (rfl) ?_
    conv => whnf
    exact nx _ (ca + 0 + 0) (sl + 0 + 0) I2.inv (by omega) (by omega)
  · conv => whnf
    try rw [show (fun x y : Int32 => x + y) (nI i) 1 = nI (i + 1) from (zn_plus i 1).symm]
    refine ⟨inB_of I.t1 I.n1 (show i + 1 < Ls by omega) (by omega), ?_⟩
    conv => whnf
    rw [nI_clamp (show i + 1 < 2 ^ 31 by omega)]
    try rw [I.x1]
    try rw [show (fun x y : Int32 => x + y) (nI i) 2 = nI (i + 2) from (zn_plus i 2).symm]
    refine ⟨inB_of I.t1 I.n1 (show i + 2 < Ls by omega) (by omega), ?_⟩
    conv => whnf
    rw [nI_clamp (show i + 2 < 2 ^ 31 by omega)]
    try rw [I.x1]
    try rw [show (fun x y : Int32 => x + y) (nI i) 3 = nI (i + 3) from (zn_plus i 3).symm]
    refine ⟨inB_of I.t1 I.n1 (show i + 3 < Ls by omega) (by omega), ?_⟩
    conv => whnf
    rw [nI_clamp (show i + 3 < 2 ^ 31 by omega)]
    try rw [I.x1]
    try rw [show (fun x y : Int32 => x + y) (nI i) 4 = nI (i + 4) from (zn_plus i 4).symm]
    refine ⟨inB_of I.t1 I.n1 (show i + 4 < Ls by omega) (by omega), ?_⟩
    conv => whnf
    rw [nI_clamp (show i + 4 < 2 ^ 31 by omega)]
    try rw [I.x1]
    try rw [show (fun x y : Int32 => x + y) (nI i) 5 = nI (i + 5) from (zn_plus i 5).symm]
    refine ⟨inB_of I.t1 I.n1 (show i + 5 < Ls by omega) (by omega), ?_⟩
    conv => whnf
    rw [nI_clamp (show i + 5 < 2 ^ 31 by omega)]
    try rw [I.x1]
    refine bifT (and3 (a := ca + 0 + 0) (b := 600000) (c := sl + 0 + 0) (d := 7302250) (by omega) (by omega) rfl) ?_
    conv => whnf
    refine ⟨wt_116 I.1.1.1, ?_⟩
    refine c_M_feed S I.1.1.1 o.2.2.2.2.2.1 tl (fun z => absurd z (by omega)) (fun _ => ?_)
    conv => whnf
    refine bk_t (rfl) ?_
    conv => whnf
    exact nx _ (ca + 0 + 0) (sl + 0 + 0) I.inv (by omega) (by omega)
set_option maxRecDepth 20000 in
theorem law_back {P : PSem} (S : SysOK P) {h : PH} {u tx : Nat → Nat} {L : Nat} {l0 : Nat → Int64} {f0 s0 m0 : Nat → Int32} {s s' : Nat} {H : List (Nat × Nat)} {g : Nat → Option (Nat → Nat)} {ttx : Nat → Nat} {tL Ls : Nat} {xs : Nat → Int32} (I : INVg h u tx L l0 f0 s0 m0 s s' H g ttx tL Ls xs) {i : Nat} (hi : i + 6 ≤ Ls) (hLs : Ls ≤ 3072) {ca sl : Nat} (hca : ca ≤ 2000) (hsl : sl ≤ 5000000) {K : PK} (nx : ∀ h' c' s', INV h' Ls xs → c' ≤ ca + 2 → s' ≤ sl + 8192 → P.2 n_Law_law 901 [some (.ref 1), some (.ref 5), some (.ref 116), some (.int (nI i))] [] h' c' s' K) : P.2 n_Law_law 79 [some (.ref 1), some (.ref 5), some (.ref 116), some (.int (nI i))] [] h ca sl K := by
  have o := I.2.2.2.1
  have tl := I.2.2.2.2.2.2.2.1
  have tb := I.2.2.2.2.2.2.1
  refine S.at 120 [901] rfl ?_
  conv => whnf
  try rw [show (fun x y : Int32 => x + y) (nI i) 1 = nI (i + 1) from (zn_plus i 1).symm]
  refine ⟨inB_of (INVg.t1 I) (INVg.n1 I) (show i + 1 < Ls by omega) (by omega), ?_⟩
  conv => whnf
  rw [nI_clamp (show i + 1 < 2 ^ 31 by omega)]
  try rw [INVg.x1 I]
  refine bifT (and3 (a := ca + 0) (b := 600000) (c := sl + 0) (d := 7302250) (by omega) (by omega) rfl) ?_
  conv => whnf
  refine ⟨wt_5 I.1.1.1, ?_⟩
  refine c_FT_back S I.1.1.1 o.2.2.2.2.1 tl (fun k ek kl h1 f1 t1 => ?_) (fun c => ?_)
  · have hw1 := eqX_WS f1.1 I.1.1.1
    have t1' : hT h1 1 = 20 := by rw [eqX_T f1.1]; exact I.t1
    have n1' : hN h1 1 = Ls := by rw [eqX_N f1.1]; exact I.n1
    have x1' : hI h1 1 = xs := by rw [f1.1.2.2.2.2 1 (by unfold tpA; omega)]; exact I.x1
    have tm1 : TM h1 ttx tL := ⟨by rw [f1.1.2.2.2.2 116 (by unfold tpA; omega)]; exact o.2.2.2.2.2.1.1, by rw [f1.1.2.2.2.2 117 (by unfold tpA; omega)]; exact o.2.2.2.2.2.1.2⟩
    conv => whnf
    try rw [show (fun x y : Int32 => x + y) (nI i) 1 = nI (i + 1) from (zn_plus i 1).symm]
    refine ⟨inB_of t1' n1' (show i + 1 < Ls by omega) (by omega), ?_⟩
    conv => whnf
    rw [nI_clamp (show i + 1 < 2 ^ 31 by omega)]
    try rw [x1']
    refine bifT (and3 (a := ca + 0 + 0) (b := 600000) (c := sl + 0 + 0) (d := 7302250) (by omega) (by omega) rfl) ?_
    conv => whnf
    refine ⟨wt_116 hw1, ?_⟩
    refine c_M_back S hw1 tm1 tl (fun k' ek' kl' h2 f2 t2 => ?_) (fun z => (bk_no tl ek kl z).elim)
    have kk : k' = k := (zn_eq (by omega) (by omega)).mp (ek'.symm.trans ek)
    subst kk
    have e12 : eqY (fun k => k = 6 ∨ k = 7 ∨ k = 116 ∨ k = 117) h h2 := eqY_tr (eqY_mono (fun k hk => by unfold tpA at hk; omega) f1.1.y) (eqY_mono (fun k hk => by omega) f2.1.y)
    have I2 := I.tape e12 (fun j hj => by rw [f2.2 j hj, f1.1.2.2.2.2 116 (by unfold tpA; omega)]) (ttx' := ttx) (tL' := tL - k') ⟨by rw [f2.1.2.2.2.2 6 (by decide)]; exact t1.1, by rw [f2.1.2.2.2.2 7 (by decide)]; exact t1.2⟩ t2 tb (by omega)
    conv => whnf
    refine bk_t (rfl) ?_
    conv => whnf
    exact nx _ (ca + 0 + 0) (sl + 0 + 0) I2.inv (by omega) (by omega)
  · conv => whnf
    try rw [show (fun x y : Int32 => x + y) (nI i) 1 = nI (i + 1) from (zn_plus i 1).symm]
    refine ⟨inB_of I.t1 I.n1 (show i + 1 < Ls by omega) (by omega), ?_⟩
    conv => whnf
    rw [nI_clamp (show i + 1 < 2 ^ 31 by omega)]
    try rw [I.x1]
    refine bifT (and3 (a := ca + 0 + 0) (b := 600000) (c := sl + 0 + 0) (d := 7302250) (by omega) (by omega) rfl) ?_
    conv => whnf
    refine ⟨wt_116 I.1.1.1, ?_⟩
    refine c_M_back S I.1.1.1 o.2.2.2.2.2.1 tl (fun k' ek' kl' h2 f2 t2 => (bk_no tl ek' kl' c).elim) (fun _ => ?_)
    conv => whnf
    refine bk_t (rfl) ?_
    conv => whnf
    exact nx _ (ca + 0 + 0) (sl + 0 + 0) I.inv (by omega) (by omega)
set_option maxRecDepth 20000 in
theorem law_place {P : PSem} (S : SysOK P) {h : PH} {u tx : Nat → Nat} {L : Nat} {l0 : Nat → Int64} {f0 s0 m0 : Nat → Int32} {s s' : Nat} {H : List (Nat × Nat)} {g : Nat → Option (Nat → Nat)} {ttx : Nat → Nat} {tL Ls : Nat} {xs : Nat → Int32} (I : INVg h u tx L l0 f0 s0 m0 s s' H g ttx tL Ls xs) {i : Nat} (hi : i + 6 ≤ Ls) (hLs : Ls ≤ 3072) {ca sl : Nat} (hca : ca ≤ 2000) (hsl : sl ≤ 5000000) {K : PK} (nx : ∀ h' c' s', INV h' Ls xs → c' ≤ ca + 2 → s' ≤ sl + 8192 → P.2 n_Law_law 901 [some (.ref 1), some (.ref 5), some (.ref 116), some (.int (nI i))] [] h' c' s' K) : P.2 n_Law_law 103 [some (.ref 1), some (.ref 5), some (.ref 116), some (.int (nI i))] [] h ca sl K := by
  have o := I.2.2.2.1
  refine S.at 120 [901] rfl ?_
  conv => whnf
  refine bifT (and3 (a := ca + 0) (b := 600000) (c := sl + 0) (d := 7302250) (by omega) (by omega) rfl) ?_
  conv => whnf
  refine ⟨wt_5 I.1.1.1, ?_⟩
  refine c_FT_place S I.1.1.1 ?_
  conv => whnf
  refine bifT (and3 (a := ca + 0 + 0) (b := 600000) (c := sl + 0 + 0) (d := 7302250) (by omega) (by omega) rfl) ?_
  conv => whnf
  refine ⟨wt_116 I.1.1.1, ?_⟩
  refine c_M_place S I.1.1.1 ?_
  rw [o.2.2.2.2.2.2]
  conv => whnf
  refine bk_t (rfl) ?_
  conv => whnf
  exact nx _ (ca + 0 + 0) (sl + 0 + 0) I.inv (by omega) (by omega)
set_option maxRecDepth 20000 in
theorem law_down {P : PSem} (S : SysOK P) {h : PH} {u tx : Nat → Nat} {L : Nat} {l0 : Nat → Int64} {f0 s0 m0 : Nat → Int32} {s s' : Nat} {H : List (Nat × Nat)} {g : Nat → Option (Nat → Nat)} {ttx : Nat → Nat} {tL Ls : Nat} {xs : Nat → Int32} (I : INVg h u tx L l0 f0 s0 m0 s s' H g ttx tL Ls xs) {i : Nat} (hi : i + 6 ≤ Ls) (hLs : Ls ≤ 3072) {ca sl : Nat} (hca : ca ≤ 2000) (hsl : sl ≤ 5000000) {K : PK} (nx : ∀ h' c' s', INV h' Ls xs → c' ≤ ca + 2 → s' ≤ sl + 8192 → P.2 n_Law_law 901 [some (.ref 1), some (.ref 5), some (.ref 116), some (.int (nI i))] [] h' c' s' K) : P.2 n_Law_law 407 [some (.ref 1), some (.ref 5), some (.ref 116), some (.int (nI i))] [] h ca sl K := by
  have g432 : ∀ v, v = bI (decide (¬ xs (i + 4) = 0)) → P.2 n_Law_law 432 [some (.ref 1), some (.ref 5), some (.ref 116), some (.int (nI i))] [.int v, .int (xs (i + 3)), .int (xs (i + 2)), .int (xs (i + 1)), .ref 5] h ca sl K := by
    intro v hv
    rw [hv]
    refine S.at 120 [458,901] rfl ?_
    conv => whnf
    refine bifT (and3 (a := ca + 0) (b := 600000) (c := sl + 0) (d := 7302250) (by omega) (by omega) rfl) ?_
    conv => whnf
    refine ⟨wt_5 I.1.1.1, ?_⟩
    refine c_FT_down S I.1.1 I.2.2.1 _ _ _ _ ?_
    intro h1 a1 a2
    have I1 := I.q a1 a2
    have g458 : ∀ v, v = bI (decide (¬ xs (i + 4) = 0)) → P.2 n_Law_law 458 [some (.ref 1), some (.ref 5), some (.ref 116), some (.int (nI i))] [.int v, .int (xs (i + 3)), .int (xs (i + 2)), .int (xs (i + 1)), .ref 116, .int (sDown u (xs (i + 1)) (xs (i + 2)) (xs (i + 3)) (decide (¬ xs (i + 4) = 0)))] h1 (ca + 0) (sl + 0) K := by
      intro v hv
      rw [hv]
      refine S.at 120 [901] rfl ?_
      conv => whnf
      refine bifT (and3 (a := ca + 0 + 0) (b := 600000) (c := sl + 0 + 0) (d := 7302250) (by omega) (by omega) rfl) ?_
      conv => whnf
      refine ⟨wt_116 I1.1.1.1, ?_⟩
      refine c_M_down S I1.2.1.1 I.2.2.1 _ _ _ _ ?_
      conv => whnf
      refine bk_t (rfl) ?_
      conv => whnf
      exact nx _ (ca + 0 + 0) (sl + 0 + 0) I1.inv (by omega) (by omega)
    conv => whnf
    try rw [show (fun x y : Int32 => x + y) (nI i) 1 = nI (i + 1) from (zn_plus i 1).symm]
    refine ⟨inB_of (INVg.t1 I1) (INVg.n1 I1) (show i + 1 < Ls by omega) (by omega), ?_⟩
    conv => whnf
    rw [nI_clamp (show i + 1 < 2 ^ 31 by omega)]
    try rw [INVg.x1 I1]
    try rw [show (fun x y : Int32 => x + y) (nI i) 2 = nI (i + 2) from (zn_plus i 2).symm]
    refine ⟨inB_of (INVg.t1 I1) (INVg.n1 I1) (show i + 2 < Ls by omega) (by omega), ?_⟩
    conv => whnf
    rw [nI_clamp (show i + 2 < 2 ^ 31 by omega)]
    try rw [INVg.x1 I1]
    try rw [show (fun x y : Int32 => x + y) (nI i) 3 = nI (i + 3) from (zn_plus i 3).symm]
    refine ⟨inB_of (INVg.t1 I1) (INVg.n1 I1) (show i + 3 < Ls by omega) (by omega), ?_⟩
    conv => whnf
    rw [nI_clamp (show i + 3 < 2 ^ 31 by omega)]
    try rw [INVg.x1 I1]
    try rw [show (fun x y : Int32 => x + y) (nI i) 4 = nI (i + 4) from (zn_plus i 4).symm]
    refine ⟨inB_of (INVg.t1 I1) (INVg.n1 I1) (show i + 4 < Ls by omega) (by omega), ?_⟩
    conv => whnf
    rw [nI_clamp (show i + 4 < 2 ^ 31 by omega)]
    try rw [INVg.x1 I1]
    refine ⟨fun c => ?_, fun c => ?_⟩
    · conv => whnf
      exact g458 _ (by rw [decide_eq_false (fun y => y c)]; rfl)
    · conv => whnf
      exact g458 _ (by rw [decide_eq_true c]; rfl)
  refine S.at 120 [432,901] rfl ?_
  conv => whnf
  try rw [show (fun x y : Int32 => x + y) (nI i) 1 = nI (i + 1) from (zn_plus i 1).symm]
  refine ⟨inB_of (INVg.t1 I) (INVg.n1 I) (show i + 1 < Ls by omega) (by omega), ?_⟩
  conv => whnf
  rw [nI_clamp (show i + 1 < 2 ^ 31 by omega)]
  try rw [INVg.x1 I]
  try rw [show (fun x y : Int32 => x + y) (nI i) 2 = nI (i + 2) from (zn_plus i 2).symm]
  refine ⟨inB_of (INVg.t1 I) (INVg.n1 I) (show i + 2 < Ls by omega) (by omega), ?_⟩
  conv => whnf
  rw [nI_clamp (show i + 2 < 2 ^ 31 by omega)]
  try rw [INVg.x1 I]
  try rw [show (fun x y : Int32 => x + y) (nI i) 3 = nI (i + 3) from (zn_plus i 3).symm]
  refine ⟨inB_of (INVg.t1 I) (INVg.n1 I) (show i + 3 < Ls by omega) (by omega), ?_⟩
  conv => whnf
  rw [nI_clamp (show i + 3 < 2 ^ 31 by omega)]
  try rw [INVg.x1 I]
  try rw [show (fun x y : Int32 => x + y) (nI i) 4 = nI (i + 4) from (zn_plus i 4).symm]
  refine ⟨inB_of (INVg.t1 I) (INVg.n1 I) (show i + 4 < Ls by omega) (by omega), ?_⟩
  conv => whnf
  rw [nI_clamp (show i + 4 < 2 ^ 31 by omega)]
  try rw [INVg.x1 I]
  refine ⟨fun c => ?_, fun c => ?_⟩
  · conv => whnf
    exact g432 _ (by rw [decide_eq_false (fun y => y c)]; rfl)
  · conv => whnf
    exact g432 _ (by rw [decide_eq_true c]; rfl)
set_option maxRecDepth 20000 in
theorem law_let {P : PSem} (S : SysOK P) {h : PH} {u tx : Nat → Nat} {L : Nat} {l0 : Nat → Int64} {f0 s0 m0 : Nat → Int32} {s s' : Nat} {H : List (Nat × Nat)} {g : Nat → Option (Nat → Nat)} {ttx : Nat → Nat} {tL Ls : Nat} {xs : Nat → Int32} (I : INVg h u tx L l0 f0 s0 m0 s s' H g ttx tL Ls xs) {i : Nat} (hi : i + 6 ≤ Ls) (hLs : Ls ≤ 3072) {ca sl : Nat} (hca : ca ≤ 2000) (hsl : sl ≤ 5000000) {K : PK} (nx : ∀ h' c' s', INV h' Ls xs → c' ≤ ca + 2 → s' ≤ sl + 8192 → P.2 n_Law_law 901 [some (.ref 1), some (.ref 5), some (.ref 116), some (.int (nI i))] [] h' c' s' K) : P.2 n_Law_law 823 [some (.ref 1), some (.ref 5), some (.ref 116), some (.int (nI i))] [] h ca sl K := by
  refine S.at 120 [901] rfl ?_
  conv => whnf
  try rw [show (fun x y : Int32 => x + y) (nI i) 1 = nI (i + 1) from (zn_plus i 1).symm]
  refine ⟨inB_of (INVg.t1 I) (INVg.n1 I) (show i + 1 < Ls by omega) (by omega), ?_⟩
  conv => whnf
  rw [nI_clamp (show i + 1 < 2 ^ 31 by omega)]
  try rw [INVg.x1 I]
  try rw [show (fun x y : Int32 => x + y) (nI i) 2 = nI (i + 2) from (zn_plus i 2).symm]
  refine ⟨inB_of (INVg.t1 I) (INVg.n1 I) (show i + 2 < Ls by omega) (by omega), ?_⟩
  conv => whnf
  rw [nI_clamp (show i + 2 < 2 ^ 31 by omega)]
  try rw [INVg.x1 I]
  refine bifT (and3 (a := ca + 0) (b := 600000) (c := sl + 0) (d := 7302250) (by omega) (by omega) rfl) ?_
  conv => whnf
  refine ⟨wt_5 I.1.1.1, ?_⟩
  refine c_FT_let S I.1 I.2.2.1 (fun c => ?_) (fun q hq eq h1 a1 a2 => ?_)
  · conv => whnf
    try rw [show (fun x y : Int32 => x + y) (nI i) 1 = nI (i + 1) from (zn_plus i 1).symm]
    refine ⟨inB_of I.t1 I.n1 (show i + 1 < Ls by omega) (by omega), ?_⟩
    conv => whnf
    rw [nI_clamp (show i + 1 < 2 ^ 31 by omega)]
    try rw [I.x1]
    try rw [show (fun x y : Int32 => x + y) (nI i) 2 = nI (i + 2) from (zn_plus i 2).symm]
    refine ⟨inB_of I.t1 I.n1 (show i + 2 < Ls by omega) (by omega), ?_⟩
    conv => whnf
    rw [nI_clamp (show i + 2 < 2 ^ 31 by omega)]
    try rw [I.x1]
    refine bifT (and3 (a := ca + 0 + 0) (b := 600000) (c := sl + 0 + 0) (d := 7302250) (by omega) (by omega) rfl) ?_
    conv => whnf
    refine ⟨wt_116 I.1.1.1, ?_⟩
    refine c_M_let S I.2.1 I.2.2.1 (fun _ => ?_) (fun q hq eq => ?_)
    · conv => whnf
      refine bk_t (rfl) ?_
      conv => whnf
      exact nx _ (ca + 0 + 0) (sl + 0 + 0) I.inv (by omega) (by omega)
    · exfalso
      have c8 := (cnm_le (tx := tx) (L := L) (t := pT (tkk tx L)) (Nat.le_refl _)).1
      rw [eq] at c
      rcases c with c | c
      · exact absurd ((zn_lt (b := 0) (by omega) (by decide)).mp c) (by omega)
      · exact absurd ((zn_le (by omega) (by omega)).mp c) (by omega)
  · have I1 := I.q a1 a2
    conv => whnf
    try rw [show (fun x y : Int32 => x + y) (nI i) 1 = nI (i + 1) from (zn_plus i 1).symm]
    refine ⟨inB_of I1.t1 I1.n1 (show i + 1 < Ls by omega) (by omega), ?_⟩
    conv => whnf
    rw [nI_clamp (show i + 1 < 2 ^ 31 by omega)]
    try rw [I1.x1]
    try rw [show (fun x y : Int32 => x + y) (nI i) 2 = nI (i + 2) from (zn_plus i 2).symm]
    refine ⟨inB_of I1.t1 I1.n1 (show i + 2 < Ls by omega) (by omega), ?_⟩
    conv => whnf
    rw [nI_clamp (show i + 2 < 2 ^ 31 by omega)]
    try rw [I1.x1]
    refine bifT (and3 (a := ca + 0 + 0) (b := 600000) (c := sl + 0 + 0) (d := 7302250) (by omega) (by omega) rfl) ?_
    conv => whnf
    refine ⟨wt_116 I1.1.1.1, ?_⟩
    refine c_M_let S I1.2.1 I.2.2.1 (fun c => ?_) (fun q' hq' eq' => ?_)
    · exfalso
      have c8 := (cnm_le (tx := tx) (L := L) (t := pT (tkk tx L)) (Nat.le_refl _)).1
      rw [eq] at c
      rcases c with c | c
      · exact absurd ((zn_lt (b := 0) (by omega) (by decide)).mp c) (by omega)
      · exact absurd ((zn_le (by omega) (by omega)).mp c) (by omega)
    · have c8 := (cnm_le (tx := tx) (L := L) (t := pT (tkk tx L)) (Nat.le_refl _)).1
      have qq : q' = q := (zn_eq (by omega) (by omega)).mp (eq'.symm.trans eq)
      subst qq
      conv => whnf
      refine bk_t (rfl) ?_
      conv => whnf
      exact nx _ (ca + 0 + 0) (sl + 0 + 0) I1.inv (by omega) (by omega)
set_option maxRecDepth 20000 in
theorem law_count {P : PSem} (S : SysOK P) {h : PH} {u tx : Nat → Nat} {L : Nat} {l0 : Nat → Int64} {f0 s0 m0 : Nat → Int32} {s s' : Nat} {H : List (Nat × Nat)} {g : Nat → Option (Nat → Nat)} {ttx : Nat → Nat} {tL Ls : Nat} {xs : Nat → Int32} (I : INVg h u tx L l0 f0 s0 m0 s s' H g ttx tL Ls xs) {i : Nat} (hi : i + 6 ≤ Ls) (hLs : Ls ≤ 3072) {ca sl : Nat} (hca : ca ≤ 2000) (hsl : sl ≤ 5000000) {K : PK} (nx : ∀ h' c' s', INV h' Ls xs → c' ≤ ca + 2 → s' ≤ sl + 8192 → P.2 n_Law_law 901 [some (.ref 1), some (.ref 5), some (.ref 116), some (.int (nI i))] [] h' c' s' K) : P.2 n_Law_law 884 [some (.ref 1), some (.ref 5), some (.ref 116), some (.int (nI i))] [] h ca sl K := by
  have o := I.2.2.2.1
  obtain ⟨e, e1, e2, e3, e4, e5⟩ := o.2.1
  refine S.at 120 [901] rfl ?_
  conv => whnf
  try rw [show (fun x y : Int32 => x + y) (nI i) 1 = nI (i + 1) from (zn_plus i 1).symm]
  refine ⟨inB_of (INVg.t1 I) (INVg.n1 I) (show i + 1 < Ls by omega) (by omega), ?_⟩
  conv => whnf
  rw [nI_clamp (show i + 1 < 2 ^ 31 by omega)]
  try rw [INVg.x1 I]
  refine bifT (and3 (a := ca + 0) (b := 600000) (c := sl + 0) (d := 7302250) (by omega) (by omega) rfl) ?_
  conv => whnf
  refine ⟨wt_5 I.1.1.1, ?_⟩
  refine c_FT_count S I.1 I.2.2.1 o.2.2.1 o.2.2.2.2.1.1 o.1.1 ?_
  conv => whnf
  try rw [show (fun x y : Int32 => x + y) (nI i) 1 = nI (i + 1) from (zn_plus i 1).symm]
  refine ⟨inB_of I.t1 I.n1 (show i + 1 < Ls by omega) (by omega), ?_⟩
  conv => whnf
  rw [nI_clamp (show i + 1 < 2 ^ 31 by omega)]
  try rw [I.x1]
  refine bifT (and3 (a := ca + 0 + 0) (b := 600000) (c := sl + 0 + 0) (d := 7302250) (by omega) (by omega) rfl) ?_
  conv => whnf
  refine ⟨wt_116 I.1.1.1, ?_⟩
  refine c_M_count S I.2.1 I.2.2.1 o.2.2.2.1 o.2.2.2.2.2.1.1 e3 ?_
  conv => whnf
  refine bk_t (rfl) ?_
  conv => whnf
  exact nx _ (ca + 0 + 0) (sl + 0 + 0) I.inv (by omega) (by omega)
