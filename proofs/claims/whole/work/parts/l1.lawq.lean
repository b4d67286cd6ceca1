/-! THE LAW: calls that ask; printed by wip/gen/lawq.py -/
def INV (h : PH) (Ls : Nat) (xs : Nat → Int32) : Prop := ∃ u tx L l0 f0 s0 m0 s s' H g ttx tL, INVg h u tx L l0 f0 s0 m0 s s' H g ttx tL Ls xs
theorem INVg.t1 {h : PH} {u tx : Nat → Nat} {L : Nat} {l0 : Nat → Int64} {f0 s0 m0 : Nat → Int32} {s s' : Nat} {H : List (Nat × Nat)} {g : Nat → Option (Nat → Nat)} {ttx : Nat → Nat} {tL Ls : Nat} {xs : Nat → Int32} (I : INVg h u tx L l0 f0 s0 m0 s s' H g ttx tL Ls xs) : hT h 1 = 20 := congrArg (fun x => x.1) I.2.2.2.2.2.2.2.2.2
theorem INVg.n1 {h : PH} {u tx : Nat → Nat} {L : Nat} {l0 : Nat → Int64} {f0 s0 m0 : Nat → Int32} {s s' : Nat} {H : List (Nat × Nat)} {g : Nat → Option (Nat → Nat)} {ttx : Nat → Nat} {tL Ls : Nat} {xs : Nat → Int32} (I : INVg h u tx L l0 f0 s0 m0 s s' H g ttx tL Ls xs) : hN h 1 = Ls := congrArg (fun x => x.2) I.2.2.2.2.2.2.2.2.2
theorem INVg.x1 {h : PH} {u tx : Nat → Nat} {L : Nat} {l0 : Nat → Int64} {f0 s0 m0 : Nat → Int32} {s s' : Nat} {H : List (Nat × Nat)} {g : Nat → Option (Nat → Nat)} {ttx : Nat → Nat} {tL Ls : Nat} {xs : Nat → Int32} (I : INVg h u tx L l0 f0 s0 m0 s s' H g ttx tL Ls xs) : hI h 1 = xs := I.2.2.2.2.2.2.2.2.1
theorem INVg.inv {h : PH} {u tx : Nat → Nat} {L : Nat} {l0 : Nat → Int64} {f0 s0 m0 : Nat → Int32} {s s' : Nat} {H : List (Nat × Nat)} {g : Nat → Option (Nat → Nat)} {ttx : Nat → Nat} {tL Ls : Nat} {xs : Nat → Int32} (I : INVg h u tx L l0 f0 s0 m0 s s' H g ttx tL Ls xs) : INV h Ls xs := ⟨u, tx, L, l0, f0, s0, m0, s, s', H, g, ttx, tL, I⟩
set_option maxRecDepth 20000 in
theorem law_modulus {P : PSem} (S : SysOK P) {h : PH} {u tx : Nat → Nat} {L : Nat} {l0 : Nat → Int64} {f0 s0 m0 : Nat → Int32} {s s' : Nat} {H : List (Nat × Nat)} {g : Nat → Option (Nat → Nat)} {ttx : Nat → Nat} {tL Ls : Nat} {xs : Nat → Int32} (I : INVg h u tx L l0 f0 s0 m0 s s' H g ttx tL Ls xs) {i : Nat} (hi : i + 6 ≤ Ls) (hLs : Ls ≤ 3072) {ca sl : Nat} (hca : ca ≤ 2000) (hsl : sl ≤ 5000000) {K : PK} (nx : ∀ h' c' s', INV h' Ls xs → c' ≤ ca + 2 → s' ≤ sl + 8192 → P.2 n_Law_law 901 [some (.ref 1), some (.ref 5), some (.ref 116), some (.int (nI i))] [] h' c' s' K) : P.2 n_Law_law 144 [some (.ref 1), some (.ref 5), some (.ref 116), some (.int (nI i))] [] h ca sl K := by
  refine S.at 100 [901] rfl ?_
  conv => whnf
  try rw [show (fun x y : Int32 => x + y) (nI i) 1 = nI (i + 1) from (zn_plus i 1).symm]
  refine ⟨inB_of (INVg.t1 I) (INVg.n1 I) (show i + 1 < Ls by omega) (by omega), ?_⟩
  conv => whnf
  rw [nI_clamp (show i + 1 < 2 ^ 31 by omega)]
  try rw [INVg.x1 I]
  refine bifT (and3 (a := ca + 0) (b := 600000) (c := sl + 0) (d := 7302250) (by omega) (by omega) rfl) ?_
  conv => whnf
  refine ⟨wt_5 I.1.1.1, ?_⟩
  refine c_FT_modulus S I.1.1.1 I.1.1.2.1 _ ?_
  conv => whnf
  try rw [show (fun x y : Int32 => x + y) (nI i) 1 = nI (i + 1) from (zn_plus i 1).symm]
  refine ⟨inB_of (INVg.t1 I) (INVg.n1 I) (show i + 1 < Ls by omega) (by omega), ?_⟩
  conv => whnf
  rw [nI_clamp (show i + 1 < 2 ^ 31 by omega)]
  try rw [INVg.x1 I]
  refine bifT (and3 (a := ca + 0 + 0) (b := 600000) (c := sl + 0 + 0) (d := 7302250) (by omega) (by omega) rfl) ?_
  conv => whnf
  refine ⟨wt_116 I.1.1.1, ?_⟩
  refine c_M_modulus S I.2.1.1 _ ?_
  conv => whnf
  refine bk_t (rfl) ?_
  conv => whnf
  exact nx _ (ca + 0 + 0) (sl + 0 + 0) I.inv (by omega) (by omega)
set_option maxRecDepth 20000 in
theorem law_whole {P : PSem} (S : SysOK P) {h : PH} {u tx : Nat → Nat} {L : Nat} {l0 : Nat → Int64} {f0 s0 m0 : Nat → Int32} {s s' : Nat} {H : List (Nat × Nat)} {g : Nat → Option (Nat → Nat)} {ttx : Nat → Nat} {tL Ls : Nat} {xs : Nat → Int32} (I : INVg h u tx L l0 f0 s0 m0 s s' H g ttx tL Ls xs) {i : Nat} (hi : i + 6 ≤ Ls) (hLs : Ls ≤ 3072) {ca sl : Nat} (hca : ca ≤ 2000) (hsl : sl ≤ 5000000) {K : PK} (nx : ∀ h' c' s', INV h' Ls xs → c' ≤ ca + 2 → s' ≤ sl + 8192 → P.2 n_Law_law 901 [some (.ref 1), some (.ref 5), some (.ref 116), some (.int (nI i))] [] h' c' s' K) : P.2 n_Law_law 161 [some (.ref 1), some (.ref 5), some (.ref 116), some (.int (nI i))] [] h ca sl K := by
  refine S.at 100 [901] rfl ?_
  conv => whnf
  try rw [show (fun x y : Int32 => x + y) (nI i) 1 = nI (i + 1) from (zn_plus i 1).symm]
  refine ⟨inB_of (INVg.t1 I) (INVg.n1 I) (show i + 1 < Ls by omega) (by omega), ?_⟩
  conv => whnf
  rw [nI_clamp (show i + 1 < 2 ^ 31 by omega)]
  try rw [INVg.x1 I]
  refine bifT (and3 (a := ca + 0) (b := 600000) (c := sl + 0) (d := 7302250) (by omega) (by omega) rfl) ?_
  conv => whnf
  refine ⟨wt_5 I.1.1.1, ?_⟩
  refine c_FT_whole S _ ?_
  conv => whnf
  try rw [show (fun x y : Int32 => x + y) (nI i) 1 = nI (i + 1) from (zn_plus i 1).symm]
  refine ⟨inB_of (INVg.t1 I) (INVg.n1 I) (show i + 1 < Ls by omega) (by omega), ?_⟩
  conv => whnf
  rw [nI_clamp (show i + 1 < 2 ^ 31 by omega)]
  try rw [INVg.x1 I]
  refine bifT (and3 (a := ca + 0 + 0) (b := 600000) (c := sl + 0 + 0) (d := 7302250) (by omega) (by omega) rfl) ?_
  conv => whnf
  refine ⟨wt_116 I.1.1.1, ?_⟩
  refine c_M_whole S I.2.1.1 _ ?_
  conv => whnf
  refine bk_t (rfl) ?_
  conv => whnf
  exact nx _ (ca + 0 + 0) (sl + 0 + 0) I.inv (by omega) (by omega)
set_option maxRecDepth 20000 in
theorem law_next {P : PSem} (S : SysOK P) {h : PH} {u tx : Nat → Nat} {L : Nat} {l0 : Nat → Int64} {f0 s0 m0 : Nat → Int32} {s s' : Nat} {H : List (Nat × Nat)} {g : Nat → Option (Nat → Nat)} {ttx : Nat → Nat} {tL Ls : Nat} {xs : Nat → Int32} (I : INVg h u tx L l0 f0 s0 m0 s s' H g ttx tL Ls xs) {i : Nat} (hi : i + 6 ≤ Ls) (hLs : Ls ≤ 3072) {ca sl : Nat} (hca : ca ≤ 2000) (hsl : sl ≤ 5000000) {K : PK} (nx : ∀ h' c' s', INV h' Ls xs → c' ≤ ca + 2 → s' ≤ sl + 8192 → P.2 n_Law_law 901 [some (.ref 1), some (.ref 5), some (.ref 116), some (.int (nI i))] [] h' c' s' K) : P.2 n_Law_law 178 [some (.ref 1), some (.ref 5), some (.ref 116), some (.int (nI i))] [] h ca sl K := by
  refine S.at 100 [901] rfl ?_
  conv => whnf
  try rw [show (fun x y : Int32 => x + y) (nI i) 1 = nI (i + 1) from (zn_plus i 1).symm]
  refine ⟨inB_of (INVg.t1 I) (INVg.n1 I) (show i + 1 < Ls by omega) (by omega), ?_⟩
  conv => whnf
  rw [nI_clamp (show i + 1 < 2 ^ 31 by omega)]
  try rw [INVg.x1 I]
  refine bifT (and3 (a := ca + 0) (b := 600000) (c := sl + 0) (d := 7302250) (by omega) (by omega) rfl) ?_
  conv => whnf
  refine ⟨wt_5 I.1.1.1, ?_⟩
  refine c_FT_next S _ ?_
  conv => whnf
  try rw [show (fun x y : Int32 => x + y) (nI i) 1 = nI (i + 1) from (zn_plus i 1).symm]
  refine ⟨inB_of (INVg.t1 I) (INVg.n1 I) (show i + 1 < Ls by omega) (by omega), ?_⟩
  conv => whnf
  rw [nI_clamp (show i + 1 < 2 ^ 31 by omega)]
  try rw [INVg.x1 I]
  refine bifT (and3 (a := ca + 0 + 0) (b := 600000) (c := sl + 0 + 0) (d := 7302250) (by omega) (by omega) rfl) ?_
  conv => whnf
  refine ⟨wt_116 I.1.1.1, ?_⟩
  refine c_M_next S I.2.1.1 _ ?_
  conv => whnf
  refine bk_t (rfl) ?_
  conv => whnf
  exact nx _ (ca + 0 + 0) (sl + 0 + 0) I.inv (by omega) (by omega)
set_option maxRecDepth 20000 in
theorem law_wholes {P : PSem} (S : SysOK P) {h : PH} {u tx : Nat → Nat} {L : Nat} {l0 : Nat → Int64} {f0 s0 m0 : Nat → Int32} {s s' : Nat} {H : List (Nat × Nat)} {g : Nat → Option (Nat → Nat)} {ttx : Nat → Nat} {tL Ls : Nat} {xs : Nat → Int32} (I : INVg h u tx L l0 f0 s0 m0 s s' H g ttx tL Ls xs) {i : Nat} (hi : i + 6 ≤ Ls) (hLs : Ls ≤ 3072) {ca sl : Nat} (hca : ca ≤ 2000) (hsl : sl ≤ 5000000) {K : PK} (nx : ∀ h' c' s', INV h' Ls xs → c' ≤ ca + 2 → s' ≤ sl + 8192 → P.2 n_Law_law 901 [some (.ref 1), some (.ref 5), some (.ref 116), some (.int (nI i))] [] h' c' s' K) : P.2 n_Law_law 195 [some (.ref 1), some (.ref 5), some (.ref 116), some (.int (nI i))] [] h ca sl K := by
  refine S.at 100 [901] rfl ?_
  conv => whnf
  try rw [show (fun x y : Int32 => x + y) (nI i) 1 = nI (i + 1) from (zn_plus i 1).symm]
  refine ⟨inB_of (INVg.t1 I) (INVg.n1 I) (show i + 1 < Ls by omega) (by omega), ?_⟩
  conv => whnf
  rw [nI_clamp (show i + 1 < 2 ^ 31 by omega)]
  try rw [INVg.x1 I]
  refine bifT (and3 (a := ca + 0) (b := 600000) (c := sl + 0) (d := 7302250) (by omega) (by omega) rfl) ?_
  conv => whnf
  refine ⟨wt_5 I.1.1.1, ?_⟩
  refine c_FT_wholes S I.1.1.1 I.1.2.2.2.2.2.2.2.1 _ ?_
  conv => whnf
  try rw [show (fun x y : Int32 => x + y) (nI i) 1 = nI (i + 1) from (zn_plus i 1).symm]
  refine ⟨inB_of (INVg.t1 I) (INVg.n1 I) (show i + 1 < Ls by omega) (by omega), ?_⟩
  conv => whnf
  rw [nI_clamp (show i + 1 < 2 ^ 31 by omega)]
  try rw [INVg.x1 I]
  refine bifT (and3 (a := ca + 0 + 0) (b := 600000) (c := sl + 0 + 0) (d := 7302250) (by omega) (by omega) rfl) ?_
  conv => whnf
  refine ⟨wt_116 I.1.1.1, ?_⟩
  refine c_M_wholes S I.2.1.1 _ ?_
  conv => whnf
  refine bk_t (rfl) ?_
  conv => whnf
  exact nx _ (ca + 0 + 0) (sl + 0 + 0) I.inv (by omega) (by omega)
set_option maxRecDepth 20000 in
theorem law_both {P : PSem} (S : SysOK P) {h : PH} {u tx : Nat → Nat} {L : Nat} {l0 : Nat → Int64} {f0 s0 m0 : Nat → Int32} {s s' : Nat} {H : List (Nat × Nat)} {g : Nat → Option (Nat → Nat)} {ttx : Nat → Nat} {tL Ls : Nat} {xs : Nat → Int32} (I : INVg h u tx L l0 f0 s0 m0 s s' H g ttx tL Ls xs) {i : Nat} (hi : i + 6 ≤ Ls) (hLs : Ls ≤ 3072) {ca sl : Nat} (hca : ca ≤ 2000) (hsl : sl ≤ 5000000) {K : PK} (nx : ∀ h' c' s', INV h' Ls xs → c' ≤ ca + 2 → s' ≤ sl + 8192 → P.2 n_Law_law 901 [some (.ref 1), some (.ref 5), some (.ref 116), some (.int (nI i))] [] h' c' s' K) : P.2 n_Law_law 212 [some (.ref 1), some (.ref 5), some (.ref 116), some (.int (nI i))] [] h ca sl K := by
  refine S.at 100 [901] rfl ?_
  conv => whnf
  try rw [show (fun x y : Int32 => x + y) (nI i) 1 = nI (i + 1) from (zn_plus i 1).symm]
  refine ⟨inB_of (INVg.t1 I) (INVg.n1 I) (show i + 1 < Ls by omega) (by omega), ?_⟩
  conv => whnf
  rw [nI_clamp (show i + 1 < 2 ^ 31 by omega)]
  try rw [INVg.x1 I]
  try rw [show (fun x y : Int32 => x + y) (nI i) 2 = nI (i + 2) from (zn_plus i 2).symm]
  refine ⟨inB_of (INVg.t1 I) (INVg.n1 I) (show i + 2 < Ls by omega) (by omega), ?_⟩
  conv => whnf
  rw [nI_clamp (show i + 2 < 2 ^ 31 by omega)]
  try rw [INVg.x1 I]
  try rw [show (fun x y : Int32 => x + y) (nI i) 3 = nI (i + 3) from (zn_plus i 3).symm]
  refine ⟨inB_of (INVg.t1 I) (INVg.n1 I) (show i + 3 < Ls by omega) (by omega), ?_⟩
  conv => whnf
  rw [nI_clamp (show i + 3 < 2 ^ 31 by omega)]
  try rw [INVg.x1 I]
  try rw [show (fun x y : Int32 => x + y) (nI i) 4 = nI (i + 4) from (zn_plus i 4).symm]
  refine ⟨inB_of (INVg.t1 I) (INVg.n1 I) (show i + 4 < Ls by omega) (by omega), ?_⟩
  conv => whnf
  rw [nI_clamp (show i + 4 < 2 ^ 31 by omega)]
  try rw [INVg.x1 I]
  refine bifT (and3 (a := ca + 0) (b := 600000) (c := sl + 0) (d := 7302250) (by omega) (by omega) rfl) ?_
  conv => whnf
  refine ⟨wt_5 I.1.1.1, ?_⟩
  refine c_FT_both S I.1.1.1 I.1.1.2.1 I.2.2.1 _ _ _ _ ?_
  conv => whnf
  try rw [show (fun x y : Int32 => x + y) (nI i) 1 = nI (i + 1) from (zn_plus i 1).symm]
  refine ⟨inB_of (INVg.t1 I) (INVg.n1 I) (show i + 1 < Ls by omega) (by omega), ?_⟩
  conv => whnf
  rw [nI_clamp (show i + 1 < 2 ^ 31 by omega)]
  try rw [INVg.x1 I]
  try rw [show (fun x y : Int32 => x + y) (nI i) 2 = nI (i + 2) from (zn_plus i 2).symm]
  refine ⟨inB_of (INVg.t1 I) (INVg.n1 I) (show i + 2 < Ls by omega) (by omega), ?_⟩
  conv => whnf
  rw [nI_clamp (show i + 2 < 2 ^ 31 by omega)]
  try rw [INVg.x1 I]
  try rw [show (fun x y : Int32 => x + y) (nI i) 3 = nI (i + 3) from (zn_plus i 3).symm]
  refine ⟨inB_of (INVg.t1 I) (INVg.n1 I) (show i + 3 < Ls by omega) (by omega), ?_⟩
  conv => whnf
  rw [nI_clamp (show i + 3 < 2 ^ 31 by omega)]
  try rw [INVg.x1 I]
  try rw [show (fun x y : Int32 => x + y) (nI i) 4 = nI (i + 4) from (zn_plus i 4).symm]
  refine ⟨inB_of (INVg.t1 I) (INVg.n1 I) (show i + 4 < Ls by omega) (by omega), ?_⟩
  conv => whnf
  rw [nI_clamp (show i + 4 < 2 ^ 31 by omega)]
  try rw [INVg.x1 I]
  refine bifT (and3 (a := ca + 0 + 0) (b := 600000) (c := sl + 0 + 0) (d := 7302250) (by omega) (by omega) rfl) ?_
  conv => whnf
  refine ⟨wt_116 I.1.1.1, ?_⟩
  refine c_M_both S I.2.1.1 I.2.2.1 _ _ _ _ ?_
  conv => whnf
  refine bk_t (rfl) ?_
  conv => whnf
  exact nx _ (ca + 0 + 0) (sl + 0 + 0) I.inv (by omega) (by omega)
set_option maxRecDepth 20000 in
theorem law_power {P : PSem} (S : SysOK P) {h : PH} {u tx : Nat → Nat} {L : Nat} {l0 : Nat → Int64} {f0 s0 m0 : Nat → Int32} {s s' : Nat} {H : List (Nat × Nat)} {g : Nat → Option (Nat → Nat)} {ttx : Nat → Nat} {tL Ls : Nat} {xs : Nat → Int32} (I : INVg h u tx L l0 f0 s0 m0 s s' H g ttx tL Ls xs) {i : Nat} (hi : i + 6 ≤ Ls) (hLs : Ls ≤ 3072) {ca sl : Nat} (hca : ca ≤ 2000) (hsl : sl ≤ 5000000) {K : PK} (nx : ∀ h' c' s', INV h' Ls xs → c' ≤ ca + 2 → s' ≤ sl + 8192 → P.2 n_Law_law 901 [some (.ref 1), some (.ref 5), some (.ref 116), some (.int (nI i))] [] h' c' s' K) : P.2 n_Law_law 259 [some (.ref 1), some (.ref 5), some (.ref 116), some (.int (nI i))] [] h ca sl K := by
  refine S.at 100 [901] rfl ?_
  conv => whnf
  try rw [show (fun x y : Int32 => x + y) (nI i) 1 = nI (i + 1) from (zn_plus i 1).symm]
  refine ⟨inB_of (INVg.t1 I) (INVg.n1 I) (show i + 1 < Ls by omega) (by omega), ?_⟩
  conv => whnf
  rw [nI_clamp (show i + 1 < 2 ^ 31 by omega)]
  try rw [INVg.x1 I]
  try rw [show (fun x y : Int32 => x + y) (nI i) 2 = nI (i + 2) from (zn_plus i 2).symm]
  refine ⟨inB_of (INVg.t1 I) (INVg.n1 I) (show i + 2 < Ls by omega) (by omega), ?_⟩
  conv => whnf
  rw [nI_clamp (show i + 2 < 2 ^ 31 by omega)]
  try rw [INVg.x1 I]
  try rw [show (fun x y : Int32 => x + y) (nI i) 3 = nI (i + 3) from (zn_plus i 3).symm]
  refine ⟨inB_of (INVg.t1 I) (INVg.n1 I) (show i + 3 < Ls by omega) (by omega), ?_⟩
  conv => whnf
  rw [nI_clamp (show i + 3 < 2 ^ 31 by omega)]
  try rw [INVg.x1 I]
  refine bifT (and3 (a := ca + 0) (b := 600000) (c := sl + 0) (d := 7302250) (by omega) (by omega) rfl) ?_
  conv => whnf
  refine ⟨wt_5 I.1.1.1, ?_⟩
  refine c_FT_power S I.1.1.1 I.1.1.2.1 I.2.2.1 _ _ _ ?_
  conv => whnf
  try rw [show (fun x y : Int32 => x + y) (nI i) 1 = nI (i + 1) from (zn_plus i 1).symm]
  refine ⟨inB_of (INVg.t1 I) (INVg.n1 I) (show i + 1 < Ls by omega) (by omega), ?_⟩
  conv => whnf
  rw [nI_clamp (show i + 1 < 2 ^ 31 by omega)]
  try rw [INVg.x1 I]
  try rw [show (fun x y : Int32 => x + y) (nI i) 2 = nI (i + 2) from (zn_plus i 2).symm]
  refine ⟨inB_of (INVg.t1 I) (INVg.n1 I) (show i + 2 < Ls by omega) (by omega), ?_⟩
  conv => whnf
  rw [nI_clamp (show i + 2 < 2 ^ 31 by omega)]
  try rw [INVg.x1 I]
  try rw [show (fun x y : Int32 => x + y) (nI i) 3 = nI (i + 3) from (zn_plus i 3).symm]
  refine ⟨inB_of (INVg.t1 I) (INVg.n1 I) (show i + 3 < Ls by omega) (by omega), ?_⟩
  conv => whnf
  rw [nI_clamp (show i + 3 < 2 ^ 31 by omega)]
  try rw [INVg.x1 I]
  refine bifT (and3 (a := ca + 0 + 0) (b := 600000) (c := sl + 0 + 0) (d := 7302250) (by omega) (by omega) rfl) ?_
  conv => whnf
  refine ⟨wt_116 I.1.1.1, ?_⟩
  refine c_M_power S I.2.1.1 I.2.2.1 _ _ _ ?_
  conv => whnf
  refine bk_t (rfl) ?_
  conv => whnf
  exact nx _ (ca + 0 + 0) (sl + 0 + 0) I.inv (by omega) (by omega)
set_option maxRecDepth 20000 in
theorem law_element {P : PSem} (S : SysOK P) {h : PH} {u tx : Nat → Nat} {L : Nat} {l0 : Nat → Int64} {f0 s0 m0 : Nat → Int32} {s s' : Nat} {H : List (Nat × Nat)} {g : Nat → Option (Nat → Nat)} {ttx : Nat → Nat} {tL Ls : Nat} {xs : Nat → Int32} (I : INVg h u tx L l0 f0 s0 m0 s s' H g ttx tL Ls xs) {i : Nat} (hi : i + 6 ≤ Ls) (hLs : Ls ≤ 3072) {ca sl : Nat} (hca : ca ≤ 2000) (hsl : sl ≤ 5000000) {K : PK} (nx : ∀ h' c' s', INV h' Ls xs → c' ≤ ca + 2 → s' ≤ sl + 8192 → P.2 n_Law_law 901 [some (.ref 1), some (.ref 5), some (.ref 116), some (.int (nI i))] [] h' c' s' K) : P.2 n_Law_law 296 [some (.ref 1), some (.ref 5), some (.ref 116), some (.int (nI i))] [] h ca sl K := by
  refine S.at 100 [901] rfl ?_
  conv => whnf
  try rw [show (fun x y : Int32 => x + y) (nI i) 1 = nI (i + 1) from (zn_plus i 1).symm]
  refine ⟨inB_of (INVg.t1 I) (INVg.n1 I) (show i + 1 < Ls by omega) (by omega), ?_⟩
  conv => whnf
  rw [nI_clamp (show i + 1 < 2 ^ 31 by omega)]
  try rw [INVg.x1 I]
  try rw [show (fun x y : Int32 => x + y) (nI i) 2 = nI (i + 2) from (zn_plus i 2).symm]
  refine ⟨inB_of (INVg.t1 I) (INVg.n1 I) (show i + 2 < Ls by omega) (by omega), ?_⟩
  conv => whnf
  rw [nI_clamp (show i + 2 < 2 ^ 31 by omega)]
  try rw [INVg.x1 I]
  try rw [show (fun x y : Int32 => x + y) (nI i) 3 = nI (i + 3) from (zn_plus i 3).symm]
  refine ⟨inB_of (INVg.t1 I) (INVg.n1 I) (show i + 3 < Ls by omega) (by omega), ?_⟩
  conv => whnf
  rw [nI_clamp (show i + 3 < 2 ^ 31 by omega)]
  try rw [INVg.x1 I]
  refine bifT (and3 (a := ca + 1) (b := 600000) (c := sl + 4096) (d := 7302250) (by omega) (by omega) rfl) ?_
  conv => whnf
  refine ⟨wt_5 I.1.1.1, ?_⟩
  refine c_FT_element S I.1.1 I.2.2.1 _ _ _ ?_
  intro h1 a1 a2
  have I1 := I.q a1 a2
  conv => whnf
  try rw [show (fun x y : Int32 => x + y) (nI i) 1 = nI (i + 1) from (zn_plus i 1).symm]
  refine ⟨inB_of (INVg.t1 I1) (INVg.n1 I1) (show i + 1 < Ls by omega) (by omega), ?_⟩
  conv => whnf
  rw [nI_clamp (show i + 1 < 2 ^ 31 by omega)]
  try rw [INVg.x1 I1]
  try rw [show (fun x y : Int32 => x + y) (nI i) 2 = nI (i + 2) from (zn_plus i 2).symm]
  refine ⟨inB_of (INVg.t1 I1) (INVg.n1 I1) (show i + 2 < Ls by omega) (by omega), ?_⟩
  conv => whnf
  rw [nI_clamp (show i + 2 < 2 ^ 31 by omega)]
  try rw [INVg.x1 I1]
  try rw [show (fun x y : Int32 => x + y) (nI i) 3 = nI (i + 3) from (zn_plus i 3).symm]
  refine ⟨inB_of (INVg.t1 I1) (INVg.n1 I1) (show i + 3 < Ls by omega) (by omega), ?_⟩
  conv => whnf
  rw [nI_clamp (show i + 3 < 2 ^ 31 by omega)]
  try rw [INVg.x1 I1]
  refine bifT (and3 (a := ca + 1 + 0) (b := 600000) (c := sl + 4096 + 0) (d := 7302250) (by omega) (by omega) rfl) ?_
  conv => whnf
  refine ⟨wt_116 I1.1.1.1, ?_⟩
  refine c_M_element S I1.2.1.1 I.2.2.1 _ _ _ ?_
  intro h2 e2
  have I2 := I1.m (mq_MNX e2) (fun k hk => by unfold mq at hk; omega) (fun j hj => absurd hj id)
  conv => whnf
  refine bk_t (rfl) ?_
  conv => whnf
  exact nx _ (ca + 1 + 0) (sl + 4096 + 0) I2.inv (by omega) (by omega)
set_option maxRecDepth 20000 in
theorem law_raise {P : PSem} (S : SysOK P) {h : PH} {u tx : Nat → Nat} {L : Nat} {l0 : Nat → Int64} {f0 s0 m0 : Nat → Int32} {s s' : Nat} {H : List (Nat × Nat)} {g : Nat → Option (Nat → Nat)} {ttx : Nat → Nat} {tL Ls : Nat} {xs : Nat → Int32} (I : INVg h u tx L l0 f0 s0 m0 s s' H g ttx tL Ls xs) {i : Nat} (hi : i + 6 ≤ Ls) (hLs : Ls ≤ 3072) {ca sl : Nat} (hca : ca ≤ 2000) (hsl : sl ≤ 5000000) {K : PK} (nx : ∀ h' c' s', INV h' Ls xs → c' ≤ ca + 2 → s' ≤ sl + 8192 → P.2 n_Law_law 901 [some (.ref 1), some (.ref 5), some (.ref 116), some (.int (nI i))] [] h' c' s' K) : P.2 n_Law_law 333 [some (.ref 1), some (.ref 5), some (.ref 116), some (.int (nI i))] [] h ca sl K := by
  refine S.at 100 [901] rfl ?_
  conv => whnf
  try rw [show (fun x y : Int32 => x + y) (nI i) 1 = nI (i + 1) from (zn_plus i 1).symm]
  refine ⟨inB_of (INVg.t1 I) (INVg.n1 I) (show i + 1 < Ls by omega) (by omega), ?_⟩
  conv => whnf
  rw [nI_clamp (show i + 1 < 2 ^ 31 by omega)]
  try rw [INVg.x1 I]
  try rw [show (fun x y : Int32 => x + y) (nI i) 2 = nI (i + 2) from (zn_plus i 2).symm]
  refine ⟨inB_of (INVg.t1 I) (INVg.n1 I) (show i + 2 < Ls by omega) (by omega), ?_⟩
  conv => whnf
  rw [nI_clamp (show i + 2 < 2 ^ 31 by omega)]
  try rw [INVg.x1 I]
  try rw [show (fun x y : Int32 => x + y) (nI i) 3 = nI (i + 3) from (zn_plus i 3).symm]
  refine ⟨inB_of (INVg.t1 I) (INVg.n1 I) (show i + 3 < Ls by omega) (by omega), ?_⟩
  conv => whnf
  rw [nI_clamp (show i + 3 < 2 ^ 31 by omega)]
  try rw [INVg.x1 I]
  refine bifT (and3 (a := ca + 0) (b := 600000) (c := sl + 0) (d := 7302250) (by omega) (by omega) rfl) ?_
  conv => whnf
  refine ⟨wt_5 I.1.1.1, ?_⟩
  refine c_FT_raise S I.1.1 I.2.2.1 _ _ _ ?_
  intro h1 a1 a2
  have I1 := I.q a1 a2
  conv => whnf
  try rw [show (fun x y : Int32 => x + y) (nI i) 1 = nI (i + 1) from (zn_plus i 1).symm]
  refine ⟨inB_of (INVg.t1 I1) (INVg.n1 I1) (show i + 1 < Ls by omega) (by omega), ?_⟩
  conv => whnf
  rw [nI_clamp (show i + 1 < 2 ^ 31 by omega)]
  try rw [INVg.x1 I1]
  try rw [show (fun x y : Int32 => x + y) (nI i) 2 = nI (i + 2) from (zn_plus i 2).symm]
  refine ⟨inB_of (INVg.t1 I1) (INVg.n1 I1) (show i + 2 < Ls by omega) (by omega), ?_⟩
  conv => whnf
  rw [nI_clamp (show i + 2 < 2 ^ 31 by omega)]
  try rw [INVg.x1 I1]
  try rw [show (fun x y : Int32 => x + y) (nI i) 3 = nI (i + 3) from (zn_plus i 3).symm]
  refine ⟨inB_of (INVg.t1 I1) (INVg.n1 I1) (show i + 3 < Ls by omega) (by omega), ?_⟩
  conv => whnf
  rw [nI_clamp (show i + 3 < 2 ^ 31 by omega)]
  try rw [INVg.x1 I1]
  refine bifT (and3 (a := ca + 0 + 0) (b := 600000) (c := sl + 0 + 0) (d := 7302250) (by omega) (by omega) rfl) ?_
  conv => whnf
  refine ⟨wt_116 I1.1.1.1, ?_⟩
  refine c_M_raise S I1.2.1.1 I.2.2.1 _ _ _ ?_
  conv => whnf
  refine bk_t (rfl) ?_
  conv => whnf
  exact nx _ (ca + 0 + 0) (sl + 0 + 0) I1.inv (by omega) (by omega)
set_option maxRecDepth 20000 in
theorem law_lower {P : PSem} (S : SysOK P) {h : PH} {u tx : Nat → Nat} {L : Nat} {l0 : Nat → Int64} {f0 s0 m0 : Nat → Int32} {s s' : Nat} {H : List (Nat × Nat)} {g : Nat → Option (Nat → Nat)} {ttx : Nat → Nat} {tL Ls : Nat} {xs : Nat → Int32} (I : INVg h u tx L l0 f0 s0 m0 s s' H g ttx tL Ls xs) {i : Nat} (hi : i + 6 ≤ Ls) (hLs : Ls ≤ 3072) {ca sl : Nat} (hca : ca ≤ 2000) (hsl : sl ≤ 5000000) {K : PK} (nx : ∀ h' c' s', INV h' Ls xs → c' ≤ ca + 2 → s' ≤ sl + 8192 → P.2 n_Law_law 901 [some (.ref 1), some (.ref 5), some (.ref 116), some (.int (nI i))] [] h' c' s' K) : P.2 n_Law_law 370 [some (.ref 1), some (.ref 5), some (.ref 116), some (.int (nI i))] [] h ca sl K := by
  refine S.at 100 [901] rfl ?_
  conv => whnf
  try rw [show (fun x y : Int32 => x + y) (nI i) 1 = nI (i + 1) from (zn_plus i 1).symm]
  refine ⟨inB_of (INVg.t1 I) (INVg.n1 I) (show i + 1 < Ls by omega) (by omega), ?_⟩
  conv => whnf
  rw [nI_clamp (show i + 1 < 2 ^ 31 by omega)]
  try rw [INVg.x1 I]
  try rw [show (fun x y : Int32 => x + y) (nI i) 2 = nI (i + 2) from (zn_plus i 2).symm]
  refine ⟨inB_of (INVg.t1 I) (INVg.n1 I) (show i + 2 < Ls by omega) (by omega), ?_⟩
  conv => whnf
  rw [nI_clamp (show i + 2 < 2 ^ 31 by omega)]
  try rw [INVg.x1 I]
  try rw [show (fun x y : Int32 => x + y) (nI i) 3 = nI (i + 3) from (zn_plus i 3).symm]
  refine ⟨inB_of (INVg.t1 I) (INVg.n1 I) (show i + 3 < Ls by omega) (by omega), ?_⟩
  conv => whnf
  rw [nI_clamp (show i + 3 < 2 ^ 31 by omega)]
  try rw [INVg.x1 I]
  refine bifT (and3 (a := ca + 0) (b := 600000) (c := sl + 0) (d := 7302250) (by omega) (by omega) rfl) ?_
  conv => whnf
  refine ⟨wt_5 I.1.1.1, ?_⟩
  refine c_FT_lower S I.1.1 I.2.2.1 _ _ _ ?_
  intro h1 a1 a2
  have I1 := I.q a1 a2
  conv => whnf
  try rw [show (fun x y : Int32 => x + y) (nI i) 1 = nI (i + 1) from (zn_plus i 1).symm]
  refine ⟨inB_of (INVg.t1 I1) (INVg.n1 I1) (show i + 1 < Ls by omega) (by omega), ?_⟩
  conv => whnf
  rw [nI_clamp (show i + 1 < 2 ^ 31 by omega)]
  try rw [INVg.x1 I1]
  try rw [show (fun x y : Int32 => x + y) (nI i) 2 = nI (i + 2) from (zn_plus i 2).symm]
  refine ⟨inB_of (INVg.t1 I1) (INVg.n1 I1) (show i + 2 < Ls by omega) (by omega), ?_⟩
  conv => whnf
  rw [nI_clamp (show i + 2 < 2 ^ 31 by omega)]
  try rw [INVg.x1 I1]
  try rw [show (fun x y : Int32 => x + y) (nI i) 3 = nI (i + 3) from (zn_plus i 3).symm]
  refine ⟨inB_of (INVg.t1 I1) (INVg.n1 I1) (show i + 3 < Ls by omega) (by omega), ?_⟩
  conv => whnf
  rw [nI_clamp (show i + 3 < 2 ^ 31 by omega)]
  try rw [INVg.x1 I1]
  refine bifT (and3 (a := ca + 0 + 0) (b := 600000) (c := sl + 0 + 0) (d := 7302250) (by omega) (by omega) rfl) ?_
  conv => whnf
  refine ⟨wt_116 I1.1.1.1, ?_⟩
  refine c_M_lower S I1.2.1.1 I.2.2.1 _ _ _ ?_
  conv => whnf
  refine bk_t (rfl) ?_
  conv => whnf
  exact nx _ (ca + 0 + 0) (sl + 0 + 0) I1.inv (by omega) (by omega)
set_option maxRecDepth 20000 in
theorem law_least {P : PSem} (S : SysOK P) {h : PH} {u tx : Nat → Nat} {L : Nat} {l0 : Nat → Int64} {f0 s0 m0 : Nat → Int32} {s s' : Nat} {H : List (Nat × Nat)} {g : Nat → Option (Nat → Nat)} {ttx : Nat → Nat} {tL Ls : Nat} {xs : Nat → Int32} (I : INVg h u tx L l0 f0 s0 m0 s s' H g ttx tL Ls xs) {i : Nat} (hi : i + 6 ≤ Ls) (hLs : Ls ≤ 3072) {ca sl : Nat} (hca : ca ≤ 2000) (hsl : sl ≤ 5000000) {K : PK} (nx : ∀ h' c' s', INV h' Ls xs → c' ≤ ca + 2 → s' ≤ sl + 8192 → P.2 n_Law_law 901 [some (.ref 1), some (.ref 5), some (.ref 116), some (.int (nI i))] [] h' c' s' K) : P.2 n_Law_law 462 [some (.ref 1), some (.ref 5), some (.ref 116), some (.int (nI i))] [] h ca sl K := by
  refine S.at 100 [901] rfl ?_
  conv => whnf
  try rw [show (fun x y : Int32 => x + y) (nI i) 1 = nI (i + 1) from (zn_plus i 1).symm]
  refine ⟨inB_of (INVg.t1 I) (INVg.n1 I) (show i + 1 < Ls by omega) (by omega), ?_⟩
  conv => whnf
  rw [nI_clamp (show i + 1 < 2 ^ 31 by omega)]
  try rw [INVg.x1 I]
  try rw [show (fun x y : Int32 => x + y) (nI i) 2 = nI (i + 2) from (zn_plus i 2).symm]
  refine ⟨inB_of (INVg.t1 I) (INVg.n1 I) (show i + 2 < Ls by omega) (by omega), ?_⟩
  conv => whnf
  rw [nI_clamp (show i + 2 < 2 ^ 31 by omega)]
  try rw [INVg.x1 I]
  try rw [show (fun x y : Int32 => x + y) (nI i) 3 = nI (i + 3) from (zn_plus i 3).symm]
  refine ⟨inB_of (INVg.t1 I) (INVg.n1 I) (show i + 3 < Ls by omega) (by omega), ?_⟩
  conv => whnf
  rw [nI_clamp (show i + 3 < 2 ^ 31 by omega)]
  try rw [INVg.x1 I]
  try rw [show (fun x y : Int32 => x + y) (nI i) 4 = nI (i + 4) from (zn_plus i 4).symm]
  refine ⟨inB_of (INVg.t1 I) (INVg.n1 I) (show i + 4 < Ls by omega) (by omega), ?_⟩
  conv => whnf
  rw [nI_clamp (show i + 4 < 2 ^ 31 by omega)]
  try rw [INVg.x1 I]
  refine bifT (and3 (a := ca + 0) (b := 600000) (c := sl + 0) (d := 7302250) (by omega) (by omega) rfl) ?_
  conv => whnf
  refine ⟨wt_5 I.1.1.1, ?_⟩
  refine c_FT_least S I.1.1 I.2.2.1 _ _ _ _ ?_
  intro h1 a1 a2
  have I1 := I.q a1 a2
  conv => whnf
  try rw [show (fun x y : Int32 => x + y) (nI i) 1 = nI (i + 1) from (zn_plus i 1).symm]
  refine ⟨inB_of (INVg.t1 I1) (INVg.n1 I1) (show i + 1 < Ls by omega) (by omega), ?_⟩
  conv => whnf
  rw [nI_clamp (show i + 1 < 2 ^ 31 by omega)]
  try rw [INVg.x1 I1]
  try rw [show (fun x y : Int32 => x + y) (nI i) 2 = nI (i + 2) from (zn_plus i 2).symm]
  refine ⟨inB_of (INVg.t1 I1) (INVg.n1 I1) (show i + 2 < Ls by omega) (by omega), ?_⟩
  conv => whnf
  rw [nI_clamp (show i + 2 < 2 ^ 31 by omega)]
  try rw [INVg.x1 I1]
  try rw [show (fun x y : Int32 => x + y) (nI i) 3 = nI (i + 3) from (zn_plus i 3).symm]
  refine ⟨inB_of (INVg.t1 I1) (INVg.n1 I1) (show i + 3 < Ls by omega) (by omega), ?_⟩
  conv => whnf
  rw [nI_clamp (show i + 3 < 2 ^ 31 by omega)]
  try rw [INVg.x1 I1]
  try rw [show (fun x y : Int32 => x + y) (nI i) 4 = nI (i + 4) from (zn_plus i 4).symm]
  refine ⟨inB_of (INVg.t1 I1) (INVg.n1 I1) (show i + 4 < Ls by omega) (by omega), ?_⟩
  conv => whnf
  rw [nI_clamp (show i + 4 < 2 ^ 31 by omega)]
  try rw [INVg.x1 I1]
  refine bifT (and3 (a := ca + 0 + 0) (b := 600000) (c := sl + 0 + 0) (d := 7302250) (by omega) (by omega) rfl) ?_
  conv => whnf
  refine ⟨wt_116 I1.1.1.1, ?_⟩
  refine c_M_least S I1.2.1.1 I.2.2.1 _ _ _ _ ?_
  intro h2 e2
  have I2 := I1.m (mq_MNX e2) (fun k hk => by unfold mq at hk; omega) (fun j hj => absurd hj id)
  conv => whnf
  refine bk_t (rfl) ?_
  conv => whnf
  exact nx _ (ca + 0 + 0) (sl + 0 + 0) I2.inv (by omega) (by omega)
set_option maxRecDepth 20000 in
theorem law_solve {P : PSem} (S : SysOK P) {h : PH} {u tx : Nat → Nat} {L : Nat} {l0 : Nat → Int64} {f0 s0 m0 : Nat → Int32} {s s' : Nat} {H : List (Nat × Nat)} {g : Nat → Option (Nat → Nat)} {ttx : Nat → Nat} {tL Ls : Nat} {xs : Nat → Int32} (I : INVg h u tx L l0 f0 s0 m0 s s' H g ttx tL Ls xs) {i : Nat} (hi : i + 6 ≤ Ls) (hLs : Ls ≤ 3072) {ca sl : Nat} (hca : ca ≤ 2000) (hsl : sl ≤ 5000000) {K : PK} (nx : ∀ h' c' s', INV h' Ls xs → c' ≤ ca + 2 → s' ≤ sl + 8192 → P.2 n_Law_law 901 [some (.ref 1), some (.ref 5), some (.ref 116), some (.int (nI i))] [] h' c' s' K) : P.2 n_Law_law 509 [some (.ref 1), some (.ref 5), some (.ref 116), some (.int (nI i))] [] h ca sl K := by
  refine S.at 100 [901] rfl ?_
  conv => whnf
  try rw [show (fun x y : Int32 => x + y) (nI i) 1 = nI (i + 1) from (zn_plus i 1).symm]
  refine ⟨inB_of (INVg.t1 I) (INVg.n1 I) (show i + 1 < Ls by omega) (by omega), ?_⟩
  conv => whnf
  rw [nI_clamp (show i + 1 < 2 ^ 31 by omega)]
  try rw [INVg.x1 I]
  try rw [show (fun x y : Int32 => x + y) (nI i) 2 = nI (i + 2) from (zn_plus i 2).symm]
  refine ⟨inB_of (INVg.t1 I) (INVg.n1 I) (show i + 2 < Ls by omega) (by omega), ?_⟩
  conv => whnf
  rw [nI_clamp (show i + 2 < 2 ^ 31 by omega)]
  try rw [INVg.x1 I]
  try rw [show (fun x y : Int32 => x + y) (nI i) 3 = nI (i + 3) from (zn_plus i 3).symm]
  refine ⟨inB_of (INVg.t1 I) (INVg.n1 I) (show i + 3 < Ls by omega) (by omega), ?_⟩
  conv => whnf
  rw [nI_clamp (show i + 3 < 2 ^ 31 by omega)]
  try rw [INVg.x1 I]
  try rw [show (fun x y : Int32 => x + y) (nI i) 4 = nI (i + 4) from (zn_plus i 4).symm]
  refine ⟨inB_of (INVg.t1 I) (INVg.n1 I) (show i + 4 < Ls by omega) (by omega), ?_⟩
  conv => whnf
  rw [nI_clamp (show i + 4 < 2 ^ 31 by omega)]
  try rw [INVg.x1 I]
  refine bifT (and3 (a := ca + 0) (b := 600000) (c := sl + 0) (d := 7302250) (by omega) (by omega) rfl) ?_
  conv => whnf
  refine ⟨wt_5 I.1.1.1, ?_⟩
  refine c_FT_solve S I.1.1 I.2.2.1 _ _ _ _ ?_
  intro h1 a1 a2
  have I1 := I.q a1 a2
  conv => whnf
  try rw [show (fun x y : Int32 => x + y) (nI i) 1 = nI (i + 1) from (zn_plus i 1).symm]
  refine ⟨inB_of (INVg.t1 I1) (INVg.n1 I1) (show i + 1 < Ls by omega) (by omega), ?_⟩
  conv => whnf
  rw [nI_clamp (show i + 1 < 2 ^ 31 by omega)]
  try rw [INVg.x1 I1]
  try rw [show (fun x y : Int32 => x + y) (nI i) 2 = nI (i + 2) from (zn_plus i 2).symm]
  refine ⟨inB_of (INVg.t1 I1) (INVg.n1 I1) (show i + 2 < Ls by omega) (by omega), ?_⟩
  conv => whnf
  rw [nI_clamp (show i + 2 < 2 ^ 31 by omega)]
  try rw [INVg.x1 I1]
  try rw [show (fun x y : Int32 => x + y) (nI i) 3 = nI (i + 3) from (zn_plus i 3).symm]
  refine ⟨inB_of (INVg.t1 I1) (INVg.n1 I1) (show i + 3 < Ls by omega) (by omega), ?_⟩
  conv => whnf
  rw [nI_clamp (show i + 3 < 2 ^ 31 by omega)]
  try rw [INVg.x1 I1]
  try rw [show (fun x y : Int32 => x + y) (nI i) 4 = nI (i + 4) from (zn_plus i 4).symm]
  refine ⟨inB_of (INVg.t1 I1) (INVg.n1 I1) (show i + 4 < Ls by omega) (by omega), ?_⟩
  conv => whnf
  rw [nI_clamp (show i + 4 < 2 ^ 31 by omega)]
  try rw [INVg.x1 I1]
  refine bifT (and3 (a := ca + 0 + 0) (b := 600000) (c := sl + 0 + 0) (d := 7302250) (by omega) (by omega) rfl) ?_
  conv => whnf
  refine ⟨wt_116 I1.1.1.1, ?_⟩
  refine c_M_solve S I1.2.1.1 I.2.2.1 _ _ _ _ ?_
  conv => whnf
  refine bk_t (rfl) ?_
  conv => whnf
  exact nx _ (ca + 0 + 0) (sl + 0 + 0) I1.inv (by omega) (by omega)
set_option maxRecDepth 20000 in
theorem law_value {P : PSem} (S : SysOK P) {h : PH} {u tx : Nat → Nat} {L : Nat} {l0 : Nat → Int64} {f0 s0 m0 : Nat → Int32} {s s' : Nat} {H : List (Nat × Nat)} {g : Nat → Option (Nat → Nat)} {ttx : Nat → Nat} {tL Ls : Nat} {xs : Nat → Int32} (I : INVg h u tx L l0 f0 s0 m0 s s' H g ttx tL Ls xs) {i : Nat} (hi : i + 6 ≤ Ls) (hLs : Ls ≤ 3072) {ca sl : Nat} (hca : ca ≤ 2000) (hsl : sl ≤ 5000000) {K : PK} (nx : ∀ h' c' s', INV h' Ls xs → c' ≤ ca + 2 → s' ≤ sl + 8192 → P.2 n_Law_law 901 [some (.ref 1), some (.ref 5), some (.ref 116), some (.int (nI i))] [] h' c' s' K) : P.2 n_Law_law 556 [some (.ref 1), some (.ref 5), some (.ref 116), some (.int (nI i))] [] h ca sl K := by
  refine S.at 100 [901] rfl ?_
  conv => whnf
  try rw [show (fun x y : Int32 => x + y) (nI i) 1 = nI (i + 1) from (zn_plus i 1).symm]
  refine ⟨inB_of (INVg.t1 I) (INVg.n1 I) (show i + 1 < Ls by omega) (by omega), ?_⟩
  conv => whnf
  rw [nI_clamp (show i + 1 < 2 ^ 31 by omega)]
  try rw [INVg.x1 I]
  try rw [show (fun x y : Int32 => x + y) (nI i) 2 = nI (i + 2) from (zn_plus i 2).symm]
  refine ⟨inB_of (INVg.t1 I) (INVg.n1 I) (show i + 2 < Ls by omega) (by omega), ?_⟩
  conv => whnf
  rw [nI_clamp (show i + 2 < 2 ^ 31 by omega)]
  try rw [INVg.x1 I]
  try rw [show (fun x y : Int32 => x + y) (nI i) 3 = nI (i + 3) from (zn_plus i 3).symm]
  refine ⟨inB_of (INVg.t1 I) (INVg.n1 I) (show i + 3 < Ls by omega) (by omega), ?_⟩
  conv => whnf
  rw [nI_clamp (show i + 3 < 2 ^ 31 by omega)]
  try rw [INVg.x1 I]
  refine bifT (and3 (a := ca + 0) (b := 600000) (c := sl + 0) (d := 7302250) (by omega) (by omega) rfl) ?_
  conv => whnf
  refine ⟨wt_5 I.1.1.1, ?_⟩
  refine c_FT_value S I.1.1.1 I.1.1.2.1 I.2.2.1 _ _ _ ?_
  conv => whnf
  try rw [show (fun x y : Int32 => x + y) (nI i) 1 = nI (i + 1) from (zn_plus i 1).symm]
  refine ⟨inB_of (INVg.t1 I) (INVg.n1 I) (show i + 1 < Ls by omega) (by omega), ?_⟩
  conv => whnf
  rw [nI_clamp (show i + 1 < 2 ^ 31 by omega)]
  try rw [INVg.x1 I]
  try rw [show (fun x y : Int32 => x + y) (nI i) 2 = nI (i + 2) from (zn_plus i 2).symm]
  refine ⟨inB_of (INVg.t1 I) (INVg.n1 I) (show i + 2 < Ls by omega) (by omega), ?_⟩
  conv => whnf
  rw [nI_clamp (show i + 2 < 2 ^ 31 by omega)]
  try rw [INVg.x1 I]
  try rw [show (fun x y : Int32 => x + y) (nI i) 3 = nI (i + 3) from (zn_plus i 3).symm]
  refine ⟨inB_of (INVg.t1 I) (INVg.n1 I) (show i + 3 < Ls by omega) (by omega), ?_⟩
  conv => whnf
  rw [nI_clamp (show i + 3 < 2 ^ 31 by omega)]
  try rw [INVg.x1 I]
  refine bifT (and3 (a := ca + 0 + 0) (b := 600000) (c := sl + 0 + 0) (d := 7302250) (by omega) (by omega) rfl) ?_
  conv => whnf
  refine ⟨wt_116 I.1.1.1, ?_⟩
  refine c_M_value S I.2.1.1 I.2.2.1 _ _ _ ?_
  conv => whnf
  refine bk_t (rfl) ?_
  conv => whnf
  exact nx _ (ca + 0 + 0) (sl + 0 + 0) I.inv (by omega) (by omega)
set_option maxRecDepth 20000 in
theorem law_factor {P : PSem} (S : SysOK P) {h : PH} {u tx : Nat → Nat} {L : Nat} {l0 : Nat → Int64} {f0 s0 m0 : Nat → Int32} {s s' : Nat} {H : List (Nat × Nat)} {g : Nat → Option (Nat → Nat)} {ttx : Nat → Nat} {tL Ls : Nat} {xs : Nat → Int32} (I : INVg h u tx L l0 f0 s0 m0 s s' H g ttx tL Ls xs) {i : Nat} (hi : i + 6 ≤ Ls) (hLs : Ls ≤ 3072) {ca sl : Nat} (hca : ca ≤ 2000) (hsl : sl ≤ 5000000) {K : PK} (nx : ∀ h' c' s', INV h' Ls xs → c' ≤ ca + 2 → s' ≤ sl + 8192 → P.2 n_Law_law 901 [some (.ref 1), some (.ref 5), some (.ref 116), some (.int (nI i))] [] h' c' s' K) : P.2 n_Law_law 593 [some (.ref 1), some (.ref 5), some (.ref 116), some (.int (nI i))] [] h ca sl K := by
  refine S.at 100 [901] rfl ?_
  conv => whnf
  try rw [show (fun x y : Int32 => x + y) (nI i) 1 = nI (i + 1) from (zn_plus i 1).symm]
  refine ⟨inB_of (INVg.t1 I) (INVg.n1 I) (show i + 1 < Ls by omega) (by omega), ?_⟩
  conv => whnf
  rw [nI_clamp (show i + 1 < 2 ^ 31 by omega)]
  try rw [INVg.x1 I]
  try rw [show (fun x y : Int32 => x + y) (nI i) 2 = nI (i + 2) from (zn_plus i 2).symm]
  refine ⟨inB_of (INVg.t1 I) (INVg.n1 I) (show i + 2 < Ls by omega) (by omega), ?_⟩
  conv => whnf
  rw [nI_clamp (show i + 2 < 2 ^ 31 by omega)]
  try rw [INVg.x1 I]
  refine bifT (and3 (a := ca + 0) (b := 600000) (c := sl + 0) (d := 7302250) (by omega) (by omega) rfl) ?_
  conv => whnf
  refine ⟨wt_5 I.1.1.1, ?_⟩
  refine c_FT_factor S _ _ ?_
  conv => whnf
  try rw [show (fun x y : Int32 => x + y) (nI i) 1 = nI (i + 1) from (zn_plus i 1).symm]
  refine ⟨inB_of (INVg.t1 I) (INVg.n1 I) (show i + 1 < Ls by omega) (by omega), ?_⟩
  conv => whnf
  rw [nI_clamp (show i + 1 < 2 ^ 31 by omega)]
  try rw [INVg.x1 I]
  try rw [show (fun x y : Int32 => x + y) (nI i) 2 = nI (i + 2) from (zn_plus i 2).symm]
  refine ⟨inB_of (INVg.t1 I) (INVg.n1 I) (show i + 2 < Ls by omega) (by omega), ?_⟩
  conv => whnf
  rw [nI_clamp (show i + 2 < 2 ^ 31 by omega)]
  try rw [INVg.x1 I]
  refine bifT (and3 (a := ca + 0 + 0) (b := 600000) (c := sl + 0 + 0) (d := 7302250) (by omega) (by omega) rfl) ?_
  conv => whnf
  refine ⟨wt_116 I.1.1.1, ?_⟩
  refine c_M_factor S I.2.1.1 _ _ ?_
  conv => whnf
  refine bk_t (rfl) ?_
  conv => whnf
  exact nx _ (ca + 0 + 0) (sl + 0 + 0) I.inv (by omega) (by omega)
set_option maxRecDepth 20000 in
theorem law_period {P : PSem} (S : SysOK P) {h : PH} {u tx : Nat → Nat} {L : Nat} {l0 : Nat → Int64} {f0 s0 m0 : Nat → Int32} {s s' : Nat} {H : List (Nat × Nat)} {g : Nat → Option (Nat → Nat)} {ttx : Nat → Nat} {tL Ls : Nat} {xs : Nat → Int32} (I : INVg h u tx L l0 f0 s0 m0 s s' H g ttx tL Ls xs) {i : Nat} (hi : i + 6 ≤ Ls) (hLs : Ls ≤ 3072) {ca sl : Nat} (hca : ca ≤ 2000) (hsl : sl ≤ 5000000) {K : PK} (nx : ∀ h' c' s', INV h' Ls xs → c' ≤ ca + 2 → s' ≤ sl + 8192 → P.2 n_Law_law 901 [some (.ref 1), some (.ref 5), some (.ref 116), some (.int (nI i))] [] h' c' s' K) : P.2 n_Law_law 620 [some (.ref 1), some (.ref 5), some (.ref 116), some (.int (nI i))] [] h ca sl K := by
  refine S.at 100 [901] rfl ?_
  conv => whnf
  try rw [show (fun x y : Int32 => x + y) (nI i) 1 = nI (i + 1) from (zn_plus i 1).symm]
  refine ⟨inB_of (INVg.t1 I) (INVg.n1 I) (show i + 1 < Ls by omega) (by omega), ?_⟩
  conv => whnf
  rw [nI_clamp (show i + 1 < 2 ^ 31 by omega)]
  try rw [INVg.x1 I]
  refine bifT (and3 (a := ca + 0) (b := 600000) (c := sl + 0) (d := 7302250) (by omega) (by omega) rfl) ?_
  conv => whnf
  refine ⟨wt_5 I.1.1.1, ?_⟩
  refine c_FT_period S _ ?_
  conv => whnf
  try rw [show (fun x y : Int32 => x + y) (nI i) 1 = nI (i + 1) from (zn_plus i 1).symm]
  refine ⟨inB_of (INVg.t1 I) (INVg.n1 I) (show i + 1 < Ls by omega) (by omega), ?_⟩
  conv => whnf
  rw [nI_clamp (show i + 1 < 2 ^ 31 by omega)]
  try rw [INVg.x1 I]
  refine bifT (and3 (a := ca + 0 + 0) (b := 600000) (c := sl + 0 + 0) (d := 7302250) (by omega) (by omega) rfl) ?_
  conv => whnf
  refine ⟨wt_116 I.1.1.1, ?_⟩
  refine c_M_period S _ ?_
  conv => whnf
  refine bk_t (rfl) ?_
  conv => whnf
  exact nx _ (ca + 0 + 0) (sl + 0 + 0) I.inv (by omega) (by omega)
set_option maxRecDepth 20000 in
theorem law_coset {P : PSem} (S : SysOK P) {h : PH} {u tx : Nat → Nat} {L : Nat} {l0 : Nat → Int64} {f0 s0 m0 : Nat → Int32} {s s' : Nat} {H : List (Nat × Nat)} {g : Nat → Option (Nat → Nat)} {ttx : Nat → Nat} {tL Ls : Nat} {xs : Nat → Int32} (I : INVg h u tx L l0 f0 s0 m0 s s' H g ttx tL Ls xs) {i : Nat} (hi : i + 6 ≤ Ls) (hLs : Ls ≤ 3072) {ca sl : Nat} (hca : ca ≤ 2000) (hsl : sl ≤ 5000000) {K : PK} (nx : ∀ h' c' s', INV h' Ls xs → c' ≤ ca + 2 → s' ≤ sl + 8192 → P.2 n_Law_law 901 [some (.ref 1), some (.ref 5), some (.ref 116), some (.int (nI i))] [] h' c' s' K) : P.2 n_Law_law 637 [some (.ref 1), some (.ref 5), some (.ref 116), some (.int (nI i))] [] h ca sl K := by
  refine S.at 100 [901] rfl ?_
  conv => whnf
  try rw [show (fun x y : Int32 => x + y) (nI i) 1 = nI (i + 1) from (zn_plus i 1).symm]
  refine ⟨inB_of (INVg.t1 I) (INVg.n1 I) (show i + 1 < Ls by omega) (by omega), ?_⟩
  conv => whnf
  rw [nI_clamp (show i + 1 < 2 ^ 31 by omega)]
  try rw [INVg.x1 I]
  try rw [show (fun x y : Int32 => x + y) (nI i) 2 = nI (i + 2) from (zn_plus i 2).symm]
  refine ⟨inB_of (INVg.t1 I) (INVg.n1 I) (show i + 2 < Ls by omega) (by omega), ?_⟩
  conv => whnf
  rw [nI_clamp (show i + 2 < 2 ^ 31 by omega)]
  try rw [INVg.x1 I]
  try rw [show (fun x y : Int32 => x + y) (nI i) 3 = nI (i + 3) from (zn_plus i 3).symm]
  refine ⟨inB_of (INVg.t1 I) (INVg.n1 I) (show i + 3 < Ls by omega) (by omega), ?_⟩
  conv => whnf
  rw [nI_clamp (show i + 3 < 2 ^ 31 by omega)]
  try rw [INVg.x1 I]
  refine bifT (and3 (a := ca + 0) (b := 600000) (c := sl + 0) (d := 7302250) (by omega) (by omega) rfl) ?_
  conv => whnf
  refine ⟨wt_5 I.1.1.1, ?_⟩
  refine c_FT_coset S _ _ _ ?_
  conv => whnf
  try rw [show (fun x y : Int32 => x + y) (nI i) 1 = nI (i + 1) from (zn_plus i 1).symm]
  refine ⟨inB_of (INVg.t1 I) (INVg.n1 I) (show i + 1 < Ls by omega) (by omega), ?_⟩
  conv => whnf
  rw [nI_clamp (show i + 1 < 2 ^ 31 by omega)]
  try rw [INVg.x1 I]
  try rw [show (fun x y : Int32 => x + y) (nI i) 2 = nI (i + 2) from (zn_plus i 2).symm]
  refine ⟨inB_of (INVg.t1 I) (INVg.n1 I) (show i + 2 < Ls by omega) (by omega), ?_⟩
  conv => whnf
  rw [nI_clamp (show i + 2 < 2 ^ 31 by omega)]
  try rw [INVg.x1 I]
  try rw [show (fun x y : Int32 => x + y) (nI i) 3 = nI (i + 3) from (zn_plus i 3).symm]
  refine ⟨inB_of (INVg.t1 I) (INVg.n1 I) (show i + 3 < Ls by omega) (by omega), ?_⟩
  conv => whnf
  rw [nI_clamp (show i + 3 < 2 ^ 31 by omega)]
  try rw [INVg.x1 I]
  refine bifT (and3 (a := ca + 0 + 0) (b := 600000) (c := sl + 0 + 0) (d := 7302250) (by omega) (by omega) rfl) ?_
  conv => whnf
  refine ⟨wt_116 I.1.1.1, ?_⟩
  refine c_M_coset S _ _ _ ?_
  conv => whnf
  refine bk_t (rfl) ?_
  conv => whnf
  exact nx _ (ca + 0 + 0) (sl + 0 + 0) I.inv (by omega) (by omega)
set_option maxRecDepth 20000 in
theorem law_code {P : PSem} (S : SysOK P) {h : PH} {u tx : Nat → Nat} {L : Nat} {l0 : Nat → Int64} {f0 s0 m0 : Nat → Int32} {s s' : Nat} {H : List (Nat × Nat)} {g : Nat → Option (Nat → Nat)} {ttx : Nat → Nat} {tL Ls : Nat} {xs : Nat → Int32} (I : INVg h u tx L l0 f0 s0 m0 s s' H g ttx tL Ls xs) {i : Nat} (hi : i + 6 ≤ Ls) (hLs : Ls ≤ 3072) {ca sl : Nat} (hca : ca ≤ 2000) (hsl : sl ≤ 5000000) {K : PK} (nx : ∀ h' c' s', INV h' Ls xs → c' ≤ ca + 2 → s' ≤ sl + 8192 → P.2 n_Law_law 901 [some (.ref 1), some (.ref 5), some (.ref 116), some (.int (nI i))] [] h' c' s' K) : P.2 n_Law_law 674 [some (.ref 1), some (.ref 5), some (.ref 116), some (.int (nI i))] [] h ca sl K := by
  refine S.at 100 [901] rfl ?_
  conv => whnf
  try rw [show (fun x y : Int32 => x + y) (nI i) 1 = nI (i + 1) from (zn_plus i 1).symm]
  refine ⟨inB_of (INVg.t1 I) (INVg.n1 I) (show i + 1 < Ls by omega) (by omega), ?_⟩
  conv => whnf
  rw [nI_clamp (show i + 1 < 2 ^ 31 by omega)]
  try rw [INVg.x1 I]
  try rw [show (fun x y : Int32 => x + y) (nI i) 2 = nI (i + 2) from (zn_plus i 2).symm]
  refine ⟨inB_of (INVg.t1 I) (INVg.n1 I) (show i + 2 < Ls by omega) (by omega), ?_⟩
  conv => whnf
  rw [nI_clamp (show i + 2 < 2 ^ 31 by omega)]
  try rw [INVg.x1 I]
  refine bifT (and3 (a := ca + 0) (b := 600000) (c := sl + 0) (d := 7302250) (by omega) (by omega) rfl) ?_
  conv => whnf
  refine ⟨wt_5 I.1.1.1, ?_⟩
  refine c_FT_code S I.1.1 I.2.2.1 _ _ ?_
  intro h1 a1 a2
  have I1 := I.q a1 a2
  conv => whnf
  try rw [show (fun x y : Int32 => x + y) (nI i) 1 = nI (i + 1) from (zn_plus i 1).symm]
  refine ⟨inB_of (INVg.t1 I1) (INVg.n1 I1) (show i + 1 < Ls by omega) (by omega), ?_⟩
  conv => whnf
  rw [nI_clamp (show i + 1 < 2 ^ 31 by omega)]
  try rw [INVg.x1 I1]
  try rw [show (fun x y : Int32 => x + y) (nI i) 2 = nI (i + 2) from (zn_plus i 2).symm]
  refine ⟨inB_of (INVg.t1 I1) (INVg.n1 I1) (show i + 2 < Ls by omega) (by omega), ?_⟩
  conv => whnf
  rw [nI_clamp (show i + 2 < 2 ^ 31 by omega)]
  try rw [INVg.x1 I1]
  refine bifT (and3 (a := ca + 0 + 0) (b := 600000) (c := sl + 0 + 0) (d := 7302250) (by omega) (by omega) rfl) ?_
  conv => whnf
  refine ⟨wt_116 I1.1.1.1, ?_⟩
  refine c_M_code S I1.2.1.1 I.2.2.1 _ _ ?_
  intro h2 e2
  have I2 := I1.m (mq_MNX e2) (fun k hk => by unfold mq at hk; omega) (fun j hj => absurd hj id)
  conv => whnf
  refine bk_t ((l_cmp_eq _ _).mpr rfl) ?_
  conv => whnf
  exact nx _ (ca + 0 + 0) (sl + 0 + 0) I2.inv (by omega) (by omega)
set_option maxRecDepth 20000 in
theorem law_roots {P : PSem} (S : SysOK P) {h : PH} {u tx : Nat → Nat} {L : Nat} {l0 : Nat → Int64} {f0 s0 m0 : Nat → Int32} {s s' : Nat} {H : List (Nat × Nat)} {g : Nat → Option (Nat → Nat)} {ttx : Nat → Nat} {tL Ls : Nat} {xs : Nat → Int32} (I : INVg h u tx L l0 f0 s0 m0 s s' H g ttx tL Ls xs) {i : Nat} (hi : i + 6 ≤ Ls) (hLs : Ls ≤ 3072) {ca sl : Nat} (hca : ca ≤ 2000) (hsl : sl ≤ 5000000) {K : PK} (nx : ∀ h' c' s', INV h' Ls xs → c' ≤ ca + 2 → s' ≤ sl + 8192 → P.2 n_Law_law 901 [some (.ref 1), some (.ref 5), some (.ref 116), some (.int (nI i))] [] h' c' s' K) : P.2 n_Law_law 702 [some (.ref 1), some (.ref 5), some (.ref 116), some (.int (nI i))] [] h ca sl K := by
  refine S.at 100 [901] rfl ?_
  conv => whnf
  try rw [show (fun x y : Int32 => x + y) (nI i) 1 = nI (i + 1) from (zn_plus i 1).symm]
  refine ⟨inB_of (INVg.t1 I) (INVg.n1 I) (show i + 1 < Ls by omega) (by omega), ?_⟩
  conv => whnf
  rw [nI_clamp (show i + 1 < 2 ^ 31 by omega)]
  try rw [INVg.x1 I]
  try rw [show (fun x y : Int32 => x + y) (nI i) 2 = nI (i + 2) from (zn_plus i 2).symm]
  refine ⟨inB_of (INVg.t1 I) (INVg.n1 I) (show i + 2 < Ls by omega) (by omega), ?_⟩
  conv => whnf
  rw [nI_clamp (show i + 2 < 2 ^ 31 by omega)]
  try rw [INVg.x1 I]
  try rw [show (fun x y : Int32 => x + y) (nI i) 3 = nI (i + 3) from (zn_plus i 3).symm]
  refine ⟨inB_of (INVg.t1 I) (INVg.n1 I) (show i + 3 < Ls by omega) (by omega), ?_⟩
  conv => whnf
  rw [nI_clamp (show i + 3 < 2 ^ 31 by omega)]
  try rw [INVg.x1 I]
  try rw [show (fun x y : Int32 => x + y) (nI i) 4 = nI (i + 4) from (zn_plus i 4).symm]
  refine ⟨inB_of (INVg.t1 I) (INVg.n1 I) (show i + 4 < Ls by omega) (by omega), ?_⟩
  conv => whnf
  rw [nI_clamp (show i + 4 < 2 ^ 31 by omega)]
  try rw [INVg.x1 I]
  refine bifT (and3 (a := ca + 2) (b := 600000) (c := sl + 8192) (d := 7302250) (by omega) (by omega) rfl) ?_
  conv => whnf
  refine ⟨wt_5 I.1.1.1, ?_⟩
  refine c_FT_roots S I.1.1 I.2.2.1 _ _ _ _ ?_
  intro h1 a1 a2
  have I1 := I.q a1 a2
  conv => whnf
  try rw [show (fun x y : Int32 => x + y) (nI i) 1 = nI (i + 1) from (zn_plus i 1).symm]
  refine ⟨inB_of (INVg.t1 I1) (INVg.n1 I1) (show i + 1 < Ls by omega) (by omega), ?_⟩
  conv => whnf
  rw [nI_clamp (show i + 1 < 2 ^ 31 by omega)]
  try rw [INVg.x1 I1]
  try rw [show (fun x y : Int32 => x + y) (nI i) 2 = nI (i + 2) from (zn_plus i 2).symm]
  refine ⟨inB_of (INVg.t1 I1) (INVg.n1 I1) (show i + 2 < Ls by omega) (by omega), ?_⟩
  conv => whnf
  rw [nI_clamp (show i + 2 < 2 ^ 31 by omega)]
  try rw [INVg.x1 I1]
  try rw [show (fun x y : Int32 => x + y) (nI i) 3 = nI (i + 3) from (zn_plus i 3).symm]
  refine ⟨inB_of (INVg.t1 I1) (INVg.n1 I1) (show i + 3 < Ls by omega) (by omega), ?_⟩
  conv => whnf
  rw [nI_clamp (show i + 3 < 2 ^ 31 by omega)]
  try rw [INVg.x1 I1]
  try rw [show (fun x y : Int32 => x + y) (nI i) 4 = nI (i + 4) from (zn_plus i 4).symm]
  refine ⟨inB_of (INVg.t1 I1) (INVg.n1 I1) (show i + 4 < Ls by omega) (by omega), ?_⟩
  conv => whnf
  rw [nI_clamp (show i + 4 < 2 ^ 31 by omega)]
  try rw [INVg.x1 I1]
  refine bifT (and3 (a := ca + 2 + 0) (b := 600000) (c := sl + 8192 + 0) (d := 7302250) (by omega) (by omega) rfl) ?_
  conv => whnf
  refine ⟨wt_116 I1.1.1.1, ?_⟩
  refine c_M_roots S I1.2.1.1 I.2.2.1 _ _ _ _ ?_
  conv => whnf
  refine bk_t (rfl) ?_
  conv => whnf
  exact nx _ (ca + 2 + 0) (sl + 8192 + 0) I1.inv (by omega) (by omega)
set_option maxRecDepth 20000 in
theorem law_field {P : PSem} (S : SysOK P) {h : PH} {u tx : Nat → Nat} {L : Nat} {l0 : Nat → Int64} {f0 s0 m0 : Nat → Int32} {s s' : Nat} {H : List (Nat × Nat)} {g : Nat → Option (Nat → Nat)} {ttx : Nat → Nat} {tL Ls : Nat} {xs : Nat → Int32} (I : INVg h u tx L l0 f0 s0 m0 s s' H g ttx tL Ls xs) {i : Nat} (hi : i + 6 ≤ Ls) (hLs : Ls ≤ 3072) {ca sl : Nat} (hca : ca ≤ 2000) (hsl : sl ≤ 5000000) {K : PK} (nx : ∀ h' c' s', INV h' Ls xs → c' ≤ ca + 2 → s' ≤ sl + 8192 → P.2 n_Law_law 901 [some (.ref 1), some (.ref 5), some (.ref 116), some (.int (nI i))] [] h' c' s' K) : P.2 n_Law_law 749 [some (.ref 1), some (.ref 5), some (.ref 116), some (.int (nI i))] [] h ca sl K := by
  refine S.at 100 [901] rfl ?_
  conv => whnf
  try rw [show (fun x y : Int32 => x + y) (nI i) 1 = nI (i + 1) from (zn_plus i 1).symm]
  refine ⟨inB_of (INVg.t1 I) (INVg.n1 I) (show i + 1 < Ls by omega) (by omega), ?_⟩
  conv => whnf
  rw [nI_clamp (show i + 1 < 2 ^ 31 by omega)]
  try rw [INVg.x1 I]
  try rw [show (fun x y : Int32 => x + y) (nI i) 2 = nI (i + 2) from (zn_plus i 2).symm]
  refine ⟨inB_of (INVg.t1 I) (INVg.n1 I) (show i + 2 < Ls by omega) (by omega), ?_⟩
  conv => whnf
  rw [nI_clamp (show i + 2 < 2 ^ 31 by omega)]
  try rw [INVg.x1 I]
  refine bifT (and3 (a := ca + 0) (b := 600000) (c := sl + 0) (d := 7302250) (by omega) (by omega) rfl) ?_
  conv => whnf
  refine ⟨wt_5 I.1.1.1, ?_⟩
  refine c_FT_field S I.1.1 I.2.2.1 I.1.2.2.2.2.2.2.2.1 I.1.2.2.2.2.2.2.2.2 _ _ ?_
  intro h1 a1 a2
  have I1 := I.q a1 a2
  conv => whnf
  try rw [show (fun x y : Int32 => x + y) (nI i) 1 = nI (i + 1) from (zn_plus i 1).symm]
  refine ⟨inB_of (INVg.t1 I1) (INVg.n1 I1) (show i + 1 < Ls by omega) (by omega), ?_⟩
  conv => whnf
  rw [nI_clamp (show i + 1 < 2 ^ 31 by omega)]
  try rw [INVg.x1 I1]
  try rw [show (fun x y : Int32 => x + y) (nI i) 2 = nI (i + 2) from (zn_plus i 2).symm]
  refine ⟨inB_of (INVg.t1 I1) (INVg.n1 I1) (show i + 2 < Ls by omega) (by omega), ?_⟩
  conv => whnf
  rw [nI_clamp (show i + 2 < 2 ^ 31 by omega)]
  try rw [INVg.x1 I1]
  refine bifT (and3 (a := ca + 0 + 0) (b := 600000) (c := sl + 0 + 0) (d := 7302250) (by omega) (by omega) rfl) ?_
  conv => whnf
  refine ⟨wt_116 I1.1.1.1, ?_⟩
  refine c_M_field S I1.2.1.1 I.2.2.1 _ _ ?_
  intro h2 e2
  have I2 := I1.m (mq_MNX e2) (fun k hk => by unfold mq at hk; omega) (fun j hj => absurd hj id)
  conv => whnf
  refine bk_t (rfl) ?_
  conv => whnf
  exact nx _ (ca + 0 + 0) (sl + 0 + 0) I2.inv (by omega) (by omega)
set_option maxRecDepth 20000 in
theorem law_written {P : PSem} (S : SysOK P) {h : PH} {u tx : Nat → Nat} {L : Nat} {l0 : Nat → Int64} {f0 s0 m0 : Nat → Int32} {s s' : Nat} {H : List (Nat × Nat)} {g : Nat → Option (Nat → Nat)} {ttx : Nat → Nat} {tL Ls : Nat} {xs : Nat → Int32} (I : INVg h u tx L l0 f0 s0 m0 s s' H g ttx tL Ls xs) {i : Nat} (hi : i + 6 ≤ Ls) (hLs : Ls ≤ 3072) {ca sl : Nat} (hca : ca ≤ 2000) (hsl : sl ≤ 5000000) {K : PK} (nx : ∀ h' c' s', INV h' Ls xs → c' ≤ ca + 2 → s' ≤ sl + 8192 → P.2 n_Law_law 901 [some (.ref 1), some (.ref 5), some (.ref 116), some (.int (nI i))] [] h' c' s' K) : P.2 n_Law_law 776 [some (.ref 1), some (.ref 5), some (.ref 116), some (.int (nI i))] [] h ca sl K := by
  refine S.at 100 [901] rfl ?_
  conv => whnf
  try rw [show (fun x y : Int32 => x + y) (nI i) 1 = nI (i + 1) from (zn_plus i 1).symm]
  refine ⟨inB_of (INVg.t1 I) (INVg.n1 I) (show i + 1 < Ls by omega) (by omega), ?_⟩
  conv => whnf
  rw [nI_clamp (show i + 1 < 2 ^ 31 by omega)]
  try rw [INVg.x1 I]
  try rw [show (fun x y : Int32 => x + y) (nI i) 2 = nI (i + 2) from (zn_plus i 2).symm]
  refine ⟨inB_of (INVg.t1 I) (INVg.n1 I) (show i + 2 < Ls by omega) (by omega), ?_⟩
  conv => whnf
  rw [nI_clamp (show i + 2 < 2 ^ 31 by omega)]
  try rw [INVg.x1 I]
  try rw [show (fun x y : Int32 => x + y) (nI i) 3 = nI (i + 3) from (zn_plus i 3).symm]
  refine ⟨inB_of (INVg.t1 I) (INVg.n1 I) (show i + 3 < Ls by omega) (by omega), ?_⟩
  conv => whnf
  rw [nI_clamp (show i + 3 < 2 ^ 31 by omega)]
  try rw [INVg.x1 I]
  try rw [show (fun x y : Int32 => x + y) (nI i) 4 = nI (i + 4) from (zn_plus i 4).symm]
  refine ⟨inB_of (INVg.t1 I) (INVg.n1 I) (show i + 4 < Ls by omega) (by omega), ?_⟩
  conv => whnf
  rw [nI_clamp (show i + 4 < 2 ^ 31 by omega)]
  try rw [INVg.x1 I]
  refine bifT (and3 (a := ca + 0) (b := 600000) (c := sl + 0) (d := 7302250) (by omega) (by omega) rfl) ?_
  conv => whnf
  refine ⟨wt_5 I.1.1.1, ?_⟩
  refine c_FT_written S I.1.1 _ _ _ _ ?_
  intro h1 a1 a2
  have I1 := I.q a1 a2
  conv => whnf
  try rw [show (fun x y : Int32 => x + y) (nI i) 1 = nI (i + 1) from (zn_plus i 1).symm]
  refine ⟨inB_of (INVg.t1 I1) (INVg.n1 I1) (show i + 1 < Ls by omega) (by omega), ?_⟩
  conv => whnf
  rw [nI_clamp (show i + 1 < 2 ^ 31 by omega)]
  try rw [INVg.x1 I1]
  try rw [show (fun x y : Int32 => x + y) (nI i) 2 = nI (i + 2) from (zn_plus i 2).symm]
  refine ⟨inB_of (INVg.t1 I1) (INVg.n1 I1) (show i + 2 < Ls by omega) (by omega), ?_⟩
  conv => whnf
  rw [nI_clamp (show i + 2 < 2 ^ 31 by omega)]
  try rw [INVg.x1 I1]
  try rw [show (fun x y : Int32 => x + y) (nI i) 3 = nI (i + 3) from (zn_plus i 3).symm]
  refine ⟨inB_of (INVg.t1 I1) (INVg.n1 I1) (show i + 3 < Ls by omega) (by omega), ?_⟩
  conv => whnf
  rw [nI_clamp (show i + 3 < 2 ^ 31 by omega)]
  try rw [INVg.x1 I1]
  try rw [show (fun x y : Int32 => x + y) (nI i) 4 = nI (i + 4) from (zn_plus i 4).symm]
  refine ⟨inB_of (INVg.t1 I1) (INVg.n1 I1) (show i + 4 < Ls by omega) (by omega), ?_⟩
  conv => whnf
  rw [nI_clamp (show i + 4 < 2 ^ 31 by omega)]
  try rw [INVg.x1 I1]
  refine bifT (and3 (a := ca + 0 + 0) (b := 600000) (c := sl + 0 + 0) (d := 7302250) (by omega) (by omega) rfl) ?_
  conv => whnf
  refine ⟨wt_116 I1.1.1.1, ?_⟩
  refine c_M_written S I1.2.1.1 _ _ _ _ ?_
  intro h2 e2
  have I2 := I1.m (J := fun j => j = 49) (A := fun k => k = 148 ∨ k = 116) ⟨e2.1.y, fun j hj => e2.2 j hj⟩ (fun k hk => by omega) (fun j hj => hj)
  conv => whnf
  refine bk_t (rfl) ?_
  conv => whnf
  exact nx _ (ca + 0 + 0) (sl + 0 + 0) I2.inv (by omega) (by omega)
