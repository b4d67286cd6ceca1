/-! CLASS: the worker's steps -/
def sgn (tx : Nat → Nat) (L : Nat) (l : Lv) : Nat := match l.2.2.1 with
  | none => 7
  | some o => tkk tx L o
def WKL (h : PH) (tx : Nat → Nat) (L : Nat) (lv : List Lv) : Prop := ∀ i l, lv[i]? = some l → hI h 81 (lv.length - 1 - i) = nI l.2.1.2 ∧ hI h 83 (lv.length - 1 - i) = nI (sgn tx L l) ∧ (∀ o, l.2.2.1 = some o → hI h 82 (lv.length - 1 - i) = nI l.2.2.2 ∧ hI h 84 (lv.length - 1 - i) = nI (tkS tx L o))
theorem WKL.tl {h : PH} {tx : Nat → Nat} {L : Nat} {l : Lv} {r : List Lv} (w : WKL h tx L (l :: r)) : WKL h tx L r := by
  intro i v hv
  have hl := lt_some hv
  have := w (i + 1) v (by simpa using hv)
  rw [List.length_cons, show r.length + 1 - 1 - (i + 1) = r.length - 1 - i by omega] at this
  exact this
theorem WKL.hd {h : PH} {tx : Nat → Nat} {L : Nat} {l : Lv} {r : List Lv} (w : WKL h tx L (l :: r)) : hI h 81 r.length = nI l.2.1.2 ∧ hI h 83 r.length = nI (sgn tx L l) ∧ (∀ o, l.2.2.1 = some o → hI h 82 r.length = nI l.2.2.2 ∧ hI h 84 r.length = nI (tkS tx L o)) := by
  have := w 0 l rfl
  rw [List.length_cons, show r.length + 1 - 1 - 0 = r.length by omega] at this
  exact this
/-- a new top over what lies below -/
theorem WKL.top {h h' : PH} {tx : Nat → Nat} {L : Nat} {l : Lv} {r : List Lv} (w : WKL h tx L r) (e : ∀ k q, q < r.length → (81 ≤ k ∧ k ≤ 84) → hI h' k q = hI h k q) (t : hI h' 81 r.length = nI l.2.1.2 ∧ hI h' 83 r.length = nI (sgn tx L l) ∧ (∀ o, l.2.2.1 = some o → hI h' 82 r.length = nI l.2.2.2 ∧ hI h' 84 r.length = nI (tkS tx L o))) : WKL h' tx L (l :: r) := by
  intro i v hv
  rw [List.length_cons]
  cases i with
  | zero =>
    have ev : l = v := by simpa using hv
    rw [show r.length + 1 - 1 - 0 = r.length by omega, ← ev]
    exact t
  | succ i =>
    have hv : r[i]? = some v := by simpa using hv
    have hl := lt_some hv
    rw [show r.length + 1 - 1 - (i + 1) = r.length - 1 - i by omega, e 81 _ (by omega) (by decide), e 83 _ (by omega) (by decide), e 82 _ (by omega) (by decide), e 84 _ (by omega) (by decide)]
    exact w i v hv
def W6 (k : Nat) : Prop := 79 ≤ k ∧ k ≤ 84
def bgH (h : PH) (o : Nat) : PH := sI (sI (sI h 81 o 0) 82 o 0) 83 o 7
theorem bgH_F {h : PH} {o : Nat} : eqX W6 h (bgH h o) := eqX_tr (eqX_tr (eqX_sI (by unfold W6; omega)) (eqX_sI (by unfold W6; omega))) (eqX_sI (by unfold W6; omega))
theorem c_Worker_begin {P : PSem} (S : SysOK P) {h : PH} (hw : WS h) {o : Nat} (ho : o < 9) {K : PK} (hK : K .null (bgH h o)) : P.1 n_Worker_begin [.ref 79, .int (nI o)] h K := by
  have hw1 : WS (sI h 81 o 0) := hw
  have hw2 : WS (sI (sI h 81 o 0) 82 o 0) := hw
  refine S.go 40 rfl rfl rfl ?_
  conv => whnf
  refine ⟨wt_79 hw, ?_⟩
  conv => whnf
  rw [wr_79_2 hw]
  refine ⟨⟨by decide, inB_of (wt_81 hw) (wn_81 hw) ho (by decide)⟩, ?_⟩
  conv => whnf
  rw [nI_clamp (by omega)]
  refine ⟨wt_79 hw1, ?_⟩
  conv => whnf
  rw [wr_79_3 hw1]
  refine ⟨⟨by decide, inB_of (wt_82 hw1) (wn_82 hw1) ho (by decide)⟩, ?_⟩
  conv => whnf
  rw [nI_clamp (by omega)]
  refine ⟨wt_79 hw2, ?_⟩
  conv => whnf
  rw [wr_79_4 hw2]
  refine ⟨⟨by decide, inB_of (wt_83 hw2) (wn_83 hw2) ho (by decide)⟩, ?_⟩
  conv => whnf
  rw [nI_clamp (by omega)]
  exact hK
theorem WKL.new {h : PH} {tx : Nat → Nat} {L : Nat} {r : List Lv} (w : WKL h tx L r) (t : Nat) : WKL (bgH h r.length) tx L ((t, (none, 0), (none, 0)) :: r) := by
  refine w.top (fun k q hq hk => ?_) ⟨?_, ?_, fun o ho => absurd ho (by simp)⟩
  · unfold bgH
    have st : ∀ (H : PH) (c : Nat) (v : Int32), hI (sI H c r.length v) k q = hI H k q := fun H c v => by
      by_cases e : k = c
      · rw [e, hI_sI_j (by omega)]
      · rw [hI_ne e]
    rw [st, st, st]
  · unfold bgH
    rw [hI_ne (by decide), hI_ne (by decide), hI_sI]
    rfl
  · unfold bgH
    rw [hI_sI]
    rfl
theorem c_Worker_join {P : PSem} (S : SysOK P) {h : PH} (hw : WS h) {tx : Nat → Nat} {L : Nat} {n m x k : Nat} (n2 : n ≤ 12) (hm : MDg n m) (hF : FOK h k n m) {l : Lv} {r : List Lv} (w : WKL h tx L (l :: r)) (ok : oks tx L l) (hr : r.length < 9) (hx : hI h 79 6 = nI x) (xl : x < 2 ^ n) (pl : l.2.2.2 < 2 ^ n) {K : PK}
    (hK0 : jnE tx L l.2.2 x = none → K (.int 1) (sI h 82 r.length (nI (jnV tx L n m l.2.2 x)))) (hK1 : ∀ p, jnE tx L l.2.2 x = some p → K (.int 0) (sI h 79 1 (nI p))) : P.1 n_Worker_join [.ref 79, .ref k, .int (nI r.length)] h K := by
  obtain ⟨w1, w2, w3⟩ := w.hd
  have p12 : 2 ^ n ≤ 2 ^ 12 := Nat.pow_le_pow_right (by decide) n2
  have c12 : 2 ^ 12 = 4096 := by decide
  obtain ⟨a, b, c⟩ := ok
  cases g : l.2.2.1 with
  | none =>
    have e1 : sgn tx L l = 7 := by
      unfold sgn
      rw [g]
    have e2 : jnE tx L l.2.2 x = none := by
      unfold jnE
      rw [g]
    have e3 : jnV tx L n m l.2.2 x = x := by
      unfold jnV
      rw [g]
    rw [e1] at w2
    rw [e3] at hK0
    refine S.go 60 rfl rfl rfl ?_
    conv => whnf
    refine ⟨wt_79 hw, ?_⟩
    conv => whnf
    rw [wr_79_4 hw]
    refine ⟨inB_of (wt_83 hw) (wn_83 hw) hr (by decide), ?_⟩
    conv => whnf
    rw [nI_clamp (by omega), w2]
    refine bk_nt (by decide) ?_
    conv => whnf
    refine ⟨wt_79 hw, ?_⟩
    conv => whnf
    rw [wr_79_4 hw]
    refine ⟨inB_of (wt_83 hw) (wn_83 hw) hr (by decide), ?_⟩
    conv => whnf
    rw [nI_clamp (by omega), w2]
    refine bk_f (by decide) ?_
    conv => whnf
    refine ⟨wt_79 hw, ?_⟩
    conv => whnf
    rw [wr_79_3 hw]
    refine ⟨wt_79 hw, ?_⟩
    conv => whnf
    rw [hx]
    refine ⟨⟨by decide, inB_of (wt_82 hw) (wn_82 hw) hr (by decide)⟩, ?_⟩
    conv => whnf
    rw [nI_clamp (by omega)]
    exact ⟨Or.inr rfl, hK0 e2⟩
  | some o =>
    obtain ⟨w4, w5⟩ := w3 o g
    have e1 : sgn tx L l = tkk tx L o := by
      unfold sgn
      rw [g]
    rw [e1] at w2
    rcases a o g with k8 | k9
    · have e2 : jnE tx L l.2.2 x = none := by
        unfold jnE
        rw [g]
        show (if tkk tx L o ≠ 8 ∧ x = 0 then some (tkS tx L o) else none) = none
        rw [if_neg (fun y => y.1 k8)]
      have e3 : jnV tx L n m l.2.2 x = fm n m l.2.2.2 x := by
        unfold jnV
        rw [g]
        show (if tkk tx L o = 8 then _ else _) = _
        rw [if_pos k8]
      rw [k8] at w2
      rw [e3] at hK0
      refine S.go 60 rfl rfl rfl ?_
      conv => whnf
      refine ⟨wt_79 hw, ?_⟩
      conv => whnf
      rw [wr_79_4 hw]
      refine ⟨inB_of (wt_83 hw) (wn_83 hw) hr (by decide), ?_⟩
      conv => whnf
      rw [nI_clamp (by omega), w2]
      refine bk_nf (rfl) ?_
      conv => whnf
      refine ⟨wt_79 hw, ?_⟩
      conv => whnf
      rw [wr_79_3 hw]
      refine ⟨wt_79 hw, ?_⟩
      conv => whnf
      try rw [wr_79_3 hw]
      refine ⟨inB_of (wt_82 hw) (wn_82 hw) hr (by decide), ?_⟩
      conv => whnf
      rw [nI_clamp (by omega), w4]
      refine ⟨wt_79 hw, ?_⟩
      conv => whnf
      rw [hx]
      refine ⟨hF.1, ?_⟩
      refine c_Field_times S hF n2 hm pl xl ?_
      conv => whnf
      refine ⟨⟨by decide, inB_of (wt_82 hw) (wn_82 hw) hr (by decide)⟩, ?_⟩
      conv => whnf
      rw [nI_clamp (by omega)]
      exact ⟨Or.inr rfl, hK0 e2⟩
    · have k8 : ¬ tkk tx L o = 8 := by omega
      have e2 : jnE tx L l.2.2 x = if x = 0 then some (tkS tx L o) else none := by
        unfold jnE
        rw [g]
        show (if tkk tx L o ≠ 8 ∧ x = 0 then some (tkS tx L o) else none) = _
        by_cases z : x = 0
        · rw [if_pos ⟨k8, z⟩, if_pos z]
        · rw [if_neg (fun y => z y.2), if_neg z]
      have e3 : jnV tx L n m l.2.2 x = fm n m l.2.2.2 (fpw n m x (2 ^ n - 2)) := by
        unfold jnV
        rw [g]
        show (if tkk tx L o = 8 then _ else _) = _
        rw [if_neg k8]
      rw [k9] at w2
      rw [e3] at hK0
      refine S.go 80 rfl rfl rfl ?_
      conv => whnf
      refine ⟨wt_79 hw, ?_⟩
      conv => whnf
      rw [wr_79_4 hw]
      refine ⟨inB_of (wt_83 hw) (wn_83 hw) hr (by decide), ?_⟩
      conv => whnf
      rw [nI_clamp (by omega), w2]
      refine bk_nt (by decide) ?_
      conv => whnf
      refine ⟨wt_79 hw, ?_⟩
      conv => whnf
      rw [wr_79_4 hw]
      refine ⟨inB_of (wt_83 hw) (wn_83 hw) hr (by decide), ?_⟩
      conv => whnf
      rw [nI_clamp (by omega), w2]
      refine bk_t (rfl) ?_
      conv => whnf
      refine ⟨wt_79 hw, ?_⟩
      conv => whnf
      rw [hx]
      refine bk_eq (b := 0) (by omega) (by omega) (fun z => ?_) (fun z => ?_)
      · rw [if_pos z] at e2
        conv => whnf
        refine ⟨wt_79 hw, ?_⟩
        conv => whnf
        rw [wr_79_5 hw]
        refine ⟨inB_of (wt_84 hw) (wn_84 hw) hr (by decide), ?_⟩
        conv => whnf
        rw [nI_clamp (by omega), w5]
        refine ⟨wt_79 hw, ?_⟩
        conv => whnf
        exact ⟨Or.inl rfl, hK1 _ e2⟩
      · rw [if_neg z] at e2
        conv => whnf
        refine ⟨wt_79 hw, ?_⟩
        conv => whnf
        rw [wr_79_3 hw]
        refine ⟨wt_79 hw, ?_⟩
        conv => whnf
        try rw [wr_79_3 hw]
        refine ⟨inB_of (wt_82 hw) (wn_82 hw) hr (by decide), ?_⟩
        conv => whnf
        rw [nI_clamp (by omega), w4]
        refine ⟨wt_79 hw, ?_⟩
        conv => whnf
        rw [hx]
        refine ⟨hF.1, ?_⟩
        refine c_Field_inverse S hF n2 hm xl ?_
        conv => whnf
        refine ⟨hF.1, ?_⟩
        refine c_Field_times S hF n2 hm pl (fpw_lt hm xl _) ?_
        conv => whnf
        refine ⟨⟨by decide, inB_of (wt_82 hw) (wn_82 hw) hr (by decide)⟩, ?_⟩
        conv => whnf
        rw [nI_clamp (by omega)]
        exact ⟨Or.inr rfl, hK0 e2⟩
theorem c_Worker_goOn12 {P : PSem} (S : SysOK P) {h : PH} (hw : WS h) {o a b : Nat} (ho : o < 9) (h1 : 1 ≤ o) (ha : hI h 81 o = nI a) (hb : hI h 82 o = nI b) {p : Int32} {K : PK} (hK : K (.int (nI (o - 1))) (sI h 79 6 (nI (a ^^^ b)))) : P.1 n_Worker_goOn [.ref 79, .int 12, .int (nI o), .int p] h K := by
  refine S.go 60 rfl rfl rfl ?_
  conv => whnf
  refine bk_nf (rfl) ?_
  conv => whnf
  refine ⟨wt_79 hw, ?_⟩
  conv => whnf
  rw [wr_79_2 hw]
  refine ⟨inB_of (wt_81 hw) (wn_81 hw) ho (by decide), ?_⟩
  conv => whnf
  rw [nI_clamp (by omega), ha]
  refine ⟨wt_79 hw, ?_⟩
  conv => whnf
  rw [wr_79_3 hw]
  refine ⟨inB_of (wt_82 hw) (wn_82 hw) ho (by decide), ?_⟩
  conv => whnf
  rw [nI_clamp (by omega), hb]
  rw [show (fun x y : Int32 => x ^^^ y) (nI a) (nI b) = nI (a ^^^ b) from zn_xor a b]
  refine ⟨wt_79 hw, ?_⟩
  conv => whnf
  rw [show (fun x y : Int32 => x - y) (nI o) 1 = nI (o - 1) from zn_mns (b := 1) h1]
  refine c_Math_max (a := 0) S (by decide) (by omega) ?_
  rw [show max 0 (o - 1) = o - 1 by omega]
  exact hK
theorem c_Worker_goOn7 {P : PSem} (S : SysOK P) {h : PH} (hw : WS h) {o a b : Nat} (ho : o < 9) (ha : hI h 81 o = nI a) (hb : hI h 82 o = nI b) {p : Int32} {K : PK} (hK : K (.int (nI o)) (sI (sI (sI h 81 o (nI (a ^^^ b))) 83 o 7) 84 o p)) : P.1 n_Worker_goOn [.ref 79, .int 7, .int (nI o), .int p] h K := by
  have hw1 : WS (sI h 81 o (nI (a ^^^ b))) := hw
  have hw2 : WS (sI (sI h 81 o (nI (a ^^^ b))) 83 o 7) := hw
  refine S.go 60 rfl rfl rfl ?_
  conv => whnf
  refine bk_nt (by decide) ?_
  conv => whnf
  refine bk_nf (rfl) ?_
  conv => whnf
  refine ⟨wt_79 hw, ?_⟩
  conv => whnf
  rw [wr_79_2 hw]
  refine ⟨inB_of (wt_81 hw) (wn_81 hw) ho (by decide), ?_⟩
  conv => whnf
  rw [nI_clamp (by omega), ha]
  refine ⟨wt_79 hw, ?_⟩
  conv => whnf
  rw [wr_79_3 hw]
  refine ⟨inB_of (wt_82 hw) (wn_82 hw) ho (by decide), ?_⟩
  conv => whnf
  rw [nI_clamp (by omega), hb]
  rw [show (fun x y : Int32 => x ^^^ y) (nI a) (nI b) = nI (a ^^^ b) from zn_xor a b]
  refine ⟨⟨by decide, inB_of (wt_81 hw) (wn_81 hw) ho (by decide)⟩, ?_⟩
  conv => whnf
  try rw [nI_clamp (show o < 2 ^ 31 by omega)]
  refine ⟨wt_79 hw1, ?_⟩
  conv => whnf
  rw [wr_79_4 hw1]
  refine ⟨⟨by decide, inB_of (wt_83 hw1) (wn_83 hw1) ho (by decide)⟩, ?_⟩
  conv => whnf
  rw [nI_clamp (by omega)]
  refine ⟨wt_79 hw2, ?_⟩
  conv => whnf
  rw [wr_79_5 hw2]
  refine ⟨⟨by decide, inB_of (wt_84 hw2) (wn_84 hw2) ho (by decide)⟩, ?_⟩
  conv => whnf
  rw [nI_clamp (by omega)]
  exact hK
theorem c_Worker_goOn89 {P : PSem} (S : SysOK P) {h : PH} (hw : WS h) {o k : Nat} (ho : o < 9) (hk : k = 8 ∨ k = 9) {p : Int32} {K : PK} (hK : K (.int (nI o)) (sI (sI h 83 o (nI k)) 84 o p)) : P.1 n_Worker_goOn [.ref 79, .int (nI k), .int (nI o), .int p] h K := by
  have hw2 : WS (sI h 83 o (nI k)) := hw
  refine S.go 60 rfl rfl rfl ?_
  conv => whnf
  refine bk_nt (fun y => absurd ((zn_eq (b := 12) (by omega) (by decide)).mp y) (by omega)) ?_
  conv => whnf
  refine bk_nt (fun y => absurd ((zn_eq (b := 7) (by omega) (by decide)).mp y) (by omega)) ?_
  conv => whnf
  refine ⟨wt_79 hw, ?_⟩
  conv => whnf
  rw [wr_79_4 hw]
  refine ⟨⟨by decide, inB_of (wt_83 hw) (wn_83 hw) ho (by decide)⟩, ?_⟩
  conv => whnf
  rw [nI_clamp (by omega)]
  refine ⟨wt_79 hw2, ?_⟩
  conv => whnf
  rw [wr_79_5 hw2]
  refine ⟨⟨by decide, inB_of (wt_84 hw2) (wn_84 hw2) ho (by decide)⟩, ?_⟩
  conv => whnf
  rw [nI_clamp (by omega)]
  exact hK
