/-! TOKENS: the class's scanner -/
def eqY (A : Nat → Prop) (h h' : PH) : Prop := h'.1 = h.1 ∧ hR h' = hR h ∧ hE h' = hE h ∧ ∀ k, ¬ A k → hI h' k = hI h k ∧ hL h' k = hL h k
theorem eqY_rf (A : Nat → Prop) (h : PH) : eqY A h h := ⟨rfl, rfl, rfl, fun _ _ => ⟨rfl, rfl⟩⟩
theorem eqY_tr {A : Nat → Prop} {a b c : PH} (x : eqY A a b) (y : eqY A b c) : eqY A a c := ⟨y.1.trans x.1, y.2.1.trans x.2.1, y.2.2.1.trans x.2.2.1, fun k hk => ⟨(y.2.2.2 k hk).1.trans (x.2.2.2 k hk).1, (y.2.2.2 k hk).2.trans (x.2.2.2 k hk).2⟩⟩
theorem eqX.y {A : Nat → Prop} {h h' : PH} (e : eqX A h h') : eqY A h h' := ⟨e.1, e.2.1, e.2.2.2.1, fun k hk => ⟨e.2.2.2.2 k hk, by rw [e.2.2.1]⟩⟩
theorem eqY_sI {A : Nat → Prop} {h : PH} {k j : Nat} {v : Int32} (hk : A k) : eqY A h (sI h k j v) := (eqX_sI hk).y
theorem eqY_sL {A : Nat → Prop} {h : PH} {k j : Nat} {v : Int64} (hk : A k) : eqY A h (sL h k j v) := ⟨rfl, rfl, rfl, fun q hq => ⟨rfl, by
  funext i
  show (if q = k ∧ i = j then v else hL h q i) = _
  rw [if_neg (fun e => hq (by rw [e.1]; exact hk))]⟩⟩
theorem eqY_mono {A B : Nat → Prop} {h h' : PH} (hab : ∀ k, A k → B k) (a : eqY A h h') : eqY B h h' := ⟨a.1, a.2.1, a.2.2.1, fun k hk => a.2.2.2 k (fun q => hk (hab k q))⟩
theorem eqY_T {A : Nat → Prop} {h h' : PH} (e : eqY A h h') (k : Nat) : hT h' k = hT h k := congrArg (fun f => (f k).1) e.1
theorem eqY_N {A : Nat → Prop} {h h' : PH} (e : eqY A h h') (k : Nat) : hN h' k = hN h k := congrArg (fun f => (f k).2) e.1
theorem eqY_WS {A : Nat → Prop} {h h' : PH} (e : eqY A h h') (hw : WS h) : WS h' := by
  obtain ⟨a, b, c, d⟩ := hw
  exact ⟨fun k h1 h2 => by rw [e.1]; exact a k h1 h2, fun q hq => by rw [e.2.1]; exact b q hq, by rw [eqY_T e]; exact c, by rw [e.2.2.1]; exact d⟩
theorem hL_sL {h : PH} {k j : Nat} {v : Int64} : hL (sL h k j v) k j = v := if_pos ⟨rfl, rfl⟩
theorem hL_sL_ne {h : PH} {k j q i : Nat} {v : Int64} (hne : ¬ (q = k ∧ i = j)) : hL (sL h k j v) q i = hL h q i := if_neg hne
def blkB (n : Nat) : Bool := n == 9 || n == 10 || n == 13 || n == 32
def ltrB (n : Nat) : Bool := Nat.ble 97 n && Nat.ble n 122
def dgtB (n : Nat) : Bool := Nat.ble 48 n && Nat.ble n 57
def skF (tx : Nat → Nat) (L p : Nat) : Nat := fnd (fun q => !(decide (q < L) && blkB (tx q))) 2001 p
def wdE (tx : Nat → Nat) (L p : Nat) : Nat := fnd (fun q => !(decide (q < L) && ltrB (tx q))) 2001 p
def rwE (tx : Nat → Nat) (L p : Nat) : Nat := fnd (fun q => !(decide (q < L) && dgtB (tx q))) 2001 p
theorem run_ok {f : Nat → Bool} {L p : Nat} (hp : p ≤ L) (hL : L ≤ 2000) : p ≤ fnd (fun q => !(decide (q < L) && f q)) 2001 p ∧ fnd (fun q => !(decide (q < L) && f q)) 2001 p ≤ L ∧ (fnd (fun q => !(decide (q < L) && f q)) 2001 p < L → f (fnd (fun q => !(decide (q < L) && f q)) 2001 p) = false) ∧ ∀ l, p ≤ l → l < fnd (fun q => !(decide (q < L) && f q)) 2001 p → l < L ∧ f l = true := by
  obtain ⟨a, b, c, d⟩ := fnd_ok (p := fun q => !(decide (q < L) && f q)) 2001 p L hp (by omega) (by
    rw [decide_eq_false (Nat.lt_irrefl L)]
    rfl)
  refine ⟨a, b, fun w => ?_, fun l h1 h2 => ?_⟩
  · rw [decide_eq_true w, Bool.true_and] at c
    simpa using c
  · have := d l h1 h2
    rw [Bool.not_eq_false', Bool.and_eq_true, decide_eq_true_iff] at this
    exact this
def nmF (B : Nat) (tx : Nat → Nat) (q : Nat) : Nat → Nat
  | 0 => 0
  | k + 1 => B * nmF B tx q k + (tx (q + k) - 96)
def dcF (tx : Nat → Nat) (q : Nat) : Nat → Nat
  | 0 => 0
  | k + 1 => 10 * dcF tx q k + (tx (q + k) - 48)
def sgK (c : Nat) : Nat := if c = 59 then 6 else if c = 43 then 7 else if c = 42 then 8 else if c = 47 then 9 else if c = 94 then 10 else if c = 40 then 11 else if c = 41 then 12 else 13
def wdK (w : Nat) : Nat := if w = 14466855603 then 1 else if w = 12468 then 2 else if w = 24 then 3 else 4
/-- kind, end and worth of the token behind a place -/
def tkK (tx : Nat → Nat) (L q : Nat) : Nat := if L ≤ q then 14 else if ltrB (tx q) then (if 8 < wdE tx L q - q then 13 else wdK (nmF 32 tx q (wdE tx L q - q))) else if dgtB (tx q) then (if 13 < rwE tx L q - q then 13 else 5) else sgK (tx q)
def tkE (tx : Nat → Nat) (L q : Nat) : Nat := if L ≤ q then q else if ltrB (tx q) then wdE tx L q else if dgtB (tx q) then rwE tx L q else q + 1
def tkW (tx : Nat → Nat) (L q : Nat) : Nat := if L ≤ q then 0 else if ltrB (tx q) then nmF 32 tx q (wdE tx L q - q) else if dgtB (tx q) then dcF tx q (rwE tx L q - q) else 0
theorem sb_le {c k : Nat} (hc : c < 256) (hk : k < 128) (hk1 : 1 ≤ k) : nI k ≤ sb c ↔ (k ≤ c ∧ c < 128) := by
  obtain ⟨a, b, -⟩ := sb_all hc
  rcases Nat.lt_or_ge c 128 with w | w
  · rw [a w, zn_le (by omega) (by omega)]
    omega
  · constructor
    · intro z
      exact absurd (Int32.le_trans z (Int32.le_of_lt (b w))) (fun y => absurd ((zn_le (b := 0) (by omega) (by decide)).mp y) (by omega))
    · omega
theorem le_sb {c k : Nat} (hc : c < 256) (hk : k < 128) : sb c ≤ nI k ↔ (c ≤ k ∨ 128 ≤ c) := by
  obtain ⟨a, b, -⟩ := sb_all hc
  rcases Nat.lt_or_ge c 128 with w | w
  · rw [a w, zn_le (by omega) (by omega)]
    omega
  · exact ⟨fun _ => Or.inr w, fun _ => Int32.le_of_lt (Int32.lt_of_lt_of_le (b w) (nI_pos' (by omega)))⟩
theorem sb_eq {c k : Nat} (hc : c < 256) (hk : k < 128) : sb c = nI k ↔ c = k := by
  obtain ⟨a, b, -⟩ := sb_all hc
  rcases Nat.lt_or_ge c 128 with w | w
  · rw [a w, zn_eq (by omega) (by omega)]
  · constructor
    · intro z
      have := b w
      rw [z] at this
      exact absurd this (nI_pos (by omega))
    · omega
def TKF (h h' : PH) : Prop := eqY (fun k => k = 6) h h' ∧ hI h' 6 1 = hI h 6 1
theorem TKF_rf (h : PH) : TKF h h := ⟨eqY_rf _ _, rfl⟩
theorem TKF_tr {a b c : PH} (x : TKF a b) (y : TKF b c) : TKF a c := ⟨eqY_tr x.1 y.1, y.2.trans x.2⟩
theorem TKF_sI {h : PH} {j : Nat} {v : Int32} (hj : j ≠ 1) : TKF h (sI h 6 j v) := ⟨eqY_sI rfl, hI_sI_j (fun e => hj e.symm)⟩
theorem TKF_sL {h : PH} {j : Nat} {v : Int64} : TKF h (sL h 6 j v) := ⟨eqY_sL rfl, rfl⟩
theorem TKF.tc {h h' : PH} {tx : Nat → Nat} {L : Nat} (e : TKF h h') (hT : TC h tx L) : TC h' tx L := ⟨by rw [e.2]; exact hT.1, fun i hi => by rw [(e.1.2.2.2 7 (by decide)).1]; exact hT.2 i hi⟩
theorem c_Tape_isBlank {P : PSem} (S : SysOK P) {h : PH} {c : Nat} (hc : c < 256) {K : PK} (hK : K (.int (bI (blkB c))) h) : P.1 n_Tape_isBlank [.int (sb c)] h K := by
  have e := fun k hk => sb_eq (k := k) hc hk
  unfold blkB at hK
  refine S.go 40 rfl rfl rfl ?_
  conv => whnf
  refine ⟨fun z => ?_, fun z => ?_⟩
  · rw [beq_iff_eq.mpr ((e 9 (by decide)).mp z)] at hK
    conv => whnf
    exact ⟨Or.inr rfl, hK⟩
  rw [beq_eq_false_iff_ne.mpr (fun y => z ((e 9 (by decide)).mpr y)), Bool.false_or] at hK
  conv => whnf
  refine ⟨fun z => ?_, fun z => ?_⟩
  · rw [beq_iff_eq.mpr ((e 10 (by decide)).mp z)] at hK
    conv => whnf
    exact ⟨Or.inr rfl, hK⟩
  rw [beq_eq_false_iff_ne.mpr (fun y => z ((e 10 (by decide)).mpr y)), Bool.false_or] at hK
  conv => whnf
  refine ⟨fun z => ?_, fun z => ?_⟩
  · rw [beq_iff_eq.mpr ((e 13 (by decide)).mp z)] at hK
    conv => whnf
    exact ⟨Or.inr rfl, hK⟩
  rw [beq_eq_false_iff_ne.mpr (fun y => z ((e 13 (by decide)).mpr y)), Bool.false_or] at hK
  conv => whnf
  refine ⟨fun z => ?_, fun z => ?_⟩
  · rw [beq_eq_false_iff_ne.mpr (fun y => z ((e 32 (by decide)).mpr y))] at hK
    conv => whnf
    exact ⟨Or.inl rfl, hK⟩
  · rw [beq_iff_eq.mpr ((e 32 (by decide)).mp z)] at hK
    conv => whnf
    exact ⟨Or.inr rfl, hK⟩
theorem c_Tape_isLetter {P : PSem} (S : SysOK P) {h : PH} (hw : WS h) {tx : Nat → Nat} {L p : Nat} (hT : TC h tx L) (hB : TXB tx) (hL : L ≤ 2000) (hp : p ≤ 2000) {K : PK} (hK : K (.int (bI (decide (p < L) && ltrB (tx p)))) h) : P.1 n_Tape_isLetter [.ref 6, .int (nI p)] h K := by
  unfold ltrB at hK
  refine S.go 60 rfl rfl rfl ?_
  conv => whnf
  refine ⟨wt_6 hw, ?_⟩
  conv => whnf
  rw [hT.1]
  refine bk_le (by omega) (by omega) (fun c => ?_) (fun c => ?_)
  · rw [decide_eq_false (by omega), Bool.false_and] at hK
    conv => whnf
    exact ⟨Or.inl rfl, hK⟩
  · rw [decide_eq_true c, Bool.true_and] at hK
    have e1 := sb_le (k := 97) (hB p) (by decide) (by decide)
    have e2 := le_sb (k := 122) (hB p) (by decide)
    conv => whnf
    refine ⟨wt_6 hw, ?_⟩
    conv => whnf
    rw [wr_6_0 hw]
    refine ⟨Or.inl (inB_of (wt_7 hw) (wn_7 hw) (by omega) (by decide)), ?_⟩
    conv => whnf
    rw [nI_clamp (by omega), hT.2 p c]
    refine ⟨fun z => ?_, fun z => ?_⟩
    · have z' : ¬ (97 ≤ tx p ∧ tx p < 128) := fun y => absurd z (Int32.not_lt.mpr (e1.mpr y))
      have : (Nat.ble 97 (tx p) && Nat.ble (tx p) 122) = false := by
        rw [← Bool.not_eq_true, Bool.and_eq_true, Nat.ble_eq, Nat.ble_eq]
        omega
      rw [this] at hK
      conv => whnf
      exact ⟨Or.inl rfl, hK⟩
    · have z' := e1.mp (Int32.not_lt.mp z)
      conv => whnf
      refine ⟨wt_6 hw, ?_⟩
      conv => whnf
      rw [wr_6_0 hw]
      refine ⟨Or.inl (inB_of (wt_7 hw) (wn_7 hw) (by omega) (by decide)), ?_⟩
      conv => whnf
      rw [nI_clamp (by omega), hT.2 p c]
      refine ⟨fun y => ?_, fun y => ?_⟩
      · have y' : ¬ (tx p ≤ 122 ∨ 128 ≤ tx p) := fun q => absurd y (Int32.not_lt.mpr (e2.mpr q))
        have : (Nat.ble 97 (tx p) && Nat.ble (tx p) 122) = false := by
          rw [← Bool.not_eq_true, Bool.and_eq_true, Nat.ble_eq, Nat.ble_eq]
          omega
        rw [this] at hK
        conv => whnf
        exact ⟨Or.inl rfl, hK⟩
      · have y' := e2.mp (Int32.not_lt.mp y)
        have : (Nat.ble 97 (tx p) && Nat.ble (tx p) 122) = true := by
          rw [Bool.and_eq_true, Nat.ble_eq, Nat.ble_eq]
          omega
        rw [this] at hK
        conv => whnf
        exact ⟨Or.inr rfl, hK⟩
theorem c_Tape_isDigit {P : PSem} (S : SysOK P) {h : PH} (hw : WS h) {tx : Nat → Nat} {L p : Nat} (hT : TC h tx L) (hB : TXB tx) (hL : L ≤ 2000) (hp : p ≤ 2000) {K : PK} (hK : K (.int (bI (decide (p < L) && dgtB (tx p)))) h) : P.1 n_Tape_isDigit [.ref 6, .int (nI p)] h K := by
  unfold dgtB at hK
  refine S.go 60 rfl rfl rfl ?_
  conv => whnf
  refine ⟨wt_6 hw, ?_⟩
  conv => whnf
  rw [hT.1]
  refine bk_le (by omega) (by omega) (fun c => ?_) (fun c => ?_)
  · rw [decide_eq_false (by omega), Bool.false_and] at hK
    conv => whnf
    exact ⟨Or.inl rfl, hK⟩
  · rw [decide_eq_true c, Bool.true_and] at hK
    have e1 := sb_le (k := 48) (hB p) (by decide) (by decide)
    have e2 := le_sb (k := 57) (hB p) (by decide)
    conv => whnf
    refine ⟨wt_6 hw, ?_⟩
    conv => whnf
    rw [wr_6_0 hw]
    refine ⟨Or.inl (inB_of (wt_7 hw) (wn_7 hw) (by omega) (by decide)), ?_⟩
    conv => whnf
    rw [nI_clamp (by omega), hT.2 p c]
    refine ⟨fun z => ?_, fun z => ?_⟩
    · have z' : ¬ (48 ≤ tx p ∧ tx p < 128) := fun y => absurd z (Int32.not_lt.mpr (e1.mpr y))
      have : (Nat.ble 48 (tx p) && Nat.ble (tx p) 57) = false := by
        rw [← Bool.not_eq_true, Bool.and_eq_true, Nat.ble_eq, Nat.ble_eq]
        omega
      rw [this] at hK
      conv => whnf
      exact ⟨Or.inl rfl, hK⟩
    · have z' := e1.mp (Int32.not_lt.mp z)
      conv => whnf
      refine ⟨wt_6 hw, ?_⟩
      conv => whnf
      rw [wr_6_0 hw]
      refine ⟨Or.inl (inB_of (wt_7 hw) (wn_7 hw) (by omega) (by decide)), ?_⟩
      conv => whnf
      rw [nI_clamp (by omega), hT.2 p c]
      refine ⟨fun y => ?_, fun y => ?_⟩
      · have y' : ¬ (tx p ≤ 57 ∨ 128 ≤ tx p) := fun q => absurd y (Int32.not_lt.mpr (e2.mpr q))
        have : (Nat.ble 48 (tx p) && Nat.ble (tx p) 57) = false := by
          rw [← Bool.not_eq_true, Bool.and_eq_true, Nat.ble_eq, Nat.ble_eq]
          omega
        rw [this] at hK
        conv => whnf
        exact ⟨Or.inl rfl, hK⟩
      · have y' := e2.mp (Int32.not_lt.mp y)
        have : (Nat.ble 48 (tx p) && Nat.ble (tx p) 57) = true := by
          rw [Bool.and_eq_true, Nat.ble_eq, Nat.ble_eq]
          omega
        rw [this] at hK
        conv => whnf
        exact ⟨Or.inr rfl, hK⟩
theorem l_Tape_skip {P : PSem} (S : SysOK P) {h0 : PH} (hw0 : WS h0) {tx : Nat → Nat} {L e : Nat} (hT0 : TC h0 tx L) (hB : TXB tx) (hL : L ≤ 2000) (he1 : e ≤ L) (he2 : e < L → blkB (tx e) = false) {K : PK} (hK : ∀ h', TKF h0 h' → hI h' 6 2 = nI e → K .null h') : ∀ j p h, p + j = e → (∀ l, p ≤ l → l < e → blkB (tx l) = true) → TKF h0 h → hI h 6 2 = nI p →
    P.2 n_Tape_skipBlanks 0 [some (.ref 6)] [] h 0 0 K := by
  intro j
  induction j with
  | zero =>
    intro p h hp hb hf ha
    have e1 : p = e := by omega
    subst e1
    have hw := eqY_WS hf.1 hw0
    have hT := hf.tc hT0
    refine S.at 60 [] rfl ?_
    conv => whnf
    refine ⟨wt_6 hw, ?_⟩
    conv => whnf
    rw [ha]
    refine ⟨wt_6 hw, ?_⟩
    conv => whnf
    rw [hT.1]
    refine bk_le (by omega) (by omega) (fun c => ?_) (fun c => ?_)
    · conv => whnf
      exact hK h hf ha
    · conv => whnf
      refine ⟨wt_6 hw, ?_⟩
      conv => whnf
      rw [wr_6_0 hw]
      refine ⟨wt_6 hw, ?_⟩
      conv => whnf
      rw [ha]
      refine ⟨Or.inl (inB_of (wt_7 hw) (wn_7 hw) (by omega) (by decide)), ?_⟩
      conv => whnf
      rw [nI_clamp (by omega), hT.2 p c]
      refine c_Tape_isBlank S (hB p) ?_
      conv => whnf
      rw [he2 c]
      refine bk_t (rfl) ?_
      conv => whnf
      exact hK h hf ha
  | succ j ih =>
    intro p h hp hb hf ha
    have hw := eqY_WS hf.1 hw0
    have hT := hf.tc hT0
    refine S.at 60 [] rfl ?_
    conv => whnf
    refine ⟨wt_6 hw, ?_⟩
    conv => whnf
    rw [ha]
    refine ⟨wt_6 hw, ?_⟩
    conv => whnf
    rw [hT.1]
    refine bk_f (fun c => absurd ((zn_le (by omega) (by omega)).mp c) (by omega)) ?_
    conv => whnf
    refine ⟨wt_6 hw, ?_⟩
    conv => whnf
    rw [wr_6_0 hw]
    refine ⟨wt_6 hw, ?_⟩
    conv => whnf
    rw [ha]
    refine ⟨Or.inl (inB_of (wt_7 hw) (wn_7 hw) (by omega) (by decide)), ?_⟩
    conv => whnf
    rw [nI_clamp (by omega), hT.2 p (by omega)]
    refine c_Tape_isBlank S (hB p) ?_
    conv => whnf
    rw [hb p (Nat.le_refl p) (by omega)]
    refine bk_f ((by decide)) ?_
    conv => whnf
    refine ⟨wt_6 hw, ?_⟩
    conv => whnf
    rw [ha]
    refine ⟨wt_6 hw, ?_⟩
    conv => whnf
    have next := ih (p + 1) (sI h 6 2 (nI (p + 1))) (by omega) (fun l h1 h2 => hb l (by omega) h2) (TKF_tr hf (TKF_sI (by decide))) hI_sI
    rw [← nI_1 p] at next
    exact next
theorem c_Tape_skipBlanks {P : PSem} (S : SysOK P) {h : PH} (hw : WS h) {tx : Nat → Nat} {L p : Nat} (hT : TC h tx L) (hB : TXB tx) (hL : L ≤ 2000) (hp : p ≤ L) (ha : hI h 6 2 = nI p) {K : PK} (hK : ∀ h', TKF h h' → hI h' 6 2 = nI (skF tx L p) → K .null h') : P.1 n_Tape_skipBlanks [.ref 6] h K := by
  obtain ⟨a, b, c, d⟩ := run_ok (f := fun q => blkB (tx q)) hp hL
  refine S.2.1 _ 1 _ _ _ rfl rfl ?_
  have e0 : p + (skF tx L p - p) = skF tx L p := Nat.add_sub_cancel' a
  exact l_Tape_skip S hw hT hB hL b c hK (skF tx L p - p) p h e0 (fun l h1 h2 => (d l h1 h2).2) (TKF_rf h) ha
theorem c_Tape_signKind {P : PSem} (S : SysOK P) {h : PH} {c : Nat} (hc : c < 256) {K : PK} (hK : K (.int (nI (sgK c))) h) : P.1 n_Tape_signKind [.int (sb c)] h K := by
  have e := fun k hk => sb_eq (k := k) hc hk
  unfold sgK at hK
  refine S.go 40 rfl rfl rfl ?_
  conv => whnf
  refine ⟨fun z => ?_, fun z0 => ?_⟩
  · have z := (e 40 (by decide)).mp z
    rw [z] at hK
    conv => whnf
    exact hK
  refine ⟨fun z => ?_, fun z1 => ?_⟩
  · have z := (e 41 (by decide)).mp z
    rw [z] at hK
    conv => whnf
    exact hK
  refine ⟨fun z => ?_, fun z2 => ?_⟩
  · have z := (e 42 (by decide)).mp z
    rw [z] at hK
    conv => whnf
    exact hK
  refine ⟨fun z => ?_, fun z3 => ?_⟩
  · have z := (e 43 (by decide)).mp z
    rw [z] at hK
    conv => whnf
    exact hK
  refine ⟨fun z => ?_, fun z4 => ?_⟩
  · have z := (e 47 (by decide)).mp z
    rw [z] at hK
    conv => whnf
    exact hK
  refine ⟨fun z => ?_, fun z5 => ?_⟩
  · have z := (e 59 (by decide)).mp z
    rw [z] at hK
    conv => whnf
    exact hK
  refine ⟨fun z => ?_, fun z6 => ?_⟩
  · have z := (e 94 (by decide)).mp z
    rw [z] at hK
    conv => whnf
    exact hK
  rw [if_neg (fun y => z5 ((e 59 (by decide)).mpr y)), if_neg (fun y => z3 ((e 43 (by decide)).mpr y)), if_neg (fun y => z2 ((e 42 (by decide)).mpr y)), if_neg (fun y => z4 ((e 47 (by decide)).mpr y)), if_neg (fun y => z6 ((e 94 (by decide)).mpr y)), if_neg (fun y => z0 ((e 40 (by decide)).mpr y)), if_neg (fun y => z1 ((e 41 (by decide)).mpr y))] at hK
  conv => whnf
  exact hK
