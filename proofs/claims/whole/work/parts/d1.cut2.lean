/-! TOKENS: the reference cuts the text -/
def cvF (B C : Nat) : Nat → Nat → Nat
  | 0, _ => 0
  | f + 1, n => if n = 0 then 0 else C * cvF B C f (n / B) + n % B
theorem cvF_ok {B C : Nat} (hB : 27 ≤ B) {tx : Nat → Nat} {q : Nat} : ∀ f k, k ≤ f → (∀ i, i < k → ltrB (tx (q + i)) = true) → cvF B C f (nmF B tx q k) = nmF C tx q k := by
  intro f
  induction f with
  | zero =>
    intro k hk _
    have e : k = 0 := by omega
    subst e
    rfl
  | succ f ih =>
    intro k hk hl
    cases k with
    | zero => rfl
    | succ k =>
      have b := hl k (by omega)
      unfold ltrB at b
      rw [Bool.and_eq_true, Nat.ble_eq, Nat.ble_eq] at b
      show (if B * nmF B tx q k + (tx (q + k) - 96) = 0 then 0 else C * cvF B C f ((B * nmF B tx q k + (tx (q + k) - 96)) / B) + (B * nmF B tx q k + (tx (q + k) - 96)) % B) = C * nmF C tx q k + (tx (q + k) - 96)
      rw [if_neg (by omega), Nat.mul_add_div (by omega), Nat.div_eq_of_lt (a := tx (q + k) - 96) (by omega), Nat.add_zero, Nat.mul_add_mod, Nat.mod_eq_of_lt (a := tx (q + k) - 96) (by omega), ih k (by omega) (fun i hi => hl i (by omega))]
theorem nm_inj {B C : Nat} (hB : 27 ≤ B) (hC : 27 ≤ C) {tx : Nat → Nat} {q k : Nat} (hk : k ≤ 8) (hl : ∀ i, i < k → ltrB (tx (q + i)) = true) {w : Nat} (hw : cvF B C 8 w = cvF B C 8 w) : nmF B tx q k = w → nmF C tx q k = cvF B C 8 w := by
  intro e
  rw [← cvF_ok (B := B) (C := C) hB 8 k hk hl, e]
def MKY (h : PH) : Prop := hL h 123 0 = lN 5254248403 ∧ hL h 123 1 = lN 8903 ∧ hL h 123 2 = lN 24
def vcF (tx : Nat → Nat) (q : Nat) : Nat → Nat
  | 0 => 0
  | k + 1 => if 100000 ≤ vcF tx q k then vcF tx q k else 10 * vcF tx q k + (tx (q + k) - 48)
theorem vcF_le {tx : Nat → Nat} {q : Nat} (hB : TXB tx) : ∀ k, vcF tx q k < 2000000 := by
  intro k
  induction k with
  | zero => exact (by decide : 0 < 2000000)
  | succ k ih =>
    have := hB (q + k)
    show (if 100000 ≤ vcF tx q k then vcF tx q k else 10 * vcF tx q k + (tx (q + k) - 48)) < 2000000
    split
    all_goals omega
def tkn (tx : Nat → Nat) (L t : Nat) : Nat := if L ≤ tkS tx L t then 0 else if ltrB (tx (tkS tx L t)) then nmF 27 tx (tkS tx L t) (min (wdE tx L (tkS tx L t) - tkS tx L t) 8) else 0
def tkv (tx : Nat → Nat) (L t : Nat) : Nat := if L ≤ tkS tx L t then 0 else if ltrB (tx (tkS tx L t)) then 0 else if dgtB (tx (tkS tx L t)) then vcF tx (tkS tx L t) (rwE tx L (tkS tx L t) - tkS tx L t) else 0
def TOK (h : PH) (tx : Nat → Nat) (L i : Nat) : Prop := hI h 119 i = nI (kM (tkk tx L i)) ∧ hI h 120 i = nI (tkS tx L i) ∧ hI h 121 i = nI (tkv tx L i) ∧ hL h 122 i = lN (tkn tx L i)
def CUA (k : Nat) : Prop := k = 116 ∨ (119 ≤ k ∧ k ≤ 122)
def CUB (h0 h : PH) : Prop := eqY CUA h0 h ∧ ∀ j, j ≠ 10 → hI h 116 j = hI h0 116 j
def CUT (h0 h : PH) (tx : Nat → Nat) (L t : Nat) : Prop := CUB h0 h ∧ hI h 116 10 = nI t ∧ (∀ i, i < t → tkk tx L i ≠ 14) ∧ ∀ i, i < t → TOK h tx L i
def NTK (h : PH) (tx : Nat → Nat) (L : Nat) : Prop := ∀ i, i ≤ 400 → (∀ j, j < i → tkk tx L j ≠ 14) → tkk tx L i = 14 → hI h 116 10 = nI (i + 1)
def CUF (h0 h : PH) (tx : Nat → Nat) (L : Nat) : Prop := CUB h0 h ∧ (∀ i, i ≤ 400 → (∀ j, j < i → tkk tx L j ≠ 14) → TOK h tx L i) ∧ NTK h tx L
theorem CUB.tx {h0 h : PH} {tx : Nat → Nat} {L : Nat} (e : CUB h0 h) (hT : TX h0 tx L) : TX h tx L := ⟨by rw [e.2 4 (by decide)]; exact hT.1, fun i hi => by
  rw [(e.1.2.2.2 118 (by unfold CUA; omega)).1]
  exact hT.2 i hi⟩
theorem CUB.ky {h0 h : PH} (e : CUB h0 h) (hT : MKY h0) : MKY h := by
  unfold MKY
  rw [(e.1.2.2.2 123 (by unfold CUA; omega)).2]
  exact hT
theorem tkH_ok {h0 h : PH} {tx : Nat → Nat} {L t : Nat} (e : CUB h0 h) (d : ∀ i, i < t → TOK h tx L i) {k a v : Int32} {n : Int64} (hk : k = nI (kM (tkk tx L t))) (ha : a = nI (tkS tx L t)) (hv : v = nI (tkv tx L t)) (hn : n = lN (tkn tx L t)) : CUB h0 (tkH h t k a v n) ∧ hI (tkH h t k a v n) 116 10 = nI (t + 1) ∧ ∀ i, i < t + 1 → TOK (tkH h t k a v n) tx L i := by
  unfold tkH
  refine ⟨⟨?_, fun j hj => ?_⟩, hI_sI, fun i hi => ?_⟩
  · refine eqY_tr e.1 (eqY_tr (eqY_tr (eqY_tr (eqY_tr (eqY_sI ?_) (eqY_sI ?_)) (eqY_sI ?_)) (eqY_sL ?_)) (eqY_sI ?_))
    all_goals
      unfold CUA
      omega
  · rw [hI_sI_j hj, hI_sL, hI_ne (by omega), hI_ne (by omega), hI_ne (by omega)]
    exact e.2 j hj
  · have l : hL (sI (sL (sI (sI (sI h 119 t k) 120 t a) 121 t v) 122 t n) 116 10 (nI (t + 1))) 122 i = if 122 = 122 ∧ i = t then n else hL h 122 i := rfl
    rcases Nat.lt_or_ge i t with w | w
    · obtain ⟨d1, d2, d3, d4⟩ := d i w
      refine ⟨?_, ?_, ?_, ?_⟩
      · rw [hI_ne (by omega), hI_sL, hI_ne (by omega), hI_ne (by omega), hI_sI_j (by omega)]
        exact d1
      · rw [hI_ne (by omega), hI_sL, hI_ne (by omega), hI_sI_j (by omega), hI_ne (by omega)]
        exact d2
      · rw [hI_ne (by omega), hI_sL, hI_sI_j (by omega), hI_ne (by omega), hI_ne (by omega)]
        exact d3
      · rw [l, if_neg (fun y => absurd y.2 (by omega))]
        exact d4
    · have e : i = t := by omega
      subst e
      refine ⟨?_, ?_, ?_, ?_⟩
      · rw [hI_ne (by omega), hI_sL, hI_ne (by omega), hI_ne (by omega), hI_sI]
        exact hk
      · rw [hI_ne (by omega), hI_sL, hI_ne (by omega), hI_sI]
        exact ha
      · rw [hI_ne (by omega), hI_sL, hI_sI]
        exact hv
      · rw [l, if_pos ⟨rfl, rfl⟩]
        exact hn
theorem sk_at {tx : Nat → Nat} {L p : Nat} (h : p < L → blkB (tx p) = false) : skF tx L p = p := by
  unfold skF
  refine fnd_s1 ?_
  show (!(decide (p < L) && blkB (tx p))) = true
  rcases Nat.lt_or_ge p L with w | w
  · rw [h w, Bool.and_false]
    rfl
  · rw [decide_eq_false (by omega), Bool.false_and]
    rfl
theorem sk_blank {tx : Nat → Nat} {L p : Nat} (hM : L ≤ 2000) (hp : p < L) (hb : blkB (tx p) = true) : skF tx L p = skF tx L (p + 1) := by
  obtain ⟨a, b, c, d⟩ := run_ok (f := fun q => blkB (tx q)) (show p + 1 ≤ L from hp) hM
  refine fnd_uq (k := skF tx L (p + 1)) (Nat.le_of_succ_le a) (Nat.lt_of_le_of_lt b (by omega)) ?_ (fun l h1 h2 => ?_)
  · show (!(decide (skF tx L (p + 1) < L) && blkB (tx (skF tx L (p + 1))))) = true
    rcases Nat.lt_or_ge (skF tx L (p + 1)) L with w | w
    · have c : blkB (tx (skF tx L (p + 1))) = false := c w
      rw [c, Bool.and_false]
      rfl
    · rw [decide_eq_false (by omega), Bool.false_and]
      rfl
  · show (!(decide (l < L) && blkB (tx l))) = false
    rcases Nat.lt_or_ge p l with w | w
    · obtain ⟨d1, d2⟩ := d l w h2
      have d2 : blkB (tx l) = true := d2
      rw [d2, decide_eq_true d1]
      rfl
    · have e : l = p := by omega
      rw [e, hb, decide_eq_true hp]
      rfl
theorem bt_in {tx : Nat → Nat} {L p : Nat} (h : p < L) : btA tx L p = tx p := if_pos h
theorem bt_l {tx : Nat → Nat} {L e : Nat} (h : e < L → ltrB (tx e) = false) : ltrB (btA tx L e) = false := by
  unfold btA
  split
  · rename_i w
    exact h w
  · rfl
theorem bt_d {tx : Nat → Nat} {L e : Nat} (h : e < L → dgtB (tx e) = false) : dgtB (btA tx L e) = false := by
  unfold btA
  split
  · rename_i w
    exact h w
  · rfl
theorem bt_b {tx : Nat → Nat} {L p : Nat} (hB : TXB tx) : btA tx L p < 256 := by
  unfold btA
  split
  · exact hB p
  · decide
theorem l_M_word {P : PSem} (S : SysOK P) {h : PH} (hw : WS h) {tx : Nat → Nat} {L e q : Nat} (hT : TX h tx L) (hB : TXB tx) (hM : L ≤ 2000) (hq : q ≤ e) (he1 : e ≤ L) (he2 : e < L → ltrB (tx e) = false) (hlt : ∀ l, q ≤ l → l < e → ltrB (tx l) = true) {K : PK}
    (hK : P.2 n_M_cutsText 66 [some (.ref 116), some (.int (nI q)), none, some (.int (nI (e - q))), some (.long (lN (nmF 27 tx q (min (e - q) 8)))), none, none, none] [] h 0 0 K) : ∀ j k, q + k + j = e →
    P.2 n_M_cutsText 46 [some (.ref 116), some (.int (nI q)), none, some (.int (nI k)), some (.long (lN (nmF 27 tx q (min k 8)))), none, none, none] [] h 0 0 K := by
  intro j
  induction j with
  | zero =>
    intro k hk
    have e1 : k = e - q := by omega
    subst e1
    refine S.at 60 [66] rfl ?_
    conv => whnf
    refine ⟨wt_116 hw, ?_⟩
    refine p1c (as' := [.ref 116, .int (nI e)]) (congrArg (fun z => [Value.ref 116, Value.int z]) (by show nI q + nI (e - q) = nI e; rw [← zn_plus, Nat.add_sub_cancel' hq])) ?_
    refine c_M_byteAt S hw hT hB hM (by omega) ?_
    conv => whnf
    refine c_M_isLetter' S (by have := bt_b (L := L) (p := e) hB; omega) ?_
    conv => whnf
    rw [bt_l he2]
    refine bk_t (rfl) ?_
    conv => whnf
    exact hK
  | succ j ih =>
    intro k hk
    have hlk := hlt (q + k) (by omega) (by omega)
    have hqk : nI q + nI k = nI (q + k) := (zn_plus q k).symm
    have tb := hB (q + k)
    refine S.at 60 [66] rfl ?_
    conv => whnf
    refine ⟨wt_116 hw, ?_⟩
    refine p1c (as' := [.ref 116, .int (nI (q + k))]) (congrArg (fun z => [Value.ref 116, Value.int z]) hqk) ?_
    refine c_M_byteAt S hw hT hB hM (by omega) ?_
    conv => whnf
    rw [bt_in (show q + k < L by omega)]
    refine c_M_isLetter' S (by omega) ?_
    conv => whnf
    rw [hlk]
    refine bk_f ((by decide)) ?_
    conv => whnf
    refine bk_le (a := 8) (b := k) (by omega) (by omega) (fun c => ?_) (fun c => ?_)
    · conv => whnf
      have next := ih (k + 1) (by omega)
      rw [Nat.min_eq_right (by omega), ← nI_1 k] at next
      rw [Nat.min_eq_right c]
      refine S.mk [(0,1),(0,1),(0,0),(0,1),(0,1),(0,0),(0,0),(0,0)] ?_
      exact next
    · conv => whnf
      refine ⟨wt_116 hw, ?_⟩
      refine p1c (as' := [.ref 116, .int (nI (q + k))]) (congrArg (fun z => [Value.ref 116, Value.int z]) hqk) ?_
      refine c_M_byteAt S hw hT hB hM (by omega) ?_
      conv => whnf
      rw [bt_in (show q + k < L by omega), Nat.min_eq_left (show k ≤ 8 by omega)]
      refine c_M_appends S hlk ?_
      conv => whnf
      have next := ih (k + 1) (by omega)
      rw [Nat.min_eq_left (show k + 1 ≤ 8 by omega), ← nI_1 k] at next
      refine S.mk [(0,1),(0,1),(0,0),(0,1),(0,1),(0,0),(0,0),(0,0)] ?_
      exact next
theorem l_M_row {P : PSem} (S : SysOK P) {h : PH} (hw : WS h) {tx : Nat → Nat} {L e q : Nat} (hT : TX h tx L) (hB : TXB tx) (hM : L ≤ 2000) (hq : q ≤ e) (he1 : e ≤ L) (he2 : e < L → dgtB (tx e) = false) (hlt : ∀ l, q ≤ l → l < e → dgtB (tx l) = true) {K : PK}
    (hK : P.2 n_M_cutsText 136 [some (.ref 116), some (.int (nI q)), none, some (.int (nI (e - q))), some (.int (nI (vcF tx q (e - q)))), none, none, none] [] h 0 0 K) : ∀ j k, q + k + j = e →
    P.2 n_M_cutsText 112 [some (.ref 116), some (.int (nI q)), none, some (.int (nI k)), some (.int (nI (vcF tx q k))), none, none, none] [] h 0 0 K := by
  intro j
  induction j with
  | zero =>
    intro k hk
    have e1 : k = e - q := by omega
    subst e1
    refine S.at 60 [136] rfl ?_
    conv => whnf
    refine ⟨wt_116 hw, ?_⟩
    refine p1c (as' := [.ref 116, .int (nI e)]) (congrArg (fun z => [Value.ref 116, Value.int z]) (by show nI q + nI (e - q) = nI e; rw [← zn_plus, Nat.add_sub_cancel' hq])) ?_
    refine c_M_byteAt S hw hT hB hM (by omega) ?_
    conv => whnf
    refine c_M_isDigit' S (by have := bt_b (L := L) (p := e) hB; omega) ?_
    conv => whnf
    rw [bt_d he2]
    refine bk_t (rfl) ?_
    conv => whnf
    exact hK
  | succ j ih =>
    intro k hk
    have hlk := hlt (q + k) (by omega) (by omega)
    have hqk : nI q + nI k = nI (q + k) := (zn_plus q k).symm
    have tb := hB (q + k)
    have vb := vcF_le (q := q) hB k
    refine S.at 60 [136] rfl ?_
    conv => whnf
    refine ⟨wt_116 hw, ?_⟩
    refine p1c (as' := [.ref 116, .int (nI (q + k))]) (congrArg (fun z => [Value.ref 116, Value.int z]) hqk) ?_
    refine c_M_byteAt S hw hT hB hM (by omega) ?_
    conv => whnf
    rw [bt_in (show q + k < L by omega)]
    refine c_M_isDigit' S (by omega) ?_
    conv => whnf
    rw [hlk]
    refine bk_f ((by decide)) ?_
    conv => whnf
    have next := ih (k + 1) (by omega)
    have ev : vcF tx q (k + 1) = if 100000 ≤ vcF tx q k then vcF tx q k else 10 * vcF tx q k + (tx (q + k) - 48) := rfl
    rw [ev, ← nI_1 k] at next
    refine bk_le (a := 100000) (b := vcF tx q k) (by omega) (by omega) (fun c => ?_) (fun c => ?_)
    · rw [if_pos c] at next
      conv => whnf
      refine S.mk [(0,1),(0,1),(0,0),(0,1),(0,1),(0,0),(0,0),(0,0)] ?_
      exact next
    · rw [if_neg (by omega)] at next
      unfold dgtB at hlk
      rw [Bool.and_eq_true, Nat.ble_eq, Nat.ble_eq] at hlk
      conv => whnf
      refine ⟨wt_116 hw, ?_⟩
      refine p1c (as' := [.ref 116, .int (nI (q + k))]) (congrArg (fun z => [Value.ref 116, Value.int z]) hqk) ?_
      refine c_M_byteAt S hw hT hB hM (by omega) ?_
      conv => whnf
      rw [bt_in (show q + k < L by omega)]
      refine S.mk [(0,1),(0,1),(0,0),(0,1),(0,1),(0,0),(0,0),(0,0)] ?_
      refine p2c ?_ next
      refine congrArg (fun z => [some (Value.ref 116), some (.int (nI q)), none, some (.int (nI k + 1)), some (.int z), none, none, none]) ?_
      show nI 10 * nI (vcF tx q k) + nI (tx (q + k)) - nI 48 = _
      rw [← zn_tms, ← zn_plus, zn_mns (by omega), Nat.add_sub_assoc hlk.1]
