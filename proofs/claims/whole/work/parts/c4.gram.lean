/-! TOKENS: the grammar -/
def gPw (k o : Nat) : Nat := if k = 6 then (if o = 0 then 1 else 0) else if k = 7 then 7 else if k = 8 then 7 else if k = 9 then 7 else if k = 12 then (if o = 0 then 0 else 8) else 0
def gAf (r k o : Nat) : Nat := match r with
  | 1 => if k = 1 then 2 else if k = 2 then 5 else 0
  | 2 => if k = 5 then 3 else 0
  | 3 => if k = 5 then 4 else 0
  | 4 => if k = 6 then 1 else 0
  | 5 => if k = 4 then 6 else 0
  | 6 => if k = 5 then 7 else 0
  | 7 => if k = 11 then 7 else if k = 3 then 8 else if k = 5 then 8 else if k = 4 then 8 else 0
  | 8 => if k = 10 then 9 else gPw k o
  | 9 => if k = 5 then 10 else 0
  | 10 => gPw k o
  | _ => 0
theorem gPw_le (k o : Nat) : gPw k o ≤ 10 := by
  unfold gPw
  repeat' split
  all_goals omega
theorem gAf_le (r k o : Nat) : gAf r k o ≤ 10 := by
  unfold gAf
  have := gPw_le k o
  repeat' split
  all_goals omega
theorem gAf_14 (r o : Nat) : gAf r 14 o = 0 := by
  unfold gAf gPw
  repeat' split
  all_goals first | rfl | omega
theorem c_Gram_isPlainAtom {P : PSem} (S : SysOK P) {h : PH} {k : Nat} (hk : k < 2 ^ 31) {K : PK} (hK : K (.int (bI (k == 3 || k == 5 || k == 4))) h) : P.1 n_Gram_isPlainAtom [.int (nI k)] h K := by
  refine S.go 40 rfl rfl rfl ?_
  conv => whnf
  refine bk_eq (b := 3) (by omega) (by omega) (fun c => ?_) (fun c => ?_)
  · subst c
    conv => whnf
    exact ⟨Or.inr rfl, hK⟩
  rw [beq_eq_false_iff_ne.mpr c, Bool.false_or] at hK
  conv => whnf
  refine bk_eq (b := 5) (by omega) (by omega) (fun c => ?_) (fun c => ?_)
  · subst c
    conv => whnf
    exact ⟨Or.inr rfl, hK⟩
  rw [beq_eq_false_iff_ne.mpr c, Bool.false_or] at hK
  conv => whnf
  refine bk_ne (b := 4) (by omega) (by omega) (fun c => ?_) (fun c => ?_)
  · rw [beq_eq_false_iff_ne.mpr c] at hK
    conv => whnf
    exact ⟨Or.inl rfl, hK⟩
  · subst c
    conv => whnf
    exact ⟨Or.inr rfl, hK⟩
theorem c_Gram_afterPower {P : PSem} (S : SysOK P) {h : PH} {k o : Nat} (hk : k < 2 ^ 31) (ho : o < 2 ^ 31) {K : PK} (hK : K (.int (nI (gPw k o))) h) : P.1 n_Gram_afterPower [.int (nI k), .int (nI o)] h K := by
  unfold gPw at hK
  refine S.go 40 rfl rfl rfl ?_
  conv => whnf
  refine bk_eq (b := 6) (by omega) (by omega) (fun c => ?_) (fun c => ?_)
  · rw [if_pos c] at hK
    conv => whnf
    refine bk_ne (b := 0) (by omega) (by omega) (fun d => ?_) (fun d => ?_)
    · rw [if_neg d] at hK
      conv => whnf
      exact hK
    · rw [if_pos d] at hK
      conv => whnf
      exact hK
  rw [if_neg c] at hK
  refine bk_eq (b := 7) (by omega) (by omega) (fun c => ?_) (fun c => ?_)
  · rw [if_pos c] at hK
    conv => whnf
    exact hK
  rw [if_neg c] at hK
  refine bk_eq (b := 8) (by omega) (by omega) (fun c => ?_) (fun c => ?_)
  · rw [if_pos c] at hK
    conv => whnf
    exact hK
  rw [if_neg c] at hK
  refine bk_eq (b := 9) (by omega) (by omega) (fun c => ?_) (fun c => ?_)
  · rw [if_pos c] at hK
    conv => whnf
    exact hK
  rw [if_neg c] at hK
  refine bk_eq (b := 10) (by omega) (by omega) (fun c => ?_) (fun c => ?_)
  · rw [if_neg (by omega)] at hK
    conv => whnf
    exact hK
  refine bk_eq (b := 11) (by omega) (by omega) (fun c => ?_) (fun c => ?_)
  · rw [if_neg (by omega)] at hK
    conv => whnf
    exact hK
  refine bk_eq (b := 12) (by omega) (by omega) (fun c => ?_) (fun c => ?_)
  · rw [if_pos c] at hK
    conv => whnf
    refine bk_le (a := o) (b := 0) (by omega) (by omega) (fun d => ?_) (fun d => ?_)
    · rw [if_pos (by omega)] at hK
      conv => whnf
      exact hK
    · rw [if_neg (by omega)] at hK
      conv => whnf
      exact hK
  rw [if_neg c] at hK
  conv => whnf
  exact hK
theorem c_Gram_after {P : PSem} (S : SysOK P) {h : PH} {r k o : Nat} (hr : r < 2 ^ 31) (hk : k < 2 ^ 31) (ho : o < 2 ^ 31) {K : PK} (hK : K (.int (nI (gAf r k o))) h) : P.1 n_Gram_after [.int (nI r), .int (nI k), .int (nI o)] h K := by
  refine S.go 60 rfl rfl rfl ?_
  conv => whnf
  refine bk_eq (b := 1) (by omega) (by omega) (fun c => ?_) (fun c => ?_)
  · subst c
    conv => whnf
    have hK : K (.int (nI (if k = 1 then 2 else if k = 2 then 5 else 0))) h := hK
    refine bk_ne (b := 1) (by omega) (by omega) (fun d => ?_) (fun d => ?_)
    rotate_left
    · rw [if_pos d] at hK
      conv => whnf
      exact hK
    rw [if_neg d] at hK
    conv => whnf
    refine bk_ne (b := 2) (by omega) (by omega) (fun d => ?_) (fun d => ?_)
    rotate_left
    · rw [if_pos d] at hK
      conv => whnf
      exact hK
    rw [if_neg d] at hK
    conv => whnf
    exact hK
  refine bk_eq (b := 2) (by omega) (by omega) (fun c => ?_) (fun c => ?_)
  · subst c
    conv => whnf
    have hK : K (.int (nI (if k = 5 then 3 else 0))) h := hK
    refine bk_ne (b := 5) (by omega) (by omega) (fun d => ?_) (fun d => ?_)
    rotate_left
    · rw [if_pos d] at hK
      conv => whnf
      exact hK
    rw [if_neg d] at hK
    conv => whnf
    exact hK
  refine bk_eq (b := 3) (by omega) (by omega) (fun c => ?_) (fun c => ?_)
  · subst c
    conv => whnf
    have hK : K (.int (nI (if k = 5 then 4 else 0))) h := hK
    refine bk_ne (b := 5) (by omega) (by omega) (fun d => ?_) (fun d => ?_)
    rotate_left
    · rw [if_pos d] at hK
      conv => whnf
      exact hK
    rw [if_neg d] at hK
    conv => whnf
    exact hK
  refine bk_eq (b := 4) (by omega) (by omega) (fun c => ?_) (fun c => ?_)
  · subst c
    conv => whnf
    have hK : K (.int (nI (if k = 6 then 1 else 0))) h := hK
    refine bk_ne (b := 6) (by omega) (by omega) (fun d => ?_) (fun d => ?_)
    rotate_left
    · rw [if_pos d] at hK
      conv => whnf
      exact hK
    rw [if_neg d] at hK
    conv => whnf
    exact hK
  refine bk_eq (b := 5) (by omega) (by omega) (fun c => ?_) (fun c => ?_)
  · subst c
    conv => whnf
    have hK : K (.int (nI (if k = 4 then 6 else 0))) h := hK
    refine bk_ne (b := 4) (by omega) (by omega) (fun d => ?_) (fun d => ?_)
    rotate_left
    · rw [if_pos d] at hK
      conv => whnf
      exact hK
    rw [if_neg d] at hK
    conv => whnf
    exact hK
  refine bk_eq (b := 6) (by omega) (by omega) (fun c => ?_) (fun c => ?_)
  · subst c
    conv => whnf
    have hK : K (.int (nI (if k = 5 then 7 else 0))) h := hK
    refine bk_ne (b := 5) (by omega) (by omega) (fun d => ?_) (fun d => ?_)
    rotate_left
    · rw [if_pos d] at hK
      conv => whnf
      exact hK
    rw [if_neg d] at hK
    conv => whnf
    exact hK
  refine bk_eq (b := 7) (by omega) (by omega) (fun c => ?_) (fun c => ?_)
  · subst c
    conv => whnf
    have hK : K (.int (nI (if k = 11 then 7 else if k = 3 then 8 else if k = 5 then 8 else if k = 4 then 8 else 0))) h := hK
    refine bk_ne (b := 11) (by omega) (by omega) (fun d => ?_) (fun d => ?_)
    rotate_left
    · rw [if_pos d] at hK
      conv => whnf
      exact hK
    rw [if_neg d] at hK
    conv => whnf
    refine c_Gram_isPlainAtom S hk ?_
    conv => whnf
    refine bk_b0 (fun e => ?_) (fun e => ?_)
    · rw [Bool.or_eq_false_iff, Bool.or_eq_false_iff, beq_eq_false_iff_ne, beq_eq_false_iff_ne, beq_eq_false_iff_ne] at e
      rw [if_neg e.1.1, if_neg e.1.2, if_neg e.2] at hK
      conv => whnf
      exact hK
    · rw [Bool.or_eq_true, Bool.or_eq_true, beq_iff_eq, beq_iff_eq, beq_iff_eq] at e
      have e1 : (if k = 3 then 8 else if k = 5 then 8 else if k = 4 then 8 else 0) = 8 := by
        repeat' split
        all_goals omega
      rw [e1] at hK
      conv => whnf
      exact hK
  refine bk_eq (b := 8) (by omega) (by omega) (fun c => ?_) (fun c => ?_)
  · subst c
    conv => whnf
    have hK : K (.int (nI (if k = 10 then 9 else gPw k o))) h := hK
    refine bk_ne (b := 10) (by omega) (by omega) (fun d => ?_) (fun d => ?_)
    rotate_left
    · rw [if_pos d] at hK
      conv => whnf
      exact hK
    rw [if_neg d] at hK
    conv => whnf
    refine c_Gram_afterPower S hk ho ?_
    conv => whnf
    exact hK
  refine bk_eq (b := 9) (by omega) (by omega) (fun c => ?_) (fun c => ?_)
  · subst c
    conv => whnf
    have hK : K (.int (nI (if k = 5 then 10 else 0))) h := hK
    refine bk_ne (b := 5) (by omega) (by omega) (fun d => ?_) (fun d => ?_)
    rotate_left
    · rw [if_pos d] at hK
      conv => whnf
      exact hK
    rw [if_neg d] at hK
    conv => whnf
    exact hK
  refine bk_eq (b := 10) (by omega) (by omega) (fun c => ?_) (fun c => ?_)
  · subst c
    conv => whnf
    have hK : K (.int (nI (gPw k o))) h := hK
    refine c_Gram_afterPower S hk ho ?_
    conv => whnf
    exact hK
  conv => whnf
  have e : gAf r k o = 0 := by
    unfold gAf
    split
    all_goals first | rfl | omega
  rw [e] at hK
  exact hK
def tkP (tx : Nat → Nat) (L : Nat) : Nat → Nat
  | 0 => 0
  | t + 1 => tkE tx L (skF tx L (tkP tx L t))
def tkS (tx : Nat → Nat) (L t : Nat) : Nat := skF tx L (tkP tx L t)
def tkk (tx : Nat → Nat) (L t : Nat) : Nat := tkK tx L (tkS tx L t)
def tkw (tx : Nat → Nat) (L t : Nat) : Nat := tkW tx L (tkS tx L t)
/-- role, open parentheses and names told so far, before a token -/
def pst (K : Nat → Nat) : Nat → Nat × Nat × Nat
  | 0 => (1, 0, 0)
  | t + 1 => (gAf (pst K t).1 (K t) (pst K t).2.1, (if K t = 11 then (pst K t).2.1 + 1 else if K t = 12 then (pst K t).2.1 - 1 else (pst K t).2.1), (if K t = 2 then (pst K t).2.2 + 1 else (pst K t).2.2))
def pgo (K : Nat → Nat) (t : Nat) : Bool := !(gAf (pst K t).1 (K t) (pst K t).2.1 == 0) && decide (t < 400) && Nat.ble (pst K (t + 1)).2.1 8 && Nat.ble (pst K (t + 1)).2.2 8
def pT (K : Nat → Nat) : Nat := fnd (fun t => !pgo K t) 401 0
def pF (K : Nat → Nat) : Nat := if K (pT K) = 14 ∧ (pst K (pT K)).1 = 1 then 0 else if gAf (pst K (pT K)).1 (K (pT K)) (pst K (pT K)).2.1 = 0 then 1 else 2
theorem pT_ok (K : Nat → Nat) : pT K ≤ 400 ∧ pgo K (pT K) = false ∧ ∀ l, l < pT K → pgo K l = true := by
  obtain ⟨-, b, c, d⟩ := fnd_ok (p := fun t => !pgo K t) 401 0 400 (Nat.zero_le _) (by decide) (by
    unfold pgo
    rw [decide_eq_false (Nat.lt_irrefl 400), Bool.and_false, Bool.false_and, Bool.false_and]
    rfl)
  refine ⟨b, ?_, fun l hl => ?_⟩
  · have c : (!pgo K (pT K)) = true := c
    simpa using c
  · simpa using d l (Nat.zero_le _) hl
theorem pst_le (K : Nat → Nat) (t : Nat) : (pst K t).1 ≤ 10 := by
  cases t with
  | zero => exact (by decide : 1 ≤ 10)
  | succ t => exact gAf_le _ _ _
theorem pst_op (K : Nat → Nat) : ∀ t, (pst K t).2.1 ≤ t ∧ (pst K t).2.2 ≤ t := by
  intro t
  induction t with
  | zero => exact ⟨Nat.le_refl 0, Nat.le_refl 0⟩
  | succ t ih =>
    refine ⟨?_, ?_⟩
    · show (if K t = 11 then (pst K t).2.1 + 1 else if K t = 12 then (pst K t).2.1 - 1 else (pst K t).2.1) ≤ t + 1
      repeat' split
      all_goals omega
    · show (if K t = 2 then (pst K t).2.2 + 1 else (pst K t).2.2) ≤ t + 1
      split
      all_goals omega
