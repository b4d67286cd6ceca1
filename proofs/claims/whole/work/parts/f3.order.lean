/-! MEANS: the order of tokens, once more; worths on both sides -/
theorem rtab {tx : Nat → Nat} {L t : Nat} (ht : t < pT (tkk tx L)) : (cR tx L t = 1 ∧ tkk tx L t = 1 ∧ cR tx L (t + 1) = 2) ∨ (cR tx L t = 1 ∧ tkk tx L t = 2 ∧ cR tx L (t + 1) = 5) ∨ (cR tx L t = 2 ∧ tkk tx L t = 5 ∧ cR tx L (t + 1) = 3) ∨ (cR tx L t = 3 ∧ tkk tx L t = 5 ∧ cR tx L (t + 1) = 4) ∨ (cR tx L t = 4 ∧ tkk tx L t = 6 ∧ cR tx L (t + 1) = 1) ∨ (cR tx L t = 5 ∧ tkk tx L t = 4 ∧ cR tx L (t + 1) = 6) ∨ (cR tx L t = 6 ∧ tkk tx L t = 5 ∧ cR tx L (t + 1) = 7) ∨ (cR tx L t = 7 ∧ tkk tx L t = 11 ∧ cR tx L (t + 1) = 7) ∨ (cR tx L t = 7 ∧ (tkk tx L t = 3 ∨ tkk tx L t = 4 ∨ tkk tx L t = 5) ∧ cR tx L (t + 1) = 8) ∨ (cR tx L t = 8 ∧ tkk tx L t = 10 ∧ cR tx L (t + 1) = 9) ∨ (cR tx L t = 9 ∧ tkk tx L t = 5 ∧ cR tx L (t + 1) = 10) ∨ ((cR tx L t = 8 ∨ cR tx L t = 10) ∧ (((tkk tx L t = 7 ∨ tkk tx L t = 8 ∨ tkk tx L t = 9) ∧ cR tx L (t + 1) = 7) ∨ (tkk tx L t = 12 ∧ (pst (tkk tx L) t).2.1 ≠ 0 ∧ cR tx L (t + 1) = 8) ∨ (tkk tx L t = 6 ∧ (pst (tkk tx L) t).2.1 = 0 ∧ cR tx L (t + 1) = 1))) := gAf_tab rfl ((pgo_iff _ t).mp ((pT_ok (tkk tx L)).2.2 t ht)).1
theorem tkS_lt {tx : Nat → Nat} {L t : Nat} (hM : L ≤ 2000) (hk : tkk tx L t ≠ 14) : tkS tx L t < tkS tx L (t + 1) := by
  have hq : ¬ L ≤ tkS tx L t := by
    intro c
    refine hk ?_
    unfold tkk tkK
    rw [if_pos c]
  have e : tkS tx L t < tkE tx L (tkS tx L t) := by
    unfold tkE
    rw [if_neg hq]
    split
    · rename_i z
      exact wd_run (f := fun q => ltrB (tx q)) (by omega) hM z
    · split
      · rename_i z
        exact wd_run (f := fun q => dgtB (tx q)) (by omega) hM z
      · omega
  exact Nat.lt_of_lt_of_le e (skF_le hM (tkP_le hM (t + 1))).1
theorem tkS_mono {tx : Nat → Nat} {L b : Nat} (hM : L ≤ 2000) (hb : b ≤ pT (tkk tx L)) : ∀ d a, a + d + 1 = b → tkS tx L a < tkS tx L b := by
  intro d
  induction d with
  | zero =>
    intro a e
    subst e
    exact tkS_lt hM (pT_14 hb a (by omega))
  | succ d ih =>
    intro a e
    exact Nat.lt_trans (tkS_lt hM (pT_14 hb a (by omega))) (ih (a + 1) (by omega))
theorem tkS_mon {tx : Nat → Nat} {L a b : Nat} (hM : L ≤ 2000) (hb : b ≤ pT (tkk tx L)) (h : a < b) : tkS tx L a < tkS tx L b := tkS_mono hM hb (b - a - 1) a (by omega)
theorem vc_dc (tx : Nat → Nat) (q : Nat) : ∀ k, (dcF tx q k < 100000 ∧ vcF tx q k = dcF tx q k) ∨ (100000 ≤ dcF tx q k ∧ 100000 ≤ vcF tx q k) := by
  intro k
  induction k with
  | zero => exact Or.inl ⟨by show 0 < 100000; omega, rfl⟩
  | succ k ih =>
    have d1 : dcF tx q (k + 1) = 10 * dcF tx q k + (tx (q + k) - 48) := rfl
    have v1 : vcF tx q (k + 1) = if 100000 ≤ vcF tx q k then vcF tx q k else 10 * vcF tx q k + (tx (q + k) - 48) := rfl
    rcases ih with ⟨a, b⟩ | ⟨a, b⟩
    · rw [if_neg (by omega)] at v1
      omega
    · rw [if_pos b] at v1
      omega
theorem dgt_ltr {c : Nat} (h : dgtB c = true) : ltrB c = false := by
  unfold dgtB at h
  unfold ltrB
  rw [Bool.and_eq_true, Nat.ble_eq, Nat.ble_eq] at h
  rw [Bool.and_eq_false_iff]
  left
  rw [← Bool.not_eq_true, Nat.ble_eq]
  omega
theorem kd5 {tx : Nat → Nat} {L t : Nat} (hk : tkk tx L t = 5) : ¬ L ≤ tkS tx L t ∧ ltrB (tx (tkS tx L t)) = false ∧ dgtB (tx (tkS tx L t)) = true := by
  unfold tkk tkK at hk
  split at hk
  · omega
  · rename_i z
    split at hk
    · split at hk
      · omega
      · unfold wdK at hk
        repeat' split at hk
        all_goals omega
    · rename_i y
      split at hk
      · rename_i w
        exact ⟨z, by simpa using y, w⟩
      · unfold sgK at hk
        repeat' split at hk
        all_goals omega
theorem kd4 {tx : Nat → Nat} {L t : Nat} (hk : tkk tx L t = 4) : ¬ L ≤ tkS tx L t ∧ ltrB (tx (tkS tx L t)) = true ∧ wdE tx L (tkS tx L t) - tkS tx L t ≤ 8 := by
  unfold tkk tkK at hk
  split at hk
  · omega
  · rename_i z
    split at hk
    · rename_i y
      split at hk
      · omega
      · exact ⟨z, y, by omega⟩
    · split at hk
      · split at hk
        all_goals omega
      · unfold sgK at hk
        repeat' split at hk
        all_goals omega
theorem tkv_w {tx : Nat → Nat} {L t : Nat} (hk : tkk tx L t = 5) : (tkw tx L t < 100000 ∧ tkv tx L t = tkw tx L t) ∨ (100000 ≤ tkw tx L t ∧ 100000 ≤ tkv tx L t) := by
  obtain ⟨a, b, c⟩ := kd5 hk
  unfold tkw tkW tkv
  rw [if_neg a, b, c, if_neg a]
  exact vc_dc tx _ _
theorem tkv_bd {tx : Nat → Nat} {L t : Nat} (hB : TXB tx) : tkv tx L t < 2000000 := by
  unfold tkv
  repeat' split
  · omega
  · omega
  · exact vcF_le hB _
  · omega
theorem tkn_w {tx : Nat → Nat} {L t : Nat} (hM : L ≤ 2000) (hk : tkk tx L t = 4) : tkn tx L t = cvF 32 27 8 (tkw tx L t) ∧ tkw tx L t = cvF 27 32 8 (tkn tx L t) ∧ tkn tx L t < 2 ^ 63 := by
  obtain ⟨a, b, c⟩ := kd4 hk
  have hq := tkS_le (tx := tx) hM t
  obtain ⟨r1, r2, r3, r4⟩ := run_ok (f := fun q => ltrB (tx q)) hq hM
  have r1 : tkS tx L t ≤ wdE tx L (tkS tx L t) := r1
  have hl : ∀ i, i < wdE tx L (tkS tx L t) - tkS tx L t → ltrB (tx (tkS tx L t + i)) = true := fun i hi => (r4 (tkS tx L t + i) (by omega) (show _ < wdE tx L (tkS tx L t) by omega)).2
  have e1 : tkn tx L t = nmF 27 tx (tkS tx L t) (wdE tx L (tkS tx L t) - tkS tx L t) := by
    unfold tkn
    rw [if_neg a, if_pos b, Nat.min_eq_left c]
  have e2 : tkw tx L t = nmF 32 tx (tkS tx L t) (wdE tx L (tkS tx L t) - tkS tx L t) := by
    unfold tkw tkW
    rw [if_neg a, if_pos b]
  rw [e1, e2]
  refine ⟨(cvF_ok (by decide) 8 _ c hl).symm, (cvF_ok (by decide) 8 _ c hl).symm, ?_⟩
  have l := nmF_lt (B := 27) (tx := tx) (q := tkS tx L t) (by decide) _ hl
  have p : 27 ^ (wdE tx L (tkS tx L t) - tkS tx L t) ≤ 27 ^ 8 := Nat.pow_le_pow_right (by decide) c
  have p2 : 27 ^ 8 < 2 ^ 63 := by decide
  omega
theorem lN_inj {a b : Nat} (ha : a < 2 ^ 63) (hb : b < 2 ^ 63) (h : lN a = lN b) : a = b := by
  have q := (l_cmp_eq (lN a) (lN b)).mpr h
  rw [l_cmp_v ha hb] at q
  split at q
  · exact absurd q (by decide)
  · split at q
    · assumption
    · exact absurd q (by decide)
theorem nm_iff {tx : Nat → Nat} {L a b : Nat} (hM : L ≤ 2000) (ha : tkk tx L a = 4) (hb : tkk tx L b = 4) : lN (tkn tx L a) = lN (tkn tx L b) ↔ lN (tkw tx L a) = lN (tkw tx L b) := by
  obtain ⟨a1, a2, a3⟩ := tkn_w hM ha
  obtain ⟨b1, b2, b3⟩ := tkn_w hM hb
  have wa := tkw_bd hM (Or.inl ha)
  have wb := tkw_bd hM (Or.inl hb)
  constructor
  · intro e
    rw [a2, b2, lN_inj a3 b3 e]
  · intro e
    rw [a1, b1, lN_inj wa wb e]
theorem ixF_cong {A B : Nat → Int64} {nm : Nat} {x y : Int64} (h : ∀ j, j < nm → (A j = x ↔ B j = y)) (hn : nm ≤ 8) : ixF A nm x = ixF B nm y := by
  obtain ⟨a1, a2, a3⟩ := ixF_ok (NL := A) (w := x) hn
  obtain ⟨b1, b2, b3⟩ := ixF_ok (NL := B) (w := y) hn
  rcases Nat.lt_trichotomy (ixF A nm x) (ixF B nm y) with w | w | w
  · exact absurd ((h _ (by omega)).mp (a2 (by omega))) (b3 _ w)
  · exact w
  · exact absurd ((h _ (by omega)).mpr (b2 (by omega))) (a3 _ w)
