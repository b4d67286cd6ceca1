/-! WORTH: lines, where they begin and end -/
def lnA (tx : Nat → Nat) (L : Nat) : Nat → Nat → Nat
  | 0 => fun _ => 0
  | t + 1 => fun j => if cR tx L t = 6 ∧ j = cnm tx L t then t else lnA tx L t j
def lnT (tx : Nat → Nat) (L : Nat) : Nat → Nat → Nat
  | 0 => fun _ => 0
  | t + 1 => fun j => if ((cR tx L t = 8 ∨ cR tx L t = 10) ∧ tkk tx L t = 6) ∧ j = cnm tx L t then t else lnT tx L t j
/-- a line's field at a, tokens up to t -/
def LNP (tx : Nat → Nat) (L : Nat) (l0 : Nat → Int64) (f0 s0 : Nat → Int32) (t j a : Nat) : Prop := cR tx L a = 6 ∧ cnm tx L a = j ∧ a < t ∧ cNS tx L s0 t j = nI (a + 1) ∧ cNF tx L f0 t j = nI (tkw tx L a) ∧ rNF tx L t j = tkv tx L a ∧ cNL tx L l0 t j = lN (tkw tx L (a - 1)) ∧ tkk tx L (a - 1) = 4
def LNI (tx : Nat → Nat) (L : Nat) (l0 : Nat → Int64) (f0 s0 : Nat → Int32) (t : Nat) : Prop :=
  (∀ j, j < cnm tx L t → LNP tx L l0 f0 s0 t j (lnA tx L t j) ∧ lnA tx L t j < lnT tx L t j ∧ lnT tx L t j < t ∧ tkk tx L (lnT tx L t j) = 6 ∧ (cR tx L (lnT tx L t j) = 8 ∨ cR tx L (lnT tx L t j) = 10) ∧ (∀ i, lnA tx L t j < i → i ≤ lnT tx L t j → 7 ≤ cR tx L i ∧ cnm tx L i = j ∧ clf tx L i = tkw tx L (lnA tx L t j) ∧ (i < lnT tx L t j → tkk tx L i ≠ 6))) ∧
  (7 ≤ cR tx L t → LNP tx L l0 f0 s0 t (cnm tx L t) (lnA tx L t (cnm tx L t)) ∧ (∀ i, lnA tx L t (cnm tx L t) < i → i ≤ t → 7 ≤ cR tx L i ∧ cnm tx L i = cnm tx L t ∧ clf tx L i = tkw tx L (lnA tx L t (cnm tx L t)) ∧ (i < t → tkk tx L i ≠ 6))) ∧ (cR tx L t = 6 → tkk tx L (t - 1) = 4 ∧ cNL tx L l0 t (cnm tx L t) = lN (tkw tx L (t - 1)))
theorem LNI_ok {tx : Nat → Nat} {L : Nat} (l0 : Nat → Int64) (f0 s0 : Nat → Int32) : ∀ t, t ≤ pT (tkk tx L) → LNI tx L l0 f0 s0 t := by
  intro t
  induction t with
  | zero => exact fun _ => ⟨fun j hj => absurd hj (Nat.not_lt_zero j), fun h => absurd h (by show ¬ 7 ≤ 1; omega), fun h => absurd h (by show ¬ 1 = 6; omega)⟩
  | succ t ih =>
    intro ht
    obtain ⟨a, b, b2⟩ := ih (by omega)
    have tab := rtab (tx := tx) (L := L) (t := t) (by omega)
    have n' : cnm tx L (t + 1) = if (cR tx L t = 8 ∨ cR tx L t = 10) ∧ tkk tx L t = 6 then cnm tx L t + 1 else cnm tx L t := rfl
    have A' : ∀ j, lnA tx L (t + 1) j = if cR tx L t = 6 ∧ j = cnm tx L t then t else lnA tx L t j := fun _ => rfl
    have T' : ∀ j, lnT tx L (t + 1) j = if ((cR tx L t = 8 ∨ cR tx L t = 10) ∧ tkk tx L t = 6) ∧ j = cnm tx L t then t else lnT tx L t j := fun _ => rfl
    have g1 : ∀ j, cNS tx L s0 (t + 1) j = if cR tx L t = 6 ∧ j = cnm tx L t then nI (t + 1) else cNS tx L s0 t j := fun _ => rfl
    have g2 : ∀ j, cNF tx L f0 (t + 1) j = if cR tx L t = 6 ∧ j = cnm tx L t then nI (tkw tx L t) else cNF tx L f0 t j := fun _ => rfl
    have g3 : ∀ j, rNF tx L (t + 1) j = if cR tx L t = 6 ∧ j = cnm tx L t then tkv tx L t else rNF tx L t j := fun _ => rfl
    have g4 : ∀ j, cNL tx L l0 (t + 1) j = if cR tx L t = 5 ∧ j = cnm tx L t then lN (tkw tx L t) else cNL tx L l0 t j := fun _ => rfl
    have f' : clf tx L (t + 1) = if cR tx L t = 2 ∨ cR tx L t = 6 then tkw tx L t else clf tx L t := rfl
    have keep : ∀ j, ¬ (cR tx L t = 6 ∧ j = cnm tx L t) → ¬ (cR tx L t = 5 ∧ j = cnm tx L t) → ∀ x, LNP tx L l0 f0 s0 t j x → LNP tx L l0 f0 s0 (t + 1) j x := by
      intro j hj hj5 x y
      refine ⟨y.1, y.2.1, by have := y.2.2.1; omega, ?_, ?_, ?_, ?_, y.2.2.2.2.2.2.2⟩
      · rw [g1, if_neg hj]
        exact y.2.2.2.1
      · rw [g2, if_neg hj]
        exact y.2.2.2.2.1
      · rw [g3, if_neg hj]
        exact y.2.2.2.2.2.1
      · rw [g4, if_neg hj5]
        exact y.2.2.2.2.2.2.1
    refine ⟨fun j hj => ?_, fun h => ?_, fun h => ?_⟩
    · rcases Nat.lt_or_ge j (cnm tx L t) with w | w
      · rw [A', T', if_neg (by omega), if_neg (by omega)]
        obtain ⟨y1, y2, y3, y4⟩ := a j w
        exact ⟨keep j (by omega) (by omega) _ y1, y2, by omega, y4⟩
      · rw [n'] at hj
        by_cases z : (cR tx L t = 8 ∨ cR tx L t = 10) ∧ tkk tx L t = 6
        · rw [if_pos z] at hj
          have ej : j = cnm tx L t := by omega
          subst ej
          obtain ⟨y1, y2⟩ := b (by omega)
          rw [A', T', if_neg (by omega), if_pos ⟨z, rfl⟩]
          exact ⟨keep _ (by omega) (by omega) _ y1, y1.2.2.1, by omega, z.2, z.1, fun i hi hi2 => y2 i hi hi2⟩
        · rw [if_neg z] at hj
          omega
    · have z : ¬ ((cR tx L t = 8 ∨ cR tx L t = 10) ∧ tkk tx L t = 6) := by omega
      have n2 : cnm tx L (t + 1) = cnm tx L t := by rw [n', if_neg z]
      rw [n2, A']
      by_cases c6 : cR tx L t = 6
      · rw [if_pos ⟨c6, rfl⟩]
        obtain ⟨b3, b4⟩ := b2 c6
        refine ⟨⟨c6, rfl, by omega, ?_, ?_, ?_, ?_, b3⟩, fun i hi hi2 => ?_⟩
        · rw [g1, if_pos ⟨c6, rfl⟩]
        · rw [g2, if_pos ⟨c6, rfl⟩]
        · rw [g3, if_pos ⟨c6, rfl⟩]
        · rw [g4, if_neg (by omega)]
          exact b4
        · have e : i = t + 1 := by omega
          rw [e]
          refine ⟨h, n2, ?_, fun y => absurd y (Nat.lt_irrefl _)⟩
          rw [f', if_pos (Or.inr c6)]
      · have c6' : ¬ (cR tx L t = 6 ∧ cnm tx L t = cnm tx L t) := fun y => c6 y.1
        rw [if_neg c6']
        obtain ⟨y1, y2⟩ := b (by omega)
        refine ⟨keep _ c6' (by omega) _ y1, fun i hi hi2 => ?_⟩
        rcases Nat.lt_or_ge i (t + 1) with w | w
        · obtain ⟨x1, x2, x3, x4⟩ := y2 i hi (by omega)
          refine ⟨x1, x2, x3, fun _ => ?_⟩
          rcases Nat.lt_or_ge i t with v | v
          · exact x4 v
          · have e : i = t := by omega
            rw [e] at x1 ⊢
            omega
        · have e : i = t + 1 := by omega
          rw [e]
          refine ⟨h, n2, ?_, fun y => absurd y (Nat.lt_irrefl _)⟩
          rw [f', if_neg (by omega)]
          exact (y2 t y1.2.2.1 (Nat.le_refl t)).2.2.1
    · have c5 : cR tx L t = 5 := by omega
      have z : ¬ ((cR tx L t = 8 ∨ cR tx L t = 10) ∧ tkk tx L t = 6) := by omega
      rw [n', if_neg z, g4, if_pos ⟨c5, rfl⟩]
      exact ⟨by show tkk tx L t = 4; omega, rfl⟩
/-- between lines nothing is worked out -/
def FLT (tx : Nat → Nat) (L : Nat) (l0 : Nat → Int64) (u : Nat → Nat) (t : Nat) : Prop := cR tx L t ≤ 6 → (cnm tx L t = 0 → (mst tx L l0 u t).1 = none ∧ (eW tx L l0 t).1 = []) ∧ (∀ j, cnm tx L t = j + 1 → (mst tx L l0 u t).1 = (mst tx L l0 u (lnT tx L t j + 1)).1 ∧ (mst tx L l0 u t).2.2.2 = (mst tx L l0 u (lnT tx L t j + 1)).2.2.2 ∧ (eW tx L l0 t).1 = (eW tx L l0 (lnT tx L t j + 1)).1)
theorem FLT_ok {tx : Nat → Nat} {L : Nat} (l0 : Nat → Int64) (u : Nat → Nat) : ∀ t, t ≤ pT (tkk tx L) → FLT tx L l0 u t := by
  intro t
  induction t with
  | zero => exact fun _ _ => ⟨fun _ => ⟨rfl, rfl⟩, fun j hj => absurd hj (by show ¬ 0 = j + 1; omega)⟩
  | succ t ih =>
    intro ht h6
    have tab := rtab (tx := tx) (L := L) (t := t) (by omega)
    have n' : cnm tx L (t + 1) = if (cR tx L t = 8 ∨ cR tx L t = 10) ∧ tkk tx L t = 6 then cnm tx L t + 1 else cnm tx L t := rfl
    have T' : ∀ j, lnT tx L (t + 1) j = if ((cR tx L t = 8 ∨ cR tx L t = 10) ∧ tkk tx L t = 6) ∧ j = cnm tx L t then t else lnT tx L t j := fun _ => rfl
    by_cases z : (cR tx L t = 8 ∨ cR tx L t = 10) ∧ tkk tx L t = 6
    · rw [if_pos z] at n'
      refine ⟨fun y => by omega, fun j hj => ?_⟩
      have ej : j = cnm tx L t := by omega
      rw [T', if_pos ⟨z, ej⟩]
      exact ⟨rfl, rfl, rfl⟩
    · have c5 : cR tx L t ≤ 5 := by omega
      rw [if_neg z] at n'
      have m1 : mst tx L l0 u (t + 1) = mst tx L l0 u t := by
        show (if _ then _ else if _ then _ else if _ then _ else if _ then _ else _) = _
        rw [if_neg (by omega), if_neg (by omega), if_neg (by omega), if_neg (by omega)]
      have e1 : eW tx L l0 (t + 1) = eW tx L l0 t := by
        show (if _ then _ else if _ then _ else if _ then _ else if _ then _ else _) = _
        rw [if_neg (by omega), if_neg (by omega), if_neg (by omega), if_neg (by omega)]
      rw [m1, e1, n']
      obtain ⟨i1, i2⟩ := ih (by omega) (by omega)
      refine ⟨i1, fun j hj => ?_⟩
      rw [T', if_neg (fun y => z y.1)]
      exact i2 j hj
theorem eW_flat {tx : Nat → Nat} {L : Nat} (l0 : Nat → Int64) {t : Nat} (h : cR tx L t ≤ 5) : eW tx L l0 (t + 1) = eW tx L l0 t := by
  show (if _ then _ else if _ then _ else if _ then _ else if _ then _ else _) = _
  rw [if_neg (by omega), if_neg (by omega), if_neg (by omega), if_neg (by omega)]
theorem eW_6 {tx : Nat → Nat} {L : Nat} (l0 : Nat → Int64) {t : Nat} (h : cR tx L t = 6) : eW tx L l0 (t + 1) = ((eW tx L l0 t).1, []) := by
  show (if _ then _ else _) = _
  rw [if_pos h]
