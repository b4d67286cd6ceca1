/-! CHECK: the order of tokens -/
/-- before a token with no fault in front of it -/
def CIV (tx : Nat → Nat) (L : Nat) (f0 : Nat → Int32) (t : Nat) : Prop := (∀ j, j < cnm tx L t → ∃ a, 1 ≤ a ∧ a ≤ 12 ∧ cNF tx L f0 t j = nI a) ∧ (cR tx L t = 3 ∨ 7 ≤ cR tx L t → 1 ≤ clf tx L t ∧ clf tx L t ≤ 12) ∧ (7 ≤ cR tx L t → cNF tx L f0 t (cnm tx L t) = nI (clf tx L t)) ∧ (pst (tkk tx L) t).2.2 = cnm tx L t + (if cR tx L t ≤ 4 then 0 else 1) ∧ 1 ≤ cR tx L t
theorem CIV_ok {tx : Nat → Nat} {L : Nat} (l0 : Nat → Int64) (f0 : Nat → Int32) : ∀ t, t ≤ pT (tkk tx L) → (∀ i, i < t → cFL tx L l0 f0 i = 0) → CIV tx L f0 t := by
  intro t
  induction t with
  | zero => exact fun _ _ => ⟨fun j hj => absurd hj (Nat.not_lt_zero j), fun h => absurd h (by show ¬ ((1 : Nat) = 3 ∨ 7 ≤ 1); omega), fun h => absurd h (by show ¬ 7 ≤ 1; omega), rfl, Nat.le_refl 1⟩
  | succ t ih =>
    intro ht hf
    obtain ⟨a, b, c, d, e⟩ := ih (by omega) (fun i hi => hf i (by omega))
    have fl := hf t (by omega)
    have pg := ((pgo_iff _ t).mp ((pT_ok (tkk tx L)).2.2 t (by omega))).1
    have tab := gAf_tab rfl pg
    have r' : cR tx L (t + 1) = gAf (cR tx L t) (tkk tx L t) (pst (tkk tx L) t).2.1 := rfl
    have l' : (pst (tkk tx L) (t + 1)).2.2 = if tkk tx L t = 2 then (pst (tkk tx L) t).2.2 + 1 else (pst (tkk tx L) t).2.2 := rfl
    have n' : cnm tx L (t + 1) = if (cR tx L t = 8 ∨ cR tx L t = 10) ∧ tkk tx L t = 6 then cnm tx L t + 1 else cnm tx L t := rfl
    have f' : clf tx L (t + 1) = if cR tx L t = 2 ∨ cR tx L t = 6 then tkw tx L t else clf tx L t := rfl
    have g' : ∀ j, cNF tx L f0 (t + 1) j = if cR tx L t = 6 ∧ j = cnm tx L t then nI (tkw tx L t) else cNF tx L f0 t j := fun _ => rfl
    have tab : (cR tx L t = 1 ∧ tkk tx L t = 1 ∧ cR tx L (t + 1) = 2) ∨ (cR tx L t = 1 ∧ tkk tx L t = 2 ∧ cR tx L (t + 1) = 5) ∨ (cR tx L t = 2 ∧ tkk tx L t = 5 ∧ cR tx L (t + 1) = 3) ∨ (cR tx L t = 3 ∧ tkk tx L t = 5 ∧ cR tx L (t + 1) = 4) ∨ (cR tx L t = 4 ∧ tkk tx L t = 6 ∧ cR tx L (t + 1) = 1) ∨ (cR tx L t = 5 ∧ tkk tx L t = 4 ∧ cR tx L (t + 1) = 6) ∨ (cR tx L t = 6 ∧ tkk tx L t = 5 ∧ cR tx L (t + 1) = 7) ∨ (cR tx L t = 7 ∧ tkk tx L t = 11 ∧ cR tx L (t + 1) = 7) ∨ (cR tx L t = 7 ∧ (tkk tx L t = 3 ∨ tkk tx L t = 4 ∨ tkk tx L t = 5) ∧ cR tx L (t + 1) = 8) ∨ (cR tx L t = 8 ∧ tkk tx L t = 10 ∧ cR tx L (t + 1) = 9) ∨ (cR tx L t = 9 ∧ tkk tx L t = 5 ∧ cR tx L (t + 1) = 10) ∨ ((cR tx L t = 8 ∨ cR tx L t = 10) ∧ (((tkk tx L t = 7 ∨ tkk tx L t = 8 ∨ tkk tx L t = 9) ∧ cR tx L (t + 1) = 7) ∨ (tkk tx L t = 12 ∧ (pst (tkk tx L) t).2.1 ≠ 0 ∧ cR tx L (t + 1) = 8) ∨ (tkk tx L t = 6 ∧ (pst (tkk tx L) t).2.1 = 0 ∧ cR tx L (t + 1) = 1))) := tab
    have w12 : cR tx L t = 2 ∨ cR tx L t = 6 → 1 ≤ tkw tx L t ∧ tkw tx L t ≤ 12 := by
      intro h
      unfold cFL at fl
      rw [if_pos h] at fl
      split at fl
      · rename_i z
        exact z
      · omega
    clear r' fl pg
    refine ⟨fun j hj => ?_, fun h => ?_, fun h => ?_, ?_, ?_⟩
    · rw [g']
      rw [n'] at hj
      by_cases z : cR tx L t = 6 ∧ j = cnm tx L t
      · have : ¬ ((cR tx L t = 8 ∨ cR tx L t = 10) ∧ tkk tx L t = 6) := by omega
        rw [if_neg this] at hj
        omega
      · rw [if_neg z]
        by_cases y : (cR tx L t = 8 ∨ cR tx L t = 10) ∧ tkk tx L t = 6
        · rw [if_pos y] at hj
          rcases Nat.lt_or_ge j (cnm tx L t) with q | q
          · exact a j q
          · have ej : j = cnm tx L t := by omega
            have b := b (by omega)
            exact ⟨clf tx L t, b.1, b.2, by rw [ej]; exact c (by omega)⟩
        · rw [if_neg y] at hj
          exact a j hj
    · rw [f']
      split
      · rename_i z
        exact w12 z
      · exact b (by omega)
    · rw [g', n', f']
      by_cases z : cR tx L t = 6
      · have n1 : ¬ ((cR tx L t = 8 ∨ cR tx L t = 10) ∧ tkk tx L t = 6) := by omega
        rw [if_neg n1, if_pos ⟨z, rfl⟩, if_pos (Or.inr z)]
      · have n1 : ¬ ((cR tx L t = 8 ∨ cR tx L t = 10) ∧ tkk tx L t = 6) := by omega
        rw [if_neg n1, if_neg (fun y => z y.1), if_neg (by omega)]
        exact c (by omega)
    · rw [l', n', d]
      split
      all_goals
        split
        all_goals
          split
          all_goals first | omega | (split; all_goals omega)
    · omega
