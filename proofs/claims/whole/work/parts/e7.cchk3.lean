/-! CHECK: the class's script before a token -/
def CHK (h0 h : PH) (s : Nat) (tx : Nat → Nat) (L : Nat) (l0 : Nat → Int64) (f0 s0 m0 d0 : Nat → Int32) (t : Nat) : Prop :=
  eqY (fun k => s ≤ k ∧ k ≤ s + 9) h0 h ∧ hI h s 0 = nI (pT (tkk tx L)) ∧ hI h s 6 = nI (cnm tx L t) ∧ hI h s 11 = nI (clf tx L t) ∧ hI h s 12 = hI h0 s 12 ∧
  (∀ i, i < pT (tkk tx L) → hI h (s + 1) i = nI (tkk tx L i) ∧ hI h (s + 2) i = nI (cR tx L i) ∧ hI h (s + 3) i = nI (tkS tx L i)) ∧
  (∀ i, i < pT (tkk tx L) → hL h (s + 4) i = if i < t then cW tx L l0 i else lN (tkw tx L i)) ∧
  (∀ j, hL h (s + 6) j = cNL tx L l0 t j) ∧ (∀ j, hI h (s + 7) j = cNF tx L f0 t j) ∧ (∀ j, hI h (s + 8) j = cNS tx L s0 t j) ∧ (∀ j, hI h (s + 9) j = cMX tx L l0 f0 m0 t j) ∧ (∀ j, hI h (s + 5) j = cMD tx L d0 t j)
/-- a token that leaves the rows as they are -/
theorem CHK.same {h0 h : PH} {s : Nat} {tx : Nat → Nat} {L : Nat} {l0 : Nat → Int64} {f0 s0 m0 d0 : Nat → Int32} {t : Nat} (c : CHK h0 h s tx L l0 f0 s0 m0 d0 t) (hr : cR tx L t = 1 ∨ cR tx L t = 4 ∨ cR tx L t = 9 ∨ ((cR tx L t = 8 ∨ cR tx L t = 10) ∧ tkk tx L t ≠ 6) ∨ (cR tx L t = 7 ∧ tkk tx L t ≠ 4 ∧ tkk tx L t ≠ 5)) : CHK h0 h s tx L l0 f0 s0 m0 d0 (t + 1) := by
  obtain ⟨c1, c2, c3, c4, c5, c6, c7, c8, c9, c10, c11, c12⟩ := c
  refine ⟨c1, c2, ?_, ?_, c5, c6, fun i hi => ?_, fun j => ?_, fun j => ?_, fun j => ?_, fun j => ?_, fun j => ?_⟩
  · rw [c3]
    show _ = nI (if _ then _ else _)
    rw [if_neg (by omega)]
  · rw [c4]
    show _ = nI (if _ then _ else _)
    rw [if_neg (by omega)]
  · rw [c7 i hi]
    rcases Nat.lt_trichotomy i t with w | w | w
    · rw [if_pos w, if_pos (by omega)]
    · rw [if_neg (by omega), if_pos (by omega), w]
      unfold cW
      rw [if_neg (by omega), if_neg (by omega)]
    · rw [if_neg (by omega), if_neg (by omega)]
  · rw [c8]
    show _ = if _ then _ else _
    rw [if_neg (by omega)]
  · rw [c9]
    show _ = if _ then _ else _
    rw [if_neg (by omega)]
  · rw [c10]
    show _ = if _ then _ else _
    rw [if_neg (by omega)]
  · rw [c11]
    show _ = if _ then _ else if _ then _ else _
    rw [if_neg (by omega), if_neg (fun y => by have := y.1; have := y.2.1; omega)]
  · rw [c12]
    show _ = if _ then _ else _
    rw [if_neg (by omega)]
