/-! CLASS: the tower does not see cells outside it -/
theorem CI_out {A : Nat → Prop} {h h' : PH} {u : Nat → Nat} {r : Nat → Nat → Nat} (hA : ∀ k, A k → k < 8 ∨ (79 ≤ k ∧ k < 149)) (e : eqY A h h') (hC : CI h u r) : CI h' u r := by
  obtain ⟨c1, c2, c3, c4, c5, c6⟩ := hC
  have hi : ∀ k, ¬ (k < 8 ∨ (79 ≤ k ∧ k < 149)) → hI h' k = hI h k := fun k hk => (e.2.2.2 k (fun q => hk (hA k q))).1
  refine ⟨eqY_WS e c1, fun n a b => ?_, fun n a b => ?_, ⟨fun n a b => ?_, ?_⟩, fun n a b => ?_, fun n a b => ?_⟩
  · unfold FOK
    rw [eqY_T e, hi _ (by omega)]
    exact c2 n a b
  · rw [hi _ (by omega)]
    exact c3 n a b
  · rw [hi _ (by omega), e.2.1, e.2.2.1, eqY_T e, eqY_N e]
    obtain ⟨g1, g2⟩ := c4.1 n a b
    refine ⟨g1, ?_⟩
    rcases g2 with g2 | ⟨g2, g3, g4⟩
    · exact Or.inl g2
    · refine Or.inr ⟨g2, g3, ?_⟩
      rcases g1 with g1 | g1
      · exact absurd g1 g3
      · rw [hi _ (by omega)]
        exact g4
  · rw [e.2.1]
    exact c4.2
  · rw [hi _ (by omega)]
    exact c5 n a b
  · rw [hi _ (by omega), hi _ (by omega)]
    exact c6 n a b
/-- both frames of a step that may use the tower: cells outside it but those of A are as they were -/
def FO (A : Nat → Prop) (h h' : PH) : Prop := (∀ k, k < 149 → ¬ twr k → ¬ A k → hI h' k = hI h k ∧ hL h' k = hL h k) ∧ (∀ k, k < 149 → ¬ twr k → hR h' k = hR h k) ∧ h'.1 1 = h.1 1
theorem FO_rf (A : Nat → Prop) (h : PH) : FO A h h := ⟨fun _ _ _ _ => ⟨rfl, rfl⟩, fun _ _ _ => rfl, rfl⟩
theorem FO_tr {A : Nat → Prop} {a b c : PH} (x : FO A a b) (y : FO A b c) : FO A a c := ⟨fun k h1 h2 h3 => ⟨(y.1 k h1 h2 h3).1.trans (x.1 k h1 h2 h3).1, (y.1 k h1 h2 h3).2.trans (x.1 k h1 h2 h3).2⟩, fun k h1 h2 => (y.2.1 k h1 h2).trans (x.2.1 k h1 h2), y.2.2.trans x.2.2⟩
theorem FO_Q {A : Nat → Prop} {h h' : PH} (q : FQ h h') : FO A h h' := ⟨fun k h1 h2 _ => ⟨(q.1 k h1 (fun y => h2 (Or.inl y))).1, (q.1 k h1 (fun y => h2 (Or.inl y))).2.1⟩, fun k h1 h2 => (q.1 k h1 (fun y => h2 (Or.inl y))).2.2, q.2.2⟩
theorem FO_W {A : Nat → Prop} {h h' : PH} (q : FW h h') : FO A h h' := ⟨fun k h1 h2 _ => ⟨(q.1 k h1 h2).1, (q.1 k h1 h2).2.1⟩, fun k h1 h2 => (q.1 k h1 h2).2.2, q.2.2⟩
theorem FO_Y {A : Nat → Prop} {h h' : PH} (e : eqY A h h') : FO A h h' := ⟨fun k _ _ h3 => e.2.2.2 k h3, fun k _ _ => by rw [e.2.1], by rw [e.1]⟩
theorem FO_mono {A B : Nat → Prop} {h h' : PH} (hab : ∀ k, A k → B k) (x : FO A h h') : FO B h h' := ⟨fun k h1 h2 h3 => x.1 k h1 h2 (fun q => h3 (hab k q)), x.2⟩
/-- the class's script, checked -/
def SCT (h : PH) (s : Nat) (tx : Nat → Nat) (L : Nat) (l0 : Nat → Int64) (f0 s0 m0 : Nat → Int32) : Prop := hI h s 0 = nI (pT (tkk tx L)) ∧ hI h s 6 = nI (cnm tx L (pT (tkk tx L))) ∧ (∀ i, i < pT (tkk tx L) → hI h (s + 1) i = nI (tkk tx L i) ∧ hI h (s + 2) i = nI (cR tx L i) ∧ hI h (s + 3) i = nI (tkS tx L i) ∧ hL h (s + 4) i = cW tx L l0 i) ∧ ∀ j, hI h (s + 7) j = cNF tx L f0 (pT (tkk tx L)) j ∧ hI h (s + 8) j = cNS tx L s0 (pT (tkk tx L)) j ∧ hI h (s + 9) j = cMX tx L l0 f0 m0 (pT (tkk tx L)) j
theorem SCT.eq {h h' : PH} {s : Nat} {tx : Nat → Nat} {L : Nat} {l0 : Nat → Int64} {f0 s0 m0 : Nat → Int32} (e : ∀ k, s ≤ k → k ≤ s + 9 → hI h' k = hI h k ∧ hL h' k = hL h k) (c : SCT h s tx L l0 f0 s0 m0) : SCT h' s tx L l0 f0 s0 m0 := by
  obtain ⟨a, b, d, f⟩ := c
  refine ⟨?_, ?_, fun i hi => ?_, fun j => ?_⟩
  · rw [(e s (by omega) (by omega)).1]
    exact a
  · rw [(e s (by omega) (by omega)).1]
    exact b
  · rw [(e (s + 1) (by omega) (by omega)).1, (e (s + 2) (by omega) (by omega)).1, (e (s + 3) (by omega) (by omega)).1, (e (s + 4) (by omega) (by omega)).2]
    exact d i hi
  · rw [(e (s + 7) (by omega) (by omega)).1, (e (s + 8) (by omega) (by omega)).1, (e (s + 9) (by omega) (by omega)).1]
    exact f j
theorem SCT.fo {A : Nat → Prop} {h h' : PH} {s : Nat} (hs : SCL s) (hA : ∀ k, 96 ≤ k → k ≤ 115 → ¬ A k) {tx : Nat → Nat} {L : Nat} {l0 : Nat → Int64} {f0 s0 m0 : Nat → Int32} (e : FO A h h') (c : SCT h s tx L l0 f0 s0 m0) : SCT h' s tx L l0 f0 s0 m0 := c.eq (fun k h1 h2 => by
  unfold SCL at hs
  exact e.1 k (by omega) (by unfold twr scr; omega) (hA k (by omega) (by omega)))
/-- lines, once more -/
theorem inl_ok {tx : Nat → Nat} {L : Nat} : ∀ t, t ≤ pT (tkk tx L) → (cR tx L t ≤ 6 → ∀ i, i < t → 7 ≤ cR tx L i → cnm tx L i < cnm tx L t) ∧ (∀ i, i < t → cnm tx L i ≤ cnm tx L t) := by
  intro t
  induction t with
  | zero => exact fun _ => ⟨fun _ i hi => absurd hi (Nat.not_lt_zero i), fun i hi => absurd hi (Nat.not_lt_zero i)⟩
  | succ t ih =>
    intro ht
    obtain ⟨a, b⟩ := ih (by omega)
    have tab := rtab (tx := tx) (L := L) (t := t) (by omega)
    have n' : cnm tx L (t + 1) = if (cR tx L t = 8 ∨ cR tx L t = 10) ∧ tkk tx L t = 6 then cnm tx L t + 1 else cnm tx L t := rfl
    have mon : cnm tx L t ≤ cnm tx L (t + 1) := by
      rw [n']
      split
      · omega
      · omega
    refine ⟨fun h6 i hi h7 => ?_, fun i hi => ?_⟩
    · by_cases z : (cR tx L t = 8 ∨ cR tx L t = 10) ∧ tkk tx L t = 6
      · rw [if_pos z] at n'
        rcases Nat.lt_or_ge i t with w | w
        · have := b i w
          omega
        · have : i = t := by omega
          rw [this]
          omega
      · have c5 : cR tx L t ≤ 5 := by omega
        rcases Nat.lt_or_ge i t with w | w
        · have := a (by omega) i w h7
          omega
        · have : i = t := by omega
          rw [this] at h7
          omega
    · rcases Nat.lt_or_ge i t with w | w
      · have := b i w
        omega
      · have : i = t := by omega
        rw [this]
        exact mon
theorem mix_ok {tx : Nat → Nat} {L : Nat} {l0 : Nat → Int64} {f0 m0 : Nat → Int32} : ∀ t, t ≤ pT (tkk tx L) → ∀ i, i < t → cR tx L i = 7 → tkk tx L i = 4 → cNF tx L f0 i (cIX tx L l0 i) ≠ nI (clf tx L i) → cMX tx L l0 f0 m0 t (cnm tx L i) = 1 := by
  intro t
  induction t with
  | zero => exact fun _ i hi => absurd hi (Nat.not_lt_zero i)
  | succ t ih =>
    intro ht i hi h7 h4 hx
    have e : cMX tx L l0 f0 m0 (t + 1) (cnm tx L i) = if cR tx L t = 6 ∧ cnm tx L i = cnm tx L t then 0 else if cR tx L t = 7 ∧ tkk tx L t = 4 ∧ cnm tx L i = cnm tx L t ∧ cNF tx L f0 t (cIX tx L l0 t) ≠ nI (clf tx L t) then 1 else cMX tx L l0 f0 m0 t (cnm tx L i) := rfl
    rw [e]
    rcases Nat.lt_or_ge i t with w | w
    · by_cases z : cR tx L t = 6 ∧ cnm tx L i = cnm tx L t
      · have := (inl_ok (tx := tx) (L := L) t (by omega)).1 (by omega) i w (by omega)
        omega
      · rw [if_neg z]
        split
        · rfl
        · exact ih (by omega) i w h7 h4 hx
    · have q : i = t := by omega
      subst q
      rw [if_neg (by omega), if_pos ⟨h7, h4, rfl, hx⟩]
