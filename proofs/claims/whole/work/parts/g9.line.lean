/-! WORTH: a whole line, run -/
theorem rNF_st {tx : Nat → Nat} {L : Nat} : ∀ d t j, t + d ≤ pT (tkk tx L) → j < cnm tx L t → rNF tx L (t + d) j = rNF tx L t j ∧ j < cnm tx L (t + d) := by
  intro d
  induction d with
  | zero => exact fun t j _ hj => ⟨rfl, hj⟩
  | succ d ih =>
    intro t j hd hj
    obtain ⟨a, b⟩ := ih t j (by omega) hj
    have g3 : rNF tx L (t + d + 1) j = if cR tx L (t + d) = 6 ∧ j = cnm tx L (t + d) then tkv tx L (t + d) else rNF tx L (t + d) j := rfl
    have n' : cnm tx L (t + d + 1) = if (cR tx L (t + d) = 8 ∨ cR tx L (t + d) = 10) ∧ tkk tx L (t + d) = 6 then cnm tx L (t + d) + 1 else cnm tx L (t + d) := rfl
    refine ⟨?_, ?_⟩
    · show rNF tx L (t + d + 1) j = _
      rw [g3, if_neg (by omega)]
      exact a
    · show j < cnm tx L (t + d + 1)
      rw [n']
      split
      · omega
      · omega
theorem rNF_pT {tx : Nat → Nat} {L t j : Nat} (ht : t ≤ pT (tkk tx L)) (hj : j < cnm tx L t) : rNF tx L (pT (tkk tx L)) j = rNF tx L t j := by
  have := (rNF_st (tx := tx) (L := L) (pT (tkk tx L) - t) t j (by omega) hj).1
  rw [show t + (pT (tkk tx L) - t) = pT (tkk tx L) by omega] at this
  exact this
theorem mst_6 {tx : Nat → Nat} {L : Nat} {l0 : Nat → Int64} {u : Nat → Nat} {t : Nat} (h : cR tx L t = 6) : mst tx L l0 u (t + 1) = ((mst tx L l0 u t).1, [(0, (none, 0), (none, 0))], 0, (mst tx L l0 u t).2.2.2) := by
  show (if _ then _ else _) = _
  rw [if_pos h]
theorem lrt {tx : Nat → Nat} {L : Nat} (hM : L ≤ 2000) {l0 : Nat → Int64} {f0 : Nat → Int32} {u : Nat → Nat} (hu : MDS u) (hf : ∀ i, i < pT (tkk tx L) → cFL tx L l0 f0 i = 0) {a : Nat} (ha : cR tx L a = 6) : ∀ d, a + 1 + d < pT (tkk tx L) → (∀ i, a < i → i ≤ a + 1 + d → 7 ≤ cR tx L i ∧ cnm tx L i = cnm tx L a ∧ clf tx L i = tkw tx L a ∧ (i < a + 1 + d → tkk tx L i ≠ 6)) →
    ∃ seg, (eW tx L l0 (a + 1 + d)).1 = (eW tx L l0 (a + 1)).1 ++ seg ∧ (∀ s, s ∈ seg → okQ u (rNF tx L (pT (tkk tx L))) (mst tx L l0 u a).2.2.2 (tkw tx L a) (cnm tx L a) s) ∧ (mst tx L l0 u (a + 1 + d)).2.2.2 = (mst tx L l0 u a).2.2.2 ∧ ((mst tx L l0 u a).1 = none → ((mst tx L l0 u (a + 1 + d)).1 = none → rn u (rNF tx L (pT (tkk tx L))) (mst tx L l0 u a).2.2.2 (tkw tx L a) seg [] = some (Sum.inr (Sk (cR tx L (a + 1 + d)) (mst tx L l0 u (a + 1 + d)).2.2.1 (mst tx L l0 u (a + 1 + d)).2.1))) ∧ (∀ p, (mst tx L l0 u (a + 1 + d)).1 = some p → rn u (rNF tx L (pT (tkk tx L))) (mst tx L l0 u a).2.2.2 (tkw tx L a) seg [] = some (Sum.inl p))) := by
  intro d
  induction d with
  | zero =>
    intro hd hi
    have m1 := mst_6 (l0 := l0) (u := u) ha
    have r1 : cR tx L (a + 1) = 7 := by
      have tab := rtab (tx := tx) (L := L) (t := a) (by omega)
      omega
    refine ⟨[], (List.append_nil _).symm, fun s hs => absurd hs List.not_mem_nil, by rw [Nat.add_zero, m1], fun ne => ⟨fun _ => ?_, fun p hp => ?_⟩⟩
    · rw [Nat.add_zero, m1, r1]
      rfl
    · rw [Nat.add_zero, m1] at hp
      exact absurd (ne.symm.trans hp) (by simp)
  | succ d ih =>
    intro hd hi
    obtain ⟨seg, s1, s2, s3, s4⟩ := ih (by omega) (fun i y1 y2 => by
      obtain ⟨z1, z2, z3, z4⟩ := hi i y1 (by omega)
      exact ⟨z1, z2, z3, fun _ => z4 (by omega)⟩)
    obtain ⟨q1, q2, q3, q4⟩ := hi (a + 1 + d) (by omega) (by omega)
    obtain ⟨o, o1, o2, o3, o4, o5⟩ := RSt_ok hM (nf := rNF tx L (pT (tkk tx L))) hu (t := a + 1 + d) (by omega) hf q1 (fun j hj => rNF_pT (by omega) hj)
    have q4 := q4 (by omega)
    rw [q3, s3] at o2 o3
    rw [q2] at o2
    refine ⟨seg ++ o, ?_, fun s hs => ?_, ?_, fun ne => ?_⟩
    · show (eW tx L l0 (a + 1 + d + 1)).1 = _
      rw [o1, s1, List.append_assoc]
    · rcases List.mem_append.mp hs with y | y
      · exact s2 s y
      · exact o2 s y
    · show (mst tx L l0 u (a + 1 + d + 1)).2.2.2 = _
      rw [o5 q4, s3]
    · obtain ⟨s5, s6⟩ := s4 ne
      show ((mst tx L l0 u (a + 1 + d + 1)).1 = none → rn _ _ _ _ (seg ++ o) [] = some (Sum.inr (Sk (cR tx L (a + 1 + d + 1)) (mst tx L l0 u (a + 1 + d + 1)).2.2.1 (mst tx L l0 u (a + 1 + d + 1)).2.1))) ∧ (∀ p, (mst tx L l0 u (a + 1 + d + 1)).1 = some p → rn _ _ _ _ (seg ++ o) [] = some (Sum.inl p))
      cases z : (mst tx L l0 u (a + 1 + d)).1 with
      | none =>
        obtain ⟨o6, o7⟩ := o3 z
        rw [rn_inr (s5 z)]
        rw [if_neg q4] at o7
        exact ⟨o7, o6⟩
      | some p =>
        rw [rn_inl (s6 p z), o4 p z]
        exact ⟨fun y => absurd y (by simp), fun p' y => by rw [Option.some.inj y]⟩
/-- the line that ends at T -/
theorem lrn {tx : Nat → Nat} {L : Nat} (hM : L ≤ 2000) {l0 : Nat → Int64} {f0 : Nat → Int32} {u : Nat → Nat} (hu : MDS u) (hf : ∀ i, i < pT (tkk tx L) → cFL tx L l0 f0 i = 0) {a T : Nat} (ha : cR tx L a = 6) (haT : a < T) (hT : T < pT (tkk tx L)) (h6 : tkk tx L T = 6) (hi : ∀ i, a < i → i ≤ T → 7 ≤ cR tx L i ∧ cnm tx L i = cnm tx L a ∧ clf tx L i = tkw tx L a ∧ (i < T → tkk tx L i ≠ 6)) :
    ∃ seg, (eW tx L l0 (T + 1)).1 = (eW tx L l0 (a + 1)).1 ++ seg ∧ (∀ s, s ∈ seg → okQ u (rNF tx L (pT (tkk tx L))) (mst tx L l0 u a).2.2.2 (tkw tx L a) (cnm tx L a) s) ∧ ((mst tx L l0 u a).1 = none → ((mst tx L l0 u (T + 1)).1 = none → rn u (rNF tx L (pT (tkk tx L))) (mst tx L l0 u a).2.2.2 (tkw tx L a) seg [] = some (Sum.inr [(mst tx L l0 u (T + 1)).2.2.2 (cnm tx L a)])) ∧ (∀ p, (mst tx L l0 u (T + 1)).1 = some p → rn u (rNF tx L (pT (tkk tx L))) (mst tx L l0 u a).2.2.2 (tkw tx L a) seg [] = some (Sum.inl p))) := by
  obtain ⟨seg, s1, s2, s3, s4⟩ := lrt hM hu hf ha (T - (a + 1)) (by omega) (by
    rw [show a + 1 + (T - (a + 1)) = T by omega]
    exact hi)
  rw [show a + 1 + (T - (a + 1)) = T by omega] at s1 s3 s4
  obtain ⟨q1, q2, q3, q4⟩ := hi T haT (Nat.le_refl T)
  obtain ⟨o, o1, o2, o3, o4, o5⟩ := RSt_ok hM (nf := rNF tx L (pT (tkk tx L))) hu (t := T) hT hf q1 (fun j hj => rNF_pT (by omega) hj)
  rw [q3, s3] at o2 o3
  rw [q2] at o2
  refine ⟨seg ++ o, by rw [o1, s1, List.append_assoc], fun s hs => ?_, fun ne => ?_⟩
  · rcases List.mem_append.mp hs with y | y
    · exact s2 s y
    · exact o2 s y
  · obtain ⟨s5, s6⟩ := s4 ne
    cases z : (mst tx L l0 u T).1 with
    | none =>
      obtain ⟨o6, o7⟩ := o3 z
      rw [rn_inr (s5 z)]
      rw [if_pos h6, q2] at o7
      exact ⟨o7, o6⟩
    | some p =>
      rw [rn_inl (s6 p z), o4 p z]
      exact ⟨fun y => absurd y (by simp), fun p' y => by rw [Option.some.inj y]⟩
