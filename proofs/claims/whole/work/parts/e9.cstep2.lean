/-! CHECK: the class's script, fields and names used -/
theorem CHK.fld {h0 h : PH} {s : Nat} {tx : Nat → Nat} {L : Nat} {l0 : Nat → Int64} {f0 s0 m0 d0 : Nat → Int32} {t : Nat} (c : CHK h0 h s tx L l0 f0 s0 m0 d0 t) (hr : cR tx L t = 2 ∨ cR tx L t = 6) : CHK h0 (fdH s h (cR tx L t) (cnm tx L t) (tkw tx L t) t) s tx L l0 f0 s0 m0 d0 (t + 1) := by
  obtain ⟨c1, c2, c3, c4, c5, c6, c7, c8, c9, c10, c11, c12⟩ := c
  have wt : ∀ i, i < pT (tkk tx L) → (if i < t then cW tx L l0 i else lN (tkw tx L i)) = if i < t + 1 then cW tx L l0 i else lN (tkw tx L i) := by
    intro i hi
    rcases Nat.lt_trichotomy i t with w | w | w
    · rw [if_pos w, if_pos (by omega)]
    · rw [if_neg (by omega), if_pos (by omega), w]
      unfold cW
      rw [if_neg (by omega), if_neg (by omega)]
    · rw [if_neg (by omega), if_neg (by omega)]
  unfold fdH
  by_cases z : cR tx L t = 6
  · rw [if_pos z]
    refine ⟨?_, ?_, ?_, ?_, ?_, fun i hi => ?_, fun i hi => ?_, fun j => ?_, fun j => ?_, fun j => ?_, fun j => ?_, fun j => ?_⟩
    · refine eqY_tr c1 (eqY_tr (eqY_tr (eqY_tr (eqY_sI ?_) (eqY_sI ?_)) (eqY_sI ?_)) (eqY_sI ?_))
      all_goals omega
    · rw [hI_ne (by omega), hI_ne (by omega), hI_ne (by omega), hI_sI_j (by decide)]
      exact c2
    · rw [hI_ne (by omega), hI_ne (by omega), hI_ne (by omega), hI_sI_j (by decide), c3]
      show _ = nI (if _ then _ else _)
      rw [if_neg (by omega)]
    · rw [hI_ne (by omega), hI_ne (by omega), hI_ne (by omega), hI_sI]
      show _ = nI (if _ then _ else _)
      rw [if_pos hr]
    · rw [hI_ne (by omega), hI_ne (by omega), hI_ne (by omega), hI_sI_j (by decide)]
      exact c5
    · obtain ⟨e1, e2, e3⟩ := c6 i hi
      refine ⟨?_, ?_, ?_⟩
      · rw [hI_ne (by omega), hI_ne (by omega), hI_ne (by omega), hI_ne (by omega)]
        exact e1
      · rw [hI_ne (by omega), hI_ne (by omega), hI_ne (by omega), hI_ne (by omega)]
        exact e2
      · rw [hI_ne (by omega), hI_ne (by omega), hI_ne (by omega), hI_ne (by omega)]
        exact e3
    · rw [hL_sI, hL_sI, hL_sI, hL_sI, c7 i hi]
      exact wt i hi
    · rw [hL_sI, hL_sI, hL_sI, hL_sI, c8]
      show _ = if _ then _ else _
      rw [if_neg (by omega)]
    · rw [hI_ne (by omega), hI_ne (by omega)]
      show _ = if _ then _ else _
      by_cases e : j = cnm tx L t
      · rw [if_pos ⟨z, e⟩, e, hI_sI]
      · rw [if_neg (fun y => e y.2), hI_sI_j e, hI_ne (by omega), c9]
    · rw [hI_ne (by omega)]
      show _ = if _ then _ else _
      by_cases e : j = cnm tx L t
      · rw [if_pos ⟨z, e⟩, e, hI_sI]
      · rw [if_neg (fun y => e y.2), hI_sI_j e, hI_ne (by omega), hI_ne (by omega), c10]
    · show _ = if _ then _ else if _ then _ else _
      by_cases e : j = cnm tx L t
      · rw [if_pos ⟨z, e⟩, e, hI_sI]
      · rw [if_neg (fun y => e y.2), if_neg (fun y => e y.2.2.1), hI_sI_j e, hI_ne (by omega), hI_ne (by omega), hI_ne (by omega), c11]
    · rw [hI_ne (by omega), hI_ne (by omega), hI_ne (by omega), hI_ne (by omega), c12]
      show _ = if _ then _ else _
      rw [if_neg (by omega)]
  · rw [if_neg z]
    refine ⟨eqY_tr c1 (eqY_sI (by omega)), (hI_sI_j (by decide)).trans c2, ?_, ?_, (hI_sI_j (by decide)).trans c5, fun i hi => ?_, fun i hi => ?_, fun j => ?_, fun j => ?_, fun j => ?_, fun j => ?_, fun j => ?_⟩
    · rw [hI_sI_j (by decide), c3]
      show _ = nI (if _ then _ else _)
      rw [if_neg (by omega)]
    · rw [hI_sI]
      show _ = nI (if _ then _ else _)
      rw [if_pos hr]
    · rw [hI_ne (by omega), hI_ne (by omega), hI_ne (by omega)]
      exact c6 i hi
    · rw [hL_sI, c7 i hi]
      exact wt i hi
    · rw [hL_sI, c8]
      show _ = if _ then _ else _
      rw [if_neg (by omega)]
    · rw [hI_ne (by omega), c9]
      show _ = if _ then _ else _
      rw [if_neg (by omega)]
    · rw [hI_ne (by omega), c10]
      show _ = if _ then _ else _
      rw [if_neg (by omega)]
    · rw [hI_ne (by omega), c11]
      show _ = if _ then _ else if _ then _ else _
      rw [if_neg (by omega), if_neg (fun y => by have := y.1; omega)]
    · rw [hI_ne (by omega), c12]
      show _ = if _ then _ else _
      rw [if_neg (by omega)]
theorem CHK.atm {h0 h : PH} {s : Nat} {tx : Nat → Nat} {L : Nat} {l0 : Nat → Int64} {f0 s0 m0 d0 : Nat → Int32} {t a : Nat} (c : CHK h0 h s tx L l0 f0 s0 m0 d0 t) (hr : cR tx L t = 7) (hk : tkk tx L t = 4) (ha : cNF tx L f0 t (cIX tx L l0 t) = nI a) (a12 : a ≤ 12) (f12 : clf tx L t ≤ 12) : CHK h0 (sL (if a = clf tx L t then h else sI h (s + 9) (cnm tx L t) 1) (s + 4) t (lN (cIX tx L l0 t))) s tx L l0 f0 s0 m0 d0 (t + 1) := by
  obtain ⟨c1, c2, c3, c4, c5, c6, c7, c8, c9, c10, c11, c12⟩ := c
  have key : ∀ h1 : PH, eqY (fun k => s ≤ k ∧ k ≤ s + 9) h h1 → (∀ k j, k ≠ s + 9 → hI h1 k j = hI h k j) → hL h1 = hL h → (∀ j, hI h1 (s + 9) j = cMX tx L l0 f0 m0 (t + 1) j) → CHK h0 (sL h1 (s + 4) t (lN (cIX tx L l0 t))) s tx L l0 f0 s0 m0 d0 (t + 1) := by
    intro h1 e1 e2 e3 e4
    refine ⟨eqY_tr c1 (eqY_tr e1 (eqY_sL ⟨by omega, by omega⟩)), ?_, ?_, ?_, ?_, fun i hi => ?_, fun i hi => ?_, fun j => ?_, fun j => ?_, fun j => ?_, fun j => ?_, fun j => ?_⟩
    · rw [hI_sL, e2 _ _ (by omega)]
      exact c2
    · rw [hI_sL, e2 _ _ (by omega), c3]
      show _ = nI (if _ then _ else _)
      rw [if_neg (by omega)]
    · rw [hI_sL, e2 _ _ (by omega), c4]
      show _ = nI (if _ then _ else _)
      rw [if_neg (by omega)]
    · rw [hI_sL, e2 _ _ (by omega)]
      exact c5
    · rw [hI_sL, e2 _ _ (by omega), e2 _ _ (by omega), e2 _ _ (by omega)]
      exact c6 i hi
    · rcases Nat.lt_trichotomy i t with w | w | w
      · rw [hL_j (by omega), e3, c7 i hi, if_pos w, if_pos (by omega)]
      · rw [w, hL_sL, if_pos (by omega)]
        unfold cW
        rw [if_neg (by omega), if_pos ⟨hr, hk⟩]
      · rw [hL_j (by omega), e3, c7 i hi, if_neg (by omega), if_neg (by omega)]
    · rw [hL_ne (by omega), e3, c8]
      show _ = if _ then _ else _
      rw [if_neg (by omega)]
    · rw [hI_sL, e2 _ _ (by omega), c9]
      show _ = if _ then _ else _
      rw [if_neg (by omega)]
    · rw [hI_sL, e2 _ _ (by omega), c10]
      show _ = if _ then _ else _
      rw [if_neg (by omega)]
    · rw [hI_sL]
      exact e4 j
    · rw [hI_sL, e2 _ _ (by omega), c12]
      show _ = if _ then _ else _
      rw [if_neg (by omega)]
  by_cases e : a = clf tx L t
  · rw [if_pos e]
    refine key h (eqY_rf _ _) (fun _ _ _ => rfl) rfl (fun j => ?_)
    rw [c11]
    show _ = if _ then _ else if _ then _ else _
    rw [if_neg (by omega), if_neg (fun y => y.2.2.2 (by rw [ha, e]))]
  · rw [if_neg e]
    refine key _ (eqY_sI ⟨by omega, by omega⟩) (fun k j hk => hI_ne hk) hL_sI (fun j => ?_)
    show _ = if _ then _ else if _ then _ else _
    rw [if_neg (by omega)]
    by_cases z : j = cnm tx L t
    · rw [if_pos ⟨hr, hk, z, fun y => e ((zn_eq (by omega) (by omega)).mp (ha.symm.trans y))⟩, z, hI_sI]
    · rw [if_neg (fun y => z y.2.2.1), hI_sI_j z, c11]
