/-! CHECK: the class's script, token by token -/
theorem hL_ne {h : PH} {k j q i : Nat} {v : Int64} (hne : q ≠ k) : hL (sL h k j v) q i = hL h q i := hL_sL_ne (fun e => hne e.1)
theorem hL_j {h : PH} {k j i : Nat} {v : Int64} (hne : i ≠ j) : hL (sL h k j v) k i = hL h k i := hL_sL_ne (fun e => hne e.2)
theorem CHK.semi {h0 h : PH} {s : Nat} {tx : Nat → Nat} {L : Nat} {l0 : Nat → Int64} {f0 s0 m0 d0 : Nat → Int32} {t : Nat} (c : CHK h0 h s tx L l0 f0 s0 m0 d0 t) (hr : cR tx L t = 8 ∨ cR tx L t = 10) (hk : tkk tx L t = 6) : CHK h0 (sI h s 6 (nI (cnm tx L t + 1))) s tx L l0 f0 s0 m0 d0 (t + 1) := by
  obtain ⟨c1, c2, c3, c4, c5, c6, c7, c8, c9, c10, c11, c12⟩ := c
  refine ⟨eqY_tr c1 (eqY_sI ⟨Nat.le_refl s, by omega⟩), (hI_sI_j (by decide)).trans c2, ?_, ?_, (hI_sI_j (by decide)).trans c5, fun i hi => ?_, fun i hi => ?_, fun j => ?_, fun j => ?_, fun j => ?_, fun j => ?_, fun j => ?_⟩
  · rw [hI_sI]
    show _ = nI (if _ then _ else _)
    rw [if_pos ⟨hr, hk⟩]
  · rw [hI_sI_j (by decide), c4]
    show _ = nI (if _ then _ else _)
    rw [if_neg (by omega)]
  · rw [hI_ne (by omega), hI_ne (by omega), hI_ne (by omega)]
    exact c6 i hi
  · rw [hL_sI, c7 i hi]
    rcases Nat.lt_trichotomy i t with w | w | w
    · rw [if_pos w, if_pos (by omega)]
    · rw [if_neg (by omega), if_pos (by omega), w]
      unfold cW
      rw [if_neg (by omega), if_neg (by omega)]
    · rw [if_neg (by omega), if_neg (by omega)]
  · rw [hL_sI, c8]
    show _ = if _ then _ else _
    rw [if_neg (by omega)]
  · rw [hI_ne (by omega), c9]
    show _ = if _ then _ else _
    rw [if_neg (by omega)]
  · rw [hI_ne (by omega), c10]
    show _ = if _ then _ else _
    rw [if_neg (by omega)]
  · rw [hI_ne (by omega), c11]
    show _ = if _ then _ else if _ then _ else _
    rw [if_neg (by omega), if_neg (fun y => by have := y.1; omega)]
  · rw [hI_ne (by omega), c12]
    show _ = if _ then _ else _
    rw [if_neg (by omega)]
theorem CHK.name {h0 h : PH} {s : Nat} {tx : Nat → Nat} {L : Nat} {l0 : Nat → Int64} {f0 s0 m0 d0 : Nat → Int32} {t : Nat} (c : CHK h0 h s tx L l0 f0 s0 m0 d0 t) (hr : cR tx L t = 5) : CHK h0 (sL h (s + 6) (cnm tx L t) (lN (tkw tx L t))) s tx L l0 f0 s0 m0 d0 (t + 1) := by
  obtain ⟨c1, c2, c3, c4, c5, c6, c7, c8, c9, c10, c11, c12⟩ := c
  refine ⟨eqY_tr c1 (eqY_sL ⟨by omega, by omega⟩), c2, ?_, ?_, c5, c6, fun i hi => ?_, fun j => ?_, fun j => ?_, fun j => ?_, fun j => ?_, fun j => ?_⟩
  · rw [hI_sL, c3]
    show _ = nI (if _ then _ else _)
    rw [if_neg (by omega)]
  · rw [hI_sL, c4]
    show _ = nI (if _ then _ else _)
    rw [if_neg (by omega)]
  · rw [hL_ne (by omega), c7 i hi]
    rcases Nat.lt_trichotomy i t with w | w | w
    · rw [if_pos w, if_pos (by omega)]
    · rw [if_neg (by omega), if_pos (by omega), w]
      unfold cW
      rw [if_neg (by omega), if_neg (by omega)]
    · rw [if_neg (by omega), if_neg (by omega)]
  · show _ = if _ then _ else _
    by_cases e : j = cnm tx L t
    · rw [if_pos ⟨hr, e⟩, e, hL_sL]
    · rw [if_neg (fun y => e y.2), hL_j e, c8]
  · rw [hI_sL, c9]
    show _ = if _ then _ else _
    rw [if_neg (by omega)]
  · rw [hI_sL, c10]
    show _ = if _ then _ else _
    rw [if_neg (by omega)]
  · rw [hI_sL, c11]
    show _ = if _ then _ else if _ then _ else _
    rw [if_neg (by omega), if_neg (fun y => by have := y.1; omega)]
  · rw [hI_sL, c12]
    show _ = if _ then _ else _
    rw [if_neg (by omega)]
theorem CHK.mod {h0 h : PH} {s : Nat} {tx : Nat → Nat} {L : Nat} {l0 : Nat → Int64} {f0 s0 m0 d0 : Nat → Int32} {t : Nat} (c : CHK h0 h s tx L l0 f0 s0 m0 d0 t) (hr : cR tx L t = 3) : CHK h0 (sI h (s + 5) (clf tx L t) (cBt tx L t)) s tx L l0 f0 s0 m0 d0 (t + 1) := by
  obtain ⟨c1, c2, c3, c4, c5, c6, c7, c8, c9, c10, c11, c12⟩ := c
  refine ⟨eqY_tr c1 (eqY_sI ⟨by omega, by omega⟩), (hI_ne (by omega)).trans c2, ?_, ?_, (hI_ne (by omega)).trans c5, fun i hi => ?_, fun i hi => ?_, fun j => ?_, fun j => ?_, fun j => ?_, fun j => ?_, fun j => ?_⟩
  · rw [hI_ne (by omega), c3]
    show _ = nI (if _ then _ else _)
    rw [if_neg (by omega)]
  · rw [hI_ne (by omega), c4]
    show _ = nI (if _ then _ else _)
    rw [if_neg (by omega)]
  · rw [hI_ne (by omega), hI_ne (by omega), hI_ne (by omega)]
    exact c6 i hi
  · rw [hL_sI, c7 i hi]
    rcases Nat.lt_trichotomy i t with w | w | w
    · rw [if_pos w, if_pos (by omega)]
    · rw [if_neg (by omega), if_pos (by omega), w]
      unfold cW
      rw [if_neg (by omega), if_neg (by omega)]
    · rw [if_neg (by omega), if_neg (by omega)]
  · rw [hL_sI, c8]
    show _ = if _ then _ else _
    rw [if_neg (by omega)]
  · rw [hI_ne (by omega), c9]
    show _ = if _ then _ else _
    rw [if_neg (by omega)]
  · rw [hI_ne (by omega), c10]
    show _ = if _ then _ else _
    rw [if_neg (by omega)]
  · rw [hI_ne (by omega), c11]
    show _ = if _ then _ else if _ then _ else _
    rw [if_neg (by omega), if_neg (fun y => by have := y.1; omega)]
  · show _ = if _ then _ else _
    by_cases e : j = clf tx L t
    · rw [if_pos ⟨hr, e⟩, e, hI_sI]
    · rw [if_neg (fun y => e y.2), hI_sI_j e, c12]
theorem CHK.row {h0 h : PH} {s : Nat} {tx : Nat → Nat} {L : Nat} {l0 : Nat → Int64} {f0 s0 m0 d0 : Nat → Int32} {t : Nat} (c : CHK h0 h s tx L l0 f0 s0 m0 d0 t) (hr : cR tx L t = 7) (hk : tkk tx L t = 5) : CHK h0 (sL h (s + 4) t (cBt tx L t).toInt64) s tx L l0 f0 s0 m0 d0 (t + 1) := by
  obtain ⟨c1, c2, c3, c4, c5, c6, c7, c8, c9, c10, c11, c12⟩ := c
  refine ⟨eqY_tr c1 (eqY_sL ⟨by omega, by omega⟩), c2, ?_, ?_, c5, c6, fun i hi => ?_, fun j => ?_, fun j => ?_, fun j => ?_, fun j => ?_, fun j => ?_⟩
  · rw [hI_sL, c3]
    show _ = nI (if _ then _ else _)
    rw [if_neg (by omega)]
  · rw [hI_sL, c4]
    show _ = nI (if _ then _ else _)
    rw [if_neg (by omega)]
  · rcases Nat.lt_trichotomy i t with w | w | w
    · rw [hL_j (by omega), c7 i hi, if_pos w, if_pos (by omega)]
    · rw [w, hL_sL, if_pos (by omega)]
      unfold cW
      rw [if_pos ⟨hr, hk⟩]
    · rw [hL_j (by omega), c7 i hi, if_neg (by omega), if_neg (by omega)]
  · rw [hL_ne (by omega), c8]
    show _ = if _ then _ else _
    rw [if_neg (by omega)]
  · rw [hI_sL, c9]
    show _ = if _ then _ else _
    rw [if_neg (by omega)]
  · rw [hI_sL, c10]
    show _ = if _ then _ else _
    rw [if_neg (by omega)]
  · rw [hI_sL, c11]
    show _ = if _ then _ else if _ then _ else _
    rw [if_neg (by omega), if_neg (fun y => by have := y.2.1; omega)]
  · rw [hI_sL, c12]
    show _ = if _ then _ else _
    rw [if_neg (by omega)]
