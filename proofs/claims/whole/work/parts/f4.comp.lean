/-! MEANS: what the reference makes of tokens -/
abbrev Qst := Nat × Int32 × Nat
def rkk (k : Nat) : Nat := if k = 7 then 1 else if k = 8 ∨ k = 9 then 2 else 0
def opS (tx : Nat → Nat) (L w : Nat) : Qst := (if tkk tx L w = 7 then 3 else if tkk tx L w = 8 then 4 else 5, 0, tkS tx L w)
def stl (tx : Nat → Nat) (L q : Nat) : List Nat → List Qst × List Nat
  | [] => ([], [])
  | w :: W => if q ≤ rkk (tkk tx L w) then (opS tx L w :: (stl tx L q W).1, (stl tx L q W).2) else ([], w :: W)
def cIV (tx : Nat → Nat) (L : Nat) (l0 : Nat → Int64) (t : Nat) : Int32 := if cIX tx L l0 t < cnm tx L t then nI (cIX tx L l0 t) else -1
def eW (tx : Nat → Nat) (L : Nat) (l0 : Nat → Int64) : Nat → List Qst × List Nat
  | 0 => ([], [])
  | t + 1 => if cR tx L t = 6 then ((eW tx L l0 t).1, [])
    else if cR tx L t = 7 then (if tkk tx L t = 11 then ((eW tx L l0 t).1, t :: (eW tx L l0 t).2) else if tkk tx L t = 3 then ((eW tx L l0 t).1 ++ [(0, 0, 0)], (eW tx L l0 t).2) else if tkk tx L t = 5 then ((eW tx L l0 t).1 ++ [(1, cBt tx L t, 0)], (eW tx L l0 t).2) else ((eW tx L l0 t).1 ++ [(2, cIV tx L l0 t, 0)], (eW tx L l0 t).2))
    else if cR tx L t = 9 then ((eW tx L l0 t).1 ++ [(6, nI (tkv tx L t), 0)], (eW tx L l0 t).2)
    else if cR tx L t = 8 ∨ cR tx L t = 10 then (if tkk tx L t = 10 then eW tx L l0 t else if tkk tx L t = 12 then ((eW tx L l0 t).1 ++ (stl tx L 1 (eW tx L l0 t).2).1, (stl tx L 1 (eW tx L l0 t).2).2.tail) else if tkk tx L t = 6 then ((eW tx L l0 t).1 ++ (stl tx L 1 (eW tx L l0 t).2).1, (stl tx L 1 (eW tx L l0 t).2).2) else ((eW tx L l0 t).1 ++ (stl tx L (rkk (tkk tx L t)) (eW tx L l0 t).2).1, t :: (stl tx L (rkk (tkk tx L t)) (eW tx L l0 t).2).2))
    else eW tx L l0 t
theorem stl_len (tx : Nat → Nat) (L q : Nat) : ∀ W, (stl tx L q W).1.length + (stl tx L q W).2.length = W.length := by
  intro W
  induction W with
  | nil => rfl
  | cons w W ih =>
    have e : stl tx L q (w :: W) = if q ≤ rkk (tkk tx L w) then (opS tx L w :: (stl tx L q W).1, (stl tx L q W).2) else ([], w :: W) := rfl
    rw [e]
    split
    · show (stl tx L q W).1.length + 1 + (stl tx L q W).2.length = W.length + 1
      omega
    · show 0 + (W.length + 1) = W.length + 1
      omega
theorem stl_mem (tx : Nat → Nat) (L q : Nat) : ∀ W w, w ∈ (stl tx L q W).2 → w ∈ W := by
  intro W
  induction W with
  | nil => exact fun w h => h
  | cons v W ih =>
    intro w h
    unfold stl at h
    split at h
    · exact List.mem_cons_of_mem _ (ih w h)
    · exact h
theorem eW_len (tx : Nat → Nat) (L : Nat) (l0 : Nat → Int64) : ∀ t, (eW tx L l0 t).1.length + (eW tx L l0 t).2.length ≤ t := by
  intro t
  induction t with
  | zero => exact Nat.le_refl 0
  | succ t ih =>
    have a := stl_len tx L 1 (eW tx L l0 t).2
    have b := stl_len tx L (rkk (tkk tx L t)) (eW tx L l0 t).2
    unfold eW
    repeat' split
    all_goals
      try simp only [List.length_append, List.length_cons, List.length_nil, List.length_tail]
      omega
theorem eW_mem (tx : Nat → Nat) (L : Nat) (l0 : Nat → Int64) : ∀ t w, w ∈ (eW tx L l0 t).2 → w < t := by
  intro t
  induction t with
  | zero => exact fun w h => absurd h (List.not_mem_nil)
  | succ t ih =>
    intro w h
    unfold eW at h
    repeat' split at h
    · exact absurd h (List.not_mem_nil)
    · rcases List.mem_cons.mp h with e | e
      · omega
      · exact Nat.lt_succ_of_lt (ih w e)
    · exact Nat.lt_succ_of_lt (ih w h)
    · exact Nat.lt_succ_of_lt (ih w h)
    · exact Nat.lt_succ_of_lt (ih w h)
    · exact Nat.lt_succ_of_lt (ih w h)
    · exact Nat.lt_succ_of_lt (ih w h)
    · exact Nat.lt_succ_of_lt (ih w (stl_mem _ _ _ _ _ (List.mem_of_mem_tail h)))
    · exact Nat.lt_succ_of_lt (ih w (stl_mem _ _ _ _ _ h))
    · rcases List.mem_cons.mp h with e | e
      · omega
      · exact Nat.lt_succ_of_lt (ih w (stl_mem _ _ _ _ _ e))
    · exact Nat.lt_succ_of_lt (ih w h)
def rNF (tx : Nat → Nat) (L : Nat) : Nat → Nat → Nat
  | 0 => fun _ => 0
  | t + 1 => fun j => if cR tx L t = 6 ∧ j = cnm tx L t then tkv tx L t else rNF tx L t j
def rlf (tx : Nat → Nat) (L : Nat) : Nat → Nat
  | 0 => 0
  | t + 1 => if cR tx L t = 2 ∨ cR tx L t = 6 then tkv tx L t else rlf tx L t
def rFL (tx : Nat → Nat) (L : Nat) (l0 : Nat → Int64) (t : Nat) : Nat :=
  if cR tx L t = 2 ∨ cR tx L t = 6 then (if 1 ≤ tkv tx L t ∧ tkv tx L t ≤ 12 then 0 else 5)
  else if cR tx L t = 3 then (if 1 ≤ rlf tx L t ∧ rlf tx L t ≤ 12 then (if isMB (rlf tx L t) (cBt tx L t) then 0 else 5) else 0)
  else if cR tx L t = 5 then (if cIX tx L l0 t < cnm tx L t then 3 else 0)
  else if cR tx L t = 7 then (if tkk tx L t = 5 then (if cBt tx L t = -1 then 5 else 0) else if tkk tx L t = 4 then (if cIX tx L l0 t < cnm tx L t then (if (1 ≤ rlf tx L t ∧ rlf tx L t ≤ 12) ∧ (1 ≤ rNF tx L t (cIX tx L l0 t) ∧ rNF tx L t (cIX tx L l0 t) ≤ 12) ∧ rlf tx L t % rNF tx L t (cIX tx L l0 t) ≠ 0 then 6 else 0) else 4) else 0)
  else if cR tx L t = 9 then (if 9999 < tkv tx L t then 5 else 0) else 0
def RC (tx : Nat → Nat) (L : Nat) (f0 : Nat → Int32) (t : Nat) : Prop := (cR tx L t = 3 ∨ 7 ≤ cR tx L t → rlf tx L t = clf tx L t ∧ 1 ≤ clf tx L t ∧ clf tx L t ≤ 12) ∧ (∀ j, j < cnm tx L t → cNF tx L f0 t j = nI (rNF tx L t j) ∧ 1 ≤ rNF tx L t j ∧ rNF tx L t j ≤ 12) ∧ (7 ≤ cR tx L t → cNF tx L f0 t (cnm tx L t) = nI (clf tx L t) ∧ rNF tx L t (cnm tx L t) = clf tx L t)
theorem RC_ok {tx : Nat → Nat} {L : Nat} (l0 : Nat → Int64) (f0 : Nat → Int32) : ∀ t, t ≤ pT (tkk tx L) → (∀ i, i < t → cFL tx L l0 f0 i = 0) → RC tx L f0 t := by
  intro t
  induction t with
  | zero => exact fun _ _ => ⟨fun h => absurd h (by show ¬ ((1 : Nat) = 3 ∨ 7 ≤ 1); omega), fun j hj => absurd hj (Nat.not_lt_zero j), fun h => absurd h (by show ¬ 7 ≤ 1; omega)⟩
  | succ t ih =>
    intro ht hf
    obtain ⟨a, b, c⟩ := ih (by omega) (fun i hi => hf i (by omega))
    have fl := hf t (by omega)
    have tab := rtab (tx := tx) (L := L) (t := t) (by omega)
    have n' : cnm tx L (t + 1) = if (cR tx L t = 8 ∨ cR tx L t = 10) ∧ tkk tx L t = 6 then cnm tx L t + 1 else cnm tx L t := rfl
    have f' : clf tx L (t + 1) = if cR tx L t = 2 ∨ cR tx L t = 6 then tkw tx L t else clf tx L t := rfl
    have f2 : rlf tx L (t + 1) = if cR tx L t = 2 ∨ cR tx L t = 6 then tkv tx L t else rlf tx L t := rfl
    have g' : ∀ j, cNF tx L f0 (t + 1) j = if cR tx L t = 6 ∧ j = cnm tx L t then nI (tkw tx L t) else cNF tx L f0 t j := fun _ => rfl
    have g2 : ∀ j, rNF tx L (t + 1) j = if cR tx L t = 6 ∧ j = cnm tx L t then tkv tx L t else rNF tx L t j := fun _ => rfl
    have w12 : cR tx L t = 2 ∨ cR tx L t = 6 → 1 ≤ tkw tx L t ∧ tkw tx L t ≤ 12 ∧ tkv tx L t = tkw tx L t := by
      intro h
      unfold cFL at fl
      rw [if_pos h] at fl
      split at fl
      · rename_i z
        have k5 : tkk tx L t = 5 := by omega
        have := tkv_w k5
        omega
      · omega
    clear fl
    refine ⟨fun h => ?_, fun j hj => ?_, fun h => ?_⟩
    · rw [f', f2]
      by_cases z : cR tx L t = 2 ∨ cR tx L t = 6
      · rw [if_pos z, if_pos z]
        obtain ⟨y1, y2, y3⟩ := w12 z
        exact ⟨y3, y1, y2⟩
      · rw [if_neg z, if_neg z]
        exact a (by omega)
    · rw [g', g2]
      rw [n'] at hj
      by_cases z : cR tx L t = 6 ∧ j = cnm tx L t
      · have : ¬ ((cR tx L t = 8 ∨ cR tx L t = 10) ∧ tkk tx L t = 6) := by omega
        rw [if_neg this] at hj
        omega
      · rw [if_neg z, if_neg z]
        by_cases y : (cR tx L t = 8 ∨ cR tx L t = 10) ∧ tkk tx L t = 6
        · rw [if_pos y] at hj
          rcases Nat.lt_or_ge j (cnm tx L t) with q | q
          · exact b j q
          · have ej : j = cnm tx L t := by omega
            have c := c (by omega)
            have a := a (by omega)
            rw [ej, c.1, c.2]
            exact ⟨rfl, a.2⟩
        · rw [if_neg y] at hj
          exact b j hj
    · rw [g', n', f', g2]
      by_cases z : cR tx L t = 6
      · have n1 : ¬ ((cR tx L t = 8 ∨ cR tx L t = 10) ∧ tkk tx L t = 6) := by omega
        rw [if_neg n1, if_pos ⟨z, rfl⟩, if_pos (Or.inr z), if_pos ⟨z, rfl⟩]
        exact ⟨rfl, (w12 (Or.inr z)).2.2⟩
      · have n1 : ¬ ((cR tx L t = 8 ∨ cR tx L t = 10) ∧ tkk tx L t = 6) := by omega
        rw [if_neg n1, if_neg (fun y => z y.1), if_neg (by omega), if_neg (fun y => z y.1)]
        exact c (by omega)
theorem rFL_eq {tx : Nat → Nat} {L : Nat} (l0 : Nat → Int64) (f0 : Nat → Int32) {t : Nat} (ht : t < pT (tkk tx L)) (hf : ∀ i, i < t → cFL tx L l0 f0 i = 0) (hn : cnm tx L t ≤ 8) : rFL tx L l0 t = cFL tx L l0 f0 t := by
  obtain ⟨a, b, c⟩ := RC_ok l0 f0 t (by omega) hf
  have tab := rtab (tx := tx) (L := L) (t := t) ht
  unfold rFL cFL
  by_cases z1 : cR tx L t = 2 ∨ cR tx L t = 6
  · rw [if_pos z1, if_pos z1]
    have k5 : tkk tx L t = 5 := by omega
    have := tkv_w k5
    split
    · rw [if_pos (by omega)]
    · rw [if_neg (by omega)]
  rw [if_neg z1, if_neg z1]
  by_cases z2 : cR tx L t = 3
  · rw [if_pos z2, if_pos z2]
    obtain ⟨y1, y2⟩ := a (Or.inl z2)
    rw [y1, if_pos y2]
  rw [if_neg z2, if_neg z2]
  by_cases z3 : cR tx L t = 5
  · rw [if_pos z3, if_pos z3]
  rw [if_neg z3, if_neg z3]
  by_cases z4 : cR tx L t = 7
  · rw [if_pos z4, if_pos z4]
    by_cases z5 : tkk tx L t = 5
    · rw [if_pos z5, if_pos z5]
    rw [if_neg z5, if_neg z5]
    by_cases z6 : tkk tx L t = 4
    · rw [if_pos z6, if_pos z6]
      by_cases z7 : cIX tx L l0 t < cnm tx L t
      · rw [if_pos z7, if_pos z7]
        obtain ⟨y1, y2⟩ := a (by omega)
        obtain ⟨x1, x2⟩ := b _ z7
        rw [x1, nI_clamp (by omega), y1]
        by_cases z8 : clf tx L t % rNF tx L t (cIX tx L l0 t) = 0
        · rw [if_pos z8, if_neg (fun y => y.2.2 z8)]
        · rw [if_neg z8, if_pos ⟨y2, x2, z8⟩]
      · rw [if_neg z7, if_neg z7]
    · rw [if_neg z6, if_neg z6]
  rw [if_neg z4, if_neg z4]
  by_cases z5 : cR tx L t = 9
  · rw [if_pos z5, if_pos z5]
    have k5 : tkk tx L t = 5 := by omega
    have := tkv_w k5
    split
    · rw [if_pos (by omega)]
    · rw [if_neg (by omega)]
  · rw [if_neg z5, if_neg z5]
