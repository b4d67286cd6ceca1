/-! WORTH: the reference's steps, run on a stack -/
noncomputable def rn1 (u nf nv : Nat → Nat) (n : Nat) (s : Qst) (st : List Nat) : Option (Sum Nat (List Nat)) :=
  if s.1 = 0 then some (Sum.inr (rem13 2 (u n) :: st))
  else if s.1 = 1 then some (Sum.inr (rem13 s.2.1.toNatClampNeg (u n) :: st))
  else if s.1 = 2 then some (Sum.inr (pvl n (u n) (imF u (nf s.2.1.toNatClampNeg) n) (nv s.2.1.toNatClampNeg) :: st))
  else if s.1 = 6 then (match st with
    | [] => none
    | x :: r => some (Sum.inr (fpw n (u n) x s.2.1.toNatClampNeg :: r)))
  else (match st with
    | b :: a :: r => if s.1 = 5 ∧ b = 0 then some (Sum.inl s.2.2) else some (Sum.inr ((if s.1 = 3 then a ^^^ b else if s.1 = 4 then fm n (u n) a b else fm n (u n) a (fpw n (u n) b (2 ^ n - 2))) :: r))
    | _ => none)
noncomputable def rn (u nf nv : Nat → Nat) (n : Nat) : List Qst → List Nat → Option (Sum Nat (List Nat))
  | [], st => some (Sum.inr st)
  | s :: E, st => match rn1 u nf nv n s st with
    | none => none
    | some (Sum.inl p) => some (Sum.inl p)
    | some (Sum.inr st') => rn u nf nv n E st'
theorem rn_app {u nf nv : Nat → Nat} {n : Nat} {B : List Qst} : ∀ A st, rn u nf nv n (A ++ B) st = match rn u nf nv n A st with
    | none => none
    | some (Sum.inl p) => some (Sum.inl p)
    | some (Sum.inr st') => rn u nf nv n B st' := by
  intro A
  induction A with
  | nil => exact fun st => rfl
  | cons s A ih =>
    intro st
    show (match rn1 u nf nv n s st with
      | none => none
      | some (Sum.inl p) => some (Sum.inl p)
      | some (Sum.inr st') => rn u nf nv n (A ++ B) st') = match (match rn1 u nf nv n s st with
      | none => none
      | some (Sum.inl p) => some (Sum.inl p)
      | some (Sum.inr st') => rn u nf nv n A st') with
      | none => none
      | some (Sum.inl p) => some (Sum.inl p)
      | some (Sum.inr st') => rn u nf nv n B st'
    cases rn1 u nf nv n s st with
    | none => rfl
    | some z => cases z with
      | inl p => rfl
      | inr st' => exact ih st'
theorem rn_inl {u nf nv : Nat → Nat} {n : Nat} {A B : List Qst} {st : List Nat} {p : Nat} (h : rn u nf nv n A st = some (Sum.inl p)) : rn u nf nv n (A ++ B) st = some (Sum.inl p) := by
  rw [rn_app, h]
theorem rn_inr {u nf nv : Nat → Nat} {n : Nat} {A B : List Qst} {st st' : List Nat} (h : rn u nf nv n A st = some (Sum.inr st')) : rn u nf nv n (A ++ B) st = rn u nf nv n B st' := by
  rw [rn_app, h]
def fS (l : Lv) : List Nat := l.2.2.1.toList.map (fun _ => l.2.2.2) ++ l.2.1.1.toList.map (fun _ => l.2.1.2)
def fSS : List Lv → List Nat
  | [] => []
  | l :: r => fS l ++ fSS r
theorem rn_op {tx : Nat → Nat} {L : Nat} {u nf nv : Nat → Nat} {n : Nat} {l : Lv} (ok : oks tx L l) (x : Nat) (R : List Nat) : rn u nf nv n (l.2.2.1.toList.map (opS tx L)) (x :: (fS l ++ R)) = match jnE tx L l.2.2 x with
    | some p => some (Sum.inl p)
    | none => some (Sum.inr (jnV tx L n (u n) l.2.2 x :: (l.2.1.1.toList.map (fun _ => l.2.1.2) ++ R))) := by
  obtain ⟨o, ⟨p, s⟩, ⟨g, v⟩⟩ := l
  obtain ⟨a, b, -⟩ := ok
  cases g with
  | none => rfl
  | some g =>
    have k := a g rfl
    have k7 : ¬ tkk tx L g = 7 := by omega
    show rn u nf nv n [opS tx L g] (x :: v :: (p.toList.map (fun _ => s) ++ R)) = _
    rcases k with k | k
    · have e1 : opS tx L g = (4, 0, tkS tx L g) := by
        unfold opS
        rw [if_neg k7, if_pos k]
      have e2 : jnE tx L (some g, v) x = none := by
        show (if tkk tx L g ≠ 8 ∧ x = 0 then some (tkS tx L g) else none) = none
        rw [if_neg (fun y => y.1 k)]
      have e3 : jnV tx L n (u n) (some g, v) x = fm n (u n) v x := by
        show (if tkk tx L g = 8 then _ else _) = _
        rw [if_pos k]
      show _ = match jnE tx L (some g, v) x with
        | some p => some (Sum.inl p)
        | none => some (Sum.inr (jnV tx L n (u n) (some g, v) x :: (p.toList.map (fun _ => s) ++ R)))
      rw [e1, e2, e3]
      show rn u nf nv n [(4, 0, tkS tx L g)] _ = some (Sum.inr _)
      rfl
    · have k8 : ¬ tkk tx L g = 8 := by omega
      have e1 : opS tx L g = (5, 0, tkS tx L g) := by
        unfold opS
        rw [if_neg k7, if_neg k8]
      have e2 : jnE tx L (some g, v) x = if x = 0 then some (tkS tx L g) else none := by
        show (if tkk tx L g ≠ 8 ∧ x = 0 then some (tkS tx L g) else none) = _
        by_cases z : x = 0
        · rw [if_pos ⟨k8, z⟩, if_pos z]
        · rw [if_neg (fun y => z y.2), if_neg z]
      have e3 : jnV tx L n (u n) (some g, v) x = fm n (u n) v (fpw n (u n) x (2 ^ n - 2)) := by
        show (if tkk tx L g = 8 then _ else _) = _
        rw [if_neg k8]
      show _ = match jnE tx L (some g, v) x with
        | some p => some (Sum.inl p)
        | none => some (Sum.inr (jnV tx L n (u n) (some g, v) x :: (p.toList.map (fun _ => s) ++ R)))
      rw [e1, e2, e3]
      show (match (if (5 : Nat) = 5 ∧ x = 0 then some (Sum.inl (tkS tx L g)) else some (Sum.inr (fm n (u n) v (fpw n (u n) x (2 ^ n - 2)) :: (p.toList.map (fun _ => s) ++ R)))) with
        | none => none
        | some (Sum.inl p) => some (Sum.inl p)
        | some (Sum.inr st') => rn u nf nv n [] st') = _
      by_cases z : x = 0
      · rw [if_pos ⟨rfl, z⟩, if_pos z]
      · rw [if_neg (fun y => z y.2), if_neg z]
        rfl
theorem rn_plus {tx : Nat → Nat} {L : Nat} {u nf nv : Nat → Nat} {n : Nat} {l : Lv} (ok : oks tx L l) (y : Nat) (R : List Nat) : rn u nf nv n (l.2.1.1.toList.map (opS tx L)) (y :: (l.2.1.1.toList.map (fun _ => l.2.1.2) ++ R)) = some (Sum.inr ((l.2.1.2 ^^^ y) :: R)) := by
  obtain ⟨o, ⟨p, s⟩, ⟨g, v⟩⟩ := l
  obtain ⟨-, b, c⟩ := ok
  cases p with
  | none =>
    have e : s = 0 := c rfl
    show some (Sum.inr (y :: R)) = some (Sum.inr ((s ^^^ y) :: R))
    rw [e, Nat.zero_xor]
  | some p =>
    have e1 : opS tx L p = (3, 0, tkS tx L p) := by
      unfold opS
      rw [if_pos (b p rfl)]
    show rn u nf nv n [opS tx L p] (y :: s :: R) = _
    rw [e1]
    rfl
theorem rn_all {tx : Nat → Nat} {L : Nat} {u nf nv : Nat → Nat} {n : Nat} {l : Lv} (ok : oks tx L l) (x : Nat) (R : List Nat) : rn u nf nv n (l.2.2.1.toList.map (opS tx L) ++ l.2.1.1.toList.map (opS tx L)) (x :: (fS l ++ R)) = match jnE tx L l.2.2 x with
    | some p => some (Sum.inl p)
    | none => some (Sum.inr ((l.2.1.2 ^^^ jnV tx L n (u n) l.2.2 x) :: R)) := by
  rw [rn_app, rn_op ok]
  cases jnE tx L l.2.2 x with
  | some p => rfl
  | none => exact rn_plus ok _ _
/-- steps that can be run -/
def okQ (u nf nv : Nat → Nat) (n j : Nat) (s : Qst) : Prop := s.1 ≤ 6 ∧ s.2.2 ≤ 2000 ∧ (s.1 = 1 → ∃ w, w < 8192 ∧ s.2.1 = nI w) ∧ (s.1 = 2 → ∃ w, w < 8 ∧ s.2.1 = nI w ∧ 1 ≤ nf w ∧ nf w ∣ n ∧ nv w < 2 ^ nf w ∧ w < j) ∧ (s.1 = 6 → ∃ w, w < 10000 ∧ s.2.1 = nI w)
def Sk (r x : Nat) (lv : List Lv) : List Nat := (if r = 7 then [] else [x]) ++ fSS lv
/-- one token of a line -/
def RSt (tx : Nat → Nat) (L : Nat) (l0 : Nat → Int64) (u nf : Nat → Nat) (t : Nat) (o : List Qst) : Prop := (eW tx L l0 (t + 1)).1 = (eW tx L l0 t).1 ++ o ∧ (∀ s, s ∈ o → okQ u nf (mst tx L l0 u t).2.2.2 (clf tx L t) (cnm tx L t) s) ∧ ((mst tx L l0 u t).1 = none → (∀ p, (mst tx L l0 u (t + 1)).1 = some p → rn u nf (mst tx L l0 u t).2.2.2 (clf tx L t) o (Sk (cR tx L t) (mst tx L l0 u t).2.2.1 (mst tx L l0 u t).2.1) = some (Sum.inl p)) ∧ ((mst tx L l0 u (t + 1)).1 = none → rn u nf (mst tx L l0 u t).2.2.2 (clf tx L t) o (Sk (cR tx L t) (mst tx L l0 u t).2.2.1 (mst tx L l0 u t).2.1) = some (Sum.inr (if tkk tx L t = 6 then [(mst tx L l0 u (t + 1)).2.2.2 (cnm tx L t)] else Sk (cR tx L (t + 1)) (mst tx L l0 u (t + 1)).2.2.1 (mst tx L l0 u (t + 1)).2.1)))) ∧ (∀ p, (mst tx L l0 u t).1 = some p → (mst tx L l0 u (t + 1)).1 = some p) ∧ (tkk tx L t ≠ 6 → (mst tx L l0 u (t + 1)).2.2.2 = (mst tx L l0 u t).2.2.2)
