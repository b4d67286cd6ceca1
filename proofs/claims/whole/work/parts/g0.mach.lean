/-! WORTH: one machine over tokens; what both sides make of a line -/
abbrev Lv := Nat × (Option Nat × Nat) × (Option Nat × Nat)
abbrev MS := Option Nat × List Lv × Nat × (Nat → Nat)
def jnV (tx : Nat → Nat) (L n m : Nat) (b : Option Nat × Nat) (x : Nat) : Nat := match b.1 with
  | none => x
  | some o => if tkk tx L o = 8 then fm n m b.2 x else fm n m b.2 (fpw n m x (2 ^ n - 2))
def jnE (tx : Nat → Nat) (L : Nat) (b : Option Nat × Nat) (x : Nat) : Option Nat := match b.1 with
  | none => none
  | some o => if tkk tx L o ≠ 8 ∧ x = 0 then some (tkS tx L o) else none
def eOr (a b : Option Nat) : Option Nat := match a with
  | some x => some x
  | none => b
noncomputable def avF (tx : Nat → Nat) (L : Nat) (l0 : Nat → Int64) (u nv : Nat → Nat) (t : Nat) : Nat := if tkk tx L t = 3 then rem13 2 (u (clf tx L t)) else if tkk tx L t = 5 then rem13 (cBt tx L t).toNatClampNeg (u (clf tx L t)) else pvl (clf tx L t) (u (clf tx L t)) (imF u (rNF tx L t (cIX tx L l0 t)) (clf tx L t)) (nv (cIX tx L l0 t))
def mjn (tx : Nat → Nat) (L : Nat) (u : Nat → Nat) (t : Nat) (s : MS) : MS := match s.2.1 with
  | [] => s
  | l :: r => if tkk tx L t = 7 then (eOr s.1 (jnE tx L l.2.2 s.2.2.1), (l.1, (some t, l.2.1.2 ^^^ jnV tx L (clf tx L t) (u (clf tx L t)) l.2.2 s.2.2.1), (none, 0)) :: r, s.2.2.1, s.2.2.2)
    else if tkk tx L t = 12 then (eOr s.1 (jnE tx L l.2.2 s.2.2.1), r, l.2.1.2 ^^^ jnV tx L (clf tx L t) (u (clf tx L t)) l.2.2 s.2.2.1, s.2.2.2)
    else if tkk tx L t = 6 then (eOr s.1 (jnE tx L l.2.2 s.2.2.1), [], 0, fun j => if j = cnm tx L t then l.2.1.2 ^^^ jnV tx L (clf tx L t) (u (clf tx L t)) l.2.2 s.2.2.1 else s.2.2.2 j)
    else (eOr s.1 (jnE tx L l.2.2 s.2.2.1), (l.1, l.2.1, (some t, jnV tx L (clf tx L t) (u (clf tx L t)) l.2.2 s.2.2.1)) :: r, s.2.2.1, s.2.2.2)
theorem mjn_cons {tx : Nat → Nat} {L : Nat} {u : Nat → Nat} {t : Nat} {s : MS} {l : Lv} {r : List Lv} (h : s.2.1 = l :: r) : mjn tx L u t s = if tkk tx L t = 7 then (eOr s.1 (jnE tx L l.2.2 s.2.2.1), (l.1, (some t, l.2.1.2 ^^^ jnV tx L (clf tx L t) (u (clf tx L t)) l.2.2 s.2.2.1), (none, 0)) :: r, s.2.2.1, s.2.2.2)
    else if tkk tx L t = 12 then (eOr s.1 (jnE tx L l.2.2 s.2.2.1), r, l.2.1.2 ^^^ jnV tx L (clf tx L t) (u (clf tx L t)) l.2.2 s.2.2.1, s.2.2.2)
    else if tkk tx L t = 6 then (eOr s.1 (jnE tx L l.2.2 s.2.2.1), [], 0, fun j => if j = cnm tx L t then l.2.1.2 ^^^ jnV tx L (clf tx L t) (u (clf tx L t)) l.2.2 s.2.2.1 else s.2.2.2 j)
    else (eOr s.1 (jnE tx L l.2.2 s.2.2.1), (l.1, l.2.1, (some t, jnV tx L (clf tx L t) (u (clf tx L t)) l.2.2 s.2.2.1)) :: r, s.2.2.1, s.2.2.2) := by
  unfold mjn
  rw [h]
noncomputable def mst (tx : Nat → Nat) (L : Nat) (l0 : Nat → Int64) (u : Nat → Nat) : Nat → MS
  | 0 => (none, [], 0, fun _ => 0)
  | t + 1 => if cR tx L t = 6 then ((mst tx L l0 u t).1, [(0, (none, 0), (none, 0))], 0, (mst tx L l0 u t).2.2.2)
    else if cR tx L t = 7 then (if tkk tx L t = 11 then ((mst tx L l0 u t).1, (t, (none, 0), (none, 0)) :: (mst tx L l0 u t).2.1, (mst tx L l0 u t).2.2.1, (mst tx L l0 u t).2.2.2) else ((mst tx L l0 u t).1, (mst tx L l0 u t).2.1, avF tx L l0 u (mst tx L l0 u t).2.2.2 t, (mst tx L l0 u t).2.2.2))
    else if cR tx L t = 9 then ((mst tx L l0 u t).1, (mst tx L l0 u t).2.1, fpw (clf tx L t) (u (clf tx L t)) (mst tx L l0 u t).2.2.1 (tkw tx L t), (mst tx L l0 u t).2.2.2)
    else if (cR tx L t = 8 ∨ cR tx L t = 10) ∧ tkk tx L t ≠ 10 then mjn tx L u t (mst tx L l0 u t)
    else mst tx L l0 u t
def flW (l : Lv) : List Nat := l.2.2.1.toList ++ l.2.1.1.toList
def fwW : List Lv → List Nat
  | [] => []
  | [l] => flW l
  | l :: l' :: r => flW l ++ l.1 :: fwW (l' :: r)
def oks (tx : Nat → Nat) (L : Nat) (l : Lv) : Prop := (∀ o, l.2.2.1 = some o → tkk tx L o = 8 ∨ tkk tx L o = 9) ∧ (∀ o, l.2.1.1 = some o → tkk tx L o = 7) ∧ (l.2.1.1 = none → l.2.1.2 = 0)
/-- the levels but for the least one have their parenthesis -/
def opk (tx : Nat → Nat) (L : Nat) : List Lv → Prop
  | [] => True
  | [_] => True
  | l :: l' :: r => tkk tx L l.1 = 11 ∧ opk tx L (l' :: r)
theorem rk_8 {tx : Nat → Nat} {L o : Nat} (h : tkk tx L o = 8 ∨ tkk tx L o = 9) : rkk (tkk tx L o) = 2 := by
  unfold rkk
  rw [if_neg (by omega), if_pos h]
theorem rk_7 {tx : Nat → Nat} {L o : Nat} (h : tkk tx L o = 7) : rkk (tkk tx L o) = 1 := by
  unfold rkk
  rw [if_pos h]
theorem rk_11 {tx : Nat → Nat} {L o : Nat} (h : tkk tx L o = 11) : rkk (tkk tx L o) = 0 := by
  unfold rkk
  rw [if_neg (by omega), if_neg (by omega)]
theorem stl_pos {tx : Nat → Nat} {L q w : Nat} {W : List Nat} (h : q ≤ rkk (tkk tx L w)) : stl tx L q (w :: W) = (opS tx L w :: (stl tx L q W).1, (stl tx L q W).2) := by
  show (if _ then _ else _) = _
  rw [if_pos h]
theorem stl_neg {tx : Nat → Nat} {L q w : Nat} {W : List Nat} (h : ¬ q ≤ rkk (tkk tx L w)) : stl tx L q (w :: W) = ([], w :: W) := by
  show (if _ then _ else _) = _
  rw [if_neg h]
/-- nothing more is settled -/
def stq (tx : Nat → Nat) (L : Nat) (T : List Nat) : Prop := ∀ w, T.head? = some w → rkk (tkk tx L w) = 0
theorem stl_stq {tx : Nat → Nat} {L q : Nat} (hq : 1 ≤ q) {T : List Nat} (h : stq tx L T) : stl tx L q T = ([], T) := by
  cases T with
  | nil => rfl
  | cons w W =>
    have := h w rfl
    exact stl_neg (by omega)
theorem stl_2 {tx : Nat → Nat} {L : Nat} {l : Lv} (ok : oks tx L l) {T : List Nat} (h : stq tx L T) : stl tx L 2 (flW l ++ T) = (l.2.2.1.toList.map (opS tx L), l.2.1.1.toList ++ T) := by
  obtain ⟨o, ⟨p, s⟩, ⟨g, v⟩⟩ := l
  obtain ⟨a, b, -⟩ := ok
  have t2 : stl tx L 2 (p.toList ++ T) = ([], p.toList ++ T) := by
    cases p with
    | none => exact stl_stq (by decide) h
    | some p => exact stl_neg (by rw [rk_7 (b p rfl)]; decide)
  cases g with
  | none => exact t2
  | some g =>
    show stl tx L 2 (g :: (p.toList ++ T)) = _
    rw [stl_pos (by rw [rk_8 (a g rfl)]; decide), t2]
    rfl
theorem stl_1 {tx : Nat → Nat} {L : Nat} {l : Lv} (ok : oks tx L l) {T : List Nat} (h : stq tx L T) : stl tx L 1 (flW l ++ T) = (l.2.2.1.toList.map (opS tx L) ++ l.2.1.1.toList.map (opS tx L), T) := by
  obtain ⟨o, ⟨p, s⟩, ⟨g, v⟩⟩ := l
  obtain ⟨a, b, -⟩ := ok
  have t2 : stl tx L 1 (p.toList ++ T) = (p.toList.map (opS tx L), T) := by
    cases p with
    | none => exact stl_stq (by decide) h
    | some p =>
      show stl tx L 1 (p :: T) = _
      rw [stl_pos (by rw [rk_7 (b p rfl)]; decide), stl_stq (by decide) h]
      rfl
  cases g with
  | none => exact t2
  | some g =>
    show stl tx L 1 (g :: (p.toList ++ T)) = _
    rw [stl_pos (by rw [rk_8 (a g rfl)]; decide), t2]
    rfl
def fwT (l : Lv) : List Lv → List Nat
  | [] => []
  | l' :: r => l.1 :: fwW (l' :: r)
theorem fwW_cons (l : Lv) (r : List Lv) : fwW (l :: r) = flW l ++ fwT l r := by
  cases r with
  | nil => exact (List.append_nil _).symm
  | cons l' r => rfl
theorem fwT_stq {tx : Nat → Nat} {L : Nat} {l : Lv} {r : List Lv} (h : opk tx L (l :: r)) : stq tx L (fwT l r) := by
  cases r with
  | nil => exact fun w hw => absurd (show none = some w from hw) (by simp)
  | cons l' r =>
    intro w hw
    have e : l.1 = w := Option.some.inj hw
    rw [← e]
    exact rk_11 h.1
theorem opk_tl {tx : Nat → Nat} {L : Nat} {l : Lv} {r : List Lv} (h : opk tx L (l :: r)) : opk tx L r := by
  cases r with
  | nil => trivial
  | cons l' r => exact h.2
theorem opk_hd {tx : Nat → Nat} {L : Nat} {l l2 : Lv} {r : List Lv} (e : l.1 = l2.1) (h : opk tx L (l :: r)) : opk tx L (l2 :: r) := by
  cases r with
  | nil => trivial
  | cons l' r => exact ⟨by rw [← e]; exact h.1, h.2⟩
theorem opk_new {tx : Nat → Nat} {L : Nat} {l : Lv} {r : List Lv} (e : tkk tx L l.1 = 11) (h : opk tx L r) : opk tx L (l :: r) := by
  cases r with
  | nil => trivial
  | cons l' r => exact ⟨e, h⟩
theorem fwT_eq {l l2 : Lv} (e : l.1 = l2.1) (r : List Lv) : fwT l r = fwT l2 r := by
  cases r with
  | nil => rfl
  | cons l' r =>
    show l.1 :: _ = l2.1 :: _
    rw [e]
/-- in a line: what waits is what the levels say -/
def MIv (tx : Nat → Nat) (L : Nat) (l0 : Nat → Int64) (u : Nat → Nat) (t : Nat) : Prop := 7 ≤ cR tx L t → (mst tx L l0 u t).2.1 ≠ [] ∧ (mst tx L l0 u t).2.1.length = (pst (tkk tx L) t).2.1 + 1 ∧ fwW (mst tx L l0 u t).2.1 = (eW tx L l0 t).2 ∧ opk tx L (mst tx L l0 u t).2.1 ∧ ∀ l, l ∈ (mst tx L l0 u t).2.1 → oks tx L l
theorem op_line {tx : Nat → Nat} {L : Nat} : ∀ t, t ≤ pT (tkk tx L) → cR tx L t ≤ 6 → (pst (tkk tx L) t).2.1 = 0 := by
  intro t
  induction t with
  | zero => exact fun _ _ => rfl
  | succ t ih =>
    intro ht hr
    have tab := rtab (tx := tx) (L := L) (t := t) (by omega)
    have e : (pst (tkk tx L) (t + 1)).2.1 = if tkk tx L t = 11 then (pst (tkk tx L) t).2.1 + 1 else if tkk tx L t = 12 then (pst (tkk tx L) t).2.1 - 1 else (pst (tkk tx L) t).2.1 := rfl
    rw [e, if_neg (by omega), if_neg (by omega)]
    by_cases z : cR tx L t ≤ 6
    · exact ih (by omega) z
    · omega
theorem MIv_ok {tx : Nat → Nat} {L : Nat} (l0 : Nat → Int64) (u : Nat → Nat) : ∀ t, t ≤ pT (tkk tx L) → MIv tx L l0 u t := by
  intro t
  induction t with
  | zero => exact fun _ h => absurd h (by show ¬ 7 ≤ 1; omega)
  | succ t ih =>
    intro ht h7
    have ih := ih (by omega)
    have tab := rtab (tx := tx) (L := L) (t := t) (by omega)
    have o' : (pst (tkk tx L) (t + 1)).2.1 = if tkk tx L t = 11 then (pst (tkk tx L) t).2.1 + 1 else if tkk tx L t = 12 then (pst (tkk tx L) t).2.1 - 1 else (pst (tkk tx L) t).2.1 := rfl
    rw [o']
    unfold mst eW
    by_cases c6 : cR tx L t = 6
    · rw [if_pos c6, if_pos c6, if_neg (by omega), if_neg (by omega), op_line t (by omega) (by omega)]
      refine ⟨List.cons_ne_nil _ _, rfl, rfl, trivial, fun l hl => ?_⟩
      have e : l = (0, (none, 0), (none, 0)) := by simpa using hl
      rw [e]
      exact ⟨fun o h => absurd h (by simp), fun o h => absurd h (by simp), fun _ => rfl⟩
    rw [if_neg c6, if_neg c6]
    obtain ⟨i1, i2, i3, i4, i5⟩ := ih (by omega)
    by_cases c7 : cR tx L t = 7
    · rw [if_pos c7, if_pos c7]
      by_cases k11 : tkk tx L t = 11
      · rw [if_pos k11, if_pos k11, if_pos k11]
        refine ⟨List.cons_ne_nil _ _, ?_, ?_, opk_new k11 i4, fun l hl => ?_⟩
        · show (mst tx L l0 u t).2.1.length + 1 = _
          rw [i2]
        · show fwW ((t, (none, 0), (none, 0)) :: (mst tx L l0 u t).2.1) = t :: (eW tx L l0 t).2
          rw [← i3]
          cases h : (mst tx L l0 u t).2.1 with
          | nil => exact absurd h i1
          | cons l r => rfl
        · rcases List.mem_cons.mp hl with e | e
          · rw [e]
            exact ⟨fun o h => absurd h (by simp), fun o h => absurd h (by simp), fun _ => rfl⟩
          · exact i5 l e
      · rw [if_neg k11, if_neg k11, if_neg k11, if_neg (by omega)]
        refine ⟨i1, i2, ?_, i4, i5⟩
        split
        · exact i3
        · split
          · exact i3
          · exact i3
    rw [if_neg c7, if_neg c7]
    by_cases c9 : cR tx L t = 9
    · rw [if_pos c9, if_pos c9, if_neg (by omega), if_neg (by omega)]
      exact ⟨i1, i2, i3, i4, i5⟩
    rw [if_neg c9, if_neg c9]
    have c8 : cR tx L t = 8 ∨ cR tx L t = 10 := by omega
    rw [if_pos c8]
    by_cases k10 : tkk tx L t = 10
    · rw [if_neg (fun y => y.2 k10), if_pos k10, if_neg (by omega), if_neg (by omega)]
      exact ⟨i1, i2, i3, i4, i5⟩
    rw [if_pos ⟨c8, k10⟩, if_neg k10]
    rw [← i3]
    cases h : (mst tx L l0 u t).2.1 with
    | nil => exact absurd h i1
    | cons l r =>
      rw [h] at i2 i4 i5
      rw [mjn_cons h]
      have ol := i5 l List.mem_cons_self
      have i2 : r.length + 1 = (pst (tkk tx L) t).2.1 + 1 := i2
      have st := fwT_stq i4
      rw [fwW_cons, stl_1 ol st]
      by_cases k12 : tkk tx L t = 12
      · have on : (pst (tkk tx L) t).2.1 ≠ 0 := by omega
        rw [if_neg (by omega), if_pos k12, if_pos k12, if_neg (by omega), if_pos k12]
        show r ≠ [] ∧ r.length = (pst (tkk tx L) t).2.1 - 1 + 1 ∧ fwW r = (fwT l r).tail ∧ opk tx L r ∧ ∀ l, l ∈ r → oks tx L l
        cases r with
        | nil => exact absurd i2 (by show ¬ 0 + 1 = _; omega)
        | cons l' r => exact ⟨List.cons_ne_nil _ _, by omega, rfl, opk_tl i4, fun v hv => i5 v (List.mem_cons_of_mem _ hv)⟩
      have k11 : ¬ tkk tx L t = 11 := by omega
      have k6 : ¬ tkk tx L t = 6 := by omega
      simp only [if_neg k12, if_neg k11, if_neg k6]
      by_cases k7 : tkk tx L t = 7
      · simp only [if_pos k7]
        rw [rk_7 k7]
        show _ :: r ≠ [] ∧ r.length + 1 = _ ∧ fwW _ = t :: (stl tx L 1 (flW l ++ fwT l r)).2 ∧ _ ∧ _
        rw [stl_1 ol st]
        refine ⟨List.cons_ne_nil _ _, i2, ?_, opk_hd (l := l) rfl i4, fun v hv => ?_⟩
        · rw [fwW_cons]
          show [] ++ [t] ++ fwT _ r = t :: fwT l r
          rw [fwT_eq (l2 := l) rfl]
          rfl
        · rcases List.mem_cons.mp hv with e | e
          · rw [e]
            exact ⟨fun o h => absurd h (by simp), fun o h => by
              have : t = o := by simpa using h
              rw [← this]
              exact k7, fun h => absurd h (by simp)⟩
          · exact i5 v (List.mem_cons_of_mem _ e)
      · have k89 : tkk tx L t = 8 ∨ tkk tx L t = 9 := by omega
        simp only [if_neg k7]
        rw [rk_8 k89, stl_2 ol st]
        refine ⟨List.cons_ne_nil _ _, i2, ?_, opk_hd (l := l) rfl i4, fun v hv => ?_⟩
        · show fwW _ = t :: (l.2.1.1.toList ++ fwT l r)
          rw [fwW_cons]
          show [t] ++ l.2.1.1.toList ++ fwT _ r = _
          rw [fwT_eq (l2 := l) rfl]
          rfl
        · rcases List.mem_cons.mp hv with e | e
          · rw [e]
            exact ⟨fun o h => by
              have : t = o := by simpa using h
              rw [← this]
              exact k89, ol.2.1, ol.2.2⟩
          · exact i5 v (List.mem_cons_of_mem _ e)
theorem stl_ne {tx : Nat → Nat} {L : Nat} (l0 : Nat → Int64) {t : Nat} (ht : t < pT (tkk tx L)) (hr : 7 ≤ cR tx L t) (hk : tkk tx L t = 12) : (stl tx L 1 (eW tx L l0 t).2).2 ≠ [] := by
  obtain ⟨i1, i2, i3, i4, i5⟩ := MIv_ok l0 (fun _ => 0) t (by omega) hr
  have tab := rtab ht
  have on : (pst (tkk tx L) t).2.1 ≠ 0 := by omega
  rw [← i3]
  revert i1 i2 i4 i5
  cases h : (mst tx L l0 (fun _ => 0) t).2.1 with
  | nil => exact fun i1 => absurd rfl i1
  | cons l r =>
    intro _ i2 i4 i5
    rw [fwW_cons, stl_1 (i5 l List.mem_cons_self) (fwT_stq i4)]
    cases r with
    | nil => exact absurd i2 (by show ¬ 0 + 1 = _; omega)
    | cons l' r => exact List.cons_ne_nil _ _
