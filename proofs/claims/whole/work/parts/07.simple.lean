/-! SOUNDNESS, the simple instructions -/
/-- the machine at pc, with these locals, this stack and heap, comes to Q -/
def GLp (G : GW) (mi : MI) (mc ms : Nat) (p : Program) (l : Launch) (e : Env) (s : State) (m : MethodId) (args : Array Value) (below : List Frame) (meth : Method) (c : Code) (Q : State → Prop) (pc : Nat) (pl : PL) (st : List Value) (h : PH) (ca sl : Nat) : Prop :=
  ∀ (H : Heap) (locs : List Loc) (ls : Array Slot), HRl G h H → va_S (AA G) s.heap H locs → LRl G pl ls mi.2.2.1 → W p l e (rmU mi mc ms) s m args below meth c H locs ca sl Q (F0 m pc ls (st.map (tv G)))
theorem lgt_of {pl : PL} {i : Nat} {v : Value} (h : lgt pl i = v) (hv : v ≠ .retAddr 0) : pl[i]? = some (some v) := by
  unfold lgt at h
  split at h
  · rename_i w hw
    rw [hw, h]
  · exact absurd h.symm hv
theorem o_ii_inv {f : Int32 → Int32 → Int32} {st : List Value} {k : List Value → Prop} (h : o_ii f st k) : ∃ x y s, st = .int y :: .int x :: s ∧ k (.int (f x y) :: s) := by
  unfold o_ii at h
  split at h
  · exact ⟨_, _, _, rfl, h⟩
  · exact h.elim
theorem o_iin_inv {f : Int32 → Int32 → Int32} {st : List Value} {k : List Value → Prop} (h : o_iin f st k) : ∃ x y s, st = .int y :: .int x :: s ∧ (¬ y = 0) ∧ k (.int (f x y) :: s) := by
  unfold o_iin at h
  split at h
  · exact ⟨_, _, _, rfl, h⟩
  · exact h.elim
theorem o_ll_inv {f : Int64 → Int64 → Int64} {st : List Value} {k : List Value → Prop} (h : o_ll f st k) : ∃ x y s, st = .long y :: .long x :: s ∧ k (.long (f x y) :: s) := by
  unfold o_ll at h
  split at h
  · exact ⟨_, _, _, rfl, h⟩
  · exact h.elim
theorem o_lln_inv {f : Int64 → Int64 → Int64} {st : List Value} {k : List Value → Prop} (h : o_lln f st k) : ∃ x y s, st = .long y :: .long x :: s ∧ (¬ y = 0) ∧ k (.long (f x y) :: s) := by
  unfold o_lln at h
  split at h
  · exact ⟨_, _, _, rfl, h⟩
  · exact h.elim
theorem o_li_inv {f : Int64 → Int32 → Int64} {st : List Value} {k : List Value → Prop} (h : o_li f st k) : ∃ x y s, st = .int y :: .long x :: s ∧ k (.long (f x y) :: s) := by
  unfold o_li at h
  split at h
  · exact ⟨_, _, _, rfl, h⟩
  · exact h.elim
/-! locals -/
def lvo (G : GW) (pl : PL) : List (Nat × Value) := (List.range pl.length).filterMap (fun i => match pl[i]? with
  | some (some v) => some (i, tv G v)
  | _ => none)
theorem lvo_mem {G : GW} {pl : PL} {x : Nat × Value} : x ∈ lvo G pl ↔ ∃ v, pl[x.1]? = some (some v) ∧ x.2 = tv G v := by
  obtain ⟨j, w⟩ := x
  unfold lvo
  rw [List.mem_filterMap]
  constructor
  · rintro ⟨i, hi, he⟩
    split at he
    · rename_i v hv
      cases he
      exact ⟨v, hv, rfl⟩
    · cases he
  · rintro ⟨v, hv, hw⟩
    refine ⟨j, List.mem_range.mpr (List.getElem?_eq_some_iff.mp hv).1, ?_⟩
    simp only at hv hw
    rw [hv, hw]
theorem LRl.has {G : GW} {pl : PL} {ls : Array Slot} {n : Nat} (h : LRl G pl ls n) : lv_has ls n (lvo G pl) := by
  refine ⟨h.1, h.2.1, fun x hx => ?_⟩
  obtain ⟨v, hv, hw⟩ := lvo_mem.mp hx
  rw [hw]
  exact h.2.2 _ _ hv
theorem tv_cat (G : GW) (v : Value) : (tv G v).category = v.category := by
  cases v <;> try rfl
  rename_i k
  show (va_rf (rfq G k)).category = 1
  unfold rfq
  split <;> rfl
theorem lcl_get {pl : PL} {i j : Nat} {v : Value} (h : (lcl pl i)[j]? = some (some v)) : pl[j]? = some (some v) ∧ (j + 1 = i → v.category ≠ 2) := by
  unfold lcl at h
  split at h
  · exact ⟨h, fun e => absurd e (by omega)⟩
  · rename_i k
    split at h
    · rename_i w hw
      by_cases hjk : j = k
      · subst hjk
        rw [List.getElem?_set_self (List.getElem?_eq_some_iff.mp hw).1] at h
        cases h
      · rw [List.getElem?_set_ne (Ne.symm hjk)] at h
        exact ⟨h, fun e => absurd e (by omega)⟩
    · rename_i w hw
      by_cases hjk : j = k
      · subst hjk
        rw [List.getElem?_set_self (List.getElem?_eq_some_iff.mp hw).1] at h
        cases h
      · rw [List.getElem?_set_ne (Ne.symm hjk)] at h
        exact ⟨h, fun e => absurd e (by omega)⟩
    · rename_i hno hno2
      refine ⟨h, fun e => ?_⟩
      have : j = k := by omega
      subst this
      cases v with
      | long x => exact absurd h (hno x)
      | double b => exact absurd h (hno2 b)
      | _ => exact fun q => by cases q
theorem LRl.set1 {G : GW} {pl : PL} {ls : Array Slot} {n i : Nat} {v : Value}  (hl : lv_has ls n ((i, tv G v) :: (lvo G pl).filter (fun q => !(q.1 == i) && !(q.1 + 1 == i && q.2.category == 2)))) : LRl G (ls1 pl i v) ls n := by
  refine ⟨hl.1, hl.2.1, fun j w hj => ?_⟩
  unfold ls1 at hj
  by_cases hji : j = i
  · subst hji
    have hlt : j < (lcl pl j).length := by
      rcases Nat.lt_or_ge j (lcl pl j).length with q | q
      · exact q
      · rw [List.getElem?_eq_none (by rw [List.length_set]; exact q)] at hj
        cases hj
    rw [List.getElem?_set_self hlt] at hj
    cases hj
    exact hl.2.2 (j, tv G v) List.mem_cons_self
  · rw [List.getElem?_set_ne (Ne.symm hji)] at hj
    obtain ⟨h1, h2⟩ := lcl_get hj
    refine hl.2.2 (j, tv G w) (List.mem_cons_of_mem _ (List.mem_filter.mpr ⟨lvo_mem.mpr ⟨w, h1, rfl⟩, ?_⟩))
    simp only [Bool.and_eq_true, Bool.not_eq_true', beq_eq_false_iff_ne, ne_eq, Bool.and_eq_false_iff]
    refine ⟨hji, ?_⟩
    by_cases e : j + 1 = i
    · right
      rw [tv_cat]
      exact h2 e
    · left
      exact e
theorem LRl.set2 {G : GW} {pl : PL} {ls : Array Slot} {n i : Nat} {v : Value}  (hl : lv_has ls n ((i, tv G v) :: (lvo G pl).filter (fun q => !(q.1 == i) && (!(q.1 == i + 1) && !(q.1 + 1 == i && q.2.category == 2))))) : LRl G (ls2 pl i v) ls n := by
  refine ⟨hl.1, hl.2.1, fun j w hj => ?_⟩
  unfold ls2 at hj
  by_cases hj1 : j = i + 1
  · subst hj1
    rcases Nat.lt_or_ge (i + 1) ((lcl pl i).set i (some v)).length with q | q
    · rw [List.getElem?_set_self q] at hj
      cases hj
    · rw [List.getElem?_eq_none (by rw [List.length_set]; exact q)] at hj
      cases hj
  rw [List.getElem?_set_ne (Ne.symm hj1)] at hj
  by_cases hji : j = i
  · subst hji
    have hlt : j < (lcl pl j).length := by
      rcases Nat.lt_or_ge j (lcl pl j).length with q | q
      · exact q
      · rw [List.getElem?_eq_none (by rw [List.length_set]; exact q)] at hj
        cases hj
    rw [List.getElem?_set_self hlt] at hj
    cases hj
    exact hl.2.2 (j, tv G v) List.mem_cons_self
  · rw [List.getElem?_set_ne (Ne.symm hji)] at hj
    obtain ⟨h1, h2⟩ := lcl_get hj
    refine hl.2.2 (j, tv G w) (List.mem_cons_of_mem _ (List.mem_filter.mpr ⟨lvo_mem.mpr ⟨w, h1, rfl⟩, ?_⟩))
    simp only [Bool.and_eq_true, Bool.not_eq_true', beq_eq_false_iff_ne, ne_eq, Bool.and_eq_false_iff]
    refine ⟨hji, hj1, ?_⟩
    by_cases e : j + 1 = i
    · right
      rw [tv_cat]
      exact h2 e
    · left
      exact e
theorem lmk_get {m : List (Int32 × Nat)} {pl : PL} {i : Nat} {v : Value} (h : (lmk m pl)[i]? = some (some v)) : pl[i]? = some (some v) := by
  induction m generalizing pl i with
  | nil => cases pl <;> exact h
  | cons a m ih =>
    obtain ⟨a1, a2⟩ := a
    cases pl with
    | nil => cases a2 <;> simp [lmk] at h
    | cons b l =>
      cases i with
      | zero => cases a2 <;> simp [lmk] at h ⊢ <;> exact h
      | succ i => cases a2 <;> (simp only [lmk, List.getElem?_cons_succ] at h ⊢; exact ih h)
theorem LRl.mk {G : GW} {pl : PL} {ls : Array Slot} {n : Nat} (m : List (Int32 × Nat)) (h : LRl G pl ls n) : LRl G (lmk m pl) ls n := ⟨h.1, h.2.1, fun i v hv => h.2.2 i v (lmk_get hv)⟩
