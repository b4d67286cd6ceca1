/-! ROWS OF BITS: sums of some of them, echelon forms -/
/-- the sum of the rows r 0 .. r (k-1) that c tells -/
def cmb (r : Nat → Nat) : Nat → Nat → Nat
  | 0, _ => 0
  | k + 1, c => cmb r k c ^^^ (if c.testBit k then r k else 0)
theorem cmb_xor (r : Nat → Nat) (c d : Nat) : ∀ k, cmb r k (c ^^^ d) = cmb r k c ^^^ cmb r k d
  | 0 => by simp [cmb]
  | k + 1 => by
    show cmb r k (c ^^^ d) ^^^ _ = (cmb r k c ^^^ _) ^^^ (cmb r k d ^^^ _)
    rw [cmb_xor r c d k, xor4 (cmb r k c)]
    congr 1
    rw [Nat.testBit_xor]
    cases c.testBit k <;> cases d.testBit k <;> simp
theorem cmb_0 (r : Nat → Nat) : ∀ k, cmb r k 0 = 0
  | 0 => rfl
  | k + 1 => by show cmb r k 0 ^^^ _ = 0; rw [cmb_0 r k]; simp
theorem cmb_cg {r r' : Nat → Nat} {c c' : Nat} : ∀ k, (∀ i, i < k → r i = r' i ∧ c.testBit i = c'.testBit i) → cmb r k c = cmb r' k c'
  | 0, _ => rfl
  | k + 1, h => by
    show cmb r k c ^^^ _ = cmb r' k c' ^^^ _
    rw [cmb_cg k (fun i hi => h i (by omega)), (h k (by omega)).1, (h k (by omega)).2]
theorem cmb_st {r : Nat → Nat} {c k j : Nat} (h : c < 2 ^ k) : cmb r (k + j) c = cmb r k c := by
  induction j with
  | zero => rfl
  | succ j ih =>
    rw [← Nat.add_assoc]
    show cmb r (k + j) c ^^^ _ = _
    rw [tb_lt h (Nat.le_add_right k j), ih]
    simp
theorem cmb_lt {r : Nat → Nat} {n c : Nat} : ∀ k, (∀ i, i < k → r i < 2 ^ n) → cmb r k c < 2 ^ n
  | 0, _ => Nat.two_pow_pos n
  | k + 1, h => by
    refine xor_lt (cmb_lt k (fun i hi => h i (by omega))) ?_
    split
    · exact h k (by omega)
    · exact Nat.two_pow_pos n
theorem cmb_top (r : Nat → Nat) (k c : Nat) : cmb r (k + 1) (2 ^ k ^^^ c) = r k ^^^ cmb r (k + 1) c := by
  rw [cmb_xor]
  congr 1
  show cmb r k (2 ^ k) ^^^ _ = _
  rw [Nat.testBit_two_pow_self, if_pos rfl]
  have : cmb r k (2 ^ k) = cmb r k 0 := cmb_cg k (fun i hi => ⟨rfl, by rw [Nat.testBit_two_pow, Nat.zero_testBit]; simp; omega⟩)
  rw [this, cmb_0, Nat.zero_xor]
/-- no sum of some (one at least) is 0 -/
def indep (r : Nat → Nat) (k : Nat) : Prop := ∀ c, c < 2 ^ k → cmb r k c = 0 → c = 0
theorem lt_succ_cases {c k : Nat} (h : c < 2 ^ (k + 1)) : (c < 2 ^ k ∧ c.testBit k = false) ∨ (c.testBit k = true ∧ 2 ^ k ^^^ c < 2 ^ k) := by
  rcases hb : c.testBit k with _ | _
  · left
    refine ⟨?_, rfl⟩
    apply Nat.lt_pow_two_of_testBit
    intro i hi
    rcases Nat.eq_or_lt_of_le hi with rfl | hgt
    · exact hb
    · exact tb_lt h hgt
  · right
    refine ⟨rfl, ?_⟩
    apply Nat.lt_pow_two_of_testBit
    intro i hi
    rw [Nat.testBit_xor, Nat.testBit_two_pow]
    rcases Nat.eq_or_lt_of_le hi with rfl | hgt
    · rw [hb]; simp
    · rw [tb_lt h hgt]
      have : ¬ k = i := by omega
      simp [this]
/-- one row more -/
theorem indep_succ {r : Nat → Nat} {k : Nat} : indep r (k + 1) ↔ indep r k ∧ ∀ c, c < 2 ^ k → cmb r k c ≠ r k := by
  constructor
  · intro h
    refine ⟨fun c hc h0 => ?_, fun c hc he => ?_⟩
    · refine h c (Nat.lt_of_lt_of_le hc (pow_le (by omega))) ?_
      rw [cmb_st (j := 1) hc]
      exact h0
    · have h1 : cmb r (k + 1) (2 ^ k ^^^ c) = 0 := by rw [cmb_top, cmb_st (j := 1) hc, he, Nat.xor_self]
      have h2 := h (2 ^ k ^^^ c) (xor_lt (Nat.pow_lt_pow_right (by decide) (by omega)) (Nat.lt_of_lt_of_le hc (pow_le (by omega)))) h1
      have h3 : (2 ^ k ^^^ c).testBit k = true := by rw [Nat.testBit_xor, Nat.testBit_two_pow_self, tb_lt hc (Nat.le_refl k)]; rfl
      rw [h2, Nat.zero_testBit] at h3
      cases h3
  · rintro ⟨h1, h2⟩ c hc h0
    rcases lt_succ_cases hc with ⟨w, -⟩ | ⟨w1, w2⟩
    · refine h1 c w ?_
      rw [cmb_st (j := 1) w] at h0
      exact h0
    · exfalso
      have e : c = 2 ^ k ^^^ (2 ^ k ^^^ c) := (xor_cx _ _).symm
      rw [e, cmb_top, cmb_st (j := 1) w2] at h0
      exact h2 _ w2 (xor_eq0 h0).symm
/-! the echelon form: rows k is 0 or has its highest bit at k -/
def inE (rows : Nat → Nat) : Nat → Nat → Prop
  | 0, v => v = 0
  | k + 1, v => inE rows k v ∨ (rows k ≠ 0 ∧ inE rows k (v ^^^ rows k))
def shE (rows : Nat → Nat) : Prop := ∀ k, rows k = 0 ∨ (2 ^ k ≤ rows k ∧ rows k < 2 ^ (k + 1))
theorem inE_0 (rows : Nat → Nat) : ∀ k, inE rows k 0
  | 0 => rfl
  | k + 1 => Or.inl (inE_0 rows k)
theorem inE_lt {rows : Nat → Nat} (hs : shE rows) : ∀ k v, inE rows k v → v < 2 ^ k
  | 0, v, h => by have : v = 0 := h; rw [this]; decide
  | k + 1, v, h => by
    rcases h with h | ⟨h1, h2⟩
    · exact Nat.lt_of_lt_of_le (inE_lt hs k v h) (pow_le (by omega))
    · have a := inE_lt hs k _ h2
      rcases hs k with w | w
      · exact absurd w h1
      · have := xor_lt (Nat.lt_of_lt_of_le a (pow_le (show k ≤ k + 1 by omega))) w.2
        rwa [xor_xc] at this
theorem inE_xor {rows : Nat → Nat} : ∀ k u v, inE rows k u → inE rows k v → inE rows k (u ^^^ v)
  | 0, u, v, h1, h2 => by have a : u = 0 := h1; have b : v = 0 := h2; rw [a, b]; rfl
  | k + 1, u, v, h1, h2 => by
    rcases h1 with h1 | ⟨a1, h1⟩ <;> rcases h2 with h2 | ⟨a2, h2⟩
    · exact Or.inl (inE_xor k u v h1 h2)
    · exact Or.inr ⟨a2, by rw [Nat.xor_assoc]; exact inE_xor k _ _ h1 h2⟩
    · exact Or.inr ⟨a1, by rw [Nat.xor_assoc, Nat.xor_comm v, ← Nat.xor_assoc]; exact inE_xor k _ _ h1 h2⟩
    · left
      have := inE_xor k _ _ h1 h2
      rwa [xor4, Nat.xor_self, Nat.xor_zero] at this
theorem inE_row {rows : Nat → Nat} {i : Nat} : ∀ k, i < k → inE rows k (rows i)
  | 0, h => by omega
  | k + 1, h => by
    rcases Nat.eq_or_lt_of_le (Nat.le_of_lt_succ h) with rfl | w
    · by_cases z : rows i = 0
      · rw [z]; exact inE_0 _ _
      · exact Or.inr ⟨z, by rw [Nat.xor_self]; exact inE_0 _ _⟩
    · exact Or.inl (inE_row k w)
theorem inE_up {rows : Nat → Nat} {i x : Nat} (h0 : rows i = 0) : ∀ k v, inE rows k v → inE (fun j => if j = i then x else rows j) k v
  | 0, v, h => h
  | k + 1, v, h => by
    rcases h with h | ⟨h1, h2⟩
    · exact Or.inl (inE_up h0 k v h)
    · have hk : k ≠ i := fun e => h1 (by rw [e]; exact h0)
      refine Or.inr ⟨by simp [hk]; exact h1, ?_⟩
      have := inE_up (x := x) h0 k _ h2
      simpa [hk] using this
/-- taking away the highest bits in turn: where it stops, what is left, what was taken -/
def spR (rows src : Nat → Nat) : Nat → Nat → Nat → Nat × Nat × Nat
  | 0, v, s => (0, v, s)
  | k + 1, v, s => if v.testBit k then (if rows k = 0 then (k + 1, v, s) else spR rows src k (v ^^^ rows k) (s ^^^ src k)) else spR rows src k v s
theorem spR_ok {rows src : Nat → Nat} (hs : shE rows) {r : Nat → Nat} {cnt : Nat} (h2 : ∀ k, rows k = cmb r cnt (src k)) : ∀ k v s, v < 2 ^ k →
    ((spR rows src k v s).1 = 0 ∧ (spR rows src k v s).2.1 = 0 ∧ inE rows k v) ∨
    (∃ j, j < k ∧ (spR rows src k v s).1 = j + 1 ∧ rows j = 0 ∧ 2 ^ j ≤ (spR rows src k v s).2.1 ∧ (spR rows src k v s).2.1 < 2 ^ (j + 1) ∧ ¬ inE rows k v ∧ ∃ u, inE rows k u ∧ v = u ^^^ (spR rows src k v s).2.1)
  | 0, v, s, hv => Or.inl ⟨rfl, by show v = 0; have : v < 1 := hv; omega, by show v = 0; have : v < 1 := hv; omega⟩
  | k + 1, v, s, hv => by
    rcases lt_succ_cases hv with ⟨w, hb⟩ | ⟨hb, w⟩
    · have e : spR rows src (k + 1) v s = spR rows src k v s := by show (if _ then _ else _) = _; rw [hb]; rfl
      rw [e]
      rcases spR_ok hs h2 k v s w with ⟨a, b, c⟩ | ⟨j, a, b, c, d1, d2, d3, u, d4, d5⟩
      · exact Or.inl ⟨a, b, Or.inl c⟩
      · refine Or.inr ⟨j, by omega, b, c, d1, d2, ?_, u, Or.inl d4, d5⟩
        rintro (q | ⟨q1, q2⟩)
        · exact d3 q
        · have q3 := inE_lt hs k _ q2
          rcases hs k with z | z
          · exact q1 z
          · have q4 := xor_top q3 z.1 z.2
            rw [xor_xc] at q4
            omega
    · have hge : 2 ^ k ≤ v := Nat.ge_two_pow_of_testBit hb
      by_cases hz : rows k = 0
      · have e : spR rows src (k + 1) v s = (k + 1, v, s) := by show (if _ then _ else _) = _; rw [hb, if_pos rfl, if_pos hz]
        rw [e]
        refine Or.inr ⟨k, by omega, rfl, hz, hge, hv, ?_, 0, inE_0 _ _, by rw [Nat.zero_xor]⟩
        rintro (q | ⟨q1, q2⟩)
        · have := inE_lt hs k v q
          omega
        · exact q1 hz
      · have e : spR rows src (k + 1) v s = spR rows src k (v ^^^ rows k) (s ^^^ src k) := by show (if _ then _ else _) = _; rw [hb, if_pos rfl, if_neg hz]
        rw [e]
        have hr : 2 ^ k ≤ rows k ∧ rows k < 2 ^ (k + 1) := by
          rcases hs k with z | z
          · exact absurd z hz
          · exact z
        have hlt : v ^^^ rows k < 2 ^ k := by
          apply Nat.lt_pow_two_of_testBit
          intro i hi
          rw [Nat.testBit_xor]
          rcases Nat.eq_or_lt_of_le hi with rfl | hgt
          · rw [hb, tb_top hr.1 hr.2]; rfl
          · rw [tb_lt hv hgt, tb_lt hr.2 hgt]; rfl
        rcases spR_ok hs h2 k _ (s ^^^ src k) hlt with ⟨a, b, c⟩ | ⟨j, a, b, c, d1, d2, d3, u, d4, d5⟩
        · exact Or.inl ⟨a, b, Or.inr ⟨hz, c⟩⟩
        · refine Or.inr ⟨j, by omega, b, c, d1, d2, ?_, u ^^^ rows k, Or.inr ⟨hz, by rw [xor_xc]; exact d4⟩, ?_⟩
          · rintro (q | ⟨q1, q2⟩)
            · have := inE_lt hs k v q
              omega
            · exact d3 q2
          · generalize (spR rows src k (v ^^^ rows k) (s ^^^ src k)).2.1 = z at d5 ⊢
            have d6 := congrArg (fun z => z ^^^ rows k) d5
            simp only [xor_xc] at d6
            rw [d6, Nat.xor_assoc, Nat.xor_comm z (rows k), ← Nat.xor_assoc]
theorem spR_src {rows src : Nat → Nat} {r : Nat → Nat} {cnt : Nat} (h2 : ∀ k, rows k = cmb r cnt (src k)) : ∀ k v s, (spR rows src k v s).2.1 ^^^ cmb r cnt (spR rows src k v s).2.2 = v ^^^ cmb r cnt s
  | 0, v, s => rfl
  | k + 1, v, s => by
    unfold spR
    split
    · split
      · rfl
      · rw [spR_src h2 k, cmb_xor, ← h2 k, xor4, Nat.xor_self, Nat.xor_zero]
    · exact spR_src h2 k v s
