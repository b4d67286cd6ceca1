/-! POLYNOMIALS OF NOUGHTS AND ONES over Nat: the carry-less product, division -/
def clN (a b : Nat) : Nat → Nat
  | 0 => 0
  | k + 1 => clN a b k ^^^ (if b.testBit k then a <<< k else 0)
/-- the product -/
def cl (a b : Nat) : Nat := clN a b b
theorem xor4 (a b c d : Nat) : (a ^^^ b) ^^^ (c ^^^ d) = (a ^^^ c) ^^^ (b ^^^ d) := by
  rw [Nat.xor_assoc, Nat.xor_assoc, ← Nat.xor_assoc b c d, Nat.xor_comm b c, Nat.xor_assoc c b d]
theorem xor_xc (a b : Nat) : (a ^^^ b) ^^^ b = a := by rw [Nat.xor_assoc, Nat.xor_self, Nat.xor_zero]
theorem xor_cx (a b : Nat) : a ^^^ (a ^^^ b) = b := by rw [← Nat.xor_assoc, Nat.xor_self, Nat.zero_xor]
theorem xor_eq0 {a b : Nat} (h : a ^^^ b = 0) : a = b := by
  have := congrArg (fun z => z ^^^ b) h
  simp only [xor_xc, Nat.zero_xor] at this
  exact this
theorem shl_xor (a b k : Nat) : (a ^^^ b) <<< k = a <<< k ^^^ b <<< k := by
  apply Nat.eq_of_testBit_eq
  intro i
  simp only [Nat.testBit_shiftLeft, Nat.testBit_xor]
  by_cases h : k ≤ i <;> simp [h]
theorem tb_lt {a k i : Nat} (h : a < 2 ^ k) (hi : k ≤ i) : a.testBit i = false := by
  apply Nat.testBit_lt_two_pow
  exact Nat.lt_of_lt_of_le h (Nat.pow_le_pow_right (by decide) hi)
theorem lt_self (a : Nat) : a < 2 ^ a := Nat.lt_two_pow_self
theorem clN_st {a b k j : Nat} (h : b < 2 ^ k) : clN a b (k + j) = clN a b k := by
  induction j with
  | zero => rfl
  | succ j ih =>
    rw [← Nat.add_assoc]
    show clN a b (k + j) ^^^ _ = _
    rw [tb_lt h (Nat.le_add_right k j), ih]
    simp
theorem clN_eq {a b k : Nat} (h : b < 2 ^ k) : clN a b k = cl a b := by
  unfold cl
  rcases Nat.le_total k b with q | q
  · obtain ⟨j, rfl⟩ := Nat.le.dest q
    rw [clN_st (k := k) h]
  · obtain ⟨j, rfl⟩ := Nat.le.dest q
    rw [clN_st (k := b) (lt_self b)]
theorem clN_al (a a' b k : Nat) : clN (a ^^^ a') b k = clN a b k ^^^ clN a' b k := by
  induction k with
  | zero => simp [clN]
  | succ k ih =>
    show clN (a ^^^ a') b k ^^^ _ = (clN a b k ^^^ _) ^^^ (clN a' b k ^^^ _)
    rw [ih, xor4 (clN a b k)]
    congr 1
    split
    · exact shl_xor a a' k
    · rfl
theorem clN_ar (a b b' k : Nat) : clN a (b ^^^ b') k = clN a b k ^^^ clN a b' k := by
  induction k with
  | zero => simp [clN]
  | succ k ih =>
    show clN a (b ^^^ b') k ^^^ _ = (clN a b k ^^^ _) ^^^ (clN a b' k ^^^ _)
    rw [ih, xor4 (clN a b k)]
    congr 1
    rw [Nat.testBit_xor]
    cases b.testBit k <;> cases b'.testBit k <;> simp
theorem cl_al (a a' b : Nat) : cl (a ^^^ a') b = cl a b ^^^ cl a' b := clN_al a a' b b
theorem xor_lt {a b k : Nat} (h1 : a < 2 ^ k) (h2 : b < 2 ^ k) : a ^^^ b < 2 ^ k := Nat.xor_lt_two_pow h1 h2
theorem pow_le {i j : Nat} (h : i ≤ j) : 2 ^ i ≤ 2 ^ j := Nat.pow_le_pow_right (by decide) h
theorem cl_ar (a b b' : Nat) : cl a (b ^^^ b') = cl a b ^^^ cl a b' := by
  have h1 : b < 2 ^ (b + b') := Nat.lt_of_lt_of_le (lt_self b) (pow_le (Nat.le_add_right _ _))
  have h2 : b' < 2 ^ (b + b') := Nat.lt_of_lt_of_le (lt_self b') (pow_le (Nat.le_add_left _ _))
  rw [← clN_eq h1, ← clN_eq h2, ← clN_eq (xor_lt h1 h2)]
  exact clN_ar a b b' _
theorem cl_0r (a : Nat) : cl a 0 = 0 := rfl
theorem clN_0l (b k : Nat) : clN 0 b k = 0 := by
  induction k with
  | zero => rfl
  | succ k ih =>
    show clN 0 b k ^^^ _ = 0
    rw [ih]
    simp
theorem cl_0l (b : Nat) : cl 0 b = 0 := clN_0l b b
theorem cl_1r (a : Nat) : cl a 1 = a := by
  show 0 ^^^ (if Nat.testBit 1 0 then a <<< 0 else 0) = a
  simp
theorem mod_succ (a k : Nat) : a % 2 ^ (k + 1) = a % 2 ^ k ^^^ (if a.testBit k then 2 ^ k else 0) := by
  apply Nat.eq_of_testBit_eq
  intro i
  rw [Nat.testBit_xor, Nat.testBit_mod_two_pow, Nat.testBit_mod_two_pow]
  by_cases h : a.testBit k
  · rw [if_pos h, Nat.testBit_two_pow]
    by_cases hik : k = i
    · subst hik
      simp [h]
    · by_cases hlt : i < k
      · simp [hlt, Nat.lt_succ_of_lt hlt, hik]
      · have : ¬ i < k + 1 := by omega
        simp [hlt, this, hik]
  · rw [if_neg h, Nat.zero_testBit, Bool.xor_false]
    by_cases hik : k = i
    · subst hik
      simp [h]
    · by_cases hlt : i < k
      · simp [hlt, Nat.lt_succ_of_lt hlt]
      · have : ¬ i < k + 1 := by omega
        simp [hlt, this]
theorem clN_2l (a k j : Nat) : clN (2 ^ k) a j = (a % 2 ^ j) <<< k := by
  induction j with
  | zero => simp [clN, Nat.mod_one]
  | succ j ih =>
    show clN (2 ^ k) a j ^^^ _ = _
    rw [ih, mod_succ, shl_xor]
    congr 1
    split
    · rw [Nat.shiftLeft_eq, Nat.shiftLeft_eq, ← Nat.pow_add, ← Nat.pow_add, Nat.add_comm]
    · simp
theorem cl_2l (a k : Nat) : cl (2 ^ k) a = a <<< k := by
  unfold cl
  rw [clN_2l, Nat.mod_eq_of_lt (lt_self a)]
theorem cl_comm (a b : Nat) : cl a b = cl b a := by
  have key : ∀ k, clN a b k = cl (b % 2 ^ k) a := by
    intro k
    induction k with
    | zero => rw [Nat.pow_zero, Nat.mod_one, cl_0l]; rfl
    | succ k ih =>
      show clN a b k ^^^ _ = _
      rw [mod_succ, cl_al, ih]
      congr 1
      split
      · exact (cl_2l a k).symm
      · exact (cl_0l a).symm
  have := key b
  rwa [Nat.mod_eq_of_lt (lt_self b)] at this
theorem cl_1l (a : Nat) : cl 1 a = a := by rw [cl_comm, cl_1r]
theorem clN_shl (a b i k : Nat) : clN (a <<< i) b k = (clN a b k) <<< i := by
  induction k with
  | zero => simp [clN]
  | succ k ih =>
    show clN (a <<< i) b k ^^^ _ = (clN a b k ^^^ _) <<< i
    rw [ih, shl_xor]
    congr 1
    split
    · rw [← Nat.shiftLeft_add, ← Nat.shiftLeft_add, Nat.add_comm]
    · simp
theorem cl_shl (a b i : Nat) : cl (a <<< i) b = (cl a b) <<< i := clN_shl a b i b
theorem cl_shr (a b i : Nat) : cl a (b <<< i) = (cl a b) <<< i := by rw [cl_comm, cl_shl, cl_comm]
theorem cl_assoc (a b c : Nat) : cl (cl a b) c = cl a (cl b c) := by
  have key : ∀ k, clN (cl a b) c k = cl a (clN b c k) := by
    intro k
    induction k with
    | zero => exact (cl_0r a).symm
    | succ k ih =>
      show clN (cl a b) c k ^^^ _ = cl a (clN b c k ^^^ _)
      rw [ih, cl_ar]
      congr 1
      split
      · exact (cl_shr a b k).symm
      · exact (cl_0r a).symm
  exact key c
/-! degrees -/
theorem xor_top {x y k : Nat} (hx : x < 2 ^ k) (h1 : 2 ^ k ≤ y) (h2 : y < 2 ^ (k + 1)) : 2 ^ k ≤ x ^^^ y ∧ x ^^^ y < 2 ^ (k + 1) := by
  have hy : y.testBit k = true := by
    rcases hb : y.testBit k with _ | _
    · exfalso
      have : y < 2 ^ k := by
        apply Nat.lt_pow_two_of_testBit
        intro i hi
        rcases Nat.eq_or_lt_of_le hi with rfl | hlt
        · exact hb
        · exact tb_lt h2 hlt
      omega
    · rfl
  have hxy : (x ^^^ y).testBit k = true := by rw [Nat.testBit_xor, tb_lt hx (Nat.le_refl k), hy]; rfl
  refine ⟨Nat.ge_two_pow_of_testBit hxy, xor_lt (Nat.lt_trans hx (Nat.pow_lt_pow_right (by decide) (by omega))) h2⟩
theorem tb_top {y k : Nat} (h1 : 2 ^ k ≤ y) (h2 : y < 2 ^ (k + 1)) : y.testBit k = true := by
  rcases hb : y.testBit k with _ | _
  · exfalso
    have : y < 2 ^ k := by
      apply Nat.lt_pow_two_of_testBit
      intro i hi
      rcases Nat.eq_or_lt_of_le hi with rfl | hlt
      · exact hb
      · exact tb_lt h2 hlt
    omega
  · rfl
theorem shl_lt {a i k : Nat} (h : a < 2 ^ k) : a <<< i < 2 ^ (k + i) := by
  rw [Nat.shiftLeft_eq, Nat.pow_add]
  exact Nat.mul_lt_mul_of_pos_right h (Nat.two_pow_pos i)
theorem clN_lt {a b d k : Nat} (h : a < 2 ^ (d + 1)) : clN a b k < 2 ^ (d + k) := by
  induction k with
  | zero => exact Nat.two_pow_pos _
  | succ k ih =>
    refine xor_lt (Nat.lt_trans ih (Nat.pow_lt_pow_right (by decide) (by omega))) ?_
    split
    · have := shl_lt (i := k) h
      rwa [show d + 1 + k = d + (k + 1) by omega] at this
    · exact Nat.two_pow_pos _
/-- the degree of a product -/
theorem cl_deg {a b i j : Nat} (h1 : 2 ^ i ≤ a) (h2 : a < 2 ^ (i + 1)) (h3 : 2 ^ j ≤ b) (h4 : b < 2 ^ (j + 1)) : 2 ^ (i + j) ≤ cl a b ∧ cl a b < 2 ^ (i + j + 1) := by
  rw [← clN_eq h4]
  show 2 ^ (i + j) ≤ clN a b j ^^^ _ ∧ clN a b j ^^^ _ < _
  rw [if_pos (tb_top h3 h4)]
  refine xor_top (clN_lt h2) ?_ ?_
  · rw [Nat.shiftLeft_eq, Nat.pow_add]
    exact Nat.mul_le_mul_right _ h1
  · have := shl_lt (i := j) h2
    rwa [show i + 1 + j = i + j + 1 by omega] at this
theorem dg_ex {a : Nat} (h : a ≠ 0) : ∃ i, 2 ^ i ≤ a ∧ a < 2 ^ (i + 1) := ⟨a.log2, Nat.log2_self_le h, Nat.lt_log2_self⟩
theorem dg_uq {a i j : Nat} (h1 : 2 ^ i ≤ a) (h2 : a < 2 ^ (i + 1)) (h3 : 2 ^ j ≤ a) (h4 : a < 2 ^ (j + 1)) : i = j := by
  rcases Nat.lt_trichotomy i j with h | h | h
  · have := pow_le (show i + 1 ≤ j from h)
    omega
  · exact h
  · have := pow_le (show j + 1 ≤ i from h)
    omega
theorem cl_ne0 {a b : Nat} (ha : a ≠ 0) (hb : b ≠ 0) : cl a b ≠ 0 := by
  obtain ⟨i, h1, h2⟩ := dg_ex ha
  obtain ⟨j, h3, h4⟩ := dg_ex hb
  have := (cl_deg h1 h2 h3 h4).1
  have := Nat.two_pow_pos (i + j)
  omega
theorem cl_cancel {a b c : Nat} (hc : c ≠ 0) (h : cl a c = cl b c) : a = b := by
  rcases Nat.eq_zero_or_pos (a ^^^ b) with q | q
  · exact xor_eq0 q
  · have : cl (a ^^^ b) c = 0 := by rw [cl_al, h, Nat.xor_self]
    exact absurd this (cl_ne0 (by omega) hc)
/-! the remainder -/
def prd (m n : Nat) : Nat → Nat → Nat
  | 0, a => a
  | j + 1, a => prd m n j (if a.testBit (n + j) then a ^^^ (m <<< j) else a)
def pdv (m n : Nat) : Nat → Nat → Nat
  | 0, _ => 0
  | j + 1, a => if a.testBit (n + j) then 2 ^ j ^^^ pdv m n j (a ^^^ (m <<< j)) else pdv m n j a
theorem prd_ok {m n : Nat} (h1 : 2 ^ n ≤ m) (h2 : m < 2 ^ (n + 1)) : ∀ (j a : Nat), a < 2 ^ (n + j) → prd m n j a < 2 ^ n ∧ a = cl (pdv m n j a) m ^^^ prd m n j a ∧ pdv m n j a < 2 ^ j
  | 0, a, h => ⟨h, by show a = cl 0 m ^^^ a; rw [cl_0l, Nat.zero_xor], Nat.one_pos⟩
  | j + 1, a, h => by
    by_cases hb : a.testBit (n + j)
    · have hm1 : 2 ^ (n + j) ≤ m <<< j := by
        rw [Nat.shiftLeft_eq, Nat.pow_add]
        exact Nat.mul_le_mul_right _ h1
      have hm2 : m <<< j < 2 ^ (n + j + 1) := by
        have := shl_lt (i := j) h2
        rwa [show n + 1 + j = n + j + 1 by omega] at this
      have hlt : a ^^^ (m <<< j) < 2 ^ (n + j) := by
        apply Nat.lt_pow_two_of_testBit
        intro i hi
        rw [Nat.testBit_xor]
        rcases Nat.eq_or_lt_of_le hi with rfl | hgt
        · rw [hb, tb_top hm1 hm2]; rfl
        · rw [tb_lt h (by omega : n + (j + 1) ≤ i), tb_lt hm2 (by omega)]; rfl
      obtain ⟨g1, g2, g3⟩ := prd_ok h1 h2 j (a ^^^ (m <<< j)) hlt
      have e1 : prd m n (j + 1) a = prd m n j (a ^^^ (m <<< j)) := by show prd m n j (if _ then _ else _) = _; rw [if_pos hb]
      have e2 : pdv m n (j + 1) a = 2 ^ j ^^^ pdv m n j (a ^^^ (m <<< j)) := by show (if _ then _ else _) = _; rw [if_pos hb]
      rw [e1, e2]
      refine ⟨g1, ?_, xor_lt (Nat.pow_lt_pow_right (by decide) (by omega)) (Nat.lt_trans g3 (Nat.pow_lt_pow_right (by decide) (by omega)))⟩
      rw [cl_al, cl_2l, Nat.xor_assoc, ← g2, Nat.xor_comm, xor_xc]
    · have hlt : a < 2 ^ (n + j) := by
        apply Nat.lt_pow_two_of_testBit
        intro i hi
        rcases Nat.eq_or_lt_of_le hi with rfl | hgt
        · simpa using hb
        · exact tb_lt h (by omega)
      obtain ⟨g1, g2, g3⟩ := prd_ok h1 h2 j a hlt
      have e1 : prd m n (j + 1) a = prd m n j a := by show prd m n j (if _ then _ else _) = _; rw [if_neg hb]
      have e2 : pdv m n (j + 1) a = pdv m n j a := by show (if _ then _ else _) = _; rw [if_neg hb]
      rw [e1, e2]
      exact ⟨g1, g2, Nat.lt_trans g3 (Nat.pow_lt_pow_right (by decide) (by omega))⟩
/-- it divides -/
def pdvd (m a : Nat) : Prop := ∃ q, a = cl q m
def cg (m a b : Nat) : Prop := pdvd m (a ^^^ b)
theorem cg_rf (m a : Nat) : cg m a a := ⟨0, by rw [Nat.xor_self, cl_0l]⟩
theorem cg_sy {m a b : Nat} (h : cg m a b) : cg m b a := by
  obtain ⟨q, hq⟩ := h
  exact ⟨q, by rw [Nat.xor_comm]; exact hq⟩
theorem cg_tr {m a b c : Nat} (h1 : cg m a b) (h2 : cg m b c) : cg m a c := by
  obtain ⟨q, hq⟩ := h1
  obtain ⟨r, hr⟩ := h2
  refine ⟨q ^^^ r, ?_⟩
  rw [cl_al, ← hq, ← hr, Nat.xor_assoc, xor_cx b c]
theorem cg_add {m a b c d : Nat} (h1 : cg m a b) (h2 : cg m c d) : cg m (a ^^^ c) (b ^^^ d) := by
  obtain ⟨q, hq⟩ := h1
  obtain ⟨r, hr⟩ := h2
  exact ⟨q ^^^ r, by rw [cl_al, ← hq, ← hr, xor4]⟩
theorem cg_mul {m a b c d : Nat} (h1 : cg m a b) (h2 : cg m c d) : cg m (cl a c) (cl b d) := by
  obtain ⟨q, hq⟩ := h1
  obtain ⟨r, hr⟩ := h2
  refine ⟨cl q c ^^^ cl b r, ?_⟩
  have e1 : cl a c ^^^ cl b c = cl (cl q c) m := by rw [← cl_al, hq, cl_assoc, cl_comm m c, ← cl_assoc]
  have e2 : cl b c ^^^ cl b d = cl (cl b r) m := by rw [← cl_ar, hr, cl_assoc]
  rw [cl_al, ← e1, ← e2, Nat.xor_assoc, xor_cx]
theorem cg_small {m n a b : Nat} (h1 : 2 ^ n ≤ m) (ha : a < 2 ^ n) (hb : b < 2 ^ n) (h : cg m a b) : a = b := by
  obtain ⟨q, hq⟩ := h
  rcases Nat.eq_zero_or_pos q with z | z
  · rw [z, cl_0l] at hq
    exact xor_eq0 hq
  · exfalso
    have hm0 : m ≠ 0 := by have := Nat.two_pow_pos n; omega
    obtain ⟨i, g1, g2⟩ := dg_ex (a := q) (by omega)
    obtain ⟨j, g3, g4⟩ := dg_ex hm0
    have := (cl_deg g1 g2 g3 g4).1
    have hlt := xor_lt ha hb
    rw [hq] at hlt
    have hj : n ≤ j := by
      rcases Nat.lt_or_ge j n with w | w
      · have := pow_le (show j + 1 ≤ n from w)
        omega
      · exact w
    have := pow_le (show n ≤ i + j by omega)
    omega
theorem cg_prd {m n j a : Nat} (h1 : 2 ^ n ≤ m) (h2 : m < 2 ^ (n + 1)) (h : a < 2 ^ (n + j)) : cg m a (prd m n j a) := by
  obtain ⟨-, g, -⟩ := prd_ok h1 h2 j a h
  refine ⟨pdv m n j a, ?_⟩
  have := congrArg (fun z => z ^^^ prd m n j a) g
  simp only [xor_xc] at this
  exact this
