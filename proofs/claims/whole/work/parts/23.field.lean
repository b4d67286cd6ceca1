/-! THE FIELD of degree n by a modulus m -/
def fmx (n m a : Nat) : Nat := if (a <<< 1).testBit n then (a <<< 1) ^^^ m else a <<< 1
def fmL (n m b : Nat) : Nat → Nat → Nat → Nat → Nat
  | 0, _, s, _ => s
  | j + 1, k, s, o => fmL n m b j (k + 1) (if b.testBit k then s ^^^ o else s) (fmx n m o)
/-- the product in the field -/
def fm (n m a b : Nat) : Nat := fmL n m b n 0 0 a
/-- a polynomial of degree n -/
def MDg (n m : Nat) : Prop := 1 ≤ n ∧ 2 ^ n ≤ m ∧ m < 2 ^ (n + 1)
theorem fmx_ok {n m a : Nat} (hm : MDg n m) (ha : a < 2 ^ n) : fmx n m a < 2 ^ n ∧ cg m (fmx n m a) (a <<< 1) := by
  obtain ⟨h0, h1, h2⟩ := hm
  have h3 : a <<< 1 < 2 ^ (n + 1) := shl_lt ha
  unfold fmx
  by_cases hb : (a <<< 1).testBit n
  · rw [if_pos hb]
    refine ⟨?_, 1, ?_⟩
    · apply Nat.lt_pow_two_of_testBit
      intro i hi
      rw [Nat.testBit_xor]
      rcases Nat.eq_or_lt_of_le hi with rfl | hgt
      · rw [hb, tb_top h1 h2]; rfl
      · rw [tb_lt h3 hgt, tb_lt h2 hgt]; rfl
    · rw [Nat.xor_comm (a <<< 1), xor_xc, cl_1l]
  · rw [if_neg hb]
    refine ⟨?_, cg_rf _ _⟩
    apply Nat.lt_pow_two_of_testBit
    intro i hi
    rcases Nat.eq_or_lt_of_le hi with rfl | hgt
    · simpa using hb
    · exact tb_lt h3 hgt
theorem fmL_ok {n m a b : Nat} (hm : MDg n m) : ∀ (j k s o : Nat), o < 2 ^ n → s < 2 ^ n → cg m o (a <<< k) → cg m s (clN a b k) → fmL n m b j k s o < 2 ^ n ∧ cg m (fmL n m b j k s o) (clN a b (k + j))
  | 0, k, s, o, _, hs, _, h => ⟨hs, h⟩
  | j + 1, k, s, o, ho, hs, h1, h2 => by
    obtain ⟨g1, g2⟩ := fmx_ok hm ho
    have h3 : cg m (fmx n m o) (a <<< (k + 1)) := by
      refine cg_tr g2 ?_
      obtain ⟨q, hq⟩ := h1
      refine ⟨q <<< 1, ?_⟩
      rw [cl_shl, ← hq, shl_xor, ← Nat.shiftLeft_add]
    have hs' : (if b.testBit k then s ^^^ o else s) < 2 ^ n := by
      split
      · exact xor_lt hs ho
      · exact hs
    have h4 : cg m (if b.testBit k then s ^^^ o else s) (clN a b (k + 1)) := by
      show cg m _ (clN a b k ^^^ _)
      split
      · exact cg_add h2 h1
      · rw [Nat.xor_zero]; exact h2
    have := fmL_ok hm j (k + 1) _ _ g1 hs' h3 h4
    rwa [show k + 1 + j = k + (j + 1) by omega] at this
theorem fm_ok {n m a b : Nat} (hm : MDg n m) (ha : a < 2 ^ n) (hb : b < 2 ^ n) : fm n m a b < 2 ^ n ∧ cg m (fm n m a b) (cl a b) := by
  have := fmL_ok (a := a) (b := b) hm n 0 0 a ha (Nat.two_pow_pos n) (by rw [Nat.shiftLeft_zero]; exact cg_rf _ _) (cg_rf _ _)
  rw [Nat.zero_add, clN_eq hb] at this
  exact this
theorem fm_lt {n m a b : Nat} (hm : MDg n m) (ha : a < 2 ^ n) (hb : b < 2 ^ n) : fm n m a b < 2 ^ n := (fm_ok hm ha hb).1
theorem fm_eq {n m a b r : Nat} (hm : MDg n m) (ha : a < 2 ^ n) (hb : b < 2 ^ n) (hr : r < 2 ^ n) (h : cg m r (cl a b)) : fm n m a b = r :=
  cg_small hm.2.1 (fm_lt hm ha hb) hr (cg_tr (fm_ok hm ha hb).2 (cg_sy h))
theorem fm_comm {n m a b : Nat} (hm : MDg n m) (ha : a < 2 ^ n) (hb : b < 2 ^ n) : fm n m a b = fm n m b a :=
  fm_eq hm ha hb (fm_lt hm hb ha) (by rw [cl_comm a b]; exact (fm_ok hm hb ha).2)
theorem fm_assoc {n m a b c : Nat} (hm : MDg n m) (ha : a < 2 ^ n) (hb : b < 2 ^ n) (hc : c < 2 ^ n) : fm n m (fm n m a b) c = fm n m a (fm n m b c) := by
  refine fm_eq hm (fm_lt hm ha hb) hc (fm_lt hm ha (fm_lt hm hb hc)) ?_
  refine cg_tr (fm_ok hm ha (fm_lt hm hb hc)).2 ?_
  refine cg_tr (cg_mul (cg_rf m a) (fm_ok hm hb hc).2) ?_
  rw [← cl_assoc]
  exact cg_mul (cg_sy (fm_ok hm ha hb).2) (cg_rf m c)
theorem fm_addl {n m a b c : Nat} (hm : MDg n m) (ha : a < 2 ^ n) (hb : b < 2 ^ n) (hc : c < 2 ^ n) : fm n m (a ^^^ b) c = fm n m a c ^^^ fm n m b c :=
  fm_eq hm (xor_lt ha hb) hc (xor_lt (fm_lt hm ha hc) (fm_lt hm hb hc)) (by rw [cl_al]; exact cg_add (fm_ok hm ha hc).2 (fm_ok hm hb hc).2)
theorem fm_addr {n m a b c : Nat} (hm : MDg n m) (ha : a < 2 ^ n) (hb : b < 2 ^ n) (hc : c < 2 ^ n) : fm n m c (a ^^^ b) = fm n m c a ^^^ fm n m c b :=
  fm_eq hm hc (xor_lt ha hb) (xor_lt (fm_lt hm hc ha) (fm_lt hm hc hb)) (by rw [cl_ar]; exact cg_add (fm_ok hm hc ha).2 (fm_ok hm hc hb).2)
theorem one_lt {n m : Nat} (hm : MDg n m) : 1 < 2 ^ n := Nat.one_lt_two_pow (by have := hm.1; omega)
theorem zero_lt2 (n : Nat) : 0 < 2 ^ n := Nat.two_pow_pos n
theorem fm_1r {n m a : Nat} (hm : MDg n m) (ha : a < 2 ^ n) : fm n m a 1 = a := fm_eq hm ha (one_lt hm) ha (by rw [cl_1r]; exact cg_rf _ _)
theorem fm_1l {n m a : Nat} (hm : MDg n m) (ha : a < 2 ^ n) : fm n m 1 a = a := fm_eq hm (one_lt hm) ha ha (by rw [cl_1l]; exact cg_rf _ _)
theorem fm_0r {n m a : Nat} (hm : MDg n m) (ha : a < 2 ^ n) : fm n m a 0 = 0 := fm_eq hm ha (zero_lt2 n) (zero_lt2 n) (by rw [cl_0r]; exact cg_rf _ _)
theorem fm_0l {n m a : Nat} (hm : MDg n m) (ha : a < 2 ^ n) : fm n m 0 a = 0 := fm_eq hm (zero_lt2 n) ha (zero_lt2 n) (by rw [cl_0l]; exact cg_rf _ _)
/-! what cannot be split -/
def irr (m : Nat) : Prop := ∀ a b, cl a b = m → a = 1 ∨ b = 1
/-- a modulus of the field n -/
def MOD (n m : Nat) : Prop := MDg n m ∧ irr m
theorem pdvd_rf (a : Nat) : pdvd a a := ⟨1, by rw [cl_1l]⟩
theorem pdvd_mul {g a : Nat} (q : Nat) (h : pdvd g a) : pdvd g (cl q a) := by
  obtain ⟨r, hr⟩ := h
  exact ⟨cl q r, by rw [hr, cl_assoc]⟩
theorem pdvd_add {g a b : Nat} (h1 : pdvd g a) (h2 : pdvd g b) : pdvd g (a ^^^ b) := by
  obtain ⟨q, hq⟩ := h1
  obtain ⟨r, hr⟩ := h2
  exact ⟨q ^^^ r, by rw [cl_al, hq, hr]⟩
theorem divis {a m : Nat} (ha : a ≠ 0) : ∃ q r, m = cl q a ^^^ r ∧ r < a := by
  obtain ⟨i, h1, h2⟩ := dg_ex ha
  obtain ⟨g1, g2, -⟩ := prd_ok h1 h2 m m (Nat.lt_of_lt_of_le (lt_self m) (pow_le (Nat.le_add_left _ _)))
  exact ⟨_, _, g2, Nat.lt_of_lt_of_le g1 h1⟩
theorem bez : ∀ (N a m : Nat), a ≤ N → ∃ g u v, g = cl u a ^^^ cl v m ∧ pdvd g a ∧ pdvd g m := by
  intro N
  induction N with
  | zero =>
    intro a m ha
    have : a = 0 := by omega
    subst this
    exact ⟨m, 0, 1, by rw [cl_0l, cl_1l, Nat.zero_xor], ⟨0, (cl_0l m).symm⟩, pdvd_rf m⟩
  | succ N ih =>
    intro a m ha
    rcases Nat.eq_zero_or_pos a with z | z
    · subst z
      exact ⟨m, 0, 1, by rw [cl_0l, cl_1l, Nat.zero_xor], ⟨0, (cl_0l m).symm⟩, pdvd_rf m⟩
    · obtain ⟨q, r, hqr, hlt⟩ := divis (a := a) (m := m) (by omega)
      obtain ⟨g, u, v, h1, h2, h3⟩ := ih r a (by omega)
      refine ⟨g, cl u q ^^^ v, u, ?_, h3, ?_⟩
      · have hr : r = m ^^^ cl q a := by rw [hqr, Nat.xor_comm (cl q a), xor_xc]
        rw [h1, hr, cl_ar, cl_al, cl_assoc, Nat.xor_comm (cl u m), Nat.xor_assoc, Nat.xor_assoc, Nat.xor_comm (cl u m)]
      · rw [hqr]
        exact pdvd_add (pdvd_mul q h3) h2
theorem not_dvd_small {n m a : Nat} (hm : MDg n m) (ha : a < 2 ^ n) (h0 : a ≠ 0) : ¬ pdvd m a := fun h => h0 (cg_small hm.2.1 ha (zero_lt2 n) (by unfold cg; rw [Nat.xor_zero]; exact h))
theorem inv_ex {n m a : Nat} (hM : MOD n m) (ha : a < 2 ^ n) (h0 : a ≠ 0) : ∃ b, b < 2 ^ n ∧ fm n m a b = 1 := by
  obtain ⟨hm, hi⟩ := hM
  obtain ⟨g, u, v, h1, h2, q, hq⟩ := bez a a m (Nat.le_refl a)
  rcases hi q g hq.symm with w | w
  · exfalso
    rw [w, cl_1l] at hq
    rw [← hq] at h2
    exact not_dvd_small hm ha h0 h2
  · subst w
    have hu : u < 2 ^ (n + u) := Nat.lt_of_lt_of_le (lt_self u) (pow_le (Nat.le_add_left _ _))
    obtain ⟨g1, -, -⟩ := prd_ok hm.2.1 hm.2.2 u u hu
    refine ⟨prd m n u u, g1, fm_eq hm ha g1 (one_lt hm) ?_⟩
    have e1 : cg m 1 (cl u a) := ⟨v, by rw [h1, Nat.xor_comm (cl u a), xor_xc]⟩
    refine cg_tr e1 ?_
    rw [cl_comm u a]
    exact cg_mul (cg_rf m a) (cg_prd hm.2.1 hm.2.2 hu)
theorem fm_dom {n m a b : Nat} (hM : MOD n m) (ha : a < 2 ^ n) (hb : b < 2 ^ n) (h : fm n m a b = 0) : a = 0 ∨ b = 0 := by
  rcases Nat.eq_zero_or_pos a with z | z
  · exact Or.inl z
  · right
    obtain ⟨c, hc, he⟩ := inv_ex hM ha (by omega)
    have hm := hM.1
    have : fm n m c (fm n m a b) = b := by rw [← fm_assoc hm hc ha hb, fm_comm hm hc ha, he, fm_1l hm hb]
    rw [← this, h, fm_0r hm hc]
theorem fm_cancel {n m a b c : Nat} (hM : MOD n m) (ha : a < 2 ^ n) (hb : b < 2 ^ n) (hc : c < 2 ^ n) (h0 : c ≠ 0) (h : fm n m a c = fm n m b c) : a = b := by
  have h1 : fm n m (a ^^^ b) c = 0 := by rw [fm_addl hM.1 ha hb hc, h, Nat.xor_self]
  rcases fm_dom hM (xor_lt ha hb) hc h1 with w | w
  · exact xor_eq0 w
  · exact absurd w h0
/-! powers -/
def fpw (n m a : Nat) : Nat → Nat
  | 0 => 1
  | k + 1 => fm n m (fpw n m a k) a
theorem fpw_lt {n m a : Nat} (hm : MDg n m) (ha : a < 2 ^ n) : ∀ k, fpw n m a k < 2 ^ n
  | 0 => one_lt hm
  | k + 1 => fm_lt hm (fpw_lt hm ha k) ha
theorem fpw_1 {n m a : Nat} (hm : MDg n m) (ha : a < 2 ^ n) : fpw n m a 1 = a := fm_1l hm ha
theorem fpw_add {n m a : Nat} (hm : MDg n m) (ha : a < 2 ^ n) (i : Nat) : ∀ j, fpw n m a (i + j) = fm n m (fpw n m a i) (fpw n m a j)
  | 0 => (fm_1r hm (fpw_lt hm ha i)).symm
  | j + 1 => by
    show fm n m (fpw n m a (i + j)) a = fm n m _ (fm n m (fpw n m a j) a)
    rw [fpw_add hm ha i j, fm_assoc hm (fpw_lt hm ha i) (fpw_lt hm ha j) ha]
theorem fpw_mul {n m a : Nat} (hm : MDg n m) (ha : a < 2 ^ n) (i : Nat) : ∀ j, fpw n m a (i * j) = fpw n m (fpw n m a i) j
  | 0 => rfl
  | j + 1 => by
    rw [Nat.mul_succ, fpw_add hm ha, fpw_mul hm ha i j]
    rfl
theorem fm_4 {n m a b c d : Nat} (hm : MDg n m) (ha : a < 2 ^ n) (hb : b < 2 ^ n) (hc : c < 2 ^ n) (hd : d < 2 ^ n) : fm n m (fm n m a b) (fm n m c d) = fm n m (fm n m a c) (fm n m b d) := by
  rw [fm_assoc hm ha hb (fm_lt hm hc hd), ← fm_assoc hm hb hc hd, fm_comm hm hb hc, fm_assoc hm hc hb hd, ← fm_assoc hm ha hc (fm_lt hm hb hd)]
theorem fpw_fm {n m a b : Nat} (hm : MDg n m) (ha : a < 2 ^ n) (hb : b < 2 ^ n) : ∀ k, fpw n m (fm n m a b) k = fm n m (fpw n m a k) (fpw n m b k)
  | 0 => (fm_1r hm (one_lt hm)).symm
  | k + 1 => by
    show fm n m (fpw n m (fm n m a b) k) (fm n m a b) = fm n m (fm n m _ a) (fm n m _ b)
    rw [fpw_fm hm ha hb k, fm_4 hm (fpw_lt hm ha k) (fpw_lt hm hb k) ha hb]
theorem fpw_one {n m : Nat} (hm : MDg n m) : ∀ k, fpw n m 1 k = 1
  | 0 => rfl
  | k + 1 => by show fm n m (fpw n m 1 k) 1 = 1; rw [fpw_one hm k, fm_1r hm (one_lt hm)]
theorem fpw_ne0 {n m a : Nat} (hM : MOD n m) (ha : a < 2 ^ n) (h0 : a ≠ 0) : ∀ k, fpw n m a k ≠ 0
  | 0 => by show (1 : Nat) ≠ 0; decide
  | k + 1 => fun h => by
    rcases fm_dom hM (fpw_lt hM.1 ha k) ha h with w | w
    · exact fpw_ne0 hM ha h0 k w
    · exact h0 w
theorem fpw_0 {n m : Nat} (hm : MDg n m) {k : Nat} (hk : k ≠ 0) : fpw n m 0 k = 0 := by
  cases k with
  | zero => exact absurd rfl hk
  | succ k => exact fm_0r hm (fpw_lt hm (zero_lt2 n) k)
/-! squares -/
def sqn (n m : Nat) : Nat → Nat → Nat
  | 0, a => a
  | k + 1, a => sqn n m k (fm n m a a)
theorem sqn_lt {n m : Nat} (hm : MDg n m) : ∀ (k a : Nat), a < 2 ^ n → sqn n m k a < 2 ^ n
  | 0, _, ha => ha
  | k + 1, _, ha => sqn_lt hm k _ (fm_lt hm ha ha)
theorem sqn_succ {n m : Nat} : ∀ (k a : Nat), sqn n m (k + 1) a = fm n m (sqn n m k a) (sqn n m k a)
  | 0, _ => rfl
  | k + 1, a => sqn_succ k (fm n m a a)
theorem sqn_add {n m : Nat} : ∀ (i j a : Nat), sqn n m (i + j) a = sqn n m j (sqn n m i a)
  | 0, j, a => by rw [Nat.zero_add]; rfl
  | i + 1, j, a => by rw [show i + 1 + j = (i + j) + 1 by omega]; exact sqn_add i j (fm n m a a)
theorem sqn_pw {n m : Nat} (hm : MDg n m) : ∀ (k a : Nat), a < 2 ^ n → sqn n m k a = fpw n m a (2 ^ k)
  | 0, a, ha => (fpw_1 hm ha).symm
  | k + 1, a, ha => by
    rw [sqn_succ, sqn_pw hm k a ha, ← fpw_add hm ha]
    congr 1
    rw [Nat.pow_succ]
    omega
theorem sq_add {n m a b : Nat} (hm : MDg n m) (ha : a < 2 ^ n) (hb : b < 2 ^ n) : fm n m (a ^^^ b) (a ^^^ b) = fm n m a a ^^^ fm n m b b := by
  rw [fm_addl hm ha hb (xor_lt ha hb), fm_addr hm ha hb ha, fm_addr hm ha hb hb, fm_comm hm hb ha, Nat.xor_assoc, xor_cx]
theorem sqn_xor {n m : Nat} (hm : MDg n m) : ∀ (k a b : Nat), a < 2 ^ n → b < 2 ^ n → sqn n m k (a ^^^ b) = sqn n m k a ^^^ sqn n m k b
  | 0, _, _, _, _ => rfl
  | k + 1, a, b, ha, hb => by
    show sqn n m k (fm n m (a ^^^ b) (a ^^^ b)) = _
    rw [sq_add hm ha hb, sqn_xor hm k _ _ (fm_lt hm ha ha) (fm_lt hm hb hb)]
    rfl
theorem sqn_fm {n m : Nat} (hm : MDg n m) : ∀ (k a b : Nat), a < 2 ^ n → b < 2 ^ n → sqn n m k (fm n m a b) = fm n m (sqn n m k a) (sqn n m k b)
  | 0, _, _, _, _ => rfl
  | k + 1, a, b, ha, hb => by
    show sqn n m k (fm n m (fm n m a b) (fm n m a b)) = _
    rw [fm_4 hm ha hb ha hb, sqn_fm hm k _ _ (fm_lt hm ha ha) (fm_lt hm hb hb)]
    rfl
theorem sqn_1 {n m : Nat} (hm : MDg n m) (k : Nat) : sqn n m k 1 = 1 := by rw [sqn_pw hm k 1 (one_lt hm), fpw_one hm]
theorem sqn_0 {n m : Nat} (hm : MDg n m) (k : Nat) : sqn n m k 0 = 0 := by rw [sqn_pw hm k 0 (zero_lt2 n), fpw_0 hm (Nat.ne_of_gt (Nat.two_pow_pos k))]
