/-! SPANS -/
theorem lin_cmb {f : Nat → Nat} {n : Nat} (h0 : f 0 = 0) (hx : ∀ a b, a < 2 ^ n → b < 2 ^ n → f (a ^^^ b) = f a ^^^ f b) {a : Nat} (ha : a < 2 ^ n) : f a = cmb (fun k => f (2 ^ k)) n a := by
  have key : ∀ k, k ≤ n → f (a % 2 ^ k) = cmb (fun k => f (2 ^ k)) k a := by
    intro k
    induction k with
    | zero => intro _; rw [Nat.pow_zero, Nat.mod_one]; exact h0
    | succ k ih =>
      intro hk
      have h1 : a % 2 ^ k < 2 ^ n := Nat.lt_of_lt_of_le (Nat.mod_lt _ (Nat.two_pow_pos k)) (pow_le (by omega))
      have h2 : (if a.testBit k then 2 ^ k else 0) < 2 ^ n := by
        split
        · exact Nat.pow_lt_pow_right (by decide) (by omega)
        · exact Nat.two_pow_pos n
      rw [mod_succ, hx _ _ h1 h2, ih (by omega)]
      show _ = _ ^^^ _
      congr 1
      split
      · rfl
      · exact h0
  have := key n (Nat.le_refl n)
  rwa [Nat.mod_eq_of_lt ha] at this
theorem cmb_lin {f : Nat → Nat} {n : Nat} (h0 : f 0 = 0) (hx : ∀ a b, a < 2 ^ n → b < 2 ^ n → f (a ^^^ b) = f a ^^^ f b) {r : Nat → Nat} (c : Nat) : ∀ k, (∀ i, i < k → r i < 2 ^ n) → f (cmb r k c) = cmb (fun i => f (r i)) k c
  | 0, _ => h0
  | k + 1, h => by
    have h2 : (if c.testBit k then r k else 0) < 2 ^ n := by
      split
      · exact h k (by omega)
      · exact Nat.two_pow_pos n
    show f (cmb r k c ^^^ _) = _ ^^^ _
    rw [hx _ _ (cmb_lt k (fun i hi => h i (by omega))) h2, cmb_lin h0 hx c k (fun i hi => h i (by omega))]
    congr 1
    split
    · rfl
    · exact h0
/-- it is a sum of some of the rows -/
def spn (r : Nat → Nat) (k v : Nat) : Prop := ∃ c, c < 2 ^ k ∧ cmb r k c = v
/-- the class's rows: echelon, what each is made of -/
def SPI (rows src r : Nat → Nat) (cnt : Nat) : Prop := shE rows ∧ (∀ k, rows k = cmb r cnt (src k)) ∧ (∀ k, src k < 2 ^ cnt) ∧ (∀ i, i < cnt → inE rows 12 (r i))
theorem SPI_0 (r : Nat → Nat) : SPI (fun _ => 0) (fun _ => 0) r 0 := ⟨fun _ => Or.inl rfl, fun _ => rfl, fun _ => Nat.one_pos, fun i h => by omega⟩
theorem inE_cmb {rows r : Nat → Nat} : ∀ k c, (∀ i, i < k → inE rows 12 (r i)) → inE rows 12 (cmb r k c)
  | 0, _, _ => inE_0 _ _
  | k + 1, c, h => by
    refine inE_xor _ _ _ (inE_cmb k c (fun i hi => h i (by omega))) ?_
    split
    · exact h k (by omega)
    · exact inE_0 _ _
theorem inE_spn {rows src r : Nat → Nat} {cnt : Nat} (h2 : ∀ k, rows k = cmb r cnt (src k)) (h3 : ∀ k, src k < 2 ^ cnt) : ∀ k v, inE rows k v → spn r cnt v
  | 0, v, h => ⟨0, Nat.two_pow_pos _, by rw [cmb_0]; exact (show v = 0 from h).symm⟩
  | k + 1, v, h => by
    rcases h with h | ⟨-, h⟩
    · exact inE_spn h2 h3 k v h
    · obtain ⟨c, hc, he⟩ := inE_spn h2 h3 k _ h
      exact ⟨c ^^^ src k, xor_lt hc (h3 k), by rw [cmb_xor, he, ← h2 k, xor_xc]⟩
theorem SPI.iff {rows src r : Nat → Nat} {cnt : Nat} (h : SPI rows src r cnt) (v : Nat) : inE rows 12 v ↔ spn r cnt v := by
  constructor
  · exact inE_spn h.2.1 h.2.2.1 12 v
  · rintro ⟨c, -, rfl⟩
    exact inE_cmb cnt c h.2.2.2
theorem spR_lt {rows src : Nat → Nat} {N : Nat} (hs : ∀ k, src k < 2 ^ N) : ∀ k v s, s < 2 ^ N → (spR rows src k v s).2.2 < 2 ^ N
  | 0, _, _, h => h
  | k + 1, v, s, h => by
    unfold spR
    split
    · split
      · exact h
      · exact spR_lt hs k _ _ (xor_lt h (hs k))
    · exact spR_lt hs k v s h
/-- a row is a sum of those before it: nothing changes but how many came -/
theorem SPI.no {rows src r : Nat → Nat} {cnt : Nat} (h : SPI rows src r cnt) (hv : r cnt < 2 ^ 12) (h0 : (spR rows src 12 (r cnt) (2 ^ cnt)).1 = 0) : SPI rows src r (cnt + 1) ∧ spn r cnt (r cnt) := by
  obtain ⟨a, b, c, d⟩ := h
  have hin : inE rows 12 (r cnt) := by
    rcases spR_ok a b 12 (r cnt) (2 ^ cnt) hv with ⟨-, -, q⟩ | ⟨j, -, q, -⟩
    · exact q
    · omega
  refine ⟨⟨a, fun k => ?_, fun k => Nat.lt_of_lt_of_le (c k) (pow_le (by omega)), fun i hi => ?_⟩, inE_spn b c 12 _ hin⟩
  · rw [cmb_st (j := 1) (c k)]
    exact b k
  · rcases Nat.eq_or_lt_of_le (Nat.le_of_lt_succ hi) with rfl | w
    · exact hin
    · exact d i w
/-- a new row -/
theorem SPI.yes {rows src r : Nat → Nat} {cnt j : Nat} (h : SPI rows src r cnt) (hv : r cnt < 2 ^ 12) (h0 : (spR rows src 12 (r cnt) (2 ^ cnt)).1 = j + 1) :
    j < 12 ∧ SPI (fun k => if k = j then (spR rows src 12 (r cnt) (2 ^ cnt)).2.1 else rows k) (fun k => if k = j then (spR rows src 12 (r cnt) (2 ^ cnt)).2.2 else src k) r (cnt + 1) ∧ ¬ spn r cnt (r cnt) := by
  obtain ⟨a, b, c, d⟩ := h
  have hs : SPI rows src r cnt := ⟨a, b, c, d⟩
  rcases spR_ok a b 12 (r cnt) (2 ^ cnt) hv with ⟨q, -⟩ | ⟨i, q1, q2, q3, q4, q5, q6, u, q7, q8⟩
  · omega
  have e : i = j := by omega
  subst e
  have bb : ∀ k, rows k = cmb r (cnt + 1) (src k) := fun k => by rw [cmb_st (j := 1) (c k)]; exact b k
  have hsrc := spR_src bb 12 (r cnt) (2 ^ cnt)
  have htop : cmb r (cnt + 1) (2 ^ cnt) = r cnt := by
    have := cmb_top r cnt 0
    rwa [Nat.xor_zero, cmb_0, Nat.xor_zero] at this
  rw [htop, Nat.xor_self] at hsrc
  have hsrc := xor_eq0 hsrc
  refine ⟨q1, ⟨fun k => ?_, fun k => ?_, fun k => ?_, fun k hk => ?_⟩, fun q => q6 ((hs.iff _).mpr q)⟩
  · by_cases hk : k = i
    · subst hk
      show (if k = k then _ else _) = 0 ∨ _ ≤ (if k = k then _ else _) ∧ (if k = k then _ else _) < _
      rw [if_pos rfl]
      exact Or.inr ⟨q4, q5⟩
    · show (if k = i then _ else _) = 0 ∨ _ ≤ (if k = i then _ else _) ∧ (if k = i then _ else _) < _
      rw [if_neg hk]
      exact a k
  · show (if k = i then _ else _) = cmb r (cnt + 1) (if k = i then _ else _)
    by_cases hk : k = i
    · rw [if_pos hk, if_pos hk]
      exact hsrc
    · rw [if_neg hk, if_neg hk]
      exact bb k
  · show (if k = i then _ else _) < 2 ^ (cnt + 1)
    split
    · exact spR_lt (fun k => Nat.lt_of_lt_of_le (c k) (pow_le (by omega))) 12 _ _ (Nat.pow_lt_pow_right (by decide) (by omega))
    · exact Nat.lt_of_lt_of_le (c k) (pow_le (by omega))
  · rcases Nat.eq_or_lt_of_le (Nat.le_of_lt_succ hk) with rfl | w
    · have h1 := inE_up (x := (spR rows src 12 (r k) (2 ^ k)).2.1) q3 12 u q7
      have h2 := inE_row (rows := fun l => if l = i then (spR rows src 12 (r k) (2 ^ k)).2.1 else rows l) (i := i) 12 q1
      simp only [if_pos] at h2
      rw [q8]
      have h3 := inE_xor 12 _ _ h1 h2
      rw [← q8] at h3 ⊢
      exact h3
    · exact inE_up q3 12 _ (d k w)
/-- what is expressed -/
theorem SPI.ex {rows src r : Nat → Nat} {cnt v : Nat} (h : SPI rows src r cnt) (hv : v < 2 ^ 12) :
    ((spR rows src 12 v 0).1 = 0 ∧ (spR rows src 12 v 0).2.2 < 2 ^ cnt ∧ cmb r cnt (spR rows src 12 v 0).2.2 = v) ∨ ((spR rows src 12 v 0).1 ≠ 0 ∧ ¬ spn r cnt v) := by
  obtain ⟨a, b, c, d⟩ := h
  have hs : SPI rows src r cnt := ⟨a, b, c, d⟩
  have hsrc := spR_src b 12 v 0
  rw [cmb_0, Nat.xor_zero] at hsrc
  rcases spR_ok a b 12 v 0 hv with ⟨q1, q2, q3⟩ | ⟨i, q1, q2, q3, q4, q5, q6, u, q7, q8⟩
  · left
    rw [q2, Nat.zero_xor] at hsrc
    exact ⟨q1, spR_lt c 12 v 0 (Nat.two_pow_pos _), hsrc⟩
  · right
    exact ⟨by omega, fun q => q6 ((hs.iff v).mpr q)⟩
theorem indep_uq {r : Nat → Nat} {k c d : Nat} (h : indep r k) (hc : c < 2 ^ k) (hd : d < 2 ^ k) (he : cmb r k c = cmb r k d) : c = d :=
  xor_eq0 (h _ (xor_lt hc hd) (by rw [cmb_xor, he, Nat.xor_self]))
theorem indep_cg {r s : Nat → Nat} {k : Nat} (h : ∀ i, i < k → r i = s i) : indep r k ↔ indep s k := by
  have e : ∀ c, cmb r k c = cmb s k c := fun c => cmb_cg k (fun i hi => ⟨h i hi, rfl⟩)
  unfold indep
  exact ⟨fun q c hc h0 => q c hc (by rw [e c]; exact h0), fun q c hc h0 => q c hc (by rw [← e c]; exact h0)⟩
theorem indep_le {r : Nat → Nat} {k l : Nat} (h : indep r k) (hl : l ≤ k) : indep r l := by
  intro c hc h0
  obtain ⟨j, rfl⟩ := Nat.le.dest hl
  exact h c (Nat.lt_of_lt_of_le hc (pow_le (by omega))) (by rw [cmb_st hc]; exact h0)
theorem indep_sur {r : Nat → Nat} {n y : Nat} (h : indep r n) (hr : ∀ i, i < n → r i < 2 ^ n) (hy : y < 2 ^ n) : ∃ c, c < 2 ^ n ∧ cmb r n c = y :=
  php (2 ^ n) (cmb r n) (fun _ _ => cmb_lt n hr) (fun _ _ hi hj e => indep_uq h hi hj e) y hy
theorem sur_inj {N : Nat} {f : Nat → Nat} (h : ∀ y, y < N → ∃ i, i < N ∧ f i = y) (hl : ∀ i, i < N → f i < N) {i j : Nat} (hi : i < N) (hj : j < N) (he : f i = f j) : i = j := by
  have g : ∀ y, y < N → fnd (fun i => f i == y) N 0 < N ∧ f (fnd (fun i => f i == y) N 0) = y := by
    intro y hy
    obtain ⟨i, hi, he⟩ := h y hy
    obtain ⟨-, b, c, -⟩ := fnd_ok (p := fun i => f i == y) N 0 i (by omega) (by omega) (by simp [he])
    exact ⟨Nat.lt_of_le_of_lt b hi, eq_of_beq c⟩
  have s := php N (fun y => fnd (fun i => f i == y) N 0) (fun y hy => (g y hy).1) (fun y z hy hz e => by
    have e : fnd (fun i => f i == y) N 0 = fnd (fun i => f i == z) N 0 := e
    rw [← (g y hy).2, e, (g z hz).2])
  obtain ⟨y, hy, e1⟩ := s i hi
  obtain ⟨z, hz, e2⟩ := s j hj
  have e1 : fnd (fun i => f i == y) N 0 = i := e1
  have e2 : fnd (fun i => f i == z) N 0 = j := e2
  have a := (g y hy).2
  have b := (g z hz).2
  rw [e1] at a
  rw [e2] at b
  have : y = z := by omega
  subst this
  omega
theorem sur_indep {r : Nat → Nat} {n : Nat} (hr : ∀ i, i < n → r i < 2 ^ n) (h : ∀ y, y < 2 ^ n → ∃ c, c < 2 ^ n ∧ cmb r n c = y) : indep r n := by
  intro c hc h0
  exact sur_inj h (fun _ _ => cmb_lt n hr) hc (Nat.two_pow_pos n) (by rw [h0, cmb_0])
/-! the reference's rows: each without the highest bits of those before it -/
theorem cmb_bit {row : Nat → Nat} {e t i : Nat} : ∀ k, i < k → (∀ j, j < k → j ≠ i → e.testBit j = false ∨ (row j).testBit t = false) → (row i).testBit t = true → (cmb row k e).testBit t = e.testBit i
  | 0, h, _, _ => by omega
  | k + 1, h, h1, h2 => by
    show (cmb row k e ^^^ _).testBit t = _
    rw [Nat.testBit_xor]
    rcases Nat.eq_or_lt_of_le (Nat.le_of_lt_succ h) with rfl | w
    · have z : ∀ l, l ≤ i → (cmb row l e).testBit t = false := by
        intro l
        induction l with
        | zero => intro _; exact Nat.zero_testBit _
        | succ l ih =>
          intro hl
          show (cmb row l e ^^^ _).testBit t = false
          rw [Nat.testBit_xor, ih (by omega)]
          rcases h1 l (by omega) (by omega) with q | q
          · rw [q]; simp
          · split
            · rw [q]; rfl
            · simp
      rw [z i (Nat.le_refl i)]
      cases hb : e.testBit i
      · simp
      · rw [if_pos rfl, h2]; rfl
    · rw [cmb_bit k w (fun j hj => h1 j (by omega)) h2]
      rcases h1 k (by omega) (by omega) with q | q
      · rw [q]; simp
      · split
        · rw [q]; simp
        · simp
def ELI (row made r : Nat → Nat) (n k : Nat) : Prop := (∀ i, i < k → row i ≠ 0 ∧ row i < 2 ^ n) ∧ (∀ i, i < k → row i = cmb r n (made i) ∧ made i < 2 ^ (i + 1)) ∧ (∀ i j, i < j → j < k → (row j).testBit (row i).log2 = false)
theorem ELI.ind {row made r : Nat → Nat} {n k : Nat} (h : ELI row made r n k) : indep row k := by
  intro e he h0
  obtain ⟨a, -, c⟩ := h
  have key : ∀ i, i < k → e.testBit i = false := by
    intro i
    induction i using Nat.strongRecOn with
    | _ i ih =>
      intro hi
      have := cmb_bit (row := row) (e := e) (t := (row i).log2) (i := i) k hi (fun j hj hne => by
        rcases Nat.lt_or_gt_of_ne hne with w | w
        · exact Or.inl (ih j w hj)
        · exact Or.inr (c i j w hj)) (tb_top (Nat.log2_self_le (a i hi).1) Nat.lt_log2_self)
      rw [h0, Nat.zero_testBit] at this
      exact this.symm
  apply Nat.eq_of_testBit_eq
  intro i
  rw [Nat.zero_testBit]
  rcases Nat.lt_or_ge i k with w | w
  · exact key i w
  · exact tb_lt he w
theorem ELI.all {row made r : Nat → Nat} {n : Nat} (h : ELI row made r n n) (hr : ∀ i, i < n → r i < 2 ^ n) : indep r n := by
  refine sur_indep hr (fun y hy => ?_)
  obtain ⟨c, hc, he⟩ := indep_sur h.ind (fun i hi => (h.1 i hi).2) hy
  have key : ∀ k, k ≤ n → ∃ d, d < 2 ^ n ∧ cmb r n d = cmb row k c := by
    intro k
    induction k with
    | zero => intro _; exact ⟨0, Nat.two_pow_pos n, cmb_0 r n⟩
    | succ k ih =>
      intro hk
      obtain ⟨d, hd, e⟩ := ih (by omega)
      by_cases hb : c.testBit k
      · refine ⟨d ^^^ made k, xor_lt hd (Nat.lt_of_lt_of_le (h.2.1 k (by omega)).2 (pow_le (by omega))), ?_⟩
        show _ = cmb row k c ^^^ _
        rw [cmb_xor, e, if_pos hb, ← (h.2.1 k (by omega)).1]
      · refine ⟨d, hd, ?_⟩
        show _ = cmb row k c ^^^ _
        rw [if_neg hb, Nat.xor_zero]
        exact e
  obtain ⟨d, hd, e⟩ := key n (Nat.le_refl n)
  exact ⟨d, hd, by rw [e, he]⟩
theorem ELI.deg {row made r : Nat → Nat} {n : Nat} (h : ELI row made r n n) {d : Nat} (hd : d < n) : ∃ i, i < n ∧ (row i).log2 = d := by
  refine php n (fun i => (row i).log2) (fun i hi => ?_) (fun i j hi hj e => ?_) d hd
  · have h1 := Nat.log2_self_le (h.1 i hi).1
    have h2 := (h.1 i hi).2
    rcases Nat.lt_or_ge (row i).log2 n with w | w
    · exact w
    · have := pow_le w
      omega
  · have e : (row i).log2 = (row j).log2 := e
    have t := fun i hi => tb_top (Nat.log2_self_le (h.1 i hi).1) (Nat.lt_log2_self (n := row i))
    rcases Nat.lt_trichotomy i j with w | w | w
    · have := h.2.2 i j w hj
      rw [e, t j hj] at this
      cases this
    · exact w
    · have := h.2.2 j i w hi
      rw [← e, t i hi] at this
      cases this
