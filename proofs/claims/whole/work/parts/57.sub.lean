/-! the first number from a place on -/
def fnd (p : Nat → Bool) : Nat → Nat → Nat
  | 0, i => i
  | j + 1, i => if p i then i else fnd p j (i + 1)
theorem fnd_ok {p : Nat → Bool} : ∀ j i k, i ≤ k → k < i + j → p k = true → i ≤ fnd p j i ∧ fnd p j i ≤ k ∧ p (fnd p j i) = true ∧ ∀ l, i ≤ l → l < fnd p j i → p l = false
  | 0, i, k, h1, h2, _ => by omega
  | j + 1, i, k, h1, h2, h3 => by
    unfold fnd
    by_cases h : p i = true
    · rw [if_pos h]
      exact ⟨Nat.le_refl i, h1, h, fun l a b => by omega⟩
    · rw [if_neg h]
      have hk : i ≠ k := fun e => h (by rw [e]; exact h3)
      obtain ⟨a, b, c, d⟩ := fnd_ok j (i + 1) k (by omega) (by omega) h3
      refine ⟨by omega, b, c, fun l e f => ?_⟩
      rcases Nat.eq_or_lt_of_le e with rfl | w
      · simpa using h
      · exact d l w f
theorem fnd_uq {p : Nat → Bool} {j i k : Nat} (h1 : i ≤ k) (h2 : k < i + j) (h3 : p k = true) (h4 : ∀ l, i ≤ l → l < k → p l = false) : fnd p j i = k := by
  obtain ⟨a, b, c, d⟩ := fnd_ok j i k h1 h2 h3
  rcases Nat.eq_or_lt_of_le b with w | w
  · exact w
  · rw [h4 _ a w] at c
    cases c
theorem fnd_no {p : Nat → Bool} : ∀ j i, (∀ k, i ≤ k → k < i + j → p k = false) → fnd p j i = i + j
  | 0, _, _ => rfl
  | j + 1, i, h => by
    unfold fnd
    rw [h i (Nat.le_refl i) (by omega), if_neg (by decide), fnd_no j (i + 1) (fun k a b => h k (by omega) (by omega))]
    omega
theorem fnd_cg {p q : Nat → Bool} : ∀ j i, (∀ k, i ≤ k → k < i + j → p k = q k) → fnd p j i = fnd q j i
  | 0, _, _ => rfl
  | j + 1, i, h => by
    unfold fnd
    rw [h i (Nat.le_refl i) (by omega), fnd_cg j (i + 1) (fun k a b => h k (by omega) (by omega))]
/-! logarithms -/
def lgF (n m g a : Nat) : Nat := fnd (fun i => fpw n m g i == a) (2 ^ n - 1) 0
theorem lgF_ok {n m g a : Nat} (hM : MOD n m) (hp : prim n m g) (ha : a < 2 ^ n) (h0 : a ≠ 0) : lgF n m g a < 2 ^ n - 1 ∧ fpw n m g (lgF n m g a) = a := by
  obtain ⟨i, hi, he⟩ := cyc hM hp ha h0
  obtain ⟨-, b, c, -⟩ := fnd_ok (p := fun i => fpw n m g i == a) (2 ^ n - 1) 0 i (by omega) (by omega) (by simp [he])
  exact ⟨Nat.lt_of_le_of_lt b hi, eq_of_beq c⟩
theorem lgF_pw {n m g i : Nat} (hG : GF n m) (hp : prim n m g) : lgF n m g (fpw n m g i) = i % (2 ^ n - 1) := by
  have h1 := lgF_ok hG.1 hp (fpw_lt hG.1.1 hp.1 i) (fpw_ne0 hG.1 hp.1 hp.2.1 i)
  have h2 := (pw_eq hG hp).mp h1.2
  rwa [Nat.mod_eq_of_lt h1.1] at h2
/-! the divisors of 2^n - 1 -/
theorem pm1_dvd {d n : Nat} (h : d ∣ n) : 2 ^ d - 1 ∣ 2 ^ n - 1 := by
  obtain ⟨k, rfl⟩ := h
  induction k with
  | zero => rw [Nat.mul_zero]; exact Nat.dvd_zero _
  | succ k ih =>
    have e : 2 ^ (d * (k + 1)) - 1 = 2 ^ (d * k) * (2 ^ d - 1) + (2 ^ (d * k) - 1) := by
      have h1 := Nat.two_pow_pos (d * k)
      have h2 := Nat.two_pow_pos d
      have h3 : 2 ^ (d * k) * 1 ≤ 2 ^ (d * k) * 2 ^ d := Nat.mul_le_mul_left _ h2
      rw [Nat.mul_succ, Nat.pow_add, Nat.mul_sub, Nat.mul_one]
      omega
    rw [e]
    exact (Nat.dvd_add_iff_right (Nat.dvd_mul_left _ _)).mp ih
/-! SUBFIELDS -/
theorem img_fix {d p n m r v : Nat} (hP : GF d p) (hm : MDg n m) (h : root n m p r) (hv : v < 2 ^ d) : sqn n m d (pvl n m r v) = pvl n m r v := by
  rw [← hom_sq hP.1.1 hm h d v hv, hP.2 v hv]
theorem pw_sq {n m a d : Nat} (hG : GF n m) (ha : a < 2 ^ n) (h0 : a ≠ 0) : sqn n m d a = a ↔ fpw n m a (2 ^ d - 1) = 1 := by
  have hm := hG.1.1
  have e : fpw n m a (2 ^ d) = fm n m (fpw n m a (2 ^ d - 1)) a := by
    have : 2 ^ d = (2 ^ d - 1) + 1 := by have := Nat.two_pow_pos d; omega
    calc fpw n m a (2 ^ d) = fpw n m a ((2 ^ d - 1) + 1) := congrArg _ this
      _ = _ := rfl
  rw [sqn_pw hm d a ha, e]
  constructor
  · intro h
    refine fm_cancel hG.1 (fpw_lt hm ha _) (one_lt hm) ha h0 ?_
    rw [h, fm_1l hm ha]
  · intro h
    rw [h, fm_1l hm ha]
theorem fix_log {n m g d a : Nat} (hG : GF n m) (hp : prim n m g) (hd : d ∣ n) (hd1 : 1 ≤ d) (ha : a < 2 ^ n) (h0 : a ≠ 0) (hf : sqn n m d a = a) : ∃ j, j < 2 ^ d - 1 ∧ lgF n m g a = (2 ^ n - 1) / (2 ^ d - 1) * j := by
  have hm := hG.1.1
  obtain ⟨h1, h2⟩ := lgF_ok hG.1 hp ha h0
  have h3 := (pw_sq hG ha h0).mp hf
  obtain ⟨s, hs⟩ := pm1_dvd hd
  have hN : 0 < 2 ^ d - 1 := by have := two_pow_ge2 hd1; omega
  have hdiv : (2 ^ n - 1) / (2 ^ d - 1) = s := by rw [hs, Nat.mul_div_cancel_left _ hN]
  rw [hdiv]
  generalize lgF n m g a = i at h1 h2 ⊢
  rw [← h2, ← fpw_mul hm hp.1] at h3
  have h4 := ord_dvd hm hp.1 hp.2.2 h3
  rw [hs, Nat.mul_comm i] at h4
  obtain ⟨j, rfl⟩ := Nat.dvd_of_mul_dvd_mul_left hN h4
  refine ⟨j, ?_, rfl⟩
  rw [hs, Nat.mul_comm] at h1
  exact Nat.lt_of_mul_lt_mul_right h1
/-- what is fixed comes from the subfield -/
theorem fix_img {d p n m r a : Nat} (hP : GF d p) (hG : GF n m) (hg : ∃ g, prim n m g) (h : root n m p r) (hd : d ∣ n) (ha : a < 2 ^ n) (hf : sqn n m d a = a) : ∃ v, v < 2 ^ d ∧ pvl n m r v = a := by
  obtain ⟨g, hg⟩ := hg
  have hm := hG.1.1
  have hd1 := hP.1.1.1
  rcases Nat.eq_zero_or_pos a with z | z
  · exact ⟨0, Nat.two_pow_pos d, by rw [pvl_0, z]⟩
  have img : ∀ v, v < 2 ^ d - 1 → pvl n m r (v + 1) ≠ 0 := by
    intro v hv e
    have := hom_inj hP.1 hm h (a := v + 1) (b := 0) (by omega) (Nat.two_pow_pos d) (by rw [e, pvl_0])
    omega
  have lg : ∀ v, v < 2 ^ d - 1 → ∃ j, j < 2 ^ d - 1 ∧ lgF n m g (pvl n m r (v + 1)) = (2 ^ n - 1) / (2 ^ d - 1) * j :=
    fun v hv => fix_log hG hg hd hd1 (pvl_lt hm h.1) (img v hv) (img_fix hP hm h (by omega))
  have hs : 0 < (2 ^ n - 1) / (2 ^ d - 1) := by
    have := two_pow_ge2 hd1
    have h2 := Nat.pow_le_pow_right (n := 2) (by decide) (Nat.le_of_dvd (by have := hm.1; omega) hd)
    exact Nat.div_pos (by omega) (by omega)
  obtain ⟨j, hj, hl⟩ := fix_log hG hg hd hd1 ha (by omega) hf
  obtain ⟨v, hv, he⟩ := php (2 ^ d - 1) (fun v => lgF n m g (pvl n m r (v + 1)) / ((2 ^ n - 1) / (2 ^ d - 1)))
    (fun v hv => by
      obtain ⟨j, h1, h2⟩ := lg v hv
      show lgF n m g (pvl n m r (v + 1)) / _ < _
      rw [h2, Nat.mul_div_cancel_left _ hs]
      exact h1)
    (fun u v hu hv e => by
      obtain ⟨j, h1, h2⟩ := lg u hu
      obtain ⟨k, h3, h4⟩ := lg v hv
      have e : lgF n m g (pvl n m r (u + 1)) / ((2 ^ n - 1) / (2 ^ d - 1)) = lgF n m g (pvl n m r (v + 1)) / ((2 ^ n - 1) / (2 ^ d - 1)) := e
      rw [h2, h4, Nat.mul_div_cancel_left _ hs, Nat.mul_div_cancel_left _ hs] at e
      subst e
      have e2 : pvl n m r (u + 1) = pvl n m r (v + 1) := by
        rw [← (lgF_ok hG.1 hg (pvl_lt hm h.1) (img u hu)).2, ← (lgF_ok hG.1 hg (pvl_lt hm h.1) (img v hv)).2, h2, h4]
      have := hom_inj hP.1 hm h (a := u + 1) (b := v + 1) (by omega) (by omega) e2
      omega) j hj
  refine ⟨v + 1, by omega, ?_⟩
  obtain ⟨k, h1, h2⟩ := lg v hv
  have he : lgF n m g (pvl n m r (v + 1)) / ((2 ^ n - 1) / (2 ^ d - 1)) = j := he
  rw [h2, Nat.mul_div_cancel_left _ hs] at he
  subst he
  rw [← (lgF_ok hG.1 hg (pvl_lt hm h.1) (img v hv)).2, ← (lgF_ok hG.1 hg ha (by omega)).2, h2, hl]
/-- LOWERED: the v that is raised to a -/
def lowF (n m r d a : Nat) : Nat := fnd (fun v => pvl n m r v == a) (2 ^ d) 0
theorem lowF_ok {n m r d a v : Nat} (hv : v < 2 ^ d) (he : pvl n m r v = a) : lowF n m r d a < 2 ^ d ∧ pvl n m r (lowF n m r d a) = a := by
  obtain ⟨-, b, c, -⟩ := fnd_ok (p := fun v => pvl n m r v == a) (2 ^ d) 0 v (by omega) (by omega) (by simp [he])
  exact ⟨Nat.lt_of_le_of_lt b hv, eq_of_beq c⟩
/-! TRACE and NORM -/
def trS (n m d : Nat) : Nat → Nat → Nat
  | 0, _ => 0
  | k + 1, a => a ^^^ trS n m d k (sqn n m d a)
def nmS (n m d : Nat) : Nat → Nat → Nat
  | 0, _ => 1
  | k + 1, a => fm n m a (nmS n m d k (sqn n m d a))
theorem trS_lt {n m d : Nat} (hm : MDg n m) : ∀ k a, a < 2 ^ n → trS n m d k a < 2 ^ n
  | 0, _, _ => Nat.two_pow_pos n
  | k + 1, _, ha => xor_lt ha (trS_lt hm k _ (sqn_lt hm d _ ha))
theorem nmS_lt {n m d : Nat} (hm : MDg n m) : ∀ k a, a < 2 ^ n → nmS n m d k a < 2 ^ n
  | 0, _, _ => one_lt hm
  | k + 1, _, ha => fm_lt hm ha (nmS_lt hm k _ (sqn_lt hm d _ ha))
theorem sqn_comm {n m : Nat} (i j a : Nat) : sqn n m i (sqn n m j a) = sqn n m j (sqn n m i a) := by
  rw [← sqn_add, ← sqn_add, Nat.add_comm]
theorem trS_sq {n m d : Nat} (hm : MDg n m) (e : Nat) : ∀ k a, a < 2 ^ n → sqn n m e (trS n m d k a) = trS n m d k (sqn n m e a)
  | 0, _, _ => sqn_0 hm e
  | k + 1, a, ha => by
    show sqn n m e (a ^^^ _) = _ ^^^ _
    rw [sqn_xor hm e _ _ ha (trS_lt hm k _ (sqn_lt hm d _ ha)), trS_sq hm e k _ (sqn_lt hm d _ ha), sqn_comm e d]
theorem nmS_sq {n m d : Nat} (hm : MDg n m) (e : Nat) : ∀ k a, a < 2 ^ n → sqn n m e (nmS n m d k a) = nmS n m d k (sqn n m e a)
  | 0, _, _ => sqn_1 hm e
  | k + 1, a, ha => by
    show sqn n m e (fm n m a _) = fm n m _ _
    rw [sqn_fm hm e _ _ ha (nmS_lt hm k _ (sqn_lt hm d _ ha)), nmS_sq hm e k _ (sqn_lt hm d _ ha), sqn_comm e d]
theorem trS_end {n m d : Nat} : ∀ k a, trS n m d (k + 1) a = trS n m d k a ^^^ sqn n m (d * k) a
  | 0, a => by show a ^^^ 0 = 0 ^^^ a; rw [Nat.xor_zero, Nat.zero_xor]
  | k + 1, a => by
    show a ^^^ trS n m d (k + 1) (sqn n m d a) = (a ^^^ trS n m d k (sqn n m d a)) ^^^ _
    rw [trS_end k, Nat.xor_assoc, ← sqn_add, Nat.mul_succ, Nat.add_comm]
theorem nmS_end {n m d : Nat} (hm : MDg n m) : ∀ k a, a < 2 ^ n → nmS n m d (k + 1) a = fm n m (nmS n m d k a) (sqn n m (d * k) a)
  | 0, a, ha => by show fm n m a 1 = fm n m 1 a; rw [fm_1r hm ha, fm_1l hm ha]
  | k + 1, a, ha => by
    have h1 := sqn_lt hm d a ha
    show fm n m a (nmS n m d (k + 1) (sqn n m d a)) = fm n m (fm n m a (nmS n m d k (sqn n m d a))) _
    rw [nmS_end hm k _ h1, fm_assoc hm ha (nmS_lt hm k _ h1) (sqn_lt hm _ _ ha), ← sqn_add, Nat.mul_succ, Nat.add_comm]
theorem trS_fix {n m d k a : Nat} (hG : GF n m) (hk : d * k = n) (ha : a < 2 ^ n) : sqn n m d (trS n m d k a) = trS n m d k a := by
  have hm := hG.1.1
  rw [trS_sq hm d k a ha]
  have h1 := trS_end (n := n) (m := m) (d := d) k a
  rw [hk, hG.2 a ha, Nat.xor_comm] at h1
  have h2 : a ^^^ trS n m d k (sqn n m d a) = a ^^^ trS n m d k a := h1
  have h3 := congrArg (fun z => a ^^^ z) h2
  simp only [xor_cx] at h3
  exact h3
theorem nmS_fix {n m d k a : Nat} (hG : GF n m) (hk : d * k = n) (ha : a < 2 ^ n) : sqn n m d (nmS n m d k a) = nmS n m d k a := by
  have hm := hG.1.1
  rw [nmS_sq hm d k a ha]
  rcases Nat.eq_zero_or_pos a with z | z
  · subst z
    rw [sqn_0 hm]
  · have h1 := nmS_end (d := d) hm k a ha
    rw [hk, hG.2 a ha, fm_comm hm (nmS_lt hm k a ha) ha] at h1
    have h2 : fm n m a (nmS n m d k (sqn n m d a)) = fm n m a (nmS n m d k a) := h1
    have g1 := nmS_lt (d := d) hm k _ (sqn_lt hm d a ha)
    have g2 := nmS_lt (d := d) hm k a ha
    rw [fm_comm hm ha g1, fm_comm hm ha g2] at h2
    exact fm_cancel hG.1 g1 g2 ha (by omega) h2
theorem trS_xor {n m d : Nat} (hm : MDg n m) : ∀ k a b, a < 2 ^ n → b < 2 ^ n → trS n m d k (a ^^^ b) = trS n m d k a ^^^ trS n m d k b
  | 0, _, _, _, _ => (Nat.xor_self 0).symm
  | k + 1, a, b, ha, hb => by
    show (a ^^^ b) ^^^ trS n m d k (sqn n m d (a ^^^ b)) = (a ^^^ _) ^^^ (b ^^^ _)
    rw [sqn_xor hm d a b ha hb, trS_xor hm k _ _ (sqn_lt hm d a ha) (sqn_lt hm d b hb), xor4]
/-- what is its own square -/
theorem fix_01 {n m a : Nat} (hM : MOD n m) (ha : a < 2 ^ n) (h : fm n m a a = a) : a = 0 ∨ a = 1 := by
  have hm := hM.1
  have h1 : fm n m a (a ^^^ 1) = 0 := by rw [fm_addr hm ha (one_lt hm) ha, h, fm_1r hm ha, Nat.xor_self]
  rcases fm_dom hM ha (xor_lt ha (one_lt hm)) h1 with w | w
  · exact Or.inl w
  · exact Or.inr (xor_eq0 w)
