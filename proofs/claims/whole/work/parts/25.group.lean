/-! FERMAT, orders, the powers of a primitive element -/
theorem sqn_fpw {n m a : Nat} (hm : MDg n m) (ha : a < 2 ^ n) (j : Nat) : ∀ k, sqn n m j (fpw n m a k) = fpw n m (sqn n m j a) k
  | 0 => sqn_1 hm j
  | k + 1 => by
    show sqn n m j (fm n m (fpw n m a k) a) = fm n m (fpw n m _ k) _
    rw [sqn_fm hm j _ _ (fpw_lt hm ha k) ha, sqn_fpw hm ha j k]
theorem pw_two {n m : Nat} (hm : MDg n m) (h2 : 2 ≤ n) : ∀ i, i < n → fpw n m 2 i = 2 ^ i
  | 0, _ => rfl
  | i + 1, hi => by
    show fm n m (fpw n m 2 i) 2 = _
    rw [pw_two hm h2 i (by omega)]
    have e2 : 2 < 2 ^ n := Nat.lt_of_lt_of_le (by decide : 2 < 2 ^ 2) (pow_le h2)
    refine fm_eq hm (Nat.pow_lt_pow_right (by decide) (by omega)) e2 (Nat.pow_lt_pow_right (by decide) hi) ?_
    rw [cl_2l, Nat.shiftLeft_eq, Nat.pow_succ, Nat.mul_comm]
    exact cg_rf _ _
/-- a field in which all are their own 2^n-th powers -/
def GF (n m : Nat) : Prop := MOD n m ∧ ∀ a, a < 2 ^ n → sqn n m n a = a
theorem GF_of {n m : Nat} (hM : MOD n m) (h2 : 2 ≤ n) (hx : sqn n m n 2 = 2) : GF n m := by
  refine ⟨hM, ?_⟩
  have hm := hM.1
  have e2 : 2 < 2 ^ n := Nat.lt_of_lt_of_le (by decide : 2 < 2 ^ 2) (pow_le h2)
  have key : ∀ (a k : Nat), k ≤ n → sqn n m n (a % 2 ^ k) = a % 2 ^ k := by
    intro a k
    induction k with
    | zero => intro _; rw [Nat.pow_zero, Nat.mod_one]; exact sqn_0 hm n
    | succ k ih =>
      intro hk
      have hlt : a % 2 ^ k < 2 ^ n := Nat.lt_of_lt_of_le (Nat.mod_lt _ (Nat.two_pow_pos k)) (pow_le (by omega))
      have hlk : 2 ^ k < 2 ^ n := Nat.pow_lt_pow_right (by decide) (by omega)
      rw [mod_succ]
      split
      · rw [sqn_xor hm n _ _ hlt hlk, ih (by omega)]
        congr 1
        rw [← pw_two hm h2 k (by omega), sqn_fpw hm e2, hx]
      · rw [Nat.xor_zero]
        exact ih (by omega)
  intro a ha
  have := key a n (Nat.le_refl n)
  rwa [Nat.mod_eq_of_lt ha] at this
theorem GF_1 {m : Nat} (hM : MOD 1 m) : GF 1 m := by
  refine ⟨hM, fun a ha => ?_⟩
  show fm 1 m a a = a
  rcases (show a = 0 ∨ a = 1 by have : a < 2 := ha; omega) with rfl | rfl
  · exact fm_0r hM.1 ha
  · exact fm_1r hM.1 ha
theorem fermat {n m a : Nat} (hG : GF n m) (ha : a < 2 ^ n) (h0 : a ≠ 0) : fpw n m a (2 ^ n - 1) = 1 := by
  have hm := hG.1.1
  have h1 : fpw n m a (2 ^ n - 1 + 1) = a := by
    rw [Nat.sub_add_cancel (Nat.two_pow_pos n), ← sqn_pw hm n a ha]
    exact hG.2 a ha
  refine fm_cancel hG.1 (fpw_lt hm ha _) (one_lt hm) ha h0 ?_
  rw [fm_1l hm ha]
  exact h1
/-- the order -/
def isOrd (n m a k : Nat) : Prop := 0 < k ∧ fpw n m a k = 1 ∧ ∀ j, 0 < j → j < k → fpw n m a j ≠ 1
theorem least_ex {p : Nat → Prop} : ∀ (N : Nat), p N → ∃ k, k ≤ N ∧ p k ∧ ∀ j, j < k → ¬ p j := by
  intro N
  induction N using Nat.strongRecOn with
  | _ N ih =>
    intro hN
    by_cases h : ∃ j, j < N ∧ p j
    · obtain ⟨j, hj, hp⟩ := h
      obtain ⟨k, h1, h2, h3⟩ := ih j hj hp
      exact ⟨k, by omega, h2, h3⟩
    · exact ⟨N, Nat.le_refl N, hN, fun j hj hp => h ⟨j, hj, hp⟩⟩
theorem two_pow_ge2 {n : Nat} (h : 1 ≤ n) : 2 ≤ 2 ^ n := by
  have := pow_le h
  omega
theorem ord_ex {n m a : Nat} (hG : GF n m) (ha : a < 2 ^ n) (h0 : a ≠ 0) : ∃ k, k ≤ 2 ^ n - 1 ∧ isOrd n m a k := by
  have hn := two_pow_ge2 hG.1.1.1
  obtain ⟨k, h1, h2, h3⟩ := least_ex (p := fun k => 0 < k ∧ fpw n m a k = 1) (2 ^ n - 1) ⟨by omega, fermat hG ha h0⟩
  exact ⟨k, h1, h2.1, h2.2, fun j hj hk he => h3 j hk ⟨hj, he⟩⟩
theorem ord_dvd {n m a k j : Nat} (hm : MDg n m) (ha : a < 2 ^ n) (ho : isOrd n m a k) (h : fpw n m a j = 1) : k ∣ j := by
  obtain ⟨h1, h2, h3⟩ := ho
  have e : j = k * (j / k) + j % k := (Nat.div_add_mod j k).symm
  have h4 : fpw n m a (j % k) = 1 := by
    have h5 : fpw n m a (k * (j / k) + j % k) = 1 := by rw [← e]; exact h
    rw [fpw_add hm ha, fpw_mul hm ha, h2, fpw_one hm, fm_1l hm (fpw_lt hm ha _)] at h5
    exact h5
  rcases Nat.eq_zero_or_pos (j % k) with z | z
  · exact Nat.dvd_of_mod_eq_zero z
  · exact absurd h4 (h3 _ z (Nat.mod_lt _ h1))
theorem ord_uq {n m a k j : Nat} (h1 : isOrd n m a k) (h2 : isOrd n m a j) : k = j := by
  rcases Nat.lt_trichotomy k j with h | h | h
  · exact absurd h1.2.1 (h2.2.2 k h1.1 h)
  · exact h
  · exact absurd h2.2.1 (h1.2.2 j h2.1 h)
theorem pow_of_dvd {n m a k j : Nat} (hm : MDg n m) (ha : a < 2 ^ n) (h : fpw n m a k = 1) (hd : k ∣ j) : fpw n m a j = 1 := by
  obtain ⟨c, rfl⟩ := hd
  rw [fpw_mul hm ha, h, fpw_one hm]
theorem php : ∀ (N : Nat) (f : Nat → Nat), (∀ i, i < N → f i < N) → (∀ i j, i < N → j < N → f i = f j → i = j) → ∀ y, y < N → ∃ i, i < N ∧ f i = y := by
  intro N
  induction N with
  | zero => intro f _ _ y hy; omega
  | succ N ih =>
    intro f h1 h2 y hy
    by_cases hyv : f N = y
    · exact ⟨N, by omega, hyv⟩
    have fne : ∀ i, i < N → f i ≠ f N := fun i hi e => by
      have := h2 i N (by omega) (by omega) e
      omega
    have hv := h1 N (by omega)
    have g1 : ∀ i, i < N → (if f i = N then f N else f i) < N := by
      intro i hi
      have a1 := h1 i (by omega)
      have a2 := fne i hi
      split
      · omega
      · omega
    have g2 : ∀ i j, i < N → j < N → (if f i = N then f N else f i) = (if f j = N then f N else f j) → i = j := by
      intro i j hi hj e
      have a1 := fne i hi
      have a2 := fne j hj
      by_cases e1 : f i = N <;> by_cases e2 : f j = N
      · exact h2 i j (by omega) (by omega) (by omega)
      · rw [if_pos e1, if_neg e2] at e
        exact absurd e.symm a2
      · rw [if_neg e1, if_pos e2] at e
        exact absurd e a1
      · rw [if_neg e1, if_neg e2] at e
        exact h2 i j (by omega) (by omega) e
    by_cases hyN : y = N
    · by_cases hvN : f N = N
      · exact absurd (by omega) hyv
      · obtain ⟨i, hi, he⟩ := ih _ g1 g2 (f N) (by omega)
        by_cases e1 : f i = N
        · exact ⟨i, by omega, by omega⟩
        · rw [if_neg e1] at he
          exact absurd he (fne i hi)
    · obtain ⟨i, hi, he⟩ := ih _ g1 g2 y (by omega)
      by_cases e1 : f i = N
      · rw [if_pos e1] at he
        exact absurd he hyv
      · rw [if_neg e1] at he
        exact ⟨i, by omega, he⟩
/-- a primitive element -/
def prim (n m g : Nat) : Prop := g < 2 ^ n ∧ g ≠ 0 ∧ isOrd n m g (2 ^ n - 1)
theorem pw_inj {n m g k i j : Nat} (hM : MOD n m) (hg : g < 2 ^ n) (h0 : g ≠ 0) (ho : isOrd n m g k) (hi : i < k) (hj : j < k) (h : fpw n m g i = fpw n m g j) : i = j := by
  have hm := hM.1
  have key : ∀ i j, i < k → j < k → i ≤ j → fpw n m g i = fpw n m g j → i = j := by
    intro i j hi hj hij h
    obtain ⟨d, rfl⟩ := Nat.le.dest hij
    rw [fpw_add hm hg] at h
    have h1 : fpw n m g d = 1 := by
      refine (fm_cancel hM (one_lt hm) (fpw_lt hm hg d) (fpw_lt hm hg i) (fpw_ne0 hM hg h0 i) ?_).symm
      rw [fm_1l hm (fpw_lt hm hg i), fm_comm hm (fpw_lt hm hg d) (fpw_lt hm hg i)]
      exact h
    rcases Nat.eq_zero_or_pos d with z | z
    · omega
    · exact absurd h1 (ho.2.2 d z (by omega))
  rcases Nat.le_total i j with w | w
  · exact key i j hi hj w h
  · exact (key j i hj hi w h.symm).symm
/-- every element above 0 is a power of a primitive one -/
theorem cyc {n m g a : Nat} (hM : MOD n m) (hp : prim n m g) (ha : a < 2 ^ n) (h0 : a ≠ 0) : ∃ i, i < 2 ^ n - 1 ∧ fpw n m g i = a := by
  obtain ⟨hg, hg0, ho⟩ := hp
  have hm := hM.1
  have nz := fun i => fpw_ne0 hM hg hg0 i
  have lt := fun i => fpw_lt hm hg i
  obtain ⟨i, hi, he⟩ := php (2 ^ n - 1) (fun i => fpw n m g i - 1) (fun i hi => by have := nz i; have := lt i; omega) (fun i j hi hj e => pw_inj hM hg hg0 ho hi hj (by have := nz i; have := nz j; omega)) (a - 1) (by omega)
  refine ⟨i, hi, ?_⟩
  have := nz i
  omega
theorem pw_mod {n m a N : Nat} (hm : MDg n m) (ha : a < 2 ^ n) (h : fpw n m a N = 1) (k : Nat) : fpw n m a (k % N) = fpw n m a k := by
  have e : k = N * (k / N) + k % N := (Nat.div_add_mod k N).symm
  have : fpw n m a k = fpw n m a (N * (k / N) + k % N) := congrArg _ e
  rw [this, fpw_add hm ha, fpw_mul hm ha, h, fpw_one hm, fm_1l hm (fpw_lt hm ha _)]
/-- equal powers of a primitive element -/
theorem pw_eq {n m g i j : Nat} (hG : GF n m) (hp : prim n m g) : fpw n m g i = fpw n m g j ↔ i % (2 ^ n - 1) = j % (2 ^ n - 1) := by
  have hm := hG.1.1
  have hN := two_pow_ge2 hm.1
  have hf := fermat hG hp.1 hp.2.1
  constructor
  · intro h
    rw [← pw_mod hm hp.1 hf i, ← pw_mod hm hp.1 hf j] at h
    exact pw_inj hG.1 hp.1 hp.2.1 hp.2.2 (Nat.mod_lt _ (by omega)) (Nat.mod_lt _ (by omega)) h
  · intro h
    rw [← pw_mod hm hp.1 hf i, ← pw_mod hm hp.1 hf j, h]
