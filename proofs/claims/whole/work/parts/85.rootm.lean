/-! K-TH ROOTS by logarithms -/
theorem gcd_s {k L : Nat} (hL : 0 < L) : 0 < Nat.gcd k L ∧ Nat.gcd k L * (L / Nat.gcd k L) = L ∧ 0 < L / Nat.gcd k L := by
  have h1 : 0 < Nat.gcd k L := Nat.gcd_pos_of_pos_right _ hL
  have h2 := Nat.mul_div_cancel' (Nat.gcd_dvd_right k L)
  exact ⟨h1, h2, Nat.div_pos (Nat.le_of_dvd hL (Nat.gcd_dvd_right k L)) h1⟩
/-- equal multiples: the difference is a multiple of L by the common divisor -/
theorem mul_eq_iff {k L i j : Nat} (hL : 0 < L) (hij : i ≤ j) : j * k % L = i * k % L ↔ L / Nat.gcd k L ∣ j - i := by
  obtain ⟨g1, g2, g3⟩ := gcd_s (k := k) hL
  have hk : Nat.gcd k L * (k / Nat.gcd k L) = k := Nat.mul_div_cancel' (Nat.gcd_dvd_left k L)
  constructor
  · intro h
    have h1 : L ∣ j * k - i * k := Nat.dvd_of_mod_eq_zero (Nat.sub_mod_eq_zero_of_mod_eq h)
    rw [← Nat.sub_mul] at h1
    have h2 : Nat.gcd k L * (L / Nat.gcd k L) ∣ Nat.gcd k L * ((j - i) * (k / Nat.gcd k L)) := by
      rw [g2, Nat.mul_left_comm, hk]
      exact h1
    have h3 := Nat.dvd_of_mul_dvd_mul_left g1 h2
    have hc : Nat.Coprime (L / Nat.gcd k L) (k / Nat.gcd k L) := (Nat.coprime_div_gcd_div_gcd g1).symm
    exact hc.dvd_of_dvd_mul_right h3
  · rintro ⟨t, ht⟩
    have e : j = i + L / Nat.gcd k L * t := by omega
    have e2 : j * k = i * k + L * (t * (k / Nat.gcd k L)) := by
      rw [e, Nat.add_mul]
      congr 1
      calc L / Nat.gcd k L * t * k = L / Nat.gcd k L * t * (Nat.gcd k L * (k / Nat.gcd k L)) := by rw [hk]
        _ = (Nat.gcd k L * (L / Nat.gcd k L)) * (t * (k / Nat.gcd k L)) := by
          rw [Nat.mul_assoc, Nat.mul_comm (Nat.gcd k L) (L / Nat.gcd k L), Nat.mul_assoc, Nat.mul_left_comm t]
        _ = _ := by rw [g2]
    rw [e2, Nat.add_mul_mod_self_left]
theorem mul_sol {k L la : Nat} (hL : 0 < L) (hla : la < L) (h : la % Nat.gcd k L = 0) : ∃ e, e < L / Nat.gcd k L ∧ e * k % L = la := by
  obtain ⟨g1, g2, g3⟩ := gcd_s (k := k) hL
  have hdv : ∀ j, Nat.gcd k L ∣ j * k % L := fun j => (Nat.dvd_mod_iff (Nat.gcd_dvd_right k L)).mpr (Nat.dvd_trans (Nat.gcd_dvd_left k L) (Nat.dvd_mul_left k j))
  obtain ⟨e, e1, e2⟩ := php (L / Nat.gcd k L) (fun j => j * k % L / Nat.gcd k L) (fun j hj => by
    show j * k % L / Nat.gcd k L < L / Nat.gcd k L
    refine Nat.div_lt_of_lt_mul ?_
    rw [g2]
    exact Nat.mod_lt _ hL) (fun i j hi hj e => by
    have e : i * k % L / Nat.gcd k L = j * k % L / Nat.gcd k L := e
    have e2 : i * k % L = j * k % L := by
      rw [← Nat.mul_div_cancel' (hdv i), ← Nat.mul_div_cancel' (hdv j), e]
    rcases Nat.le_total i j with w | w
    · have h1 := (mul_eq_iff hL w).mp e2.symm
      rcases Nat.eq_zero_or_pos (j - i) with z | z
      · omega
      · have := Nat.le_of_dvd z h1
        omega
    · have h1 := (mul_eq_iff hL w).mp e2
      rcases Nat.eq_zero_or_pos (i - j) with z | z
      · omega
      · have := Nat.le_of_dvd z h1
        omega) (la / Nat.gcd k L) (by
    refine Nat.div_lt_of_lt_mul ?_
    rw [g2]
    exact hla)
  refine ⟨e, e1, ?_⟩
  have e2 : e * k % L / Nat.gcd k L = la / Nat.gcd k L := e2
  rw [← Nat.mul_div_cancel' (hdv e), e2, Nat.mul_div_cancel' (Nat.dvd_of_mod_eq_zero h)]
theorem mul_no {k L la : Nat} (h : ¬ la % Nat.gcd k L = 0) (e : Nat) : e * k % L ≠ la := fun q => h (by
  rw [← q]
  exact Nat.mod_eq_zero_of_dvd ((Nat.dvd_mod_iff (Nat.gcd_dvd_right k L)).mpr (Nat.dvd_trans (Nat.gcd_dvd_left k L) (Nat.dvd_mul_left k e))))
/-- the first solution -/
def slF (k L la : Nat) : Nat := fnd (fun e => e * k % L == la) L 0
theorem slF_ok {k L la : Nat} (hL : 0 < L) (hla : la < L) (h : la % Nat.gcd k L = 0) : slF k L la < L / Nat.gcd k L ∧ slF k L la * k % L = la ∧ ∀ j, j * k % L = la → slF k L la ≤ j := by
  obtain ⟨g1, g2, g3⟩ := gcd_s (k := k) hL
  obtain ⟨e, e1, e2⟩ := mul_sol hL hla h
  have hle : L / Nat.gcd k L ≤ L := Nat.div_le_self _ _
  obtain ⟨a, b, c, d⟩ := fnd_ok (p := fun e => e * k % L == la) L 0 e (by omega) (by omega) (beq_iff_eq.mpr e2)
  refine ⟨Nat.lt_of_le_of_lt b e1, eq_of_beq c, fun j hj => ?_⟩
  rcases Nat.lt_or_ge j (slF k L la) with w | w
  · exact absurd hj (beq_eq_false_iff_ne.mp (d j (by omega) w))
  · exact w
theorem slF_all {k L la j : Nat} (hL : 0 < L) (hla : la < L) (h : la % Nat.gcd k L = 0) : j * k % L = la ↔ ∃ i, j = slF k L la + i * (L / Nat.gcd k L) := by
  obtain ⟨a, b, c⟩ := slF_ok hL hla h
  constructor
  · intro hj
    have hle := c j hj
    obtain ⟨t, ht⟩ := (mul_eq_iff hL hle).mp (by rw [hj, b])
    exact ⟨t, by rw [Nat.mul_comm]; omega⟩
  · rintro ⟨i, rfl⟩
    have := (mul_eq_iff (k := k) hL (Nat.le_add_right (slF k L la) (i * (L / Nat.gcd k L)))).mpr (by rw [Nat.add_sub_cancel_left]; exact Nat.dvd_mul_left _ _)
    rw [this, b]
/-! how many -/
theorem cnt_add {p : Nat → Bool} (a : Nat) : ∀ b, cnt p (a + b) = cnt p a + cnt (fun i => p (a + i)) b
  | 0 => rfl
  | b + 1 => by
    have e : cnt p (a + (b + 1)) = cnt p (a + b) + (p (a + b)).toNat := rfl
    have e2 : cnt (fun i => p (a + i)) (b + 1) = cnt (fun i => p (a + i)) b + (p (a + b)).toNat := rfl
    rw [e, e2, cnt_add a b, Nat.add_assoc]
theorem cnt_one {p : Nat → Bool} {e : Nat} : ∀ s, e < s → (∀ j, j < s → (p j = true ↔ j = e)) → cnt p s = 1
  | 0, h, _ => by omega
  | s + 1, h, hp => by
    show cnt p s + (p s).toNat = 1
    rcases Nat.eq_or_lt_of_le (Nat.le_of_lt_succ h) with w | w
    · subst w
      have z : cnt p e = cnt (fun _ => false) e := cnt_cg e (fun i hi => by
        rw [← Bool.not_eq_true, hp i (by omega)]
        omega)
      have z0 : ∀ k, cnt (fun _ => false) k = 0 := by
        intro k
        induction k with
        | zero => rfl
        | succ k ih => show cnt (fun _ => false) k + 0 = 0; rw [ih]
      rw [z, z0, (hp e (by omega)).mpr rfl]
      rfl
    · rw [cnt_one s w (fun j hj => hp j (by omega))]
      have : p s = false := by
        rw [← Bool.not_eq_true, hp s (by omega)]
        omega
      rw [this]
      rfl
theorem cnt_zero {p : Nat → Bool} : ∀ s, (∀ j, j < s → p j = false) → cnt p s = 0
  | 0, _ => rfl
  | s + 1, h => by show cnt p s + (p s).toNat = 0; rw [cnt_zero s (fun j hj => h j (by omega)), h s (by omega)]; rfl
theorem cnt_per {p : Nat → Bool} {s e : Nat} (he : e < s) (hp : ∀ j, p j = true ↔ ∃ i, j = e + i * s) : ∀ c, cnt p (c * s) = c
  | 0 => by rw [Nat.zero_mul]; rfl
  | c + 1 => by
    rw [Nat.succ_mul, cnt_add, cnt_per he hp c]
    congr 1
    refine cnt_one (e := e) s he (fun j hj => ?_)
    rw [hp]
    constructor
    · rintro ⟨i, hi⟩
      have h1 : (c * s + j) % s = j := by rw [Nat.mul_comm, Nat.mul_add_mod, Nat.mod_eq_of_lt hj]
      have h2 : (e + i * s) % s = e := by rw [Nat.mul_comm, Nat.add_mul_mod_self_left, Nat.mod_eq_of_lt he]
      rw [← h1, hi, h2]
    · intro e1
      exact ⟨c, by omega⟩
theorem slF_cnt {k L la : Nat} (hL : 0 < L) (hla : la < L) : cnt (fun j => j * k % L == la) L = if la % Nat.gcd k L = 0 then Nat.gcd k L else 0 := by
  obtain ⟨g1, g2, g3⟩ := gcd_s (k := k) hL
  by_cases h : la % Nat.gcd k L = 0
  · rw [if_pos h]
    have := cnt_per (p := fun j => j * k % L == la) (slF_ok hL hla h).1 (fun j => by rw [beq_iff_eq]; exact slF_all hL hla h) (Nat.gcd k L)
    rwa [g2] at this
  · rw [if_neg h]
    exact cnt_zero L (fun j _ => beq_eq_false_iff_ne.mpr (mul_no h j))
/-- counting the elements above 0 by their logarithms -/
theorem cnt_log {n m g : Nat} (hG : GF n m) (hg : prim n m g) (p : Nat → Bool) : cnt p (2 ^ n) = (p 0).toNat + cnt (fun j => p (fpw n m g j)) (2 ^ n - 1) := by
  have h2 := two_pow_ge2 hG.1.1.1
  have e : 2 ^ n = (2 ^ n - 1) + 1 := by omega
  have nz := fun i => fpw_ne0 hG.1 hg.1 hg.2.1 i
  have lt := fun i => fpw_lt hG.1.1 hg.1 i
  rw [show cnt p (2 ^ n) = cnt p ((2 ^ n - 1) + 1) from congrArg _ e, cnt_sh]
  congr 1
  have := cnt_perm (p := fun i => p (i + 1)) (2 ^ n - 1) (fun i => fpw n m g i - 1) (fun i hi => by have := nz i; have := lt i; show fpw n m g i - 1 < _; omega) (fun i j hi hj e => pw_inj hG.1 hg.1 hg.2.1 hg.2.2 hi hj (by have := nz i; have := nz j; have e : fpw n m g i - 1 = fpw n m g j - 1 := e; omega))
  rw [← this]
  exact cnt_cg _ (fun i _ => by
    show p (fpw n m g i - 1 + 1) = p (fpw n m g i)
    have := nz i
    rw [show fpw n m g i - 1 + 1 = fpw n m g i by omega])
/-- the k-th roots of an element above 0 -/
theorem root_iff {n m g a k j : Nat} (hG : GF n m) (hg : prim n m g) (ha : a < 2 ^ n) (h0 : a ≠ 0) : fpw n m (fpw n m g j) k = a ↔ j * k % (2 ^ n - 1) = lgF n m g a := by
  have hm := hG.1.1
  obtain ⟨l1, l2⟩ := lgF_ok hG.1 hg ha h0
  rw [← fpw_mul hm hg.1]
  constructor
  · intro h
    have := (pw_eq hG hg (i := j * k) (j := lgF n m g a)).mp (by rw [h, l2])
    rwa [Nat.mod_eq_of_lt l1] at this
  · intro h
    rw [← l2]
    exact (pw_eq hG hg).mpr (by rw [h, Nat.mod_eq_of_lt l1])
theorem rt_cnt {n m g a k : Nat} (hG : GF n m) (hg : prim n m g) (ha : a < 2 ^ n) (h0 : a ≠ 0) (hk : 1 ≤ k) : cnt (fun v => fpw n m v k == a) (2 ^ n) = if lgF n m g a % Nat.gcd k (2 ^ n - 1) = 0 then Nat.gcd k (2 ^ n - 1) else 0 := by
  have h2 := two_pow_ge2 hG.1.1.1
  have hm := hG.1.1
  have e : (fpw n m 0 k == a) = false := beq_eq_false_iff_ne.mpr (by rw [fpw_0 hm (by omega)]; exact fun q => h0 q.symm)
  rw [cnt_log hG hg, e, ← slF_cnt (by omega) (lgF_ok hG.1 hg ha h0).1]
  show 0 + _ = _
  rw [Nat.zero_add]
  refine cnt_cg _ (fun j _ => ?_)
  rw [Bool.eq_iff_iff, beq_iff_eq, beq_iff_eq]
  exact root_iff hG hg ha h0
/-- the least root -/
def rtL (n m a k : Nat) : Nat := fnd (fun v => fpw n m v k == a) (2 ^ n) 0
def mnS (f : Nat → Nat) : Nat → Nat
  | 0 => f 0
  | c + 1 => min (mnS f c) (f (c + 1))
theorem mnS_ok (f : Nat → Nat) : ∀ c, (∃ i, i ≤ c ∧ mnS f c = f i) ∧ ∀ i, i ≤ c → mnS f c ≤ f i
  | 0 => ⟨⟨0, Nat.le_refl 0, rfl⟩, fun i hi => by have : i = 0 := by omega
                                                  rw [this]; exact Nat.le_refl _⟩
  | c + 1 => by
    obtain ⟨⟨i, i1, i2⟩, h⟩ := mnS_ok f c
    have e : mnS f (c + 1) = min (mnS f c) (f (c + 1)) := rfl
    constructor
    · rcases Nat.le_total (mnS f c) (f (c + 1)) with w | w
      · exact ⟨i, by omega, by rw [e, Nat.min_eq_left w, i2]⟩
      · exact ⟨c + 1, Nat.le_refl _, by rw [e, Nat.min_eq_right w]⟩
    · intro j hj
      rw [e]
      rcases Nat.eq_or_lt_of_le hj with w | w
      · rw [w]
        exact Nat.min_le_right _ _
      · exact Nat.le_trans (Nat.min_le_left _ _) (h j (by omega))
theorem rtL_eq {n m g a k : Nat} (hG : GF n m) (hg : prim n m g) (ha : a < 2 ^ n) (h0 : a ≠ 0) (hk : 1 ≤ k) (h : lgF n m g a % Nat.gcd k (2 ^ n - 1) = 0) : rtL n m a k = mnS (fun i => fpw n m g (slF k (2 ^ n - 1) (lgF n m g a) + i * ((2 ^ n - 1) / Nat.gcd k (2 ^ n - 1)))) (Nat.gcd k (2 ^ n - 1) - 1) := by
  have h2 := two_pow_ge2 hG.1.1.1
  have hm := hG.1.1
  have hL : 0 < 2 ^ n - 1 := by omega
  have hla := (lgF_ok hG.1 hg ha h0).1
  obtain ⟨g1, g2, g3⟩ := gcd_s (k := k) hL
  obtain ⟨⟨i, i1, i2⟩, hmin⟩ := mnS_ok (fun i => fpw n m g (slF k (2 ^ n - 1) (lgF n m g a) + i * ((2 ^ n - 1) / Nat.gcd k (2 ^ n - 1)))) (Nat.gcd k (2 ^ n - 1) - 1)
  refine fnd_uq (p := fun v => fpw n m v k == a) (Nat.zero_le _) ?_ ?_ (fun l _ hl => beq_eq_false_iff_ne.mpr (fun q => ?_))
  · rw [i2]
    have := fpw_lt hm hg.1 (slF k (2 ^ n - 1) (lgF n m g a) + i * ((2 ^ n - 1) / Nat.gcd k (2 ^ n - 1)))
    omega
  · rw [beq_iff_eq, i2]
    exact (root_iff hG hg ha h0).mpr ((slF_all hL hla h).mpr ⟨i, rfl⟩)
  · have hlt : l < 2 ^ n := by
      have := fpw_lt hm hg.1 (slF k (2 ^ n - 1) (lgF n m g a) + i * ((2 ^ n - 1) / Nat.gcd k (2 ^ n - 1)))
      rw [i2] at hl
      omega
    have hl0 : l ≠ 0 := fun z => by
      rw [z, fpw_0 hm (by omega)] at q
      exact h0 q.symm
    obtain ⟨j1, j2⟩ := lgF_ok hG.1 hg hlt hl0
    rw [← j2] at q
    obtain ⟨t, ht⟩ := (slF_all hL hla h).mp ((root_iff hG hg ha h0).mp q)
    have htc : t < Nat.gcd k (2 ^ n - 1) := by
      rcases Nat.lt_or_ge t (Nat.gcd k (2 ^ n - 1)) with w | w
      · exact w
      · have := Nat.mul_le_mul_right ((2 ^ n - 1) / Nat.gcd k (2 ^ n - 1)) w
        rw [g2] at this
        omega
    have := hmin t (by omega)
    have e : fpw n m g (slF k (2 ^ n - 1) (lgF n m g a) + t * ((2 ^ n - 1) / Nat.gcd k (2 ^ n - 1))) = l := by rw [← ht, j2]
    have this : mnS _ _ ≤ fpw n m g (slF k (2 ^ n - 1) (lgF n m g a) + t * ((2 ^ n - 1) / Nat.gcd k (2 ^ n - 1))) := this
    rw [e] at this
    omega
