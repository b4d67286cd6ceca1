/-! DEGREES, LEAST POLYNOMIALS -/
theorem sqn_per {n m k : Nat} (a : Nat) (h : sqn n m k a = a) : ∀ q, sqn n m (k * q) a = a
  | 0 => rfl
  | q + 1 => by rw [Nat.mul_succ, sqn_add, sqn_per a h q, h]
/-- how many unlike conjugates over d -/
def dgO (n m d a : Nat) : Nat := fnd (fun k => sqn n m (d * k) a == a) n 1
theorem dgO_ok {n m d a : Nat} (hG : GF n m) (hd : d ∣ n) (ha : a < 2 ^ n) : 1 ≤ dgO n m d a ∧ dgO n m d a ≤ n / d ∧ sqn n m (d * dgO n m d a) a = a ∧ ∀ l, 1 ≤ l → l < dgO n m d a → sqn n m (d * l) a ≠ a := by
  have hn := hG.1.1.1
  have hd0 : 0 < d := Nat.pos_of_dvd_of_pos hd hn
  have h1 : 1 ≤ n / d := Nat.div_pos (Nat.le_of_dvd hn hd) hd0
  have h2 : n / d ≤ n := Nat.div_le_self _ _
  obtain ⟨a1, a2, a3, a4⟩ := fnd_ok (p := fun k => sqn n m (d * k) a == a) n 1 (n / d) h1 (by omega) (by
    show (sqn n m (d * (n / d)) a == a) = true
    rw [Nat.mul_div_cancel' hd, hG.2 a ha]
    simp)
  refine ⟨a1, a2, eq_of_beq a3, fun l h3 h4 => ?_⟩
  have := a4 l h3 h4
  exact beq_eq_false_iff_ne.mp this
theorem dgO_dvd {n m a k : Nat} (hG : GF n m) (ha : a < 2 ^ n) (h : sqn n m k a = a) : dgO n m 1 a ∣ k := by
  obtain ⟨h1, h2, h3, h4⟩ := dgO_ok hG (Nat.one_dvd n) ha
  rw [Nat.one_mul] at h3
  generalize dgO n m 1 a = e at h1 h2 h3 h4
  have e1 : k = e * (k / e) + k % e := (Nat.div_add_mod k e).symm
  rw [e1, sqn_add, sqn_per a h3] at h
  rcases Nat.eq_zero_or_pos (k % e) with z | z
  · exact Nat.dvd_of_mod_eq_zero z
  · exact absurd (by rw [Nat.one_mul]; exact h) (h4 (k % e) z (Nat.mod_lt _ (by omega)))
theorem dgO_n {n m a : Nat} (hG : GF n m) (ha : a < 2 ^ n) : n % dgO n m 1 a = 0 := Nat.mod_eq_zero_of_dvd (dgO_dvd hG ha (hG.2 a ha))
/-- polynomials with elements before the powers: times X + b -/
def mlX (n m : Nat) (c : Nat → Nat) (b : Nat) : Nat → Nat := fun k => (if k = 0 then 0 else c (k - 1)) ^^^ fm n m (c k) b
def dlt : Nat → Nat := fun k => if k = 0 then 1 else 0
def lpS (n m : Nat) (s : Nat → Nat) : Nat → Nat → Nat
  | 0 => dlt
  | i + 1 => mlX n m (lpS n m s i) (s i)
theorem mlX_lt {n m b : Nat} {c : Nat → Nat} (hm : MDg n m) (hc : ∀ k, c k < 2 ^ n) (hb : b < 2 ^ n) (k : Nat) : mlX n m c b k < 2 ^ n := by
  unfold mlX
  refine xor_lt ?_ (fm_lt hm (hc k) hb)
  split
  · exact Nat.two_pow_pos n
  · exact hc _
theorem dlt_lt {n m : Nat} (hm : MDg n m) (k : Nat) : dlt k < 2 ^ n := by
  unfold dlt
  split
  · exact one_lt hm
  · exact Nat.two_pow_pos n
theorem lpS_lt {n m : Nat} {s : Nat → Nat} (hm : MDg n m) (hs : ∀ i, s i < 2 ^ n) : ∀ i k, lpS n m s i k < 2 ^ n
  | 0, k => dlt_lt hm k
  | i + 1, k => mlX_lt hm (lpS_lt hm hs i) (hs i) k
theorem lpS_z {n m : Nat} {s : Nat → Nat} (hm : MDg n m) (hs : ∀ i, s i < 2 ^ n) : ∀ i k, i < k → lpS n m s i k = 0
  | 0, k, h => by show (if k = 0 then 1 else 0) = 0; rw [if_neg (by omega)]
  | i + 1, k, h => by
    show (if k = 0 then 0 else lpS n m s i (k - 1)) ^^^ fm n m (lpS n m s i k) (s i) = 0
    rw [if_neg (by omega), lpS_z hm hs i (k - 1) (by omega), lpS_z hm hs i k (by omega), fm_0l hm (hs i)]
    rfl
theorem lpS_top {n m : Nat} {s : Nat → Nat} (hm : MDg n m) (hs : ∀ i, s i < 2 ^ n) : ∀ i, lpS n m s i i = 1
  | 0 => rfl
  | i + 1 => by
    show (if i + 1 = 0 then 0 else lpS n m s i (i + 1 - 1)) ^^^ fm n m (lpS n m s i (i + 1)) (s i) = 1
    rw [if_neg (by omega), Nat.add_sub_cancel, lpS_top hm hs i, lpS_z hm hs i (i + 1) (by omega), fm_0l hm (hs i)]
    rfl
theorem mlX_comm {n m a b : Nat} {c : Nat → Nat} (hm : MDg n m) (hc : ∀ k, c k < 2 ^ n) (ha : a < 2 ^ n) (hb : b < 2 ^ n) : mlX n m (mlX n m c a) b = mlX n m (mlX n m c b) a := by
  funext k
  have q : ∀ k, (if k = 0 then 0 else c (k - 1)) < 2 ^ n := by
    intro k
    split
    · exact Nat.two_pow_pos n
    · exact hc _
  show (if k = 0 then 0 else mlX n m c a (k - 1)) ^^^ fm n m (_ ^^^ fm n m (c k) a) b = (if k = 0 then 0 else mlX n m c b (k - 1)) ^^^ fm n m (_ ^^^ fm n m (c k) b) a
  rw [fm_addl hm (q k) (fm_lt hm (hc k) ha) hb, fm_addl hm (q k) (fm_lt hm (hc k) hb) ha]
  have e1 : fm n m (fm n m (c k) a) b = fm n m (fm n m (c k) b) a := by rw [fm_assoc hm (hc k) ha hb, fm_comm hm ha hb, ← fm_assoc hm (hc k) hb ha]
  rw [e1]
  by_cases hk : k = 0
  · subst hk
    simp only [if_pos]
    rw [fm_0l hm ha, fm_0l hm hb]
  · rw [if_neg hk, if_neg hk, if_neg hk]
    unfold mlX
    rw [← Nat.xor_assoc, ← Nat.xor_assoc]
    congr 1
    rw [Nat.xor_assoc, Nat.xor_assoc, Nat.xor_comm (fm n m (c (k - 1)) a)]
theorem lpS_rot {n m : Nat} {s : Nat → Nat} (hm : MDg n m) (hs : ∀ i, s i < 2 ^ n) : ∀ k, mlX n m (lpS n m (fun i => s (i + 1)) k) (s 0) = lpS n m s (k + 1)
  | 0 => rfl
  | k + 1 => by
    show mlX n m (mlX n m (lpS n m (fun i => s (i + 1)) k) (s (k + 1))) (s 0) = mlX n m (lpS n m s (k + 1)) (s (k + 1))
    rw [mlX_comm hm (lpS_lt hm (fun i => hs (i + 1)) k) (hs (k + 1)) (hs 0), lpS_rot hm hs k]
theorem lpS_cg {n m : Nat} {s t : Nat → Nat} : ∀ k, (∀ i, i < k → s i = t i) → lpS n m s k = lpS n m t k
  | 0, _ => rfl
  | k + 1, h => by
    show mlX n m _ _ = mlX n m _ _
    rw [lpS_cg k (fun i hi => h i (by omega)), h k (by omega)]
theorem lpS_shift {n m k : Nat} {s : Nat → Nat} (hm : MDg n m) (hs : ∀ i, s i < 2 ^ n) (hk : 1 ≤ k) (h : s k = s 0) : lpS n m (fun i => s (i + 1)) k = lpS n m s k := by
  obtain ⟨j, rfl⟩ : ∃ j, k = j + 1 := ⟨k - 1, by omega⟩
  show mlX n m (lpS n m (fun i => s (i + 1)) j) (s (j + 1)) = _
  rw [h, lpS_rot hm hs j]
theorem mlX_sq {n m b d : Nat} {c : Nat → Nat} (hm : MDg n m) (hc : ∀ k, c k < 2 ^ n) (hb : b < 2 ^ n) (k : Nat) : sqn n m d (mlX n m c b k) = mlX n m (fun k => sqn n m d (c k)) (sqn n m d b) k := by
  unfold mlX
  have q : (if k = 0 then 0 else c (k - 1)) < 2 ^ n := by
    split
    · exact Nat.two_pow_pos n
    · exact hc _
  rw [sqn_xor hm d _ _ q (fm_lt hm (hc k) hb), sqn_fm hm d _ _ (hc k) hb]
  congr 1
  split
  · exact sqn_0 hm d
  · rfl
theorem lpS_sq {n m d : Nat} {s : Nat → Nat} (hm : MDg n m) (hs : ∀ i, s i < 2 ^ n) : ∀ i, (fun k => sqn n m d (lpS n m s i k)) = lpS n m (fun i => sqn n m d (s i)) i
  | 0 => by
    funext k
    show sqn n m d (if k = 0 then 1 else 0) = if k = 0 then 1 else 0
    split
    · exact sqn_1 hm d
    · exact sqn_0 hm d
  | i + 1 => by
    funext k
    show sqn n m d (mlX n m (lpS n m s i) (s i) k) = mlX n m (lpS n m _ i) _ k
    rw [mlX_sq hm (lpS_lt hm hs i) (hs i), lpS_sq hm hs i]
/-- the conjugates over d -/
def cjd (n m d a : Nat) : Nat → Nat := fun i => sqn n m (d * i) a
theorem cjd_lt {n m d a : Nat} (hm : MDg n m) (ha : a < 2 ^ n) (i : Nat) : cjd n m d a i < 2 ^ n := sqn_lt hm _ _ ha
theorem cjd_sq {n m d a i : Nat} : sqn n m d (cjd n m d a i) = cjd n m d a (i + 1) := by
  unfold cjd
  rw [← sqn_add, Nat.mul_succ]
/-- the least polynomial over d -/
def lpD (n m d a : Nat) : Nat → Nat := lpS n m (cjd n m d a) (dgO n m d a)
theorem lpD_fix {n m d a : Nat} (hG : GF n m) (hd : d ∣ n) (ha : a < 2 ^ n) (k : Nat) : sqn n m d (lpD n m d a k) = lpD n m d a k := by
  have hm := hG.1.1
  obtain ⟨h1, -, h3, -⟩ := dgO_ok hG hd ha
  have e := congrFun (lpS_sq (d := d) hm (cjd_lt (d := d) hm ha) (dgO n m d a)) k
  have e2 : (fun i => sqn n m d (cjd n m d a i)) = fun i => cjd n m d a (i + 1) := by
    funext i
    exact cjd_sq
  rw [e2, lpS_shift hm (cjd_lt hm ha) h1 h3] at e
  exact e
/-! values of such polynomials -/
def vlS (n m : Nat) (c : Nat → Nat) (y : Nat) : Nat → Nat
  | 0 => 0
  | k + 1 => vlS n m c y k ^^^ fm n m (c k) (fpw n m y k)
theorem vlS_lt {n m y : Nat} {c : Nat → Nat} (hm : MDg n m) (hc : ∀ k, c k < 2 ^ n) (hy : y < 2 ^ n) : ∀ k, vlS n m c y k < 2 ^ n
  | 0 => Nat.two_pow_pos n
  | k + 1 => xor_lt (vlS_lt hm hc hy k) (fm_lt hm (hc k) (fpw_lt hm hy k))
theorem vlS_ml {n m y b : Nat} {c : Nat → Nat} (hm : MDg n m) (hc : ∀ k, c k < 2 ^ n) (hy : y < 2 ^ n) (hb : b < 2 ^ n) : ∀ k, vlS n m (mlX n m c b) y (k + 1) = fm n m (vlS n m c y k) y ^^^ fm n m (vlS n m c y (k + 1)) b
  | 0 => by
    show 0 ^^^ fm n m (0 ^^^ fm n m (c 0) b) 1 = fm n m 0 y ^^^ fm n m (0 ^^^ fm n m (c 0) 1) b
    rw [fm_0l hm hy, Nat.zero_xor, Nat.zero_xor, Nat.zero_xor, Nat.zero_xor, fm_1r hm (fm_lt hm (hc 0) hb), fm_1r hm (hc 0)]
  | k + 1 => by
    have h1 := vlS_lt hm hc hy (k + 1)
    have h2 := fpw_lt hm hy k
    have h3 := fpw_lt hm hy (k + 1)
    have h4 := vlS_lt hm hc hy k
    show vlS n m (mlX n m c b) y (k + 1) ^^^ fm n m ((if k + 1 = 0 then 0 else c (k + 1 - 1)) ^^^ fm n m (c (k + 1)) b) (fpw n m y (k + 1)) = fm n m (vlS n m c y (k + 1)) y ^^^ fm n m (vlS n m c y (k + 1) ^^^ fm n m (c (k + 1)) (fpw n m y (k + 1))) b
    rw [vlS_ml hm hc hy hb k, if_neg (by omega), Nat.add_sub_cancel, fm_addl hm (hc k) (fm_lt hm (hc (k + 1)) hb) h3, fm_addl hm h1 (fm_lt hm (hc (k + 1)) h3) hb]
    have e1 : fm n m (fm n m (c (k + 1)) b) (fpw n m y (k + 1)) = fm n m (fm n m (c (k + 1)) (fpw n m y (k + 1))) b := by rw [fm_assoc hm (hc _) hb h3, fm_comm hm hb h3, ← fm_assoc hm (hc _) h3 hb]
    have e2 : fm n m (vlS n m c y (k + 1)) y = fm n m (vlS n m c y k) y ^^^ fm n m (c k) (fpw n m y (k + 1)) := by
      show fm n m (vlS n m c y k ^^^ fm n m (c k) (fpw n m y k)) y = _
      rw [fm_addl hm h4 (fm_lt hm (hc k) h2) hy, fm_assoc hm (hc k) h2 hy]
      rfl
    rw [e1, xor4, ← e2]
theorem vlS_lp {n m y : Nat} {s : Nat → Nat} (hM : MOD n m) (hs : ∀ i, s i < 2 ^ n) (hy : y < 2 ^ n) : ∀ k, vlS n m (lpS n m s k) y (k + 1) = 0 → ∃ i, i < k ∧ s i = y
  | 0, h => by
    have hm := hM.1
    have h : 0 ^^^ fm n m 1 1 = 0 := h
    rw [Nat.zero_xor, fm_1r hm (one_lt hm)] at h
    cases h
  | k + 1, h => by
    have hm := hM.1
    have hc := lpS_lt hm hs k
    have h : vlS n m (mlX n m (lpS n m s k) (s k)) y (k + 2) = 0 := h
    rw [vlS_ml hm hc hy (hs k)] at h
    have e : vlS n m (lpS n m s k) y (k + 2) = vlS n m (lpS n m s k) y (k + 1) := by
      show _ ^^^ fm n m (lpS n m s k (k + 1)) _ = _
      rw [lpS_z hm hs k (k + 1) (by omega), fm_0l hm (fpw_lt hm hy _), Nat.xor_zero]
    rw [e, ← fm_addr hm hy (hs k) (vlS_lt hm hc hy _)] at h
    rcases fm_dom hM (vlS_lt hm hc hy _) (xor_lt hy (hs k)) h with w | w
    · obtain ⟨i, hi, he⟩ := vlS_lp hM hs hy k w
      exact ⟨i, by omega, he⟩
    · exact ⟨k, by omega, (xor_eq0 w).symm⟩
theorem vlS_lp0 {n m : Nat} {s : Nat → Nat} (hM : MOD n m) (hs : ∀ i, s i < 2 ^ n) : ∀ k i, i < k → vlS n m (lpS n m s k) (s i) (k + 1) = 0
  | 0, _, h => by omega
  | k + 1, i, h => by
    have hm := hM.1
    have hc := lpS_lt hm hs k
    show vlS n m (mlX n m (lpS n m s k) (s k)) (s i) (k + 2) = 0
    rw [vlS_ml hm hc (hs i) (hs k)]
    have e : vlS n m (lpS n m s k) (s i) (k + 2) = vlS n m (lpS n m s k) (s i) (k + 1) := by
      show _ ^^^ fm n m (lpS n m s k (k + 1)) _ = _
      rw [lpS_z hm hs k (k + 1) (by omega), fm_0l hm (fpw_lt hm (hs i) _), Nat.xor_zero]
    rw [e, ← fm_addr hm (hs i) (hs k) (vlS_lt hm hc (hs i) _)]
    rcases Nat.eq_or_lt_of_le (Nat.le_of_lt_succ h) with rfl | w
    · rw [Nat.xor_self, fm_0r hm (vlS_lt hm hc (hs i) _)]
    · rw [vlS_lp0 hM hs k i w, fm_0l hm (xor_lt (hs i) (hs k))]
/-! conjugates of one element have one least polynomial -/
theorem dgO_cj {n m d a : Nat} (hG : GF n m) (hd : d ∣ n) (ha : a < 2 ^ n) : dgO n m d (sqn n m d a) = dgO n m d a := by
  have hm := hG.1.1
  unfold dgO
  refine fnd_cg n 1 (fun k _ _ => ?_)
  show (sqn n m (d * k) (sqn n m d a) == sqn n m d a) = (sqn n m (d * k) a == a)
  rw [Bool.eq_iff_iff, beq_iff_eq, beq_iff_eq, sqn_comm]
  constructor
  · intro h
    have h2 := congrArg (sqn n m (n - d)) h
    have hle := Nat.le_of_dvd hm.1 hd
    have key : ∀ y, y < 2 ^ n → sqn n m (n - d) (sqn n m d y) = y := fun y hy => by rw [← sqn_add, show d + (n - d) = n by omega, hG.2 _ hy]
    rw [key _ ha, key _ (sqn_lt hm _ _ ha)] at h2
    exact h2
  · intro h
    rw [h]
theorem lpD_cj {n m d a : Nat} (hG : GF n m) (hd : d ∣ n) (ha : a < 2 ^ n) : lpD n m d (sqn n m d a) = lpD n m d a := by
  have hm := hG.1.1
  obtain ⟨h1, -, h3, -⟩ := dgO_ok hG hd ha
  unfold lpD
  rw [dgO_cj hG hd ha, ← lpS_shift hm (cjd_lt hm ha) h1 h3]
  refine lpS_cg _ (fun i _ => ?_)
  unfold cjd
  rw [← sqn_add, Nat.mul_succ, Nat.add_comm]
theorem lpD_cjs {n m a : Nat} (hG : GF n m) (ha : a < 2 ^ n) : ∀ i, lpD n m 1 (sqn n m i a) = lpD n m 1 a
  | 0 => rfl
  | i + 1 => by
    have e : sqn n m (i + 1) a = sqn n m 1 (sqn n m i a) := by rw [← sqn_add]
    rw [e, lpD_cj hG (Nat.one_dvd n) (sqn_lt hG.1.1 i a ha), lpD_cjs hG ha i]
/-- one least polynomial: conjugates -/
theorem lpD_inj {n m a b : Nat} (hG : GF n m) (ha : a < 2 ^ n) (hb : b < 2 ^ n) (h : lpD n m 1 a = lpD n m 1 b) : ∃ i, sqn n m i a = b := by
  have hm := hG.1.1
  obtain ⟨a1, -, a3, -⟩ := dgO_ok hG (Nat.one_dvd n) ha
  obtain ⟨b1, -, b3, -⟩ := dgO_ok hG (Nat.one_dvd n) hb
  have ta := lpS_top hm (cjd_lt (d := 1) hm ha) (dgO n m 1 a)
  have tb := lpS_top hm (cjd_lt (d := 1) hm hb) (dgO n m 1 b)
  have za := lpS_z hm (cjd_lt (d := 1) hm ha) (dgO n m 1 a)
  have zb := lpS_z hm (cjd_lt (d := 1) hm hb) (dgO n m 1 b)
  have e : dgO n m 1 a = dgO n m 1 b := by
    have h' : lpS n m (cjd n m 1 a) (dgO n m 1 a) = lpS n m (cjd n m 1 b) (dgO n m 1 b) := h
    rcases Nat.lt_trichotomy (dgO n m 1 a) (dgO n m 1 b) with w | w | w
    · have := za _ w
      rw [h', tb] at this
      cases this
    · exact w
    · have := zb _ w
      rw [← h', ta] at this
      cases this
  have h1 := vlS_lp0 hG.1 (cjd_lt (d := 1) hm hb) (dgO n m 1 b) 0 b1
  have h' : lpS n m (cjd n m 1 b) (dgO n m 1 b) = lpS n m (cjd n m 1 a) (dgO n m 1 a) := h.symm
  rw [h', ← e] at h1
  obtain ⟨i, -, hi⟩ := vlS_lp hG.1 (cjd_lt (d := 1) hm ha) (cjd_lt (d := 1) hm hb 0) (dgO n m 1 a) h1
  exact ⟨1 * i, hi⟩
