/-! THERE ARE IMAGES, for all moduli -/
theorem pvl_frob {n m r : Nat} (hm : MDg n m) (hr : r < 2 ^ n) (v : Nat) : pvl n m (fm n m r r) v = fm n m (pvl n m r v) (pvl n m r v) := by
  have key : ∀ k, cmb (fpw n m (fm n m r r)) k v = fm n m (cmb (fpw n m r) k v) (cmb (fpw n m r) k v) := by
    intro k
    induction k with
    | zero => exact (fm_0l hm (Nat.two_pow_pos n)).symm
    | succ k ih =>
      have h1 : (if v.testBit k then fpw n m r k else 0) < 2 ^ n := by
        split
        · exact fpw_lt hm hr k
        · exact Nat.two_pow_pos n
      show cmb (fpw n m (fm n m r r)) k v ^^^ _ = fm n m (cmb (fpw n m r) k v ^^^ _) (cmb (fpw n m r) k v ^^^ _)
      rw [ih, sq_add hm (cmb_lt k (fun i _ => fpw_lt hm hr i)) h1]
      congr 1
      split
      · exact fpw_fm hm hr hr k
      · exact (fm_0l hm (Nat.two_pow_pos n)).symm
  exact key v
theorem mod2_7 {p : Nat} (hP : MOD 2 p) : p = 7 := by
  have h := MOD_lt (by decide : 2 ≤ 12) hP.1
  have hT := irr_T h.1 h.2 hP.2
  have := hP.1.2
  have e1 : (2 : Nat) ^ 2 = 4 := rfl
  have e2 : (2 : Nat) ^ (2 + 1) = 8 := rfl
  rcases (show p = 4 ∨ p = 5 ∨ p = 6 ∨ p = 7 by omega) with rfl | rfl | rfl | rfl
  · exact absurd hT (by decide +kernel)
  · exact absurd hT (by decide +kernel)
  · exact absurd hT (by decide +kernel)
  · rfl
theorem root7 {n m y z : Nat} (hM : MOD n m) (hy : root n m 7 y) (hz : root n m 7 z) : z = y ∨ z = fm n m y y := by
  have hm := hM.1
  have ev : ∀ y, y < 2 ^ n → pvl n m y 7 = (fm n m y y ^^^ y) ^^^ 1 := by
    intro y hy
    have e1 : pvl n m y 7 = pvl n m y (2 ^ 2 ^^^ 2) ^^^ pvl n m y 1 := pvl_xor n m y 6 1
    rw [e1, pvl_xor, pvl_2k, pvl_x hm hy, pvl_1, fpw_2 hm hy]
  have h1 := hy.2
  have h2 := hz.2
  rw [ev y hy.1] at h1
  rw [ev z hz.1] at h2
  have h3 : fm n m y y ^^^ y = 1 := xor_eq0 h1
  have h4 : fm n m z z ^^^ z = 1 := xor_eq0 h2
  have h5 : fm n m (y ^^^ z) ((y ^^^ z) ^^^ 1) = 0 := by
    rw [fm_addr hm (xor_lt hy.1 hz.1) (one_lt hm) (xor_lt hy.1 hz.1), fm_1r hm (xor_lt hy.1 hz.1), sq_add hm hy.1 hz.1, xor4, h3, h4]
    rfl
  rcases fm_dom hM (xor_lt hy.1 hz.1) (xor_lt (xor_lt hy.1 hz.1) (one_lt hm)) h5 with w | w
  · exact Or.inl (xor_eq0 w).symm
  · right
    have h6 := xor_eq0 w
    rw [← h3] at h6
    have h7 := congrArg (fun t => y ^^^ t) h6
    simp only [xor_cx] at h7
    rw [h7, Nat.xor_comm, xor_xc]
theorem agr_only : (List.range 13).all (fun n => (List.range 13).all (fun d => (List.range 13).all (fun e => Nat.blt d 1 || Nat.ble n d || !(n % d == 0) || !(gbw d n == 0) || Nat.ble e d || Nat.ble n e || !(n % e == 0) || Nat.ble (Nat.gcd d e) 1 || (d == 4 && n == 12 && e == 6)))) = true := by decide +kernel
theorem agr_case {d n e : Nat} (hd : 1 ≤ d) (hdn : d < n) (hn : n ≤ 12) (hdv : d ∣ n) (hg : gbw d n = 0) (he1 : d < e) (he2 : e < n) (he3 : e ∣ n) (h : 1 < Nat.gcd d e) : d = 4 ∧ n = 12 ∧ e = 6 := by
  have q := List.all_eq_true.mp (List.all_eq_true.mp (List.all_eq_true.mp agr_only n (List.mem_range.mpr (by omega))) d (List.mem_range.mpr (by omega))) e (List.mem_range.mpr (by omega))
  have e1 : Nat.blt d 1 = false := by rw [← Bool.not_eq_true, blt_iff]; omega
  have e2 : Nat.ble n d = false := by rw [← Bool.not_eq_true, Nat.ble_eq]; omega
  have e3 : (n % d == 0) = true := beq_iff_eq.mpr (Nat.mod_eq_zero_of_dvd hdv)
  have e4 : (gbw d n == 0) = true := beq_iff_eq.mpr hg
  have e5 : Nat.ble e d = false := by rw [← Bool.not_eq_true, Nat.ble_eq]; omega
  have e6 : Nat.ble n e = false := by rw [← Bool.not_eq_true, Nat.ble_eq]; omega
  have e7 : (n % e == 0) = true := beq_iff_eq.mpr (Nat.mod_eq_zero_of_dvd he3)
  have e8 : Nat.ble (Nat.gcd d e) 1 = false := by rw [← Bool.not_eq_true, Nat.ble_eq]; omega
  rw [e1, e2, e3, e4, e5, e6, e7, e8] at q
  simp only [Bool.not_true, Bool.false_or, Bool.and_eq_true, beq_iff_eq] at q
  exact ⟨q.1.1, q.1.2, q.2⟩
/-- pairs before (d, n): smaller fields, or the same with a greater divisor -/
def bfr (d n d' n' : Nat) : Prop := 1 ≤ n' ∧ n' ≤ 12 ∧ 1 ≤ d' ∧ d' ∣ n' ∧ (n' < n ∨ (n' = n ∧ d < d'))
theorem AGR_iff' {u : Nat → Nat} {r : Nat → Nat → Nat} (hu : MDS u) {n d a : Nat} (hn1 : 1 ≤ n) (hn : n ≤ 12) (hd1 : 1 ≤ d) (hd : d ∣ n) (hdn : d < n) (hr : ∀ n' d', bfr d n d' n' → root n' (u n') (u d') (r d' n')) (ha : root n (u n) (u d) a) : AGR u r d n a ↔ ∀ e, d < e → e < n → e ∣ n → 1 < Nat.gcd d e → pvl n (u n) a (r (Nat.gcd d e) d) = pvl n (u n) (r e n) (r (Nat.gcd d e) e) := by
  have hm := (hu n hn1 hn).1
  have key : ∀ e, d < e → e < n → e ∣ n → ∀ v, pvl n (u n) a (pvl d (u d) (r (Nat.gcd d e) d) v) = pvl n (u n) (pvl n (u n) a (r (Nat.gcd d e) d)) v ∧ pvl n (u n) (r e n) (pvl e (u e) (r (Nat.gcd d e) e) v) = pvl n (u n) (pvl n (u n) (r e n) (r (Nat.gcd d e) e)) v := by
    intro e e1 e2 e3 v
    have g0 : 1 ≤ Nat.gcd d e := Nat.gcd_pos_of_pos_left _ hd1
    exact ⟨hom_comp (hu d hd1 (by omega)).1 hm ha (hr d _ ⟨hd1, by omega, g0, Nat.gcd_dvd_left d e, Or.inl hdn⟩).1 v, hom_comp (hu e (by omega) (by omega)).1 hm (hr n e ⟨hn1, hn, by omega, e3, Or.inr ⟨rfl, e1⟩⟩) (hr e _ ⟨by omega, by omega, g0, Nat.gcd_dvd_right d e, Or.inl e2⟩).1 v⟩
  constructor
  · intro h e e1 e2 e3 e4
    have h4 : 2 < 2 ^ Nat.gcd d e := Nat.lt_of_lt_of_le (by decide : 2 < 2 ^ 2) (pow_le e4)
    have := h e e1 e2 e3 2 h4
    rw [(key e e1 e2 e3 2).1, (key e e1 e2 e3 2).2, pvl_x hm (pvl_lt hm ha.1), pvl_x hm (pvl_lt hm (hr n e ⟨hn1, hn, by omega, e3, Or.inr ⟨rfl, e1⟩⟩).1)] at this
    exact this
  · intro h e e1 e2 e3 v hv
    rw [(key e e1 e2 e3 v).1, (key e e1 e2 e3 v).2]
    rcases Nat.lt_or_ge 1 (Nat.gcd d e) with w | w
    · rw [h e e1 e2 e3 w]
    · have g0 : 1 ≤ Nat.gcd d e := Nat.gcd_pos_of_pos_left _ hd1
      have : Nat.gcd d e = 1 := by omega
      rw [this] at hv
      rcases (show v = 0 ∨ v = 1 by have : v < 2 := hv; omega) with rfl | rfl
      · rw [pvl_0, pvl_0]
      · rw [pvl_1, pvl_1]
theorem AGR_ex {u : Nat → Nat} {r : Nat → Nat → Nat} (hu : MDS u) {n d : Nat} (hn1 : 1 ≤ n) (hn : n ≤ 12) (hd1 : 1 ≤ d) (hd : d ∣ n) (hdn : d < n) (hg : gbw d n = 0) (hr : ∀ n' d', bfr d n d' n' → root n' (u n') (u d') (r d' n')) : ∃ a, a < 2 ^ n ∧ pvl n (u n) a (u d) = 0 ∧ AGR u r d n a := by
  have hM := hu n hn1 hn
  have hm := hM.1
  obtain ⟨a, ha⟩ := root_ex hn hd (hu d hd1 (by omega)) hM
  by_cases hx : d = 4 ∧ n = 12
  · obtain ⟨rfl, rfl⟩ := hx
    have r24 := hr 4 2 ⟨by decide, by decide, by decide, ⟨2, rfl⟩, Or.inl (by decide)⟩
    have r26 := hr 6 2 ⟨by decide, by decide, by decide, ⟨3, rfl⟩, Or.inl (by decide)⟩
    have r612 := hr 12 6 ⟨by decide, by decide, by decide, ⟨2, rfl⟩, Or.inr ⟨rfl, by decide⟩⟩
    have h7 := mod2_7 (hu 2 (by decide) (by decide))
    have y1 := hom_root (hu 4 (by decide) (by decide)).1 hm ha r24
    have y2 := hom_root (hu 6 (by decide) (by decide)).1 hm r612 r26
    rw [h7] at y1 y2
    have only : ∀ e, 4 < e → e < 12 → e ∣ 12 → 1 < Nat.gcd 4 e → e = 6 := fun e e1 e2 e3 e4 => (agr_case (by decide) (by decide) (by decide) ⟨3, rfl⟩ hg e1 e2 e3 e4).2.2
    rcases root7 hM y1 y2 with w | w
    · refine ⟨a, ha.1, ha.2, (AGR_iff' hu (by decide) (by decide) (by decide) ⟨3, rfl⟩ (by decide) hr ha).mpr (fun e e1 e2 e3 e4 => ?_)⟩
      have := only e e1 e2 e3 e4
      subst this
      exact w.symm
    · have hb : root 12 (u 12) (u 4) (fm 12 (u 12) a a) := ⟨fm_lt hm ha.1 ha.1, by rw [pvl_frob hm ha.1, ha.2, fm_0l hm (Nat.two_pow_pos 12)]⟩
      refine ⟨_, hb.1, hb.2, (AGR_iff' hu (by decide) (by decide) (by decide) ⟨3, rfl⟩ (by decide) hr hb).mpr (fun e e1 e2 e3 e4 => ?_)⟩
      have := only e e1 e2 e3 e4
      subst this
      rw [pvl_frob hm ha.1]
      exact w.symm
  · refine ⟨a, ha.1, ha.2, (AGR_iff' hu hn1 hn hd1 hd hdn hr ha).mpr (fun e e1 e2 e3 e4 => ?_)⟩
    have := agr_case hd1 hdn hn hd hg e1 e2 e3 e4
    exact absurd ⟨this.1, this.2.1⟩ hx
noncomputable def agB (u : Nat → Nat) (r : Nat → Nat → Nat) (d n a : Nat) : Bool := @decide (pvl n (u n) a (u d) = 0 ∧ AGR u r d n a) (Classical.propDecidable _)
theorem agB_iff {u : Nat → Nat} {r : Nat → Nat → Nat} {d n a : Nat} : agB u r d n a = true ↔ pvl n (u n) a (u d) = 0 ∧ AGR u r d n a := @decide_eq_true_iff _ (Classical.propDecidable _)
noncomputable def imR (u : Nat → Nat) : Nat → Nat → Nat → Nat
  | 0, _, _ => 0
  | f + 1, d, n => if d = n then xof n (u n) else if gbw d n ≠ 0 then pvl n (u n) (imR u f (gbw d n) n) (imR u f d (gbw d n)) else fnd (agB u (imR u f) d n) (2 ^ n) 0
theorem AGR_cg {u : Nat → Nat} {r r' : Nat → Nat → Nat} {d n a : Nat} (hn1 : 1 ≤ n) (hn : n ≤ 12) (hd1 : 1 ≤ d) (hd : d ∣ n) (hdn : d < n) (hr : ∀ n' d', bfr d n d' n' → r d' n' = r' d' n') : AGR u r d n a ↔ AGR u r' d n a := by
  have k : ∀ e, d < e → e < n → e ∣ n → r (Nat.gcd d e) d = r' (Nat.gcd d e) d ∧ r e n = r' e n ∧ r (Nat.gcd d e) e = r' (Nat.gcd d e) e := by
    intro e e1 e2 e3
    have g0 : 1 ≤ Nat.gcd d e := Nat.gcd_pos_of_pos_left _ hd1
    exact ⟨hr d _ ⟨hd1, by omega, g0, Nat.gcd_dvd_left d e, Or.inl hdn⟩, hr n e ⟨hn1, hn, by omega, e3, Or.inr ⟨rfl, e1⟩⟩, hr e _ ⟨by omega, by omega, g0, Nat.gcd_dvd_right d e, Or.inl e2⟩⟩
  unfold AGR
  constructor
  · intro h e e1 e2 e3 v hv
    have := h e e1 e2 e3 v hv
    obtain ⟨k1, k2, k3⟩ := k e e1 e2 e3
    rwa [k1, k2, k3] at this
  · intro h e e1 e2 e3 v hv
    have := h e e1 e2 e3 v hv
    obtain ⟨k1, k2, k3⟩ := k e e1 e2 e3
    rwa [← k1, ← k2, ← k3] at this
theorem imR_st (u : Nat → Nat) : ∀ f d n, 1 ≤ n → n ≤ 12 → 1 ≤ d → d ∣ n → 13 * n - d < f → imR u f d n = imR u (f + 1) d n := by
  intro f
  induction f with
  | zero => intro d n _ _ _ _ h; omega
  | succ f ih =>
    intro d n h1 h2 h3 h4 h5
    have hle := Nat.le_of_dvd h1 h4
    show (if d = n then _ else if gbw d n ≠ 0 then _ else _) = (if d = n then _ else if gbw d n ≠ 0 then _ else _)
    by_cases e : d = n
    · rw [if_pos e, if_pos e]
    · rw [if_neg e, if_neg e]
      by_cases hg : gbw d n ≠ 0
      · rw [if_pos hg, if_pos hg]
        obtain ⟨g1, g2, g3, g4⟩ := gbw_ok hg
        rw [ih (gbw d n) n h1 h2 (by omega) g3 (by omega), ih d (gbw d n) (by omega) (by omega) h3 g4 (by omega)]
      · rw [if_neg hg, if_neg hg]
        refine fnd_cg _ _ (fun k _ _ => ?_)
        rw [Bool.eq_iff_iff, agB_iff, agB_iff, AGR_cg (r := imR u f) (r' := imR u (f + 1)) h1 h2 h3 h4 (by omega) (fun n' d' hb => ?_)]
        obtain ⟨b1, b2, b3, b4, b5⟩ := hb
        have := Nat.le_of_dvd b1 b4
        exact ih d' n' b1 b2 b3 b4 (by omega)
noncomputable def imF (u : Nat → Nat) : Nat → Nat → Nat := imR u 200
theorem imF_eq (u : Nat → Nat) {d n : Nat} (h1 : 1 ≤ n) (h2 : n ≤ 12) (h3 : 1 ≤ d) (h4 : d ∣ n) : imF u d n = if d = n then xof n (u n) else if gbw d n ≠ 0 then pvl n (u n) (imF u (gbw d n) n) (imF u d (gbw d n)) else fnd (agB u (imF u) d n) (2 ^ n) 0 := by
  have := imR_st u 200 d n h1 h2 h3 h4 (by omega)
  exact this
theorem imF_ok {u : Nat → Nat} (hu : MDS u) : ∀ M n d, 13 * n - d = M → 1 ≤ n → n ≤ 12 → 1 ≤ d → d ∣ n → root n (u n) (u d) (imF u d n) ∧ (d < n → gbw d n = 0 → LST (fun a => a < 2 ^ n ∧ pvl n (u n) a (u d) = 0 ∧ AGR u (imF u) d n a) (imF u d n)) := by
  intro M
  induction M using Nat.strongRecOn with
  | _ M ih =>
    intro n d hM h1 h2 h3 h4
    have hle := Nat.le_of_dvd h1 h4
    have hm := (hu n h1 h2).1
    have hr : d < n → ∀ n' d', bfr d n d' n' → root n' (u n') (u d') (imF u d' n') := by
      rintro hdn n' d' ⟨b1, b2, b3, b4, b5⟩
      have := Nat.le_of_dvd b1 b4
      exact (ih (13 * n' - d') (by omega) n' d' rfl b1 b2 b3 b4).1
    have eq := imF_eq u h1 h2 h3 h4
    by_cases e : d = n
    · rw [if_pos e] at eq
      rw [eq, e]
      exact ⟨xof_root hm, fun w => by omega⟩
    · rw [if_neg e] at eq
      by_cases hg : gbw d n ≠ 0
      · rw [if_pos hg] at eq
        obtain ⟨g1, g2, g3, g4⟩ := gbw_ok hg
        refine ⟨?_, fun _ w => absurd w hg⟩
        rw [eq]
        exact hom_root (hu (gbw d n) (by omega) (by omega)).1 hm (ih (13 * n - gbw d n) (by omega) n (gbw d n) rfl h1 h2 (by omega) g3).1 (ih (13 * gbw d n - d) (by omega) (gbw d n) d rfl (by omega) (by omega) h3 g4).1
      · rw [if_neg hg] at eq
        have hg0 : gbw d n = 0 := Decidable.not_not.mp hg
        obtain ⟨a, a1, a2, a3⟩ := AGR_ex hu h1 h2 h3 h4 (by omega) hg0 (hr (by omega))
        obtain ⟨-, f2, f3, f4⟩ := fnd_ok (p := agB u (imF u) d n) (2 ^ n) 0 a (Nat.zero_le _) (by omega) (agB_iff.mpr ⟨a2, a3⟩)
        rw [← eq] at f2 f3 f4
        have f3 := agB_iff.mp f3
        have hlt : imF u d n < 2 ^ n := Nat.lt_of_le_of_lt f2 a1
        refine ⟨⟨hlt, f3.1⟩, fun _ _ => ⟨⟨hlt, f3.1, f3.2⟩, fun b hb hq => ?_⟩⟩
        have := f4 b (Nat.zero_le _) hb
        rw [agB_iff.mpr ⟨hq.2.1, hq.2.2⟩] at this
        cases this
theorem img_ex {u : Nat → Nat} (hu : MDS u) : IMG u (imF u) := by
  intro n d h1 h2 h3 h4
  have eq := imF_eq u h1 h2 h3 h4
  refine ⟨fun e => ?_, fun hdn hg => ?_, fun hdn hg => (imF_ok hu _ n d rfl h1 h2 h3 h4).2 hdn hg⟩
  · rw [if_pos e] at eq
    exact eq
  · rw [if_neg (by omega), if_pos hg] at eq
    exact eq
