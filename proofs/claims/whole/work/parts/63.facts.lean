/-! WHAT THE TABLES GIVE -/
theorem blt_iff (a b : Nat) : Nat.blt a b = true ↔ a < b := by
  show Nat.ble (a + 1) b = true ↔ a < b
  rw [Nat.ble_eq]
  exact Iff.rfl
theorem irr_T {p : Nat} (h2 : 2 ≤ p) (hp : p < 8192) (hi : irr p) : irrT.testBit p = true := by
  have h := ckF_all hp
  unfold ckF at h
  cases hb : irrT.testBit p with
  | true => rfl
  | false =>
    exfalso
    rw [hb] at h
    have n2 : Nat.blt p 2 = false := by
      rw [← Bool.not_eq_true, blt_iff]
      omega
    rw [n2, Bool.or_false, Bool.false_or, Bool.and_eq_true, Bool.and_eq_true, Bool.and_eq_true, blt_iff, blt_iff, beq_iff_eq, Bool.not_eq_true', beq_eq_false_iff_ne] at h
    obtain ⟨⟨⟨h1, h3⟩, h4⟩, h5⟩ := h
    obtain ⟨q, hq⟩ := (rem13_dvd hp (by omega) (by omega)).mp h1
    rcases hi q _ hq.symm with w | w
    · rw [w, cl_1l] at hq
      exact h5 hq.symm
    · omega
theorem least_dv {p : Nat} (hp0 : p ≠ 0) {d : Nat} (hd : 2 ≤ d) (h : pdvd d p) : ∃ q, 2 ≤ q ∧ q ≤ d ∧ pdvd q p ∧ irr q := by
  obtain ⟨q, h1, ⟨h2, h3⟩, h4⟩ := least_ex (p := fun q => 2 ≤ q ∧ pdvd q p) d ⟨hd, h⟩
  refine ⟨q, h2, h1, h3, ?_⟩
  intro a b hab
  have ha0 : a ≠ 0 := fun z => by rw [z, cl_0l] at hab; omega
  have hb0 : b ≠ 0 := fun z => by rw [z, cl_0r] at hab; omega
  rcases Nat.lt_or_ge b 2 with w | w
  · exact Or.inr (by omega)
  left
  have hbp : pdvd b p := by
    obtain ⟨c, hc⟩ := h3
    exact ⟨cl c a, by rw [cl_assoc, hab]; exact hc⟩
  have hge : q ≤ b := Nat.le_of_not_lt (fun z => h4 b z ⟨w, hbp⟩)
  obtain ⟨i, a1, a2⟩ := dg_ex ha0
  obtain ⟨j, b1, b2⟩ := dg_ex hb0
  have hd := cl_deg a1 a2 b1 b2
  rw [hab] at hd
  rcases Nat.eq_zero_or_pos i with z | z
  · subst z
    have : a < 2 := a2
    omega
  · exfalso
    have := pow_le (show j + 1 ≤ i + j by omega)
    omega
theorem T_irr {p : Nat} (h2 : 2 ≤ p) (hp : p < 8192) (hb : irrT.testBit p = true) : irr p := by
  rw [← isIrrB_iff h2 hp]
  unfold isIrrB
  rw [tryD_iff]
  intro d hd1 hd2 hr
  have l1 := log2_lt13 hp
  have hp7 : (2 : Nat) ^ (p.log2 / 2 + 1) ≤ 128 := Nat.le_trans (pow_le (j := 7) (by omega)) (by decide)
  have hp2 : (2 : Nat) ≤ 2 ^ (p.log2 / 2 + 1) := two_pow_ge2 (by omega)
  have hd7 : d < 2 ^ (p.log2 / 2 + 1) := by omega
  obtain ⟨q, q1, q2, q3, q4⟩ := least_dv (by omega) hd1 ((rem13_dvd hp (by omega) (by omega)).mp hr)
  have hqT := irr_T q1 (by omega) q4
  have hin := ab_iff 7 0 smI_all q (by omega) (by have : (2 : Nat) ^ 7 = 128 := rfl; omega)
  have n2 : Nat.blt q 2 = false := by
    rw [← Bool.not_eq_true, blt_iff]
    omega
  simp only [n2, hqT, Bool.not_true, Bool.false_or] at hin
  have h := ckI_all hp
  unfold ckI at h
  rw [hb, Bool.not_true, Bool.false_or, List.all_eq_true] at h
  have h := h q (by simpa using hin)
  rw [Bool.or_eq_true, blt_iff, Bool.not_eq_true', beq_eq_false_iff_ne] at h
  rcases h with w | w
  · have := Nat.log2_self_le (n := q) (by omega)
    rcases Nat.lt_or_ge q.log2 (p.log2 / 2 + 1) with z | z
    · omega
    · have := pow_le z
      omega
  · exact w ((rem13_dvd hp (by omega) (by omega)).mpr q3)
/-- all standard moduli are moduli -/
theorem lm_ck : (List.range 12).all (fun n => irrT.testBit (lm (n + 1)) && Nat.ble (2 ^ (n + 1)) (lm (n + 1)) && Nat.blt (lm (n + 1)) (2 ^ (n + 2))) = true := by decide +kernel
theorem pow12 {n : Nat} (hn : n ≤ 12) : (2 : Nat) ^ n ≤ 4096 := pow_le (j := 12) hn
theorem pow13 {n : Nat} (hn : n ≤ 12) : (2 : Nat) ^ (n + 1) ≤ 8192 := pow_le (j := 13) (by omega)
theorem lm_MOD {n : Nat} (h1 : 1 ≤ n) (hn : n ≤ 12) : MOD n (lm n) := by
  have h := List.all_eq_true.mp lm_ck (n - 1) (List.mem_range.mpr (by omega))
  rw [show n - 1 + 1 = n by omega, show n - 1 + 2 = n + 1 by omega, Bool.and_eq_true, Bool.and_eq_true, Nat.ble_eq, blt_iff] at h
  have := two_pow_ge2 h1
  have := pow13 hn
  exact ⟨⟨h1, h.1.2, h.2⟩, T_irr (by omega) (by omega) h.1.1⟩
theorem lm_GF {n : Nat} (h1 : 1 ≤ n) (hn : n ≤ 12) : GF n (lm n) := by
  have hM := lm_MOD h1 hn
  have h := List.all_eq_true.mp ckX_all n (List.mem_range.mpr (by omega))
  unfold ckX at h
  rw [Bool.or_eq_true, blt_iff, beq_iff_eq] at h
  rcases h with w | w
  · have : n = 1 := by omega
    subst this
    exact GF_1 hM
  · rcases Nat.eq_or_lt_of_le h1 with z | z
    · subst z
      exact GF_1 hM
    · exact GF_of hM z w
theorem MOD_log2 {n m : Nat} (hm : MDg n m) : m.log2 = n := by
  have h0 : m ≠ 0 := by have := hm.2.1; have := Nat.two_pow_pos n; omega
  exact dg_uq (Nat.log2_self_le h0) Nat.lt_log2_self hm.2.1 hm.2.2
theorem MOD_lt {n m : Nat} (hn : n ≤ 12) (hm : MDg n m) : 2 ≤ m ∧ m < 8192 := by
  have := two_pow_ge2 hm.1
  have := pow13 hn
  have := hm.2
  omega
/-- each modulus has a root in the standard field -/
theorem rt_ex {n m : Nat} (hn : n ≤ 12) (hM : MOD n m) : ∃ r, root n (lm n) m r := by
  obtain ⟨h2, h8⟩ := MOD_lt hn hM.1
  have h := ckR_all h8
  unfold ckR at h
  have hS := lm_MOD hM.1.1 hn
  rw [irr_T h2 h8 hM.2, Bool.not_true, Bool.false_or, MOD_log2 hM.1, Bool.and_eq_true, blt_iff, beq_iff_eq] at h
  refine ⟨rtH m, h.1, ?_⟩
  have := h.2
  rwa [hrn_0 hS.1 h.1 (k := 13) (by omega)] at this
theorem all_GF {n m : Nat} (hn : n ≤ 12) (hM : MOD n m) : GF n m := by
  obtain ⟨r, hr⟩ := rt_ex hn hM
  exact iso_GF hM (lm_GF hM.1.1 hn) hr
theorem lm_prim {n : Nat} (h1 : 1 ≤ n) (hn : n ≤ 12) : ∃ g, prim n (lm n) g := by
  have hG := lm_GF h1 hn
  have hm := hG.1.1
  have h := List.all_eq_true.mp ckP_all (n - 1) (List.mem_range.mpr (by omega))
  rw [show n - 1 + 1 = n by omega] at h
  unfold ckP at h
  rw [Bool.and_eq_true, Bool.and_eq_true, blt_iff, Bool.not_eq_true', beq_eq_false_iff_ne] at h
  obtain ⟨⟨hg, h0⟩, hk⟩ := h
  refine ⟨prL.getD n 0, hg, h0, ?_⟩
  generalize prL.getD n 0 = g at hg h0 hk
  obtain ⟨k, k1, k2⟩ := ord_ex hG hg h0
  have hd := ord_dvd hm hg k2 (fermat hG hg h0)
  rcases Nat.eq_or_lt_of_le k1 with w | w
  · rw [← w]
    exact k2
  · exfalso
    have := pow12 hn
    have hq := ab_iff 12 0 hk k (by omega) (by have : (2 : Nat) ^ 12 = 4096 := rfl; omega)
    have e1 : (k == 0) = false := by have := k2.1; simp; omega
    have e2 : Nat.ble (2 ^ n - 1) k = false := by
      rw [← Bool.not_eq_true, Nat.ble_eq]
      omega
    have e3 : ((2 ^ n - 1) % k == 0) = true := by simp [Nat.mod_eq_zero_of_dvd hd]
    have e4 : pwB n (lm n) 12 k g 1 = 1 := by
      rw [pwB_eq hm 12 k g 1 hg (one_lt hm) (by have : (2 : Nat) ^ 12 = 4096 := rfl; omega), fm_1l hm (fpw_lt hm hg k)]
      exact k2.2.1
    simp only [e1, e2, e3, e4] at hq
    exact absurd hq (by decide)
theorem all_prim {n m : Nat} (hn : n ≤ 12) (hM : MOD n m) : ∃ g, prim n m g := by
  obtain ⟨r, hr⟩ := rt_ex hn hM
  obtain ⟨g, hg⟩ := lm_prim hM.1.1 hn
  exact iso_prim hM (lm_MOD hM.1.1 hn) hr hg
theorem lm_nrm {n : Nat} (h1 : 1 ≤ n) (hn : n ≤ 12) : ∃ b, b < 2 ^ n ∧ nrm n (lm n) b := by
  have h := List.all_eq_true.mp ckN_all (n - 1) (List.mem_range.mpr (by omega))
  rw [show n - 1 + 1 = n by omega] at h
  unfold ckN at h
  rw [Bool.and_eq_true, Bool.and_eq_true, blt_iff, List.all_eq_true] at h
  obtain ⟨⟨h2, h3⟩, h4⟩ := h
  refine ⟨norR n 0, h3, ?_⟩
  have e : ∀ i, i < n → cjn n (lm n) (norR n 0) i = norR n i := by
    intro i
    induction i with
    | zero => intro _; rfl
    | succ i ih =>
      intro hi
      show sqn n (lm n) (i + 1) _ = _
      have ih' : sqn n (lm n) i (norR n 0) = norR n i := ih (by omega)
      rw [sqn_succ, ih']
      have := h4 i (List.mem_range.mpr (by omega))
      rw [Bool.or_eq_true, blt_iff, beq_iff_eq] at this
      rcases this with w | w
      · omega
      · exact w
  exact (indep_cg e).mpr (okS_indep h2)
theorem all_nrm {n m : Nat} (hn : n ≤ 12) (hM : MOD n m) : ∃ b, b < 2 ^ n ∧ nrm n m b := by
  obtain ⟨r, hr⟩ := rt_ex hn hM
  have hS := lm_MOD hM.1.1 hn
  obtain ⟨b, hb, hN⟩ := lm_nrm hM.1.1 hn
  obtain ⟨a, ha, he⟩ := iso_sur hM hS.1 hr hb
  refine ⟨a, ha, fun c hc h0 => hN c hc ?_⟩
  have := cmb_lin (f := pvl n (lm n) r) (n := n) (pvl_0 _ _ _) (fun x y _ _ => pvl_xor _ _ _ x y) c n (fun i _ => cjn_lt hM.1 ha i)
  rw [h0, pvl_0] at this
  rw [show cmb (cjn n (lm n) b) n c = cmb (fun i => pvl n (lm n) r (cjn n m a i)) n c from cmb_cg n (fun i _ => ⟨by
    show sqn n (lm n) i b = pvl n (lm n) r (sqn n m i a)
    rw [hom_sq hM.1 hS.1 hr i a ha, he], rfl⟩)]
  exact this.symm
theorem lm_root {d n : Nat} (h1 : 1 ≤ d) (hn1 : 1 ≤ n) (hn : n ≤ 12) (hd : d ∣ n) : ∃ r, root n (lm n) (lm d) r := by
  have hle := Nat.le_of_dvd hn1 hd
  have hS := lm_MOD hn1 hn
  rcases Nat.eq_or_lt_of_le hle with w | w
  · subst w
    exact ⟨_, xof_root hS.1⟩
  rcases Nat.eq_or_lt_of_le h1 with z | z
  · subst z
    exact ⟨0, Nat.two_pow_pos n, pvl_x hS.1 (Nat.two_pow_pos n)⟩
  have h := List.all_eq_true.mp (List.all_eq_true.mp prs_all n (List.mem_range.mpr (by omega))) d (List.mem_range.mpr (by omega))
  have e1 : Nat.blt d 2 = false := by rw [← Bool.not_eq_true, blt_iff]; omega
  have e2 : Nat.ble n d = false := by rw [← Bool.not_eq_true, Nat.ble_eq]; omega
  have e3 : (n % d == 0) = true := by simp [Nat.mod_eq_zero_of_dvd hd]
  simp only [e1, e2, e3, Bool.not_true, Bool.false_or, List.any_eq_true] at h
  obtain ⟨t, ht, he⟩ := h
  rw [Bool.and_eq_true, beq_iff_eq, beq_iff_eq] at he
  have hq := List.all_eq_true.mp ckPr_all t ht
  rw [Bool.and_eq_true, blt_iff, beq_iff_eq, he.1, he.2] at hq
  refine ⟨t.2.2, hq.1, ?_⟩
  have hl := MOD_lt (by omega) (lm_MOD h1 (by omega : d ≤ 12)).1
  have := hq.2
  rwa [hrn_0 hS.1 hq.1 (k := 13) (by omega)] at this
/-- a smaller field lies in a greater one -/
theorem root_ex {d p n m : Nat} (hn : n ≤ 12) (hd : d ∣ n) (hP : MOD d p) (hM : MOD n m) : ∃ r, root n m p r := by
  have hn1 := hM.1.1
  have hd1 := hP.1.1
  have hle := Nat.le_of_dvd hn1 hd
  have hSd := lm_MOD hd1 (by omega : d ≤ 12)
  have hSn := lm_MOD hn1 hn
  obtain ⟨s, hs⟩ := rt_ex (by omega : d ≤ 12) hP
  obtain ⟨t, ht⟩ := lm_root hd1 hn1 hn hd
  obtain ⟨u, hu⟩ := rt_ex hn hM
  obtain ⟨v, hv⟩ := iso_back hM hSn hu
  exact ⟨_, hom_root hSn.1 hM.1 hv (hom_root hSd.1 hSn.1 ht hs)⟩
theorem lm_irr_iff {p : Nat} (h2 : 2 ≤ p) (hp : p < 8192) : irr p ↔ irrT.testBit p = true := ⟨irr_T h2 hp, T_irr h2 hp⟩
theorem pdvd_tr {a b c : Nat} (h1 : pdvd a b) (h2 : pdvd b c) : pdvd a c := by
  obtain ⟨q, hq⟩ := h1
  obtain ⟨r, hr⟩ := h2
  exact ⟨cl r q, by rw [hr, hq, cl_assoc]⟩
theorem pdvd_lt {f p k : Nat} (h0 : p ≠ 0) (hp : p < 2 ^ k) (h : pdvd f p) : f < 2 ^ k := by
  obtain ⟨q, hq⟩ := h
  have hq0 : q ≠ 0 := fun z => by rw [z, cl_0l] at hq; exact h0 hq
  have hf0 : f ≠ 0 := fun z => by rw [z, cl_0r] at hq; exact h0 hq
  obtain ⟨i, a1, a2⟩ := dg_ex hq0
  obtain ⟨j, b1, b2⟩ := dg_ex hf0
  have hd := (cl_deg a1 a2 b1 b2).1
  rw [← hq] at hd
  have hlt : i + j < k := (Nat.pow_lt_pow_iff_right (a := 2) (by decide)).mp (Nat.lt_of_le_of_lt hd hp)
  exact Nat.lt_of_lt_of_le b2 (pow_le (by omega))
/-- how many are normal -/
theorem nrm_un {n m a c : Nat} (hn : n ≤ 12) (hG : GF n m) (ha : a < 2 ^ n) (hN : nrm n m a) (hc : c < 2 ^ n) (hck : ab (ckU n) (n + 1) 0 = true) : nrm n m (cmb (cjn n m a) n c) ↔ unB n c = true := by
  have h1 := hG.1.1.1
  have hp := rn_md h1
  have h12 := pow12 hn
  have hp0 : rnM n ≠ 0 := by unfold rnM; omega
  have hp8 : rnM n < 8192 := by unfold rnM; omega
  rw [psi_nrm hG ha hN hc]
  unfold unB
  rw [List.all_eq_true]
  constructor
  · intro h t ht
    have hv := List.all_eq_true.mp ckV_all (n - 1) (List.mem_range.mpr (by omega))
    rw [show n - 1 + 1 = n by omega] at hv
    have hv := List.all_eq_true.mp hv t ht
    rw [Bool.and_eq_true, Bool.and_eq_true, Bool.and_eq_true, Bool.and_eq_true, blt_iff, blt_iff, blt_iff, beq_iff_eq, Bool.not_eq_true', beq_eq_false_iff_ne] at hv
    obtain ⟨⟨⟨⟨v1, v2⟩, v3⟩, v4⟩, v5⟩ := hv
    cases hr : (rem13 c t.1 == 0) with
    | false => rfl
    | true =>
      exfalso
      obtain ⟨q, hq⟩ := (rem13_dvd (by omega) (by omega) v5).mp (eq_of_beq hr)
      refine v2 (h t.2 v3 ?_)
      refine fm_eq hp hc v3 (Nat.two_pow_pos n) ⟨q, ?_⟩
      rw [Nat.zero_xor, hq, cl_assoc, v1]
  · intro h e he h0
    obtain ⟨g, u, v, b1, b2, b3⟩ := bez c c (rnM n) (Nat.le_refl c)
    have hg0 : g ≠ 0 := by
      intro z
      obtain ⟨q, hq⟩ := b3
      rw [z, cl_0r] at hq
      exact hp0 hq
    rcases Nat.lt_or_ge g 2 with w | w
    · have hg1 : g = 1 := by omega
      have hfe := (fm_ok hp hc he).2
      rw [h0] at hfe
      obtain ⟨s, hs⟩ := hfe
      rw [Nat.zero_xor] at hs
      refine cg_small hp.2.1 he (Nat.two_pow_pos n) ⟨cl u s ^^^ cl v e, ?_⟩
      have e1 : cl g e = e := by rw [hg1, cl_1l]
      rw [b1, cl_al, cl_assoc, hs, cl_assoc, cl_comm (rnM n) e, ← cl_assoc, ← cl_assoc, ← cl_al] at e1
      rw [Nat.xor_zero]
      exact e1.symm
    · exfalso
      obtain ⟨f, f1, f2, f3, f4⟩ := least_dv hg0 w (pdvd_rf g)
      have hfp := pdvd_tr f3 b3
      have hfc := pdvd_tr f3 b2
      have hf2 := pdvd_lt hp0 hp.2.2 hfp
      have h13 := pow13 hn
      have hq := ab_iff (n + 1) 0 hck f (by omega) (by omega)
      unfold ckU at hq
      have e1 : Nat.blt f 2 = false := by rw [← Bool.not_eq_true, blt_iff]; omega
      have e2 := irr_T f1 (by omega) f4
      have e3 : (rem13 (rnM n) f == 0) = true := by rw [beq_iff_eq]; exact (rem13_dvd hp8 (by omega) (by omega)).mpr hfp
      rw [e1, e2, e3, Bool.not_true, Bool.false_or, Bool.false_or, Bool.false_or, List.any_eq_true] at hq
      obtain ⟨t, ht, he2⟩ := hq
      have := h t ht
      rw [eq_of_beq he2, (rem13_dvd (p := c) (by omega) (by omega) (by omega)).mpr hfc] at this
      exact absurd this (by decide)
theorem nrm_cnt {n m : Nat} {p : Nat → Bool} {N : Nat} (hn : n ≤ 12) (hM : MOD n m) (hp : ∀ a, a < 2 ^ n → (p a = true ↔ nrm n m a)) (hck : ab (ckU n) (n + 1) 0 = true) (hN : cb (unB n) n 0 = N) : cnt p (2 ^ n) = N := by
  have hG := all_GF hn hM
  obtain ⟨a, ha, hA⟩ := all_nrm hn hM
  have hlt : ∀ c, cmb (cjn n m a) n c < 2 ^ n := fun c => cmb_lt n (fun i _ => cjn_lt hM.1 ha i)
  rw [← cnt_perm (p := p) (2 ^ n) (cmb (cjn n m a) n) (fun c _ => hlt c) (fun c d hc hd e => indep_uq hA hc hd e), ← hN, ← cb_0]
  refine cnt_cg _ (fun c hc => ?_)
  rw [Bool.eq_iff_iff, hp _ (hlt c)]
  exact nrm_un hn hG ha hA hc hck
