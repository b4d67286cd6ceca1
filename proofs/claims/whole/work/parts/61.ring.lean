/-! powers by halves; counts and checks by halves, for the kernel -/
def pwB (n m : Nat) : Nat → Nat → Nat → Nat → Nat
  | 0, _, _, o => o
  | f + 1, l, s, o => pwB n m f (l / 2) (fm n m s s) (if l % 2 = 1 then fm n m o s else o)
theorem pwB_eq {n m : Nat} (hm : MDg n m) : ∀ f l s o, s < 2 ^ n → o < 2 ^ n → l < 2 ^ f → pwB n m f l s o = fm n m o (fpw n m s l)
  | 0, l, s, o, _, ho, hl => by
    have : l = 0 := by
      have : l < 1 := hl
      omega
    subst this
    show o = fm n m o 1
    rw [fm_1r hm ho]
  | f + 1, l, s, o, hs, ho, hl => by
    show pwB n m f (l / 2) (fm n m s s) (if l % 2 = 1 then fm n m o s else o) = _
    have ho' : (if l % 2 = 1 then fm n m o s else o) < 2 ^ n := by
      split
      · exact fm_lt hm ho hs
      · exact ho
    rw [pwB_eq hm f _ _ _ (fm_lt hm hs hs) ho' (by rw [Nat.pow_succ] at hl; omega), pw_step hm ho hs]
def cb (p : Nat → Bool) : Nat → Nat → Nat
  | 0, lo => (p lo).toNat
  | k + 1, lo => cb p k lo + cb p k (lo + 2 ^ k)
theorem cb_eq (p : Nat → Bool) : ∀ k lo, cnt p (lo + 2 ^ k) = cnt p lo + cb p k lo
  | 0, _ => rfl
  | k + 1, lo => by
    show _ = cnt p lo + (cb p k lo + cb p k (lo + 2 ^ k))
    have e : lo + 2 ^ (k + 1) = lo + 2 ^ k + 2 ^ k := by rw [Nat.pow_succ]; omega
    rw [e, cb_eq p k (lo + 2 ^ k), cb_eq p k lo]
    omega
theorem cb_0 (p : Nat → Bool) (k : Nat) : cnt p (2 ^ k) = cb p k 0 := by
  have := cb_eq p k 0
  rw [Nat.zero_add] at this
  rw [this]
  show 0 + _ = _
  omega
def ab (p : Nat → Bool) : Nat → Nat → Bool
  | 0, lo => p lo
  | k + 1, lo => ab p k lo && ab p k (lo + 2 ^ k)
theorem ab_iff {p : Nat → Bool} : ∀ k lo, ab p k lo = true → ∀ i, lo ≤ i → i < lo + 2 ^ k → p i = true
  | 0, lo, h, i, h1, h2 => by
    have : i = lo := by
      have : i < lo + 1 := h2
      omega
    subst this
    exact h
  | k + 1, lo, h, i, h1, h2 => by
    have h : (ab p k lo && ab p k (lo + 2 ^ k)) = true := h
    rw [Bool.and_eq_true] at h
    rw [Nat.pow_succ] at h2
    rcases Nat.lt_or_ge i (lo + 2 ^ k) with w | w
    · exact ab_iff k lo h.1 i h1 w
    · exact ab_iff k (lo + 2 ^ k) h.2 i w (by omega)
/-- no sum of some of the rows is 0 -/
def okS (r : Nat → Nat) : Nat → Nat → Bool → Bool
  | 0, acc, ne => !ne || acc != 0
  | k + 1, acc, ne => okS r k acc ne && okS r k (acc ^^^ r k) true
theorem okS_ok {r : Nat → Nat} : ∀ k acc ne c, okS r k acc ne = true → c < 2 ^ k → (c ≠ 0 ∨ ne = true) → acc ^^^ cmb r k c ≠ 0
  | 0, acc, ne, c, h, hc, hn => by
    have : c = 0 := by
      have : c < 1 := hc
      omega
    rcases hn with q | q
    · exact absurd this q
    · subst q
      have h : (!true || acc != 0) = true := h
      show acc ^^^ 0 ≠ 0
      rw [Nat.xor_zero]
      simpa using h
  | k + 1, acc, ne, c, h, hc, hn => by
    have h : (okS r k acc ne && okS r k (acc ^^^ r k) true) = true := h
    rw [Bool.and_eq_true] at h
    rcases lt_succ_cases hc with ⟨w, hb⟩ | ⟨hb, w⟩
    · have := okS_ok k acc ne c h.1 w hn
      show acc ^^^ (cmb r k c ^^^ _) ≠ 0
      rw [hb, if_neg (by decide), Nat.xor_zero]
      exact this
    · have := okS_ok k (acc ^^^ r k) true (2 ^ k ^^^ c) h.2 w (Or.inr rfl)
      have e : cmb r k (2 ^ k ^^^ c) = cmb r k c := cmb_cg k (fun i hi => ⟨rfl, by
        rw [Nat.testBit_xor, Nat.testBit_two_pow]
        have : ¬ k = i := by omega
        simp [this]⟩)
      rw [e, Nat.xor_assoc, Nat.xor_comm (r k)] at this
      show acc ^^^ (cmb r k c ^^^ _) ≠ 0
      rw [hb, if_pos rfl]
      exact this
theorem okS_indep {r : Nat → Nat} {k : Nat} (h : okS r k 0 false = true) : indep r k := by
  intro c hc h0
  rcases Nat.eq_zero_or_pos c with z | z
  · exact z
  · have := okS_ok k 0 false c h hc (Or.inl (by omega))
    rw [Nat.zero_xor] at this
    exact absurd h0 this
/-! the ring of x^n + 1: sums of conjugates -/
def rnM (n : Nat) : Nat := 2 ^ n + 1
theorem rn_xor {n : Nat} (h : 1 ≤ n) : 2 ^ n ^^^ 1 = rnM n := by
  unfold rnM
  have h2 := two_pow_ge2 h
  have : (1 : Nat) < 2 ^ n := by omega
  have e := Nat.two_pow_add_eq_or_of_lt this 1
  rw [Nat.mul_one] at e
  rw [e]
  apply Nat.eq_of_testBit_eq
  intro i
  rw [Nat.testBit_xor, Nat.testBit_or, Nat.testBit_two_pow, tb_one]
  by_cases h1 : n = i <;> by_cases h2 : i = 0 <;> simp [h1, h2]
  all_goals omega
theorem rn_md {n : Nat} (h : 1 ≤ n) : MDg n (rnM n) := by
  have := two_pow_ge2 h
  unfold rnM
  exact ⟨h, by omega, by rw [Nat.pow_succ]; omega⟩
theorem rn_x {n k : Nat} (h : 1 ≤ n) (hk : k < n) : fm n (rnM n) (2 ^ k) (xof n (rnM n)) = if k + 1 = n then 1 else 2 ^ (k + 1) := by
  have hp := rn_md h
  have hx := xof_ok hp
  have c1 : cg (rnM n) (2 ^ (k + 1)) (cl (2 ^ k) (xof n (rnM n))) := by
    have := cg_mul (cg_rf (rnM n) (2 ^ k)) hx.2
    rw [cl_2l, Nat.shiftLeft_eq, Nat.mul_comm, ← Nat.pow_succ] at this
    exact this
  have hk2 : 2 ^ k < 2 ^ n := Nat.pow_lt_pow_right (by decide) hk
  by_cases e : k + 1 = n
  · rw [if_pos e]
    refine fm_eq hp hk2 hx.1 (one_lt hp) (cg_tr ?_ c1)
    refine ⟨1, ?_⟩
    rw [e, cl_1l, Nat.xor_comm, rn_xor h]
  · rw [if_neg e]
    exact fm_eq hp hk2 hx.1 (Nat.pow_lt_pow_right (by decide) (by omega)) c1
theorem cmb_2k (r : Nat → Nat) {k n : Nat} (h : k < n) : cmb r n (2 ^ k) = r k := by
  obtain ⟨j, rfl⟩ := Nat.le.dest (show k + 1 ≤ n from h)
  rw [cmb_st (Nat.pow_lt_pow_right (by decide) (by omega))]
  have := cmb_top r k 0
  rwa [Nat.xor_zero, cmb_0, Nat.xor_zero] at this
theorem psi_x {n m a c : Nat} (hG : GF n m) (ha : a < 2 ^ n) (hc : c < 2 ^ n) : cmb (cjn n m a) n (fm n (rnM n) c (xof n (rnM n))) = sqn n m 1 (cmb (cjn n m a) n c) := by
  have hm := hG.1.1
  have hp := rn_md hm.1
  have hx := (xof_ok hp).1
  have hcl : ∀ c, cmb (cjn n m a) n c < 2 ^ n := fun c => cmb_lt n (fun i _ => cjn_lt hm ha i)
  have e1 := lin_cmb (n := n) (f := fun c => cmb (cjn n m a) n (fm n (rnM n) c (xof n (rnM n)))) (by show cmb _ n (fm n (rnM n) 0 _) = 0; rw [fm_0l hp hx, cmb_0]) (fun a b ha hb => by
    show cmb _ n (fm n (rnM n) (a ^^^ b) _) = _
    rw [fm_addl hp ha hb hx, cmb_xor]) hc
  have e2 := lin_cmb (n := n) (f := fun c => sqn n m 1 (cmb (cjn n m a) n c)) (by show sqn n m 1 (cmb _ n 0) = 0; rw [cmb_0, sqn_0 hm]) (fun x y _ _ => by
    show sqn n m 1 (cmb _ n (x ^^^ y)) = _
    rw [cmb_xor, sqn_xor hm 1 _ _ (hcl x) (hcl y)]) hc
  refine e1.trans (Eq.trans ?_ e2.symm)
  refine cmb_cg n (fun k hk => ⟨?_, rfl⟩)
  show cmb _ n (fm n (rnM n) (2 ^ k) _) = sqn n m 1 (cmb _ n (2 ^ k))
  rw [rn_x hm.1 hk, cmb_2k _ hk]
  have e3 : sqn n m 1 (cjn n m a k) = cjn n m a (k + 1) := by
    unfold cjn
    rw [← sqn_add]
  rw [e3]
  by_cases e : k + 1 = n
  · rw [if_pos e, e]
    have := cmb_2k (cjn n m a) (k := 0) (n := n) (by have := hm.1; omega)
    rw [Nat.pow_zero] at this
    rw [this]
    exact (hG.2 a ha).symm
  · rw [if_neg e, cmb_2k _ (by omega)]
theorem psi_pw {n m a c : Nat} (hG : GF n m) (ha : a < 2 ^ n) (hc : c < 2 ^ n) : ∀ i, cmb (cjn n m a) n (fm n (rnM n) c (fpw n (rnM n) (xof n (rnM n)) i)) = sqn n m i (cmb (cjn n m a) n c)
  | 0 => by
    show cmb _ n (fm n _ c 1) = _
    rw [fm_1r (rn_md hG.1.1.1) hc]
    rfl
  | i + 1 => by
    have hp := rn_md hG.1.1.1
    have hx := (xof_ok hp).1
    have h1 := fpw_lt hp hx i
    show cmb _ n (fm n _ c (fm n _ (fpw n _ _ i) _)) = _
    rw [← fm_assoc hp hc h1 hx, psi_x hG ha (fm_lt hp hc h1), psi_pw hG ha hc i, ← sqn_add]
theorem psi_cmb {n m a c e : Nat} (hG : GF n m) (ha : a < 2 ^ n) (hc : c < 2 ^ n) (he : e < 2 ^ n) : cmb (cjn n m (cmb (cjn n m a) n c)) n e = cmb (cjn n m a) n (fm n (rnM n) c e) := by
  have hp := rn_md hG.1.1.1
  have hx := (xof_ok hp).1
  have e1 : fm n (rnM n) c e = cmb (fun i => fm n (rnM n) c (fpw n (rnM n) (xof n (rnM n)) i)) n e := by
    rw [← cmb_lin (f := fun y => fm n (rnM n) c y) (n := n) (fm_0r hp hc) (fun a b h1 h2 => fm_addr hp h1 h2 hc) e n (fun i _ => fpw_lt hp hx i)]
    show fm n (rnM n) c e = fm n (rnM n) c (cmb (fpw n (rnM n) (xof n (rnM n))) n e)
    rw [pvl_eq he, xof_id hp he]
  rw [e1, cmb_lin (f := fun y => cmb (cjn n m a) n y) (n := n) (cmb_0 _ n) (fun a b _ _ => cmb_xor _ a b n) e n (fun i _ => fm_lt hp hc (fpw_lt hp hx i))]
  exact cmb_cg n (fun i _ => ⟨(psi_pw hG ha hc i).symm, rfl⟩)
theorem psi_nrm {n m a c : Nat} (hG : GF n m) (ha : a < 2 ^ n) (hn : nrm n m a) (hc : c < 2 ^ n) : nrm n m (cmb (cjn n m a) n c) ↔ ∀ e, e < 2 ^ n → fm n (rnM n) c e = 0 → e = 0 := by
  have hp := rn_md hG.1.1.1
  constructor
  · intro h e he h0
    refine h e he ?_
    rw [psi_cmb hG ha hc he, h0, cmb_0]
  · intro h e he h0
    refine h e he ?_
    rw [psi_cmb hG ha hc he] at h0
    exact hn _ (fm_lt hp hc he) h0
/-- units of the ring, by a power that is 1; others by what makes them 0 -/
theorem ring_unit {n c E : Nat} (h : 1 ≤ n) (hc : c < 2 ^ n) (hE : 1 ≤ E) (h1 : fpw n (rnM n) c E = 1) : ∀ e, e < 2 ^ n → fm n (rnM n) c e = 0 → e = 0 := by
  intro e he h0
  have hp := rn_md h
  obtain ⟨k, rfl⟩ : ∃ k, E = k + 1 := ⟨E - 1, by omega⟩
  have h2 : fm n (rnM n) (fm n (rnM n) (fpw n (rnM n) c k) c) e = e := by
    have : fm n (rnM n) (fpw n (rnM n) c k) c = 1 := h1
    rw [this, fm_1l hp he]
  rw [fm_assoc hp (fpw_lt hp hc k) hc he, h0, fm_0r hp (fpw_lt hp hc k)] at h2
  exact h2.symm
