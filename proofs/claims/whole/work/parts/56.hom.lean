/-! HOMOMORPHISMS: what x becomes gives what all become -/
theorem pvl_eq {n m r p k : Nat} (h : p < 2 ^ k) : cmb (fpw n m r) k p = pvl n m r p := cmb_eq h
theorem lt_big (p q : Nat) : p < 2 ^ (p + q) := Nat.lt_of_lt_of_le (lt_self p) (pow_le (Nat.le_add_right _ _))
theorem lt_bigr (p q : Nat) : q < 2 ^ (p + q) := Nat.lt_of_lt_of_le (lt_self q) (pow_le (Nat.le_add_left _ _))
theorem pvl_xor (n m r p q : Nat) : pvl n m r (p ^^^ q) = pvl n m r p ^^^ pvl n m r q := by
  rw [← pvl_eq (lt_big p q), ← pvl_eq (lt_bigr p q), ← pvl_eq (xor_lt (lt_big p q) (lt_bigr p q)), cmb_xor]
theorem pvl_0 (n m r : Nat) : pvl n m r 0 = 0 := rfl
theorem pvl_2k {n m r : Nat} (k : Nat) : pvl n m r (2 ^ k) = fpw n m r k := by
  have h : 2 ^ k < 2 ^ (k + 1) := Nat.pow_lt_pow_right (by decide) (by omega)
  rw [← pvl_eq h]
  have := cmb_top (fpw n m r) k 0
  rw [Nat.xor_zero, cmb_0, Nat.xor_zero] at this
  exact this
theorem pvl_1 (n m r : Nat) : pvl n m r 1 = 1 := pvl_2k 0
theorem pvl_x {n m r : Nat} (hm : MDg n m) (hr : r < 2 ^ n) : pvl n m r 2 = r := (pvl_2k 1).trans (fpw_1 hm hr)
theorem pvl_shl {n m r : Nat} (hm : MDg n m) (hr : r < 2 ^ n) (p k : Nat) : pvl n m r (p <<< k) = fm n m (pvl n m r p) (fpw n m r k) := by
  have key : ∀ j, pvl n m r ((p % 2 ^ j) <<< k) = fm n m (pvl n m r (p % 2 ^ j)) (fpw n m r k) := by
    intro j
    induction j with
    | zero => rw [Nat.pow_zero, Nat.mod_one, Nat.zero_shiftLeft, pvl_0, fm_0l hm (fpw_lt hm hr k)]
    | succ j ih =>
      rw [mod_succ, shl_xor, pvl_xor, pvl_xor, ih, fm_addl hm (pvl_lt hm hr) (pvl_lt hm hr) (fpw_lt hm hr k)]
      congr 1
      split
      · rw [Nat.shiftLeft_eq, ← Nat.pow_add, pvl_2k, pvl_2k, fpw_add hm hr]
      · rw [Nat.zero_shiftLeft, pvl_0, fm_0l hm (fpw_lt hm hr k)]
  have := key p
  rwa [Nat.mod_eq_of_lt (lt_self p)] at this
theorem pvl_cl {n m r : Nat} (hm : MDg n m) (hr : r < 2 ^ n) (p q : Nat) : pvl n m r (cl p q) = fm n m (pvl n m r p) (pvl n m r q) := by
  have key : ∀ j, pvl n m r (clN p q j) = fm n m (pvl n m r p) (pvl n m r (q % 2 ^ j)) := by
    intro j
    induction j with
    | zero => rw [Nat.pow_zero, Nat.mod_one]; show pvl n m r 0 = _; rw [pvl_0, fm_0r hm (pvl_lt hm hr)]
    | succ j ih =>
      show pvl n m r (clN p q j ^^^ _) = _
      rw [pvl_xor, ih, mod_succ, pvl_xor, fm_addr hm (pvl_lt hm hr) (pvl_lt hm hr) (pvl_lt hm hr)]
      congr 1
      split
      · rw [pvl_shl hm hr, pvl_2k]
      · rw [pvl_0, fm_0r hm (pvl_lt hm hr)]
  have := key q
  rwa [Nat.mod_eq_of_lt (lt_self q)] at this
/-- r makes the polynomial 0 -/
def root (n m p r : Nat) : Prop := r < 2 ^ n ∧ pvl n m r p = 0
theorem pvl_cg {n m p r a b : Nat} (hm : MDg n m) (h : root n m p r) (hc : cg p a b) : pvl n m r a = pvl n m r b := by
  obtain ⟨q, hq⟩ := hc
  have h1 : pvl n m r (a ^^^ b) = 0 := by rw [hq, pvl_cl hm h.1, h.2, fm_0r hm (pvl_lt hm h.1)]
  rw [pvl_xor] at h1
  exact xor_eq0 h1
theorem hom_fm {d p n m r a b : Nat} (hp : MDg d p) (hm : MDg n m) (h : root n m p r) (ha : a < 2 ^ d) (hb : b < 2 ^ d) : pvl n m r (fm d p a b) = fm n m (pvl n m r a) (pvl n m r b) := by
  rw [pvl_cg hm h (fm_ok hp ha hb).2, pvl_cl hm h.1]
theorem hom_pw {d p n m r a : Nat} (hp : MDg d p) (hm : MDg n m) (h : root n m p r) (ha : a < 2 ^ d) : ∀ k, pvl n m r (fpw d p a k) = fpw n m (pvl n m r a) k
  | 0 => pvl_1 n m r
  | k + 1 => by
    show pvl n m r (fm d p (fpw d p a k) a) = fm n m _ _
    rw [hom_fm hp hm h (fpw_lt hp ha k) ha, hom_pw hp hm h ha k]
theorem hom_sq {d p n m r : Nat} (hp : MDg d p) (hm : MDg n m) (h : root n m p r) : ∀ k a, a < 2 ^ d → pvl n m r (sqn d p k a) = sqn n m k (pvl n m r a)
  | 0, _, _ => rfl
  | k + 1, a, ha => by
    show pvl n m r (sqn d p k (fm d p a a)) = sqn n m k (fm n m _ _)
    rw [hom_sq hp hm h k _ (fm_lt hp ha ha), hom_fm hp hm h ha ha]
theorem hom_inj {d p n m r a b : Nat} (hP : MOD d p) (hm : MDg n m) (h : root n m p r) (ha : a < 2 ^ d) (hb : b < 2 ^ d) (he : pvl n m r a = pvl n m r b) : a = b := by
  rcases Nat.eq_zero_or_pos (a ^^^ b) with z | z
  · exact xor_eq0 z
  · exfalso
    obtain ⟨c, hc, h1⟩ := inv_ex hP (xor_lt ha hb) (by omega)
    have h2 := hom_fm hP.1 hm h (xor_lt ha hb) hc
    rw [h1, pvl_1, pvl_xor, he, Nat.xor_self, fm_0l hm (pvl_lt hm h.1)] at h2
    cases h2
/-- a root's image is a root -/
theorem hom_root {d p n m r q s : Nat} (hp : MDg d p) (hm : MDg n m) (h : root n m p r) (hs : root d p q s) : root n m q (pvl n m r s) := by
  refine ⟨pvl_lt hm h.1, ?_⟩
  have key : ∀ k, pvl n m r (cmb (fpw d p s) k q) = cmb (fpw n m (pvl n m r s)) k q := by
    intro k
    induction k with
    | zero => rfl
    | succ k ih =>
      show pvl n m r (cmb (fpw d p s) k q ^^^ _) = cmb _ k q ^^^ _
      rw [pvl_xor, ih]
      congr 1
      split
      · exact hom_pw hp hm h hs.1 k
      · rfl
  have := key q
  rw [show cmb (fpw d p s) q q = 0 from hs.2] at this
  exact this.symm
/-- the images by way of another field -/
theorem hom_comp {d p n m r s : Nat} (hp : MDg d p) (hm : MDg n m) (h : root n m p r) (hs : s < 2 ^ d) (v : Nat) : pvl n m r (pvl d p s v) = pvl n m (pvl n m r s) v := by
  have key : ∀ k, pvl n m r (cmb (fpw d p s) k v) = cmb (fpw n m (pvl n m r s)) k v := by
    intro k
    induction k with
    | zero => rfl
    | succ k ih =>
      show pvl n m r (cmb (fpw d p s) k v ^^^ _) = cmb _ k v ^^^ _
      rw [pvl_xor, ih]
      congr 1
      split
      · exact hom_pw hp hm h hs k
      · rfl
  exact key v
/-- x of a field (its remainder): its own root -/
def xof (n m : Nat) : Nat := prd m n 2 2
theorem xof_ok {n m : Nat} (hm : MDg n m) : xof n m < 2 ^ n ∧ cg m 2 (xof n m) := by
  have h2 : 2 < 2 ^ (n + 2) := Nat.lt_of_lt_of_le (by decide : 2 < 2 ^ 2) (pow_le (by omega))
  exact ⟨(prd_ok hm.2.1 hm.2.2 2 2 h2).1, cg_prd hm.2.1 hm.2.2 h2⟩
theorem xof_pw {n m : Nat} (hm : MDg n m) (k : Nat) : cg m (2 ^ k) (fpw n m (xof n m) k) := by
  obtain ⟨h1, h2⟩ := xof_ok hm
  induction k with
  | zero => exact cg_rf m 1
  | succ k ih =>
    have h3 := (fm_ok hm (fpw_lt hm h1 k) h1).2
    refine cg_tr ?_ (cg_sy h3)
    have := cg_mul ih h2
    rw [cl_2l, Nat.shiftLeft_eq, Nat.mul_comm, ← Nat.pow_succ] at this
    exact this
theorem xof_pvl {n m : Nat} (hm : MDg n m) (v : Nat) : cg m v (pvl n m (xof n m) v) := by
  have key : ∀ k, cg m (v % 2 ^ k) (cmb (fpw n m (xof n m)) k v) := by
    intro k
    induction k with
    | zero => rw [Nat.pow_zero, Nat.mod_one]; exact cg_rf m 0
    | succ k ih =>
      rw [mod_succ]
      refine cg_add ih ?_
      split
      · exact xof_pw hm k
      · exact cg_rf m 0
  have := key v
  rwa [Nat.mod_eq_of_lt (lt_self v)] at this
/-- a field in itself -/
theorem xof_id {n m v : Nat} (hm : MDg n m) (hv : v < 2 ^ n) : pvl n m (xof n m) v = v :=
  (cg_small hm.2.1 hv (pvl_lt hm (xof_ok hm).1) (xof_pvl hm v)).symm
theorem xof_root {n m : Nat} (hm : MDg n m) : root n m m (xof n m) := by
  refine ⟨(xof_ok hm).1, ?_⟩
  refine (cg_small hm.2.1 (Nat.two_pow_pos n) (pvl_lt hm (xof_ok hm).1) ?_).symm
  refine cg_tr ?_ (xof_pvl hm m)
  exact ⟨1, by rw [Nat.zero_xor, cl_1l]⟩
/-! the same field by another modulus -/
theorem iso_sur {n p m r : Nat} (hP : MOD n p) (hm : MDg n m) (h : root n m p r) {y : Nat} (hy : y < 2 ^ n) : ∃ a, a < 2 ^ n ∧ pvl n m r a = y :=
  php (2 ^ n) (pvl n m r) (fun i _ => pvl_lt hm h.1) (fun _ _ hi hj e => hom_inj hP hm h hi hj e) y hy
theorem iso_GF {n p m r : Nat} (hP : MOD n p) (hG : GF n m) (h : root n m p r) : GF n p :=
  ⟨hP, fun a ha => hom_inj hP hG.1.1 h (sqn_lt hP.1 n a ha) ha (by rw [hom_sq hP.1 hG.1.1 h n a ha, hG.2 _ (pvl_lt hG.1.1 h.1)])⟩
theorem iso_ord {d p n m r a k : Nat} (hP : MOD d p) (hm : MDg n m) (h : root n m p r) (ha : a < 2 ^ d) : isOrd d p a k ↔ isOrd n m (pvl n m r a) k := by
  have e : ∀ j, fpw d p a j = 1 ↔ fpw n m (pvl n m r a) j = 1 := by
    intro j
    rw [← hom_pw hP.1 hm h ha j]
    constructor
    · intro q; rw [q, pvl_1]
    · intro q
      refine hom_inj hP hm h (fpw_lt hP.1 ha j) (one_lt hP.1) ?_
      rw [q, pvl_1]
  unfold isOrd
  rw [e k]
  exact ⟨fun q => ⟨q.1, q.2.1, fun j h1 h2 h3 => q.2.2 j h1 h2 ((e j).mpr h3)⟩, fun q => ⟨q.1, q.2.1, fun j h1 h2 h3 => q.2.2 j h1 h2 ((e j).mp h3)⟩⟩
theorem iso_prim {n p m r g : Nat} (hP : MOD n p) (hM : MOD n m) (h : root n m p r) (hg : prim n m g) : ∃ g', prim n p g' := by
  obtain ⟨a, ha, he⟩ := iso_sur hP hM.1 h hg.1
  refine ⟨a, ha, ?_, (iso_ord hP hM.1 h ha).mpr (by rw [he]; exact hg.2.2)⟩
  intro z
  rw [z, pvl_0] at he
  exact hg.2.1 he.symm
/-- back again -/
theorem iso_back {n p m r : Nat} (hP : MOD n p) (hM : MOD n m) (h : root n m p r) : ∃ s, root n p m s := by
  obtain ⟨s, hs, he⟩ := iso_sur hP hM.1 h (xof_root hM.1).1
  refine ⟨s, hs, ?_⟩
  refine hom_inj hP hM.1 h (pvl_lt hP.1 hs) (Nat.two_pow_pos n) ?_
  rw [hom_comp hP.1 hM.1 h hs, he, (xof_root hM.1).2, pvl_0]
