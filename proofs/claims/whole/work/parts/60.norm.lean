/-! NORMAL elements, TRACES, DUALS, squares solved -/
def cjn (n m a : Nat) : Nat → Nat := fun i => sqn n m i a
theorem cjn_lt {n m a : Nat} (hm : MDg n m) (ha : a < 2 ^ n) (i : Nat) : cjn n m a i < 2 ^ n := sqn_lt hm i a ha
def nrm (n m a : Nat) : Prop := indep (cjn n m a) n
/-- the trace down to 1 -/
def tr1 (n m a : Nat) : Nat := trS n m 1 n a
theorem tr1_01 {n m a : Nat} (hG : GF n m) (ha : a < 2 ^ n) : tr1 n m a = 0 ∨ tr1 n m a = 1 :=
  fix_01 hG.1 (trS_lt hG.1.1 n a ha) (trS_fix (d := 1) hG (by omega) ha)
theorem tr1_xor {n m a b : Nat} (hm : MDg n m) (ha : a < 2 ^ n) (hb : b < 2 ^ n) : tr1 n m (a ^^^ b) = tr1 n m a ^^^ tr1 n m b := trS_xor hm n a b ha hb
theorem trS_0 {n m d : Nat} (hm : MDg n m) : ∀ k, trS n m d k 0 = 0
  | 0 => rfl
  | k + 1 => by show 0 ^^^ trS n m d k (sqn n m d 0) = 0; rw [sqn_0 hm, trS_0 hm k]; rfl
theorem tr1_0 {n m : Nat} (hm : MDg n m) : tr1 n m 0 = 0 := trS_0 hm n
theorem trS_cmb {n m a : Nat} : ∀ k, trS n m 1 k a = cmb (cjn n m a) k (2 ^ k - 1)
  | 0 => rfl
  | k + 1 => by
    show _ = cmb (cjn n m a) k (2 ^ (k + 1) - 1) ^^^ (if (2 ^ (k + 1) - 1).testBit k then _ else _)
    rw [trS_end, trS_cmb k, Nat.one_mul, Nat.testBit_two_pow_sub_one, decide_eq_true (by omega), if_pos rfl]
    congr 1
    exact cmb_cg k (fun i hi => ⟨rfl, by rw [Nat.testBit_two_pow_sub_one, Nat.testBit_two_pow_sub_one, decide_eq_true hi, decide_eq_true (by omega)]⟩)
/-- the sum of all conjugates of a normal element is not 0 -/
theorem nrm_tr {n m a : Nat} (hm : MDg n m) (h : nrm n m a) : tr1 n m a ≠ 0 := by
  intro h0
  have h1 : tr1 n m a = _ := trS_cmb n
  rw [h0] at h1
  have := h (2 ^ n - 1) (by have := Nat.two_pow_pos n; omega) h1.symm
  have := two_pow_ge2 hm.1
  omega
theorem nrm_ne0 {n m a : Nat} (hm : MDg n m) (h : nrm n m a) : a ≠ 0 := by
  intro z
  subst z
  exact nrm_tr hm h (tr1_0 hm)
/-- the traces with the conjugates of b, as bits -/
def trv (n m b c : Nat) : Nat → Nat
  | 0 => 0
  | k + 1 => trv n m b c k ||| (tr1 n m (fm n m c (sqn n m k b)) <<< k)
theorem trv_ok {n m b c : Nat} (hG : GF n m) (hb : b < 2 ^ n) (hc : c < 2 ^ n) : ∀ k, trv n m b c k < 2 ^ k ∧ ∀ i, (trv n m b c k).testBit i = (decide (i < k) && decide (tr1 n m (fm n m c (sqn n m i b)) = 1))
  | 0 => ⟨by show 0 < 1; decide, fun i => by show (0 : Nat).testBit i = _; rw [Nat.zero_testBit]; simp⟩
  | k + 1 => by
    have hm := hG.1.1
    obtain ⟨h1, h2⟩ := trv_ok hG hb hc k
    have h3 := tr1_01 hG (fm_lt hm hc (sqn_lt hm k b hb))
    have hb2 : ∀ i, (tr1 n m (fm n m c (sqn n m k b)) <<< k).testBit i = (decide (i = k) && decide (tr1 n m (fm n m c (sqn n m k b)) = 1)) := by
      intro i
      rcases h3 with w | w
      · rw [w]; simp
      · rw [w, Nat.shiftLeft_eq, Nat.one_mul, Nat.testBit_two_pow]
        simp [eq_comm]
    have e : ∀ i, (trv n m b c (k + 1)).testBit i = (decide (i < k + 1) && decide (tr1 n m (fm n m c (sqn n m i b)) = 1)) := by
      intro i
      show (trv n m b c k ||| _).testBit i = _
      rw [Nat.testBit_or, h2, hb2]
      by_cases hk : i = k
      · subst hk
        simp
      · by_cases hlt : i < k
        · simp [hlt, hk, Nat.lt_succ_of_lt hlt]
        · have : ¬ i < k + 1 := by omega
          simp [hlt, hk, this]
    refine ⟨?_, e⟩
    apply Nat.lt_pow_two_of_testBit
    intro i hi
    rw [e i]
    have : ¬ i < k + 1 := by omega
    simp [this]
theorem trv_lt {n m b c : Nat} (hG : GF n m) (hb : b < 2 ^ n) (hc : c < 2 ^ n) (k : Nat) : trv n m b c k < 2 ^ k := (trv_ok hG hb hc k).1
theorem trv_xor {n m b c d : Nat} (hG : GF n m) (hb : b < 2 ^ n) (hc : c < 2 ^ n) (hd : d < 2 ^ n) (k : Nat) : trv n m b (c ^^^ d) k = trv n m b c k ^^^ trv n m b d k := by
  have hm := hG.1.1
  apply Nat.eq_of_testBit_eq
  intro i
  have hs := sqn_lt hm i b hb
  rw [Nat.testBit_xor, (trv_ok hG hb (xor_lt hc hd) k).2, (trv_ok hG hb hc k).2, (trv_ok hG hb hd k).2, fm_addl hm hc hd hs, tr1_xor hm (fm_lt hm hc hs) (fm_lt hm hd hs)]
  rcases tr1_01 hG (fm_lt hm hc hs) with w | w <;> rcases tr1_01 hG (fm_lt hm hd hs) with z | z <;> rw [w, z] <;> simp
theorem trv_0 {n m b : Nat} (hG : GF n m) (hb : b < 2 ^ n) (k : Nat) : trv n m b 0 k = 0 := by
  have := trv_xor hG hb (Nat.two_pow_pos n) (Nat.two_pow_pos n) k
  rw [Nat.xor_self, Nat.xor_self] at this
  exact this
theorem trv_inj {n m b c d : Nat} (hG : GF n m) (hb : b < 2 ^ n) (hn : nrm n m b) (hc : c < 2 ^ n) (hd : d < 2 ^ n) (h : trv n m b c n = trv n m b d n) : c = d := by
  have hm := hG.1.1
  have h1 : trv n m b (c ^^^ d) n = 0 := by rw [trv_xor hG hb hc hd, h, Nat.xor_self]
  have hcd := xor_lt hc hd
  rcases Nat.eq_zero_or_pos (c ^^^ d) with z | z
  · exact xor_eq0 z
  exfalso
  generalize c ^^^ d = e at h1 hcd z
  have h2 : ∀ i, i < n → tr1 n m (fm n m e (sqn n m i b)) = 0 := by
    intro i hi
    have := (trv_ok hG hb hcd n).2 i
    rw [h1, Nat.zero_testBit, decide_eq_true hi, Bool.true_and] at this
    rcases tr1_01 hG (fm_lt hm hcd (sqn_lt hm i b hb)) with w | w
    · exact w
    · rw [w] at this
      cases this
  have h3 : ∀ y, y < 2 ^ n → tr1 n m (fm n m e y) = 0 := by
    intro y hy
    obtain ⟨v, hv, rfl⟩ := indep_sur hn (fun i _ => cjn_lt hm hb i) hy
    rw [cmb_lin (f := fun y => tr1 n m (fm n m e y)) (n := n) (by show tr1 n m (fm n m e 0) = 0; rw [fm_0r hm hcd, tr1_0 hm]) (fun a b ha hb => by
      show tr1 n m (fm n m e (a ^^^ b)) = _
      rw [fm_addr hm ha hb hcd, tr1_xor hm (fm_lt hm hcd ha) (fm_lt hm hcd hb)]) v n (fun i _ => cjn_lt hm hb i)]
    have : cmb (fun i => tr1 n m (fm n m e (cjn n m b i))) n v = cmb (fun _ => 0) n v := cmb_cg n (fun i hi => ⟨h2 i hi, rfl⟩)
    rw [this]
    have z : ∀ k, cmb (fun _ => 0) k v = 0 := by
      intro k
      induction k with
      | zero => rfl
      | succ k ih => show cmb (fun _ => 0) k v ^^^ _ = 0; rw [ih]; simp
    exact z n
  obtain ⟨f, hf, he⟩ := inv_ex hG.1 hcd (by omega)
  have h4 := h3 (fm n m f b) (fm_lt hm hf hb)
  rw [← fm_assoc hm hcd hf hb, he, fm_1l hm hb] at h4
  exact nrm_tr hm hn h4
theorem trv_ex {n m b : Nat} (hG : GF n m) (hb : b < 2 ^ n) (hn : nrm n m b) : ∃ c, c < 2 ^ n ∧ trv n m b c n = 1 :=
  php (2 ^ n) (fun c => trv n m b c n) (fun c hc => trv_lt hG hb hc n) (fun c d hc hd e => trv_inj hG hb hn hc hd e) 1 (one_lt hG.1.1)
theorem trv_cmb {n m b c : Nat} (hG : GF n m) (hb : b < 2 ^ n) (hc : c < 2 ^ n) : trv n m b c n = cmb (fun k => trv n m b (2 ^ k) n) n c :=
  lin_cmb (f := fun c => trv n m b c n) (trv_0 hG hb n) (fun _ _ h1 h2 => trv_xor hG hb h1 h2 n) hc
/-- the DUAL -/
def duF (n m b : Nat) : Nat := fnd (fun c => trv n m b c n == 1) (2 ^ n) 0
theorem duF_ok {n m b : Nat} (hG : GF n m) (hb : b < 2 ^ n) (hn : nrm n m b) : duF n m b < 2 ^ n ∧ trv n m b (duF n m b) n = 1 ∧ ∀ c, c < duF n m b → trv n m b c n ≠ 1 := by
  obtain ⟨c, hc, he⟩ := trv_ex hG hb hn
  obtain ⟨-, h2, h3, h4⟩ := fnd_ok (p := fun c => trv n m b c n == 1) (2 ^ n) 0 c (by omega) (by omega) (by simp [he])
  refine ⟨Nat.lt_of_le_of_lt h2 hc, eq_of_beq h3, fun d hd => ?_⟩
  have := h4 d (by omega) hd
  exact beq_eq_false_iff_ne.mp this
theorem tb_one (i : Nat) : (1 : Nat).testBit i = decide (i = 0) := by
  have := Nat.testBit_two_pow (n := 0) (m := i)
  rw [Nat.pow_zero] at this
  rw [this]
  simp [eq_comm]
theorem trv_1 {n m b c : Nat} (hG : GF n m) (hb : b < 2 ^ n) (hc : c < 2 ^ n) : trv n m b c n = 1 ↔ ∀ i, i < n → tr1 n m (fm n m c (sqn n m i b)) = if i = 0 then 1 else 0 := by
  have hm := hG.1.1
  have hn := hm.1
  constructor
  · intro h i hi
    have q := (trv_ok hG hb hc n).2 i
    rw [h, tb_one, decide_eq_true hi, Bool.true_and] at q
    rcases tr1_01 hG (fm_lt hm hc (sqn_lt hm i b hb)) with w | w
    · rw [w] at q ⊢
      by_cases z : i = 0
      · rw [decide_eq_true z] at q
        exact absurd q (by decide)
      · rw [if_neg z]
    · rw [w] at q ⊢
      by_cases z : i = 0
      · rw [if_pos z]
      · rw [decide_eq_false z] at q
        exact absurd q (by decide)
  · intro h
    apply Nat.eq_of_testBit_eq
    intro i
    rw [(trv_ok hG hb hc n).2 i, tb_one]
    by_cases hi : i < n
    · rw [decide_eq_true hi, Bool.true_and, h i hi]
      by_cases z : i = 0
      · rw [if_pos z, decide_eq_true z]
        rfl
      · rw [if_neg z, decide_eq_false z]
        rfl
    · have z : ¬ i = 0 := by omega
      rw [decide_eq_false hi, decide_eq_false z]
      rfl
/-! squares solved -/
def sqb (n m b y : Nat) : Nat := fm n m y (y ^^^ b)
theorem sqb_eq {n m b y : Nat} (hm : MDg n m) (hb : b < 2 ^ n) (hy : y < 2 ^ n) : sqb n m b y = fm n m y y ^^^ fm n m b y := by
  unfold sqb
  rw [fm_addr hm hy hb hy, fm_comm hm hy hb]
theorem sqb_lt {n m b y : Nat} (hm : MDg n m) (hb : b < 2 ^ n) (hy : y < 2 ^ n) : sqb n m b y < 2 ^ n := fm_lt hm hy (xor_lt hy hb)
theorem sqb_xor {n m b y z : Nat} (hm : MDg n m) (hb : b < 2 ^ n) (hy : y < 2 ^ n) (hz : z < 2 ^ n) : sqb n m b (y ^^^ z) = sqb n m b y ^^^ sqb n m b z := by
  rw [sqb_eq hm hb (xor_lt hy hz), sqb_eq hm hb hy, sqb_eq hm hb hz, sq_add hm hy hz, fm_addr hm hy hz hb, xor4]
theorem sqb_cmb {n m b y : Nat} (hm : MDg n m) (hb : b < 2 ^ n) (hy : y < 2 ^ n) : sqb n m b y = cmb (fun k => sqb n m b (2 ^ k)) n y :=
  lin_cmb (f := sqb n m b) (fm_0l hm (xor_lt (Nat.two_pow_pos n) hb)) (fun _ _ h1 h2 => sqb_xor hm hb h1 h2) hy
theorem sqb_sol {n m b y z : Nat} (hM : MOD n m) (hb : b < 2 ^ n) (hy : y < 2 ^ n) (hz : z < 2 ^ n) : sqb n m b y = sqb n m b z ↔ z = y ∨ z = y ^^^ b := by
  have hm := hM.1
  constructor
  · intro h
    have h1 : sqb n m b (y ^^^ z) = 0 := by rw [sqb_xor hm hb hy hz, h, Nat.xor_self]
    rcases fm_dom hM (xor_lt hy hz) (xor_lt (xor_lt hy hz) hb) h1 with w | w
    · exact Or.inl (xor_eq0 w).symm
    · right
      have := xor_eq0 w
      rw [← this, xor_cx]
  · rintro (rfl | rfl)
    · rfl
    · rw [sqb_xor hm hb hy hb]
      have : sqb n m b b = 0 := by
        show fm n m b (b ^^^ b) = 0
        rw [Nat.xor_self, fm_0r hm hb]
      rw [this, Nat.xor_zero]
/-! COUNTS -/
def cnt (p : Nat → Bool) : Nat → Nat
  | 0 => 0
  | k + 1 => cnt p k + (p k).toNat
theorem cnt_cg {p q : Nat → Bool} : ∀ k, (∀ i, i < k → p i = q i) → cnt p k = cnt q k
  | 0, _ => rfl
  | k + 1, h => by show cnt p k + _ = cnt q k + _; rw [cnt_cg k (fun i hi => h i (by omega)), h k (by omega)]
theorem cnt_upd {p q : Nat → Bool} {i : Nat} : ∀ k, i < k → (∀ j, j < k → j ≠ i → p j = q j) → cnt p k + (q i).toNat = cnt q k + (p i).toNat
  | 0, h, _ => by omega
  | k + 1, h, he => by
    show cnt p k + _ + _ = cnt q k + _ + _
    rcases Nat.eq_or_lt_of_le (Nat.le_of_lt_succ h) with rfl | w
    · rw [cnt_cg i (fun j hj => he j (by omega) (by omega))]
      omega
    · have := cnt_upd k w (fun j hj hn => he j (by omega) hn)
      rw [he k (by omega) (by omega)]
      omega
/-- a count does not ask in which order -/
theorem cnt_perm {p : Nat → Bool} : ∀ (N : Nat) (f : Nat → Nat), (∀ i, i < N → f i < N) → (∀ i j, i < N → j < N → f i = f j → i = j) → cnt (fun i => p (f i)) N = cnt p N := by
  intro N
  induction N with
  | zero => intro f _ _; rfl
  | succ N ih =>
    intro f h1 h2
    have fne : ∀ i, i < N → f i ≠ f N := fun i hi e => by
      have := h2 i N (by omega) (by omega) e
      omega
    have hv := h1 N (by omega)
    have ih' := ih (fun i => if f i = N then f N else f i) (fun i hi => by
      have a1 := h1 i (by omega)
      have a2 := fne i hi
      show (if f i = N then f N else f i) < N
      split
      · omega
      · omega) (fun i j hi hj e => by
      have e : (if f i = N then f N else f i) = (if f j = N then f N else f j) := e
      have a1 := fne i hi
      have a2 := fne j hj
      by_cases e1 : f i = N <;> by_cases e2 : f j = N
      · exact h2 i j (by omega) (by omega) (by omega)
      · rw [if_pos e1, if_neg e2] at e
        exact absurd e.symm a2
      · rw [if_neg e1, if_pos e2] at e
        exact absurd e a1
      · rw [if_neg e1, if_neg e2] at e
        exact h2 i j (by omega) (by omega) e)
    show cnt (fun i => p (f i)) N + (p (f N)).toNat = cnt p N + (p N).toNat
    by_cases hN : f N = N
    · have : cnt (fun i => p (f i)) N = cnt (fun i => p (if f i = N then f N else f i)) N := cnt_cg N (fun i hi => by
        have := fne i hi
        rw [if_neg (by omega)])
      rw [this, ih', hN]
    · obtain ⟨i, hi, he⟩ := php (N + 1) f h1 h2 N (by omega)
      have hi' : i < N := by
        rcases Nat.eq_or_lt_of_le (Nat.le_of_lt_succ hi) with w | w
        · rw [w] at he; exact absurd he hN
        · exact w
      have := cnt_upd (p := fun i => p (f i)) (q := fun i => p (if f i = N then f N else f i)) (i := i) N hi' (fun j hj hne => by
        have : f j ≠ N := fun e => hne (h2 j i (by omega) (by omega) (by omega))
        show p (f j) = p (if f j = N then f N else f j)
        rw [if_neg this])
      have this : cnt (fun i => p (f i)) N + (p (if f i = N then f N else f i)).toNat = cnt (fun i => p (if f i = N then f N else f i)) N + (p (f i)).toNat := this
      rw [ih', if_pos he, he] at this
      exact this
theorem cnt_sh {p : Nat → Bool} : ∀ k, cnt p (k + 1) = (p 0).toNat + cnt (fun i => p (i + 1)) k
  | 0 => Nat.add_comm 0 (p 0).toNat
  | k + 1 => by
    have e : cnt p (k + 1 + 1) = cnt p (k + 1) + (p (k + 1)).toNat := rfl
    have e2 : cnt (fun i => p (i + 1)) (k + 1) = cnt (fun i => p (i + 1)) k + (p (k + 1)).toNat := rfl
    rw [e, e2, cnt_sh k, Nat.add_assoc]
