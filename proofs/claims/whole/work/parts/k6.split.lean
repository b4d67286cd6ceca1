/-! CONSTRUCTORS: which polynomials split, by the reference -/
theorem shr_0 {b j k : Nat} (h : b < 2 ^ (j + 1)) (hk : j + 1 ≤ k) : b >>> k = 0 := by
  rw [Nat.shiftRight_eq_div_pow]
  exact Nat.div_eq_of_lt (Nat.lt_of_lt_of_le h (Nat.pow_le_pow_right (by decide) hk))
theorem shr_pos {b j k : Nat} (h : 2 ^ j ≤ b) (hk : k ≤ j) : 1 ≤ b >>> k := by
  rw [Nat.shiftRight_eq_div_pow, Nat.le_div_iff_mul_le (Nat.two_pow_pos k), Nat.one_mul]
  exact Nat.le_trans (Nat.pow_le_pow_right (by decide) hk) h
theorem l_M_times {P : PSem} (S : SysOK P) {h : PH} {a b i j : Nat} (h2 : a < 2 ^ (i + 1)) (h3 : 2 ^ j ≤ b) (h4 : b < 2 ^ (j + 1)) (hij : i + j ≤ 12) {K : PK} (hK : K (.int (nI (clN a b (j + 1)))) h) : ∀ d k, k + d = j + 1 → P.2 n_M_times 4 [some (.int (nI a)), some (.int (nI b)), some (.int (nI (clN a b k))), some (.int (nI k))] [] h 0 0 K := by
  have pb : 2 ^ (j + 1) ≤ 2 ^ 13 := Nat.pow_le_pow_right (by decide) (by omega)
  have c13 : 2 ^ 13 = 8192 := by decide
  intro d
  induction d with
  | zero =>
    intro k hk
    have e : k = j + 1 := by omega
    subst e
    refine S.at 40 [] rfl ?_
    conv => whnf
    refine bk_t ?_ ?_
    · rw [zn_shr (by omega) (by omega), shr_0 h4 (Nat.le_refl _)]
      decide
    · conv => whnf
      exact hK
  | succ d ih =>
    intro k hk
    have next := ih (k + 1) (by omega)
    have e : clN a b (k + 1) = clN a b k ^^^ (if b.testBit k then a <<< k else 0) := rfl
    rw [e, ← nI_1 k] at next
    have bl : b >>> k < 2 ^ 31 := Nat.lt_of_le_of_lt (by rw [Nat.shiftRight_eq_div_pow]; exact Nat.div_le_self _ _) (by omega : b < 2 ^ 31)
    have bp := shr_pos h3 (show k ≤ j by omega)
    have sl : a <<< k < 2 ^ 32 := by
      rw [Nat.shiftLeft_eq]
      have : a * 2 ^ k < 2 ^ (i + 1) * 2 ^ k := Nat.mul_lt_mul_of_pos_right h2 (Nat.two_pow_pos k)
      rw [← Nat.pow_add] at this
      exact Nat.lt_of_lt_of_le this (Nat.pow_le_pow_right (by decide) (by omega))
    refine S.at 40 [] rfl ?_
    conv => whnf
    refine bk_f ?_ ?_
    · rw [zn_shr (by omega) (by omega)]
      exact fun c => absurd ((zn_le (b := 0) bl (by decide)).mp c) (by omega)
    conv => whnf
    refine c_M_has S (by omega) (by omega) ?_
    conv => whnf
    refine bk_b0 (fun c => ?_) (fun c => ?_)
    · rw [c, if_neg (by decide), Nat.xor_zero] at next
      conv => whnf
      exact next
    · rw [if_pos c, ← zn_xor, ← zn_shl (by omega) sl] at next
      conv => whnf
      exact next
theorem c_M_times {P : PSem} (S : SysOK P) {h : PH} {a b i j : Nat} (h2 : a < 2 ^ (i + 1)) (h3 : 2 ^ j ≤ b) (h4 : b < 2 ^ (j + 1)) (hij : i + j ≤ 12) {K : PK} (hK : K (.int (nI (cl a b))) h) : P.1 n_M_times [.int (nI a), .int (nI b)] h K := by
  refine S.2.1 _ 4 _ _ _ rfl rfl ?_
  refine S.at 10 [4] rfl ?_
  conv => whnf
  exact l_M_times S h2 h3 h4 hij (by rw [clN_eq h4]; exact hK) (j + 1) 0 (Nat.zero_add _)
def DD (a b x y : Nat) : Prop := 2 ≤ y ∧ y ≤ x ∧ x.log2 + y.log2 ≤ 12 ∧ (x < a ∨ (x = a ∧ y < b))
def SPA (h : PH) (a b : Nat) : Prop := (∀ x y, DD a b x y → hI h 124 (cl x y) = 1) ∧ (∀ p, (∀ x y, DD a b x y → cl x y ≠ p) → hI h 124 p = 0)
theorem lg2 {x : Nat} (h : 2 ≤ x) : 2 ^ x.log2 ≤ x ∧ x < 2 ^ (x.log2 + 1) := ⟨Nat.log2_self_le (by omega), Nat.lt_log2_self⟩
theorem lg_mono {x y : Nat} (h : x ≤ y) (hx : 2 ≤ x) : x.log2 ≤ y.log2 := by
  rw [Nat.le_log2 (by omega)]
  exact Nat.le_trans (lg2 hx).1 h
theorem SPA_next {h : PH} {a b : Nat} (s : SPA h a b) (ha : 2 ≤ b) (hb : b ≤ a) (hl : a.log2 + b.log2 ≤ 12) : SPA (sI h 124 (cl a b) 1) a (b + 1) := by
  refine ⟨fun x y d => ?_, fun p hp => ?_⟩
  · by_cases e : cl x y = cl a b
    · rw [e, hI_sI]
    · rw [hI_sI_j e]
      refine s.1 x y ⟨d.1, d.2.1, d.2.2.1, ?_⟩
      rcases d.2.2.2 with w | ⟨w1, w2⟩
      · exact Or.inl w
      · refine Or.inr ⟨w1, ?_⟩
        rcases Nat.lt_or_ge y b with v | v
        · exact v
        · have : y = b := by omega
          rw [w1, this] at e
          exact absurd rfl e
  · have ne : p ≠ cl a b := fun e => hp a b ⟨ha, hb, hl, Or.inr ⟨rfl, by omega⟩⟩ e.symm
    rw [hI_sI_j ne]
    refine s.2 p (fun x y d => hp x y ⟨d.1, d.2.1, d.2.2.1, ?_⟩)
    rcases d.2.2.2 with w | w
    · exact Or.inl w
    · exact Or.inr ⟨w.1, by omega⟩
theorem SPA_end {h : PH} {a b : Nat} (s : SPA h a b) (he : ∀ y, b ≤ y → y ≤ a → 2 ≤ y → 12 < a.log2 + y.log2) : SPA h (a + 1) 2 := by
  have key : ∀ x y, DD (a + 1) 2 x y → DD a b x y := by
    intro x y d
    refine ⟨d.1, d.2.1, d.2.2.1, ?_⟩
    rcases d.2.2.2 with w | w
    · rcases Nat.lt_or_ge x a with v | v
      · exact Or.inl v
      · have e : x = a := by omega
        refine Or.inr ⟨e, ?_⟩
        rcases Nat.lt_or_ge y b with z | z
        · exact z
        · have := he y z (by have := d.2.1; omega) d.1
          have := d.2.2.1
          rw [e] at this
          omega
    · have := d.1
      omega
  refine ⟨fun x y d => s.1 x y (key x y d), fun p hp => s.2 p (fun x y d => hp x y ⟨d.1, d.2.1, d.2.2.1, ?_⟩)⟩
  rcases d.2.2.2 with w | w
  · exact Or.inl (by omega)
  · exact Or.inl (by omega)
theorem l_M_in {P : PSem} (S : SysOK P) {h0 : PH} (hw0 : WS h0) {a : Nat} (ha2 : 2 ≤ a) (ha : a < 8192) {ca sl : Nat} (hca : ca ≤ 32) (hsl : sl ≤ 17894) {K : PK} (hK : ∀ h', eqX (fun k => k = 124) h0 h' → SPA h' (a + 1) 2 → P.2 n_M_init 195 [some (.ref 116), some (.int (nI a)), none] [] h' ca sl K) : ∀ d b h, b + d = a + 1 → 2 ≤ b → eqX (fun k => k = 124) h0 h → SPA h a b → P.2 n_M_init 176 [some (.ref 116), some (.int (nI a)), some (.int (nI b))] [] h ca sl K := by
  intro d
  induction d with
  | zero =>
    intro b h hd hb f s
    refine S.at 40 [195] rfl ?_
    conv => whnf
    refine bk_t ((zn_lt (by omega) (by omega)).mpr (by omega)) ?_
    conv => whnf
    refine S.mk [(0,1),(0,1),(0,0)] ?_
    exact hK h f (SPA_end s (fun y y1 y2 _ => by omega))
  | succ d ih =>
    intro b h hd hb f s
    have hw := eqX_WS f hw0
    obtain ⟨a1, a2⟩ := lg2 ha2
    obtain ⟨b1, b2⟩ := lg2 hb
    have la : a.log2 < 13 := by
      rw [Nat.log2_lt (by omega)]
      exact ha
    have lb : b.log2 < 13 := by
      rw [Nat.log2_lt (by omega)]
      exact (by omega : b < 2 ^ 13)
    refine S.at 60 [195] rfl ?_
    conv => whnf
    refine bk_f (fun c => absurd ((zn_lt (by omega) (by omega)).mp c) (by omega)) ?_
    conv => whnf
    refine bifT (and3 (a := ca + 0) (b := 32) (c := sl + 0) (d := 17894) (by omega) (by omega) rfl) ?_
    refine c_M_degreeL S (by omega) ?_
    conv => whnf
    refine bifT (and3 (a := ca + 0 + 0) (b := 32) (c := sl + 0 + 0) (d := 17894) (by omega) (by omega) rfl) ?_
    refine c_M_degreeL S (by omega) ?_
    conv => whnf
    rw [show (fun x y : Int32 => x + y) (nI a.log2) (nI b.log2) = nI (a.log2 + b.log2) from (zn_plus _ _).symm]
    refine bk_lt (a := 12) (by omega) (by omega) (fun c => ?_) (fun c => ?_)
    · conv => whnf
      refine S.mk [(0,1),(0,1),(0,0)] ?_
      exact hK h f (SPA_end s (fun y y1 y2 y3 => by have := lg_mono y1 hb; omega))
    · have cd := cl_deg a1 a2 b1 b2
      have cp : 2 ^ (a.log2 + b.log2 + 1) ≤ 2 ^ 13 := Nat.pow_le_pow_right (by decide) (by omega)
      have c13 : 2 ^ 13 = 8192 := by decide
      have next := ih (b + 1) (sI h 124 (cl a b) 1) (by omega) (by omega) (eqX_tr f (eqX_sI rfl)) (SPA_next s hb (by omega) c)
      rw [← nI_1 b] at next
      conv => whnf
      refine ⟨wt_116 hw, ?_⟩
      conv => whnf
      rw [wr_116_17 hw]
      refine bifT (and3 (a := ca + 0 + 0 + 0) (b := 32) (c := sl + 0 + 0 + 0) (d := 17894) (by omega) (by omega) rfl) ?_
      refine c_M_times S a2 b1 b2 c ?_
      conv => whnf
      refine ⟨Or.inr (inB_of (wt_124 hw) (wn_124 hw) (show cl a b < 8192 by omega) (by decide)), ?_⟩
      try rw [nI_clamp (show cl a b < 2 ^ 31 by omega)]
      rw [wt_124 hw]
      conv => whnf
      exact next
theorem l_M_out {P : PSem} (S : SysOK P) {h0 : PH} (hw0 : WS h0) {K : PK} (hK : ∀ h', eqX (fun k => k = 124) h0 h' → SPA h' 8192 2 → P.2 n_M_init 197 [some (.ref 116), none, none] [] h' 32 17894 K) : ∀ d a h, a + d = 8192 → 2 ≤ a → eqX (fun k => k = 124) h0 h → SPA h a 2 → P.2 n_M_init 171 [some (.ref 116), some (.int (nI a)), none] [] h 32 17894 K := by
  intro d
  induction d with
  | zero =>
    intro a h hd ha f s
    have e : a = 8192 := by omega
    subst e
    refine S.at 40 [197] rfl ?_
    conv => whnf
    refine bk_t (by decide) ?_
    conv => whnf
    refine S.mk [(0,1),(0,0),(0,0)] ?_
    exact hK h f s
  | succ d ih =>
    intro a h hd ha f s
    have hw := eqX_WS f hw0
    refine S.at 40 [176] rfl ?_
    conv => whnf
    refine bk_f (fun c => absurd ((zn_le (a := 8192) (by omega) (by omega)).mp c) (by omega)) ?_
    conv => whnf
    refine l_M_in S hw ha (by omega) (Nat.le_refl _) (Nat.le_refl _) ?_ (a - 1) 2 h (by omega) (Nat.le_refl _) (eqX_rf _ _) s
    intro h1 f1 s1
    have next := ih (a + 1) h1 (by omega) (by omega) (eqX_tr f f1) s1
    rw [← nI_1 a] at next
    refine S.at 10 [] rfl ?_
    conv => whnf
    exact next
theorem SPA_SPL {h : PH} (s : SPA h 8192 2) : SPL h := by
  intro p h2 hp
  cases hb : irrT.testBit p with
  | true =>
    have ir := T_irr h2 hp hb
    refine s.2 p (fun x y d e => ?_)
    have := d.1
    have := d.2.1
    rcases ir x y e with w | w
    · omega
    · omega
  | false =>
    have nir : ¬ irr p := fun q => by
      rw [irr_T h2 hp q] at hb
      exact absurd hb (by decide)
    have ex : ∃ x y, DD 8192 2 x y ∧ cl x y = p := by
      apply Classical.byContradiction
      intro nx
      apply nir
      intro a b e
      apply Classical.byContradiction
      intro no
      have a1 : a ≠ 1 := fun q => no (Or.inl q)
      have b1 : b ≠ 1 := fun q => no (Or.inr q)
      have a0 : a ≠ 0 := fun q => by
        rw [q, cl_0l] at e
        omega
      have b0 : b ≠ 0 := fun q => by
        rw [q, cl_0r] at e
        omega
      have main : ∀ x y, 2 ≤ y → y ≤ x → cl x y = p → False := by
        intro x y y2 yx q
        obtain ⟨x1, x2⟩ := lg2 (show 2 ≤ x by omega)
        obtain ⟨y1, y3⟩ := lg2 y2
        have cd := cl_deg x1 x2 y1 y3
        rw [q] at cd
        have lt : x.log2 + y.log2 < 13 := by
          apply Nat.lt_of_not_le
          intro z
          have : 2 ^ 13 ≤ 2 ^ (x.log2 + y.log2) := Nat.pow_le_pow_right (by decide) z
          have c13 : 2 ^ 13 = 8192 := by decide
          omega
        have ly : 1 ≤ y.log2 := by
          rw [Nat.le_log2 (by omega)]
          exact y2
        have xl : x < 8192 := Nat.lt_of_lt_of_le x2 (Nat.pow_le_pow_right (by decide) (show x.log2 + 1 ≤ 13 by omega))
        exact nx ⟨x, y, ⟨y2, yx, by omega, Or.inl xl⟩, q⟩
      rcases Nat.le_total b a with w | w
      · exact main a b (by omega) w e
      · exact main b a (by omega) w (by rw [cl_comm]; exact e)
    obtain ⟨x, y, d, e⟩ := ex
    rw [← e]
    exact s.1 x y d
