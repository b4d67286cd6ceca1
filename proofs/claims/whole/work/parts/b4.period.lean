/-! PERIODS -/
def fxi (d p : Nat) : Nat → Nat
  | 0 => 1
  | k + 1 => fmx d p (fxi d p k)
theorem fxi_lt {d p : Nat} (hp : MDg d p) : ∀ k, fxi d p k < 2 ^ d
  | 0 => one_lt hp
  | k + 1 => (fmx_ok hp (fxi_lt hp k)).1
theorem fmx_inj {d p a b : Nat} (hp : MDg d p) (ho : p.testBit 0 = true) (ha : a < 2 ^ d) (hb : b < 2 ^ d) (h : fmx d p a = fmx d p b) : a = b := by
  have z : ∀ x : Nat, (x <<< 1).testBit 0 = false := fun x => by simp
  have shi : ∀ x y : Nat, x <<< 1 = y <<< 1 → x = y := fun x y e => by
    rw [Nat.shiftLeft_eq, Nat.shiftLeft_eq] at e
    omega
  unfold fmx at h
  by_cases c1 : (a <<< 1).testBit d <;> by_cases c2 : (b <<< 1).testBit d
  · rw [if_pos c1, if_pos c2] at h
    have := congrArg (fun t => t ^^^ p) h
    simp only [xor_xc] at this
    exact shi _ _ this
  · rw [if_pos c1, if_neg c2] at h
    have e := congrArg (fun t => t.testBit 0) h
    simp only [Nat.testBit_xor, z, ho] at e
    exact absurd e (by decide)
  · rw [if_neg c1, if_pos c2] at h
    have e := congrArg (fun t => t.testBit 0) h
    simp only [Nat.testBit_xor, z, ho] at e
    exact absurd e (by decide)
  · rw [if_neg c1, if_neg c2] at h
    exact shi _ _ h
theorem fxi_can {d p : Nat} (hp : MDg d p) (ho : p.testBit 0 = true) : ∀ i j, fxi d p i = fxi d p (i + j) → fxi d p j = 1
  | 0, j, h => by rw [Nat.zero_add] at h; exact h.symm
  | i + 1, j, h => by
    rw [show i + 1 + j = (i + j) + 1 by omega] at h
    exact fxi_can hp ho i j (fmx_inj hp ho (fxi_lt hp i) (fxi_lt hp (i + j)) h)
theorem fxi_ne0 {d p : Nat} (hp : MDg d p) (ho : p.testBit 0 = true) : ∀ k, fxi d p k ≠ 0
  | 0 => by show (1 : Nat) ≠ 0; decide
  | k + 1 => fun h => by
    have z : fmx d p 0 = 0 := by
      unfold fmx
      rw [Nat.zero_shiftLeft, Nat.zero_testBit]
      rfl
    exact fxi_ne0 hp ho k (fmx_inj hp ho (fxi_lt hp k) (Nat.two_pow_pos d) (by rw [z]; exact h))
theorem per_ex {d p : Nat} (hp : MDg d p) (ho : p.testBit 0 = true) : ∃ k, 1 ≤ k ∧ k ≤ 2 ^ d ∧ fxi d p k = 1 := by
  by_cases h : ∃ k, 1 ≤ k ∧ k ≤ 2 ^ d ∧ fxi d p k = 1
  · exact h
  · exfalso
    obtain ⟨i, hi, e⟩ := php (2 ^ d) (fxi d p) (fun i _ => fxi_lt hp i) (fun i j hi hj e => by
      rcases Nat.lt_trichotomy i j with w | w | w
      · exact absurd ⟨j - i, by omega, by omega, fxi_can hp ho i (j - i) (by rw [show i + (j - i) = j by omega]; exact e)⟩ h
      · exact w
      · exact absurd ⟨i - j, by omega, by omega, fxi_can hp ho j (i - j) (by rw [show j + (i - j) = i by omega]; exact e.symm)⟩ h) 0 (Nat.two_pow_pos d)
    exact fxi_ne0 hp ho i e
def perF (p : Nat) : Nat := fnd (fun k => fxi p.log2 p k == 1) 4096 1
theorem pMDg {p : Nat} (h2 : 2 ≤ p) (hp : p < 8192) : MDg p.log2 p ∧ p.log2 ≤ 12 := by
  have l := log2_lt13 hp
  have h1 := Nat.log2_self_le (n := p) (by omega)
  have h3 := Nat.lt_log2_self (n := p)
  refine ⟨⟨?_, h1, h3⟩, by omega⟩
  rcases Nat.eq_zero_or_pos p.log2 with z | z
  · rw [z] at h3
    omega
  · exact z
theorem perF_ok {p : Nat} (h2 : 2 ≤ p) (hp : p < 8192) (ho : p.testBit 0 = true) : 1 ≤ perF p ∧ perF p ≤ 4096 ∧ fxi p.log2 p (perF p) = 1 ∧ ∀ l, 1 ≤ l → l < perF p → fxi p.log2 p l ≠ 1 := by
  obtain ⟨hm, hl⟩ := pMDg h2 hp
  obtain ⟨k, k1, k2, k3⟩ := per_ex hm ho
  have := pow12 hl
  obtain ⟨a, b, c, d⟩ := fnd_ok (p := fun k => fxi p.log2 p k == 1) 4096 1 k k1 (by omega) (beq_iff_eq.mpr k3)
  exact ⟨a, Nat.le_trans b (by omega), eq_of_beq c, fun l h1 h2 => beq_eq_false_iff_ne.mp (d l h1 h2)⟩
theorem rem_fmx {p a : Nat} (h2 : 2 ≤ p) (hp : p < 8192) (ha : a < 2 ^ p.log2) : rem13 (a <<< 1) p = fmx p.log2 p a := by
  obtain ⟨hm, hl⟩ := pMDg h2 hp
  have h13 := pow13 hl
  have hx : a <<< 1 < 2 ^ (p.log2 + 1) := shl_lt ha
  have hx8 : a <<< 1 < 8192 := by omega
  have hlt := rem13_deg hx8 (show p ≠ 0 by omega) hp
  have hc : cg p (a <<< 1) (rem13 (a <<< 1) p) := cg_prd hm.2.1 hm.2.2 (by rw [show p.log2 + (13 - p.log2) = 13 by omega]; exact hx8)
  obtain ⟨f1, f2⟩ := fmx_ok hm ha
  exact cg_small hm.2.1 hlt f1 (cg_tr (cg_sy hc) (cg_sy f2))
theorem l_Poly_per {P : PSem} (S : SysOK P) {h : PH} {p : Nat} (h2 : 2 ≤ p) (hp : p < 8192) (ho : p.testBit 0 = true) {K : PK} (hK : K (.int (nI (perF p))) h) : ∀ j q, q + (j + 1) = perF p →
    P.2 n_Poly_periodOf 9 [some (.int (nI p)), some (.int (nI (2 ^ p.log2))), some (.int (nI (fxi p.log2 p q))), some (.int (nI (q + 1)))] [] h 0 0 K := by
  obtain ⟨hm, hl⟩ := pMDg h2 hp
  obtain ⟨p1, p2, p3, p4⟩ := perF_ok h2 hp ho
  have h12 := pow12 hl
  have st : ∀ j q, q + (j + 1) = perF p → (∀ j', j = j' + 1 → P.2 n_Poly_periodOf 9 [some (.int (nI p)), some (.int (nI (2 ^ p.log2))), some (.int (nI (fxi p.log2 p (q + 1)))), some (.int (nI (q + 1 + 1)))] [] h 0 0 K) → P.2 n_Poly_periodOf 9 [some (.int (nI p)), some (.int (nI (2 ^ p.log2))), some (.int (nI (fxi p.log2 p q))), some (.int (nI (q + 1)))] [] h 0 0 K := by
    intro j q hq hih
    have hf := fxi_lt hm q
    have hf1 := fxi_lt hm (q + 1)
    have ho2 : fxi p.log2 p q <<< 1 < 2 ^ 13 := Nat.lt_of_lt_of_le (shl_lt hf) (pow_le (by omega))
    have hsh : i_shl (nI (fxi p.log2 p q)) 1 = nI (fxi p.log2 p q <<< 1) := zn_shl (k := 1) (by decide) (by omega)
    have hand : nI (fxi p.log2 p q <<< 1) &&& nI (2 ^ p.log2) = nI (if (fxi p.log2 p q <<< 1).testBit p.log2 then 2 ^ p.log2 else 0) := by rw [zn_and, and_pow]
    have h2n : ¬ nI (2 ^ p.log2) = 0 := nI_ne0 (Nat.two_pow_pos _) (by omega)
    have n24 : P.2 n_Poly_periodOf 24 [some (.int (nI p)), some (.int (nI (2 ^ p.log2))), some (.int (nI (fxi p.log2 p (q + 1)))), some (.int (nI (q + 1)))] [] h 0 0 K := by
      refine S.at 60 [] rfl ?_
      conv => whnf
      cases j with
      | zero =>
        have e : q + 1 = perF p := by omega
        rw [← e] at p3 hK
        rw [p3]
        refine bk_nf (rfl) ?_
        conv => whnf
        exact hK
      | succ j =>
        refine bk_nt (fun c => p4 (q + 1) (by omega) (by omega) ((zn_eq (b := 1) (by omega) (by decide)).mp c)) ?_
        conv => whnf
        have next := hih j rfl
        rw [← nI_1 (q + 1)] at next
        exact next
    have e : fxi p.log2 p (q + 1) = if (fxi p.log2 p q <<< 1).testBit p.log2 then (fxi p.log2 p q <<< 1) ^^^ p else fxi p.log2 p q <<< 1 := rfl
    rw [e] at n24
    refine S.at 60 [24] rfl ?_
    conv => whnf
    refine bk_f (fun c => absurd ((zn_lt (a := 8191) (by omega) (by omega)).mp c) (by omega)) ?_
    conv => whnf
    rw [hsh]
    have hand' : (fun x y : Int32 => x &&& y) (nI (fxi p.log2 p q <<< 1)) (nI (2 ^ p.log2)) = _ := hand
    rw [hand']
    cases e2 : (fxi p.log2 p q <<< 1).testBit p.log2 with
    | false =>
      rw [e2, if_neg (by decide)] at n24
      refine bk_t (rfl) ?_
      conv => whnf
      exact n24
    | true =>
      rw [e2, if_pos rfl, ← zn_xor] at n24
      refine bk_f (h2n) ?_
      conv => whnf
      exact n24
  intro j
  induction j with
  | zero =>
    intro q hq
    exact st 0 q hq (fun j' e => by omega)
  | succ j ih =>
    intro q hq
    exact st (j + 1) q hq (fun j' e => ih (q + 1) (by omega))
theorem c_Poly_periodOf {P : PSem} (S : SysOK P) {h : PH} {p : Nat} (h2 : 2 ≤ p) (hp : p < 8192) (ho : p.testBit 0 = true) {K : PK} (hK : K (.int (nI (perF p))) h) : P.1 n_Poly_periodOf [.int (nI p)] h K := by
  obtain ⟨hm, hl⟩ := pMDg h2 hp
  obtain ⟨p1, p2, p3, p4⟩ := perF_ok h2 hp ho
  refine S.2.1 _ 4 _ _ _ rfl rfl ?_
  refine S.at 60 [9] rfl ?_
  conv => whnf
  refine c_Poly_degreeOf S (by omega) hp ?_
  conv => whnf
  rw [shl_one hl]
  exact l_Poly_per S h2 hp ho hK (perF p - 1) 0 (by omega)
def sPeriod (p : Int32) : Int32 := if hdg p then (if p.toNatClampNeg.testBit 0 then nI (perF p.toNatClampNeg) else -2) else -1
theorem c_FT_period {P : PSem} (S : SysOK P) {h : PH} (p : Int32) {K : PK} (hK : K (.int (sPeriod p)) h) : P.1 n_FT_period [.ref 5, .int p] h K := by
  unfold sPeriod at hK
  refine S.go 60 rfl rfl rfl ?_
  conv => whnf
  refine c_FT_hasDegree S p ?_
  conv => whnf
  refine bk_b1 (fun c => ?_) (fun c => ?_)
  · rw [show hdg p = true from c, if_pos rfl] at hK
    obtain ⟨q, rfl, q1, q2⟩ := hdg_nat c
    rw [nI_clamp (by omega)] at hK
    have hbit : nI q &&& 1 = nI (q.testBit 0).toNat := by
      have := zn_and q 1
      rw [show (1 : Nat) = 2 ^ 1 - 1 from rfl, Nat.and_two_pow_sub_one_eq_mod] at this
      rw [Nat.toNat_testBit, Nat.pow_zero, Nat.div_one]
      exact this
    have hbit' : (fun x y : Int32 => x &&& y) (nI q) 1 = nI (q.testBit 0).toNat := hbit
    conv => whnf
    rw [hbit']
    cases hb : q.testBit 0 with
    | true =>
      rw [hb, if_pos rfl] at hK
      refine bk_nt ((by decide)) ?_
      conv => whnf
      refine c_Poly_periodOf S q1 q2 hb ?_
      conv => whnf
      exact hK
    | false =>
      rw [hb, if_neg (by decide)] at hK
      refine bk_nf (rfl) ?_
      conv => whnf
      exact hK
  · rw [show hdg p = false from c] at hK
    conv => whnf
    exact hK
theorem l_M_per {P : PSem} (S : SysOK P) {h : PH} {p : Nat} (h2 : 2 ≤ p) (hp : p < 8192) (ho : p.testBit 0 = true) {K : PK} (hK : K (.int (nI (perF p))) h) : ∀ j q, q + j = perF p → 1 ≤ q →
    P.2 n_M_period 19 [none, some (.int (nI p)), some (.int (nI q)), some (.int (nI (fxi p.log2 p q)))] [] h 0 0 K := by
  obtain ⟨hm, hl⟩ := pMDg h2 hp
  obtain ⟨p1, p2, p3, p4⟩ := perF_ok h2 hp ho
  have h12 := pow12 hl
  intro j
  induction j with
  | zero =>
    intro q hq hq1
    have e : q = perF p := by omega
    rw [← e] at p3 hK
    refine S.at 60 [] rfl ?_
    conv => whnf
    rw [p3]
    refine bk_t (rfl) ?_
    conv => whnf
    exact hK
  | succ j ih =>
    intro q hq hq1
    have hf := fxi_lt hm q
    have ho2 : fxi p.log2 p q <<< 1 < 2 ^ 13 := Nat.lt_of_lt_of_le (shl_lt hf) (pow_le (by omega))
    have hsh : i_shl (nI (fxi p.log2 p q)) 1 = nI (fxi p.log2 p q <<< 1) := zn_shl (k := 1) (by decide) (by omega)
    refine S.at 60 [] rfl ?_
    conv => whnf
    refine bk_f (fun c => p4 q hq1 (by omega) ((zn_eq (b := 1) (by omega) (by decide)).mp c)) ?_
    conv => whnf
    refine p1c (congrArg (fun z => [Value.int z, Value.int (nI p)]) hsh) ?_
    refine c_M_rest S (by omega) (by omega) hp ?_
    rw [rem_fmx h2 hp hf]
    conv => whnf
    have next := ih (q + 1) (by omega) (by omega)
    rw [← nI_1 q] at next
    exact next
theorem c_M_period {P : PSem} (S : SysOK P) {h : PH} (p : Int32) {K : PK} (hK : K (.int (sPeriod p)) h) : P.1 n_M_period [.ref 116, .int p] h K := by
  unfold sPeriod at hK
  refine S.2.1 _ 4 _ _ _ rfl rfl ?_
  refine S.at 60 [19] rfl ?_
  conv => whnf
  refine c_M_in S _ _ _ ?_
  conv => whnf
  refine bk_b1 (fun c => ?_) (fun c => ?_)
  · rw [show hdg p = true from c, if_pos rfl] at hK
    obtain ⟨q, rfl, q1, q2⟩ := hdg_nat c
    rw [nI_clamp (by omega)] at hK
    obtain ⟨hm, hl⟩ := pMDg q1 q2
    conv => whnf
    refine c_M_has (j := 0) S (by omega) (by decide) ?_
    conv => whnf
    refine bk_b1 (fun hb => ?_) (fun hb => ?_)
    · rw [hb, if_pos rfl] at hK
      obtain ⟨p1, p2, p3, p4⟩ := perF_ok q1 q2 hb
      conv => whnf
      refine c_M_rest (p := 2) S (by decide) (by omega) q2 ?_
      have e := rem_fmx q1 q2 (one_lt hm)
      have e : rem13 2 q = fmx q.log2 q 1 := e
      rw [e]
      conv => whnf
      refine S.mk [(0,0),(0,1),(0,1),(0,1)] ?_
      exact l_M_per S q1 q2 hb hK (perF q - 1) 1 (by omega) (Nat.le_refl 1)
    · rw [hb, if_neg (by decide)] at hK
      conv => whnf
      exact hK
  · rw [show hdg p = false from c] at hK
    conv => whnf
    exact hK
