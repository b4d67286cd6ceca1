/-! WHAT CANNOT BE SPLIT, by trial -/
/-- the remainder of p (below 2^13) by a part of degree i -/
def rem13 (p by_ : Nat) : Nat := prd by_ by_.log2 (13 - by_.log2) p
def tryD (p : Nat) : Nat → Nat → Bool
  | 0, _ => true
  | j + 1, part => if rem13 p part = 0 then false else tryD p j (part + 1)
def isIrrB (p : Nat) : Bool := tryD p (2 ^ (p.log2 / 2 + 1) - 2) 2
theorem tryD_iff (p : Nat) : ∀ (j s : Nat), tryD p j s = true ↔ ∀ d, s ≤ d → d < s + j → rem13 p d ≠ 0
  | 0, s => ⟨fun _ d h1 h2 => by omega, fun _ => rfl⟩
  | j + 1, s => by
    have ih := tryD_iff p j (s + 1)
    show (if rem13 p s = 0 then false else tryD p j (s + 1)) = true ↔ _
    by_cases h : rem13 p s = 0
    · rw [if_pos h]
      exact ⟨fun q => (by cases q), fun q => absurd h (q s (Nat.le_refl s) (by omega))⟩
    · rw [if_neg h, ih]
      refine ⟨fun q d h1 h2 => ?_, fun q d h1 h2 => q d (by omega) (by omega)⟩
      rcases Nat.eq_or_lt_of_le h1 with rfl | w
      · exact h
      · exact q d w (by omega)
theorem log2_lt13 {p : Nat} (h : p < 8192) : p.log2 < 13 := by
  rcases Nat.eq_zero_or_pos p with z | z
  · subst z; decide
  · rcases Nat.lt_or_ge p.log2 13 with w | w
    · exact w
    · have h1 := Nat.log2_self_le (n := p) (by omega)
      have h2 := pow_le w
      have : (2 : Nat) ^ 13 = 8192 := rfl
      omega
/-- nothing is left: it divides -/
theorem rem13_dvd {p d : Nat} (hp : p < 8192) (hd0 : d ≠ 0) (hd : d < 8192) : rem13 p d = 0 ↔ pdvd d p := by
  have h1 := Nat.log2_self_le hd0
  have h2 := Nat.lt_log2_self (n := d)
  have h13 := log2_lt13 hd
  have hlt : p < 2 ^ (d.log2 + (13 - d.log2)) := by
    rw [show d.log2 + (13 - d.log2) = 13 by omega]
    exact hp
  obtain ⟨g1, g2, -⟩ := prd_ok h1 h2 (13 - d.log2) p hlt
  constructor
  · intro h
    refine ⟨pdv d d.log2 (13 - d.log2) p, ?_⟩
    have h' : prd d d.log2 (13 - d.log2) p = 0 := h
    rw [h', Nat.xor_zero] at g2
    exact g2
  · intro h
    have hc := cg_prd h1 h2 hlt
    have h0 : cg d (prd d d.log2 (13 - d.log2) p) 0 := cg_tr (cg_sy hc) (by unfold cg; rw [Nat.xor_zero]; exact h)
    exact cg_small h1 g1 (Nat.two_pow_pos _) h0
theorem isIrrB_iff {p : Nat} (h2 : 2 ≤ p) (hp : p < 8192) : isIrrB p = true ↔ irr p := by
  have hp0 : p ≠ 0 := by omega
  have d1 := Nat.log2_self_le hp0
  have d2 := Nat.lt_log2_self (n := p)
  have h13 := log2_lt13 hp
  have hl1 : 1 ≤ p.log2 := by
    rcases Nat.eq_zero_or_pos p.log2 with z | z
    · rw [z] at d2
      omega
    · exact z
  have h22 : 2 ≤ 2 ^ (p.log2 / 2 + 1) := two_pow_ge2 (by omega)
  unfold isIrrB
  rw [tryD_iff]
  constructor
  · intro h a b hab
    rcases Nat.eq_zero_or_pos a with za | za
    · rw [za, cl_0l] at hab; omega
    rcases Nat.eq_zero_or_pos b with zb | zb
    · rw [zb, cl_0r] at hab; omega
    rcases Nat.eq_or_lt_of_le za with ea | ga
    · exact Or.inl ea.symm
    rcases Nat.eq_or_lt_of_le zb with eb | gb
    · exact Or.inr eb.symm
    exfalso
    have a1 := Nat.log2_self_le (n := a) (by omega)
    have a2 := Nat.lt_log2_self (n := a)
    have b1 := Nat.log2_self_le (n := b) (by omega)
    have b2 := Nat.lt_log2_self (n := b)
    have hd := cl_deg a1 a2 b1 b2
    rw [hab] at hd
    have hsum : a.log2 + b.log2 = p.log2 := dg_uq hd.1 hd.2 d1 d2
    have small : ∀ c : Nat, 2 ≤ c → c.log2 ≤ p.log2 / 2 → c < 8192 → ¬ pdvd c p := by
      intro c hc hcl hc8 hdv
      have c2 := Nat.lt_log2_self (n := c)
      have := pow_le (show c.log2 + 1 ≤ p.log2 / 2 + 1 by omega)
      exact h c hc (by omega) ((rem13_dvd hp (by omega) hc8).mpr hdv)
    have big : ∀ c : Nat, c.log2 ≤ p.log2 → c < 8192 := by
      intro c hc
      have c2 := Nat.lt_log2_self (n := c)
      have := pow_le (show c.log2 + 1 ≤ 13 by omega)
      have : (2 : Nat) ^ 13 = 8192 := rfl
      omega
    rcases Nat.le_total a.log2 b.log2 with w | w
    · exact small a (by omega) (by omega) (big a (by omega)) ⟨b, by rw [cl_comm]; exact hab.symm⟩
    · exact small b (by omega) (by omega) (big b (by omega)) ⟨a, hab.symm⟩
  · intro h d hd1 hd2 hr
    have hd3 : d < 2 ^ (p.log2 / 2 + 1) := by omega
    have hd8 : d < 8192 := by
      have := pow_le (show p.log2 / 2 + 1 ≤ 13 by omega)
      have : (2 : Nat) ^ 13 = 8192 := rfl
      omega
    obtain ⟨q, hq⟩ := (rem13_dvd hp (by omega) hd8).mp hr
    rcases h q d hq.symm with w | w
    · rw [w, cl_1l] at hq
      subst hq
      rcases Nat.lt_or_ge p.log2 2 with z | z
      · have : p.log2 = 1 := by omega
        rw [this] at hd3 d1
        have e1 : (2 : Nat) ^ (1 / 2 + 1) = 2 := rfl
        omega
      · have := pow_le (show p.log2 / 2 + 1 ≤ p.log2 by omega)
        omega
    · omega
