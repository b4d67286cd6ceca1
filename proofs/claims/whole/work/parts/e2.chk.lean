/-! CHECK: what the class keeps of each token -/
theorem gAf_tab {r k o g : Nat} (hg : gAf r k o = g) (h : g ≠ 0) : (r = 1 ∧ k = 1 ∧ g = 2) ∨ (r = 1 ∧ k = 2 ∧ g = 5) ∨ (r = 2 ∧ k = 5 ∧ g = 3) ∨ (r = 3 ∧ k = 5 ∧ g = 4) ∨ (r = 4 ∧ k = 6 ∧ g = 1) ∨ (r = 5 ∧ k = 4 ∧ g = 6) ∨ (r = 6 ∧ k = 5 ∧ g = 7) ∨ (r = 7 ∧ k = 11 ∧ g = 7) ∨ (r = 7 ∧ (k = 3 ∨ k = 4 ∨ k = 5) ∧ g = 8) ∨ (r = 8 ∧ k = 10 ∧ g = 9) ∨ (r = 9 ∧ k = 5 ∧ g = 10) ∨ ((r = 8 ∨ r = 10) ∧ (((k = 7 ∨ k = 8 ∨ k = 9) ∧ g = 7) ∨ (k = 12 ∧ o ≠ 0 ∧ g = 8) ∨ (k = 6 ∧ o = 0 ∧ g = 1))) := by
  unfold gAf gPw at hg
  split at hg
  all_goals
    repeat' split at hg
    all_goals
      subst hg
      first
        | exact absurd rfl h
        | simp_all
def cR (tx : Nat → Nat) (L t : Nat) : Nat := (pst (tkk tx L) t).1
def cnm (tx : Nat → Nat) (L : Nat) : Nat → Nat
  | 0 => 0
  | t + 1 => if (cR tx L t = 8 ∨ cR tx L t = 10) ∧ tkk tx L t = 6 then cnm tx L t + 1 else cnm tx L t
def clf (tx : Nat → Nat) (L : Nat) : Nat → Nat
  | 0 => 0
  | t + 1 => if cR tx L t = 2 ∨ cR tx L t = 6 then tkw tx L t else clf tx L t
def cBt (tx : Nat → Nat) (L t : Nat) : Int32 := sRow tx (tkS tx L t) (rwE tx L (tkS tx L t) - tkS tx L t)
def cNL (tx : Nat → Nat) (L : Nat) (l0 : Nat → Int64) : Nat → Nat → Int64
  | 0 => l0
  | t + 1 => fun j => if cR tx L t = 5 ∧ j = cnm tx L t then lN (tkw tx L t) else cNL tx L l0 t j
def cNF (tx : Nat → Nat) (L : Nat) (f0 : Nat → Int32) : Nat → Nat → Int32
  | 0 => f0
  | t + 1 => fun j => if cR tx L t = 6 ∧ j = cnm tx L t then nI (tkw tx L t) else cNF tx L f0 t j
def cNS (tx : Nat → Nat) (L : Nat) (s0 : Nat → Int32) : Nat → Nat → Int32
  | 0 => s0
  | t + 1 => fun j => if cR tx L t = 6 ∧ j = cnm tx L t then nI (t + 1) else cNS tx L s0 t j
def cIX (tx : Nat → Nat) (L : Nat) (l0 : Nat → Int64) (t : Nat) : Nat := ixF (cNL tx L l0 t) (cnm tx L t) (lN (tkw tx L t))
def cMX (tx : Nat → Nat) (L : Nat) (l0 : Nat → Int64) (f0 m0 : Nat → Int32) : Nat → Nat → Int32
  | 0 => m0
  | t + 1 => fun j => if cR tx L t = 6 ∧ j = cnm tx L t then 0 else if cR tx L t = 7 ∧ tkk tx L t = 4 ∧ j = cnm tx L t ∧ cNF tx L f0 t (cIX tx L l0 t) ≠ nI (clf tx L t) then 1 else cMX tx L l0 f0 m0 t j
def cMD (tx : Nat → Nat) (L : Nat) (d0 : Nat → Int32) : Nat → Nat → Int32
  | 0 => d0
  | t + 1 => fun j => if cR tx L t = 3 ∧ j = clf tx L t then cBt tx L t else cMD tx L d0 t j
def cW (tx : Nat → Nat) (L : Nat) (l0 : Nat → Int64) (t : Nat) : Int64 := if cR tx L t = 7 ∧ tkk tx L t = 5 then (cBt tx L t).toInt64 else if cR tx L t = 7 ∧ tkk tx L t = 4 then lN (cIX tx L l0 t) else lN (tkw tx L t)
def isMB (n : Nat) (v : Int32) : Bool := decide (nI (2 ^ n) ≤ v ∧ v < nI (2 ^ (n + 1))) && isIrrB v.toNatClampNeg
def cFL (tx : Nat → Nat) (L : Nat) (l0 : Nat → Int64) (f0 : Nat → Int32) (t : Nat) : Nat :=
  if cR tx L t = 2 ∨ cR tx L t = 6 then (if 1 ≤ tkw tx L t ∧ tkw tx L t ≤ 12 then 0 else 5)
  else if cR tx L t = 3 then (if isMB (clf tx L t) (cBt tx L t) then 0 else 5)
  else if cR tx L t = 5 then (if cIX tx L l0 t < cnm tx L t then 3 else 0)
  else if cR tx L t = 7 then (if tkk tx L t = 5 then (if cBt tx L t = -1 then 5 else 0) else if tkk tx L t = 4 then (if cIX tx L l0 t < cnm tx L t then (if clf tx L t % (cNF tx L f0 t (cIX tx L l0 t)).toNatClampNeg = 0 then 0 else 6) else 4) else 0)
  else if cR tx L t = 9 then (if 9999 < tkw tx L t then 5 else 0) else 0
theorem tkw_bd {tx : Nat → Nat} {L t : Nat} (hM : L ≤ 2000) (hk : tkk tx L t = 4 ∨ tkk tx L t = 5) : tkw tx L t < 2 ^ 63 := by
  have hq := tkS_le (tx := tx) hM t
  unfold tkk tkK at hk
  unfold tkw tkW
  split
  · decide
  · rename_i n1
    rw [if_neg n1] at hk
    split
    · rename_i n2
      rw [if_pos n2] at hk
      obtain ⟨r1, r2, r3, r4⟩ := run_ok (f := fun q => ltrB (tx q)) hq hM
      split at hk
      · omega
      · have r1 : tkS tx L t ≤ wdE tx L (tkS tx L t) := r1
        have a := nmF_lt (B := 32) (tx := tx) (q := tkS tx L t) (by decide) (wdE tx L (tkS tx L t) - tkS tx L t) (fun i hi => (r4 (tkS tx L t + i) (by omega) (show _ < wdE tx L (tkS tx L t) by omega)).2)
        have b : 32 ^ (wdE tx L (tkS tx L t) - tkS tx L t) ≤ 32 ^ 8 := Nat.pow_le_pow_right (by decide) (by omega)
        have c : 32 ^ 8 < 2 ^ 63 := by decide
        omega
    · rename_i n2
      rw [if_neg n2] at hk
      split
      · rename_i n3
        rw [if_pos n3] at hk
        obtain ⟨r1, r2, r3, r4⟩ := run_ok (f := fun q => dgtB (tx q)) hq hM
        split at hk
        · omega
        · have r1 : tkS tx L t ≤ rwE tx L (tkS tx L t) := r1
          have a := dcF_lt (tx := tx) (q := tkS tx L t) (rwE tx L (tkS tx L t) - tkS tx L t) (fun i hi => (r4 (tkS tx L t + i) (by omega) (show _ < rwE tx L (tkS tx L t) by omega)).2)
          have b : 10 ^ (rwE tx L (tkS tx L t) - tkS tx L t) ≤ 10 ^ 13 := Nat.pow_le_pow_right (by decide) (by omega)
          have c : 10 ^ 13 < 2 ^ 63 := by decide
          omega
      · decide
