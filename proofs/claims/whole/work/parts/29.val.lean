/-! POWERS BY HALVES, VALUES BY HORNER -/
theorem fpw_2 {n m a : Nat} (hm : MDg n m) (ha : a < 2 ^ n) : fpw n m a 2 = fm n m a a := by
  show fm n m (fpw n m a 1) a = _
  rw [fpw_1 hm ha]
theorem fpw_half {n m s : Nat} (hm : MDg n m) (hs : s < 2 ^ n) (l : Nat) : fpw n m s l = if l % 2 = 1 then fm n m s (fpw n m (fm n m s s) (l / 2)) else fpw n m (fm n m s s) (l / 2) := by
  have h1 : fpw n m (fm n m s s) (l / 2) = fpw n m s (2 * (l / 2)) := by rw [fpw_mul hm hs, fpw_2 hm hs]
  rw [h1]
  split
  · rename_i h
    have e : l = 1 + 2 * (l / 2) := by omega
    have : fpw n m s l = fpw n m s (1 + 2 * (l / 2)) := congrArg _ e
    rw [this, fpw_add hm hs, fpw_1 hm hs]
  · rename_i h
    congr 1
    omega
theorem pw_step {n m o s : Nat} (hm : MDg n m) (ho : o < 2 ^ n) (hs : s < 2 ^ n) (l : Nat) : fm n m (if l % 2 = 1 then fm n m o s else o) (fpw n m (fm n m s s) (l / 2)) = fm n m o (fpw n m s l) := by
  rw [fpw_half hm hs l]
  have h2 := fpw_lt hm (fm_lt hm hs hs) (l / 2)
  split
  · exact fm_assoc hm ho hs h2
  · rfl
/-- Horner's way -/
def hrn (n m a p : Nat) : Nat → Nat → Nat
  | 0, o => o
  | k + 1, o => hrn n m a p k (fm n m o a ^^^ (p.testBit k).toNat)
theorem bt_lt {n m : Nat} (hm : MDg n m) (b : Bool) : b.toNat < 2 ^ n := by
  have := one_lt hm
  cases b
  · exact zero_lt2 n
  · exact this
theorem hrn_eq {n m a p : Nat} (hm : MDg n m) (ha : a < 2 ^ n) : ∀ k o, o < 2 ^ n → hrn n m a p k o = fm n m o (fpw n m a k) ^^^ cmb (fpw n m a) k p
  | 0, o, ho => by
    show o = fm n m o 1 ^^^ 0
    rw [fm_1r hm ho, Nat.xor_zero]
  | k + 1, o, ho => by
    have hk := fpw_lt hm ha k
    have hb := bt_lt hm (p.testBit k)
    show hrn n m a p k _ = fm n m o (fm n m (fpw n m a k) a) ^^^ (cmb (fpw n m a) k p ^^^ _)
    rw [hrn_eq hm ha k _ (xor_lt (fm_lt hm ho ha) hb), fm_addl hm (fm_lt hm ho ha) hb hk, fm_assoc hm ho ha hk, fm_comm hm ha hk, Nat.xor_assoc, Nat.xor_comm _ (cmb (fpw n m a) k p)]
    congr 2
    cases p.testBit k
    · rw [if_neg (by decide)]
      exact fm_0l hm hk
    · rw [if_pos rfl]
      exact fm_1l hm hk
/-- what a polynomial comes to at an element -/
def pvl (n m a p : Nat) : Nat := cmb (fpw n m a) p p
theorem cmb_eq {r : Nat → Nat} {k p : Nat} (h : p < 2 ^ k) : cmb r k p = cmb r p p := by
  rcases Nat.le_total k p with q | q
  · obtain ⟨j, rfl⟩ := Nat.le.dest q
    exact (cmb_st h).symm
  · obtain ⟨j, rfl⟩ := Nat.le.dest q
    exact cmb_st (lt_self p)
theorem hrn_0 {n m a p : Nat} (hm : MDg n m) (ha : a < 2 ^ n) {k : Nat} (h : p < 2 ^ k) : hrn n m a p k 0 = pvl n m a p := by
  rw [hrn_eq hm ha k 0 (zero_lt2 n), fm_0l hm (fpw_lt hm ha k), Nat.zero_xor]
  exact cmb_eq h
theorem pvl_lt {n m a p : Nat} (hm : MDg n m) (ha : a < 2 ^ n) : pvl n m a p < 2 ^ n := cmb_lt p (fun i _ => fpw_lt hm ha i)
theorem hrn_lt {n m a p : Nat} (hm : MDg n m) (ha : a < 2 ^ n) : ∀ k o, o < 2 ^ n → hrn n m a p k o < 2 ^ n
  | 0, _, ho => ho
  | k + 1, _, ho => hrn_lt hm ha k _ (xor_lt (fm_lt hm ho ha) (bt_lt hm _))
