/-! NUMBERS: Int32 as Nat -/
theorem zz_sl : ∀ n, n < 32 → ((nI n &&& 31).toBitVec.smod 32).toNat = n := by decide +kernel
theorem zn_and (a b : Nat) : nI a &&& nI b = nI (a &&& b) := by
  apply Int32.toBitVec_inj.1
  show BitVec.ofNat 32 a &&& BitVec.ofNat 32 b = BitVec.ofNat 32 (a &&& b)
  apply BitVec.eq_of_getLsbD_eq
  intro i hi
  simp [hi]
theorem zn_or (a b : Nat) : nI a ||| nI b = nI (a ||| b) := by
  apply Int32.toBitVec_inj.1
  show BitVec.ofNat 32 a ||| BitVec.ofNat 32 b = BitVec.ofNat 32 (a ||| b)
  apply BitVec.eq_of_getLsbD_eq
  intro i hi
  simp [hi]
theorem zn_xor (a b : Nat) : nI a ^^^ nI b = nI (a ^^^ b) := by
  apply Int32.toBitVec_inj.1
  show BitVec.ofNat 32 a ^^^ BitVec.ofNat 32 b = BitVec.ofNat 32 (a ^^^ b)
  apply BitVec.eq_of_getLsbD_eq
  intro i hi
  simp [hi]
theorem zn_shl {a k : Nat} (hk : k < 32) (h : a <<< k < 2 ^ 32) : i_shl (nI a) (nI k) = nI (a <<< k) := by
  rw [Nat.shiftLeft_eq] at h ⊢
  exact pk_shlN (nI k &&& 31) k (zz_sl k hk) h
theorem zn_shr {a k : Nat} (ha : a < 2 ^ 31) (hk : k < 32) : i_shr (nI a) (nI k) = nI (a >>> k) := by
  rw [Nat.shiftRight_eq_div_pow]
  exact pk_shrN ha (nI k &&& 31) k (zz_sl k hk)
theorem tb_div (a k : Nat) : (a >>> k) % 2 = (a.testBit k).toNat := by
  rw [Nat.toNat_testBit, Nat.shiftRight_eq_div_pow]
theorem zn_bit {a k : Nat} (ha : a < 2 ^ 31) (hk : k < 32) : i_shr (nI a) (nI k) &&& 1 = nI (a.testBit k).toNat := by
  rw [zn_shr ha hk, ← tb_div]
  show nI (a >>> k) &&& nI 1 = _
  rw [zn_and, show (1 : Nat) = 2 ^ 1 - 1 from rfl, Nat.and_two_pow_sub_one_eq_mod]
theorem zn_bit1 {a k : Nat} (ha : a < 2 ^ 31) (hk : k < 32) : (i_shr (nI a) (nI k) &&& 1 = 1) ↔ a.testBit k = true := by
  rw [zn_bit ha hk]
  cases a.testBit k
  · exact ⟨fun h => absurd h (by decide), fun h => by cases h⟩
  · exact ⟨fun _ => rfl, fun _ => rfl⟩
theorem zn_bit0 {a k : Nat} (ha : a < 2 ^ 31) (hk : k < 32) : (i_shr (nI a) (nI k) &&& 1 = 0) ↔ a.testBit k = false := by
  rw [zn_bit ha hk]
  cases a.testBit k
  · exact ⟨fun _ => rfl, fun _ => rfl⟩
  · exact ⟨fun h => absurd h (by decide), fun h => by cases h⟩
theorem zn_lt {a b : Nat} (ha : a < 2 ^ 31) (hb : b < 2 ^ 31) : nI a < nI b ↔ a < b := nI_ltI ha hb
theorem zn_le {a b : Nat} (ha : a < 2 ^ 31) (hb : b < 2 ^ 31) : nI a ≤ nI b ↔ a ≤ b := nI_leI ha hb
theorem zn_eq {a b : Nat} (ha : a < 2 ^ 31) (hb : b < 2 ^ 31) : nI a = nI b ↔ a = b := nI_eq ha hb
/-- a method by its entry -/
theorem SysOK.go {P : PSem} (S : SysOK P) {i n : Nat} {q : List Ent × Nat × Nat} {as : List Value} {h : PH} {K : PK} (f : Nat) (hq : progs[i]? = some q) (hn : mxl[i]? = some n) (hc : Nat.ble (ctg as) n = true) (hw : wp P i q.2.1 q.2.2 q.1 [] K f (q.1.drop 0) (entL as n) [] h 0 0) : P.1 i as h K :=
  S.2.1 i n as h K hn hc (S.1 i 0 q [] f _ _ _ _ _ _ hq hw)
/-- a place -/
theorem SysOK.at {P : PSem} (S : SysOK P) {i ix : Nat} {q : List Ent × Nat × Nat} {pl : PL} {st : List Value} {h : PH} {ca sl : Nat} {K : PK} (f : Nat) (stops : List Nat) (hq : progs[i]? = some q) (hw : wp P i q.2.1 q.2.2 q.1 stops K f (q.1.drop ix) pl st h ca sl) : P.2 i ix pl st h ca sl K :=
  S.1 i ix q stops f _ _ _ _ _ _ hq hw
/-! branches over numbers -/
theorem bk_le {a b : Nat} {J N : Prop} (ha : a < 2 ^ 31) (hb : b < 2 ^ 31) (h1 : a ≤ b → J) (h2 : b < a → N) : (nI a ≤ nI b → J) ∧ (¬ nI a ≤ nI b → N) :=
  ⟨fun c => h1 ((zn_le ha hb).mp c), fun c => h2 (Nat.lt_of_not_le (fun q => c ((zn_le ha hb).mpr q)))⟩
theorem bk_lt {a b : Nat} {J N : Prop} (ha : a < 2 ^ 31) (hb : b < 2 ^ 31) (h1 : a < b → J) (h2 : b ≤ a → N) : (nI a < nI b → J) ∧ (¬ nI a < nI b → N) :=
  ⟨fun c => h1 ((zn_lt ha hb).mp c), fun c => h2 (Nat.le_of_not_lt (fun q => c ((zn_lt ha hb).mpr q)))⟩
theorem bk_eq {a b : Nat} {J N : Prop} (ha : a < 2 ^ 31) (hb : b < 2 ^ 31) (h1 : a = b → J) (h2 : a ≠ b → N) : (nI a = nI b → J) ∧ (¬ nI a = nI b → N) :=
  ⟨fun c => h1 ((zn_eq ha hb).mp c), fun c => h2 (fun q => c ((zn_eq ha hb).mpr q))⟩
theorem bk_ne {a b : Nat} {J N : Prop} (ha : a < 2 ^ 31) (hb : b < 2 ^ 31) (h1 : a ≠ b → J) (h2 : a = b → N) : (¬ nI a = nI b → J) ∧ (nI a = nI b → N) :=
  ⟨fun c => h1 (fun q => c ((zn_eq ha hb).mpr q)), fun c => h2 ((zn_eq ha hb).mp c)⟩
theorem bk_t {c J N : Prop} (hc : c) (h : J) : (c → J) ∧ (¬ c → N) := ⟨fun _ => h, fun q => absurd hc q⟩
theorem bk_f {c J N : Prop} (hc : ¬ c) (h : N) : (c → J) ∧ (¬ c → N) := ⟨fun q => absurd q hc, fun _ => h⟩
theorem bk_nt {c J N : Prop} (hc : ¬ c) (h : J) : (¬ c → J) ∧ (c → N) := ⟨fun _ => h, fun q => absurd q hc⟩
theorem bk_nf {c J N : Prop} (hc : c) (h : N) : (¬ c → J) ∧ (c → N) := ⟨fun q => absurd hc q, fun _ => h⟩
def bI (b : Bool) : Int32 := nI b.toNat
theorem bI_01 (b : Bool) : bI b = 0 ∨ bI b = 1 := by cases b; exact Or.inl rfl; exact Or.inr rfl
theorem bI_eq0 (b : Bool) : bI b = 0 ↔ b = false := by cases b <;> decide
theorem bI_ne0 (b : Bool) : ¬ bI b = 0 ↔ b = true := by cases b <;> decide
theorem bk_b0 {b : Bool} {J N : Prop} (h1 : b = false → J) (h2 : b = true → N) : (bI b = 0 → J) ∧ (¬ bI b = 0 → N) := ⟨fun c => h1 ((bI_eq0 b).mp c), fun c => h2 ((bI_ne0 b).mp c)⟩
theorem bk_b1 {b : Bool} {J N : Prop} (h1 : b = true → J) (h2 : b = false → N) : (¬ bI b = 0 → J) ∧ (bI b = 0 → N) := ⟨fun c => h1 ((bI_ne0 b).mp c), fun c => h2 ((bI_eq0 b).mp c)⟩
