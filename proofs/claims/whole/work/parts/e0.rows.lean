/-! CHECK: rows of noughts and ones, names -/
theorem zl_div {a b : Nat} (ha : a < 2 ^ 63) (hb : b < 2 ^ 63) : lN a / lN b = lN (a / b) := by
  have hq : a / b < 2 ^ 63 := Nat.lt_of_le_of_lt (Nat.div_le_self a b) ha
  refine Int64.toInt_inj.mp ?_
  rw [Int64.toInt_div, zl_int ha, zl_int hb, zl_int hq, ← Int.ofNat_tdiv]
  generalize a / b = c at hq ⊢
  exact Int.bmod_eq_of_le (by omega) (by omega)
theorem zl_mns {a b : Nat} (h : b ≤ a) : lN a - lN b = lN (a - b) := by
  have e := zl_add (a - b) b
  rw [Nat.sub_add_cancel h] at e
  rw [← e, Int64.add_sub_cancel]
theorem zl_rem {a b : Nat} (ha : a < 2 ^ 63) (hb : b < 2 ^ 63) : l_rem (lN a) (lN b) = lN (a % b) := by
  unfold l_rem
  rw [zl_div ha hb, zl_mul, zl_mns (Nat.div_mul_le_self a b)]
  have := Nat.div_add_mod a b
  rw [Nat.mul_comm] at this
  exact congrArg lN (by omega)
theorem l2i_s : ∀ d, d < 16 → (lN d).toInt32 = nI d := by decide +kernel
def dg (w i : Nat) : Nat := w / 10 ^ i % 10
def bF (w : Nat) : Nat → Nat
  | 0 => 0
  | i + 1 => bF w i ||| (dg w i <<< i)
def a13 (w : Nat) : Bool := (List.range 13).all (fun l => Nat.ble (dg w l) 1)
theorem a13_iff (w : Nat) : a13 w = true ↔ ∀ l, l < 13 → dg w l ≤ 1 := by
  unfold a13
  rw [List.all_eq_true]
  exact ⟨fun h l hl => Nat.ble_eq.mp (h l (List.mem_range.mpr hl)), fun h l hl => Nat.ble_eq.mpr (h l (List.mem_range.mp hl))⟩
theorem bF_lt {w : Nat} : ∀ i, (∀ l, l < i → dg w l ≤ 1) → bF w i < 2 ^ i := by
  intro i
  induction i with
  | zero => exact fun _ => Nat.one_pos
  | succ i ih =>
    intro h
    have a := ih (fun l hl => h l (by omega))
    have b := h i (by omega)
    have p2 : 2 ^ (i + 1) = 2 ^ i + 2 ^ i := by rw [Nat.pow_succ]; omega
    refine Nat.or_lt_two_pow (by omega) ?_
    rw [Nat.shiftLeft_eq]
    have : dg w i * 2 ^ i ≤ 1 * 2 ^ i := Nat.mul_le_mul_right _ b
    have := Nat.two_pow_pos i
    omega
theorem l_bits {P : PSem} (S : SysOK P) {h : PH} {w : Nat} (hw : w < 2 ^ 63) {K : PK} (hK : K (.int (if a13 w then nI (bF w 13) else -1)) h) : ∀ j i, i + j = 13 → (∀ l, l < i → dg w l ≤ 1) →
    P.2 n_Script_bitsOf 6 [none, none, some (.int (nI (bF w i))), some (.long (lN (w / 10 ^ i))), none, some (.int (nI i)), none] [] h 0 0 K := by
  intro j
  induction j with
  | zero =>
    intro i hi hl
    have e : i = 13 := by omega
    subst e
    have hl : a13 w = true := (a13_iff w).mpr hl
    rw [if_pos hl] at hK
    refine S.at 40 [] rfl ?_
    conv => whnf
    refine bk_t ((zn_le (a := 13) (b := 13) (by omega) (by omega)).mpr (by omega)) ?_
    conv => whnf
    exact hK
  | succ j ih =>
    intro i hi hl
    have hwi : w / 10 ^ i < 2 ^ 63 := Nat.lt_of_le_of_lt (Nat.div_le_self _ _) hw
    have d10 : dg w i < 10 := Nat.mod_lt _ (by decide)
    have er : l_rem (lN (w / 10 ^ i)) 10 = lN (dg w i) := zl_rem (b := 10) hwi (by decide)
    refine S.at 40 [] rfl ?_
    conv => whnf
    refine bk_f (fun c => absurd ((zn_le (a := 13) (by omega) (by omega)).mp c) (by omega)) ?_
    conv => whnf
    refine ⟨(by decide), ?_⟩
    conv => whnf
    rw [er, l2i_s _ (by omega)]
    refine bk_le (b := 1) (by omega) (by omega) (fun c => ?_) (fun c => ?_)
    · conv => whnf
      refine ⟨(by decide), ?_⟩
      have next := ih (i + 1) (by omega) (fun l h2 => by
        rcases Nat.lt_or_ge l i with y | y
        · exact hl l y
        · have e : l = i := by omega
          rw [e]
          exact c)
      have e1 : bF w (i + 1) = bF w i ||| (dg w i <<< i) := rfl
      have b1 := bF_lt (w := w) (i + 1) (fun l h2 => by
        rcases Nat.lt_or_ge l i with y | y
        · exact hl l y
        · have e : l = i := by omega
          rw [e]
          exact c)
      have sh : dg w i <<< i < 2 ^ 32 := by
        rw [Nat.shiftLeft_eq]
        have a1 : dg w i * 2 ^ i ≤ 1 * 2 ^ i := Nat.mul_le_mul_right _ c
        have a2 : 2 ^ i ≤ 2 ^ 12 := Nat.pow_le_pow_right (by decide) (by omega)
        have a3 : 2 ^ 12 < 2 ^ 32 := by decide
        omega
      have e2 : w / 10 ^ (i + 1) = w / 10 ^ i / 10 := by rw [Nat.pow_succ, Nat.div_div_eq_div_mul]
      rw [e1, e2, ← nI_1 i, ← zl_div (b := 10) hwi (by decide), ← zn_or, ← zn_shl (by omega) sh] at next
      conv => whnf
      refine S.mk [(0,0),(0,0),(0,1),(0,1),(0,0),(0,1),(0,0)] ?_
      exact next
    · rw [if_neg (fun y : a13 w = true => absurd ((a13_iff w).mp y i (by omega)) (by omega))] at hK
      conv => whnf
      exact hK
theorem c_Script_bitsOf {P : PSem} (S : SysOK P) {h : PH} {w : Nat} (hw : w < 2 ^ 63) {K : PK} (hK : K (.int (if a13 w then nI (bF w 13) else -1)) h) : P.1 n_Script_bitsOf [.long (lN w)] h K := by
  refine S.2.1 _ 7 _ _ _ rfl rfl ?_
  refine S.at 40 [6] rfl ?_
  conv => whnf
  refine S.mk [(0,0),(0,0),(0,1),(0,1),(0,0),(0,1),(0,0)] ?_
  have st := l_bits S hw hK 13 0 rfl (fun l hl => absurd hl (Nat.not_lt_zero l))
  rw [show w / 10 ^ 0 = w from by rw [Nat.pow_zero, Nat.div_one]] at st
  exact st
/-- binary worth of a run of digits -/
def bcF (tx : Nat → Nat) (q : Nat) : Nat → Nat
  | 0 => 0
  | k + 1 => 2 * bcF tx q k + (tx (q + k) - 48)
def z1 (tx : Nat → Nat) (q k : Nat) : Prop := ∀ i, i < k → tx (q + i) ≤ 49
def z1B (tx : Nat → Nat) (q k : Nat) : Bool := decide (∀ i, i < k → tx (q + i) ≤ 49)
def sRow (tx : Nat → Nat) (q k : Nat) : Int32 := if z1B tx q k then nI (bcF tx q k) else -1
theorem bcF_lt {tx : Nat → Nat} {q : Nat} : ∀ k, z1 tx q k → bcF tx q k < 2 ^ k := by
  intro k
  induction k with
  | zero => exact fun _ => Nat.one_pos
  | succ k ih =>
    intro h
    have a := ih (fun i hi => h i (by omega))
    have b := h k (by omega)
    show 2 * bcF tx q k + (tx (q + k) - 48) < 2 ^ k * 2
    omega
theorem bcF_hd {tx : Nat → Nat} {q : Nat} : ∀ k, bcF tx q (k + 1) = (tx q - 48) * 2 ^ k + bcF tx (q + 1) k := by
  intro k
  induction k with
  | zero =>
    show 2 * 0 + (tx (q + 0) - 48) = (tx q - 48) * 1 + 0
    rw [Nat.add_zero q]
    omega
  | succ k ih =>
    show 2 * bcF tx q (k + 1) + (tx (q + (k + 1)) - 48) = (tx q - 48) * (2 ^ k * 2) + (2 * bcF tx (q + 1) k + (tx (q + 1 + k) - 48))
    rw [ih, show q + (k + 1) = q + 1 + k by omega, Nat.mul_add, ← Nat.mul_assoc (tx q - 48), Nat.mul_comm 2 ((tx q - 48) * 2 ^ k)]
    omega
theorem dcF_div {tx : Nat → Nat} {q k : Nat} (hd : ∀ i, i < k → dgtB (tx (q + i)) = true) : ∀ i, i ≤ k → dcF tx q k / 10 ^ i = dcF tx q (k - i) := by
  intro i
  induction i with
  | zero =>
    intro _
    rw [Nat.pow_zero, Nat.div_one]
    rfl
  | succ i ih =>
    intro hi
    rw [Nat.pow_succ, ← Nat.div_div_eq_div_mul, ih (by omega)]
    obtain ⟨m, hm⟩ : ∃ m, k - i = m + 1 := ⟨k - i - 1, by omega⟩
    have e : k - (i + 1) = m := by omega
    have b := hd m (by omega)
    unfold dgtB at b
    rw [Bool.and_eq_true, Nat.ble_eq, Nat.ble_eq] at b
    rw [hm, e]
    show (10 * dcF tx q m + (tx (q + m) - 48)) / 10 = _
    omega
theorem dg_dc {tx : Nat → Nat} {q k : Nat} (hd : ∀ i, i < k → dgtB (tx (q + i)) = true) (i : Nat) : dg (dcF tx q k) i = if i < k then tx (q + (k - 1 - i)) - 48 else 0 := by
  unfold dg
  split
  · rename_i hi
    rw [dcF_div hd i (by omega)]
    obtain ⟨m, hm⟩ : ∃ m, k - i = m + 1 := ⟨k - i - 1, by omega⟩
    have e : k - 1 - i = m := by omega
    have b := hd m (by omega)
    unfold dgtB at b
    rw [Bool.and_eq_true, Nat.ble_eq, Nat.ble_eq] at b
    rw [hm, e]
    show (10 * dcF tx q m + (tx (q + m) - 48)) % 10 = _
    omega
  · rename_i hi
    have a := dcF_lt k hd
    have b : 10 ^ k ≤ 10 ^ i := Nat.pow_le_pow_right (by decide) (by omega)
    rw [Nat.div_eq_of_lt (by omega)]
theorem a13_z1 {tx : Nat → Nat} {q k : Nat} (hk : k ≤ 13) (hd : ∀ i, i < k → dgtB (tx (q + i)) = true) : a13 (dcF tx q k) = true ↔ z1 tx q k := by
  constructor
  · intro h i hi
    have := (a13_iff _).mp h (k - 1 - i) (by omega)
    rw [dg_dc hd, if_pos (by omega), show k - 1 - (k - 1 - i) = i by omega] at this
    omega
  · intro h
    refine (a13_iff _).mpr (fun l hl => ?_)
    rw [dg_dc hd]
    split
    · have := h (k - 1 - l) (by omega)
      omega
    · omega
theorem bF_bc {tx : Nat → Nat} {q k : Nat} (hd : ∀ i, i < k → dgtB (tx (q + i)) = true) (hz : z1 tx q k) : ∀ i, bF (dcF tx q k) i = bcF tx (q + (k - min i k)) (min i k) := by
  intro i
  induction i with
  | zero =>
    rw [Nat.zero_min]
    rfl
  | succ i ih =>
    show bF (dcF tx q k) i ||| (dg (dcF tx q k) i <<< i) = _
    rw [ih, dg_dc hd]
    rcases Nat.lt_or_ge i k with w | w
    · have z : z1 tx (q + (k - i)) i := fun l hl => by
        have := hz (k - i + l) (by omega)
        rw [← Nat.add_assoc] at this
        exact this
      have lt := bcF_lt i z
      rw [if_pos w, Nat.min_eq_left (by omega), Nat.min_eq_left (by omega), Nat.or_comm, Nat.shiftLeft_eq, Nat.mul_comm, ← Nat.two_pow_add_eq_or_of_lt lt, bcF_hd i, show q + (k - (i + 1)) = q + (k - 1 - i) by omega, show q + (k - 1 - i) + 1 = q + (k - i) by omega, Nat.mul_comm]
    · rw [if_neg (by omega), Nat.zero_shiftLeft, Nat.or_zero, Nat.min_eq_right w, Nat.min_eq_right (by omega)]
theorem bits_row {tx : Nat → Nat} {q k : Nat} (hk : k ≤ 13) (hd : ∀ i, i < k → dgtB (tx (q + i)) = true) : (if a13 (dcF tx q k) then nI (bF (dcF tx q k) 13) else -1) = sRow tx q k := by
  unfold sRow
  by_cases h : z1 tx q k
  · have hb : z1B tx q k = true := decide_eq_true h
    rw [if_pos hb, if_pos ((a13_z1 hk hd).mpr h), bF_bc hd h, Nat.min_eq_right hk, Nat.sub_self, Nat.add_zero]
  · rw [if_neg (fun y : z1B tx q k = true => h (show ∀ i, i < k → tx (q + i) ≤ 49 from of_decide_eq_true y)), if_neg (fun y => h ((a13_z1 hk hd).mp y))]
theorem l_M_rowAt {P : PSem} (S : SysOK P) {h : PH} (hw : WS h) {tx : Nat → Nat} {L e q : Nat} (hT : TX h tx L) (hB : TXB tx) (hM : L ≤ 2000) (hq : q ≤ e) (he1 : e ≤ L) (h13 : e - q ≤ 13) (he2 : e < L → dgtB (tx e) = false) (hlt : ∀ l, q ≤ l → l < e → dgtB (tx l) = true) {K : PK}
    (hK : K (.int (sRow tx q (e - q))) h) : ∀ j k, q + k + j = e → z1 tx q k → P.2 n_M_rowAt 7 [some (.ref 116), none, some (.int (nI (bcF tx q k))), some (.int (nI (q + k)))] [] h 0 0 K := by
  intro j
  induction j with
  | zero =>
    intro k hk hz
    have e1 : k = e - q := by omega
    subst e1
    have hb : z1B tx q (e - q) = true := decide_eq_true hz
    unfold sRow at hK
    rw [if_pos hb] at hK
    have e2 : q + (e - q) = e := by omega
    rw [e2]
    refine S.at 40 [] rfl ?_
    conv => whnf
    refine ⟨wt_116 hw, ?_⟩
    refine c_M_byteAt S hw hT hB hM (by omega) ?_
    conv => whnf
    refine c_M_isDigit' S (by have := bt_b (L := L) (p := e) hB; omega) ?_
    conv => whnf
    rw [bt_d he2]
    refine bk_t (rfl) ?_
    conv => whnf
    exact hK
  | succ j ih =>
    intro k hk hz
    have hlk := hlt (q + k) (by omega) (by omega)
    have tb := hB (q + k)
    refine S.at 40 [] rfl ?_
    conv => whnf
    refine ⟨wt_116 hw, ?_⟩
    refine c_M_byteAt S hw hT hB hM (by omega) ?_
    conv => whnf
    rw [bt_in (show q + k < L by omega)]
    refine c_M_isDigit' S (by omega) ?_
    conv => whnf
    rw [hlk]
    unfold dgtB at hlk
    rw [Bool.and_eq_true, Nat.ble_eq, Nat.ble_eq] at hlk
    refine bk_f ((by decide)) ?_
    conv => whnf
    refine ⟨wt_116 hw, ?_⟩
    refine c_M_byteAt S hw hT hB hM (by omega) ?_
    conv => whnf
    rw [bt_in (show q + k < L by omega)]
    refine bk_le (b := 49) (by omega) (by omega) (fun c => ?_) (fun c => ?_)
    · have hz' : z1 tx q (k + 1) := fun i hi => by
        rcases Nat.lt_or_ge i k with w | w
        · exact hz i w
        · have e : i = k := by omega
          rw [e]
          exact c
      have next := ih (k + 1) (by omega) hz'
      rw [show q + (k + 1) = q + k + 1 by omega, ← nI_1 (q + k)] at next
      have bb := bcF_lt k hz
      conv => whnf
      refine ⟨wt_116 hw, ?_⟩
      refine c_M_byteAt S hw hT hB hM (by omega) ?_
      conv => whnf
      rw [bt_in (show q + k < L by omega)]
      refine S.mk [(0,1),(0,0),(0,1),(0,1)] ?_
      refine p2c ?_ next
      refine congrArg (fun z => [some (Value.ref 116), none, some (.int z), some (.int (nI (q + k) + 1))]) ?_
      show nI 2 * nI (bcF tx q k) + nI (tx (q + k)) - nI 48 = nI (2 * bcF tx q k + (tx (q + k) - 48))
      rw [← zn_tms, ← zn_plus, zn_mns (by omega), Nat.add_sub_assoc hlk.1]
    · have hb : ¬ z1B tx q (e - q) = true := fun y => by
        have := (show ∀ i, i < e - q → tx (q + i) ≤ 49 from of_decide_eq_true y) k (by omega)
        omega
      unfold sRow at hK
      rw [if_neg hb] at hK
      conv => whnf
      exact hK
theorem c_M_rowAt {P : PSem} (S : SysOK P) {h : PH} (hw : WS h) {tx : Nat → Nat} {L i : Nat} (hT : TX h tx L) (hB : TXB tx) (hM : L ≤ 2000) (hi : i < 403) (ht : hI h 120 i = nI (tkS tx L i)) (hk : tkk tx L i = 5) {K : PK}
    (hK : K (.int (sRow tx (tkS tx L i) (rwE tx L (tkS tx L i) - tkS tx L i))) h) : P.1 n_M_rowAt [.ref 116, .int (nI i)] h K := by
  have hq := tkS_le (tx := tx) hM i
  obtain ⟨r1, r2, r3, r4⟩ := run_ok (f := fun q => dgtB (tx q)) hq hM
  have r1 : tkS tx L i ≤ rwE tx L (tkS tx L i) := r1
  have h13 : rwE tx L (tkS tx L i) - tkS tx L i ≤ 13 := by
    unfold tkk tkK at hk
    split at hk
    · omega
    · split at hk
      · split at hk
        · omega
        · unfold wdK at hk
          repeat' split at hk
          all_goals omega
      · split at hk
        · split at hk
          · omega
          · omega
        · unfold sgK at hk
          repeat' split at hk
          all_goals omega
  refine S.2.1 _ 4 _ _ _ rfl rfl ?_
  refine S.at 40 [7] rfl ?_
  conv => whnf
  refine ⟨wt_116 hw, ?_⟩
  conv => whnf
  rw [wr_116_6 hw]
  refine ⟨inB_of (wt_120 hw) (wn_120 hw) hi (by decide), ?_⟩
  conv => whnf
  rw [nI_clamp (by omega), ht]
  refine S.mk [(0,1),(0,0),(0,1),(0,1)] ?_
  exact l_M_rowAt S hw hT hB hM r1 r2 h13 r3 (fun l h1 h2 => (r4 l h1 h2).2) hK (rwE tx L (tkS tx L i) - tkS tx L i) 0 (Nat.add_sub_cancel' r1) (fun i hi => absurd hi (Nat.not_lt_zero i))
