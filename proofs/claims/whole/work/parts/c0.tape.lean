/-! BYTES AND THE TAPE -/
/-- the signed byte of a code -/
def sb (n : Nat) : Int32 := (nI n).toInt8.toInt32
theorem sb_ck : ab (fun n => (Nat.ble 128 n || sb n == nI n) && (Nat.blt n 128 || decide (sb n < 0)) && (sb n &&& 255 == nI n)) 8 0 = true := by decide +kernel
theorem sb_all {n : Nat} (h : n < 256) : (n < 128 → sb n = nI n) ∧ (128 ≤ n → sb n < 0) ∧ sb n &&& 255 = nI n := by
  have := ab_iff 8 0 sb_ck n (by omega) (by have : (2 : Nat) ^ 8 = 256 := rfl; omega)
  rw [Bool.and_eq_true, Bool.and_eq_true, Bool.or_eq_true, Bool.or_eq_true, Nat.ble_eq, blt_iff, beq_iff_eq, beq_iff_eq, decide_eq_true_iff] at this
  obtain ⟨⟨a, b⟩, c⟩ := this
  refine ⟨fun w => ?_, fun w => ?_, c⟩
  · rcases a with a | a
    · omega
    · exact a
  · rcases b with b | b
    · omega
    · exact b
theorem i8_low (x : Int32) : (x &&& 255).toInt8 = x.toInt8 := by
  apply Int8.toBitVec_inj.1
  show (x.toBitVec &&& 255#32).signExtend 8 = x.toBitVec.signExtend 8
  apply BitVec.eq_of_getLsbD_eq
  intro i hi
  rw [BitVec.getLsbD_signExtend, BitVec.getLsbD_signExtend]
  have h32 : i < 32 := by omega
  simp only [hi, h32, decide_true, Bool.true_and, if_true, BitVec.getLsbD_and]
  have : (255#32).getLsbD i = true := by
    rcases (show i = 0 ∨ i = 1 ∨ i = 2 ∨ i = 3 ∨ i = 4 ∨ i = 5 ∨ i = 6 ∨ i = 7 by omega) with rfl | rfl | rfl | rfl | rfl | rfl | rfl | rfl <;> rfl
  rw [this, Bool.and_true]
theorem and255 (x : Int32) : ∃ n : Nat, n < 256 ∧ x &&& 255 = nI n := by
  have h : (x &&& 255).toBitVec.toNat < 256 := by
    show (x.toBitVec &&& 255#32).toNat < 256
    rw [BitVec.toNat_and]
    exact Nat.lt_of_le_of_lt Nat.and_le_right (by decide)
  refine ⟨(x &&& 255).toBitVec.toNat, h, ?_⟩
  apply Int32.toBitVec_inj.1
  apply BitVec.eq_of_toNat_eq
  show _ = (BitVec.ofNat 32 _).toNat
  rw [BitVec.toNat_ofNat, Nat.mod_eq_of_lt (by omega)]
/-- the code of the byte of a word at a place -/
def byt (w s : Int32) : Nat := (i_shr w s &&& 255).toNatClampNeg
theorem byt_ok (w s : Int32) : byt w s < 256 ∧ (i_shr w s).toInt8.toInt32 = sb (byt w s) := by
  obtain ⟨n, h1, h2⟩ := and255 (i_shr w s)
  unfold byt sb
  rw [h2, nI_clamp (by omega), ← h2, i8_low]
  exact ⟨h1, rfl⟩
theorem sb_nr (n : Nat) : nrB 21 (sb n) = sb n := by
  show (sb n).toInt8.toInt32 = sb n
  unfold sb
  rw [Int8.toInt8_toInt32]
/-- the tape of the class: cells 6, 7 -/
def TC (h : PH) (tx : Nat → Nat) (L : Nat) : Prop := hI h 6 1 = nI L ∧ (∀ i, i < L → hI h 7 i = sb (tx i))
def TM (h : PH) (tx : Nat → Nat) (L : Nat) : Prop := hI h 116 2 = nI L ∧ (∀ i, i < L → hI h 117 i = sb (tx i))
def TXB (tx : Nat → Nat) : Prop := ∀ i, tx i < 256
/-- four bytes more -/
def tx4 (tx : Nat → Nat) (L : Nat) (w : Int32) : Nat → Nat := fun i => if i = L then byt w 24 else if i = L + 1 then byt w 16 else if i = L + 2 then byt w 8 else if i = L + 3 then byt w 0 else tx i
theorem tx4_B {tx : Nat → Nat} (h : TXB tx) (L : Nat) (w : Int32) : TXB (tx4 tx L w) := fun i => by
  unfold tx4
  split
  · exact (byt_ok _ _).1
  · split
    · exact (byt_ok _ _).1
    · split
      · exact (byt_ok _ _).1
      · split
        · exact (byt_ok _ _).1
        · exact h i
def tpA (k : Nat) : Prop := k = 6 ∨ k = 7
/-- only the length, of the tape's cell, changes -/
def TPF (h h' : PH) : Prop := eqX tpA h h' ∧ ∀ j, j ≠ 1 → hI h' 6 j = hI h 6 j
theorem TPF_rf (h : PH) : TPF h h := ⟨eqX_rf _ _, fun _ _ => rfl⟩
theorem TPF_tr {a b c : PH} (x : TPF a b) (y : TPF b c) : TPF a c := ⟨eqX_tr x.1 y.1, fun j hj => (y.2 j hj).trans (x.2 j hj)⟩
theorem tape_step {h : PH} {L : Nat} {v : Int32} : TPF h (sI (sI h 7 L v) 6 1 (nI (L + 1))) := ⟨eqX_tr (eqX_sI (Or.inr rfl)) (eqX_sI (Or.inl rfl)), fun j hj => by rw [hI_sI_j hj, hI_sI_ne (by decide : 6 ≠ 7)]⟩
theorem l_Tape_append1 {P : PSem} (S : SysOK P) {h : PH} (hw : WS h) {L : Nat} {w s : Int32} (hl : hI h 6 1 = nI L) (hL : L < 2000) (hs : ¬ s < 0) {K : PK} (hK : P.2 n_Tape_append 2 [some (.ref 6), some (.int w), some (.int (s + (-8)))] [] (sI (sI h 7 L (sb (byt w s))) 6 1 (nI (L + 1))) 0 0 K) :
    P.2 n_Tape_append 2 [some (.ref 6), some (.int w), some (.int s)] [] h 0 0 K := by
  refine S.at 60 [] rfl ?_
  conv => whnf
  refine bk_f (hs) ?_
  conv => whnf
  refine ⟨wt_6 hw, ?_⟩
  conv => whnf
  rw [hl]
  refine bk_f (fun c => absurd ((zn_le (a := 2000) (by omega) (by omega)).mp c) (by omega)) ?_
  conv => whnf
  refine ⟨wt_6 hw, ?_⟩
  conv => whnf
  rw [wr_6_0 hw]
  refine ⟨wt_6 hw, ?_⟩
  conv => whnf
  try rw [hl]
  refine ⟨Or.inl (inB_of (wt_7 hw) (wn_7 hw) hL (by decide)), ?_⟩
  rw [nI_clamp (by omega), wt_7 hw, (byt_ok w s).2, sb_nr]
  conv => whnf
  refine ⟨wt_6 hw, ?_⟩
  conv => whnf
  rw [hI_sI_ne (by decide : 6 ≠ 7), hl]
  refine ⟨wt_6 hw, ?_⟩
  conv => whnf
  rw [← nI_1] at hK
  exact hK
theorem c_Tape_append {P : PSem} (S : SysOK P) {h : PH} (hw : WS h) {tx : Nat → Nat} {L : Nat} {w : Int32} (hT : TC h tx L) (hL : L + 4 ≤ 2000) {K : PK} (hK : ∀ h', TPF h h' → TC h' (tx4 tx L w) (L + 4) → K .null h') : P.1 n_Tape_append [.ref 6, .int w] h K := by
  refine S.2.1 _ 3 _ _ _ rfl rfl ?_
  refine S.at 2 [] rfl ?_
  conv => whnf
  have w1 : ∀ {h : PH} {L : Nat} {v : Int32}, hI (sI (sI h 7 L v) 6 1 (nI (L + 1))) 6 1 = nI (L + 1) := hI_sI
  refine l_Tape_append1 S hw (s := 24) hT.1 (by omega) (by decide) ?_
  refine l_Tape_append1 S (h := sI (sI h 7 L _) 6 1 _) hw (s := 24 + (-8)) w1 (by omega) (by decide) ?_
  refine l_Tape_append1 S (h := sI (sI (sI (sI h 7 L _) 6 1 _) 7 (L + 1) _) 6 1 _) hw (s := 24 + (-8) + (-8)) w1 (by omega) (by decide) ?_
  refine l_Tape_append1 S (h := sI (sI (sI (sI (sI (sI h 7 L _) 6 1 _) 7 (L + 1) _) 6 1 _) 7 (L + 1 + 1) _) 6 1 _) hw (s := 24 + (-8) + (-8) + (-8)) w1 (by omega) (by decide) ?_
  refine S.at 20 [] rfl ?_
  conv => whnf
  refine bk_t ((by decide)) ?_
  conv => whnf
  refine hK _ (TPF_tr (TPF_tr (TPF_tr tape_step tape_step) tape_step) tape_step) ⟨hI_sI, fun i hi => ?_⟩
  unfold tx4
  rw [hI_sI_ne (by decide : 7 ≠ 6)]
  by_cases e3 : i = L + 3
  · subst e3
    rw [if_neg (by omega), if_neg (by omega), if_neg (by omega), if_pos rfl]
    exact hI_sI
  rw [hI_sI_j (by omega), hI_sI_ne (by decide : 7 ≠ 6)]
  by_cases e2 : i = L + 2
  · subst e2
    rw [if_neg (by omega), if_neg (by omega), if_pos rfl]
    exact hI_sI
  rw [hI_sI_j (by omega), hI_sI_ne (by decide : 7 ≠ 6)]
  by_cases e1 : i = L + 1
  · subst e1
    rw [if_neg (by omega), if_pos rfl]
    exact hI_sI
  rw [hI_sI_j (by omega), hI_sI_ne (by decide : 7 ≠ 6)]
  by_cases e0 : i = L
  · subst e0
    rw [if_pos rfl]
    exact hI_sI
  rw [hI_sI_j (by omega), if_neg (by omega), if_neg (by omega), if_neg (by omega), if_neg (by omega)]
  exact hT.2 i (by omega)
def tx20 (tx : Nat → Nat) (L : Nat) (a b c d e : Int32) : Nat → Nat := tx4 (tx4 (tx4 (tx4 (tx4 tx L a) (L + 4) b) (L + 4 + 4) c) (L + 4 + 4 + 4) d) (L + 4 + 4 + 4 + 4) e
theorem c_FT_feed {P : PSem} (S : SysOK P) {h : PH} (hw : WS h) {tx : Nat → Nat} {L : Nat} {a b c d e : Int32} (hT : TC h tx L) (hL : L ≤ 2000) {K : PK} (hY : L + 20 ≤ 2000 → ∀ h', TPF h h' → TC h' (tx20 tx L a b c d e) (L + 20) → K (.int (nI (L + 20))) h') (hN : 2000 < L + 20 → K (.int (-1)) h) : P.1 n_FT_feed [.ref 5, .int a, .int b, .int c, .int d, .int e] h K := by
  refine S.go 80 rfl rfl rfl ?_
  conv => whnf
  refine ⟨wt_5 hw, ?_⟩
  conv => whnf
  rw [wr_5_0 hw]
  refine ⟨wt_6 hw, ?_⟩
  conv => whnf
  rw [hT.1]
  have e20 : (fun x y : Int32 => x + y) (nI L) 20 = nI (L + 20) := (zn_plus L 20).symm
  rw [e20]
  refine bk_le (b := 2000) (by omega) (by decide) (fun c1 => ?_) (fun c1 => ?_)
  · conv => whnf
    refine ⟨wt_5 hw, ?_⟩
    conv => whnf
    rw [wr_5_0 hw]
    refine ⟨wt_6 hw, ?_⟩
    conv => whnf
    refine c_Tape_append S hw hT (by omega) (fun h1 a1 t1 => ?_)
    have hw1 := eqX_WS a1.1 hw
    conv => whnf
    refine ⟨wt_5 hw1, ?_⟩
    conv => whnf
    rw [wr_5_0 hw1]
    refine ⟨wt_6 hw1, ?_⟩
    conv => whnf
    refine c_Tape_append S hw1 t1 (by omega) (fun h2 a2 t2 => ?_)
    have hw2 := eqX_WS a2.1 hw1
    conv => whnf
    refine ⟨wt_5 hw2, ?_⟩
    conv => whnf
    rw [wr_5_0 hw2]
    refine ⟨wt_6 hw2, ?_⟩
    conv => whnf
    refine c_Tape_append S hw2 t2 (by omega) (fun h3 a3 t3 => ?_)
    have hw3 := eqX_WS a3.1 hw2
    conv => whnf
    refine ⟨wt_5 hw3, ?_⟩
    conv => whnf
    rw [wr_5_0 hw3]
    refine ⟨wt_6 hw3, ?_⟩
    conv => whnf
    refine c_Tape_append S hw3 t3 (by omega) (fun h4 a4 t4 => ?_)
    have hw4 := eqX_WS a4.1 hw3
    conv => whnf
    refine ⟨wt_5 hw4, ?_⟩
    conv => whnf
    rw [wr_5_0 hw4]
    refine ⟨wt_6 hw4, ?_⟩
    conv => whnf
    refine c_Tape_append S hw4 t4 (by omega) (fun h5 a5 t5 => ?_)
    have hw5 := eqX_WS a5.1 hw4
    conv => whnf
    refine ⟨wt_5 hw5, ?_⟩
    conv => whnf
    rw [wr_5_0 hw5]
    refine ⟨wt_6 hw5, ?_⟩
    conv => whnf
    rw [t5.1]
    exact hY c1 h5 (TPF_tr (TPF_tr (TPF_tr (TPF_tr a1 a2) a3) a4) a5) t5
  · conv => whnf
    exact hN c1
theorem c_FT_back {P : PSem} (S : SysOK P) {h : PH} (hw : WS h) {tx : Nat → Nat} {L : Nat} {n : Int32} (hT : TC h tx L) (hL : L ≤ 2000) {K : PK} (hY : ∀ k, n = nI k → k ≤ L → ∀ h', TPF h h' → TC h' tx (L - k) → K (.int (nI (L - k))) h') (hN : (n < 0 ∨ nI L < n) → K (.int (-1)) h) : P.1 n_FT_back [.ref 5, .int n] h K := by
  refine S.go 60 rfl rfl rfl ?_
  conv => whnf
  refine ⟨fun c => ?_, fun c => ?_⟩
  · conv => whnf
    exact hN (Or.inl c)
  · conv => whnf
    refine ⟨wt_5 hw, ?_⟩
    conv => whnf
    rw [wr_5_0 hw]
    refine ⟨wt_6 hw, ?_⟩
    conv => whnf
    rw [hT.1]
    refine ⟨fun c1 => ?_, fun c1 => ?_⟩
    · obtain ⟨k, rfl, hk⟩ := i32_nat (Int32.not_lt.mp c)
      have c2 := (zn_le hk (by omega)).mp c1
      conv => whnf
      refine ⟨wt_5 hw, ?_⟩
      conv => whnf
      rw [wr_5_0 hw]
      refine ⟨wt_6 hw, ?_⟩
      conv => whnf
      rw [hT.1]
      refine ⟨wt_6 hw, ?_⟩
      conv => whnf
      refine ⟨wt_5 hw, ?_⟩
      conv => whnf
      rw [hR_sI, wr_5_0 hw]
      refine ⟨wt_6 hw, ?_⟩
      conv => whnf
      have e : nI L - nI k = nI (L - k) := pk_sub c2
      have e2 : hI (sI h 6 1 (nI L - nI k)) 6 1 = nI (L - k) := by rw [hI_sI, e]
      have e3 : hI (sI h 6 1 ((fun x y : Int32 => x - y) (nI L) (nI k))) 6 1 = nI (L - k) := e2
      rw [e3]
      refine hY k rfl c2 _ ⟨eqX_sI (Or.inl rfl), fun j hj => hI_sI_j hj⟩ ⟨e2, fun i hi => ?_⟩
      rw [hI_sI_ne (by decide : 7 ≠ 6)]
      exact hT.2 i (by omega)
    · conv => whnf
      exact hN (Or.inr (Int32.not_le.mp c1))
/-! the reference's tape -/
def MPF (h h' : PH) : Prop := eqX (fun k => k = 116 ∨ k = 117) h h' ∧ ∀ j, j ≠ 2 → hI h' 116 j = hI h 116 j
theorem MPF_rf (h : PH) : MPF h h := ⟨eqX_rf _ _, fun _ _ => rfl⟩
theorem MPF_tr {a b c : PH} (x : MPF a b) (y : MPF b c) : MPF a c := ⟨eqX_tr x.1 y.1, fun j hj => (y.2 j hj).trans (x.2 j hj)⟩
theorem mtape_step {h : PH} {L : Nat} {v : Int32} : MPF h (sI (sI h 117 L v) 116 2 (nI (L + 1))) := ⟨eqX_tr (eqX_sI (Or.inr rfl)) (eqX_sI (Or.inl rfl)), fun j hj => by rw [hI_sI_j hj, hI_sI_ne (by decide : 116 ≠ 117)]⟩
theorem l_M_lays1 {P : PSem} (S : SysOK P) {h : PH} (hw : WS h) {L : Nat} {w s : Int32} (hl : hI h 116 2 = nI L) (hL : L < 2000) (hs : ¬ s < 0) {K : PK} (hK : P.2 n_M_lays 2 [some (.ref 116), some (.int w), some (.int (s + (-8)))] [] (sI (sI h 117 L (sb (byt w s))) 116 2 (nI (L + 1))) 0 0 K) :
    P.2 n_M_lays 2 [some (.ref 116), some (.int w), some (.int s)] [] h 0 0 K := by
  refine S.at 60 [] rfl ?_
  conv => whnf
  refine bk_f (hs) ?_
  conv => whnf
  refine ⟨wt_116 hw, ?_⟩
  conv => whnf
  rw [wr_116_1 hw]
  refine ⟨wt_116 hw, ?_⟩
  conv => whnf
  rw [hl]
  refine ⟨Or.inl (inB_of (wt_117 hw) (wn_117 hw) hL (by decide)), ?_⟩
  rw [nI_clamp (by omega), wt_117 hw, (byt_ok w s).2, sb_nr]
  conv => whnf
  refine ⟨wt_116 hw, ?_⟩
  conv => whnf
  rw [hI_sI_ne (by decide : 116 ≠ 117), hl]
  refine ⟨wt_116 hw, ?_⟩
  conv => whnf
  rw [← nI_1] at hK
  exact hK
theorem c_M_lays {P : PSem} (S : SysOK P) {h : PH} (hw : WS h) {tx : Nat → Nat} {L : Nat} {w : Int32} (hT : TM h tx L) (hL : L + 4 ≤ 2000) {K : PK} (hK : ∀ h', MPF h h' → TM h' (tx4 tx L w) (L + 4) → K .null h') : P.1 n_M_lays [.ref 116, .int w] h K := by
  refine S.2.1 _ 3 _ _ _ rfl rfl ?_
  refine S.at 2 [] rfl ?_
  conv => whnf
  have w1 : ∀ {h : PH} {L : Nat} {v : Int32}, hI (sI (sI h 117 L v) 116 2 (nI (L + 1))) 116 2 = nI (L + 1) := hI_sI
  refine l_M_lays1 S hw (s := 24) hT.1 (by omega) (by decide) ?_
  refine l_M_lays1 S (h := sI (sI h 117 L _) 116 2 _) hw (s := 24 + (-8)) w1 (by omega) (by decide) ?_
  refine l_M_lays1 S (h := sI (sI (sI (sI h 117 L _) 116 2 _) 117 (L + 1) _) 116 2 _) hw (s := 24 + (-8) + (-8)) w1 (by omega) (by decide) ?_
  refine l_M_lays1 S (h := sI (sI (sI (sI (sI (sI h 117 L _) 116 2 _) 117 (L + 1) _) 116 2 _) 117 (L + 1 + 1) _) 116 2 _) hw (s := 24 + (-8) + (-8) + (-8)) w1 (by omega) (by decide) ?_
  refine S.at 20 [] rfl ?_
  conv => whnf
  refine bk_t ((by decide)) ?_
  conv => whnf
  refine hK _ (MPF_tr (MPF_tr (MPF_tr mtape_step mtape_step) mtape_step) mtape_step) ⟨hI_sI, fun i hi => ?_⟩
  unfold tx4
  rw [hI_sI_ne (by decide : 117 ≠ 116)]
  by_cases e3 : i = L + 3
  · subst e3
    rw [if_neg (by omega), if_neg (by omega), if_neg (by omega), if_pos rfl]
    exact hI_sI
  rw [hI_sI_j (by omega), hI_sI_ne (by decide : 117 ≠ 116)]
  by_cases e2 : i = L + 2
  · subst e2
    rw [if_neg (by omega), if_neg (by omega), if_pos rfl]
    exact hI_sI
  rw [hI_sI_j (by omega), hI_sI_ne (by decide : 117 ≠ 116)]
  by_cases e1 : i = L + 1
  · subst e1
    rw [if_neg (by omega), if_pos rfl]
    exact hI_sI
  rw [hI_sI_j (by omega), hI_sI_ne (by decide : 117 ≠ 116)]
  by_cases e0 : i = L
  · subst e0
    rw [if_pos rfl]
    exact hI_sI
  rw [hI_sI_j (by omega), if_neg (by omega), if_neg (by omega), if_neg (by omega), if_neg (by omega)]
  exact hT.2 i (by omega)
theorem c_M_feed {P : PSem} (S : SysOK P) {h : PH} (hw : WS h) {tx : Nat → Nat} {L : Nat} {a b c d e : Int32} (hT : TM h tx L) (hL : L ≤ 2000) {K : PK} (hY : L + 20 ≤ 2000 → ∀ h', MPF h h' → TM h' (tx20 tx L a b c d e) (L + 20) → K (.int (nI (L + 20))) h') (hN : 2000 < L + 20 → K (.int (-1)) h) : P.1 n_M_feed [.ref 116, .int a, .int b, .int c, .int d, .int e] h K := by
  refine S.go 80 rfl rfl rfl ?_
  conv => whnf
  refine ⟨wt_116 hw, ?_⟩
  conv => whnf
  rw [hT.1]
  have e20 : (fun x y : Int32 => x + y) (nI L) 20 = nI (L + 20) := (zn_plus L 20).symm
  rw [e20]
  refine bk_le (b := 2000) (by omega) (by decide) (fun c1 => ?_) (fun c1 => ?_)
  · conv => whnf
    refine ⟨wt_116 hw, ?_⟩
    conv => whnf
    refine c_M_lays S hw hT (by omega) (fun h1 a1 t1 => ?_)
    have hw1 := eqX_WS a1.1 hw
    conv => whnf
    refine ⟨wt_116 hw1, ?_⟩
    conv => whnf
    refine c_M_lays S hw1 t1 (by omega) (fun h2 a2 t2 => ?_)
    have hw2 := eqX_WS a2.1 hw1
    conv => whnf
    refine ⟨wt_116 hw2, ?_⟩
    conv => whnf
    refine c_M_lays S hw2 t2 (by omega) (fun h3 a3 t3 => ?_)
    have hw3 := eqX_WS a3.1 hw2
    conv => whnf
    refine ⟨wt_116 hw3, ?_⟩
    conv => whnf
    refine c_M_lays S hw3 t3 (by omega) (fun h4 a4 t4 => ?_)
    have hw4 := eqX_WS a4.1 hw3
    conv => whnf
    refine ⟨wt_116 hw4, ?_⟩
    conv => whnf
    refine c_M_lays S hw4 t4 (by omega) (fun h5 a5 t5 => ?_)
    have hw5 := eqX_WS a5.1 hw4
    conv => whnf
    refine ⟨wt_116 hw5, ?_⟩
    conv => whnf
    rw [t5.1]
    exact hY c1 h5 (MPF_tr (MPF_tr (MPF_tr (MPF_tr a1 a2) a3) a4) a5) t5
  · conv => whnf
    exact hN c1
theorem c_M_back {P : PSem} (S : SysOK P) {h : PH} (hw : WS h) {tx : Nat → Nat} {L : Nat} {n : Int32} (hT : TM h tx L) (hL : L ≤ 2000) {K : PK} (hY : ∀ k, n = nI k → k ≤ L → ∀ h', MPF h h' → TM h' tx (L - k) → K (.int (nI (L - k))) h') (hN : (n < 0 ∨ nI L < n) → K (.int (-1)) h) : P.1 n_M_back [.ref 116, .int n] h K := by
  refine S.go 60 rfl rfl rfl ?_
  conv => whnf
  refine ⟨fun c => ?_, fun c => ?_⟩
  · conv => whnf
    exact hN (Or.inl c)
  · conv => whnf
    refine ⟨wt_116 hw, ?_⟩
    conv => whnf
    rw [hT.1]
    refine ⟨fun c1 => ?_, fun c1 => ?_⟩
    · obtain ⟨k, rfl, hk⟩ := i32_nat (Int32.not_lt.mp c)
      have c2 := (zn_le hk (by omega)).mp c1
      conv => whnf
      refine ⟨wt_116 hw, ?_⟩
      conv => whnf
      rw [hT.1]
      refine ⟨wt_116 hw, ?_⟩
      conv => whnf
      refine ⟨wt_116 hw, ?_⟩
      conv => whnf
      have e : nI L - nI k = nI (L - k) := pk_sub c2
      have e2 : hI (sI h 116 2 (nI L - nI k)) 116 2 = nI (L - k) := by rw [hI_sI, e]
      have e3 : hI (sI h 116 2 ((fun x y : Int32 => x - y) (nI L) (nI k))) 116 2 = nI (L - k) := e2
      rw [e3]
      refine hY k rfl c2 _ ⟨eqX_sI (Or.inl rfl), fun j hj => hI_sI_j hj⟩ ⟨e2, fun i hi => ?_⟩
      rw [hI_sI_ne (by decide : 117 ≠ 116)]
      exact hT.2 i (by omega)
    · conv => whnf
      exact hN (Or.inr (Int32.not_le.mp c1))
