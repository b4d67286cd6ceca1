/-! TOKENS: one token of the class's scanner -/
theorem zn_mns {a b : Nat} (h : b ≤ a) : nI a - nI b = nI (a - b) := by
  have e := zn_plus (a - b) b
  rw [Nat.sub_add_cancel h] at e
  rw [e, Int32.add_sub_cancel]
theorem zl_add (a b : Nat) : lN a + lN b = lN (a + b) := (Int64.ofNat_add a b).symm
theorem zl_mul (a b : Nat) : lN a * lN b = lN (a * b) := (Int64.ofNat_mul a b).symm
theorem wd_c : ∀ c, c < 123 → 97 ≤ c → (sb c - 97 + 1).toInt64 = lN (c - 96) := by decide +kernel
theorem rw_c : ∀ c, c < 58 → 48 ≤ c → (sb c - 48).toInt64 = lN (c - 48) := by decide +kernel
theorem wd_step {w c : Nat} (h : ltrB c = true) : l_shl (lN w) 5 + (sb c - 97 + 1).toInt64 = lN (32 * w + (c - 96)) := by
  unfold ltrB at h
  rw [Bool.and_eq_true, Nat.ble_eq, Nat.ble_eq] at h
  rw [wd_c c (by omega) h.1, show (5 : Int32) = nI 5 from rfl, zl_shl (by decide), zl_add, Nat.shiftLeft_eq, Nat.mul_comm]
theorem rw_step {w c : Nat} (h : dgtB c = true) : lN w * 10 + (sb c - 48).toInt64 = lN (10 * w + (c - 48)) := by
  unfold dgtB at h
  rw [Bool.and_eq_true, Nat.ble_eq, Nat.ble_eq] at h
  rw [rw_c c (by omega) h.1, show (10 : Int64) = lN 10 from rfl, zl_mul, zl_add, Nat.mul_comm]
theorem nmF_lt {B : Nat} (hB : 27 ≤ B) {tx : Nat → Nat} {q : Nat} : ∀ k, (∀ i, i < k → ltrB (tx (q + i)) = true) → nmF B tx q k < B ^ k := by
  intro k
  induction k with
  | zero => exact fun _ => Nat.one_pos
  | succ k ih =>
    intro h
    have a := ih (fun i hi => h i (by omega))
    have b := h k (by omega)
    unfold ltrB at b
    rw [Bool.and_eq_true, Nat.ble_eq, Nat.ble_eq] at b
    show B * nmF B tx q k + (tx (q + k) - 96) < B ^ k * B
    have c : B * (nmF B tx q k + 1) ≤ B * B ^ k := Nat.mul_le_mul_left B a
    rw [Nat.mul_comm (B ^ k) B]
    rw [Nat.mul_add] at c
    omega
theorem dcF_lt {tx : Nat → Nat} {q : Nat} : ∀ k, (∀ i, i < k → dgtB (tx (q + i)) = true) → dcF tx q k < 10 ^ k := by
  intro k
  induction k with
  | zero => exact fun _ => Nat.one_pos
  | succ k ih =>
    intro h
    have a := ih (fun i hi => h i (by omega))
    have b := h k (by omega)
    unfold dgtB at b
    rw [Bool.and_eq_true, Nat.ble_eq, Nat.ble_eq] at b
    show 10 * dcF tx q k + (tx (q + k) - 48) < 10 ^ k * 10
    omega
def wdG (w k : Nat) : Nat := if 8 < k then 13 else wdK w
theorem y_Tape_scanWord {P : PSem} (S : SysOK P) {h : PH} (hw : WS h) {e q w : Nat} (he : e ≤ 2000) (hq : q ≤ e) (hwl : e - q ≤ 8 → w < 2 ^ 63) (ha : hI h 6 2 = nI e) (hb : hI h 6 4 = nI q) (hl : hL h 6 5 = lN w) {K : PK} (hK : K .null (sI h 6 3 (nI (wdG w (e - q))))) :
    P.2 n_Tape_scanWord 34 [some (.ref 6)] [] h 0 0 K := by
  unfold wdG wdK at hK
  refine S.at 60 [] rfl ?_
  conv => whnf
  refine ⟨wt_6 hw, ?_⟩
  conv => whnf
  rw [ha]
  refine ⟨wt_6 hw, ?_⟩
  conv => whnf
  rw [hb]
  have es : (fun x y : Int32 => x - y) (nI e) (nI q) = nI (e - q) := zn_mns hq
  try rw [es]
  refine bk_le (a := e - q) (b := 8) (by omega) (by omega) (fun c => ?_) (fun c => ?_)
  · rw [if_neg (by omega)] at hK
    have hwl := hwl c
    conv => whnf
    refine ⟨wt_6 hw, ?_⟩
    conv => whnf
    rw [hl]
    rcases Nat.decEq w 14466855603 with n1 | n1
    · refine bk_nt ((fun z => n1 ((l_cmp0 (b := 14466855603) hwl (by decide)).mp z))) ?_
      conv => whnf
      rw [if_neg n1] at hK
      refine ⟨wt_6 hw, ?_⟩
      conv => whnf
      rw [hl]
      rcases Nat.decEq w 12468 with n1 | n1
      · refine bk_nt ((fun z => n1 ((l_cmp0 (b := 12468) hwl (by decide)).mp z))) ?_
        conv => whnf
        rw [if_neg n1] at hK
        refine ⟨wt_6 hw, ?_⟩
        conv => whnf
        rw [hl]
        rcases Nat.decEq w 24 with n1 | n1
        · refine bk_nt ((fun z => n1 ((l_cmp0 (b := 24) hwl (by decide)).mp z))) ?_
          conv => whnf
          rw [if_neg n1] at hK
          refine ⟨wt_6 hw, ?_⟩
          conv => whnf
          exact hK
        · refine bk_nf (((l_cmp0 (b := 24) hwl (by decide)).mpr n1)) ?_
          conv => whnf
          rw [if_pos n1] at hK
          refine ⟨wt_6 hw, ?_⟩
          conv => whnf
          exact hK
      · refine bk_nf (((l_cmp0 (b := 12468) hwl (by decide)).mpr n1)) ?_
        conv => whnf
        rw [if_pos n1] at hK
        refine ⟨wt_6 hw, ?_⟩
        conv => whnf
        exact hK
    · refine bk_nf (((l_cmp0 (b := 14466855603) hwl (by decide)).mpr n1)) ?_
      conv => whnf
      rw [if_pos n1] at hK
      refine ⟨wt_6 hw, ?_⟩
      conv => whnf
      exact hK
  · rw [if_pos (by omega)] at hK
    conv => whnf
    refine ⟨wt_6 hw, ?_⟩
    conv => whnf
    exact hK
theorem l_Tape_scanWord {P : PSem} (S : SysOK P) {h0 : PH} (hw0 : WS h0) {tx : Nat → Nat} {L e q : Nat} (hT0 : TC h0 tx L) (hB : TXB tx) (hM : L ≤ 2000) (hq : q ≤ e) (he1 : e ≤ L) (he2 : e < L → ltrB (tx e) = false) (hlt : ∀ l, q ≤ l → l < e → ltrB (tx l) = true) {K : PK}
    (hK : ∀ h', TKF h0 h' → hI h' 6 2 = nI e → hI h' 6 3 = nI (wdG (nmF 32 tx q (e - q)) (e - q)) → hI h' 6 4 = nI q → hL h' 6 5 = lN (nmF 32 tx q (e - q)) → K .null h') : ∀ j k h, q + k + j = e → TKF h0 h → hI h 6 2 = nI (q + k) → hI h 6 4 = nI q → hL h 6 5 = lN (nmF 32 tx q k) →
    P.2 n_Tape_scanWord 0 [some (.ref 6)] [] h 0 0 K := by
  have fin : ∀ h, TKF h0 h → hI h 6 2 = nI e → hI h 6 4 = nI q → hL h 6 5 = lN (nmF 32 tx q (e - q)) → P.2 n_Tape_scanWord 34 [some (.ref 6)] [] h 0 0 K := by
    intro h hf ha hb hl
    refine y_Tape_scanWord S (eqY_WS hf.1 hw0) (Nat.le_trans he1 hM) hq (fun hs => ?_) ha hb hl ?_
    · have a := nmF_lt (B := 32) (by decide) (e - q) (fun i hi => hlt (q + i) (by omega) (by omega))
      have b : 32 ^ (e - q) ≤ 32 ^ 8 := Nat.pow_le_pow_right (by decide) hs
      have c : 32 ^ 8 < 2 ^ 63 := by decide
      omega
    · exact hK _ (TKF_tr hf (TKF_sI (by decide))) ((hI_sI_j (by decide)).trans ha) hI_sI ((hI_sI_j (by decide)).trans hb) hl
  intro j
  induction j with
  | zero =>
    intro k h hp hf ha hb hl
    have e1 : k = e - q := by omega
    subst e1
    have e1 : q + (e - q) = e := by omega
    rw [e1] at ha
    have hw := eqY_WS hf.1 hw0
    have hT := hf.tc hT0
    refine S.at 60 [34] rfl ?_
    conv => whnf
    refine ⟨wt_6 hw, ?_⟩
    conv => whnf
    rw [ha]
    refine ⟨wt_6 hw, ?_⟩
    conv => whnf
    rw [hT.1]
    refine bk_le (by omega) (by omega) (fun c => ?_) (fun c => ?_)
    · conv => whnf
      exact fin h hf ha hb hl
    · conv => whnf
      refine ⟨wt_6 hw, ?_⟩
      conv => whnf
      rw [ha]
      refine ⟨wt_6 hw, ?_⟩
      refine c_Tape_isLetter S hw hT hB hM (by omega) ?_
      conv => whnf
      rw [he2 c, Bool.and_false]
      refine bk_t (rfl) ?_
      conv => whnf
      exact fin h hf ha hb hl
  | succ j ih =>
    intro k h hp hf ha hb hl
    have hw := eqY_WS hf.1 hw0
    have hT := hf.tc hT0
    have hlk := hlt (q + k) (by omega) (by omega)
    refine S.at 60 [34] rfl ?_
    conv => whnf
    refine ⟨wt_6 hw, ?_⟩
    conv => whnf
    rw [ha]
    refine ⟨wt_6 hw, ?_⟩
    conv => whnf
    rw [hT.1]
    refine bk_f (fun c => absurd ((zn_le (by omega) (by omega)).mp c) (by omega)) ?_
    conv => whnf
    refine ⟨wt_6 hw, ?_⟩
    conv => whnf
    rw [ha]
    refine ⟨wt_6 hw, ?_⟩
    refine c_Tape_isLetter S hw hT hB hM (by omega) ?_
    conv => whnf
    rw [hlk, decide_eq_true (by omega)]
    refine bk_f ((by decide)) ?_
    conv => whnf
    refine ⟨wt_6 hw, ?_⟩
    conv => whnf
    refine ⟨wt_6 hw, ?_⟩
    conv => whnf
    rw [wr_6_0 hw]
    refine ⟨wt_6 hw, ?_⟩
    conv => whnf
    rw [ha]
    refine ⟨Or.inl (inB_of (wt_7 hw) (wn_7 hw) (by omega) (by decide)), ?_⟩
    conv => whnf
    rw [nI_clamp (by omega), hT.2 (q + k) (by omega)]
    refine ⟨wt_6 hw, ?_⟩
    conv => whnf
    refine ⟨wt_6 hw, ?_⟩
    conv => whnf
    refine ⟨wt_6 hw, ?_⟩
    conv => whnf
    exact ih (k + 1) (sI (sL h 6 5 (l_shl (hL h 6 5) 5 + (sb (tx (q + k)) - 97 + 1).toInt64)) 6 2 (hI h 6 2 + 1)) (by omega) (TKF_tr hf (TKF_tr TKF_sL (TKF_sI (by decide)))) (hI_sI.trans (by rw [ha, nI_1]; rfl)) ((hI_sI_j (by decide)).trans hb) (by
      show hL (sL h 6 5 _) 6 5 = _
      rw [hL_sL, hl, wd_step hlk]
      rfl)
theorem l_Tape_scanRow {P : PSem} (S : SysOK P) {h0 : PH} (hw0 : WS h0) {tx : Nat → Nat} {L e q : Nat} (hT0 : TC h0 tx L) (hB : TXB tx) (hM : L ≤ 2000) (hq : q ≤ e) (he1 : e ≤ L) (he2 : e < L → dgtB (tx e) = false) (hlt : ∀ l, q ≤ l → l < e → dgtB (tx l) = true) {K : PK}
    (hK : ∀ h', TKF h0 h' → hI h' 6 2 = nI e → hI h' 6 3 = nI (if 13 < e - q then 13 else 5) → hI h' 6 4 = nI q → hL h' 6 5 = lN (dcF tx q (e - q)) → K .null h') : ∀ j k h, q + k + j = e → TKF h0 h → hI h 6 2 = nI (q + k) → hI h 6 4 = nI q → hL h 6 5 = lN (dcF tx q k) →
    P.2 n_Tape_scanRow 0 [some (.ref 6)] [] h 0 0 K := by
  have fin : ∀ h, TKF h0 h → hI h 6 2 = nI e → hI h 6 4 = nI q → hL h 6 5 = lN (dcF tx q (e - q)) → P.2 n_Tape_scanRow 32 [some (.ref 6)] [] h 0 0 K := by
    intro h hf ha hb hl
    have hw := eqY_WS hf.1 hw0
    have es : (fun x y : Int32 => x - y) (nI e) (nI q) = nI (e - q) := zn_mns hq
    have fn : ∀ v, v = nI (if 13 < e - q then 13 else 5) → K .null (sI h 6 3 v) := fun v hv => hK _ (TKF_tr hf (TKF_sI (by decide))) ((hI_sI_j (by decide)).trans ha) (hI_sI.trans hv) ((hI_sI_j (by decide)).trans hb) hl
    refine S.at 60 [] rfl ?_
    conv => whnf
    refine ⟨wt_6 hw, ?_⟩
    conv => whnf
    rw [ha]
    refine ⟨wt_6 hw, ?_⟩
    conv => whnf
    rw [hb]
    try rw [es]
    refine bk_le (a := e - q) (b := 13) (by omega) (by omega) (fun c => ?_) (fun c => ?_)
    · conv => whnf
      refine ⟨wt_6 hw, ?_⟩
      conv => whnf
      exact fn _ (by rw [if_neg (by omega)]; rfl)
    · conv => whnf
      refine ⟨wt_6 hw, ?_⟩
      conv => whnf
      exact fn _ (by rw [if_pos (by omega)]; rfl)
  intro j
  induction j with
  | zero =>
    intro k h hp hf ha hb hl
    have e1 : k = e - q := by omega
    subst e1
    have e1 : q + (e - q) = e := by omega
    rw [e1] at ha
    have hw := eqY_WS hf.1 hw0
    have hT := hf.tc hT0
    refine S.at 60 [32] rfl ?_
    conv => whnf
    refine ⟨wt_6 hw, ?_⟩
    conv => whnf
    rw [ha]
    refine ⟨wt_6 hw, ?_⟩
    conv => whnf
    rw [hT.1]
    refine bk_le (by omega) (by omega) (fun c => ?_) (fun c => ?_)
    · conv => whnf
      exact fin h hf ha hb hl
    · conv => whnf
      refine ⟨wt_6 hw, ?_⟩
      conv => whnf
      rw [ha]
      refine ⟨wt_6 hw, ?_⟩
      refine c_Tape_isDigit S hw hT hB hM (by omega) ?_
      conv => whnf
      rw [he2 c, Bool.and_false]
      refine bk_t (rfl) ?_
      conv => whnf
      exact fin h hf ha hb hl
  | succ j ih =>
    intro k h hp hf ha hb hl
    have hw := eqY_WS hf.1 hw0
    have hT := hf.tc hT0
    have hlk := hlt (q + k) (by omega) (by omega)
    refine S.at 60 [32] rfl ?_
    conv => whnf
    refine ⟨wt_6 hw, ?_⟩
    conv => whnf
    rw [ha]
    refine ⟨wt_6 hw, ?_⟩
    conv => whnf
    rw [hT.1]
    refine bk_f (fun c => absurd ((zn_le (by omega) (by omega)).mp c) (by omega)) ?_
    conv => whnf
    refine ⟨wt_6 hw, ?_⟩
    conv => whnf
    rw [ha]
    refine ⟨wt_6 hw, ?_⟩
    refine c_Tape_isDigit S hw hT hB hM (by omega) ?_
    conv => whnf
    rw [hlk, decide_eq_true (by omega)]
    refine bk_f ((by decide)) ?_
    conv => whnf
    refine ⟨wt_6 hw, ?_⟩
    conv => whnf
    refine ⟨wt_6 hw, ?_⟩
    conv => whnf
    rw [wr_6_0 hw]
    refine ⟨wt_6 hw, ?_⟩
    conv => whnf
    rw [ha]
    refine ⟨Or.inl (inB_of (wt_7 hw) (wn_7 hw) (by omega) (by decide)), ?_⟩
    conv => whnf
    rw [nI_clamp (by omega), hT.2 (q + k) (by omega)]
    refine ⟨wt_6 hw, ?_⟩
    conv => whnf
    refine ⟨wt_6 hw, ?_⟩
    conv => whnf
    refine ⟨wt_6 hw, ?_⟩
    conv => whnf
    exact ih (k + 1) (sI (sL h 6 5 (hL h 6 5 * 10 + (sb (tx (q + k)) - 48).toInt64)) 6 2 (hI h 6 2 + 1)) (by omega) (TKF_tr hf (TKF_tr TKF_sL (TKF_sI (by decide)))) (hI_sI.trans (by rw [ha, nI_1]; rfl)) ((hI_sI_j (by decide)).trans hb) (by
      show hL (sL h 6 5 _) 6 5 = _
      rw [hL_sL, hl, rw_step hlk]
      rfl)
