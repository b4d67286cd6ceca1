/-! TOKENS: the reference's leaves -/
def kM (k : Nat) : Nat := match k with
  | 1 => 20
  | 2 => 21
  | 3 => 22
  | 4 => 1
  | 5 => 2
  | 6 => 4
  | 7 => 5
  | 8 => 6
  | 9 => 7
  | 10 => 8
  | 11 => 9
  | 12 => 10
  | 13 => 3
  | _ => 0
def TX (h : PH) (tx : Nat → Nat) (L : Nat) : Prop := hI h 116 4 = nI L ∧ ∀ i, i < L → hI h 118 i = sb (tx i)
def btA (tx : Nat → Nat) (L p : Nat) : Nat := if p < L then tx p else 0
theorem c_M_byteAt {P : PSem} (S : SysOK P) {h : PH} (hw : WS h) {tx : Nat → Nat} {L p : Nat} (hT : TX h tx L) (hB : TXB tx) (hM : L ≤ 2000) (hp : p < 2 ^ 31) {K : PK} (hK : K (.int (nI (btA tx L p))) h) : P.1 n_M_byteAt [.ref 116, .int (nI p)] h K := by
  unfold btA at hK
  refine S.go 40 rfl rfl rfl ?_
  conv => whnf
  refine ⟨wt_116 hw, ?_⟩
  conv => whnf
  rw [hT.1]
  refine bk_le (by omega) (by omega) (fun c => ?_) (fun c => ?_)
  · rw [if_neg (by omega)] at hK
    conv => whnf
    exact hK
  · rw [if_pos c, ← (sb_all (hB p)).2.2] at hK
    conv => whnf
    refine ⟨wt_116 hw, ?_⟩
    conv => whnf
    rw [wr_116_3 hw]
    refine ⟨Or.inl (inB_of (wt_118 hw) (wn_118 hw) (by omega) (by decide)), ?_⟩
    conv => whnf
    rw [nI_clamp (by omega), hT.2 p c]
    exact hK
theorem c_M_isLetter' {P : PSem} (S : SysOK P) {h : PH} {c : Nat} (hc : c < 2 ^ 31) {K : PK} (hK : K (.int (bI (ltrB c))) h) : P.1 n_M_isLetter [.int (nI c)] h K := by
  unfold ltrB at hK
  refine S.go 40 rfl rfl rfl ?_
  conv => whnf
  refine bk_lt (b := 97) (by omega) (by omega) (fun d => ?_) (fun d => ?_)
  · have : Nat.ble 97 c = false := by rw [← Bool.not_eq_true, Nat.ble_eq]; omega
    rw [this, Bool.false_and] at hK
    conv => whnf
    exact ⟨Or.inl rfl, hK⟩
  have : Nat.ble 97 c = true := by rw [Nat.ble_eq]; omega
  rw [this, Bool.true_and] at hK
  conv => whnf
  refine bk_lt (a := 122) (by omega) (by omega) (fun d => ?_) (fun d => ?_)
  · have : Nat.ble c 122 = false := by rw [← Bool.not_eq_true, Nat.ble_eq]; omega
    rw [this] at hK
    conv => whnf
    exact ⟨Or.inl rfl, hK⟩
  · have : Nat.ble c 122 = true := by rw [Nat.ble_eq]; omega
    rw [this] at hK
    conv => whnf
    exact ⟨Or.inr rfl, hK⟩
theorem c_M_isDigit' {P : PSem} (S : SysOK P) {h : PH} {c : Nat} (hc : c < 2 ^ 31) {K : PK} (hK : K (.int (bI (dgtB c))) h) : P.1 n_M_isDigit [.int (nI c)] h K := by
  unfold dgtB at hK
  refine S.go 40 rfl rfl rfl ?_
  conv => whnf
  refine bk_lt (b := 48) (by omega) (by omega) (fun d => ?_) (fun d => ?_)
  · have : Nat.ble 48 c = false := by rw [← Bool.not_eq_true, Nat.ble_eq]; omega
    rw [this, Bool.false_and] at hK
    conv => whnf
    exact ⟨Or.inl rfl, hK⟩
  have : Nat.ble 48 c = true := by rw [Nat.ble_eq]; omega
  rw [this, Bool.true_and] at hK
  conv => whnf
  refine bk_lt (a := 57) (by omega) (by omega) (fun d => ?_) (fun d => ?_)
  · have : Nat.ble c 57 = false := by rw [← Bool.not_eq_true, Nat.ble_eq]; omega
    rw [this] at hK
    conv => whnf
    exact ⟨Or.inl rfl, hK⟩
  · have : Nat.ble c 57 = true := by rw [Nat.ble_eq]; omega
    rw [this] at hK
    conv => whnf
    exact ⟨Or.inr rfl, hK⟩
theorem wd_c' : ∀ c, c < 123 → 97 ≤ c → (nI c - 97 + 1).toInt64 = lN (c - 96) := by decide +kernel
theorem c_M_appends {P : PSem} (S : SysOK P) {h : PH} {w c : Nat} (hl : ltrB c = true) {K : PK} (hK : K (.long (lN (27 * w + (c - 96)))) h) : P.1 n_M_appends [.long (lN w), .int (nI c)] h K := by
  unfold ltrB at hl
  rw [Bool.and_eq_true, Nat.ble_eq, Nat.ble_eq] at hl
  rw [← zl_add, ← zl_mul, ← wd_c' c (by omega) hl.1] at hK
  refine S.go 40 rfl rfl rfl ?_
  conv => whnf
  refine bk_nt (fun c => absurd ((zn_eq (b := 0) (by omega) (by omega)).mp c) (by omega)) ?_
  conv => whnf
  exact hK
def tkH (h : PH) (t : Nat) (k a v : Int32) (n : Int64) : PH := sI (sL (sI (sI (sI h 119 t k) 120 t a) 121 t v) 122 t n) 116 10 (nI (t + 1))
theorem c_M_token {P : PSem} (S : SysOK P) {h : PH} (hw : WS h) {t : Nat} {k a v : Int32} {n : Int64} (ht : t < 403) (ha : hI h 116 10 = nI t) {K : PK} (hK : K .null (tkH h t k a v n)) : P.1 n_M_token [.ref 116, .int k, .int a, .int v, .long n] h K := by
  refine S.go 60 rfl rfl rfl ?_
  conv => whnf
  refine ⟨wt_116 hw, ?_⟩
  conv => whnf
  rw [wr_116_5 hw]
  refine ⟨wt_116 hw, ?_⟩
  conv => whnf
  rw [ha]
  refine ⟨⟨(by decide), inB_of (wt_119 hw) (wn_119 hw) ht (by decide)⟩, ?_⟩
  conv => whnf
  rw [nI_clamp (by omega)]
  refine ⟨wt_116 hw, ?_⟩
  conv => whnf
  have e2 : hR (sI h 119 t k) 116 6 = 120 := wr_116_6 hw
  rw [e2]
  refine ⟨wt_116 hw, ?_⟩
  conv => whnf
  have a2 : hI (sI h 119 t k) 116 10 = nI t := (hI_ne (by omega)).trans ha
  rw [a2]
  refine ⟨⟨(by decide), inB_of (wt_120 hw) (wn_120 hw) ht (by decide)⟩, ?_⟩
  conv => whnf
  rw [nI_clamp (by omega)]
  refine ⟨wt_116 hw, ?_⟩
  conv => whnf
  have e3 : hR (sI (sI h 119 t k) 120 t a) 116 7 = 121 := wr_116_7 hw
  rw [e3]
  refine ⟨wt_116 hw, ?_⟩
  conv => whnf
  have a3 : hI (sI (sI h 119 t k) 120 t a) 116 10 = nI t := (hI_ne (by omega)).trans a2
  rw [a3]
  refine ⟨⟨(by decide), inB_of (wt_121 hw) (wn_121 hw) ht (by decide)⟩, ?_⟩
  conv => whnf
  rw [nI_clamp (by omega)]
  refine ⟨wt_116 hw, ?_⟩
  conv => whnf
  have e4 : hR (sI (sI (sI h 119 t k) 120 t a) 121 t v) 116 8 = 122 := wr_116_8 hw
  rw [e4]
  refine ⟨wt_116 hw, ?_⟩
  conv => whnf
  have a4 : hI (sI (sI (sI h 119 t k) 120 t a) 121 t v) 116 10 = nI t := (hI_ne (by omega)).trans a3
  rw [a4]
  refine ⟨inB_of (wt_122 hw) (wn_122 hw) ht (by decide), ?_⟩
  conv => whnf
  rw [nI_clamp (by omega)]
  refine ⟨wt_116 hw, ?_⟩
  conv => whnf
  refine ⟨wt_116 hw, ?_⟩
  conv => whnf
  have a5 : hI (sL (sI (sI (sI h 119 t k) 120 t a) 121 t v) 122 t n) 116 10 + 1 = nI (t + 1) := by
    rw [hI_sL, a4, nI_1]
  have fin := hK
  unfold tkH at fin
  rw [← a5] at fin
  exact fin
theorem c_M_sign {P : PSem} (S : SysOK P) {h : PH} (hw : WS h) {t c : Nat} {p : Int32} (hc : c < 256) (ht : t < 403) (ha : hI h 116 10 = nI t) {K : PK} (hK : K (.int 1) (tkH h t (nI (kM (sgK c))) p 0 0)) : P.1 n_M_sign [.ref 116, .int p, .int (nI c)] h K := by
  unfold sgK at hK
  refine S.go 60 rfl rfl rfl ?_
  conv => whnf
  refine bk_ne (b := 59) (by omega) (by omega) (fun d => ?_) (fun d => ?_)
  rotate_left
  · rw [if_pos d] at hK
    conv => whnf
    refine ⟨wt_116 hw, ?_⟩
    refine c_M_token S hw ht ha ?_
    conv => whnf
    exact hK
  rw [if_neg d] at hK
  conv => whnf
  refine bk_ne (b := 43) (by omega) (by omega) (fun d => ?_) (fun d => ?_)
  rotate_left
  · rw [if_pos d] at hK
    conv => whnf
    refine ⟨wt_116 hw, ?_⟩
    refine c_M_token S hw ht ha ?_
    conv => whnf
    exact hK
  rw [if_neg d] at hK
  conv => whnf
  refine bk_ne (b := 42) (by omega) (by omega) (fun d => ?_) (fun d => ?_)
  rotate_left
  · rw [if_pos d] at hK
    conv => whnf
    refine ⟨wt_116 hw, ?_⟩
    refine c_M_token S hw ht ha ?_
    conv => whnf
    exact hK
  rw [if_neg d] at hK
  conv => whnf
  refine bk_ne (b := 47) (by omega) (by omega) (fun d => ?_) (fun d => ?_)
  rotate_left
  · rw [if_pos d] at hK
    conv => whnf
    refine ⟨wt_116 hw, ?_⟩
    refine c_M_token S hw ht ha ?_
    conv => whnf
    exact hK
  rw [if_neg d] at hK
  conv => whnf
  refine bk_ne (b := 94) (by omega) (by omega) (fun d => ?_) (fun d => ?_)
  rotate_left
  · rw [if_pos d] at hK
    conv => whnf
    refine ⟨wt_116 hw, ?_⟩
    refine c_M_token S hw ht ha ?_
    conv => whnf
    exact hK
  rw [if_neg d] at hK
  conv => whnf
  refine bk_ne (b := 40) (by omega) (by omega) (fun d => ?_) (fun d => ?_)
  rotate_left
  · rw [if_pos d] at hK
    conv => whnf
    refine ⟨wt_116 hw, ?_⟩
    refine c_M_token S hw ht ha ?_
    conv => whnf
    exact hK
  rw [if_neg d] at hK
  conv => whnf
  refine bk_ne (b := 41) (by omega) (by omega) (fun d => ?_) (fun d => ?_)
  rotate_left
  · rw [if_pos d] at hK
    conv => whnf
    refine ⟨wt_116 hw, ?_⟩
    refine c_M_token S hw ht ha ?_
    conv => whnf
    exact hK
  rw [if_neg d] at hK
  conv => whnf
  refine ⟨wt_116 hw, ?_⟩
  refine c_M_token S hw ht ha ?_
  conv => whnf
  exact hK
