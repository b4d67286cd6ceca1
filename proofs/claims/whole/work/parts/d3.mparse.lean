/-! TOKENS: the reference's parser, its leaves -/
def MPR (j : Nat) : Prop := j = 11 ∨ j = 12 ∨ j = 13 ∨ j = 20
def MPQ (h0 h : PH) : Prop := eqX (fun k => k = 116) h0 h ∧ ∀ j, ¬ MPR j → hI h 116 j = hI h0 116 j
theorem MPQ_rf (h : PH) : MPQ h h := ⟨eqX_rf _ _, fun _ _ => rfl⟩
theorem MPQ_tr {a b c : PH} (x : MPQ a b) (y : MPQ b c) : MPQ a c := ⟨eqX_tr x.1 y.1, fun j hj => (y.2 j hj).trans (x.2 j hj)⟩
theorem MPQ_sI {h : PH} {j : Nat} {v : Int32} (hj : MPR j) : MPQ h (sI h 116 j v) := ⟨eqX_sI rfl, fun i hi => hI_sI_j (fun e => hi (by rw [e]; exact hj))⟩
def HTK (h : PH) (tx : Nat → Nat) (L : Nat) : Prop := ∀ i, i ≤ 400 → (∀ j, j < i → tkk tx L j ≠ 14) → TOK h tx L i
theorem MPQ.htk {h0 h : PH} {tx : Nat → Nat} {L : Nat} (e : MPQ h0 h) (t : HTK h0 tx L) : HTK h tx L := by
  intro i hi hj
  have := t i hi hj
  unfold TOK at this ⊢
  rw [e.1.2.2.2.2 119 (by decide), e.1.2.2.2.2 120 (by decide), e.1.2.2.2.2 121 (by decide), e.1.2.2.1]
  exact this
def OKs (h0 h : PH) (tx : Nat → Nat) (L t l : Nat) : Prop := MPQ h0 h ∧ hI h 116 11 = nI t ∧ hI h 116 12 = nI 0 ∧ hI h 116 20 = nI l ∧ t ≤ pT (tkk tx L)
def BAD (h0 h : PH) (tx : Nat → Nat) (L : Nat) : Prop := MPQ h0 h ∧ hI h 116 12 = nI (pF (tkk tx L)) ∧ pF (tkk tx L) ≠ 0 ∧ hI h 116 13 = nI (tkS tx L (pT (tkk tx L)))
theorem pF_le (K : Nat → Nat) : pF K ≤ 2 := by
  unfold pF
  repeat' split
  all_goals omega
theorem pT_14 {K : Nat → Nat} {t : Nat} (ht : t ≤ pT K) : ∀ j, j < t → K j ≠ 14 := by
  intro j hj e
  have := (pgo_iff K j).mp ((pT_ok K).2.2 j (by omega))
  rw [e] at this
  exact this.1 (gAf_14 _ _)
theorem pT_8 {K : Nat → Nat} {t : Nat} (ht : t ≤ pT K) : (pst K t).2.1 ≤ 8 ∧ (pst K t).2.2 ≤ 8 := by
  cases t with
  | zero => exact ⟨Nat.zero_le _, Nat.zero_le _⟩
  | succ t =>
    have := (pgo_iff K t).mp ((pT_ok K).2.2 t (by omega))
    exact this.2.2
theorem kM_inj : ∀ a, a < 15 → ∀ b, b < 15 → a ≠ 0 → b ≠ 0 → (kM a = kM b ↔ a = b) := by decide +kernel
theorem kM_le : ∀ a, a < 15 → kM a ≤ 22 := by decide +kernel
theorem tkk_pos (tx : Nat → Nat) (L t : Nat) : tkk tx L t ≠ 0 := by
  unfold tkk tkK wdK sgK
  repeat' split
  all_goals decide
theorem kM_tk {tx : Nat → Nat} {L t k : Nat} (hk : k < 15) (h0 : k ≠ 0) : kM (tkk tx L t) = kM k ↔ tkk tx L t = k := kM_inj _ (by have := tkk_le tx L t; omega) _ hk (tkk_pos tx L t) h0
theorem fl_1 {K : Nat → Nat} {t : Nat} (ht : t ≤ pT K) (g : gAf (pst K t).1 (K t) (pst K t).2.1 = 0) (ne : ¬ (K t = 14 ∧ (pst K t).1 = 1)) : t = pT K ∧ pF K = 1 := by
  have e := pgo_no ht (by
    rw [← Bool.not_eq_true, pgo_iff]
    exact fun y => y.1 g)
  refine ⟨e, ?_⟩
  unfold pF
  rw [← e, if_neg ne, if_pos g]
theorem fl_2 {K : Nat → Nat} {t : Nat} (ht : t ≤ pT K) (g : gAf (pst K t).1 (K t) (pst K t).2.1 ≠ 0) (ne : ¬ (t < 400 ∧ (pst K (t + 1)).2.1 ≤ 8 ∧ (pst K (t + 1)).2.2 ≤ 8)) : t = pT K ∧ pF K = 2 := by
  have e := pgo_no ht (by
    rw [← Bool.not_eq_true, pgo_iff]
    exact fun y => ne y.2)
  refine ⟨e, ?_⟩
  unfold pF
  rw [← e, if_neg (fun y => g (by rw [y.1]; exact gAf_14 _ _)), if_neg g]
theorem c_M_is_ok {P : PSem} (S : SysOK P) {h0 h : PH} (hw0 : WS h0) {tx : Nat → Nat} {L t l : Nat} (hH : HTK h0 tx L) (ho : OKs h0 h tx L t l) {k : Nat} (hk : k < 15) (hz : k ≠ 0) {K : PK} (hK : K (.int (bI (decide (tkk tx L t = k)))) h) : P.1 n_M_is [.ref 116, .int (nI (kM k))] h K := by
  obtain ⟨a, b, c, -, d⟩ := ho
  have hw := eqX_WS a.1 hw0
  have t4 := Nat.le_trans d (pT_ok (tkk tx L)).1
  have tk := (a.htk hH) t t4 (pT_14 d)
  have e1 := kM_le (tkk tx L t) (by have := tkk_le tx L t; omega)
  have e2 := kM_le k hk
  refine S.go 40 rfl rfl rfl ?_
  conv => whnf
  refine ⟨wt_116 hw, ?_⟩
  conv => whnf
  rw [c]
  refine bk_nf (rfl) ?_
  conv => whnf
  refine ⟨wt_116 hw, ?_⟩
  conv => whnf
  rw [wr_116_5 hw]
  refine ⟨wt_116 hw, ?_⟩
  conv => whnf
  rw [b]
  refine ⟨inB_of (wt_119 hw) (wn_119 hw) (by omega) (by decide), ?_⟩
  conv => whnf
  rw [nI_clamp (by omega), tk.1]
  refine bk_ne (by omega) (by omega) (fun z => ?_) (fun z => ?_)
  · rw [decide_eq_false (fun y => z ((kM_tk hk hz).mpr y))] at hK
    conv => whnf
    exact ⟨Or.inl rfl, hK⟩
  · rw [decide_eq_true ((kM_tk hk hz).mp z)] at hK
    conv => whnf
    exact ⟨Or.inr rfl, hK⟩
theorem c_M_is_bad {P : PSem} (S : SysOK P) {h0 h : PH} (hw0 : WS h0) {tx : Nat → Nat} {L : Nat} (ho : BAD h0 h tx L) {k : Int32} {K : PK} (hK : K (.int (bI false)) h) : P.1 n_M_is [.ref 116, .int k] h K := by
  obtain ⟨a, b, c, d⟩ := ho
  have hw := eqX_WS a.1 hw0
  have e1 := pF_le (tkk tx L)
  refine S.go 40 rfl rfl rfl ?_
  conv => whnf
  refine ⟨wt_116 hw, ?_⟩
  conv => whnf
  rw [b]
  refine bk_nt (fun c => absurd ((zn_eq (b := 0) (by omega) (by omega)).mp c) (by omega)) ?_
  conv => whnf
  exact ⟨Or.inl rfl, hK⟩
theorem c_M_fail_ok {P : PSem} (S : SysOK P) {h0 h : PH} (hw0 : WS h0) {tx : Nat → Nat} {L t l : Nat} (hH : HTK h0 tx L) (ho : OKs h0 h tx L t l) {v : Nat} (e : t = pT (tkk tx L) ∧ pF (tkk tx L) = v) (hv : v ≠ 0) {K : PK} (hK : ∀ h', BAD h0 h' tx L → K .null h') : P.1 n_M_fail [.ref 116, .int (nI v)] h K := by
  obtain ⟨a, b, c, -, d⟩ := ho
  have hw := eqX_WS a.1 hw0
  have t4 := Nat.le_trans d (pT_ok (tkk tx L)).1
  have tk := (a.htk hH) t t4 (pT_14 d)
  refine S.go 40 rfl rfl rfl ?_
  conv => whnf
  refine ⟨wt_116 hw, ?_⟩
  conv => whnf
  rw [c]
  refine bk_t ((zn_le (a := 0) (b := 0) (by omega) (by omega)).mpr (by omega)) ?_
  conv => whnf
  refine ⟨wt_116 hw, ?_⟩
  conv => whnf
  refine ⟨wt_116 hw, ?_⟩
  conv => whnf
  have w1 : hR (sI h 116 12 (nI v)) 116 6 = 120 := wr_116_6 hw
  rw [w1]
  refine ⟨wt_116 hw, ?_⟩
  conv => whnf
  have b1 : hI (sI h 116 12 (nI v)) 116 11 = nI t := (hI_sI_j (by decide)).trans b
  rw [b1]
  refine ⟨inB_of (wt_120 hw) (wn_120 hw) (by omega) (by decide), ?_⟩
  conv => whnf
  rw [nI_clamp (by omega)]
  have k1 : hI (sI h 116 12 (nI v)) 120 t = nI (tkS tx L t) := (hI_ne (by decide)).trans tk.2.1
  rw [k1]
  refine ⟨wt_116 hw, ?_⟩
  conv => whnf
  refine hK _ ⟨MPQ_tr a (MPQ_tr (MPQ_sI (Or.inr (Or.inl rfl))) (MPQ_sI (Or.inr (Or.inr (Or.inl rfl))))), ?_, ?_, ?_⟩
  · rw [hI_sI_j (by decide), hI_sI, e.2]
  · rw [e.2]
    exact hv
  · rw [hI_sI, ← e.1]
theorem c_M_fail_bad {P : PSem} (S : SysOK P) {h0 h : PH} (hw0 : WS h0) {tx : Nat → Nat} {L : Nat} (ho : BAD h0 h tx L) {v : Int32} {K : PK} (hK : K .null h) : P.1 n_M_fail [.ref 116, .int v] h K := by
  obtain ⟨a, b, c, d⟩ := ho
  have hw := eqX_WS a.1 hw0
  have e1 := pF_le (tkk tx L)
  refine S.go 40 rfl rfl rfl ?_
  conv => whnf
  refine ⟨wt_116 hw, ?_⟩
  conv => whnf
  rw [b]
  refine bk_f (fun c => absurd ((zn_le (b := 0) (by omega) (by omega)).mp c) (by omega)) ?_
  conv => whnf
  exact hK
theorem c_M_passes {P : PSem} (S : SysOK P) {h0 h : PH} (hw0 : WS h0) {tx : Nat → Nat} {L t l : Nat} (hH : HTK h0 tx L) (ho : OKs h0 h tx L t l) (g : gAf (pst (tkk tx L) t).1 (tkk tx L t) (pst (tkk tx L) t).2.1 ≠ 0) (g1 : (pst (tkk tx L) (t + 1)).2.1 ≤ 8) (g2 : (pst (tkk tx L) (t + 1)).2.2 ≤ 8) {K : PK} (hK : ∀ h', OKs h0 h' tx L (t + 1) l ∨ BAD h0 h' tx L → K .null h') : P.1 n_M_passes [.ref 116] h K := by
  have ho' := ho
  obtain ⟨a, b, c, c2, d⟩ := ho
  have hw := eqX_WS a.1 hw0
  have t4 := Nat.le_trans d (pT_ok (tkk tx L)).1
  refine S.go 40 rfl rfl rfl ?_
  conv => whnf
  refine ⟨wt_116 hw, ?_⟩
  conv => whnf
  rw [b]
  refine bk_ne (b := 400) (by omega) (by omega) (fun z => ?_) (fun z => ?_)
  · conv => whnf
    refine ⟨wt_116 hw, ?_⟩
    conv => whnf
    rw [b]
    refine ⟨wt_116 hw, ?_⟩
    conv => whnf
    refine hK _ (Or.inl ⟨MPQ_tr a (MPQ_sI (Or.inl rfl)), hI_sI.trans (nI_1 t), (hI_sI_j (by decide)).trans c, (hI_sI_j (by decide)).trans c2, ?_⟩)
    rcases Nat.lt_or_ge t (pT (tkk tx L)) with w | w
    · exact w
    · have e : t = pT (tkk tx L) := by omega
      have q := (pT_ok (tkk tx L)).2.1
      rw [← e, (pgo_iff _ t).mpr ⟨g, by omega, g1, g2⟩] at q
      cases q
  · conv => whnf
    refine ⟨wt_116 hw, ?_⟩
    refine c_M_fail_ok (v := 2) S hw0 hH ho' (fl_2 d g (fun y => by omega)) (by decide) ?_
    intro h' q
    conv => whnf
    exact hK h' (Or.inr q)
/-- a must: from a state where just this kind is taken -/
theorem c_M_must {P : PSem} (S : SysOK P) {h0 h : PH} (hw0 : WS h0) {tx : Nat → Nat} {L l : Nat} (hH : HTK h0 tx L) {k : Nat} (hk : k < 15) (hz : k ≠ 0) (Q : Nat → Prop) (hs : (∃ t, OKs h0 h tx L t l ∧ Q t) ∨ BAD h0 h tx L)
    (hq : ∀ t, t ≤ pT (tkk tx L) → Q t → (tkk tx L t = k → gAf (pst (tkk tx L) t).1 (tkk tx L t) (pst (tkk tx L) t).2.1 ≠ 0 ∧ (pst (tkk tx L) (t + 1)).2.1 ≤ 8 ∧ (pst (tkk tx L) (t + 1)).2.2 ≤ 8) ∧ (tkk tx L t ≠ k → gAf (pst (tkk tx L) t).1 (tkk tx L t) (pst (tkk tx L) t).2.1 = 0 ∧ ¬ (tkk tx L t = 14 ∧ (pst (tkk tx L) t).1 = 1))) {K : PK}
    (hK : ∀ h', (∃ t, OKs h0 h' tx L (t + 1) l ∧ Q t ∧ tkk tx L t = k) ∨ BAD h0 h' tx L → K .null h') : P.1 n_M_must [.ref 116, .int (nI (kM k))] h K := by
  rcases hs with ⟨t, ho, q⟩ | hb
  · obtain ⟨q1, q2⟩ := hq t ho.2.2.2.2 q
    have hw := eqX_WS ho.1.1 hw0
    refine S.go 40 rfl rfl rfl ?_
    conv => whnf
    refine ⟨wt_116 hw, ?_⟩
    refine c_M_is_ok S hw0 hH ho hk hz ?_
    conv => whnf
    refine bk_b0 (fun z => ?_) (fun z => ?_)
    · have z := of_decide_eq_false z
      conv => whnf
      refine ⟨wt_116 hw, ?_⟩
      refine c_M_fail_ok (v := 1) S hw0 hH ho (fl_1 ho.2.2.2.2 (q2 z).1 (q2 z).2) (by decide) ?_
      intro h' b
      conv => whnf
      exact hK h' (Or.inr b)
    · have z := of_decide_eq_true z
      obtain ⟨g, g1, g2⟩ := q1 z
      conv => whnf
      refine ⟨wt_116 hw, ?_⟩
      refine c_M_passes S hw0 hH ho g g1 g2 ?_
      intro h' b
      conv => whnf
      rcases b with b | b
      · exact hK h' (Or.inl ⟨t, b, q, z⟩)
      · exact hK h' (Or.inr b)
  · have hw := eqX_WS hb.1.1 hw0
    refine S.go 40 rfl rfl rfl ?_
    conv => whnf
    refine ⟨wt_116 hw, ?_⟩
    refine c_M_is_bad S hw0 hb ?_
    conv => whnf
    refine bk_t (rfl) ?_
    conv => whnf
    refine ⟨wt_116 hw, ?_⟩
    refine c_M_fail_bad S hw0 hb ?_
    conv => whnf
    exact hK h (Or.inr hb)
