/-! THE CLASS'S TOWER: images -/
theorem wi_img0 {h : PH} (hw : WS h) {n : Nat} (a : 1 ≤ n) (b : n ≤ 12) : inB h 15 27 (nI n) := inB_of (wt_15 hw) (wn_15 hw) (by omega) (by decide)
theorem wi_in9 {h : PH} (hw : WS h) {n : Nat} (a : 1 ≤ n) (b : n ≤ 12) : inB h 9 24 (nI n) := inB_of (wt_9 hw) (wn_9 hw) (by omega) (by decide)
theorem wi_in10 {h : PH} (hw : WS h) {n : Nat} (a : 1 ≤ n) (b : n ≤ 12) : inB h 10 25 (nI n) := inB_of (wt_10 hw) (wn_10 hw) (by omega) (by decide)
theorem wi_in11 {h : PH} (hw : WS h) {n : Nat} (a : 1 ≤ n) (b : n ≤ 12) : inB h 11 26 (nI n) := inB_of (wt_11 hw) (wn_11 hw) (by omega) (by decide)
theorem wi_im {h : PH} (hw : WS h) {n d : Nat} (a : 1 ≤ n) (b : n ≤ 12) (hd : d ≤ 12) : inB h (16 + n) 20 (nI d) := inB_of (wi_imT hw a b) (wi_imN hw a b) (by omega) (by decide)
theorem nI_ne_m1 {a : Nat} (h : a < 2 ^ 31) : ¬ nI a = -1 := fun e => by
  have := nI_pos h
  rw [e] at this
  exact this (by decide)
theorem c_Tower_raised {P : PSem} (S : SysOK P) {h : PH} (hw : WS h) {d n m x a : Nat} (hn1 : 1 ≤ n) (hn : n ≤ 12) (hd : d ≤ 12) (hF : FOK h (27 + 4 * n) n m) (hm : MDg n m) (hx : hI h (16 + n) d = nI x) (hxl : x < 2 ^ n) (ha : a < 8192) {K : PK} (hK : K (.int (nI (pvl n m x a))) h) : P.1 n_Tower_raised [.ref 8, .int (nI d), .int (nI n), .int (nI a)] h K := by
  refine S.go 60 rfl rfl rfl ?_
  conv => whnf
  refine ⟨wt_8 hw, ?_⟩
  conv => whnf
  rw [wr_8_0 hw]
  refine ⟨Or.inl (wi_in9 hw hn1 hn), ?_⟩
  conv => whnf
  rw [nI_clamp (by omega), wi_fld hw hn1 hn]
  refine ⟨wt_8 hw, ?_⟩
  conv => whnf
  rw [wr_8_4 hw]
  refine ⟨Or.inr (Or.inr (Or.inr (wi_img0 hw hn1 hn))), ?_⟩
  conv => whnf
  rw [nI_clamp (by omega), wi_img hw hn1 hn]
  refine ⟨wi_im hw hn1 hn hd, ?_⟩
  conv => whnf
  rw [nI_clamp (by omega), hx]
  refine ⟨hF.1, ?_⟩
  conv => whnf
  refine c_Field_valueAt S hF hn hm hxl ha ?_
  conv => whnf
  exact hK
theorem l_Tow_low {P : PSem} (S : SysOK P) {h0 : PH} (hw0 : WS h0) {n d m x a : Nat} (hn1 : 1 ≤ n) (hn : n ≤ 12) (hd1 : 1 ≤ d) (hd : d ≤ 12) (hF0 : FOK h0 (27 + 4 * n) n m) (hm : MDg n m) (hx0 : hI h0 (16 + n) d = nI x) (hxl : x < 2 ^ n) (ha : a < 2 ^ n) {K : PK}
    (hY : ∀ h' v, eqX spA h0 h' → v < 2 ^ d → pvl n m x v = a → K (.int (nI v)) h') (hN : ∀ h', eqX spA h0 h' → (∀ v, v < 2 ^ d → pvl n m x v ≠ a) → K (.int (-2)) h') : ∀ j q h rows src, q + j = d → eqX spA h0 h → SPI rows src (fpw n m x) q → SPH h rows src q →
    P.2 n_Tower_lowered 7 [some (.ref 8), some (.int (nI n)), some (.int (nI d)), some (.int (nI a)), some (.int (nI (fpw n m x q))), some (.int (nI q))] [] h 0 0 K := by
  have h12 := pow12 hn
  have hd12 := pow12 hd
  intro j
  induction j with
  | zero =>
    intro q h rows src hq he hS hH
    have e : q = d := by omega
    subst e
    have hw := eqX_WS he hw0
    refine S.at 60 [] rfl ?_
    conv => whnf
    refine bk_t ((zn_le (by omega) (by omega)).mpr (by omega)) ?_
    conv => whnf
    refine ⟨wt_8 hw, ?_⟩
    conv => whnf
    rw [wr_8_3 hw]
    refine ⟨wt_12 hw, ?_⟩
    conv => whnf
    refine c_Span_express S hw hS hH (Nat.lt_of_lt_of_le ha h12) (fun s s1 s2 => ?_) (fun z => ?_)
    · conv => whnf
      rw [pvl_eq s1] at s2
      refine bk_nt (nI_ne_m1 (by omega)) ?_
      conv => whnf
      exact hY h s he s1 s2
    · conv => whnf
      refine bk_nf rfl ?_
      conv => whnf
      refine hN h he (fun v hv e => z ⟨v, hv, ?_⟩)
      rw [pvl_eq hv]
      exact e
  | succ j ih =>
    intro q h rows src hq he hS hH
    have hw := eqX_WS he hw0
    have hF := eqX_FOK he (not_spA_f hn1) hF0
    have hp := fpw_lt hm hxl q
    refine S.at 60 [] rfl ?_
    conv => whnf
    refine bk_f (fun c => absurd ((zn_le (by omega) (by omega)).mp c) (by omega)) ?_
    conv => whnf
    refine ⟨wt_8 hw, ?_⟩
    conv => whnf
    rw [wr_8_3 hw]
    refine ⟨wt_12 hw, ?_⟩
    conv => whnf
    refine c_Span_add (r := fpw n m x) S hw hS hH (by omega) (Nat.lt_of_lt_of_le hp h12) (fun h' rows' src' b' f1 f2 f3 f4 => ?_)
    have he' := eqX_tr he f1
    have hw' := eqX_WS he' hw0
    have hF' := eqX_FOK he' (not_spA_f hn1) hF0
    have hx' : hI h' (16 + n) d = nI x := by rw [he'.2.2.2.2 _ (fun q => by unfold spA at q; omega)]; exact hx0
    conv => whnf
    refine ⟨wt_8 hw', ?_⟩
    conv => whnf
    rw [wr_8_0 hw']
    refine ⟨Or.inl (wi_in9 hw' hn1 hn), ?_⟩
    conv => whnf
    rw [nI_clamp (by omega), wi_fld hw' hn1 hn]
    refine ⟨wt_8 hw', ?_⟩
    conv => whnf
    rw [wr_8_4 hw']
    refine ⟨Or.inr (Or.inr (Or.inr (wi_img0 hw' hn1 hn))), ?_⟩
    conv => whnf
    rw [nI_clamp (by omega), wi_img hw' hn1 hn]
    refine ⟨wi_im hw' hn1 hn hd, ?_⟩
    conv => whnf
    rw [nI_clamp (by omega), hx']
    refine ⟨hF'.1, ?_⟩
    conv => whnf
    refine c_Field_times S hF' hn hm hp hxl ?_
    conv => whnf
    have next := ih (q + 1) h' rows' src' (by omega) he' f2 f3
    rw [← nI_1] at next
    exact next
theorem c_Tower_lowered {P : PSem} (S : SysOK P) {h : PH} (hw : WS h) {n d m x a : Nat} (hn1 : 1 ≤ n) (hn : n ≤ 12) (hd1 : 1 ≤ d) (hd : d ≤ 12) (hF : FOK h (27 + 4 * n) n m) (hm : MDg n m) (hx : hI h (16 + n) d = nI x) (hxl : x < 2 ^ n) (ha : a < 2 ^ n) {K : PK}
    (hY : ∀ h' v, eqX spA h h' → v < 2 ^ d → pvl n m x v = a → K (.int (nI v)) h') (hN : ∀ h', eqX spA h h' → (∀ v, v < 2 ^ d → pvl n m x v ≠ a) → K (.int (-2)) h') : P.1 n_Tower_lowered [.ref 8, .int (nI n), .int (nI d), .int (nI a)] h K := by
  refine S.2.1 _ 6 _ _ _ rfl rfl ?_
  refine S.at 60 [7] rfl ?_
  conv => whnf
  refine ⟨wt_8 hw, ?_⟩
  conv => whnf
  rw [wr_8_3 hw]
  refine ⟨wt_12 hw, ?_⟩
  conv => whnf
  refine c_Span_clear S hw (fun h' e1 e2 => ?_)
  conv => whnf
  exact l_Tow_low S hw hn1 hn hd1 hd hF hm hx hxl ha hY hN d 0 h' _ _ (by omega) e1 (SPI_0 _) e2
def gbI (x : Nat) : Int32 := if x = 0 then -1 else nI x
theorem l_Tow_gb {P : PSem} (S : SysOK P) {h : PH} {d n : Nat} (hd1 : 1 ≤ d) (hn : n ≤ 12) {K : PK} : ∀ j, d + j ≤ 12 → K (.int (gbI (gbL d n j))) h →
    P.2 n_Tower_greatestBetween 4 [some (.int (nI d)), some (.int (nI n)), some (.int (nI (d + j)))] [] h 0 0 K := by
  intro j
  induction j with
  | zero =>
    intro hj hK
    refine S.at 60 [] rfl ?_
    conv => whnf
    refine bk_t ((zn_le (by omega) (by omega)).mpr (by omega)) ?_
    conv => whnf
    exact hK
  | succ j ih =>
    intro hj hK
    have next := fun k => ih (by omega) k
    unfold gbL at hK
    rw [show d + 1 + j = d + (j + 1) by omega] at hK
    refine S.at 60 [] rfl ?_
    conv => whnf
    refine bk_f (fun c => absurd ((zn_le (by omega) (by omega)).mp c) (by omega)) ?_
    conv => whnf
    refine c_FT_divides S (by omega) (by omega) ?_
    conv => whnf
    refine bk_b0 (fun c => ?_) (fun c => ?_)
    · conv => whnf
      rw [if_neg (fun q => by
        have := of_decide_eq_false c
        exact this ⟨by omega, q.1⟩)] at hK
      have next := next hK
      rw [← km1] at next
      exact next
    · conv => whnf
      have c := of_decide_eq_true c
      refine c_FT_divides S (by omega) (by omega) ?_
      conv => whnf
      refine bk_b0 (fun c2 => ?_) (fun c2 => ?_)
      · conv => whnf
        rw [if_neg (fun q => by
          have := of_decide_eq_false c2
          exact this ⟨by omega, q.2⟩)] at hK
        have next := next hK
        rw [← km1] at next
        exact next
      · conv => whnf
        have c2 := of_decide_eq_true c2
        rw [if_pos ⟨c.2, c2.2⟩] at hK
        unfold gbI at hK
        rw [if_neg (by omega)] at hK
        exact hK
theorem c_Tower_greatestBetween {P : PSem} (S : SysOK P) {h : PH} {d n : Nat} (hd1 : 1 ≤ d) (hdn : d < n) (hn : n ≤ 12) {K : PK} (hK : K (.int (gbI (gbw d n))) h) : P.1 n_Tower_greatestBetween [.int (nI d), .int (nI n)] h K := by
  refine S.2.1 _ 3 _ _ _ rfl rfl ?_
  refine S.at 4 [] rfl ?_
  conv => whnf
  have := l_Tow_gb S (h := h) (K := K) hd1 hn (n - 1 - d) (by omega) hK
  rw [show d + (n - 1 - d) = n - 1 by omega, ← pk_sub (a := n) (b := 1) (by omega)] at this
  exact this
/-- both ways agree if they agree for x -/
theorem AGR_iff {u : Nat → Nat} {r : Nat → Nat → Nat} (hu : MDS u) (hr : IMG u r) {n d a : Nat} (hn1 : 1 ≤ n) (hn : n ≤ 12) (hd1 : 1 ≤ d) (hd : d ∣ n) (ha : root n (u n) (u d) a) : AGR u r d n a ↔ ∀ e, d < e → e < n → e ∣ n → 1 < Nat.gcd d e → pvl n (u n) a (r (Nat.gcd d e) d) = pvl n (u n) (r e n) (r (Nat.gcd d e) e) := by
  have hm := (hu n hn1 hn).1
  have hdn := Nat.le_of_dvd hn1 hd
  have key : ∀ e, d < e → e < n → e ∣ n → ∀ v, pvl n (u n) a (pvl d (u d) (r (Nat.gcd d e) d) v) = pvl n (u n) (pvl n (u n) a (r (Nat.gcd d e) d)) v ∧ pvl n (u n) (r e n) (pvl e (u e) (r (Nat.gcd d e) e) v) = pvl n (u n) (pvl n (u n) (r e n) (r (Nat.gcd d e) e)) v := by
    intro e e1 e2 e3 v
    have g0 : 1 ≤ Nat.gcd d e := Nat.gcd_pos_of_pos_left _ hd1
    exact ⟨hom_comp (hu d hd1 (by omega)).1 hm ha (IMG_root hu hr d _ hd1 (by omega) g0 (Nat.gcd_dvd_left d e)).1 v, hom_comp (hu e (by omega) (by omega)).1 hm (IMG_root hu hr n e hn1 hn (by omega) e3) (IMG_root hu hr e _ (by omega) (by omega) g0 (Nat.gcd_dvd_right d e)).1 v⟩
  constructor
  · intro h e e1 e2 e3 e4
    have h4 : 2 < 2 ^ Nat.gcd d e := Nat.lt_of_lt_of_le (by decide : 2 < 2 ^ 2) (pow_le e4)
    have := h e e1 e2 e3 2 h4
    rw [(key e e1 e2 e3 2).1, (key e e1 e2 e3 2).2, pvl_x hm (pvl_lt hm ha.1), pvl_x hm (pvl_lt hm (IMG_root hu hr n e hn1 hn (by omega) e3).1)] at this
    exact this
  · intro h e e1 e2 e3 v hv
    rw [(key e e1 e2 e3 v).1, (key e e1 e2 e3 v).2]
    rcases Nat.lt_or_ge 1 (Nat.gcd d e) with w | w
    · rw [h e e1 e2 e3 w]
    · have g0 : 1 ≤ Nat.gcd d e := Nat.gcd_pos_of_pos_left _ hd1
      have : Nat.gcd d e = 1 := by omega
      rw [this] at hv
      rcases (show v = 0 ∨ v = 1 by have : v < 2 := hv; omega) with rfl | rfl
      · rw [pvl_0, pvl_0]
      · rw [pvl_1, pvl_1]
/-- the images of a field's divisors stand in its row -/
def IMS (h : PH) (r : Nat → Nat → Nat) (n : Nat) : Prop := ∀ d, 1 ≤ d → d ∣ n → hI h (16 + n) d = nI (r d n)
theorem l_Tow_agr {P : PSem} (S : SysOK P) {h : PH} (hw : WS h) {u : Nat → Nat} {r : Nat → Nat → Nat} (hu : MDS u) (hr : IMG u r) {n d a : Nat} (hn1 : 1 ≤ n) (hn : n ≤ 12) (hd1 : 1 ≤ d) (hd : d ∣ n) (hdn : d < n) (hF : FOK h (27 + 4 * n) n (u n)) (ha : root n (u n) (u d) a) (hp : ∀ e, 1 ≤ e → e < n → e ∣ n → IMS h r e) (hq : ∀ e, d < e → e < n → e ∣ n → hI h (16 + n) e = nI (r e n)) {K : PK}
    (hY : (∀ e, d < e → e < n → e ∣ n → 1 < Nat.gcd d e → pvl n (u n) a (r (Nat.gcd d e) d) = pvl n (u n) (r e n) (r (Nat.gcd d e) e)) → K (.int 1) h) (hN : ∀ e, d < e → e < n → e ∣ n → 1 < Nat.gcd d e → pvl n (u n) a (r (Nat.gcd d e) d) ≠ pvl n (u n) (r e n) (r (Nat.gcd d e) e) → K (.int 0) h) : ∀ j q, q + j = n → d < q → (∀ e, d < e → e < q → e ∣ n → 1 < Nat.gcd d e → pvl n (u n) a (r (Nat.gcd d e) d) = pvl n (u n) (r e n) (r (Nat.gcd d e) e)) →
    P.2 n_Tower_agrees 4 [some (.ref 8), some (.int (nI d)), some (.int (nI n)), some (.int (nI a)), some (.int (nI q)), none] [] h 0 0 K := by
  have h12 := pow12 hn
  have hm := (hu n hn1 hn).1
  intro j
  induction j with
  | zero =>
    intro q hq0 hdq hall
    refine S.at 60 [] rfl ?_
    conv => whnf
    refine bk_t ((zn_le (by omega) (by omega)).mpr (by omega)) ?_
    conv => whnf
    exact ⟨Or.inr rfl, hY (fun e e1 e2 => hall e e1 (by omega))⟩
  | succ j ih =>
    intro q hq0 hdq hall
    have g0 : 1 ≤ Nat.gcd d q := Nat.gcd_pos_of_pos_left _ hd1
    have gd : Nat.gcd d q ≤ d := Nat.le_of_dvd (by omega) (Nat.gcd_dvd_left d q)
    refine S.at 80 [] rfl ?_
    conv => whnf
    refine bk_f (fun c => absurd ((zn_le (by omega) (by omega)).mp c) (by omega)) ?_
    conv => whnf
    refine c_FT_common S (by omega) (by omega) ?_
    conv => whnf
    refine c_FT_divides S (by omega) (by omega) ?_
    conv => whnf
    refine bk_b0 (fun c => ?_) (fun c => ?_)
    · have c := of_decide_eq_false c
      conv => whnf
      have next := ih (q + 1) (by omega) (by omega) (fun e e1 e2 e3 => by
        rcases Nat.eq_or_lt_of_le (Nat.le_of_lt_succ e2) with w | w
        · subst w
          exact absurd ⟨by omega, Nat.mod_eq_zero_of_dvd e3⟩ c
        · exact hall e e1 w e3)
      rw [← nI_1] at next
      exact next
    · have c := of_decide_eq_true c
      have hqn := Nat.dvd_of_mod_eq_zero c.2
      conv => whnf
      refine bk_le (b := 1) (by omega) (by decide) (fun c2 => ?_) (fun c2 => ?_)
      · conv => whnf
        have next := ih (q + 1) (by omega) (by omega) (fun e e1 e2 e3 e4 => by
          rcases Nat.eq_or_lt_of_le (Nat.le_of_lt_succ e2) with w | w
          · subst w
            omega
          · exact hall e e1 w e3 e4)
        rw [← nI_1] at next
        exact next
      · have rg1 := (IMG_root hu hr d _ hd1 (by omega) g0 (Nat.gcd_dvd_left d q)).1
        have rg2 := (IMG_root hu hr q _ (by omega) (by omega) g0 (Nat.gcd_dvd_right d q)).1
        have rqn := (IMG_root hu hr n q hn1 hn (by omega) hqn).1
        have p1 : (2 : Nat) ^ d ≤ 4096 := pow12 (by omega)
        have p2 : (2 : Nat) ^ q ≤ 4096 := pow12 (by omega)
        conv => whnf
        refine ⟨wt_8 hw, ?_⟩
        conv => whnf
        rw [wr_8_0 hw]
        refine ⟨Or.inl (wi_in9 hw hn1 hn), ?_⟩
        conv => whnf
        rw [nI_clamp (by omega), wi_fld hw hn1 hn]
        refine ⟨wt_8 hw, ?_⟩
        conv => whnf
        rw [wr_8_4 hw]
        refine ⟨Or.inr (Or.inr (Or.inr (wi_img0 hw hd1 (by omega)))), ?_⟩
        conv => whnf
        rw [nI_clamp (by omega), wi_img hw hd1 (by omega)]
        refine ⟨wi_im hw hd1 (by omega) (by omega), ?_⟩
        conv => whnf
        rw [nI_clamp (by omega), hp d hd1 hdn hd _ g0 (Nat.gcd_dvd_left d q)]
        refine ⟨hF.1, ?_⟩
        conv => whnf
        refine c_Field_valueAt S hF hn hm ha.1 (by omega) ?_
        conv => whnf
        refine ⟨wt_8 hw, ?_⟩
        conv => whnf
        rw [wr_8_0 hw]
        refine ⟨Or.inl (wi_in9 hw hn1 hn), ?_⟩
        conv => whnf
        rw [nI_clamp (by omega), wi_fld hw hn1 hn]
        refine ⟨wt_8 hw, ?_⟩
        conv => whnf
        rw [wr_8_4 hw]
        refine ⟨Or.inr (Or.inr (Or.inr (wi_img0 hw (by omega) (by omega)))), ?_⟩
        conv => whnf
        rw [nI_clamp (show q < 2 ^ 31 by omega), wi_img hw (n := q) (by omega) (by omega)]
        refine ⟨wi_im hw (n := q) (by omega) (by omega) (by omega), ?_⟩
        conv => whnf
        rw [nI_clamp (show Nat.gcd d q < 2 ^ 31 by omega), hp q (by omega) (by omega) hqn _ g0 (Nat.gcd_dvd_right d q)]
        refine ⟨wt_8 hw, ?_⟩
        conv => whnf
        rw [wr_8_4 hw]
        refine ⟨Or.inr (Or.inr (Or.inr (wi_img0 hw hn1 hn))), ?_⟩
        conv => whnf
        rw [nI_clamp (show n < 2 ^ 31 by omega), wi_img hw hn1 hn]
        refine ⟨wi_im hw hn1 hn (by omega), ?_⟩
        conv => whnf
        rw [nI_clamp (show q < 2 ^ 31 by omega), hq q hdq (by omega) hqn]
        refine ⟨hF.1, ?_⟩
        conv => whnf
        refine c_Field_valueAt S hF hn hm rqn (by omega) ?_
        conv => whnf
        have v1 := pvl_lt hm ha.1 (p := r (Nat.gcd d q) d)
        have v2 := pvl_lt hm rqn (p := r (Nat.gcd d q) q)
        refine bk_eq (by omega) (by omega) (fun c3 => ?_) (fun c3 => ?_)
        · conv => whnf
          have next := ih (q + 1) (by omega) (by omega) (fun e e1 e2 e3 e4 => by
            rcases Nat.eq_or_lt_of_le (Nat.le_of_lt_succ e2) with w | w
            · subst w
              exact c3
            · exact hall e e1 w e3 e4)
          rw [← nI_1] at next
          exact next
        · conv => whnf
          exact ⟨Or.inl rfl, hN q hdq (by omega) hqn c2 c3⟩
theorem c_Tower_agrees {P : PSem} (S : SysOK P) {h : PH} (hw : WS h) {u : Nat → Nat} {r : Nat → Nat → Nat} (hu : MDS u) (hr : IMG u r) {n d a : Nat} (hn1 : 1 ≤ n) (hn : n ≤ 12) (hd1 : 1 ≤ d) (hd : d ∣ n) (hdn : d < n) (hF : FOK h (27 + 4 * n) n (u n)) (ha : root n (u n) (u d) a) (hp : ∀ e, 1 ≤ e → e < n → e ∣ n → IMS h r e) (hq : ∀ e, d < e → e < n → e ∣ n → hI h (16 + n) e = nI (r e n)) {K : PK}
    (hY : AGR u r d n a → K (.int 1) h) (hN : ¬ AGR u r d n a → K (.int 0) h) : P.1 n_Tower_agrees [.ref 8, .int (nI d), .int (nI n), .int (nI a)] h K := by
  have hiff := AGR_iff hu hr hn1 hn hd1 hd ha
  refine S.2.1 _ 6 _ _ _ rfl rfl ?_
  refine S.at 4 [] rfl ?_
  conv => whnf
  have := l_Tow_agr S hw hu hr hn1 hn hd1 hd hdn hF ha hp hq (K := K) (fun q => hY (hiff.mpr q)) (fun e e1 e2 e3 e4 e5 => hN (fun q => e5 (hiff.mp q e e1 e2 e3 e4))) (n - (d + 1)) (d + 1) (by omega) (by omega) (fun e e1 e2 => by omega)
  rw [← nI_1] at this
  exact this
