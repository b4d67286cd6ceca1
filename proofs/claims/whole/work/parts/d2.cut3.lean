/-! TOKENS: the reference cuts the whole text -/
theorem l_M_key {P : PSem} (S : SysOK P) {h : PH} (hw : WS h) {q k w d i v : Nat} (hi : i < 3) (hk : hL h 123 i = lN v) (hv : v < 2 ^ 63) (hwl : w < 2 ^ 63) {K : PK}
    (hK : P.2 n_M_cutsText 78 [some (.ref 116), some (.int (nI q)), none, some (.int (nI k)), some (.long (lN w)), none, some (.int (nI (if v = w then 20 + i else d))), some (.int (nI (i + 1)))] [] h 0 0 K) :
    P.2 n_M_cutsText 78 [some (.ref 116), some (.int (nI q)), none, some (.int (nI k)), some (.long (lN w)), none, some (.int (nI d)), some (.int (nI i))] [] h 0 0 K := by
  rw [← nI_1 i] at hK
  refine S.at 60 [] rfl ?_
  conv => whnf
  refine bk_f (fun c => absurd ((zn_le (a := 3) (by omega) (by omega)).mp c) (by omega)) ?_
  conv => whnf
  refine ⟨wt_116 hw, ?_⟩
  conv => whnf
  rw [wr_116_9 hw]
  refine ⟨inB_of (wt_123 hw) (wn_123 hw) hi (by decide), ?_⟩
  conv => whnf
  rw [nI_clamp (by omega), hk]
  rcases Nat.decEq v w with c | c
  · rw [if_neg c] at hK
    refine bk_nt ((fun z => c ((l_cmp0 hv hwl).mp z))) ?_
    conv => whnf
    refine S.mk [(0,1),(0,1),(0,0),(0,1),(0,1),(0,0),(0,1),(0,1)] ?_
    exact hK
  · rw [if_pos c, zn_plus 20 i] at hK
    refine bk_nf (((l_cmp0 hv hwl).mpr c)) ?_
    conv => whnf
    refine S.mk [(0,1),(0,1),(0,0),(0,1),(0,1),(0,0),(0,1),(0,1)] ?_
    exact hK
theorem wd_kind {tx : Nat → Nat} {q k : Nat} (hk : k ≤ 8) (hl : ∀ i, i < k → ltrB (tx (q + i)) = true) : kM (wdK (nmF 32 tx q k)) = (if 24 = nmF 27 tx q k then 20 + 2 else if 8903 = nmF 27 tx q k then 20 + 1 else if 5254248403 = nmF 27 tx q k then 20 + 0 else 1) := by
  have f := fun w => nm_inj (B := 32) (C := 27) (by decide) (by decide) hk hl (w := w) rfl
  have g := fun w => nm_inj (B := 27) (C := 32) (by decide) (by decide) hk hl (w := w) rfl
  have a1 : nmF 32 tx q k = 14466855603 ↔ 5254248403 = nmF 27 tx q k := ⟨fun y => (f _ y).symm, fun y => g _ y.symm⟩
  have a2 : nmF 32 tx q k = 12468 ↔ 8903 = nmF 27 tx q k := ⟨fun y => (f _ y).symm, fun y => g _ y.symm⟩
  have a3 : nmF 32 tx q k = 24 ↔ 24 = nmF 27 tx q k := ⟨fun y => (f _ y).symm, fun y => g _ y.symm⟩
  unfold wdK
  simp only [← a1, ← a2, ← a3]
  rcases Nat.decEq (nmF 32 tx q k) 24 with c | c
  · rcases Nat.decEq (nmF 32 tx q k) 12468 with d | d
    · rcases Nat.decEq (nmF 32 tx q k) 14466855603 with e | e
      · rw [if_neg e, if_neg d, if_neg c, if_neg c, if_neg d, if_neg e]
        rfl
      · rw [if_pos e, if_neg c, if_neg d, if_pos e]
        rfl
    · rw [if_neg (by omega), if_pos d, if_neg c, if_pos d]
      rfl
  · rw [if_neg (by omega), if_neg (by omega), if_pos c, if_pos c]
    rfl
theorem CUT.step {h0 h : PH} {tx : Nat → Nat} {L t : Nat} (e : CUT h0 h tx L t) (ne : tkk tx L t ≠ 14) {k a v : Int32} {n : Int64} (hk : k = nI (kM (tkk tx L t))) (ha : a = nI (tkS tx L t)) (hv : v = nI (tkv tx L t)) (hn : n = lN (tkn tx L t)) : CUT h0 (tkH h t k a v n) tx L (t + 1) := by
  obtain ⟨a1, a2, a3, a4⟩ := e
  obtain ⟨b1, b2, b3⟩ := tkH_ok a1 a4 hk ha hv hn
  refine ⟨b1, b2, fun i hi => ?_, b3⟩
  rcases Nat.lt_or_ge i t with w | w
  · exact a3 i w
  · have e : i = t := by omega
    rw [e]
    exact ne
theorem y_M_cut {P : PSem} (S : SysOK P) {h0 : PH} (hw0 : WS h0) {tx : Nat → Nat} {L : Nat} (hT0 : TX h0 tx L) (hY0 : MKY h0) (hB : TXB tx) (hM : L ≤ 2000) {K : PK} (hK : ∀ h', CUF h0 h' tx L → K .null h') {t p : Nat} {h : PH} (ht : t ≤ 401) (hp : p ≤ L) (hc : CUT h0 h tx L t) (hq : skF tx L p = tkS tx L t)
    (nxt : ∀ t' p' h', t' ≤ 401 → p < p' → p' ≤ L → CUT h0 h' tx L t' → skF tx L p' = tkS tx L t' → P.2 n_M_cutsText 5 [some (.ref 116), some (.int (nI p')), none, none, none, none, none, none] [] h' 0 0 K) :
    P.2 n_M_cutsText 5 [some (.ref 116), some (.int (nI p)), none, none, none, none, none, none] [] h 0 0 K := by
  have hw := eqY_WS hc.1.1 hw0
  have hT := hc.1.tx hT0
  have hY := hc.1.ky hY0
  refine S.at 80 [39] rfl ?_
  conv => whnf
  refine ⟨wt_116 hw, ?_⟩
  conv => whnf
  rw [hc.2.1]
  refine bk_lt (a := 400) (b := t) (by omega) (by omega) (fun c => ?_) (fun c => ?_)
  · conv => whnf
    refine hK h ⟨hc.1, fun i hi _ => hc.2.2.2 i (by omega), fun i hi _ z => absurd z (hc.2.2.1 i (by omega))⟩
  conv => whnf
  refine ⟨wt_116 hw, ?_⟩
  refine c_M_byteAt S hw hT hB hM (by omega) ?_
  conv => whnf
  refine ⟨wt_116 hw, ?_⟩
  conv => whnf
  rw [hT.1]
  refine bk_lt (by omega) (by omega) (fun d => ?_) (fun d => ?_)
  rotate_left
  · have e : p = L := by omega
    have sk : tkS tx L t = L := by
      rw [← hq, e]
      exact sk_at (fun w => absurd w (Nat.lt_irrefl L))
    have lq : L ≤ tkS tx L t := by omega
    conv => whnf
    refine ⟨wt_116 hw, ?_⟩
    conv => whnf
    rw [hT.1]
    refine ⟨wt_116 hw, ?_⟩
    refine c_M_token S hw (by omega) hc.2.1 ?_
    conv => whnf
    have k14 : tkk tx L t = 14 := by
      unfold tkk tkK
      rw [if_pos lq]
    obtain ⟨b1, b2, b3⟩ := tkH_ok (k := 0) (a := nI L) (v := 0) (n := 0) hc.1 hc.2.2.2 (by rw [k14]; rfl) (by rw [sk]) (by unfold tkv; rw [if_pos lq]; rfl) (by unfold tkn; rw [if_pos lq]; rfl)
    refine hK _ ⟨b1, fun i hi z => ?_, fun i hi z z' => ?_⟩
    · rcases Nat.lt_or_ge i (t + 1) with w | w
      · exact b3 i w
      · exact absurd k14 (z t (by omega))
    · rcases Nat.lt_trichotomy i t with w | w | w
      · exact absurd z' (hc.2.2.1 i w)
      · rw [w]
        exact b2
      · exact absurd k14 (z t w)
  rw [bt_in d]
  have tb := hB p
  have n37 : blkB (tx p) = true → P.2 n_M_cutsText 5 [some (.ref 116), some (.int (nI p + 1)), none, none, none, none, none, none] [] h 0 0 K := by
    intro z
    rw [nI_1]
    exact nxt t (p + 1) h ht (by omega) d hc ((sk_blank hM d z).symm.trans hq)
  have n39 : blkB (tx p) = false → P.2 n_M_cutsText 39 [some (.ref 116), some (.int (nI p)), some (.int (nI (tx p))), none, none, none, none, none] [] h 0 0 K := by
    intro z
    have qp : tkS tx L t = p := by
      rw [← hq]
      exact sk_at (fun _ => z)
    have lq : ¬ L ≤ tkS tx L t := by omega
    have tP : tkP tx L (t + 1) = tkE tx L p := by
      show tkE tx L (tkS tx L t) = _
      rw [qp]
    have lp : ¬ L ≤ p := by omega
    refine S.at 80 [46,112] rfl ?_
    conv => whnf
    refine c_M_isLetter' S (by omega) ?_
    conv => whnf
    cases hl : ltrB (tx p) with
    | true =>
      obtain ⟨r1, r2, r3, r4⟩ := run_ok (f := fun q => ltrB (tx q)) hp hM
      have r5 := wd_run (f := fun q => ltrB (tx q)) d hM hl
      have r1 : p ≤ wdE tx L p := r1
      have r2 : wdE tx L p ≤ L := r2
      have r5 : p < wdE tx L p := r5
      have hE : tkE tx L p = wdE tx L p := by
        unfold tkE
        rw [if_neg lp, hl, if_pos rfl]
      have hk : tkk tx L t = if 8 < wdE tx L p - p then 13 else wdK (nmF 32 tx p (wdE tx L p - p)) := by
        unfold tkk tkK
        rw [qp, if_neg lp, hl, if_pos rfl]
      have hv : tkv tx L t = 0 := by
        unfold tkv
        rw [qp, if_neg lp, hl, if_pos rfl]
      have hn : tkn tx L t = nmF 27 tx p (min (wdE tx L p - p) 8) := by
        unfold tkn
        rw [qp, if_neg lp, hl, if_pos rfl]
      have hne : tkk tx L t ≠ 14 := by
        rw [hk]
        unfold wdK
        repeat' split
        all_goals decide
      refine bk_f ((by decide)) ?_
      conv => whnf
      refine S.mk [(0,1),(0,1),(0,0),(0,1),(0,1),(0,0),(0,0),(0,0)] ?_
      refine l_M_word (e := wdE tx L p) (q := p) S hw hT hB hM r1 r2 r3 (fun l h1 h2 => (r4 l h1 h2).2) ?_ (wdE tx L p - p) 0 (Nat.add_sub_cancel' r1)
      have n94 : ∀ x7, P.2 n_M_cutsText 94 [some (.ref 116), some (.int (nI p)), none, some (.int (nI (wdE tx L p - p))), some (.long (lN (nmF 27 tx p (min (wdE tx L p - p) 8)))), none, some (.int (nI (kM (tkk tx L t)))), x7] [] h 0 0 K := by
        intro x7
        have next := nxt (t + 1) (wdE tx L p) _ (by omega) r5 r2 (hc.step (k := nI (kM (tkk tx L t))) (a := nI p) (v := 0) (n := lN (nmF 27 tx p (min (wdE tx L p - p) 8))) hne rfl (by rw [qp]) (by rw [hv]; rfl) (by rw [hn])) (by
          show _ = skF tx L (tkP tx L (t + 1))
          rw [tP, hE])
        refine S.at 60 [] rfl ?_
        conv => whnf
        refine ⟨wt_116 hw, ?_⟩
        refine c_M_token S hw (by omega) hc.2.1 ?_
        conv => whnf
        refine S.mk [(0,1),(0,1),(0,0),(0,0),(0,0),(0,0),(0,0),(0,0)] ?_
        refine p2c ?_ next
        exact congrArg (fun z => [some (Value.ref 116), some (.int z), none, none, none, none, none, none]) (by show nI p + nI (wdE tx L p - p) = _; rw [← zn_plus, Nat.add_sub_cancel' r1])
      refine S.at 60 [78,94] rfl ?_
      conv => whnf
      refine bk_le (b := 8) (by omega) (by omega) (fun c8 => ?_) (fun c8 => ?_)
      · rw [if_neg (by omega)] at hk
        have lw : ∀ i, i < wdE tx L p - p → ltrB (tx (p + i)) = true := fun i hi => (r4 (p + i) (by omega) (show p + i < wdE tx L p by omega)).2
        have kd := wd_kind c8 lw
        rw [← hk] at kd
        have nb : nmF 27 tx p (wdE tx L p - p) < 2 ^ 63 := by
          have a := nmF_lt (B := 27) (by decide) (wdE tx L p - p) lw
          have b : 27 ^ (wdE tx L p - p) ≤ 27 ^ 8 := Nat.pow_le_pow_right (by decide) c8
          have c : 27 ^ 8 < 2 ^ 63 := by decide
          omega
        rw [kd] at n94
        rw [Nat.min_eq_left c8] at n94
        rw [Nat.min_eq_left c8]
        conv => whnf
        refine bk_f (fun c => absurd ((zn_lt (a := 8) (by omega) (by omega)).mp c) (by omega)) ?_
        conv => whnf
        refine S.mk [(0,1),(0,1),(0,0),(0,1),(0,1),(0,0),(0,1),(0,1)] ?_
        refine l_M_key (i := 0) (d := 1) S hw (by decide) hY.1 (by decide) nb ?_
        refine l_M_key (i := 1) S hw (by decide) hY.2.1 (by decide) nb ?_
        refine l_M_key (i := 2) S hw (by decide) hY.2.2 (by decide) nb ?_
        refine S.at 60 [94] rfl ?_
        conv => whnf
        refine bk_t ((zn_le (a := 3) (b := 3) (by omega) (by omega)).mpr (by omega)) ?_
        conv => whnf
        exact n94 _
      · rw [if_pos (by omega)] at hk
        rw [hk] at n94
        conv => whnf
        refine bk_t ((zn_lt (a := 8) (by omega) (by omega)).mpr (by omega)) ?_
        conv => whnf
        exact n94 _
    | false =>
      refine bk_t (rfl) ?_
      conv => whnf
      refine c_M_isDigit' S (by omega) ?_
      conv => whnf
      cases hd : dgtB (tx p) with
      | true =>
        obtain ⟨r1, r2, r3, r4⟩ := run_ok (f := fun q => dgtB (tx q)) hp hM
        have r5 := wd_run (f := fun q => dgtB (tx q)) d hM hd
        have r1 : p ≤ rwE tx L p := r1
        have r2 : rwE tx L p ≤ L := r2
        have r5 : p < rwE tx L p := r5
        have hE : tkE tx L p = rwE tx L p := by
          unfold tkE
          rw [if_neg lp, hl, if_neg Bool.false_ne_true, hd, if_pos rfl]
        have hk : tkk tx L t = if 13 < rwE tx L p - p then 13 else 5 := by
          unfold tkk tkK
          rw [qp, if_neg lp, hl, if_neg Bool.false_ne_true, hd, if_pos rfl]
        have hv : tkv tx L t = vcF tx p (rwE tx L p - p) := by
          unfold tkv
          rw [qp, if_neg lp, hl, if_neg Bool.false_ne_true, hd, if_pos rfl]
        have hn : tkn tx L t = 0 := by
          unfold tkn
          rw [qp, if_neg lp, hl, if_neg Bool.false_ne_true]
        have hne : tkk tx L t ≠ 14 := by
          rw [hk]
          split
          all_goals decide
        refine bk_f ((by decide)) ?_
        conv => whnf
        refine S.mk [(0,1),(0,1),(0,0),(0,1),(0,1),(0,0),(0,0),(0,0)] ?_
        refine l_M_row (e := rwE tx L p) (q := p) S hw hT hB hM r1 r2 r3 (fun l h1 h2 => (r4 l h1 h2).2) ?_ (rwE tx L p - p) 0 (Nat.add_sub_cancel' r1)
        have next : ∀ kd, kd = nI (kM (tkk tx L t)) → P.2 n_M_cutsText 5 [some (.ref 116), some (.int (nI p + nI (rwE tx L p - p))), none, none, none, none, none, none] [] (tkH h t kd (nI p) (nI (vcF tx p (rwE tx L p - p))) 0) 0 0 K := by
          intro kd hkd
          rw [← zn_plus, Nat.add_sub_cancel' r1]
          exact nxt (t + 1) (rwE tx L p) _ (by omega) r5 r2 (hc.step hne hkd (by rw [qp]) (by rw [hv]) (by rw [hn]; rfl)) (by
            show _ = skF tx L (tkP tx L (t + 1))
            rw [tP, hE])
        refine S.at 60 [] rfl ?_
        conv => whnf
        refine bk_le (b := 13) (by omega) (by omega) (fun c8 => ?_) (fun c8 => ?_)
        · rw [if_neg (by omega)] at hk
          conv => whnf
          refine ⟨wt_116 hw, ?_⟩
          refine c_M_token S hw (by omega) hc.2.1 ?_
          conv => whnf
          refine S.mk [(0,1),(0,1),(0,0),(0,0),(0,0),(0,0),(0,0),(0,0)] ?_
          exact next 2 (by rw [hk]; rfl)
        · rw [if_pos (by omega)] at hk
          conv => whnf
          refine ⟨wt_116 hw, ?_⟩
          refine c_M_token S hw (by omega) hc.2.1 ?_
          conv => whnf
          refine S.mk [(0,1),(0,1),(0,0),(0,0),(0,0),(0,0),(0,0),(0,0)] ?_
          exact next 3 (by rw [hk]; rfl)
      | false =>
        have hE : tkE tx L p = p + 1 := by
          unfold tkE
          rw [if_neg lp, hl, if_neg Bool.false_ne_true, hd, if_neg Bool.false_ne_true]
        have hk : tkk tx L t = sgK (tx p) := by
          unfold tkk tkK
          rw [qp, if_neg lp, hl, if_neg Bool.false_ne_true, hd, if_neg Bool.false_ne_true]
        have hv : tkv tx L t = 0 := by
          unfold tkv
          rw [qp, if_neg lp, hl, if_neg Bool.false_ne_true, hd, if_neg Bool.false_ne_true]
        have hn : tkn tx L t = 0 := by
          unfold tkn
          rw [qp, if_neg lp, hl, if_neg Bool.false_ne_true]
        have hne : tkk tx L t ≠ 14 := by
          rw [hk]
          unfold sgK
          repeat' split
          all_goals decide
        refine bk_t (rfl) ?_
        conv => whnf
        refine ⟨wt_116 hw, ?_⟩
        refine c_M_sign S hw tb (by omega) hc.2.1 ?_
        conv => whnf
        have next := nxt (t + 1) (p + 1) _ (by omega) (by omega) d (hc.step (k := nI (kM (sgK (tx p)))) (a := nI p) (v := 0) (n := 0) hne (by rw [hk]) (by rw [qp]) (by rw [hv]; rfl) (by rw [hn]; rfl)) (by
          show _ = skF tx L (tkP tx L (t + 1))
          rw [tP, hE])
        rw [← nI_1 p] at next
        refine S.mk [(0,1),(0,1),(0,0),(0,0),(0,0),(0,0),(0,0),(0,0)] ?_
        exact next
  have eb : blkB (tx p) = (tx p == 9 || tx p == 10 || tx p == 13 || tx p == 32) := rfl
  conv => whnf
  refine bk_eq (b := 9) (by omega) (by omega) (fun z => ?_) (fun z9 => ?_)
  · conv => whnf
    refine S.mk [(0,1),(0,1),(0,0),(0,0),(0,0),(0,0),(0,0),(0,0)] ?_
    exact n37 (by rw [eb, z]; rfl)
  conv => whnf
  refine bk_eq (b := 10) (by omega) (by omega) (fun z => ?_) (fun z10 => ?_)
  · conv => whnf
    refine S.mk [(0,1),(0,1),(0,0),(0,0),(0,0),(0,0),(0,0),(0,0)] ?_
    exact n37 (by rw [eb, z]; rfl)
  conv => whnf
  refine bk_eq (b := 13) (by omega) (by omega) (fun z => ?_) (fun z13 => ?_)
  · conv => whnf
    refine S.mk [(0,1),(0,1),(0,0),(0,0),(0,0),(0,0),(0,0),(0,0)] ?_
    exact n37 (by rw [eb, z]; rfl)
  conv => whnf
  refine bk_ne (b := 32) (by omega) (by omega) (fun z => ?_) (fun z => ?_)
  · conv => whnf
    exact n39 (by rw [eb, beq_eq_false_iff_ne.mpr z9, beq_eq_false_iff_ne.mpr z10, beq_eq_false_iff_ne.mpr z13, beq_eq_false_iff_ne.mpr z]; rfl)
  · conv => whnf
    refine S.mk [(0,1),(0,1),(0,0),(0,0),(0,0),(0,0),(0,0),(0,0)] ?_
    exact n37 (by rw [eb, z]; rfl)
theorem c_M_cutsText {P : PSem} (S : SysOK P) {h : PH} (hw : WS h) {tx : Nat → Nat} {L : Nat} (hT : TX h tx L) (hY : MKY h) (hB : TXB tx) (hM : L ≤ 2000) {K : PK} (hK : ∀ h', CUF h h' tx L → K .null h') : P.1 n_M_cutsText [.ref 116] h K := by
  have lp : ∀ j t p h', t ≤ 401 → p ≤ L → L ≤ p + j → CUT h h' tx L t → skF tx L p = tkS tx L t → P.2 n_M_cutsText 5 [some (.ref 116), some (.int (nI p)), none, none, none, none, none, none] [] h' 0 0 K := by
    intro j
    induction j with
    | zero =>
      intro t p h' a b c d e
      exact y_M_cut S hw hT hY hB hM hK a b d e (fun t' p' h2 a2 b2 c2 d2 e2 => by omega)
    | succ j ih =>
      intro t p h' a b c d e
      exact y_M_cut S hw hT hY hB hM hK a b d e (fun t' p' h2 a2 b2 c2 d2 e2 => ih t' p' h2 a2 c2 (by omega) d2 e2)
  refine S.2.1 _ 8 _ _ _ rfl rfl ?_
  refine S.at 60 [5] rfl ?_
  conv => whnf
  refine ⟨wt_116 hw, ?_⟩
  conv => whnf
  refine lp L 0 0 _ (by decide) (Nat.zero_le _) (by omega) ⟨⟨eqY_sI (Or.inl rfl), fun j hj => hI_sI_j hj⟩, hI_sI, fun i hi => absurd hi (Nat.not_lt_zero i), fun i hi => absurd hi (Nat.not_lt_zero i)⟩ rfl
