/-! TOKENS: the reference's parser, expressions -/
theorem ps2 {K : Nat → Nat} {t : Nat} (a : K t ≠ 11) (b : K t ≠ 12) : (pst K (t + 1)).2.1 = (pst K t).2.1 := by
  show (if K t = 11 then _ else if K t = 12 then _ else _) = _
  rw [if_neg a, if_neg b]
theorem ps3 {K : Nat → Nat} {t : Nat} (a : K t ≠ 2) : (pst K (t + 1)).2.2 = (pst K t).2.2 := by
  show (if K t = 2 then _ else _) = _
  rw [if_neg a]
theorem ps1 {K : Nat → Nat} {t r k o : Nat} (a : (pst K t).1 = r) (b : K t = k) (c : (pst K t).2.1 = o) : (pst K (t + 1)).1 = gAf r k o := by
  show gAf _ _ _ = _
  rw [a, b, c]
def AP (K : Nat → Nat) (t o l : Nat) : Prop := (pst K t).1 ≠ 1 ∧ gAf (pst K t).1 (K t) (pst K t).2.1 = gPw (K t) (pst K t).2.1 ∧ (pst K t).2.1 = o ∧ (pst K t).2.2 = l
def A8 (K : Nat → Nat) (a r o l t : Nat) : Prop := a ≤ t ∧ (pst K t).1 = r ∧ (pst K t).2.1 = o ∧ (pst K t).2.2 = l
theorem BAD.ws {h0 h : PH} {tx : Nat → Nat} {L : Nat} (b : BAD h0 h tx L) (hw : WS h0) : WS h := eqX_WS b.1.1 hw
theorem OKs.ws {h0 h : PH} {tx : Nat → Nat} {L t l : Nat} (b : OKs h0 h tx L t l) (hw : WS h0) : WS h := eqX_WS b.1.1 hw
theorem c_M_maybePower {P : PSem} (S : SysOK P) {h0 h : PH} (hw0 : WS h0) {tx : Nat → Nat} {L l o a : Nat} (hH : HTK h0 tx L) (hs : (∃ t, OKs h0 h tx L t l ∧ A8 (tkk tx L) a 8 o l t) ∨ BAD h0 h tx L) {K : PK}
    (hK : ∀ h', (∃ t, OKs h0 h' tx L t l ∧ a ≤ t ∧ AP (tkk tx L) t o l) ∨ BAD h0 h' tx L → K .null h') : P.1 n_M_maybePower [.ref 116] h K := by
  rcases hs with ⟨t, ho, q1, q2, q3, q4⟩ | hb
  · have hw := ho.ws hw0
    have b8 := pT_8 ho.2.2.2.2
    refine S.go 40 rfl rfl rfl ?_
    conv => whnf
    refine ⟨wt_116 hw, ?_⟩
    refine c_M_is_ok (k := 10) S hw0 hH ho (by decide) (by decide) ?_
    conv => whnf
    refine bk_b1 (fun z => ?_) (fun z => ?_)
    · have z := of_decide_eq_true z
      have e1 : (pst (tkk tx L) (t + 1)).1 = 9 := ps1 q2 z q3
      have e2 : (pst (tkk tx L) (t + 1)).2.1 = o := (ps2 (by omega) (by omega)).trans q3
      have e3 : (pst (tkk tx L) (t + 1)).2.2 = l := (ps3 (by omega)).trans q4
      conv => whnf
      refine ⟨wt_116 hw, ?_⟩
      refine c_M_passes S hw0 hH ho (by rw [q2, z]; exact (by decide : (9 : Nat) ≠ 0)) (by omega) (by omega) ?_
      intro h1 s1
      have hw1 : WS h1 := by
        rcases s1 with s1 | s1
        · exact s1.ws hw0
        · exact s1.ws hw0
      conv => whnf
      refine ⟨wt_116 hw1, ?_⟩
      refine c_M_must (k := 5) (l := l) S hw0 hH (by decide) (by decide) (A8 (tkk tx L) (a + 1) 9 o l) ?_ ?_ ?_
      · rcases s1 with s1 | s1
        · exact Or.inl ⟨t + 1, s1, by omega, e1, e2, e3⟩
        · exact Or.inr s1
      · intro t' ht ⟨r1, r2, r3, r4⟩
        have b8 := pT_8 ht
        refine ⟨fun y => ⟨by rw [r2, y]; exact (by decide : (10 : Nat) ≠ 0), ?_, ?_⟩, fun y => ⟨by rw [r2]; exact if_neg y, by omega⟩⟩
        · rw [ps2 (by omega) (by omega)]
          exact b8.1
        · rw [ps3 (by omega)]
          exact b8.2
      · intro h2 s2
        conv => whnf
        refine hK h2 ?_
        rcases s2 with ⟨t', s2, ⟨r1, r2, r3, r4⟩, z2⟩ | s2
        · have f1 : (pst (tkk tx L) (t' + 1)).1 = 10 := ps1 r2 z2 r3
          exact Or.inl ⟨t' + 1, s2, by omega, by omega, by rw [f1]; rfl, (ps2 (by omega) (by omega)).trans r3, (ps3 (by omega)).trans r4⟩
        · exact Or.inr s2
    · have z := of_decide_eq_false z
      conv => whnf
      exact hK h (Or.inl ⟨t, ho, q1, by omega, by rw [q2]; exact if_neg z, q3, q4⟩)
  · have hw := hb.ws hw0
    refine S.go 40 rfl rfl rfl ?_
    conv => whnf
    refine ⟨wt_116 hw, ?_⟩
    refine c_M_is_bad S hw0 hb ?_
    conv => whnf
    refine bk_nf (rfl) ?_
    conv => whnf
    exact hK h (Or.inr hb)
theorem b_M_expr {P : PSem} (S : SysOK P) {h0 h : PH} (hw0 : WS h0) {tx : Nat → Nat} {L : Nat} (hb : BAD h0 h tx L) {w o : Int32} {K : PK} (hK : K .null h) : P.2 n_M_expression 4 [some (.ref 116), some (.int w), some (.int o)] [] h 0 0 K := by
  have hw := hb.ws hw0
  have e1 := pF_le (tkk tx L)
  have e2 := hb.2.2.1
  refine S.at 40 [] rfl ?_
  conv => whnf
  refine ⟨wt_116 hw, ?_⟩
  conv => whnf
  rw [hb.2.1]
  refine bk_nt (fun c => absurd ((zn_eq (b := 0) (by omega) (by omega)).mp c) (by omega)) ?_
  conv => whnf
  exact hK
def EXP (P : PSem) (K : PK) (tx : Nat → Nat) (L : Nat) (h' : PH) (t' l : Nat) : Prop := (∀ o', (pst (tkk tx L) t').1 = 7 → (pst (tkk tx L) t').2.1 = o' → (pst (tkk tx L) t').2.2 = l → P.2 n_M_expression 4 [some (.ref 116), some (.int 1), some (.int (nI o'))] [] h' 0 0 K) ∧ (∀ o', AP (tkk tx L) t' o' l → P.2 n_M_expression 4 [some (.ref 116), some (.int 0), some (.int (nI o'))] [] h' 0 0 K)
theorem y_M_expr {P : PSem} (S : SysOK P) {h0 h : PH} (hw0 : WS h0) {tx : Nat → Nat} {L t l a : Nat} (hH : HTK h0 tx L) (ho : OKs h0 h tx L t l) (ha : a ≤ t) {K : PK}
    (hK : ∀ h', (∃ t, OKs h0 h' tx L t l ∧ a ≤ t ∧ AP (tkk tx L) t 0 l ∧ tkk tx L t ≠ 7 ∧ tkk tx L t ≠ 8 ∧ tkk tx L t ≠ 9) ∨ BAD h0 h' tx L → K .null h')
    (nxt : ∀ t' h', t < t' → OKs h0 h' tx L t' l → EXP P K tx L h' t' l) : EXP P K tx L h t l := by
  have hw := ho.ws hw0
  have b8 := pT_8 ho.2.2.2.2
  have bad : ∀ h' w o, BAD h0 h' tx L → P.2 n_M_expression 4 [some (.ref 116), some (.int w), some (.int o)] [] h' 0 0 K := fun h' w o hb => b_M_expr S hw0 hb (hK h' (Or.inr hb))
  refine ⟨fun o q2 q3 q4 => ?_, fun o q => ?_⟩
  · have n44 : ∀ h', (∃ t', OKs h0 h' tx L t' l ∧ A8 (tkk tx L) (t + 1) 8 o l t') ∨ BAD h0 h' tx L → P.2 n_M_expression 44 [some (.ref 116), some (.int 1), some (.int (nI o))] [] h' 0 0 K := by
      intro h' s
      have hw' : WS h' := by
        rcases s with ⟨t', s, -⟩ | s
        · exact s.ws hw0
        · exact s.ws hw0
      refine S.at 40 [] rfl ?_
      conv => whnf
      refine ⟨wt_116 hw', ?_⟩
      refine c_M_maybePower S hw0 hH s ?_
      intro h2 s2
      conv => whnf
      refine S.mk [(0,1),(0,1),(0,1)] ?_
      rcases s2 with ⟨t2, s2, s3, s4⟩ | s2
      · exact (nxt t2 h2 (by omega) s2).2 o s4
      · exact bad h2 0 (nI o) s2
    have n38 : (tkk tx L t = 3 ∨ tkk tx L t = 5 ∨ tkk tx L t = 4) → P.2 n_M_expression 38 [some (.ref 116), some (.int 1), some (.int (nI o))] [] h 0 0 K := by
      intro z
      have e : gAf 7 (tkk tx L t) o = 8 := by
        show (if tkk tx L t = 11 then 7 else if tkk tx L t = 3 then 8 else if tkk tx L t = 5 then 8 else if tkk tx L t = 4 then 8 else 0) = 8
        repeat' split
        all_goals omega
      have f1 : (pst (tkk tx L) (t + 1)).1 = 8 := (ps1 q2 rfl q3).trans e
      have f2 : (pst (tkk tx L) (t + 1)).2.1 = o := (ps2 (by omega) (by omega)).trans q3
      have f3 : (pst (tkk tx L) (t + 1)).2.2 = l := (ps3 (by omega)).trans q4
      refine S.at 40 [44] rfl ?_
      conv => whnf
      refine ⟨wt_116 hw, ?_⟩
      refine c_M_passes S hw0 hH ho (by rw [q2, q3, e]; decide) (by omega) (by omega) ?_
      intro h1 s1
      conv => whnf
      refine n44 h1 ?_
      rcases s1 with s1 | s1
      · exact Or.inl ⟨t + 1, s1, Nat.le_refl _, f1, f2, f3⟩
      · exact Or.inr s1
    refine S.at 80 [38,44] rfl ?_
    conv => whnf
    refine ⟨wt_116 hw, ?_⟩
    conv => whnf
    rw [ho.2.2.1]
    refine bk_nf (rfl) ?_
    conv => whnf
    refine bk_f ((by decide)) ?_
    conv => whnf
    refine ⟨wt_116 hw, ?_⟩
    refine c_M_is_ok (k := 11) S hw0 hH ho (by decide) (by decide) ?_
    conv => whnf
    refine bk_b0 (fun z => ?_) (fun z => ?_)
    · have z11 := of_decide_eq_false z
      conv => whnf
      refine bk_f ((by decide)) ?_
      conv => whnf
      refine ⟨wt_116 hw, ?_⟩
      refine c_M_is_ok (k := 3) S hw0 hH ho (by decide) (by decide) ?_
      conv => whnf
      refine bk_b1 (fun z => ?_) (fun z => ?_)
      · have z := of_decide_eq_true z
        conv => whnf
        exact n38 (Or.inl z)
      have z3 := of_decide_eq_false z
      conv => whnf
      refine ⟨wt_116 hw, ?_⟩
      refine c_M_is_ok (k := 5) S hw0 hH ho (by decide) (by decide) ?_
      conv => whnf
      refine bk_b1 (fun z => ?_) (fun z => ?_)
      · have z := of_decide_eq_true z
        conv => whnf
        exact n38 (Or.inr (Or.inl z))
      have z5 := of_decide_eq_false z
      conv => whnf
      refine ⟨wt_116 hw, ?_⟩
      refine c_M_is_ok (k := 4) S hw0 hH ho (by decide) (by decide) ?_
      conv => whnf
      refine bk_b0 (fun z => ?_) (fun z => ?_)
      rotate_left
      · have z := of_decide_eq_true z
        conv => whnf
        exact n38 (Or.inr (Or.inr z))
      have z4 := of_decide_eq_false z
      have e : gAf 7 (tkk tx L t) o = 0 := by
        show (if tkk tx L t = 11 then 7 else if tkk tx L t = 3 then 8 else if tkk tx L t = 5 then 8 else if tkk tx L t = 4 then 8 else 0) = 0
        rw [if_neg z11, if_neg z3, if_neg z5, if_neg z4]
      conv => whnf
      refine ⟨wt_116 hw, ?_⟩
      refine c_M_fail_ok (v := 1) S hw0 hH ho (fl_1 ho.2.2.2.2 (by rw [q2, q3]; exact e) (by omega)) (by decide) ?_
      intro h' b
      conv => whnf
      exact n44 h' (Or.inr b)
    · have z := of_decide_eq_true z
      have g : gAf (pst (tkk tx L) t).1 (tkk tx L t) (pst (tkk tx L) t).2.1 ≠ 0 := by
        rw [q2, z]
        exact (by decide : (7 : Nat) ≠ 0)
      have f1 : (pst (tkk tx L) (t + 1)).1 = 7 := ps1 q2 z q3
      have f2 : (pst (tkk tx L) (t + 1)).2.1 = o + 1 := by
        show (if tkk tx L t = 11 then _ else _) = _
        rw [if_pos z, q3]
      have f3 : (pst (tkk tx L) (t + 1)).2.2 = l := (ps3 (by omega)).trans q4
      conv => whnf
      refine bk_ne (b := 8) (by omega) (by omega) (fun c => ?_) (fun c => ?_)
      · conv => whnf
        refine ⟨wt_116 hw, ?_⟩
        refine c_M_passes S hw0 hH ho g (by omega) (by omega) ?_
        intro h1 s1
        conv => whnf
        refine S.mk [(0,1),(0,1),(0,1)] ?_
        rcases s1 with s1 | s1
        · have next := (nxt (t + 1) h1 (by omega) s1).1 (o + 1) f1 f2 f3
          rw [← nI_1 o] at next
          exact next
        · exact bad h1 1 (nI o + 1) s1
      · conv => whnf
        refine ⟨wt_116 hw, ?_⟩
        refine c_M_fail_ok (v := 2) S hw0 hH ho (fl_2 ho.2.2.2.2 g (by omega)) (by decide) ?_
        intro h' b
        conv => whnf
        refine S.mk [(0,1),(0,1),(0,1)] ?_
        exact bad h' 1 (nI o + 1) b
  · obtain ⟨q1, q2, q3, q4⟩ := q
    have n61 : (tkk tx L t = 7 ∨ tkk tx L t = 8 ∨ tkk tx L t = 9) → P.2 n_M_expression 61 [some (.ref 116), some (.int 0), some (.int (nI o))] [] h 0 0 K := by
      intro z
      have e : gPw (tkk tx L t) (pst (tkk tx L) t).2.1 = 7 := by
        unfold gPw
        repeat' split
        all_goals omega
      have f1 : (pst (tkk tx L) (t + 1)).1 = 7 := q2.trans e
      have f2 : (pst (tkk tx L) (t + 1)).2.1 = o := (ps2 (by omega) (by omega)).trans q3
      have f3 : (pst (tkk tx L) (t + 1)).2.2 = l := (ps3 (by omega)).trans q4
      refine S.at 40 [] rfl ?_
      conv => whnf
      refine ⟨wt_116 hw, ?_⟩
      refine c_M_passes S hw0 hH ho (by rw [q2, e]; decide) (by omega) (by omega) ?_
      intro h1 s1
      conv => whnf
      refine S.mk [(0,1),(0,1),(0,1)] ?_
      rcases s1 with s1 | s1
      · exact (nxt (t + 1) h1 (by omega) s1).1 o f1 f2 f3
      · exact bad h1 1 (nI o) s1
    refine S.at 80 [61] rfl ?_
    conv => whnf
    refine ⟨wt_116 hw, ?_⟩
    conv => whnf
    rw [ho.2.2.1]
    refine bk_nf (rfl) ?_
    conv => whnf
    refine bk_t (rfl) ?_
    conv => whnf
    refine bk_t (rfl) ?_
    conv => whnf
    refine ⟨wt_116 hw, ?_⟩
    refine c_M_is_ok (k := 7) S hw0 hH ho (by decide) (by decide) ?_
    conv => whnf
    refine bk_b1 (fun z => ?_) (fun z => ?_)
    · have z := of_decide_eq_true z
      conv => whnf
      exact n61 (Or.inl z)
    have z7 := of_decide_eq_false z
    conv => whnf
    refine ⟨wt_116 hw, ?_⟩
    refine c_M_is_ok (k := 8) S hw0 hH ho (by decide) (by decide) ?_
    conv => whnf
    refine bk_b1 (fun z => ?_) (fun z => ?_)
    · have z := of_decide_eq_true z
      conv => whnf
      exact n61 (Or.inr (Or.inl z))
    have z8 := of_decide_eq_false z
    conv => whnf
    refine ⟨wt_116 hw, ?_⟩
    refine c_M_is_ok (k := 9) S hw0 hH ho (by decide) (by decide) ?_
    conv => whnf
    refine bk_b0 (fun z => ?_) (fun z => ?_)
    rotate_left
    · have z := of_decide_eq_true z
      conv => whnf
      exact n61 (Or.inr (Or.inr z))
    have z9 := of_decide_eq_false z
    conv => whnf
    refine bk_ne (b := 0) (by omega) (by omega) (fun c => ?_) (fun c => ?_)
    rotate_left
    · subst c
      conv => whnf
      exact hK h (Or.inl ⟨t, ho, ha, ⟨q1, q2, q3, q4⟩, z7, z8, z9⟩)
    conv => whnf
    refine ⟨wt_116 hw, ?_⟩
    refine c_M_must (k := 12) S hw0 hH (by decide) (by decide) (fun t' => t' = t) (Or.inl ⟨t, ho, rfl⟩) ?_ ?_
    · intro t' ht e
      subst e
      refine ⟨fun y => ⟨?_, ?_, ?_⟩, fun y => ⟨?_, by omega⟩⟩
      · rw [q2, y]
        show (if (pst (tkk tx L) t').2.1 = 0 then 0 else 8) ≠ 0
        rw [if_neg (by omega)]
        decide
      · show (if tkk tx L t' = 11 then _ else if tkk tx L t' = 12 then _ else _) ≤ 8
        rw [if_neg (by omega), if_pos y]
        omega
      · rw [ps3 (by omega)]
        omega
      · rw [q2]
        unfold gPw
        rw [if_neg z7, if_neg z8, if_neg z9, if_neg y]
        split
        · rw [if_neg (by omega)]
        · rfl
    intro h1 s1
    have em : nI o + (-1) = nI (o - 1) := by
      rw [← zn_mns (by omega)]
      exact (Int32.sub_eq_add_neg _ _).symm
    have hw1 : WS h1 := by
      rcases s1 with ⟨t', s, -⟩ | s
      · exact s.ws hw0
      · exact s.ws hw0
    conv => whnf
    refine ⟨wt_116 hw1, ?_⟩
    refine c_M_maybePower (a := t + 1) (o := o - 1) (l := l) S hw0 hH ?_ ?_
    · rcases s1 with ⟨t', s, e, y⟩ | s
      · subst e
        refine Or.inl ⟨t' + 1, s, Nat.le_refl _, ?_, ?_, (ps3 (by omega)).trans q4⟩
        · show gAf _ _ _ = 8
          rw [q2, y]
          show (if (pst (tkk tx L) t').2.1 = 0 then 0 else 8) = 8
          rw [if_neg (by omega)]
        · show (if tkk tx L t' = 11 then _ else if tkk tx L t' = 12 then _ else _) = _
          rw [if_neg (by omega), if_pos y, q3]
      · exact Or.inr s
    intro h2 s2
    conv => whnf
    refine S.mk [(0,1),(0,1),(0,1)] ?_
    refine p2c (pl' := [some (.ref 116), some (.int 0), some (.int (nI (o - 1)))]) (congrArg (fun z => [some (Value.ref 116), some (.int 0), some (.int z)]) em) ?_
    rcases s2 with ⟨t2, s2, s3, s4⟩ | s2
    · exact (nxt t2 h2 (by omega) s2).2 (o - 1) s4
    · exact bad h2 0 _ s2
theorem l_M_expr {P : PSem} (S : SysOK P) {h0 : PH} (hw0 : WS h0) {tx : Nat → Nat} {L l a : Nat} (hH : HTK h0 tx L) {K : PK}
    (hK : ∀ h', (∃ t, OKs h0 h' tx L t l ∧ a ≤ t ∧ AP (tkk tx L) t 0 l ∧ tkk tx L t ≠ 7 ∧ tkk tx L t ≠ 8 ∧ tkk tx L t ≠ 9) ∨ BAD h0 h' tx L → K .null h') : ∀ j t h, pT (tkk tx L) ≤ t + j → a ≤ t → OKs h0 h tx L t l → EXP P K tx L h t l := by
  intro j
  induction j with
  | zero =>
    intro t h hj ha ho
    exact y_M_expr S hw0 hH ho ha hK (fun t' h' lt o' => by have := o'.2.2.2.2; omega)
  | succ j ih =>
    intro t h hj ha ho
    exact y_M_expr S hw0 hH ho ha hK (fun t' h' lt o' => ih t' h' (by omega) (by omega) o')
theorem c_M_expression {P : PSem} (S : SysOK P) {h0 h : PH} (hw0 : WS h0) {tx : Nat → Nat} {L l a : Nat} (hH : HTK h0 tx L) (hs : (∃ t, OKs h0 h tx L t l ∧ A8 (tkk tx L) a 7 0 l t) ∨ BAD h0 h tx L) {K : PK}
    (hK : ∀ h', (∃ t, OKs h0 h' tx L t l ∧ a ≤ t ∧ AP (tkk tx L) t 0 l ∧ tkk tx L t ≠ 7 ∧ tkk tx L t ≠ 8 ∧ tkk tx L t ≠ 9) ∨ BAD h0 h' tx L → K .null h') : P.1 n_M_expression [.ref 116] h K := by
  refine S.2.1 _ 3 _ _ _ rfl rfl ?_
  refine S.at 40 [4] rfl ?_
  conv => whnf
  rcases hs with ⟨t, ho, q1, q2, q3, q4⟩ | hb
  · exact (l_M_expr S hw0 hH hK (pT (tkk tx L)) t h (by omega) q1 ho).1 0 q2 q3 q4
  · exact b_M_expr S hw0 hb (hK h (Or.inr hb))
