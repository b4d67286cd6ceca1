/-! TOKENS: the reference's parser, lines -/
theorem OKs.lt {h0 h : PH} {tx : Nat → Nat} {L t l : Nat} (b : OKs h0 h tx L t l) (v : Nat) : OKs h0 (sI h 116 20 (nI v)) tx L t v := ⟨MPQ_tr b.1 (MPQ_sI (Or.inr (Or.inr (Or.inr rfl)))), (hI_sI_j (by decide)).trans b.2.1, (hI_sI_j (by decide)).trans b.2.2.1, hI_sI, b.2.2.2.2⟩
theorem BAD.lt {h0 h : PH} {tx : Nat → Nat} {L : Nat} (b : BAD h0 h tx L) (v : Int32) : BAD h0 (sI h 116 20 v) tx L := ⟨MPQ_tr b.1 (MPQ_sI (Or.inr (Or.inr (Or.inr rfl)))), (hI_sI_j (by decide)).trans b.2.1, b.2.2.1, (hI_sI_j (by decide)).trans b.2.2.2⟩
def ST (h0 h : PH) (tx : Nat → Nat) (L l : Nat) (Q : Nat → Prop) : Prop := (∃ t, OKs h0 h tx L t l ∧ Q t) ∨ BAD h0 h tx L
theorem ST.ws {h0 h : PH} {tx : Nat → Nat} {L l : Nat} {Q : Nat → Prop} (s : ST h0 h tx L l Q) (hw : WS h0) : WS h := by
  rcases s with ⟨t, s, -⟩ | s
  · exact s.ws hw
  · exact s.ws hw
/-- a must between two plain roles -/
theorem c_M_must' {P : PSem} (S : SysOK P) {h0 h : PH} (hw0 : WS h0) {tx : Nat → Nat} {L l a r r' : Nat} (hH : HTK h0 tx L) {k : Nat} (hk : k < 15) (hz : k ≠ 0) (k2 : k ≠ 2) (k11 : k ≠ 11) (k12 : k ≠ 12) (r1 : r ≠ 1) (hr : ∀ c o, gAf r c o = if c = k then r' else 0) (hr' : r' ≠ 0) (hs : ST h0 h tx L l (A8 (tkk tx L) a r 0 l)) {K : PK}
    (hK : ∀ h', ST h0 h' tx L l (A8 (tkk tx L) (a + 1) r' 0 l) → K .null h') : P.1 n_M_must [.ref 116, .int (nI (kM k))] h K := by
  refine c_M_must S hw0 hH hk hz (A8 (tkk tx L) a r 0 l) hs ?_ ?_
  · intro t ht ⟨q1, q2, q3, q4⟩
    have b8 := pT_8 ht
    refine ⟨fun y => ⟨by rw [q2, hr, if_pos y]; exact hr', ?_, ?_⟩, fun y => ⟨by rw [q2, hr, if_neg y], by omega⟩⟩
    · rw [ps2 (by omega) (by omega)]
      exact b8.1
    · rw [ps3 (by omega)]
      exact b8.2
  · intro h' s
    refine hK h' ?_
    rcases s with ⟨t, s, ⟨q1, q2, q3, q4⟩, y⟩ | s
    · refine Or.inl ⟨t + 1, s, by omega, ?_, (ps2 (by omega) (by omega)).trans q3, (ps3 (by omega)).trans q4⟩
      rw [ps1 q2 y q3, hr, if_pos rfl]
    · exact Or.inr s
theorem c_M_tell {P : PSem} (S : SysOK P) {h0 h : PH} (hw0 : WS h0) {tx : Nat → Nat} {L t : Nat} (hH : HTK h0 tx L) (ho : OKs h0 h tx L t (pst (tkk tx L) t).2.2) (q2 : (pst (tkk tx L) t).1 = 1) (q3 : (pst (tkk tx L) t).2.1 = 0) (ne : tkk tx L t ≠ 14) {K : PK}
    (hK : ∀ h' l, ST h0 h' tx L l (A8 (tkk tx L) (t + 1) 1 0 l) → K .null h') : P.1 n_M_tell [.ref 116] h K := by
  have hw := ho.ws hw0
  have b8 := pT_8 ho.2.2.2.2
  have t4 := Nat.le_trans ho.2.2.2.2 (pT_ok (tkk tx L)).1
  have tk := (ho.1.htk hH) t t4 (pT_14 ho.2.2.2.2)
  have e1 := kM_le (tkk tx L t) (by have := tkk_le tx L t; omega)
  have k1 := kM_tk (tx := tx) (L := L) (t := t) (k := 1) (by decide) (by decide)
  have k2 := kM_tk (tx := tx) (L := L) (t := t) (k := 2) (by decide) (by decide)
  have fin : ∀ h' l, ST h0 h' tx L l (fun t' => t + 1 ≤ t' ∧ (pst (tkk tx L) t').1 ≠ 1 ∧ (∀ c, tkk tx L t' = c → gAf (pst (tkk tx L) t').1 c 0 = if c = 6 then 1 else 0) ∧ (pst (tkk tx L) t').2.1 = 0 ∧ (pst (tkk tx L) t').2.2 = l) → P.2 n_M_tell 53 [some (.ref 116), some (.int (nI (kM (tkk tx L t))))] [] h' 0 0 K := by
    intro h' l s
    have hw' := s.ws hw0
    refine S.at 40 [] rfl ?_
    conv => whnf
    refine ⟨wt_116 hw', ?_⟩
    refine c_M_must (k := 6) S hw0 hH (by decide) (by decide) _ s ?_ ?_
    · intro t' ht ⟨p1, p2, p3, p4, p5⟩
      have b8 := pT_8 ht
      refine ⟨fun y => ⟨by rw [p4, p3 _ rfl, if_pos y]; decide, ?_, ?_⟩, fun y => ⟨by rw [p4, p3 _ rfl, if_neg y], by omega⟩⟩
      · rw [ps2 (by omega) (by omega)]
        exact b8.1
      · rw [ps3 (by omega)]
        exact b8.2
    · intro h2 s2
      conv => whnf
      refine hK h2 l ?_
      rcases s2 with ⟨t', s2, ⟨p1, p2, p3, p4, p5⟩, y⟩ | s2
      · refine Or.inl ⟨t' + 1, s2, by omega, ?_, (ps2 (by omega) (by omega)).trans p4, (ps3 (by omega)).trans p5⟩
        show gAf _ _ _ = 1
        rw [p4, p3 _ rfl, if_pos y]
      · exact Or.inr s2
  have n27 : ∀ g1 : tkk tx L t = 1 ∨ (tkk tx L t = 2 ∧ (pst (tkk tx L) t).2.2 ≠ 8), P.2 n_M_tell 27 [some (.ref 116), some (.int (nI (kM (tkk tx L t))))] [] h 0 0 K := by
    intro g1
    have f2 : (pst (tkk tx L) (t + 1)).2.1 = 0 := (ps2 (by omega) (by omega)).trans q3
    refine S.at 60 [53] rfl ?_
    conv => whnf
    refine ⟨wt_116 hw, ?_⟩
    refine c_M_passes S hw0 hH ho ?_ (by omega) ?_ ?_
    · rw [q2]
      rcases g1 with y | y
      · rw [y]
        exact (by decide : (2 : Nat) ≠ 0)
      · rw [y.1]
        exact (by decide : (5 : Nat) ≠ 0)
    · show (if tkk tx L t = 2 then _ else _) ≤ 8
      split
      all_goals omega
    intro h1 s1
    have hw1 : WS h1 := by
      rcases s1 with s | s
      · exact s.ws hw0
      · exact s.ws hw0
    conv => whnf
    refine bk_ne (b := 21) (by omega) (by omega) (fun c => ?_) (fun c => ?_)
    · have y : tkk tx L t = 1 := by
        rcases g1 with y | y
        · exact y
        · exact absurd (k2.mpr y.1) c
      have f1 : (pst (tkk tx L) (t + 1)).1 = 2 := ps1 q2 y q3
      have f3 : (pst (tkk tx L) (t + 1)).2.2 = (pst (tkk tx L) t).2.2 := ps3 (by omega)
      conv => whnf
      refine ⟨wt_116 hw1, ?_⟩
      refine c_M_must' (l := (pst (tkk tx L) t).2.2) (k := 5) (r := 2) (r' := 3) (a := t + 1) S hw0 hH (by decide) (by decide) (by decide) (by decide) (by decide) (by decide) (fun _ _ => rfl) (by decide) ?_ ?_
      · rcases s1 with s | s
        · exact Or.inl ⟨t + 1, s, Nat.le_refl _, f1, f2, f3⟩
        · exact Or.inr s
      intro h2 s2
      conv => whnf
      refine ⟨wt_116 (s2.ws hw0), ?_⟩
      refine c_M_must' (l := (pst (tkk tx L) t).2.2) (k := 5) (r := 3) (r' := 4) (a := t + 1 + 1) S hw0 hH (by decide) (by decide) (by decide) (by decide) (by decide) (by decide) (fun _ _ => rfl) (by decide) s2 ?_
      intro h3 s3
      conv => whnf
      refine fin h3 (pst (tkk tx L) t).2.2 ?_
      rcases s3 with ⟨t', s3, p1, p2, p3, p4⟩ | s3
      · exact Or.inl ⟨t', s3, by omega, by omega, fun c _ => by rw [p2]; rfl, p3, p4⟩
      · exact Or.inr s3
    · have y := k2.mp c
      have f1 : (pst (tkk tx L) (t + 1)).1 = 5 := ps1 q2 y q3
      have f3 : (pst (tkk tx L) (t + 1)).2.2 = (pst (tkk tx L) t).2.2 + 1 := by
        show (if tkk tx L t = 2 then _ else _) = _
        rw [if_pos y]
      conv => whnf
      refine ⟨wt_116 hw1, ?_⟩
      conv => whnf
      refine ⟨wt_116 hw1, ?_⟩
      conv => whnf
      have s1' : ST h0 (sI h1 116 20 (hI h1 116 20 + 1)) tx L ((pst (tkk tx L) t).2.2 + 1) (A8 (tkk tx L) (t + 1) 5 0 ((pst (tkk tx L) t).2.2 + 1)) := by
        rcases s1 with s | s
        · rw [s.2.2.2.1, nI_1]
          exact Or.inl ⟨t + 1, s.lt _, Nat.le_refl _, f1, f2, f3⟩
        · exact Or.inr (s.lt _)
      refine ⟨wt_116 (s1'.ws hw0), ?_⟩
      refine c_M_must' (k := 4) (r := 5) (r' := 6) (a := t + 1) S hw0 hH (by decide) (by decide) (by decide) (by decide) (by decide) (by decide) (fun _ _ => rfl) (by decide) s1' ?_
      intro h2 s2
      conv => whnf
      refine ⟨wt_116 (s2.ws hw0), ?_⟩
      refine c_M_must' (k := 5) (r := 6) (r' := 7) (a := t + 1 + 1) S hw0 hH (by decide) (by decide) (by decide) (by decide) (by decide) (by decide) (fun _ _ => rfl) (by decide) s2 ?_
      intro h3 s3
      conv => whnf
      refine ⟨wt_116 (s3.ws hw0), ?_⟩
      refine c_M_expression S hw0 hH s3 ?_
      intro h4 s4
      conv => whnf
      refine fin h4 ((pst (tkk tx L) t).2.2 + 1) ?_
      rcases s4 with ⟨t', s4, p0, ⟨p1, p2, p3, p4⟩, z7, z8, z9⟩ | s4
      · refine Or.inl ⟨t', s4, by omega, p1, fun c e => ?_, p3, p4⟩
        rw [p3, e] at p2
        rw [p2]
        rw [e] at z7 z8 z9
        unfold gPw
        rw [if_neg z7, if_neg z8, if_neg z9]
        repeat' split
        all_goals first | rfl | omega
      · exact Or.inr s4
  have bad : ¬ (tkk tx L t = 1 ∨ tkk tx L t = 2) → ∀ {K' : PK}, (∀ h', BAD h0 h' tx L → K' .null h') → P.1 n_M_fail [.ref 116, .int (nI 1)] h K' := by
    intro y K' hK'
    refine c_M_fail_ok S hw0 hH ho (fl_1 ho.2.2.2.2 ?_ (fun z => ne z.1)) (by decide) hK'
    rw [q2]
    show (if tkk tx L t = 1 then 2 else if tkk tx L t = 2 then 5 else 0) = 0
    rw [if_neg (by omega), if_neg (by omega)]
  refine S.2.1 _ 2 _ _ _ rfl rfl ?_
  refine S.at 60 [27] rfl ?_
  conv => whnf
  refine ⟨wt_116 hw, ?_⟩
  conv => whnf
  rw [wr_116_5 hw]
  refine ⟨wt_116 hw, ?_⟩
  conv => whnf
  rw [ho.2.1]
  refine ⟨inB_of (wt_119 hw) (wn_119 hw) (by omega) (by decide), ?_⟩
  conv => whnf
  rw [nI_clamp (by omega), tk.1]
  refine bk_eq (b := 20) (by omega) (by omega) (fun c => ?_) (fun c => ?_)
  · have y := k1.mp c
    conv => whnf
    refine bk_nt ((fun z => absurd ((zn_eq (b := 21) (by omega) (by omega)).mp z) (by omega))) ?_
    conv => whnf
    exact n27 (Or.inl y)
  conv => whnf
  refine bk_eq (b := 21) (by omega) (by omega) (fun d => ?_) (fun d => ?_)
  · have y := k2.mp d
    conv => whnf
    refine bk_nf (((zn_eq (b := 21) (by omega) (by omega)).mpr d)) ?_
    conv => whnf
    refine ⟨wt_116 hw, ?_⟩
    conv => whnf
    rw [ho.2.2.2.1]
    refine bk_ne (b := 8) (by omega) (by omega) (fun c8 => ?_) (fun c8 => ?_)
    · conv => whnf
      exact n27 (Or.inr ⟨y, c8⟩)
    · conv => whnf
      refine ⟨wt_116 hw, ?_⟩
      refine c_M_fail_ok (v := 2) S hw0 hH ho (fl_2 ho.2.2.2.2 ?_ ?_) (by decide) ?_
      · rw [q2, y]
        exact (by decide : (5 : Nat) ≠ 0)
      · have : (pst (tkk tx L) (t + 1)).2.2 = (pst (tkk tx L) t).2.2 + 1 := by
          show (if tkk tx L t = 2 then _ else _) = _
          rw [if_pos y]
        omega
      intro h' b
      conv => whnf
      exact hK h' 0 (Or.inr b)
  · conv => whnf
    refine ⟨wt_116 hw, ?_⟩
    refine bad (fun y => ?_) ?_
    · rcases y with y | y
      · exact c (k1.mpr y)
      · exact d (k2.mpr y)
    intro h' b
    conv => whnf
    exact hK h' 0 (Or.inr b)
