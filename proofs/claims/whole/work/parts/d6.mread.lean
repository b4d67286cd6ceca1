/-! TOKENS: the reference reads, up to its grammar -/
def RDA (k : Nat) : Prop := k = 116 ∨ (118 ≤ k ∧ k ≤ 122)
def RDJ (j : Nat) : Prop := j = 2 ∨ j = 4 ∨ j = 10 ∨ j = 11 ∨ j = 12 ∨ j = 13 ∨ j = 14 ∨ j = 20
def RDF (h h' : PH) : Prop := eqY RDA h h' ∧ ∀ j, ¬ RDJ j → hI h' 116 j = hI h 116 j
theorem RDF_rf (h : PH) : RDF h h := ⟨eqY_rf _ _, fun _ _ => rfl⟩
theorem RDF_tr {a b c : PH} (x : RDF a b) (y : RDF b c) : RDF a c := ⟨eqY_tr x.1 y.1, fun j hj => (y.2 j hj).trans (x.2 j hj)⟩
theorem RDF_sI {h : PH} {j : Nat} {v : Int32} (hj : RDJ j) : RDF h (sI h 116 j v) := ⟨eqY_sI (Or.inl rfl), fun i hi => hI_sI_j (fun e => hi (by rw [e]; exact hj))⟩
theorem RDF_s118 {h : PH} {j : Nat} {v : Int32} : RDF h (sI h 118 j v) := ⟨eqY_sI (Or.inr ⟨by decide, by decide⟩), fun _ _ => hI_ne (by decide)⟩
theorem CUB.rd {h h' : PH} (e : CUB h h') : RDF h h' := ⟨eqY_mono (fun k hk => by unfold CUA at hk; unfold RDA; omega) e.1, fun j hj => e.2 j (fun y => hj (by rw [y]; exact Or.inr (Or.inr (Or.inl rfl))))⟩
theorem MPQ.rd {h h' : PH} (e : MPQ h h') : RDF h h' := ⟨eqY_mono (fun k hk => Or.inl hk) e.1.y, fun j hj => e.2 j (fun y => hj (by unfold MPR at y; unfold RDJ; omega))⟩
/-- what the reference knows when its grammar is done -/
def MRD (h h' : PH) (tx : Nat → Nat) (L : Nat) : Prop := RDF h h' ∧ TX h' tx L ∧ hI h' 116 2 = nI 0 ∧ hI h' 116 14 = nI 0 ∧ HTK h' tx L ∧ hI h' 116 12 = nI (pF (tkk tx L)) ∧ (pF (tkk tx L) ≠ 0 → hI h' 116 13 = nI (tkS tx L (pT (tkk tx L)))) ∧ NTK h' tx L
theorem l_M_tells {P : PSem} (S : SysOK P) {h0 h1 : PH} (hw1 : WS h1) (f1 : RDF h0 h1) {tx : Nat → Nat} {L : Nat} (x1 : TX h1 tx L) (y1 : hI h1 116 2 = nI 0) (z1 : hI h1 116 14 = nI 0) (hH : HTK h1 tx L) (hN1 : NTK h1 tx L) {K : PK}
    (hK : ∀ h', MRD h0 h' tx L → P.2 n_M_read 47 [some (.ref 116), none] [] h' 0 0 K) : ∀ j a h l, pT (tkk tx L) ≤ a + j → ST h1 h tx L l (A8 (tkk tx L) a 1 0 l) → P.2 n_M_read 37 [some (.ref 116), none] [] h 0 0 K := by
  have fin : ∀ h, MPQ h1 h → hI h 116 12 = nI (pF (tkk tx L)) → (pF (tkk tx L) ≠ 0 → hI h 116 13 = nI (tkS tx L (pT (tkk tx L)))) → P.2 n_M_read 47 [some (.ref 116), none] [] h 0 0 K := by
    intro h m a b
    refine hK h ⟨RDF_tr f1 m.rd, ⟨?_, fun i hi => ?_⟩, ?_, ?_, m.htk hH, a, b, fun i z1 z2 z3 => by rw [m.2 10 (by unfold MPR; omega)]; exact hN1 i z1 z2 z3⟩
    · rw [m.2 4 (by unfold MPR; omega)]
      exact x1.1
    · rw [m.1.2.2.2.2 118 (by decide)]
      exact x1.2 i hi
    · rw [m.2 2 (by unfold MPR; omega)]
      exact y1
    · rw [m.2 14 (by unfold MPR; omega)]
      exact z1
  intro j
  induction j with
  | zero =>
    intro a h l hj s
    rcases s with ⟨t, s, q1, q2, q3, q4⟩ | s
    · have hw := s.ws hw1
      have tT : t = pT (tkk tx L) := by have := s.2.2.2.2; omega
      refine S.at 40 [47] rfl ?_
      conv => whnf
      refine ⟨wt_116 hw, ?_⟩
      conv => whnf
      rw [s.2.2.1]
      refine bk_nf (rfl) ?_
      conv => whnf
      refine ⟨wt_116 hw, ?_⟩
      refine c_M_is_ok (k := 14) S hw1 hH s (by decide) (by decide) ?_
      conv => whnf
      refine bk_b1 (fun z => ?_) (fun z => ?_)
      · have z := of_decide_eq_true z
        have pf : pF (tkk tx L) = 0 := by
          unfold pF
          rw [← tT, if_pos ⟨z, q2⟩]
        conv => whnf
        exact fin h s.1 (by rw [pf]; exact s.2.2.1) (fun y => absurd pf y)
      · have z := of_decide_eq_false z
        subst q4
        conv => whnf
        refine ⟨wt_116 hw, ?_⟩
        refine c_M_tell S hw1 hH s q2 q3 z ?_
        intro h2 l2 s2
        have hb : BAD h1 h2 tx L := by
          rcases s2 with ⟨t2, s2, r1, -⟩ | s2
          · have := s2.2.2.2.2
            omega
          · exact s2
        have hw2 := hb.ws hw1
        have e1 := pF_le (tkk tx L)
        have e2 := hb.2.2.1
        conv => whnf
        refine S.mk [(0,1),(0,0)] ?_
        refine S.at 40 [47] rfl ?_
        conv => whnf
        refine ⟨wt_116 hw2, ?_⟩
        conv => whnf
        rw [hb.2.1]
        refine bk_nt (fun c => absurd ((zn_eq (b := 0) (by omega) (by omega)).mp c) (by omega)) ?_
        conv => whnf
        exact fin h2 hb.1 hb.2.1 (fun _ => hb.2.2.2)
    · have hw := s.ws hw1
      have e1 := pF_le (tkk tx L)
      have e2 := s.2.2.1
      refine S.at 40 [47] rfl ?_
      conv => whnf
      refine ⟨wt_116 hw, ?_⟩
      conv => whnf
      rw [s.2.1]
      refine bk_nt (fun c => absurd ((zn_eq (b := 0) (by omega) (by omega)).mp c) (by omega)) ?_
      conv => whnf
      exact fin h s.1 s.2.1 (fun _ => s.2.2.2)
  | succ j ih =>
    intro a h l hj s
    rcases s with ⟨t, s, q1, q2, q3, q4⟩ | s
    · have hw := s.ws hw1
      refine S.at 40 [47] rfl ?_
      conv => whnf
      refine ⟨wt_116 hw, ?_⟩
      conv => whnf
      rw [s.2.2.1]
      refine bk_nf (rfl) ?_
      conv => whnf
      refine ⟨wt_116 hw, ?_⟩
      refine c_M_is_ok (k := 14) S hw1 hH s (by decide) (by decide) ?_
      conv => whnf
      refine bk_b1 (fun z => ?_) (fun z => ?_)
      · have z := of_decide_eq_true z
        have tT : t = pT (tkk tx L) := pgo_no s.2.2.2.2 (by
          rw [← Bool.not_eq_true, pgo_iff]
          intro y
          rw [z] at y
          exact y.1 (gAf_14 _ _))
        have pf : pF (tkk tx L) = 0 := by
          unfold pF
          rw [← tT, if_pos ⟨z, q2⟩]
        conv => whnf
        exact fin h s.1 (by rw [pf]; exact s.2.2.1) (fun y => absurd pf y)
      · have z := of_decide_eq_false z
        subst q4
        conv => whnf
        refine ⟨wt_116 hw, ?_⟩
        refine c_M_tell S hw1 hH s q2 q3 z ?_
        intro h2 l2 s2
        conv => whnf
        refine S.mk [(0,1),(0,0)] ?_
        exact ih (t + 1) h2 l2 (by omega) s2
    · have hw := s.ws hw1
      have e1 := pF_le (tkk tx L)
      have e2 := s.2.2.1
      refine S.at 40 [47] rfl ?_
      conv => whnf
      refine ⟨wt_116 hw, ?_⟩
      conv => whnf
      rw [s.2.1]
      refine bk_nt (fun c => absurd ((zn_eq (b := 0) (by omega) (by omega)).mp c) (by omega)) ?_
      conv => whnf
      exact fin h s.1 s.2.1 (fun _ => s.2.2.2)
theorem l_M_copies {P : PSem} (S : SysOK P) {h0 : PH} (hw0 : WS h0) {tx : Nat → Nat} {L : Nat} (hT : ∀ i, i < L → hI h0 117 i = sb (tx i)) (hM : L ≤ 2000) {K : PK}
    (hK : ∀ h', RDF h0 h' → TX h' tx L → P.2 n_M_read 20 [some (.ref 116), none] [] h' 0 0 K) : ∀ j i h, i + j = L → RDF h0 h → hI h 116 4 = nI L → (∀ l, l < i → hI h 118 l = sb (tx l)) → P.2 n_M_read 6 [some (.ref 116), some (.int (nI i))] [] h 0 0 K := by
  intro j
  induction j with
  | zero =>
    intro i h hi f a b
    have e : i = L := by omega
    subst e
    have hw := eqY_WS f.1 hw0
    refine S.at 40 [20] rfl ?_
    conv => whnf
    refine ⟨wt_116 hw, ?_⟩
    conv => whnf
    rw [a]
    refine bk_t ((zn_le (by omega) (by omega)).mpr (by omega)) ?_
    conv => whnf
    refine S.mk [(0,1),(0,0)] ?_
    exact hK h f ⟨a, b⟩
  | succ j ih =>
    intro i h hi f a b
    have hw := eqY_WS f.1 hw0
    have c : hI h 117 i = sb (tx i) := by
      rw [(f.1.2.2.2 117 (by unfold RDA; omega)).1]
      exact hT i (by omega)
    refine S.at 40 [20] rfl ?_
    conv => whnf
    refine ⟨wt_116 hw, ?_⟩
    conv => whnf
    rw [a]
    refine bk_f (fun c => absurd ((zn_le (by omega) (by omega)).mp c) (by omega)) ?_
    conv => whnf
    refine ⟨wt_116 hw, ?_⟩
    conv => whnf
    rw [wr_116_3 hw]
    refine ⟨wt_116 hw, ?_⟩
    conv => whnf
    rw [wr_116_1 hw]
    refine ⟨Or.inl (inB_of (wt_117 hw) (wn_117 hw) (by omega) (by decide)), ?_⟩
    conv => whnf
    rw [nI_clamp (by omega), c]
    refine ⟨Or.inl (inB_of (wt_118 hw) (wn_118 hw) (by omega) (by decide)), ?_⟩
    try rw [nI_clamp (show i < 2 ^ 31 by omega)]
    rw [wt_118 hw, sb_nr]
    conv => whnf
    have next := ih (i + 1) (sI h 118 i (sb (tx i))) (by omega) (RDF_tr f RDF_s118) ((hI_ne (by decide)).trans a) (fun l hl => by
      rcases Nat.lt_or_ge l i with w | w
      · rw [hI_sI_j (by omega)]
        exact b l w
      · have e : l = i := by omega
        rw [e, hI_sI])
    rw [← nI_1 i] at next
    refine S.mk [(0,1),(0,1)] ?_
    exact next
theorem f_M_read {P : PSem} (S : SysOK P) {h : PH} (hw : WS h) {tx : Nat → Nat} {L : Nat} (hT : TM h tx L) (hY : MKY h) (hB : TXB tx) (hM : L ≤ 2000) {K : PK}
    (hK : ∀ h', MRD h h' tx L → P.2 n_M_read 47 [some (.ref 116), none] [] h' 0 0 K) : P.1 n_M_read [.ref 116] h K := by
  refine S.2.1 _ 2 _ _ _ rfl rfl ?_
  refine S.at 40 [6] rfl ?_
  conv => whnf
  refine ⟨wt_116 hw, ?_⟩
  conv => whnf
  rw [hT.1]
  refine ⟨wt_116 hw, ?_⟩
  conv => whnf
  refine l_M_copies (h0 := h) (tx := tx) (L := L) S hw hT.2 hM ?_ L 0 _ (Nat.zero_add _) (RDF_sI (Or.inr (Or.inl rfl))) hI_sI (fun l hl => absurd hl (Nat.not_lt_zero l))
  intro h1 f1 x1
  have hw1 := eqY_WS f1.1 hw
  refine S.at 60 [37] rfl ?_
  conv => whnf
  refine ⟨wt_116 hw1, ?_⟩
  conv => whnf
  have x2 : TX (sI h1 116 2 0) tx L := ⟨(hI_sI_j (by decide)).trans x1.1, fun i hi => (hI_ne (by decide)).trans (x1.2 i hi)⟩
  have m2 : MKY (sI h1 116 2 0) := by
    unfold MKY
    rw [hL_sI, (f1.1.2.2.2 123 (by unfold RDA; omega)).2]
    exact hY
  refine ⟨wt_116 hw1, ?_⟩
  refine c_M_cutsText S (h := sI h1 116 2 0) hw1 x2 m2 hB hM ?_
  intro h3 c3
  have f3 : RDF h h3 := RDF_tr f1 (RDF_tr (RDF_sI (Or.inl rfl)) c3.1.rd)
  have hw3 := eqY_WS f3.1 hw
  have x3 := c3.1.tx x2
  have y3 : hI h3 116 2 = nI 0 := (c3.1.2 2 (by decide)).trans hI_sI
  have h3k : HTK h3 tx L := c3.2.1
  have h3n : NTK h3 tx L := c3.2.2
  conv => whnf
  refine ⟨wt_116 hw3, ?_⟩
  conv => whnf
  refine ⟨wt_116 hw3, ?_⟩
  conv => whnf
  refine ⟨wt_116 hw3, ?_⟩
  conv => whnf
  refine ⟨wt_116 hw3, ?_⟩
  conv => whnf
  have f4 : RDF h (sI (sI (sI (sI h3 116 11 0) 116 12 0) 116 14 0) 116 20 0) := RDF_tr f3 (RDF_tr (RDF_sI (by unfold RDJ; omega)) (RDF_tr (RDF_sI (by unfold RDJ; omega)) (RDF_tr (RDF_sI (by unfold RDJ; omega)) (RDF_sI (by unfold RDJ; omega)))))
  have hw4 := eqY_WS f4.1 hw
  refine S.mk [(0,1),(0,0)] ?_
  refine l_M_tells (h0 := h) (h1 := sI (sI (sI (sI h3 116 11 0) 116 12 0) 116 14 0) 116 20 0) S hw4 f4 (tx := tx) (L := L) ?_ ?_ ?_ ?_ (fun i z1 z2 z3 => by rw [hI_sI_j (by decide), hI_sI_j (by decide), hI_sI_j (by decide), hI_sI_j (by decide)]; exact h3n i z1 z2 z3) hK (pT (tkk tx L)) 0 _ 0 (by omega) (Or.inl ⟨0, ⟨MPQ_rf _, ?_, ?_, ?_, Nat.zero_le _⟩, Nat.zero_le _, rfl, rfl, rfl⟩)
  · refine ⟨?_, fun i hi => ?_⟩
    · rw [hI_sI_j (by decide), hI_sI_j (by decide), hI_sI_j (by decide), hI_sI_j (by decide)]
      exact x3.1
    · rw [hI_ne (by decide), hI_ne (by decide), hI_ne (by decide), hI_ne (by decide)]
      exact x3.2 i hi
  · rw [hI_sI_j (by decide), hI_sI_j (by decide), hI_sI_j (by decide), hI_sI_j (by decide)]
    exact y3
  · rw [hI_sI_j (by decide), hI_sI]
    rfl
  · intro i hi hj
    have := h3k i hi hj
    unfold TOK at this ⊢
    rw [hL_sI, hL_sI, hL_sI, hL_sI, hI_ne (by decide), hI_ne (by decide), hI_ne (by decide), hI_ne (by decide)]
    refine ⟨this.1, ?_, ?_, this.2.2.2⟩
    · rw [hI_ne (by decide), hI_ne (by decide), hI_ne (by decide), hI_ne (by decide)]
      exact this.2.1
    · rw [hI_ne (by decide), hI_ne (by decide), hI_ne (by decide), hI_ne (by decide)]
      exact this.2.2.1
  · rw [hI_sI_j (by decide), hI_sI_j (by decide), hI_sI_j (by decide), hI_sI]
    rfl
  · rw [hI_sI_j (by decide), hI_sI_j (by decide), hI_sI]
    rfl
  · rw [hI_sI]
    rfl
