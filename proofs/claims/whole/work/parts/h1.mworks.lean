/-! WORTH: the reference works all lines out -/
theorem c_M_worksOne {P : PSem} (S : SysOK P) {h : PH} {u nf nv : Nat → Nat} (hu : MDS u) {j n s e : Nat} (hj : j < 8) (n1 : 1 ≤ n) (n2 : n ≤ 12) (he : e ≤ 400) (o : ONE h u nf nv j n e) (hn : hI h 131 j = nI n) (hs : hI h 130 j = nI s) {R : List Qst} (hl : s + R.length = e) (rows : ∀ i q, R[i]? = some q → hI h 127 (s + i) = nI q.1 ∧ hI h 128 (s + i) = q.2.1 ∧ hI h 129 (s + i) = nI q.2.2) (ok : ∀ q, q ∈ R → okQ u nf nv n j q) {r : Sum Nat (List Nat)} (hr : (∃ p, r = Sum.inl p) ∨ ∃ v, r = Sum.inr [v]) (hrn : rn u nf nv n R [] = some r) {K : PK}
    (hK : ∀ h', eqX (fun k => k = 140) h h' → (∀ p, r = Sum.inl p → K (.int (nI p)) h') ∧ (∀ v, r = Sum.inr [v] → v < 2 ^ n → K (.int (-1)) (sI h' 132 j (nI v)))) : P.1 n_M_worksOne [.ref 116, .int (nI j)] h K := by
  have hw := o.1
  refine S.2.1 _ 8 _ _ _ rfl rfl ?_
  refine S.at 40 [12] rfl ?_
  conv => whnf
  refine ⟨wt_116 hw, ?_⟩
  conv => whnf
  rw [wr_116_26 hw]
  refine ⟨inB_of (wt_131 hw) (wn_131 hw) (show j < 8 by omega) (by decide), ?_⟩
  conv => whnf
  rw [nI_clamp (by omega), hn]
  refine ⟨wt_116 hw, ?_⟩
  conv => whnf
  rw [wr_116_25 hw]
  refine ⟨inB_of (wt_130 hw) (wn_130 hw) (show j < 9 by omega) (by decide), ?_⟩
  conv => whnf
  rw [nI_clamp (by omega), hs]
  exact l_M_one S hu hj n1 n2 he o hK hr R [] s h (eqX_rf _ _) hl (by show 0 + R.length ≤ 400; omega) rows ok (fun i w hw => absurd hw (by simp)) hrn
theorem mst_err {tx : Nat → Nat} {L : Nat} {l0 : Nat → Int64} {u : Nat → Nat} {p : Nat} : ∀ d t, (mst tx L l0 u t).1 = some p → (mst tx L l0 u (t + d)).1 = some p := by
  intro d
  induction d with
  | zero => exact fun t h => h
  | succ d ih =>
    intro t h
    have a := ih t h
    show (mst tx L l0 u (t + d + 1)).1 = some p
    unfold mst
    repeat' split
    · exact a
    · exact a
    · exact a
    · exact a
    · unfold mjn
      split
      · exact a
      · rw [a]
        repeat' split
        all_goals rfl
    · exact a
theorem ln_st {tx : Nat → Nat} {L : Nat} : ∀ d t j, j < cnm tx L t → lnT tx L (t + d) j = lnT tx L t j ∧ lnA tx L (t + d) j = lnA tx L t j ∧ j < cnm tx L (t + d) := by
  intro d
  induction d with
  | zero => exact fun t j hj => ⟨rfl, rfl, hj⟩
  | succ d ih =>
    intro t j hj
    obtain ⟨a, a2, b⟩ := ih t j hj
    have g3 : lnT tx L (t + d + 1) j = if ((cR tx L (t + d) = 8 ∨ cR tx L (t + d) = 10) ∧ tkk tx L (t + d) = 6) ∧ j = cnm tx L (t + d) then t + d else lnT tx L (t + d) j := rfl
    have g4 : lnA tx L (t + d + 1) j = if cR tx L (t + d) = 6 ∧ j = cnm tx L (t + d) then t + d else lnA tx L (t + d) j := rfl
    have n' : cnm tx L (t + d + 1) = if (cR tx L (t + d) = 8 ∨ cR tx L (t + d) = 10) ∧ tkk tx L (t + d) = 6 then cnm tx L (t + d) + 1 else cnm tx L (t + d) := rfl
    refine ⟨?_, ?_, ?_⟩
    · show lnT tx L (t + d + 1) j = _
      rw [g3, if_neg (by omega)]
      exact a
    · show lnA tx L (t + d + 1) j = _
      rw [g4, if_neg (by omega)]
      exact a2
    · show j < cnm tx L (t + d + 1)
      rw [n']
      split
      · omega
      · omega
noncomputable def eA (tx : Nat → Nat) (L : Nat) (l0 : Nat → Int64) (u : Nat → Nat) : Nat → Option Nat
  | 0 => none
  | i + 1 => (mst tx L l0 u (lnT tx L (pT (tkk tx L)) i + 1)).1
noncomputable def nA (tx : Nat → Nat) (L : Nat) (l0 : Nat → Int64) (u : Nat → Nat) : Nat → Nat → Nat
  | 0 => fun _ => 0
  | i + 1 => (mst tx L l0 u (lnT tx L (pT (tkk tx L)) i + 1)).2.2.2
/-- between lines, from any place -/
theorem bef {tx : Nat → Nat} {L : Nat} (l0 : Nat → Int64) (u : Nat → Nat) {t : Nat} (ht : t ≤ pT (tkk tx L)) (hr : cR tx L t ≤ 6) : (mst tx L l0 u t).1 = eA tx L l0 u (cnm tx L t) ∧ ∀ w, w < cnm tx L t → (mst tx L l0 u t).2.2.2 w = nA tx L l0 u (cnm tx L t) w := by
  obtain ⟨a, b⟩ := FLT_ok l0 u t ht hr
  cases h : cnm tx L t with
  | zero => exact ⟨(a h).1, fun w hw => absurd hw (Nat.not_lt_zero w)⟩
  | succ i =>
    obtain ⟨b1, b2, b3⟩ := b i h
    have e := (ln_st (tx := tx) (L := L) (pT (tkk tx L) - t) t i (by omega)).1
    rw [show t + (pT (tkk tx L) - t) = pT (tkk tx L) by omega] at e
    show _ = (mst tx L l0 u (lnT tx L (pT (tkk tx L)) i + 1)).1 ∧ ∀ w, _ → _ = (mst tx L l0 u (lnT tx L (pT (tkk tx L)) i + 1)).2.2.2 w
    rw [e]
    exact ⟨b1, fun w _ => by rw [b2]⟩
/-- the reference's rows of a text that is checked -/
def REV (h : PH) (tx : Nat → Nat) (L : Nat) (l0 : Nat → Int64) : Prop := hI h 116 29 = nI (cnm tx L (pT (tkk tx L))) ∧ LFR h tx L l0 (pT (tkk tx L)) ∧ (∀ j, j < cnm tx L (pT (tkk tx L)) → hI h 131 j = nI (rNF tx L (pT (tkk tx L)) j)) ∧ RR h (eW tx L l0 (pT (tkk tx L))).1
/-- a text without fault -/
def TXT (tx : Nat → Nat) (L : Nat) (l0 : Nat → Int64) (f0 : Nat → Int32) : Prop := L ≤ 2000 ∧ EOK tx L ∧ ∀ i, i < pT (tkk tx L) → cFL tx L l0 f0 i = 0
theorem eW_one {tx : Nat → Nat} {L : Nat} {l0 : Nat → Int64} (t : Nat) : ∃ o, (eW tx L l0 (t + 1)).1 = (eW tx L l0 t).1 ++ o := by
  have w1 : eW tx L l0 (t + 1) = if cR tx L t = 6 then ((eW tx L l0 t).1, [])
    else if cR tx L t = 7 then (if tkk tx L t = 11 then ((eW tx L l0 t).1, t :: (eW tx L l0 t).2) else if tkk tx L t = 3 then ((eW tx L l0 t).1 ++ [(0, 0, 0)], (eW tx L l0 t).2) else if tkk tx L t = 5 then ((eW tx L l0 t).1 ++ [(1, cBt tx L t, 0)], (eW tx L l0 t).2) else ((eW tx L l0 t).1 ++ [(2, cIV tx L l0 t, 0)], (eW tx L l0 t).2))
    else if cR tx L t = 9 then ((eW tx L l0 t).1 ++ [(6, nI (tkv tx L t), 0)], (eW tx L l0 t).2)
    else if cR tx L t = 8 ∨ cR tx L t = 10 then (if tkk tx L t = 10 then eW tx L l0 t else if tkk tx L t = 12 then ((eW tx L l0 t).1 ++ (stl tx L 1 (eW tx L l0 t).2).1, (stl tx L 1 (eW tx L l0 t).2).2.tail) else if tkk tx L t = 6 then ((eW tx L l0 t).1 ++ (stl tx L 1 (eW tx L l0 t).2).1, (stl tx L 1 (eW tx L l0 t).2).2) else ((eW tx L l0 t).1 ++ (stl tx L (rkk (tkk tx L t)) (eW tx L l0 t).2).1, t :: (stl tx L (rkk (tkk tx L t)) (eW tx L l0 t).2).2))
    else eW tx L l0 t := rfl
  rw [w1]
  clear w1
  repeat' split
  all_goals first
    | exact ⟨_, rfl⟩
    | exact ⟨[], (List.append_nil _).symm⟩
/-- steps only grow -/
theorem eW_pre {tx : Nat → Nat} {L : Nat} {l0 : Nat → Int64} : ∀ d t, ∃ o, (eW tx L l0 (t + d)).1 = (eW tx L l0 t).1 ++ o := by
  intro d
  induction d with
  | zero => exact fun t => ⟨[], (List.append_nil _).symm⟩
  | succ d ih =>
    intro t
    obtain ⟨o, ho⟩ := ih t
    have key := eW_one (tx := tx) (L := L) (l0 := l0) (t + d)
    obtain ⟨o', ho'⟩ := key
    exact ⟨o ++ o', by show (eW tx L l0 (t + d + 1)).1 = _; rw [ho', ho, List.append_assoc]⟩
