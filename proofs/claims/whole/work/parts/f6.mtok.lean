/-! MEANS: a token, by the reference -/
theorem cnm_ok {tx : Nat → Nat} {L : Nat} : ∀ t, t ≤ pT (tkk tx L) → (pst (tkk tx L) t).2.2 = cnm tx L t + (if cR tx L t ≤ 4 then 0 else 1) ∧ 1 ≤ cR tx L t := by
  intro t
  induction t with
  | zero => exact fun _ => ⟨rfl, Nat.le_refl 1⟩
  | succ t ih =>
    intro ht
    obtain ⟨a, b⟩ := ih (by omega)
    have tab := rtab (tx := tx) (L := L) (t := t) (by omega)
    have l' : (pst (tkk tx L) (t + 1)).2.2 = if tkk tx L t = 2 then (pst (tkk tx L) t).2.2 + 1 else (pst (tkk tx L) t).2.2 := rfl
    have n' : cnm tx L (t + 1) = if (cR tx L t = 8 ∨ cR tx L t = 10) ∧ tkk tx L t = 6 then cnm tx L t + 1 else cnm tx L t := rfl
    rw [l', n', a]
    refine ⟨?_, by omega⟩
    by_cases z : (cR tx L t = 8 ∨ cR tx L t = 10) ∧ tkk tx L t = 6
    · rw [if_neg (by omega), if_pos z, if_neg (by omega), if_pos (by omega)]
    · rw [if_neg z]
      by_cases y : tkk tx L t = 2
      · rw [if_pos y, if_pos (by omega), if_neg (by omega)]
      · rw [if_neg y]
        by_cases x : cR tx L t ≤ 4
        · rw [if_pos x, if_pos (by omega)]
        · rw [if_neg x, if_neg (by omega)]
theorem cnm_le {tx : Nat → Nat} {L t : Nat} (ht : t ≤ pT (tkk tx L)) : cnm tx L t ≤ 8 ∧ (5 ≤ cR tx L t → cnm tx L t < 8) := by
  have a := (cnm_ok t ht).1
  have b := (pT_8 (K := tkk tx L) ht).2
  refine ⟨by omega, fun h => ?_⟩
  rw [if_neg (by omega)] at a
  omega
theorem okF_n {n : Nat} (hn : n < 2 ^ 31) : okF (nI n) = decide (1 ≤ n ∧ n ≤ 12) := by
  unfold okF
  rw [decide_eq_decide]
  have a : ((1 : Int32) ≤ nI n) ↔ 1 ≤ n := zn_le (a := 1) (by decide) hn
  have b : (nI n ≤ (12 : Int32)) ↔ n ≤ 12 := zn_le (b := 12) hn (by decide)
  rw [a, b]
def WR (h : PH) (tx : Nat → Nat) (L : Nat) (F : Nat → Nat) (D : Nat → Prop) : Prop := (hI h 116 14 = nI 0 ∧ ∀ i, D i → F i = 0) ∨ (∃ a, D a ∧ F a ≠ 0 ∧ hI h 116 14 = nI (F a) ∧ hI h 116 15 = nI (tkS tx L a) ∧ ∀ i, D i → i < a → F i = 0)
theorem WR.eq {h : PH} {tx : Nat → Nat} {L : Nat} {F : Nat → Nat} {D D' : Nat → Prop} (w : WR h tx L F D) (e : ∀ i, D' i ↔ D i ∨ (D' i ∧ F i = 0)) : WR h tx L F D' := by
  rcases w with ⟨a, b⟩ | ⟨a, b1, b2, b3, b4, b5⟩
  · refine Or.inl ⟨a, fun i hi => ?_⟩
    rcases (e i).mp hi with y | y
    · exact b i y
    · exact y.2
  · refine Or.inr ⟨a, (e a).mpr (Or.inl b1), b2, b3, b4, fun i hi hl => ?_⟩
    rcases (e i).mp hi with y | y
    · exact b5 i y hl
    · exact y.2
def WJ (j : Nat) : Prop := j = 14 ∨ j = 15
def WA (k : Nat) : Prop := k = 116
theorem WR.fr {h h' : PH} {J A : Nat → Prop} (e : MNX J A h h') (n1 : ¬ J 14) (n2 : ¬ J 15) {tx : Nat → Nat} {L : Nat} {F : Nat → Nat} {D : Nat → Prop} (w : WR h tx L F D) : WR h' tx L F D := by
  unfold WR
  rw [e.2 14 n1, e.2 15 n2]
  exact w
theorem c_M_wrong {P : PSem} (S : SysOK P) {h : PH} (hw : WS h) {tx : Nat → Nat} {L : Nat} (hM : L ≤ 2000) {F : Nat → Nat} (hF : ∀ i, F i ≤ 6) {D : Nat → Prop} (hD : ∀ i, D i → i < pT (tkk tx L)) {b : Nat} (hb : b < pT (tkk tx L)) (hnb : ¬ D b) (tk : TOK h tx L b) (h12 : hI h 116 12 = nI 0) {v : Nat} (hv : F b = v) (hv0 : v ≠ 0) (w : WR h tx L F D) {K : PK}
    (hK : ∀ h', MNX WJ WA h h' → WR h' tx L F (fun i => D i ∨ i = b) → K .null h') : P.1 n_M_wrong [.ref 116, .int (nI v), .int (nI b)] h K := by
  have t4 := (pT_ok (tkk tx L)).1
  have sb' := tkS_le (tx := tx) hM b
  subst hv
  have fb := hF b
  have set : (∀ i, D i → i < b → F i = 0) → K .null (sI (sI h 116 14 (nI (F b))) 116 15 (nI (tkS tx L b))) := fun z => hK _ (MNX_tr (MNX_J rfl (Or.inl rfl)) (MNX_J rfl (Or.inr rfl))) (Or.inr ⟨b, Or.inr rfl, hv0, by rw [hI_sI_j (by decide), hI_sI], by rw [hI_sI], fun i hi hl => by
    rcases hi with y | y
    · exact z i y hl
    · omega⟩)
  refine S.go 60 rfl rfl rfl ?_
  conv => whnf
  refine ⟨wt_116 hw, ?_⟩
  conv => whnf
  rw [wr_116_6 hw]
  refine ⟨inB_of (wt_120 hw) (wn_120 hw) (show b < 403 by omega) (by decide), ?_⟩
  conv => whnf
  rw [nI_clamp (by omega), tk.2.1]
  refine ⟨wt_116 hw, ?_⟩
  conv => whnf
  rw [h12]
  refine bk_f (fun c => absurd ((zn_lt (a := 0) (b := 0) (by omega) (by omega)).mp c) (by omega)) ?_
  conv => whnf
  refine ⟨wt_116 hw, ?_⟩
  conv => whnf
  rcases w with ⟨a1, a2⟩ | ⟨a, b1, b2, b3, b4, b5⟩
  · rw [a1]
    refine bk_t ((zn_eq (a := 0) (b := 0) (by omega) (by omega)).mpr (by omega)) ?_
    conv => whnf
    refine ⟨wt_116 hw, ?_⟩
    conv => whnf
    refine ⟨wt_116 hw, ?_⟩
    conv => whnf
    exact set (fun i hi _ => a2 i hi)
  · have fa := hF a
    have sa := tkS_le (tx := tx) hM a
    have pa := hD a b1
    have ne : a ≠ b := fun e => hnb (e ▸ b1)
    rw [b3]
    refine bk_f (fun c => absurd ((zn_eq (b := 0) (by omega) (by omega)).mp c) (by omega)) ?_
    conv => whnf
    refine ⟨wt_116 hw, ?_⟩
    conv => whnf
    rw [b4]
    rcases Nat.lt_or_gt_of_ne ne with y | y
    · have := tkS_mon hM (Nat.le_of_lt hb) y
      refine bk_t ((zn_lt (by omega) (by omega)).mpr (by omega)) ?_
      conv => whnf
      refine hK h (MNX_rf _ _ _) (Or.inr ⟨a, Or.inl b1, b2, b3, b4, fun i hi hl => ?_⟩)
      rcases hi with x | x
      · exact b5 i x hl
      · omega
    · have := tkS_mon hM (Nat.le_of_lt pa) y
      refine bk_f (fun c => absurd ((zn_lt (by omega) (by omega)).mp c) (by omega)) ?_
      conv => whnf
      refine ⟨wt_116 hw, ?_⟩
      conv => whnf
      rw [b4]
      refine bk_nt (fun c => absurd ((zn_eq (by omega) (by omega)).mp c) (by omega)) ?_
      conv => whnf
      refine ⟨wt_116 hw, ?_⟩
      conv => whnf
      refine ⟨wt_116 hw, ?_⟩
      conv => whnf
      exact set (fun i hi hl => b5 i hi (by omega))
theorem rFL_le (tx : Nat → Nat) (L : Nat) (l0 : Nat → Int64) (t : Nat) : rFL tx L l0 t ≤ 6 := by
  unfold rFL
  repeat' split
  all_goals omega
def MSB (h : PH) (tx : Nat → Nat) (L : Nat) (l0 : Nat → Int64) (i : Nat) : Prop := (∀ k, k ≤ pT (tkk tx L) → TOK h tx L k) ∧ TX h tx L ∧ hI h 116 12 = nI 0 ∧ hI h 116 29 = nI (cnm tx L i) ∧ (∀ j, j < cnm tx L i → ∃ a, tkk tx L a = 4 ∧ cNL tx L l0 i j = lN (tkw tx L a) ∧ hL h 133 j = lN (tkn tx L a)) ∧ (∀ j, j < cnm tx L i → hI h 131 j = nI (rNF tx L i j) ∧ rNF tx L i j < 2000000)
def TJ (j : Nat) : Prop := j = 14 ∨ j = 15 ∨ j = 24 ∨ j = 37
theorem MSB.fr {h h' : PH} {tx : Nat → Nat} {L : Nat} {l0 : Nat → Int64} {i : Nat} {J : Nat → Prop} (hj : ∀ j, J j → TJ j) (e : MNX J SA h h') (m : MSB h tx L l0 i) : MSB h' tx L l0 i := by
  obtain ⟨a, b, c, d, f, g⟩ := m
  refine ⟨fun k hk => (a k hk).sa e, ⟨?_, ?_⟩, ?_, ?_, ?_, ?_⟩
  · rw [e.2 4 (fun y => by have := hj 4 y; unfold TJ at this; omega)]
    exact b.1
  · rw [(e.1.2.2.2 118 (by unfold SA; omega)).1]
    exact b.2
  · rw [e.2 12 (fun y => by have := hj 12 y; unfold TJ at this; omega)]
    exact c
  · rw [e.2 29 (fun y => by have := hj 29 y; unfold TJ at this; omega)]
    exact d
  · rw [(e.1.2.2.2 133 (by unfold SA; omega)).2]
    exact f
  · rw [(e.1.2.2.2 131 (by unfold SA; omega)).1]
    exact g
theorem MSB.nx {h : PH} {tx : Nat → Nat} {L : Nat} {l0 : Nat → Int64} {i : Nat} (m : MSB h tx L l0 i) (h1 : ¬ ((cR tx L i = 8 ∨ cR tx L i = 10) ∧ tkk tx L i = 6)) : MSB h tx L l0 (i + 1) := by
  obtain ⟨a, b, c, d, f, g⟩ := m
  have n' : cnm tx L (i + 1) = if (cR tx L i = 8 ∨ cR tx L i = 10) ∧ tkk tx L i = 6 then cnm tx L i + 1 else cnm tx L i := rfl
  rw [if_neg h1] at n'
  refine ⟨a, b, c, ?_, fun j hj => ?_, fun j hj => ?_⟩
  · rw [n']
    exact d
  · rw [n'] at hj
    have c' : cNL tx L l0 (i + 1) j = if cR tx L i = 5 ∧ j = cnm tx L i then lN (tkw tx L i) else cNL tx L l0 i j := rfl
    rw [c', if_neg (by omega)]
    exact f j hj
  · rw [n'] at hj
    have c' : rNF tx L (i + 1) j = if cR tx L i = 6 ∧ j = cnm tx L i then tkv tx L i else rNF tx L i j := rfl
    rw [c', if_neg (by omega)]
    exact g j hj
theorem MSB.ix {h : PH} {tx : Nat → Nat} {L : Nat} (hM : L ≤ 2000) {l0 : Nat → Int64} {i : Nat} (m : MSB h tx L l0 i) (hn : cnm tx L i ≤ 8) (hk : tkk tx L i = 4) : ixV (hL h 133) (cnm tx L i) (lN (tkn tx L i)) = cIV tx L l0 i := by
  have e : ixF (hL h 133) (cnm tx L i) (lN (tkn tx L i)) = cIX tx L l0 i := ixF_cong (fun j hj => by
    obtain ⟨a, a1, a2, a3⟩ := m.2.2.2.2.1 j hj
    rw [a2, a3]
    exact nm_iff hM a1 hk) hn
  unfold ixV cIV
  rw [e]
