/-! TOKENS: the class takes them -/
theorem gAf_12 {r o : Nat} (h : gAf r 12 o ≠ 0) : o ≠ 0 := by
  intro e
  subst e
  apply h
  unfold gAf gPw
  repeat' split
  all_goals first | rfl | omega
theorem skF_le {tx : Nat → Nat} {L p : Nat} (hM : L ≤ 2000) (hp : p ≤ L) : p ≤ skF tx L p ∧ skF tx L p ≤ L := by
  obtain ⟨a, b, -, -⟩ := run_ok (f := fun q => blkB (tx q)) hp hM
  exact ⟨a, b⟩
theorem tkE_le {tx : Nat → Nat} {L q : Nat} (hM : L ≤ 2000) (hq : q ≤ L) : q ≤ tkE tx L q ∧ tkE tx L q ≤ L := by
  unfold tkE
  split
  · omega
  · split
    · obtain ⟨a, b, -, -⟩ := run_ok (f := fun q => ltrB (tx q)) hq hM
      exact ⟨a, b⟩
    · split
      · obtain ⟨a, b, -, -⟩ := run_ok (f := fun q => dgtB (tx q)) hq hM
        exact ⟨a, b⟩
      · omega
theorem tkP_le {tx : Nat → Nat} {L : Nat} (hM : L ≤ 2000) : ∀ t, tkP tx L t ≤ L := by
  intro t
  induction t with
  | zero => exact Nat.zero_le _
  | succ t ih => exact (tkE_le hM (skF_le hM ih).2).2
theorem tkS_le {tx : Nat → Nat} {L : Nat} (hM : L ≤ 2000) (t : Nat) : tkS tx L t ≤ L := (skF_le hM (tkP_le hM t)).2
theorem sgK_le (c : Nat) : sgK c ≤ 14 := by
  unfold sgK
  repeat' split
  all_goals omega
theorem wdK_le (c : Nat) : wdK c ≤ 14 := by
  unfold wdK
  repeat' split
  all_goals omega
theorem tkk_le (tx : Nat → Nat) (L t : Nat) : tkk tx L t ≤ 14 := by
  unfold tkk tkK
  have := sgK_le (tx (tkS tx L t))
  have := wdK_le (nmF 32 tx (tkS tx L t) (wdE tx L (tkS tx L t) - tkS tx L t))
  repeat' split
  all_goals omega
def PRA (s : Nat) (k : Nat) : Prop := k = 6 ∨ (s ≤ k ∧ k ≤ s + 4)
def PRS (h0 h : PH) (s : Nat) (tx : Nat → Nat) (L t : Nat) : Prop := eqY (PRA s) h0 h ∧ hI h 6 1 = hI h0 6 1 ∧ hI h s 0 = nI t ∧ ∀ i, i < t → hI h (s + 1) i = nI (tkk tx L i) ∧ hI h (s + 2) i = nI (pst (tkk tx L) i).1 ∧ hI h (s + 3) i = nI (tkS tx L i) ∧ hL h (s + 4) i = lN (tkw tx L i)
theorem PRS.tc {h0 h : PH} {s : Nat} (hs : SCL s) {tx : Nat → Nat} {L t : Nat} (e : PRS h0 h s tx L t) (hT : TC h0 tx L) : TC h tx L := ⟨by rw [e.2.1]; exact hT.1, fun i hi => by
  rw [(e.1.2.2.2 7 (by unfold PRA; rcases hs with rfl | rfl <;> omega)).1]
  exact hT.2 i hi⟩
theorem PRS.tk {h0 h h' : PH} {s : Nat} (hs : SCL s) {tx : Nat → Nat} {L t : Nat} (e : PRS h0 h s tx L t) (f : TKF h h') : PRS h0 h' s tx L t := by
  obtain ⟨a, b, c, d⟩ := e
  have ne : ∀ j, ¬ s + j = 6 := fun j => by rcases hs with rfl | rfl <;> omega
  refine ⟨eqY_tr a (eqY_mono (fun k hk => Or.inl hk) f.1), f.2.trans b, ?_, fun i hi => ?_⟩
  · rw [(f.1.2.2.2 s (ne 0)).1]
    exact c
  · rw [(f.1.2.2.2 (s + 1) (ne 1)).1, (f.1.2.2.2 (s + 2) (ne 2)).1, (f.1.2.2.2 (s + 3) (ne 3)).1, (f.1.2.2.2 (s + 4) (ne 4)).2]
    exact d i hi
theorem PRS.pl {h0 h : PH} {s : Nat} (hs : SCL s) {tx : Nat → Nat} {L t : Nat} (e : PRS h0 h s tx L t) (v : Int32) : PRS h0 (sI h s 12 v) s tx L t := by
  obtain ⟨a, b, c, d⟩ := e
  have n6 : 6 ≠ s := by rcases hs with rfl | rfl <;> decide
  refine ⟨eqY_tr a (eqY_sI (Or.inr ⟨Nat.le_refl s, by omega⟩)), (hI_ne n6).trans b, (hI_sI_j (by decide)).trans c, fun i hi => ?_⟩
  rw [hI_ne (by omega), hI_ne (by omega), hI_ne (by omega)]
  exact d i hi
theorem PRS.kp {h0 h : PH} {s : Nat} (hs : SCL s) {tx : Nat → Nat} {L t : Nat} (e : PRS h0 h s tx L t) (h3 : hI h 6 3 = nI (tkk tx L t)) (h4 : hI h 6 4 = nI (tkS tx L t)) (h5 : hL h 6 5 = lN (tkw tx L t)) : PRS h0 (kpH s h t (nI (pst (tkk tx L) t).1)) s tx L (t + 1) := by
  obtain ⟨a, b, c, d⟩ := e
  have s6 : 96 ≤ s := by rcases hs with rfl | rfl <;> decide
  unfold kpH
  refine ⟨?_, ?_, hI_sI, fun i hi => ?_⟩
  · refine eqY_tr a (eqY_tr (eqY_tr (eqY_tr (eqY_tr (eqY_sI ?_) (eqY_sI ?_)) (eqY_sI ?_)) (eqY_sL ?_)) (eqY_sI ?_))
    all_goals
      unfold PRA
      omega
  · rw [hI_ne (by omega), hI_sL, hI_ne (by omega), hI_ne (by omega), hI_ne (by omega)]
    exact b
  · have l : hL (sI (sL (sI (sI (sI h (s + 1) t (hI h 6 3)) (s + 2) t (nI (pst (tkk tx L) t).1)) (s + 3) t (hI h 6 4)) (s + 4) t (hL h 6 5)) s 0 (nI (t + 1))) (s + 4) i = if s + 4 = s + 4 ∧ i = t then hL h 6 5 else hL h (s + 4) i := rfl
    rcases Nat.lt_or_ge i t with w | w
    · obtain ⟨d1, d2, d3, d4⟩ := d i w
      refine ⟨?_, ?_, ?_, ?_⟩
      · rw [hI_ne (by omega), hI_sL, hI_ne (by omega), hI_ne (by omega), hI_sI_j (by omega)]
        exact d1
      · rw [hI_ne (by omega), hI_sL, hI_ne (by omega), hI_sI_j (by omega), hI_ne (by omega)]
        exact d2
      · rw [hI_ne (by omega), hI_sL, hI_sI_j (by omega), hI_ne (by omega), hI_ne (by omega)]
        exact d3
      · rw [l, if_neg (fun y => absurd y.2 (by omega))]
        exact d4
    · have e : i = t := by omega
      subst e
      refine ⟨?_, ?_, ?_, ?_⟩
      · rw [hI_ne (by omega), hI_sL, hI_ne (by omega), hI_ne (by omega), hI_sI]
        exact h3
      · rw [hI_ne (by omega), hI_sL, hI_ne (by omega), hI_sI]
      · rw [hI_ne (by omega), hI_sL, hI_sI]
        exact h4
      · rw [l, if_pos ⟨rfl, rfl⟩]
        exact h5
theorem pgo_no {K : Nat → Nat} {t : Nat} (ht : t ≤ pT K) (h : pgo K t = false) : t = pT K := by
  rcases Nat.lt_or_ge t (pT K) with w | w
  · rw [(pT_ok K).2.2 t w] at h
    cases h
  · omega
theorem pgo_iff (K : Nat → Nat) (t : Nat) : pgo K t = true ↔ (gAf (pst K t).1 (K t) (pst K t).2.1 ≠ 0 ∧ t < 400 ∧ (pst K (t + 1)).2.1 ≤ 8 ∧ (pst K (t + 1)).2.2 ≤ 8) := by
  unfold pgo
  rw [Bool.and_eq_true, Bool.and_eq_true, Bool.and_eq_true, Nat.ble_eq, Nat.ble_eq, decide_eq_true_iff, Bool.not_eq_true', beq_eq_false_iff_ne, and_assoc, and_assoc]
theorem y_Script_parse {P : PSem} (S : SysOK P) {h0 : PH} (hw0 : WS h0) {s : Nat} (hs : SCL s) {tx : Nat → Nat} {L : Nat} (hT0 : TC h0 tx L) (hB : TXB tx) (hM : L ≤ 2000) {K : PK}
    (hK : ∀ h', PRS h0 h' s tx L (pT (tkk tx L)) → hI h' s 12 = (if pF (tkk tx L) = 0 then -1 else nI (tkS tx L (pT (tkk tx L)))) → K (.int (nI (pF (tkk tx L)))) h') {t : Nat} (ht : t ≤ pT (tkk tx L)) {h : PH} (hp : PRS h0 h s tx L t) (hq : hI h 6 2 = nI (tkP tx L t)) {x6 x7 : Option Value}
    (nxt : t < pT (tkk tx L) → ∀ h', PRS h0 h' s tx L (t + 1) → hI h' 6 2 = nI (tkP tx L (t + 1)) → P.2 n_Script_parse 13 [some (.ref s), some (.ref 6), some (.int (nI (pst (tkk tx L) (t + 1)).1)), some (.int (nI (pst (tkk tx L) (t + 1)).2.1)), some (.int (nI (pst (tkk tx L) (t + 1)).2.2)), some (.int (nI (t + 1))), none, none] [] h' 0 0 K) :
    P.2 n_Script_parse 13 [some (.ref s), some (.ref 6), some (.int (nI (pst (tkk tx L) t).1)), some (.int (nI (pst (tkk tx L) t).2.1)), some (.int (nI (pst (tkk tx L) t).2.2)), some (.int (nI t)), x6, x7] [] h 0 0 K := by
  have t4 := Nat.le_trans ht (pT_ok (tkk tx L)).1
  have r1 := pst_le (tkk tx L) t
  obtain ⟨o1, l1⟩ := pst_op (tkk tx L) t
  have k1 := tkk_le tx L t
  have hw := eqY_WS hp.1 hw0
  have s6 : 96 ≤ s := by rcases hs with rfl | rfl <;> decide
  have n36 : ∀ h2, PRS h0 h2 s tx L t → hI h2 6 2 = nI (tkP tx L (t + 1)) → hI h2 6 3 = nI (tkk tx L t) → hI h2 6 4 = nI (tkS tx L t) → hL h2 6 5 = lN (tkw tx L t) → hI h2 s 12 = nI (tkS tx L t) → ¬ (tkk tx L t = 14 ∧ (pst (tkk tx L) t).1 = 1) → P.2 n_Script_parse 36 [some (.ref s), some (.ref 6), some (.int (nI (pst (tkk tx L) t).1)), some (.int (nI (pst (tkk tx L) t).2.1)), some (.int (nI (pst (tkk tx L) t).2.2)), some (.int (nI t)), some (.int (nI (tkk tx L t))), x7] [] h2 0 0 K := by
    intro h2 p2 a2 b2 c2 d2 f2 ne
    have hw2 := eqY_WS p2.1 hw0
    have out : ∀ v, pgo (tkk tx L) t = false → (gAf (pst (tkk tx L) t).1 (tkk tx L t) (pst (tkk tx L) t).2.1 = 0 → v = 1) → (gAf (pst (tkk tx L) t).1 (tkk tx L t) (pst (tkk tx L) t).2.1 ≠ 0 → v = 2) → K (.int (nI v)) h2 := by
      intro v g v1 v2
      have e := pgo_no ht g
      have pf : pF (tkk tx L) = v := by
        unfold pF
        rw [← e, if_neg ne]
        split
        · rename_i z
          exact (v1 z).symm
        · rename_i z
          exact (v2 z).symm
      have v0 : v ≠ 0 := by
        rcases Nat.decEq (gAf (pst (tkk tx L) t).1 (tkk tx L t) (pst (tkk tx L) t).2.1) 0 with z | z
        · rw [v2 z]
          decide
        · rw [v1 z]
          decide
      have := hK h2 (by rw [← e]; exact p2) (by rw [if_neg (by rw [pf]; exact v0), ← e]; exact f2)
      rw [pf] at this
      exact this
    have n68 : gAf (pst (tkk tx L) t).1 (tkk tx L t) (pst (tkk tx L) t).2.1 ≠ 0 → P.2 n_Script_parse 68 [some (.ref s), some (.ref 6), some (.int (nI (pst (tkk tx L) t).1)), some (.int (nI (pst (tkk tx L) (t + 1)).2.1)), some (.int (nI (pst (tkk tx L) (t + 1)).2.2)), some (.int (nI t)), some (.int (nI (tkk tx L t))), some (.int (nI (pst (tkk tx L) (t + 1)).1))] [] h2 0 0 K := by
      intro g
      obtain ⟨o2, l2⟩ := pst_op (tkk tx L) (t + 1)
      have bad : ¬ (t < 400 ∧ (pst (tkk tx L) (t + 1)).2.1 ≤ 8 ∧ (pst (tkk tx L) (t + 1)).2.2 ≤ 8) → K (.int (nI 2)) h2 := fun z => out 2 (by
        rw [← Bool.not_eq_true, pgo_iff]
        exact fun y => z y.2) (fun y => absurd y g) (fun _ => rfl)
      refine S.at 60 [] rfl ?_
      conv => whnf
      refine ⟨sc_t hw2 hs, ?_⟩
      conv => whnf
      rw [p2.2.2.1]
      refine bk_le (a := 400) (b := t) (by omega) (by omega) (fun c => ?_) (fun c => ?_)
      · conv => whnf
        exact bad (by omega)
      conv => whnf
      refine bk_lt (a := 8) (b := (pst (tkk tx L) (t + 1)).2.2) (by omega) (by omega) (fun c1 => ?_) (fun c1 => ?_)
      · conv => whnf
        exact bad (by omega)
      conv => whnf
      refine bk_le (b := 8) (by omega) (by omega) (fun c3 => ?_) (fun c3 => ?_)
      rotate_left
      · conv => whnf
        exact bad (by omega)
      conv => whnf
      refine ⟨sc_t hw2 hs, ?_⟩
      refine c_Script_keep S hw2 hs c p2.2.2.1 ?_
      conv => whnf
      have go : t < pT (tkk tx L) := by
        rcases Nat.lt_or_ge t (pT (tkk tx L)) with w | w
        · exact w
        · have e : t = pT (tkk tx L) := by omega
          have q := (pT_ok (tkk tx L)).2.1
          rw [← e, (pgo_iff _ t).mpr ⟨g, c, c3, c1⟩] at q
          cases q
      have next := nxt go (kpH s h2 t (nI (pst (tkk tx L) t).1)) (p2.kp hs b2 c2 d2) (by
        unfold kpH
        rw [hI_ne (by omega), hI_sL, hI_ne (by omega), hI_ne (by omega), hI_ne (by omega)]
        exact a2)
      rw [← nI_1 t] at next
      refine S.mk [(0,1),(0,1),(0,1),(0,1),(0,1),(0,1),(0,0),(0,0)] ?_
      exact next
    have n54 : gAf (pst (tkk tx L) t).1 (tkk tx L t) (pst (tkk tx L) t).2.1 ≠ 0 → P.2 n_Script_parse 54 [some (.ref s), some (.ref 6), some (.int (nI (pst (tkk tx L) t).1)), some (.int (nI (pst (tkk tx L) t).2.1)), some (.int (nI (pst (tkk tx L) (t + 1)).2.2)), some (.int (nI t)), some (.int (nI (tkk tx L t))), some (.int (nI (pst (tkk tx L) (t + 1)).1))] [] h2 0 0 K := by
      intro g
      have n68 := n68 g
      have eo : (pst (tkk tx L) (t + 1)).2.1 = (if tkk tx L t = 11 then (pst (tkk tx L) t).2.1 + 1 else if tkk tx L t = 12 then (pst (tkk tx L) t).2.1 - 1 else (pst (tkk tx L) t).2.1) := rfl
      rw [eo] at n68
      refine S.at 60 [68] rfl ?_
      conv => whnf
      refine bk_ne (b := 11) (by omega) (by omega) (fun c => ?_) (fun c => ?_)
      · rw [if_neg c] at n68
        conv => whnf
        refine bk_ne (b := 12) (by omega) (by omega) (fun d => ?_) (fun d => ?_)
        · rw [if_neg d] at n68
          conv => whnf
          refine p2c ?_ n68
          exact congrArg (fun z => [some (Value.ref s), some (.ref 6), some (.int (nI (pst (tkk tx L) t).1)), some (.int z), some (.int (nI (pst (tkk tx L) (t + 1)).2.2)), some (.int (nI t)), some (.int (nI (tkk tx L t))), some (.int (nI (pst (tkk tx L) (t + 1)).1))]) (Int32.add_zero _)
        · rw [if_pos d] at n68
          rw [d] at g
          have oz := gAf_12 g
          have em : nI (pst (tkk tx L) t).2.1 + (-1) = nI ((pst (tkk tx L) t).2.1 - 1) := by
            rw [← zn_mns (by omega)]
            exact (Int32.sub_eq_add_neg _ _).symm
          conv => whnf
          refine p2c ?_ n68
          exact congrArg (fun z => [some (Value.ref s), some (.ref 6), some (.int (nI (pst (tkk tx L) t).1)), some (.int z), some (.int (nI (pst (tkk tx L) (t + 1)).2.2)), some (.int (nI t)), some (.int (nI (tkk tx L t))), some (.int (nI (pst (tkk tx L) (t + 1)).1))]) em
      · rw [if_pos c] at n68
        conv => whnf
        refine p2c ?_ n68
        exact congrArg (fun z => [some (Value.ref s), some (.ref 6), some (.int (nI (pst (tkk tx L) t).1)), some (.int z), some (.int (nI (pst (tkk tx L) (t + 1)).2.2)), some (.int (nI t)), some (.int (nI (tkk tx L t))), some (.int (nI (pst (tkk tx L) (t + 1)).1))]) (nI_1 _)
    refine S.at 60 [54] rfl ?_
    conv => whnf
    refine c_Gram_after S (by omega) (by omega) (by omega) ?_
    conv => whnf
    refine bk_ne (b := 0) (by have := gAf_le (pst (tkk tx L) t).1 (tkk tx L t) (pst (tkk tx L) t).2.1; omega) (by omega) (fun g => ?_) (fun g => ?_)
    · have n54 := n54 g
      have el : (pst (tkk tx L) (t + 1)).2.2 = (if tkk tx L t = 2 then (pst (tkk tx L) t).2.2 + 1 else (pst (tkk tx L) t).2.2) := rfl
      rw [el] at n54
      conv => whnf
      refine bk_ne (b := 2) (by omega) (by omega) (fun c => ?_) (fun c => ?_)
      · rw [if_neg c] at n54
        conv => whnf
        refine p2c ?_ n54
        exact congrArg (fun z => [some (Value.ref s), some (.ref 6), some (.int (nI (pst (tkk tx L) t).1)), some (.int (nI (pst (tkk tx L) t).2.1)), some (.int z), some (.int (nI t)), some (.int (nI (tkk tx L t))), some (.int (nI (pst (tkk tx L) (t + 1)).1))]) (Int32.add_zero _)
      · rw [if_pos c] at n54
        conv => whnf
        refine p2c ?_ n54
        exact congrArg (fun z => [some (Value.ref s), some (.ref 6), some (.int (nI (pst (tkk tx L) t).1)), some (.int (nI (pst (tkk tx L) t).2.1)), some (.int z), some (.int (nI t)), some (.int (nI (tkk tx L t))), some (.int (nI (pst (tkk tx L) (t + 1)).1))]) (nI_1 _)
    · conv => whnf
      exact out 1 (by
        rw [← Bool.not_eq_true, pgo_iff]
        exact fun y => y.1 g) (fun _ => rfl) (fun y => absurd g y)
  refine S.at 60 [36] rfl ?_
  conv => whnf
  refine bk_f (fun c => absurd ((zn_lt (a := 2000) (by omega) (by omega)).mp c) (by omega)) ?_
  conv => whnf
  refine ⟨wt_6 hw, ?_⟩
  refine c_Tape_scanToken S hw (hp.tc hs hT0) hB hM (tkP_le hM t) hq ?_
  intro h1 f1 a1 b1 c1 d1
  have p1 := hp.tk hs f1
  have hw1 := eqY_WS p1.1 hw0
  have n36 := n36 (sI h1 s 12 (nI (tkS tx L t))) (p1.pl hs _) ((hI_ne (by omega)).trans a1) ((hI_ne (by omega)).trans b1) ((hI_ne (by omega)).trans c1) d1 hI_sI
  conv => whnf
  refine ⟨wt_6 hw1, ?_⟩
  conv => whnf
  rw [b1]
  refine ⟨wt_6 hw1, ?_⟩
  conv => whnf
  rw [c1]
  refine ⟨sc_t hw1 hs, ?_⟩
  conv => whnf
  refine bk_ne (a := tkk tx L t) (b := 14) (by omega) (by omega) (fun c => ?_) (fun c => ?_)
  · conv => whnf
    exact n36 (fun y => c y.1)
  · conv => whnf
    refine bk_ne (b := 1) (by omega) (by omega) (fun d => ?_) (fun d => ?_)
    · conv => whnf
      exact n36 (fun y => d y.2)
    · conv => whnf
      refine ⟨sc_t hw1 hs, ?_⟩
      conv => whnf
      have g : pgo (tkk tx L) t = false := by
        rw [← Bool.not_eq_true, pgo_iff]
        intro y
        rw [c] at y
        exact y.1 (gAf_14 _ _)
      have e := pgo_no ht g
      have pf : pF (tkk tx L) = 0 := by
        unfold pF
        rw [← e, if_pos ⟨c, d⟩]
      have fin := hK (sI (sI h1 s 12 (nI (tkS tx L t))) s 12 (-1)) (by rw [← e]; exact (p1.pl hs _).pl hs _) (by rw [if_pos pf, hI_sI])
      rw [pf] at fin
      exact fin
theorem c_Script_parse {P : PSem} (S : SysOK P) {h : PH} (hw : WS h) {s : Nat} (hs : SCL s) {tx : Nat → Nat} {L : Nat} (hT : TC h tx L) (hB : TXB tx) (hM : L ≤ 2000) {K : PK}
    (hK : ∀ h', PRS h h' s tx L (pT (tkk tx L)) → hI h' s 12 = (if pF (tkk tx L) = 0 then -1 else nI (tkS tx L (pT (tkk tx L)))) → K (.int (nI (pF (tkk tx L)))) h') : P.1 n_Script_parse [.ref s, .ref 6] h K := by
  have lp : ∀ j t, t + j = pT (tkk tx L) → ∀ h' x6 x7, PRS h h' s tx L t → hI h' 6 2 = nI (tkP tx L t) → P.2 n_Script_parse 13 [some (.ref s), some (.ref 6), some (.int (nI (pst (tkk tx L) t).1)), some (.int (nI (pst (tkk tx L) t).2.1)), some (.int (nI (pst (tkk tx L) t).2.2)), some (.int (nI t)), x6, x7] [] h' 0 0 K := by
    intro j
    induction j with
    | zero =>
      intro t e h' x6 x7 p q
      exact y_Script_parse S hw hs hT hB hM hK (by omega) p q (fun w => by omega)
    | succ j ih =>
      intro t e h' x6 x7 p q
      exact y_Script_parse S hw hs hT hB hM hK (by omega) p q (fun w h2 p2 q2 => ih (t + 1) (by omega) h2 none none p2 q2)
  have s6 : 96 ≤ s := by rcases hs with rfl | rfl <;> decide
  refine S.2.1 _ 8 _ _ _ rfl rfl ?_
  refine S.at 60 [13] rfl ?_
  conv => whnf
  refine ⟨sc_t hw hs, ?_⟩
  conv => whnf
  refine ⟨wt_6 hw, ?_⟩
  refine S.go 20 rfl rfl rfl ?_
  conv => whnf
  refine ⟨wt_6 hw, ?_⟩
  conv => whnf
  refine lp _ 0 (Nat.zero_add _) _ none none ⟨?_, ?_, ?_, fun i hi => absurd hi (Nat.not_lt_zero i)⟩ ?_
  · exact eqY_tr (eqY_sI (Or.inr ⟨Nat.le_refl s, by omega⟩)) (eqY_sI (Or.inl rfl))
  · exact (hI_sI_j (by decide)).trans (hI_ne (by omega))
  · exact (hI_ne (by omega)).trans hI_sI
  · exact hI_sI
