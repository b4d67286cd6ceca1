/-! CONSTRUCTORS: the class's tower -/
theorem bifT {b : Bool} {k : Prop} (hb : b = true) (hk : k) : b_if b k := by
  subst hb
  exact hk
theorem and2 {a b c d : Nat} (h1 : a ≤ b) (h2 : c ≤ d) : (Nat.ble a b && Nat.ble c d) = true := by
  rw [Bool.and_eq_true, Nat.ble_eq, Nat.ble_eq]
  exact ⟨h1, h2⟩
theorem and3 {a b c d : Nat} {x : Bool} (h1 : a ≤ b) (h2 : c ≤ d) (hx : x = true) : (Nat.ble a b && Nat.ble c d && x) = true := by
  rw [and2 h1 h2, hx]
  rfl
def tw3 (h : PH) : PH := mkR (mkR (mkR h 8 0 24 13) 8 1 25 13) 8 2 26 13
def tw5 (h : PH) : PH := sR (spanH (hNew (tw3 h) 1 3) (hE (tw3 h))) 8 3 (hE (tw3 h))
def tw6 (h : PH) : PH := sR (hNewM (tw5 h) 27 13 20 13) 8 4 (hE (tw5 h))
def tw8 (h : PH) : PH := mkR (mkR (tw6 h) 8 5 22 13) 8 6 20 5
def twF (h : PH) (i : Nat) : PH := sR (fldH (hNew h 2 4) (hE h) i) 9 i (hE h)
def twC (h : PH) (i e : Nat) : PH := sR (cycH (hNew h 3 5) (hE h) e i) 10 i (hE h)
def twS (h : PH) (i e : Nat) : PH := sR (spcH (hNew h 4 4) (hE h) e 12) 11 i (hE h)
def twB (h : PH) (i : Nat) : PH := twS (twC (twF h i) i (hE h)) i (hE h)
def twL (h : PH) : Nat → PH
  | 0 => h
  | i + 1 => twB (twL h i) (i + 1)
def LI (h : PH) (e : Nat) : Prop := hE h = e ∧ 31 ≤ e ∧ hT h 8 = 5 ∧ (hR h 8 0 = 9 ∧ hR h 8 1 = 10 ∧ hR h 8 2 = 11 ∧ hR h 8 3 = 12) ∧ (hT h 9 = 24 ∧ hN h 9 = 13) ∧ (hT h 10 = 25 ∧ hN h 10 = 13) ∧ (hT h 11 = 26 ∧ hN h 11 = 13) ∧ hT h 2 = 20 ∧ hN h 2 = 13
theorem LI.new {h : PH} {e t n : Nat} (l : LI h e) : LI (hNew h t n) (e + 1) := by
  obtain ⟨a, b, c, d, f, g, i, j, k⟩ := l
  have gr : GRW 31 h (hNew h t n) := GRW_new (by omega)
  refine ⟨by show hE h + 1 = e + 1; rw [a], by omega, (gr.T (by decide)).trans c, ⟨?_, ?_, ?_, ?_⟩, ⟨(gr.T (by decide)).trans f.1, (gr.N (by decide)).trans f.2⟩, ⟨(gr.T (by decide)).trans g.1, (gr.N (by decide)).trans g.2⟩, ⟨(gr.T (by decide)).trans i.1, (gr.N (by decide)).trans i.2⟩, (gr.T (by decide)).trans j, (gr.N (by decide)).trans k⟩
  · rw [hR_new (by omega)]; exact d.1
  · rw [hR_new (by omega)]; exact d.2.1
  · rw [hR_new (by omega)]; exact d.2.2.1
  · rw [hR_new (by omega)]; exact d.2.2.2
theorem LI.sR {h : PH} {e k j v : Nat} (hk : k ≠ 8) (l : LI h e) : LI (sR h k j v) e := by
  obtain ⟨a, b, c, d, f⟩ := l
  refine ⟨a, b, c, ⟨?_, ?_, ?_, ?_⟩, f⟩
  · rw [hR_sR_ne (fun y => hk y.1.symm)]; exact d.1
  · rw [hR_sR_ne (fun y => hk y.1.symm)]; exact d.2.1
  · rw [hR_sR_ne (fun y => hk y.1.symm)]; exact d.2.2.1
  · rw [hR_sR_ne (fun y => hk y.1.symm)]; exact d.2.2.2
theorem LI.sI {h : PH} {e k j : Nat} {v : Int32} (l : LI h e) : LI (sI h k j v) e := l
theorem LI.twF {h : PH} {e i : Nat} (l : LI h e) : LI (twF h i) (e + 2) := by
  have n := (l.new (t := 2) (n := 4))
  exact LI.sR (by decide) (LI.sR (by have := l.1; have := l.2.1; omega) (LI.new (LI.sI (LI.sI (LI.sI n)))))
theorem LI.twC {h : PH} {e i f : Nat} (l : LI h e) : LI (twC h i f) (e + 1) := LI.sR (by decide) (LI.sI (LI.sR (by have := l.1; have := l.2.1; omega) l.new))
theorem LI.twS {h : PH} {e i f : Nat} (l : LI h e) : LI (twS h i f) (e + 1) := LI.sR (by decide) (LI.sR (by have := l.1; have := l.2.1; omega) (LI.sR (by have := l.1; have := l.2.1; omega) l.new))
theorem LI.twB {h : PH} {e i : Nat} (l : LI h e) : LI (twB h i) (e + 4) := (l.twF.twC).twS
theorem l_Tower_init {P : PSem} (S : SysOK P) {h0 : PH} (l0 : LI h0 31) {K : PK} (hK : K .null (twL h0 12)) : ∀ j i, i + j = 12 → LI (twL h0 i) (31 + 4 * i) → P.2 n_Tower_init 34 [some (.ref 8), some (.int (nI (i + 1)))] [] (twL h0 i) (22 + 4 * i) (266 + 26 * i) K := by
  intro j
  induction j with
  | zero =>
    intro i hj l
    have hj : i = 12 := by omega
    subst hj
    refine S.at 40 [] rfl ?_
    conv => whnf
    refine bk_t (by decide) ?_
    conv => whnf
    exact hK
  | succ j ih =>
    intro i hj l
    have next := ih (i + 1) (by omega) (by have := l.twB (i := i + 1); rw [show 31 + 4 * i + 4 = 31 + 4 * (i + 1) by omega] at this; exact this)
    rw [← nI_1 (i + 1)] at next
    have next : P.2 n_Tower_init 34 [some (.ref 8), some (.int (nI (i + 1) + 1))] [] (twB (twL h0 i) (i + 1)) (22 + 4 * (i + 1)) (266 + 26 * (i + 1)) K := next
    revert next l
    generalize twL h0 i = h
    intro l next
    have pw := pow12 (show i + 1 ≤ 12 by omega)
    have lF := l.twF (i := i + 1)
    have lC := lF.twC (i := i + 1) (f := hE h)
    have hw1 := l.new (t := 2) (n := 4)
    have e0 := l.1
    have T0 : hT (hNew h 2 4) (hE h) = 2 := congrArg (fun x => x.1) h1_new0
    refine S.at 60 [] rfl ?_
    conv => whnf
    refine bk_f (fun c => absurd ((zn_lt (a := 12) (by omega) (by omega)).mp c) (by omega)) ?_
    conv => whnf
    refine ⟨l.2.2.1, ?_⟩
    conv => whnf
    rw [l.2.2.2.1.1]
    refine bifT (and2 (a := 22 + 4 * i + 1) (b := 70) (c := 266 + 26 * i + 4) (d := 578) (by omega) (by omega)) ?_
    conv => whnf
    refine bifT (and3 (a := 22 + 4 * i + 1 + 1) (b := 70) (c := 266 + 26 * i + 4 + 13) (d := 578) (by omega) (by omega) rfl) ?_
    conv => whnf
    refine ⟨by omega, ?_⟩
    refine c_Field_init S T0 (by omega) (Nat.lt_succ_self _) hw1.2.2.2.2.2.2.2.1 hw1.2.2.2.2.2.2.2.2 (by omega) ?_
    have Fdef : twF h (i + 1) = sR (fldH (hNew h 2 4) (hE h) (i + 1)) 9 (i + 1) (hE h) := rfl
    have lf0 : LI (fldH (hNew h 2 4) (hE h) (i + 1)) (31 + 4 * i + 2) := LI.sR (by omega) (LI.new (LI.sI (LI.sI (LI.sI hw1))))
    have eE : hE (fldH (hNew h 2 4) (hE h) (i + 1)) = hE h + 2 := rfl
    have T1 : hT (fldH (hNew h 2 4) (hE h) (i + 1)) (hE h) = 2 := ((GRW_new (e := hE h + 1) (h := hNew h 2 4) (t := 20) (n := 13) (Nat.le_refl _)).T (Nat.lt_succ_self _)).trans T0
    conv => whnf
    refine ⟨Or.inl ⟨inB_of lf0.2.2.2.2.1.1 lf0.2.2.2.2.1.2 (show i + 1 < 13 by omega) (by decide), T1⟩, ?_⟩
    conv => whnf
    rw [nI_clamp (show i + 1 < 2 ^ 31 by omega), ← Fdef]
    have T2 : hT (twF h (i + 1)) (hE h) = 2 := T1
    have I2 : hI (twF h (i + 1)) (hE h) 1 = nI (2 ^ (i + 1)) := by
      show hI (hNew (sI (sI (sI (hNew h 2 4) (hE h) 0 (nI (i + 1))) (hE h) 1 (nI (2 ^ (i + 1)))) (hE h) 2 (hI (hNew h 2 4) 2 (i + 1))) 20 13) (hE h) 1 = _
      rw [hI_new (by show hE h ≠ hE h + 1; omega), hI_sI_j (by decide), hI_sI]
    have R9 : hR (twF h (i + 1)) 9 (i + 1) = hE h := hR_sR
    have EF : hE (twF h (i + 1)) = hE h + 2 := rfl
    have Cdef : twC (twF h (i + 1)) (i + 1) (hE h) = sR (cycH (hNew (twF h (i + 1)) 3 5) (hE (twF h (i + 1))) (hE h) (i + 1)) 10 (i + 1) (hE (twF h (i + 1))) := rfl
    have Sdef : twB h (i + 1) = sR (spcH (hNew (twC (twF h (i + 1)) (i + 1) (hE h)) 4 4) (hE (twC (twF h (i + 1)) (i + 1) (hE h))) (hE h) 12) 11 (i + 1) (hE (twC (twF h (i + 1)) (i + 1) (hE h))) := rfl
    have R9C : hR (twC (twF h (i + 1)) (i + 1) (hE h)) 9 (i + 1) = hE h := by
      rw [Cdef, hR_sR_ne (by omega)]
      show hR (sR (hNew (twF h (i + 1)) 3 5) (hE (twF h (i + 1))) 0 (hE h)) 9 (i + 1) = _
      rw [hR_sR_ne (by omega), hR_new (by omega)]
      exact R9
    have R83 : hR (twC (twF h (i + 1)) (i + 1) (hE h)) 8 3 = 12 := lC.2.2.2.1.2.2.2
    revert lF lC T2 I2 R9 EF Cdef Sdef R9C R83
    generalize twF h (i + 1) = hF
    intro lF lC T2 I2 R9 EF Cdef Sdef R9C R83
    refine ⟨lF.2.2.1, ?_⟩
    conv => whnf
    rw [lF.2.2.2.1.2.1]
    refine bifT (and2 (a := 22 + 4 * i + 1 + 1 + 1) (b := 70) (c := 266 + 26 * i + 4 + 13 + 5) (d := 578) (by omega) (by omega)) ?_
    conv => whnf
    have lN := lF.new (t := 3) (n := 5)
    have R9N : hR (hNew hF 3 5) 9 (i + 1) = hE h := by
      rw [hR_new (by omega)]
      exact R9
    have TN : hT (hNew hF 3 5) (hE h) = 2 := ((GRW_new (e := hE hF) (h := hF) (t := 3) (n := 5) (Nat.le_refl _)).T (by omega)).trans T2
    have IN : hI (hNew hF 3 5) (hE h) 1 = nI (2 ^ (i + 1)) := by
      rw [hI_new (by omega)]
      exact I2
    have T3 : hT (hNew hF 3 5) (hE hF) = 3 := congrArg (fun x => x.1) h1_new0
    refine ⟨lN.2.2.1, ?_⟩
    conv => whnf
    rw [lN.2.2.2.1.1]
    refine ⟨Or.inl (inB_of lN.2.2.2.2.1.1 lN.2.2.2.2.1.2 (show i + 1 < 13 by omega) (by decide)), ?_⟩
    conv => whnf
    rw [nI_clamp (show i + 1 < 2 ^ 31 by omega), R9N]
    refine bifT (and3 (a := 22 + 4 * i + 1 + 1 + 1 + 0) (b := 70) (c := 266 + 26 * i + 4 + 13 + 5 + 0) (d := 578) (by omega) (by omega) rfl) ?_
    conv => whnf
    refine ⟨by omega, ?_⟩
    refine c_Cycle_init S T3 (by omega) TN IN (by omega) ?_
    have lc0 : LI (cycH (hNew hF 3 5) (hE hF) (hE h) (i + 1)) (31 + 4 * i + 2 + 1) := LI.sI (LI.sR (by omega) lN)
    conv => whnf
    refine ⟨Or.inr (Or.inl ⟨inB_of lc0.2.2.2.2.2.1.1 lc0.2.2.2.2.2.1.2 (show i + 1 < 13 by omega) (by decide), T3⟩), ?_⟩
    conv => whnf
    rw [nI_clamp (show i + 1 < 2 ^ 31 by omega), ← Cdef]
    have EC : hE (twC hF (i + 1) (hE h)) = hE hF + 1 := rfl
    revert lC Sdef R9C R83 EC
    generalize twC hF (i + 1) (hE h) = hC
    intro lC Sdef R9C R83 EC
    refine ⟨lC.2.2.1, ?_⟩
    conv => whnf
    rw [lC.2.2.2.1.2.2.1]
    refine bifT (and2 (a := 22 + 4 * i + 1 + 1 + 1 + 0 + 1) (b := 70) (c := 266 + 26 * i + 4 + 13 + 5 + 0 + 4) (d := 578) (by omega) (by omega)) ?_
    conv => whnf
    have lM := lC.new (t := 4) (n := 4)
    have R9M : hR (hNew hC 4 4) 9 (i + 1) = hE h := by
      rw [hR_new (by omega)]
      exact R9C
    have T4 : hT (hNew hC 4 4) (hE hC) = 4 := congrArg (fun x => x.1) h1_new0
    refine ⟨lM.2.2.1, ?_⟩
    conv => whnf
    rw [lM.2.2.2.1.1]
    refine ⟨Or.inl (inB_of lM.2.2.2.2.1.1 lM.2.2.2.2.1.2 (show i + 1 < 13 by omega) (by decide)), ?_⟩
    conv => whnf
    rw [nI_clamp (show i + 1 < 2 ^ 31 by omega), R9M]
    refine ⟨lM.2.2.1, ?_⟩
    conv => whnf
    rw [lM.2.2.2.1.2.2.2]
    refine bifT (and3 (a := 22 + 4 * i + 1 + 1 + 1 + 0 + 1 + 0) (b := 70) (c := 266 + 26 * i + 4 + 13 + 5 + 0 + 4 + 0) (d := 578) (by omega) (by omega) rfl) ?_
    conv => whnf
    refine ⟨by omega, ?_⟩
    refine c_Space_init S T4 (by omega) ?_
    have ls0 : LI (spcH (hNew hC 4 4) (hE hC) (hE h) 12) (31 + 4 * i + 2 + 1 + 1) := LI.sR (by omega) (LI.sR (by omega) lM)
    conv => whnf
    refine ⟨Or.inr (Or.inr ⟨inB_of ls0.2.2.2.2.2.2.1.1 ls0.2.2.2.2.2.2.1.2 (show i + 1 < 13 by omega) (by decide), T4⟩), ?_⟩
    conv => whnf
    rw [nI_clamp (show i + 1 < 2 ^ 31 by omega), ← Sdef]
    rw [show 22 + 4 * (i + 1) = 22 + 4 * i + 1 + 1 + 1 + 0 + 1 + 0 by omega, show 266 + 26 * (i + 1) = 266 + 26 * i + 4 + 13 + 5 + 0 + 4 + 0 by omega] at next
    exact next
theorem c_Tower_init {P : PSem} (S : SysOK P) {h : PH} (h8 : hT h 8 = 5) (he : hE h = 9) (t2 : hT h 2 = 20) (n2 : hN h 2 = 13) {K : PK} (hK : K .null (twL (tw8 h) 12)) : P.1 n_Tower_init [.ref 8] h K := by
  have nx : ∀ (H : PH) j t n, (hT H 8 = 5 ∧ 8 < hE H) → (hT (mkR H 8 j t n) 8 = 5 ∧ 8 < hE (mkR H 8 j t n)) := fun H j t n a => ⟨(mkR_T a.2).trans a.1, Nat.lt_succ_of_lt a.2⟩
  have a0 : hT h 8 = 5 ∧ 8 < hE h := ⟨h8, by omega⟩
  have a1 := nx _ 0 24 13 a0
  have a2 := nx _ 1 25 13 a1
  have a3 : hT (tw3 h) 8 = 5 ∧ 8 < hE (tw3 h) := nx _ 2 26 13 a2
  have e3 : hE (tw3 h) = 12 := by
    show hE h + 1 + 1 + 1 = 12
    omega
  have S0 : hT (hNew (tw3 h) 1 3) (hE (tw3 h)) = 1 := congrArg (fun x => x.1) h1_new0
  have g5 : GRW 12 (tw3 h) (tw5 h) := GRW_tr (GRW_new (by omega)) (GRW_tr (GRW_tr (GRW_mkR (by show 12 ≤ hE (tw3 h) + 1; omega)) (GRW_mkR (by show 12 ≤ hE (tw3 h) + 1 + 1; omega))) GRW_sR)
  have e5 : hE (tw5 h) = 15 := by
    show hE (tw3 h) + 1 + 1 + 1 = 15
    omega
  have a5 : hT (tw5 h) 8 = 5 := (g5.T (by decide)).trans a3.1
  have g6 : GRW 12 (tw5 h) (tw6 h) := GRW_tr (GRW_newM (by omega)) GRW_sR
  have e6 : hE (tw6 h) = 29 := by
    show hE (tw5 h) + 1 + 13 = 29
    omega
  have a6 : hT (tw6 h) 8 = 5 ∧ 8 < hE (tw6 h) := ⟨(g6.T (by decide)).trans a5, by omega⟩
  have a7 := nx _ 5 22 13 a6
  have e8 : hE (tw8 h) = 31 := by
    show hE (tw6 h) + 1 + 1 = 31
    omega
  have g3 : GRW 9 h (tw3 h) := GRW_tr (GRW_tr (GRW_mkR (by omega)) (GRW_mkR (by show 9 ≤ hE h + 1; omega))) (GRW_mkR (by show 9 ≤ hE h + 1 + 1; omega))
  have g68 : GRW 12 (tw6 h) (tw8 h) := GRW_tr (GRW_mkR (by omega)) (GRW_mkR (by show 12 ≤ hE (tw6 h) + 1; omega))
  have g38 : GRW 12 (tw3 h) (tw8 h) := GRW_tr g5 (GRW_tr g6 g68)
  have r80 : ∀ (H : PH) (j t n q : Nat), ¬ (q = j) → 8 < hE H → hR (mkR H 8 j t n) 8 q = hR H 8 q := fun H j t n q hq hl => by
    show hR (sR (hNew H t n) 8 j (hE H)) 8 q = _
    rw [hR_sR_ne (fun y => hq y.2), hR_new (by omega)]
  have s80 : ∀ H : PH, ∀ j t n, hR (mkR H 8 j t n) 8 j = hE H := fun H j t n => hR_sR
  have q3 : hR (tw3 h) 8 0 = 9 ∧ hR (tw3 h) 8 1 = 10 ∧ hR (tw3 h) 8 2 = 11 := by
    refine ⟨?_, ?_, ?_⟩
    · show hR (mkR (mkR (mkR h 8 0 24 13) 8 1 25 13) 8 2 26 13) 8 0 = 9
      rw [r80 _ _ _ _ _ (by decide) a2.2, r80 _ _ _ _ _ (by decide) a1.2, s80]
      exact he
    · show hR (mkR (mkR (mkR h 8 0 24 13) 8 1 25 13) 8 2 26 13) 8 1 = 10
      rw [r80 _ _ _ _ _ (by decide) a2.2, s80]
      show hE h + 1 = 10
      omega
    · show hR (mkR (mkR (mkR h 8 0 24 13) 8 1 25 13) 8 2 26 13) 8 2 = 11
      rw [s80]
      show hE h + 1 + 1 = 11
      omega
  have q5 : ∀ q, q ≠ 3 → hR (tw5 h) 8 q = hR (tw3 h) 8 q := by
    intro q hq
    show hR (sR (mkR (mkR (hNew (tw3 h) 1 3) (hE (tw3 h)) 0 20 12) (hE (tw3 h)) 1 20 12) 8 3 (hE (tw3 h))) 8 q = _
    rw [hR_sR_ne (fun y => hq y.2)]
    show hR (sR (hNew (sR (hNew (hNew (tw3 h) 1 3) 20 12) (hE (tw3 h)) 0 _) 20 12) (hE (tw3 h)) 1 _) 8 q = _
    rw [hR_sR_ne (by omega), hR_new (by show 8 ≠ hE (tw3 h) + 1 + 1; omega), hR_sR_ne (by omega), hR_new (by show 8 ≠ hE (tw3 h) + 1; omega), hR_new (by omega)]
  have q53 : hR (tw5 h) 8 3 = 12 := by
    show hR (sR _ 8 3 (hE (tw3 h))) 8 3 = 12
    rw [hR_sR]
    exact e3
  have q6 : ∀ q, q ≠ 4 → hR (tw6 h) 8 q = hR (tw5 h) 8 q := by
    intro q hq
    show hR (sR (hNewM (tw5 h) 27 13 20 13) 8 4 (hE (tw5 h))) 8 q = _
    rw [hR_sR_ne (fun y => hq y.2)]
    show (if 8 = hE (tw5 h) then _ else if hE (tw5 h) < 8 ∧ 8 ≤ hE (tw5 h) + 13 then _ else hR (tw5 h) 8 q) = _
    rw [if_neg (by omega), if_neg (by omega)]
  have q8 : ∀ q, q < 4 → hR (tw8 h) 8 q = hR (tw5 h) 8 q := by
    intro q hq
    show hR (mkR (mkR (tw6 h) 8 5 22 13) 8 6 20 5) 8 q = _
    rw [r80 _ _ _ _ _ (by omega) a7.2, r80 _ _ _ _ _ (by omega) a6.2, q6 q (by omega)]
  have sh : ∀ (H : PH) k j t n, (mkR H k j t n).1 (hE H) = (t, n) := fun H k j t n => h1_new0
  have c9 : (tw3 h).1 9 = (24, 13) := by
    have : (mkR h 8 0 24 13).1 9 = (24, 13) := by rw [← he]; exact sh _ _ _ _ _
    rw [← this]
    exact (GRW_tr (GRW_mkR (e := 10) (by show 10 ≤ hE h + 1; omega)) (GRW_mkR (by show 10 ≤ hE h + 1 + 1; omega))).1 9 (by decide)
  have c10 : (tw3 h).1 10 = (25, 13) := by
    have : (mkR (mkR h 8 0 24 13) 8 1 25 13).1 10 = (25, 13) := by
      have := sh (mkR h 8 0 24 13) 8 1 25 13
      rw [show hE (mkR h 8 0 24 13) = 10 by show hE h + 1 = 10; omega] at this
      exact this
    rw [← this]
    exact (GRW_mkR (e := 11) (by show 11 ≤ hE h + 1 + 1; omega)).1 10 (by decide)
  have c11 : (tw3 h).1 11 = (26, 13) := by
    have := sh (mkR (mkR h 8 0 24 13) 8 1 25 13) 8 2 26 13
    rw [show hE (mkR (mkR h 8 0 24 13) 8 1 25 13) = 11 by show hE h + 1 + 1 = 11; omega] at this
    exact this
  have tn : ∀ k t n, (tw3 h).1 k = (t, n) → k < 12 → hT (tw8 h) k = t ∧ hN (tw8 h) k = n := fun k t n e hk => by
    have := (g38.1 k hk).trans e
    exact ⟨congrArg (fun x => x.1) this, congrArg (fun x => x.2) this⟩
  have l8 : LI (tw8 h) 31 := ⟨e8, Nat.le_refl _, (nx _ 6 20 5 a7).1, ⟨by rw [q8 0 (by decide), q5 0 (by decide)]; exact q3.1, by rw [q8 1 (by decide), q5 1 (by decide)]; exact q3.2.1, by rw [q8 2 (by decide), q5 2 (by decide)]; exact q3.2.2, by rw [q8 3 (by decide)]; exact q53⟩, tn 9 _ _ c9 (by decide), tn 10 _ _ c10 (by decide), tn 11 _ _ c11 (by decide), ((g38.T (by decide)).trans (g3.T (by decide))).trans t2, ((g38.N (by decide)).trans (g3.N (by decide))).trans n2⟩
  refine S.2.1 _ 2 _ _ _ rfl rfl ?_
  refine S.at 60 [34] rfl ?_
  conv => whnf
  refine ⟨by decide, ?_⟩
  conv => whnf
  refine ⟨⟨by decide, by decide⟩, ?_⟩
  conv => whnf
  refine ⟨((GRW_new (Nat.le_refl _)).T a0.2).trans a0.1, ?_⟩
  conv => whnf
  refine ⟨⟨by decide, by decide⟩, ?_⟩
  conv => whnf
  refine ⟨((GRW_new (Nat.le_refl _)).T a1.2).trans a1.1, ?_⟩
  conv => whnf
  refine ⟨⟨by decide, by decide⟩, ?_⟩
  conv => whnf
  refine ⟨((GRW_new (Nat.le_refl _)).T a2.2).trans a2.1, ?_⟩
  conv => whnf
  refine ⟨by show 1 ≤ hE (tw3 h); omega, ?_⟩
  refine c_Span_init (h := hNew (tw3 h) 1 3) S S0 (by omega) (Nat.lt_succ_self _) ?_
  conv => whnf
  refine ⟨(show hT (spanH (hNew (tw3 h) 1 3) (hE (tw3 h))) 8 = 5 from a5), ?_⟩
  conv => whnf
  refine ⟨⟨by decide, by decide, by decide, by decide⟩, ?_⟩
  conv => whnf
  refine ⟨(show hT (hNewM (tw5 h) 27 13 20 13) 8 = 5 from a6.1), ?_⟩
  conv => whnf
  refine ⟨⟨by decide, by decide⟩, ?_⟩
  conv => whnf
  refine ⟨((GRW_new (h := tw6 h) (Nat.le_refl _)).T a6.2).trans a6.1, ?_⟩
  conv => whnf
  refine ⟨⟨by decide, by decide⟩, ?_⟩
  conv => whnf
  refine ⟨((GRW_new (h := mkR (tw6 h) 8 5 22 13) (Nat.le_refl _)).T a7.2).trans a7.1, ?_⟩
  conv => whnf
  exact l_Tower_init (h0 := tw8 h) S l8 hK 12 0 rfl l8
