/-! CONSTRUCTORS: the class's own -/
def ftA (h : PH) : PH := sR (tapeH (hNew h 0 6) (hE h)) 5 0 (hE h)
def ftB (h : PH) : PH := sR (twL (tw8 (hNew h 5 7)) 12) 5 1 (hE h)
def ftC (h : PH) : PH := sR (workH (hNew h 6 7) (hE h)) 5 2 (hE h)
def ftD (h : PH) : PH := sR (histH (hNew h 7 3) (hE h)) 5 3 (hE h)
def ftE (h : PH) : PH := mkR (mkR h 5 4 20 8) 5 5 20 13
def ftF (h : PH) : PH := sR (hNewM h 27 3 20 13) 5 6 (hE h)
def ftG (h : PH) : PH := mkR (mkR h 5 7 22 3) 5 8 20 64
def ftH (h : PH) : PH := sR (scrH (hNew h 8 13) (hE h)) 5 9 (hE h)
def ftI (h : PH) : PH := sR (scrH (hNew h 8 13) (hE h)) 5 10 (hE h)
def ftJ (h : PH) : PH := sI h 5 11 (-1)
def FTH (h : PH) : PH := ftJ (ftI (ftH (ftG (ftF (ftE (ftD (ftC (ftB (ftA h)))))))))
theorem GRW_tape {e : Nat} {h : PH} {k : Nat} (he : e ≤ hE h) : GRW e h (tapeH h k) := GRW_mkR he
theorem GRW_span {e : Nat} {h : PH} {k : Nat} (he : e ≤ hE h) : GRW e h (spanH h k) := GRW_tr (GRW_mkR he) (GRW_mkR (Nat.le_succ_of_le he))
theorem GRW_hist {e : Nat} {h : PH} {k : Nat} (he : e ≤ hE h) : GRW e h (histH h k) := GRW_tr (GRW_mkR he) (GRW_mkR (Nat.le_succ_of_le he))
theorem GRW_2 {e : Nat} {h h1 : PH} {k j t n : Nat} (he : e ≤ hE h) (g : GRW e h h1) : GRW e h (mkR h1 k j t n) := GRW_tr g (GRW_mkR (Nat.le_trans he g.2))
theorem GRW_work {e : Nat} {h : PH} {k : Nat} (he : e ≤ hE h) : GRW e h (workH h k) := GRW_2 he (GRW_2 he (GRW_2 he (GRW_2 he (GRW_mkR he))))
theorem GRW_scr {e : Nat} {h : PH} {k : Nat} (he : e ≤ hE h) : GRW e h (scrH h k) := GRW_tr (GRW_2 he (GRW_2 he (GRW_2 he (GRW_2 he (GRW_2 he (GRW_2 he (GRW_2 he (GRW_2 he (GRW_mkR he))))))))) GRW_sI
theorem GRW_twB {e : Nat} {h : PH} {i : Nat} (he : e ≤ hE h) : GRW e h (twB h i) := by
  have gF : GRW e h (twF h i) := GRW_tr (GRW_new he) (GRW_tr (GRW_tr (GRW_tr (GRW_tr GRW_sI GRW_sI) GRW_sI) (GRW_mkR (Nat.le_succ_of_le he))) GRW_sR)
  have gC : ∀ (H : PH) f, e ≤ hE H → GRW e H (twC H i f) := fun H f hH => GRW_tr (GRW_new hH) (GRW_tr (GRW_tr GRW_sR GRW_sI) GRW_sR)
  have gS : ∀ (H : PH) f, e ≤ hE H → GRW e H (twS H i f) := fun H f hH => GRW_tr (GRW_new hH) (GRW_tr (GRW_tr GRW_sR GRW_sR) GRW_sR)
  have h1 := Nat.le_trans he gF.2
  have g2 := GRW_tr gF (gC _ (hE h) h1)
  exact GRW_tr g2 (gS _ (hE h) (Nat.le_trans he g2.2))
theorem GRW_twL {e : Nat} {h : PH} (he : e ≤ hE h) : ∀ i, GRW e h (twL h i) := by
  intro i
  induction i with
  | zero => exact GRW_rf _ _
  | succ i ih => exact GRW_tr ih (GRW_twB (Nat.le_trans he ih.2))
theorem GRW_tw8 {e : Nat} {h : PH} (he : e ≤ hE h) : GRW e h (tw8 h) := by
  have g3 : GRW e h (tw3 h) := GRW_2 he (GRW_2 he (GRW_mkR he))
  have h3 := Nat.le_trans he g3.2
  have g5 : GRW e h (tw5 h) := GRW_tr g3 (GRW_tr (GRW_new h3) (GRW_tr (GRW_span (Nat.le_succ_of_le h3)) GRW_sR))
  have g6 : GRW e h (tw6 h) := GRW_tr g5 (GRW_tr (GRW_newM (Nat.le_trans he g5.2)) GRW_sR)
  exact GRW_2 he (GRW_2 he g6)
theorem hE_twL {h : PH} : ∀ i, hE (twL h i) = hE h + 4 * i := by
  intro i
  induction i with
  | zero => rfl
  | succ i ih =>
    show hE (twL h i) + 1 + 1 + 1 + 1 = _
    rw [ih]
    omega
def Q5 (h : PH) (e : Nat) : Prop := hT h 5 = 9 ∧ hE h = e ∧ hT h 2 = 20 ∧ hN h 2 = 13
theorem Q5.gr {h h' : PH} {e e' : Nat} (q : Q5 h e) (h6 : 6 ≤ e) (g : GRW 6 h h') (he : hE h' = e') : Q5 h' e' := ⟨(g.T (by decide)).trans q.1, he, (g.T (by decide)).trans q.2.2.1, (g.N (by decide)).trans q.2.2.2⟩
theorem ft_A {P : PSem} (S : SysOK P) {h : PH} (q : Q5 h 6) {K : PK} (hK : P.2 n_FT_init 7 [some (.ref 5)] [] (ftA h) 2 2006 K) : P.2 n_FT_init 0 [some (.ref 5)] [] h 0 0 K := by
  have he := q.2.1
  have T0 : hT (hNew h 0 6) (hE h) = 0 := congrArg (fun x => x.1) h1_new0
  have g0 : GRW 6 h (tapeH (hNew h 0 6) (hE h)) := GRW_tr (GRW_new (by omega)) (GRW_tape (by show 6 ≤ hE h + 1; omega))
  refine S.at 40 [7] rfl ?_
  conv => whnf
  refine ⟨by decide, ?_⟩
  conv => whnf
  refine ⟨by omega, ?_⟩
  refine c_Tape_init S T0 (by omega) (Nat.lt_succ_self _) ?_
  conv => whnf
  refine ⟨(g0.T (by decide)).trans q.1, ?_⟩
  conv => whnf
  exact hK
theorem q_A {h : PH} (q : Q5 h 6) : Q5 (ftA h) 8 := by
  have he := q.2.1
  exact q.gr (by decide) (GRW_tr (GRW_new (by omega)) (GRW_tr (GRW_tape (by show 6 ≤ hE h + 1; omega)) GRW_sR)) (by show hE h + 1 + 1 = 8; omega)
theorem hE_tw8 (h : PH) : hE (tw8 h) = hE h + 22 := rfl
theorem hE_B (h : PH) : hE (twL (tw8 (hNew h 5 7)) 12) = hE h + 71 := by
  have a := hE_twL (h := tw8 (hNew h 5 7)) 12
  have b := hE_tw8 (hNew h 5 7)
  have c : hE (hNew h 5 7) = hE h + 1 := rfl
  omega
theorem gr_B {h : PH} (he : 6 ≤ hE h) : GRW 6 h (twL (tw8 (hNew h 5 7)) 12) := by
  have c : hE (hNew h 5 7) = hE h + 1 := rfl
  have g8 := GRW_tw8 (e := 6) (h := hNew h 5 7) (by omega)
  have g9 := GRW_twL (e := 6) (h := tw8 (hNew h 5 7)) (by have := g8.2; omega) 12
  have g1 : GRW 6 h (hNew h 5 7) := GRW_new he
  exact GRW_tr g1 (GRW_tr g8 g9)
theorem qs {h h2 : PH} {e j v : Nat} (q : Q5 h e) (h6 : 6 ≤ e) (g : GRW 6 h h2) {e' : Nat} (he : hE h2 = e') : Q5 (sR h2 5 j v) e' := q.gr h6 (GRW_tr g GRW_sR) he
theorem q_B {h : PH} (q : Q5 h 8) : Q5 (ftB h) 79 := by
  have he := q.2.1
  have e := hE_B h
  rw [he] at e
  exact qs q (by decide) (gr_B (by omega)) e
theorem ft_Bg {P : PSem} (S : SysOK P) {h h2 : PH} (q : Q5 h 8) (g : GRW 6 h h2) (key : ∀ K : PK, K .null h2 → P.1 n_Tower_init [.ref 8] (hNew h 5 7) K) {K : PK} (hK : P.2 n_FT_init 12 [some (.ref 5)] [] (sR h2 5 1 8) 73 2591 K) : P.2 n_FT_init 7 [some (.ref 5)] [] h 2 2006 K := by
  have he := q.2.1
  refine S.at 40 [12] rfl ?_
  conv => whnf
  rw [he]
  refine ⟨by decide, ?_⟩
  refine key _ ?_
  conv => whnf
  refine ⟨(g.T (by decide)).trans q.1, ?_⟩
  conv => whnf
  exact hK
theorem ft_B {P : PSem} (S : SysOK P) {h : PH} (q : Q5 h 8) {K : PK} (hK : P.2 n_FT_init 12 [some (.ref 5)] [] (ftB h) 73 2591 K) : P.2 n_FT_init 7 [some (.ref 5)] [] h 2 2006 K := by
  have he := q.2.1
  have T0 : hT (hNew h 5 7) 8 = 5 := by
    have : hT (hNew h 5 7) (hE h) = 5 := congrArg (fun x => x.1) h1_new0
    rw [he] at this
    exact this
  have g1 : GRW 6 h (hNew h 5 7) := GRW_new (by omega)
  have e1 : hE (hNew h 5 7) = 9 := by
    have c : hE (hNew h 5 7) = hE h + 1 := rfl
    omega
  unfold ftB at hK
  rw [he] at hK
  exact ft_Bg S q (gr_B (by omega)) (fun K hk => c_Tower_init (h := hNew h 5 7) S T0 e1 ((g1.T (by decide)).trans q.2.2.1) ((g1.N (by decide)).trans q.2.2.2) hk) hK
theorem ft_C {P : PSem} (S : SysOK P) {h : PH} (q : Q5 h 79) {K : PK} (hK : P.2 n_FT_init 17 [some (.ref 5)] [] (ftC h) 79 2642 K) : P.2 n_FT_init 12 [some (.ref 5)] [] h 73 2591 K := by
  have he := q.2.1
  have T0 : hT (hNew h 6 7) (hE h) = 6 := congrArg (fun x => x.1) h1_new0
  have g0 : GRW 6 h (workH (hNew h 6 7) (hE h)) := GRW_tr (GRW_new (by omega)) (GRW_work (by show 6 ≤ hE h + 1; omega))
  refine S.at 40 [17] rfl ?_
  conv => whnf
  refine ⟨by omega, ?_⟩
  refine c_Worker_init S T0 (by omega) (Nat.lt_succ_self _) ?_
  conv => whnf
  refine ⟨(g0.T (by decide)).trans q.1, ?_⟩
  conv => whnf
  exact hK
theorem q_C {h : PH} (q : Q5 h 79) : Q5 (ftC h) 85 := by
  have he := q.2.1
  exact q.gr (by decide) (GRW_tr (GRW_new (by omega)) (GRW_tr (GRW_work (by show 6 ≤ hE h + 1; omega)) GRW_sR)) (by show hE h + 1 + 1 + 1 + 1 + 1 + 1 = 85; omega)
theorem ft_D {P : PSem} (S : SysOK P) {h : PH} (q : Q5 h 85) {K : PK} (hK : P.2 n_FT_init 22 [some (.ref 5)] [] (ftD h) 82 2705 K) : P.2 n_FT_init 17 [some (.ref 5)] [] h 79 2642 K := by
  have he := q.2.1
  have T0 : hT (hNew h 7 3) (hE h) = 7 := congrArg (fun x => x.1) h1_new0
  have g0 : GRW 6 h (histH (hNew h 7 3) (hE h)) := GRW_tr (GRW_new (by omega)) (GRW_hist (by show 6 ≤ hE h + 1; omega))
  refine S.at 40 [22] rfl ?_
  conv => whnf
  refine ⟨by omega, ?_⟩
  refine c_Hist_init S T0 (by omega) (Nat.lt_succ_self _) ?_
  conv => whnf
  refine ⟨(g0.T (by decide)).trans q.1, ?_⟩
  conv => whnf
  exact hK
theorem q_D {h : PH} (q : Q5 h 85) : Q5 (ftD h) 88 := by
  have he := q.2.1
  exact q.gr (by decide) (GRW_tr (GRW_new (by omega)) (GRW_tr (GRW_hist (by show 6 ≤ hE h + 1; omega)) GRW_sR)) (by show hE h + 1 + 1 + 1 = 88; omega)
theorem q_E1 {h : PH} (q : Q5 h 88) : Q5 (mkR h 5 4 20 8) 89 := by
  have he := q.2.1
  exact q.gr (by decide) (GRW_mkR (by omega)) (by show hE h + 1 = 89; omega)
theorem q_E {h : PH} (q : Q5 h 88) : Q5 (ftE h) 90 := by
  have q1 := q_E1 q
  have he := q1.2.1
  exact q1.gr (by decide) (GRW_mkR (by omega)) (by show hE (mkR h 5 4 20 8) + 1 = 90; omega)
theorem ft_E {P : PSem} (S : SysOK P) {h : PH} (q : Q5 h 88) {K : PK} (hK : P.2 n_FT_init 30 [some (.ref 5)] [] (ftE h) 84 2726 K) : P.2 n_FT_init 22 [some (.ref 5)] [] h 82 2705 K := by
  have he := q.2.1
  have q1 := q_E1 q
  have he1 := q1.2.1
  refine S.at 40 [30] rfl ?_
  conv => whnf
  refine ⟨⟨by decide, by decide⟩, ?_⟩
  conv => whnf
  refine ⟨((GRW_new (Nat.le_refl _)).T (by omega)).trans q.1, ?_⟩
  conv => whnf
  refine ⟨⟨by decide, by decide⟩, ?_⟩
  conv => whnf
  refine ⟨((GRW_new (h := mkR h 5 4 20 8) (Nat.le_refl _)).T (by omega)).trans q1.1, ?_⟩
  conv => whnf
  exact hK
theorem q_F {h : PH} (q : Q5 h 90) : Q5 (ftF h) 94 := by
  have he := q.2.1
  exact q.gr (by decide) (GRW_tr (GRW_newM (by omega)) GRW_sR) (by show hE h + 1 + 3 = 94; omega)
theorem ft_F {P : PSem} (S : SysOK P) {h : PH} (q : Q5 h 90) {K : PK} (hK : P.2 n_FT_init 35 [some (.ref 5)] [] (ftF h) 88 2768 K) : P.2 n_FT_init 30 [some (.ref 5)] [] h 84 2726 K := by
  have he := q.2.1
  have g2 : GRW 6 h (hNewM h 27 3 20 13) := GRW_newM (by omega)
  refine S.at 40 [35] rfl ?_
  conv => whnf
  refine ⟨⟨by decide, by decide, by decide, by decide⟩, ?_⟩
  conv => whnf
  refine ⟨(g2.T (by decide)).trans q.1, ?_⟩
  conv => whnf
  exact hK
theorem q_G1 {h : PH} (q : Q5 h 94) : Q5 (mkR h 5 7 22 3) 95 := by
  have he := q.2.1
  exact q.gr (by decide) (GRW_mkR (by omega)) (by show hE h + 1 = 95; omega)
theorem q_G {h : PH} (q : Q5 h 94) : Q5 (ftG h) 96 := by
  have q1 := q_G1 q
  have he := q1.2.1
  exact q1.gr (by decide) (GRW_mkR (by omega)) (by show hE (mkR h 5 7 22 3) + 1 = 96; omega)
theorem ft_G {P : PSem} (S : SysOK P) {h : PH} (q : Q5 h 94) {K : PK} (hK : P.2 n_FT_init 43 [some (.ref 5)] [] (ftG h) 90 2835 K) : P.2 n_FT_init 35 [some (.ref 5)] [] h 88 2768 K := by
  have he := q.2.1
  have q1 := q_G1 q
  have he1 := q1.2.1
  refine S.at 40 [43] rfl ?_
  conv => whnf
  refine ⟨⟨by decide, by decide⟩, ?_⟩
  conv => whnf
  refine ⟨((GRW_new (Nat.le_refl _)).T (by omega)).trans q.1, ?_⟩
  conv => whnf
  refine ⟨⟨by decide, by decide⟩, ?_⟩
  conv => whnf
  refine ⟨((GRW_new (h := mkR h 5 7 22 3) (Nat.le_refl _)).T (by omega)).trans q1.1, ?_⟩
  conv => whnf
  exact hK
theorem hE_scr (h : PH) (k : Nat) : hE (scrH h k) = hE h + 9 := rfl
theorem ft_H {P : PSem} (S : SysOK P) {h : PH} (q : Q5 h 96) {K : PK} (hK : P.2 n_FT_init 48 [some (.ref 5)] [] (ftH h) 100 4493 K) : P.2 n_FT_init 43 [some (.ref 5)] [] h 90 2835 K := by
  have he := q.2.1
  have T0 : hT (hNew h 8 13) (hE h) = 8 := congrArg (fun x => x.1) h1_new0
  have g0 : GRW 6 h (scrH (hNew h 8 13) (hE h)) := GRW_tr (GRW_new (by omega)) (GRW_scr (by show 6 ≤ hE h + 1; omega))
  have key := fun K => c_Script_init (h := hNew h 8 13) (K := K) S T0 (by omega) (Nat.lt_succ_self _)
  unfold ftH at hK
  revert hK g0 key
  generalize scrH (hNew h 8 13) (hE h) = h2
  intro hK g0 key
  refine S.at 40 [48] rfl ?_
  conv => whnf
  refine ⟨by omega, ?_⟩
  refine key _ ?_
  conv => whnf
  refine ⟨(g0.T (by decide)).trans q.1, ?_⟩
  conv => whnf
  exact hK
theorem q_H {h : PH} (q : Q5 h 96) : Q5 (ftH h) 106 := by
  have he := q.2.1
  exact q.gr (by decide) (GRW_tr (GRW_new (by omega)) (GRW_tr (GRW_scr (by show 6 ≤ hE h + 1; omega)) GRW_sR)) (by show hE (scrH (hNew h 8 13) (hE h)) = 106; rw [hE_scr]; show hE h + 1 + 9 = 106; omega)
theorem ft_I {P : PSem} (S : SysOK P) {h : PH} (q : Q5 h 106) {K : PK} (hK : K .null (ftJ (ftI h))) : P.2 n_FT_init 48 [some (.ref 5)] [] h 100 4493 K := by
  have he := q.2.1
  have T0 : hT (hNew h 8 13) (hE h) = 8 := congrArg (fun x => x.1) h1_new0
  have g0 : GRW 6 h (scrH (hNew h 8 13) (hE h)) := GRW_tr (GRW_new (by omega)) (GRW_scr (by show 6 ≤ hE h + 1; omega))
  have key := fun K => c_Script_init (h := hNew h 8 13) (K := K) S T0 (by omega) (Nat.lt_succ_self _)
  unfold ftJ ftI at hK
  revert hK g0 key
  generalize scrH (hNew h 8 13) (hE h) = h2
  intro hK g0 key
  refine S.at 40 [] rfl ?_
  conv => whnf
  refine ⟨by omega, ?_⟩
  refine key _ ?_
  conv => whnf
  refine ⟨(g0.T (by decide)).trans q.1, ?_⟩
  conv => whnf
  refine ⟨(g0.T (by decide)).trans q.1, ?_⟩
  conv => whnf
  exact hK
theorem q_I {h : PH} (q : Q5 h 106) : Q5 (ftJ (ftI h)) 116 := by
  have he := q.2.1
  exact q.gr (by decide) (GRW_tr (GRW_new (by omega)) (GRW_tr (GRW_scr (by show 6 ≤ hE h + 1; omega)) (GRW_tr GRW_sR GRW_sI))) (by show hE (scrH (hNew h 8 13) (hE h)) = 116; rw [hE_scr]; show hE h + 1 + 9 = 116; omega)
theorem c_FT_init {P : PSem} (S : SysOK P) {h : PH} (q : Q5 h 6) {K : PK} (hK : K .null (FTH h)) : P.1 n_FT_init [.ref 5] h K := by
  unfold FTH at hK
  have qA := q_A q
  have qB := q_B qA
  have qC := q_C qB
  have qD := q_D qC
  have qE := q_E qD
  have qF := q_F qE
  have qG := q_G qF
  have qH := q_H qG
  refine S.2.1 _ 1 _ _ _ rfl rfl ?_
  exact ft_A S q (ft_B S qA (ft_C S qB (ft_D S qC (ft_E S qD (ft_F S qE (ft_G S qF (ft_H S qG (ft_I S qH hK))))))))
theorem q_FT {h : PH} (q : Q5 h 6) : Q5 (FTH h) 116 := q_I (q_H (q_G (q_F (q_E (q_D (q_C (q_B (q_A q))))))))
