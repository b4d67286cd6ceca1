/-! CONSTRUCTORS: the reference's rows; printed by wip/gen/minit.py -/
def Q6 (h : PH) (e : Nat) : Prop := hT h 116 = 10 ∧ hE h = e
theorem Q6.mk {h : PH} {e j t n : Nat} (q : Q6 h e) (he : 117 ≤ e) : Q6 (mkR h 116 j t n) (e + 1) := ⟨(mkR_T (by have := q.2; omega)).trans q.1, by show hE h + 1 = e + 1; rw [q.2]⟩
theorem Q6.nw {h : PH} {e t n : Nat} (q : Q6 h e) (he : 117 ≤ e) : hT (hNew h t n) 116 = 10 := ((GRW_new (Nat.le_refl _)).T (by have := q.2; omega)).trans q.1
def mA (h : PH) : PH := (mkR (mkR (mkR (mkR (mkR (mkR (mkR h 116 1 21 2000) 116 3 21 2000) 116 5 20 403) 116 6 20 403) 116 7 20 403) 116 8 23 403) 116 9 23 3)
theorem qm_A {h : PH} (q : Q6 h 117) : Q6 (mA h) 124 := (((((((q).mk (by decide)).mk (by decide)).mk (by decide)).mk (by decide)).mk (by decide)).mk (by decide)).mk (by decide)
theorem mi_A {P : PSem} (S : SysOK P) {h : PH} (q : Q6 h 117) {K : PK} (hK : P.2 n_M_init 30 [some (.ref 116), none, none] [] (mA h) 7 5615 K) : P.2 n_M_init 2 [some (.ref 116), none, none] [] h 0 0 K := by
  have a0 := q
  have a1 := a0.mk (j := 1) (t := 21) (n := 2000) (by decide)
  have a2 := a1.mk (j := 3) (t := 21) (n := 2000) (by decide)
  have a3 := a2.mk (j := 5) (t := 20) (n := 403) (by decide)
  have a4 := a3.mk (j := 6) (t := 20) (n := 403) (by decide)
  have a5 := a4.mk (j := 7) (t := 20) (n := 403) (by decide)
  have a6 := a5.mk (j := 8) (t := 23) (n := 403) (by decide)
  have a7 := a6.mk (j := 9) (t := 23) (n := 3) (by decide)
  refine S.at 60 [30] rfl ?_
  conv => whnf
  refine ⟨⟨by decide, by decide⟩, ?_⟩
  conv => whnf
  refine ⟨a0.nw (by decide), ?_⟩
  conv => whnf
  refine ⟨⟨by decide, by decide⟩, ?_⟩
  conv => whnf
  refine ⟨a1.nw (by decide), ?_⟩
  conv => whnf
  refine ⟨⟨by decide, by decide⟩, ?_⟩
  conv => whnf
  refine ⟨a2.nw (by decide), ?_⟩
  conv => whnf
  refine ⟨⟨by decide, by decide⟩, ?_⟩
  conv => whnf
  refine ⟨a3.nw (by decide), ?_⟩
  conv => whnf
  refine ⟨⟨by decide, by decide⟩, ?_⟩
  conv => whnf
  refine ⟨a4.nw (by decide), ?_⟩
  conv => whnf
  refine ⟨⟨by decide, by decide⟩, ?_⟩
  conv => whnf
  refine ⟨a5.nw (by decide), ?_⟩
  conv => whnf
  refine ⟨⟨by decide, by decide⟩, ?_⟩
  conv => whnf
  refine ⟨a6.nw (by decide), ?_⟩
  conv => whnf
  exact hK
def mB (h : PH) : PH := (mkR (mkR (mkR (mkR (mkR (mkR h 116 17 22 8192) 116 18 20 13) 116 19 20 13) 116 21 20 410) 116 22 20 410) 116 23 20 410)
theorem qm_B {h : PH} (q : Q6 h 124) : Q6 (mB h) 130 := ((((((q).mk (by decide)).mk (by decide)).mk (by decide)).mk (by decide)).mk (by decide)).mk (by decide)
theorem mi_B {P : PSem} (S : SysOK P) {h : PH} (q : Q6 h 124) {K : PK} (hK : P.2 n_M_init 57 [some (.ref 116), none, none] [] (mB h) 13 15063 K) : P.2 n_M_init 33 [some (.ref 116), none, none] [] h 7 5615 K := by
  have a0 := q
  have a1 := a0.mk (j := 17) (t := 22) (n := 8192) (by decide)
  have a2 := a1.mk (j := 18) (t := 20) (n := 13) (by decide)
  have a3 := a2.mk (j := 19) (t := 20) (n := 13) (by decide)
  have a4 := a3.mk (j := 21) (t := 20) (n := 410) (by decide)
  have a5 := a4.mk (j := 22) (t := 20) (n := 410) (by decide)
  have a6 := a5.mk (j := 23) (t := 20) (n := 410) (by decide)
  refine S.at 60 [57] rfl ?_
  conv => whnf
  refine ⟨⟨by decide, by decide⟩, ?_⟩
  conv => whnf
  refine ⟨a0.nw (by decide), ?_⟩
  conv => whnf
  refine ⟨⟨by decide, by decide⟩, ?_⟩
  conv => whnf
  refine ⟨a1.nw (by decide), ?_⟩
  conv => whnf
  refine ⟨⟨by decide, by decide⟩, ?_⟩
  conv => whnf
  refine ⟨a2.nw (by decide), ?_⟩
  conv => whnf
  refine ⟨⟨by decide, by decide⟩, ?_⟩
  conv => whnf
  refine ⟨a3.nw (by decide), ?_⟩
  conv => whnf
  refine ⟨⟨by decide, by decide⟩, ?_⟩
  conv => whnf
  refine ⟨a4.nw (by decide), ?_⟩
  conv => whnf
  refine ⟨⟨by decide, by decide⟩, ?_⟩
  conv => whnf
  refine ⟨a5.nw (by decide), ?_⟩
  conv => whnf
  exact hK
def mC (h : PH) : PH := (mkR (mkR (mkR (mkR h 116 25 20 9) 116 26 20 8) 116 27 20 8) 116 28 23 8)
theorem qm_C {h : PH} (q : Q6 h 130) : Q6 (mC h) 134 := ((((q).mk (by decide)).mk (by decide)).mk (by decide)).mk (by decide)
theorem mi_C {P : PSem} (S : SysOK P) {h : PH} (q : Q6 h 130) {K : PK} (hK : P.2 n_M_init 73 [some (.ref 116), none, none] [] (mC h) 17 15096 K) : P.2 n_M_init 57 [some (.ref 116), none, none] [] h 13 15063 K := by
  have a0 := q
  have a1 := a0.mk (j := 25) (t := 20) (n := 9) (by decide)
  have a2 := a1.mk (j := 26) (t := 20) (n := 8) (by decide)
  have a3 := a2.mk (j := 27) (t := 20) (n := 8) (by decide)
  have a4 := a3.mk (j := 28) (t := 23) (n := 8) (by decide)
  refine S.at 60 [73] rfl ?_
  conv => whnf
  refine ⟨⟨by decide, by decide⟩, ?_⟩
  conv => whnf
  refine ⟨a0.nw (by decide), ?_⟩
  conv => whnf
  refine ⟨⟨by decide, by decide⟩, ?_⟩
  conv => whnf
  refine ⟨a1.nw (by decide), ?_⟩
  conv => whnf
  refine ⟨⟨by decide, by decide⟩, ?_⟩
  conv => whnf
  refine ⟨a2.nw (by decide), ?_⟩
  conv => whnf
  refine ⟨⟨by decide, by decide⟩, ?_⟩
  conv => whnf
  refine ⟨a3.nw (by decide), ?_⟩
  conv => whnf
  exact hK
def mD (h : PH) : PH := (mkR (mkR (mkR (mkR (mkR (mkR h 116 30 20 410) 116 31 20 410) 116 32 20 410) 116 33 20 26) 116 34 20 13) 116 36 20 400)
theorem qm_D {h : PH} (q : Q6 h 134) : Q6 (mD h) 140 := ((((((q).mk (by decide)).mk (by decide)).mk (by decide)).mk (by decide)).mk (by decide)).mk (by decide)
theorem mi_D {P : PSem} (S : SysOK P) {h : PH} (q : Q6 h 134) {K : PK} (hK : P.2 n_M_init 97 [some (.ref 116), none, none] [] (mD h) 23 16765 K) : P.2 n_M_init 73 [some (.ref 116), none, none] [] h 17 15096 K := by
  have a0 := q
  have a1 := a0.mk (j := 30) (t := 20) (n := 410) (by decide)
  have a2 := a1.mk (j := 31) (t := 20) (n := 410) (by decide)
  have a3 := a2.mk (j := 32) (t := 20) (n := 410) (by decide)
  have a4 := a3.mk (j := 33) (t := 20) (n := 26) (by decide)
  have a5 := a4.mk (j := 34) (t := 20) (n := 13) (by decide)
  have a6 := a5.mk (j := 36) (t := 20) (n := 400) (by decide)
  refine S.at 60 [97] rfl ?_
  conv => whnf
  refine ⟨⟨by decide, by decide⟩, ?_⟩
  conv => whnf
  refine ⟨a0.nw (by decide), ?_⟩
  conv => whnf
  refine ⟨⟨by decide, by decide⟩, ?_⟩
  conv => whnf
  refine ⟨a1.nw (by decide), ?_⟩
  conv => whnf
  refine ⟨⟨by decide, by decide⟩, ?_⟩
  conv => whnf
  refine ⟨a2.nw (by decide), ?_⟩
  conv => whnf
  refine ⟨⟨by decide, by decide⟩, ?_⟩
  conv => whnf
  refine ⟨a3.nw (by decide), ?_⟩
  conv => whnf
  refine ⟨⟨by decide, by decide⟩, ?_⟩
  conv => whnf
  refine ⟨a4.nw (by decide), ?_⟩
  conv => whnf
  refine ⟨⟨by decide, by decide⟩, ?_⟩
  conv => whnf
  refine ⟨a5.nw (by decide), ?_⟩
  conv => whnf
  exact hK
def mE (h : PH) : PH := (mkR (mkR (mkR (mkR (mkR h 116 38 20 410) 116 39 20 390) 116 42 20 39) 116 43 22 3) 116 44 20 169)
theorem qm_E {h : PH} (q : Q6 h 140) : Q6 (mE h) 145 := (((((q).mk (by decide)).mk (by decide)).mk (by decide)).mk (by decide)).mk (by decide)
theorem mi_E {P : PSem} (S : SysOK P) {h : PH} (q : Q6 h 140) {K : PK} (hK : P.2 n_M_init 117 [some (.ref 116), none, none] [] (mE h) 28 17776 K) : P.2 n_M_init 97 [some (.ref 116), none, none] [] h 23 16765 K := by
  have a0 := q
  have a1 := a0.mk (j := 38) (t := 20) (n := 410) (by decide)
  have a2 := a1.mk (j := 39) (t := 20) (n := 390) (by decide)
  have a3 := a2.mk (j := 42) (t := 20) (n := 39) (by decide)
  have a4 := a3.mk (j := 43) (t := 22) (n := 3) (by decide)
  have a5 := a4.mk (j := 44) (t := 20) (n := 169) (by decide)
  refine S.at 60 [117] rfl ?_
  conv => whnf
  refine ⟨⟨by decide, by decide⟩, ?_⟩
  conv => whnf
  refine ⟨a0.nw (by decide), ?_⟩
  conv => whnf
  refine ⟨⟨by decide, by decide⟩, ?_⟩
  conv => whnf
  refine ⟨a1.nw (by decide), ?_⟩
  conv => whnf
  refine ⟨⟨by decide, by decide⟩, ?_⟩
  conv => whnf
  refine ⟨a2.nw (by decide), ?_⟩
  conv => whnf
  refine ⟨⟨by decide, by decide⟩, ?_⟩
  conv => whnf
  refine ⟨a3.nw (by decide), ?_⟩
  conv => whnf
  refine ⟨⟨by decide, by decide⟩, ?_⟩
  conv => whnf
  refine ⟨a4.nw (by decide), ?_⟩
  conv => whnf
  exact hK
def mF (h : PH) : PH := (mkR (mkR (mkR (mkR h 116 45 20 12) 116 46 20 12) 116 47 20 14) 116 48 20 80)
theorem qm_F {h : PH} (q : Q6 h 145) : Q6 (mF h) 149 := ((((q).mk (by decide)).mk (by decide)).mk (by decide)).mk (by decide)
theorem mi_F {P : PSem} (S : SysOK P) {h : PH} (q : Q6 h 145) {K : PK} (hK : P.2 n_M_init 133 [some (.ref 116), none, none] [] (mF h) 32 17894 K) : P.2 n_M_init 117 [some (.ref 116), none, none] [] h 28 17776 K := by
  have a0 := q
  have a1 := a0.mk (j := 45) (t := 20) (n := 12) (by decide)
  have a2 := a1.mk (j := 46) (t := 20) (n := 12) (by decide)
  have a3 := a2.mk (j := 47) (t := 20) (n := 14) (by decide)
  have a4 := a3.mk (j := 48) (t := 20) (n := 80) (by decide)
  refine S.at 60 [133] rfl ?_
  conv => whnf
  refine ⟨⟨by decide, by decide⟩, ?_⟩
  conv => whnf
  refine ⟨a0.nw (by decide), ?_⟩
  conv => whnf
  refine ⟨⟨by decide, by decide⟩, ?_⟩
  conv => whnf
  refine ⟨a1.nw (by decide), ?_⟩
  conv => whnf
  refine ⟨⟨by decide, by decide⟩, ?_⟩
  conv => whnf
  refine ⟨a2.nw (by decide), ?_⟩
  conv => whnf
  refine ⟨⟨by decide, by decide⟩, ?_⟩
  conv => whnf
  refine ⟨a3.nw (by decide), ?_⟩
  conv => whnf
  exact hK
def mX (h : PH) : PH := sI h 116 16 (-1)
theorem qm_X {h : PH} {e : Nat} (q : Q6 h e) : Q6 (mX h) e := q
theorem mi_X {P : PSem} (S : SysOK P) {h : PH} (q : Q6 h 124) {K : PK} (hK : P.2 n_M_init 33 [some (.ref 116), none, none] [] (mX h) 7 5615 K) : P.2 n_M_init 30 [some (.ref 116), none, none] [] h 7 5615 K := by
  refine S.at 20 [33] rfl ?_
  conv => whnf
  refine ⟨q.1, ?_⟩
  conv => whnf
  exact hK
def MTH (h : PH) : PH := mF (mE (mD (mC (mB (mX (mA h))))))
theorem mi_all {P : PSem} (S : SysOK P) {h : PH} (q : Q6 h 117) {K : PK} (hK : P.2 n_M_init 133 [some (.ref 116), none, none] [] (MTH h) 32 17894 K) : P.1 n_M_init [.ref 116] h K := by
  unfold MTH at hK
  have qA := qm_A q
  have qX := qm_X qA
  have qB := qm_B qX
  have qC := qm_C qB
  have qD := qm_D qC
  have qE := qm_E qD
  refine S.2.1 _ 3 _ _ _ rfl rfl ?_
  refine S.at 10 [2] rfl ?_
  conv => whnf
  refine ⟨by decide, ?_⟩
  conv => whnf
  exact mi_A S q (mi_X S qA (mi_B S qX (mi_C S qB (mi_D S qC (mi_E S qD (mi_F S qE hK))))))
