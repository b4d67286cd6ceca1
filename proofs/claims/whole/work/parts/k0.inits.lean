/-! CONSTRUCTORS: the class's small ones -/
def mkR (h : PH) (k j t n : Nat) : PH := sR (hNew h t n) k j (hE h)
/-- cells below e are as they were, but for their fields -/
def GRW (e : Nat) (h h' : PH) : Prop := (∀ k, k < e → h'.1 k = h.1 k) ∧ hE h ≤ hE h'
theorem GRW_rf (e : Nat) (h : PH) : GRW e h h := ⟨fun _ _ => rfl, Nat.le_refl _⟩
theorem GRW_tr {e : Nat} {a b c : PH} (x : GRW e a b) (y : GRW e b c) : GRW e a c := ⟨fun k hk => (y.1 k hk).trans (x.1 k hk), Nat.le_trans x.2 y.2⟩
theorem GRW_new {e : Nat} {h : PH} {t n : Nat} (he : e ≤ hE h) : GRW e h (hNew h t n) := ⟨fun k hk => h1_new (by omega), Nat.le_succ _⟩
theorem GRW_sR {e : Nat} {h : PH} {k j v : Nat} : GRW e h (sR h k j v) := ⟨fun _ _ => rfl, Nat.le_refl _⟩
theorem GRW_sI {e : Nat} {h : PH} {k j : Nat} {v : Int32} : GRW e h (sI h k j v) := ⟨fun _ _ => rfl, Nat.le_refl _⟩
theorem GRW_mkR {e : Nat} {h : PH} {k j t n : Nat} (he : e ≤ hE h) : GRW e h (mkR h k j t n) := GRW_tr (GRW_new he) GRW_sR
theorem GRW_newM {e : Nat} {h : PH} {t n t2 m : Nat} (he : e ≤ hE h) : GRW e h (hNewM h t n t2 m) := ⟨fun k hk => by
  show (if k = hE h then (t, n) else if hE h < k ∧ k ≤ hE h + n then (t2, m) else h.1 k) = h.1 k
  rw [if_neg (by omega), if_neg (by omega)], by show hE h ≤ hE h + 1 + n; omega⟩
theorem GRW.T {e : Nat} {h h' : PH} (g : GRW e h h') {k : Nat} (hk : k < e) : hT h' k = hT h k := congrArg (fun x => x.1) (g.1 k hk)
theorem GRW.N {e : Nat} {h h' : PH} (g : GRW e h h') {k : Nat} (hk : k < e) : hN h' k = hN h k := congrArg (fun x => x.2) (g.1 k hk)
theorem mkR_T {h : PH} {k j t n q : Nat} (hq : q < hE h) : hT (mkR h k j t n) q = hT h q := (GRW_mkR (e := hE h) (Nat.le_refl _)).T hq
def tapeH (h : PH) (k : Nat) : PH := mkR h k 0 21 2000
theorem c_Tape_init {P : PSem} (S : SysOK P) {h : PH} {k : Nat} (hk : hT h k = 0) (k1 : 1 ≤ k) (kl : k < hE h) {K : PK} (hK : K .null (tapeH h k)) : P.1 n_Tape_init [.ref k] h K := by
  refine S.go 20 rfl rfl rfl ?_
  conv => whnf
  refine ⟨k1, ?_⟩
  conv => whnf
  refine ⟨⟨by decide, by decide⟩, ?_⟩
  conv => whnf
  refine ⟨((GRW_new (Nat.le_refl _)).T kl).trans hk, ?_⟩
  conv => whnf
  exact hK
def spanH (h : PH) (k : Nat) : PH := mkR (mkR h k 0 20 12) k 1 20 12
theorem c_Span_init {P : PSem} (S : SysOK P) {h : PH} {k : Nat} (hk : hT h k = 1) (k1 : 1 ≤ k) (kl : k < hE h) {K : PK} (hK : K .null (spanH h k)) : P.1 n_Span_init [.ref k] h K := by
  have h1 : hT (mkR h k 0 20 12) k = 1 := (mkR_T kl).trans hk
  have l1 : k < hE (mkR h k 0 20 12) := Nat.lt_succ_of_lt kl
  refine S.go 20 rfl rfl rfl ?_
  conv => whnf
  refine ⟨k1, ?_⟩
  conv => whnf
  refine ⟨⟨by decide, by decide⟩, ?_⟩
  conv => whnf
  refine ⟨((GRW_new (Nat.le_refl _)).T kl).trans hk, ?_⟩
  conv => whnf
  refine ⟨⟨by decide, by decide⟩, ?_⟩
  conv => whnf
  refine ⟨((GRW_new (Nat.le_refl _)).T l1).trans h1, ?_⟩
  conv => whnf
  exact hK
def workH (h : PH) (k : Nat) : PH := mkR (mkR (mkR (mkR (mkR h k 0 20 8) k 2 20 9) k 3 20 9) k 4 20 9) k 5 20 9
theorem c_Worker_init {P : PSem} (S : SysOK P) {h : PH} {k : Nat} (hk : hT h k = 6) (k1 : 1 ≤ k) (kl : k < hE h) {K : PK} (hK : K .null (workH h k)) : P.1 n_Worker_init [.ref k] h K := by
  have nx : ∀ (H : PH) j n, (hT H k = 6 ∧ k < hE H) → (hT (mkR H k j 20 n) k = 6 ∧ k < hE (mkR H k j 20 n)) := fun H j n a => ⟨(mkR_T a.2).trans a.1, Nat.lt_succ_of_lt a.2⟩
  have a0 : hT h k = 6 ∧ k < hE h := ⟨hk, kl⟩
  have a1 := nx _ 0 8 a0
  have a2 := nx _ 2 9 a1
  have a3 := nx _ 3 9 a2
  have a4 := nx _ 4 9 a3
  refine S.go 40 rfl rfl rfl ?_
  conv => whnf
  refine ⟨k1, ?_⟩
  conv => whnf
  refine ⟨⟨by decide, by decide⟩, ?_⟩
  conv => whnf
  refine ⟨((GRW_new (Nat.le_refl _)).T a0.2).trans a0.1, ?_⟩
  conv => whnf
  refine ⟨⟨by decide, by decide⟩, ?_⟩
  conv => whnf
  refine ⟨((GRW_new (Nat.le_refl _)).T a1.2).trans a1.1, ?_⟩
  conv => whnf
  refine ⟨⟨by decide, by decide⟩, ?_⟩
  conv => whnf
  refine ⟨((GRW_new (Nat.le_refl _)).T a2.2).trans a2.1, ?_⟩
  conv => whnf
  refine ⟨⟨by decide, by decide⟩, ?_⟩
  conv => whnf
  refine ⟨((GRW_new (Nat.le_refl _)).T a3.2).trans a3.1, ?_⟩
  conv => whnf
  refine ⟨⟨by decide, by decide⟩, ?_⟩
  conv => whnf
  refine ⟨((GRW_new (Nat.le_refl _)).T a4.2).trans a4.1, ?_⟩
  conv => whnf
  exact hK
def histH (h : PH) (k : Nat) : PH := mkR (mkR h k 0 20 30) k 1 20 30
theorem c_Hist_init {P : PSem} (S : SysOK P) {h : PH} {k : Nat} (hk : hT h k = 7) (k1 : 1 ≤ k) (kl : k < hE h) {K : PK} (hK : K .null (histH h k)) : P.1 n_Hist_init [.ref k] h K := by
  have h1 : hT (mkR h k 0 20 30) k = 7 := (mkR_T kl).trans hk
  have l1 : k < hE (mkR h k 0 20 30) := Nat.lt_succ_of_lt kl
  refine S.go 20 rfl rfl rfl ?_
  conv => whnf
  refine ⟨k1, ?_⟩
  conv => whnf
  refine ⟨⟨by decide, by decide⟩, ?_⟩
  conv => whnf
  refine ⟨((GRW_new (Nat.le_refl _)).T kl).trans hk, ?_⟩
  conv => whnf
  refine ⟨⟨by decide, by decide⟩, ?_⟩
  conv => whnf
  refine ⟨((GRW_new (Nat.le_refl _)).T l1).trans h1, ?_⟩
  conv => whnf
  exact hK
def scrA (h : PH) (k : Nat) : PH := mkR (mkR (mkR (mkR (mkR h k 1 20 400) k 2 20 400) k 3 20 400) k 4 23 400) k 5 20 13
def scrB (h : PH) (k : Nat) : PH := mkR (mkR (mkR (mkR h k 7 23 8) k 8 20 8) k 9 20 8) k 10 22 8
def scrH (h : PH) (k : Nat) : PH := sI (scrB (scrA h k) k) k 12 (-1)
theorem c_Script_init {P : PSem} (S : SysOK P) {h : PH} {k : Nat} (hk : hT h k = 8) (k1 : 1 ≤ k) (kl : k < hE h) {K : PK} (hK : K .null (scrH h k)) : P.1 n_Script_init [.ref k] h K := by
  have nx : ∀ (H : PH) j t n, (hT H k = 8 ∧ k < hE H) → (hT (mkR H k j t n) k = 8 ∧ k < hE (mkR H k j t n)) := fun H j t n a => ⟨(mkR_T a.2).trans a.1, Nat.lt_succ_of_lt a.2⟩
  have a0 : hT h k = 8 ∧ k < hE h := ⟨hk, kl⟩
  have a1 := nx _ 1 20 400 a0
  have a2 := nx _ 2 20 400 a1
  have a3 := nx _ 3 20 400 a2
  have a4 := nx _ 4 23 400 a3
  have a5 := nx _ 5 20 13 a4
  have a6 := nx _ 7 23 8 a5
  have a7 := nx _ 8 20 8 a6
  have a8 := nx _ 9 20 8 a7
  have a9 := nx _ 10 22 8 a8
  refine S.go 60 rfl rfl rfl ?_
  conv => whnf
  refine ⟨k1, ?_⟩
  conv => whnf
  refine ⟨⟨by decide, by decide⟩, ?_⟩
  conv => whnf
  refine ⟨((GRW_new (Nat.le_refl _)).T a0.2).trans a0.1, ?_⟩
  conv => whnf
  refine ⟨⟨by decide, by decide⟩, ?_⟩
  conv => whnf
  refine ⟨((GRW_new (Nat.le_refl _)).T a1.2).trans a1.1, ?_⟩
  conv => whnf
  refine ⟨⟨by decide, by decide⟩, ?_⟩
  conv => whnf
  refine ⟨((GRW_new (Nat.le_refl _)).T a2.2).trans a2.1, ?_⟩
  conv => whnf
  refine ⟨⟨by decide, by decide⟩, ?_⟩
  conv => whnf
  refine ⟨((GRW_new (Nat.le_refl _)).T a3.2).trans a3.1, ?_⟩
  conv => whnf
  refine ⟨⟨by decide, by decide⟩, ?_⟩
  conv => whnf
  refine ⟨((GRW_new (Nat.le_refl _)).T a4.2).trans a4.1, ?_⟩
  conv => whnf
  refine ⟨⟨by decide, by decide⟩, ?_⟩
  conv => whnf
  refine ⟨((GRW_new (Nat.le_refl _)).T a5.2).trans a5.1, ?_⟩
  conv => whnf
  refine ⟨⟨by decide, by decide⟩, ?_⟩
  conv => whnf
  refine ⟨((GRW_new (Nat.le_refl _)).T a6.2).trans a6.1, ?_⟩
  conv => whnf
  refine ⟨⟨by decide, by decide⟩, ?_⟩
  conv => whnf
  refine ⟨((GRW_new (Nat.le_refl _)).T a7.2).trans a7.1, ?_⟩
  conv => whnf
  refine ⟨⟨by decide, by decide⟩, ?_⟩
  conv => whnf
  refine ⟨((GRW_new (Nat.le_refl _)).T a8.2).trans a8.1, ?_⟩
  conv => whnf
  refine ⟨a9.1, ?_⟩
  conv => whnf
  exact hK
def fldH (h : PH) (k i : Nat) : PH := mkR (sI (sI (sI h k 0 (nI i)) k 1 (nI (2 ^ i))) k 2 (hI h 2 i)) k 3 20 13
theorem c_Field_init {P : PSem} (S : SysOK P) {h : PH} {k i : Nat} (hk : hT h k = 2) (k1 : 3 ≤ k) (kl : k < hE h) (t2 : hT h 2 = 20) (n2 : hN h 2 = 13) (hi : i ≤ 12) {K : PK} (hK : K .null (fldH h k i)) : P.1 n_Field_init [.ref k, .int (nI i)] h K := by
  have pw := pow12 hi
  have e1 : i_shl 1 (nI i) = nI (2 ^ i) := by
    rw [show nI (2 ^ i) = nI (1 <<< i) by rw [Nat.shiftLeft_eq, Nat.one_mul]]
    exact zn_shl (a := 1) (by omega) (by rw [Nat.shiftLeft_eq]; omega)
  have e2 : hI (sI (sI h k 0 (nI i)) k 1 (nI (2 ^ i))) 2 i = hI h 2 i := by
    rw [hI_ne (by omega), hI_ne (by omega)]
  refine S.go 40 rfl rfl rfl ?_
  conv => whnf
  refine ⟨(show 1 ≤ k by omega), ?_⟩
  conv => whnf
  refine ⟨hk, ?_⟩
  conv => whnf
  rw [e1]
  refine ⟨hk, ?_⟩
  conv => whnf
  refine ⟨inB_of (h := sI (sI h k 0 (nI i)) k 1 (nI (2 ^ i))) t2 n2 (show i < 13 by omega) (by decide), ?_⟩
  conv => whnf
  rw [nI_clamp (by omega), e2]
  refine ⟨hk, ?_⟩
  conv => whnf
  refine ⟨⟨by decide, by decide⟩, ?_⟩
  conv => whnf
  refine ⟨((GRW_new (h := sI (sI (sI h k 0 (nI i)) k 1 (nI (2 ^ i))) k 2 (hI h 2 i)) (Nat.le_refl _)).T kl).trans hk, ?_⟩
  conv => whnf
  exact hK
def cycH (h : PH) (k f i : Nat) : PH := sI (sR h k 0 f) k 1 (nI (2 ^ i - 1))
theorem c_Cycle_init {P : PSem} (S : SysOK P) {h : PH} {k f i : Nat} (hk : hT h k = 3) (k1 : 1 ≤ k) (hf : hT h f = 2) (h1 : hI h f 1 = nI (2 ^ i)) (hi : i ≤ 12) {K : PK} (hK : K .null (cycH h k f i)) : P.1 n_Cycle_init [.ref k, .ref f] h K := by
  have p0 := Nat.two_pow_pos i
  refine S.go 40 rfl rfl rfl ?_
  conv => whnf
  refine ⟨k1, ?_⟩
  conv => whnf
  refine ⟨hk, ?_⟩
  conv => whnf
  refine ⟨hf, ?_⟩
  conv => whnf
  rw [show hI (sR h k 0 f) f 1 = nI (2 ^ i) from h1, show (fun x y : Int32 => x - y) (nI (2 ^ i)) 1 = nI (2 ^ i - 1) from zn_mns (b := 1) (by omega)]
  refine ⟨hk, ?_⟩
  conv => whnf
  exact hK
def spcH (h : PH) (k f q : Nat) : PH := sR (sR h k 0 f) k 1 q
theorem c_Space_init {P : PSem} (S : SysOK P) {h : PH} {k f q : Nat} (hk : hT h k = 4) (k1 : 1 ≤ k) {K : PK} (hK : K .null (spcH h k f q)) : P.1 n_Space_init [.ref k, .ref f, .ref q] h K := by
  refine S.go 40 rfl rfl rfl ?_
  conv => whnf
  refine ⟨k1, ?_⟩
  conv => whnf
  refine ⟨hk, ?_⟩
  conv => whnf
  refine ⟨hk, ?_⟩
  conv => whnf
  exact hK
