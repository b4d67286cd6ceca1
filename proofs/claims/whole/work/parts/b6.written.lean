/-! AN ELEMENT WRITTEN OUT -/
def wpL (k : Nat) (lt : Int32) (e : Bool) : List Int32 := (if e then [] else [43]) ++ (if k = 0 then [49] else if k = 1 then [lt] else [lt, 94] ++ (if 10 ≤ k then [49] else []) ++ [48 + nI (k % 10)])
def wrL (a : Nat) (lt : Int32) : Nat → List Int32 → List Int32
  | 0, acc => acc
  | k + 1, acc => wrL a lt k (if a.testBit k then acc ++ wpL k lt acc.isEmpty else acc)
def wrF (a : Nat) (lt : Int32) (n : Nat) : List Int32 := if wrL a lt n [] = [] then [48] else wrL a lt n []
theorem wpL_len (k : Nat) (lt : Int32) (e : Bool) : (wpL k lt e).length ≤ 5 ∧ 1 ≤ (wpL k lt e).length := by
  unfold wpL
  constructor
  · cases e <;> (by_cases h0 : k = 0 <;> by_cases h1 : k = 1 <;> by_cases h2 : 10 ≤ k <;> simp [h0, h1, h2])
  · cases e <;> (by_cases h0 : k = 0 <;> by_cases h1 : k = 1 <;> by_cases h2 : 10 ≤ k <;> simp [h0, h1, h2])
theorem wrL_hi {a : Nat} (lt : Int32) {n : Nat} (ha : a < 2 ^ n) : ∀ j acc, wrL a lt (n + j) acc = wrL a lt n acc
  | 0, _ => rfl
  | j + 1, acc => by
    show wrL a lt (n + j) (if a.testBit (n + j) then _ else acc) = _
    rw [tb_lt ha (Nat.le_add_right n j), if_neg (by decide), wrL_hi lt ha j acc]
/-- the bytes so far stand in a row -/
def WB (h : PH) (R : Nat) (acc : List Int32) : Prop := ∀ i, i < acc.length → hI h R i = acc.getD i 0
theorem WB_app {h : PH} {R : Nat} {acc : List Int32} {b : Int32} (hb : WB h R acc) : WB (sI h R acc.length b) R (acc ++ [b]) := by
  intro i hi
  rw [List.length_append] at hi
  have hi : i < acc.length + 1 := hi
  by_cases e : i = acc.length
  · subst e
    rw [hI_sI]
    simp
  · rw [hI_sI_j e, hb i (by omega)]
    rw [List.getD_eq_getElem?_getD, List.getD_eq_getElem?_getD, List.getElem?_append_left (by omega)]
theorem c_FT_writeByte {P : PSem} (S : SysOK P) {h : PH} (hw : WS h) {acc : List Int32} {b : Int32} (hl : acc.length < 64) (hb : WB h 95 acc) {K : PK} (hK : ∀ h', eqX (fun k => k = 95) h h' → WB h' 95 (acc ++ [b]) → K (.int (nI (acc ++ [b]).length)) h') : P.1 n_FT_writeByte [.ref 5, .int b, .int (nI acc.length)] h K := by
  refine S.go 40 rfl rfl rfl ?_
  conv => whnf
  refine bk_f (nI_pos (by omega)) ?_
  conv => whnf
  refine bk_t ((zn_lt (b := 64) (by omega) (by decide)).mpr hl) ?_
  conv => whnf
  refine ⟨wt_5 hw, ?_⟩
  conv => whnf
  rw [wr_5_8 hw]
  refine ⟨⟨by decide, inB_of (wt_95 hw) (wn_95 hw) hl (by decide)⟩, ?_⟩
  conv => whnf
  rw [nI_clamp (by omega)]
  have := hK _ (eqX_sI rfl) (WB_app hb)
  rw [List.length_append, show [b].length = 1 from rfl, ← nI_1] at this
  exact this
def e95 (k : Nat) : Prop := k = 95
theorem app3 (acc x y : List Int32) : acc ++ x ++ y = acc ++ (x ++ y) := List.append_assoc acc x y
theorem c_FT_writePower {P : PSem} (S : SysOK P) {h : PH} (hw : WS h) {acc : List Int32} {k : Nat} {lt : Int32} (hk : k < 12) (hl : acc.length + 5 < 64) (hb : WB h 95 acc) {K : PK} (hK : ∀ h', eqX e95 h h' → WB h' 95 (acc ++ wpL k lt acc.isEmpty) → K (.int (nI (acc ++ wpL k lt acc.isEmpty).length)) h') : P.1 n_FT_writePower [.ref 5, .int (nI k), .int lt, .int (nI acc.length)] h K := by
  have go : ∀ h1 acc1, acc1.length + 4 < 64 → eqX e95 h h1 → WB h1 95 acc1 → acc1 = acc ++ (if acc.isEmpty then [] else [43]) → ∀ z, P.2 n_FT_writePower 8 [some (.ref 5), some (.int (nI k)), some (.int lt), some (.int (nI acc.length)), z] [.int (nI acc1.length)] h1 0 0 K := by
    intro h1 acc1 l1 e1 b1 ea z
    have hw1 := eqX_WS e1 hw
    unfold wpL at hK
    rw [← app3, ← ea] at hK
    refine S.at 60 [] rfl ?_
    conv => whnf
    refine bk_ne (b := 0) (by omega) (by decide) (fun c0 => ?_) (fun c0 => ?_)
    · rw [if_neg c0] at hK
      conv => whnf
      refine ⟨wt_5 hw1, ?_⟩
      conv => whnf
      refine c_FT_writeByte S hw1 (b := lt) (by omega) b1 (fun h2 e2 b2 => ?_)
      have hw2 := eqX_WS e2 hw1
      conv => whnf
      refine bk_ne (b := 1) (by omega) (by decide) (fun c1 => ?_) (fun c1 => ?_)
      · rw [if_neg c1] at hK
        have l2 : (acc1 ++ [lt]).length = acc1.length + 1 := List.length_append
        conv => whnf
        refine ⟨wt_5 hw2, ?_⟩
        conv => whnf
        refine c_FT_writeByte S hw2 (b := 94) (by omega) b2 (fun h3 e3 b3 => ?_)
        have hw3 := eqX_WS e3 hw2
        have l3 : (acc1 ++ [lt] ++ [94]).length = acc1.length + 1 + 1 := by rw [List.length_append, l2]; rfl
        have hr : (fun x y : Int32 => x + y) 48 (i_rem (nI k) 10) = 48 + nI (k % 10) := by
          show 48 + i_rem (nI k) 10 = _
          rw [show i_rem (nI k) 10 = nI (k % 10) from i_rem_n (d := 10) (by omega) (by decide) (by decide)]
        conv => whnf
        refine bk_lt (b := 10) (by omega) (by decide) (fun c2 => ?_) (fun c2 => ?_)
        · rw [if_neg (by omega)] at hK
          conv => whnf
          refine ⟨(by decide), ?_⟩
          conv => whnf
          refine ⟨wt_5 hw3, ?_⟩
          conv => whnf
          refine p1c (congrArg (fun t => [Value.ref 5, Value.int t, Value.int (nI (acc1 ++ [lt] ++ [94]).length)]) hr) ?_
          refine c_FT_writeByte S hw3 (b := 48 + nI (k % 10)) (by omega) b3 (fun h4 e4 b4 => ?_)
          conv => whnf
          have e : acc1 ++ [lt] ++ [94] ++ [48 + nI (k % 10)] = acc1 ++ ([lt, 94] ++ [] ++ [48 + nI (k % 10)]) := by simp
          rw [e] at b4 ⊢
          exact hK h4 (eqX_tr e1 (eqX_tr (eqX_tr e2 e3) e4)) b4
        · rw [if_pos c2] at hK
          conv => whnf
          refine ⟨wt_5 hw3, ?_⟩
          conv => whnf
          refine c_FT_writeByte S hw3 (b := 49) (by omega) b3 (fun h4 e4 b4 => ?_)
          have hw4 := eqX_WS e4 hw3
          have l4 : (acc1 ++ [lt] ++ [94] ++ [49]).length = acc1.length + 1 + 1 + 1 := by rw [List.length_append, l3]; rfl
          conv => whnf
          refine ⟨(by decide), ?_⟩
          conv => whnf
          refine ⟨wt_5 hw4, ?_⟩
          conv => whnf
          refine p1c (congrArg (fun t => [Value.ref 5, Value.int t, Value.int (nI (acc1 ++ [lt] ++ [94] ++ [49]).length)]) hr) ?_
          refine c_FT_writeByte S hw4 (b := 48 + nI (k % 10)) (by omega) b4 (fun h5 e5 b5 => ?_)
          conv => whnf
          have e : acc1 ++ [lt] ++ [94] ++ [49] ++ [48 + nI (k % 10)] = acc1 ++ ([lt, 94] ++ [49] ++ [48 + nI (k % 10)]) := by simp
          rw [e] at b5 ⊢
          exact hK h5 (eqX_tr e1 (eqX_tr (eqX_tr (eqX_tr e2 e3) e4) e5)) b5
      · rw [if_pos c1] at hK
        conv => whnf
        exact hK h2 (eqX_tr e1 e2) b2
    · rw [if_pos c0] at hK
      conv => whnf
      refine ⟨wt_5 hw1, ?_⟩
      conv => whnf
      refine c_FT_writeByte S hw1 (b := 49) (by omega) b1 (fun h2 e2 b2 => ?_)
      conv => whnf
      exact hK h2 (eqX_tr e1 e2) b2
  refine S.2.1 _ 5 _ _ _ rfl rfl ?_
  refine S.at 60 [8] rfl ?_
  conv => whnf
  cases hacc : acc with
  | nil =>
    rw [hacc] at go
    refine bk_t (by decide) ?_
    conv => whnf
    exact go h [] (by decide) (eqX_rf _ _) (fun i hi => by cases hi) rfl _
  | cons x l =>
    rw [hacc] at go hb hl
    refine bk_f (fun c => ?_) ?_
    · have := (zn_le (b := 0) (by omega) (by decide)).mp c
      cases this
    conv => whnf
    refine ⟨wt_5 hw, ?_⟩
    conv => whnf
    refine c_FT_writeByte S hw (b := 43) (by omega) hb (fun h2 e2 b2 => ?_)
    conv => whnf
    exact go h2 _ (by rw [List.length_append]; show (x :: l).length + 1 + 4 < 64; omega) e2 b2 rfl _
theorem l_FT_wo {P : PSem} (S : SysOK P) {h0 : PH} (hw0 : WS h0) {a : Nat} {lt : Int32} (ha : a < 4096) {K : PK} (hK : ∀ h', eqX e95 h0 h' → WB h' 95 (wrF a lt 12) → K (.int (nI (wrF a lt 12).length)) h') : ∀ j h acc, j ≤ 12 → eqX e95 h0 h → acc.length ≤ 5 * (12 - j) → WB h 95 acc → wrL a lt 12 [] = wrL a lt j acc →
    P.2 n_FT_writeOut 4 [some (.ref 5), some (.int (nI a)), some (.int lt), some (.int (nI acc.length)), some (.int (nI j + (-1)))] [] h 0 0 K := by
  intro j
  induction j with
  | zero =>
    intro h acc hj he hl hb heq
    have hw := eqX_WS he hw0
    have heq : wrL a lt 12 [] = acc := heq
    unfold wrF at hK
    rw [heq] at hK
    refine S.at 60 [] rfl ?_
    conv => whnf
    refine bk_t (neg1) ?_
    conv => whnf
    cases hacc : acc with
    | nil =>
      rw [hacc, if_pos rfl] at hK
      refine bk_t (by decide) ?_
      conv => whnf
      refine ⟨wt_5 hw, ?_⟩
      conv => whnf
      refine c_FT_writeByte (acc := []) S hw (b := 48) (by decide) (fun i hi => by cases hi) (fun h2 e2 b2 => ?_)
      conv => whnf
      exact hK h2 (eqX_tr he e2) b2
    | cons x l =>
      rw [hacc, if_neg (by simp)] at hK
      rw [hacc] at hb hl
      refine bk_f (fun c => ?_) ?_
      · have := (zn_le (b := 0) (by omega) (by decide)).mp c
        cases this
      conv => whnf
      exact hK h he hb
  | succ j ih =>
    intro h acc hj he hl hb heq
    have hw := eqX_WS he hw0
    rw [pk_m1]
    have heq : wrL a lt 12 [] = wrL a lt j (if a.testBit j then acc ++ wpL j lt acc.isEmpty else acc) := heq
    have hbit := zn_bit0 (a := a) (k := j) (by omega) (by omega)
    refine S.at 60 [] rfl ?_
    conv => whnf
    refine bk_f (nI_pos (by omega)) ?_
    conv => whnf
    refine ⟨fun c => ?_, fun c => ?_⟩
    · have c := hbit.mp c
      rw [c, if_neg (by decide)] at heq
      conv => whnf
      exact ih h acc (by omega) he (by omega) hb heq
    · have c : a.testBit j = true := by
        cases hb1 : a.testBit j with
        | true => rfl
        | false => exact absurd (hbit.mpr hb1) c
      rw [c, if_pos rfl] at heq
      conv => whnf
      refine ⟨wt_5 hw, ?_⟩
      conv => whnf
      refine c_FT_writePower S hw (by omega) (by omega) hb (fun h2 e2 b2 => ?_)
      conv => whnf
      have := (wpL_len j lt acc.isEmpty).1
      exact ih h2 _ (by omega) (eqX_tr he e2) (by rw [List.length_append]; omega) b2 heq
theorem c_FT_writeOut {P : PSem} (S : SysOK P) {h : PH} (hw : WS h) {a : Nat} {lt : Int32} (ha : a < 4096) {K : PK} (hK : ∀ h', eqX e95 h h' → WB h' 95 (wrF a lt 12) → K (.int (nI (wrF a lt 12).length)) h') : P.1 n_FT_writeOut [.ref 5, .int (nI a), .int lt] h K := by
  refine S.2.1 _ 5 _ _ _ rfl rfl ?_
  refine S.at 4 [] rfl ?_
  conv => whnf
  exact l_FT_wo S hw ha hK 12 h [] (Nat.le_refl _) (eqX_rf _ _) (by decide) (fun i hi => by cases hi) rfl
theorem wrL_len (a : Nat) (lt : Int32) : ∀ k acc, (wrL a lt k acc).length ≤ acc.length + 5 * k
  | 0, acc => Nat.le_refl _
  | k + 1, acc => by
    have ih := wrL_len a lt k (if a.testBit k then acc ++ wpL k lt acc.isEmpty else acc)
    have hw := (wpL_len k lt acc.isEmpty).1
    refine Nat.le_trans ih ?_
    split
    · rw [List.length_append]
      omega
    · omega
theorem wrF_len (a : Nat) (lt : Int32) {n : Nat} (hn : n ≤ 12) : (wrF a lt n).length ≤ 60 := by
  unfold wrF
  have := wrL_len a lt n []
  split
  · decide
  · have : ([] : List Int32).length = 0 := rfl
    omega
def wrI (l : List Int32) (i : Int32) : Int32 := if i = -1 then nI l.length else if 0 ≤ i ∧ i < nI l.length then l.getD i.toNatClampNeg 0 else -1
def sWritten (n a lt i : Int32) : Int32 := if okE n a && decide ((0 : Int32) ≤ lt ∧ lt ≤ 25) then wrI (wrF a.toNatClampNeg (97 + lt) n.toNatClampNeg) i else -1
theorem wrF_12 {a n : Nat} (lt : Int32) (hn : n ≤ 12) (ha : a < 2 ^ n) : wrF a lt 12 = wrF a lt n := by
  obtain ⟨j, hj⟩ := Nat.le.dest hn
  unfold wrF
  rw [← hj, wrL_hi lt ha j []]
theorem c_FT_written {P : PSem} (S : SysOK P) {h : PH} {u : Nat → Nat} {r : Nat → Nat → Nat} (hC : CI h u r) (n a lt i : Int32) {K : PK} (hK : ∀ h', CI h' u r → FQ h h' → K (.int (sWritten n a lt i)) h') : P.1 n_FT_written [.ref 5, .int n, .int a, .int lt, .int i] h K := by
  have hw := hC.1
  unfold sWritten at hK
  refine S.go 60 rfl rfl rfl ?_
  conv => whnf
  refine c_FT_isElement S n a ?_
  conv => whnf
  refine bk_b0 (fun c1 => ?_) (fun c1 => ?_)
  · rw [c1, Bool.false_and] at hK
    conv => whnf
    exact hK h hC (FQ_rf h)
  rw [c1, Bool.true_and] at hK
  conv => whnf
  refine ⟨fun c2 => ?_, fun c2 => ?_⟩
  · rw [decide_eq_false (fun q => absurd c2 (Int32.not_lt.mpr q.1))] at hK
    conv => whnf
    exact hK h hC (FQ_rf h)
  conv => whnf
  refine ⟨fun c3 => ?_, fun c3 => ?_⟩
  · rw [decide_eq_false (fun q => absurd (Int32.le_trans c3 q.2) (by decide))] at hK
    conv => whnf
    exact hK h hC (FQ_rf h)
  have c4 : decide ((0 : Int32) ≤ lt ∧ lt ≤ 25) = true := by
    rcases pk_ix lt (n := 26) (by decide) with w | w | ⟨j, hj, w⟩
    · exact absurd w c2
    · exact absurd w c3
    · rw [decide_eq_true_iff, w]
      exact ⟨nI_pos' (by omega), (zn_le (b := 25) (by omega) (by decide)).mpr (by omega)⟩
  rw [c4, if_pos rfl] at hK
  obtain ⟨k, x, k1, k2, rfl, rfl, hx⟩ := okE_nat c1
  have hk := pow12 k2
  rw [nI_clamp (show k < 2 ^ 31 by omega), nI_clamp (show x < 2 ^ 31 by omega), ← wrF_12 (97 + lt) k2 hx] at hK
  have hlen := wrF_len x (97 + lt) (n := 12) (Nat.le_refl _)
  unfold wrI at hK
  conv => whnf
  refine ⟨fun c5 => ?_, fun c5 => ?_⟩
  · conv => whnf
    refine ⟨wt_5 hw, ?_⟩
    conv => whnf
    refine c_FT_writeOut (lt := 97 + lt) S hw (show x < 4096 by omega) (fun h' a1 a2 => ?_)
    have hC' : CI h' u r := CI_eqX (fun k q => by unfold e95 at q; unfold frs; omega) a1 hC
    have hf : FQ h h' := FQ_eqX a1 (fun k q _ => by unfold e95 at q; unfold scr; omega)
    have hw' := hC'.1
    have hK := hK h' hC' hf
    conv => whnf
    refine ⟨fun c6 => ?_, fun c6 => ?_⟩
    · rw [if_neg c6] at hK
      obtain ⟨q, rfl, hq⟩ := i32_nat (i32_m1 c5 c6)
      conv => whnf
      refine bk_le (by omega) (by omega) (fun c7 => ?_) (fun c7 => ?_)
      · rw [if_neg (fun z => absurd ((zn_lt hq (by omega)).mp z.2) (by omega))] at hK
        conv => whnf
        exact hK
      · rw [if_pos ⟨nI_pos' hq, (zn_lt hq (by omega)).mpr c7⟩, nI_clamp hq, ← a2 q c7] at hK
        conv => whnf
        refine ⟨wt_5 hw', ?_⟩
        conv => whnf
        rw [wr_5_8 hw']
        refine ⟨inB_of (wt_95 hw') (wn_95 hw') (by omega) (by decide), ?_⟩
        conv => whnf
        rw [nI_clamp hq]
        exact hK
    · rw [if_pos c6] at hK
      conv => whnf
      exact hK
  · have hK := hK h hC (FQ_rf h)
    rw [if_neg (fun e => c5 (by rw [e]; decide)), if_neg (fun z => c5 (Int32.le_trans (by decide) z.1))] at hK
    conv => whnf
    exact hK
