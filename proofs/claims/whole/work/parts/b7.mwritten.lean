/-! the reference writes an element -/
def MWr (h h' : PH) : Prop := eqX (fun k => k = 148 ∨ k = 116) h h' ∧ ∀ j, j ≠ 49 → hI h' 116 j = hI h 116 j
theorem MWr_rf (h : PH) : MWr h h := ⟨eqX_rf _ _, fun _ _ => rfl⟩
theorem MWr_tr {a b c : PH} (x : MWr a b) (y : MWr b c) : MWr a c := ⟨eqX_tr x.1 y.1, fun j hj => (y.2 j hj).trans (x.2 j hj)⟩
def WM (h : PH) (acc : List Int32) : Prop := WB h 148 acc ∧ hI h 116 49 = nI acc.length
theorem c_M_writes {P : PSem} (S : SysOK P) {h : PH} (hw : WS h) {acc : List Int32} {b : Int32} (hl : acc.length < 80) (hb : WM h acc) {K : PK} (hK : ∀ h', MWr h h' → WM h' (acc ++ [b]) → K .null h') : P.1 n_M_writes [.ref 116, .int b] h K := by
  refine S.go 40 rfl rfl rfl ?_
  conv => whnf
  refine ⟨wt_116 hw, ?_⟩
  conv => whnf
  rw [wr_116_48 hw]
  refine ⟨wt_116 hw, ?_⟩
  conv => whnf
  rw [hb.2]
  refine ⟨⟨by decide, inB_of (wt_148 hw) (wn_148 hw) hl (by decide)⟩, ?_⟩
  conv => whnf
  rw [nI_clamp (by omega)]
  refine ⟨wt_116 hw, ?_⟩
  conv => whnf
  rw [hI_sI_ne (by decide : 116 ≠ 148), hb.2]
  refine ⟨wt_116 hw, ?_⟩
  conv => whnf
  have e1 : nI acc.length + 1 = nI (acc ++ [b]).length := by rw [List.length_append, nI_1]; rfl
  refine hK _ ⟨eqX_tr (eqX_sI (Or.inl rfl)) (eqX_sI (Or.inr rfl)), fun j hj => ?_⟩ ⟨?_, ?_⟩
  · rw [hI_sI_j hj, hI_sI_ne (by decide : 116 ≠ 148)]
  · have := WB_app (b := b) hb.1
    intro i hi
    rw [hI_sI_ne (by decide : 148 ≠ 116)]
    exact this i hi
  · rw [hI_sI]
    exact e1
theorem c_M_writesPower {P : PSem} (S : SysOK P) {h : PH} (hw : WS h) {acc : List Int32} {k : Nat} {lt : Int32} (hk : k < 12) (hl : acc.length + 5 < 80) (hb : WM h acc) {K : PK} (hK : ∀ h', MWr h h' → WM h' (acc ++ wpL k (97 + lt) acc.isEmpty) → K .null h') : P.1 n_M_writesPower [.ref 116, .int (nI k), .int lt] h K := by
  have go : ∀ h1 acc1, acc1.length + 4 < 80 → MWr h h1 → WM h1 acc1 → acc1 = acc ++ (if acc.isEmpty then [] else [43]) → P.2 n_M_writesPower 6 [some (.ref 116), some (.int (nI k)), some (.int lt)] [] h1 0 0 K := by
    intro h1 acc1 l1 e1 b1 ea
    have hw1 := eqX_WS e1.1 hw
    unfold wpL at hK
    rw [← app3, ← ea] at hK
    refine S.at 60 [] rfl ?_
    conv => whnf
    refine bk_ne (b := 0) (by omega) (by decide) (fun c0 => ?_) (fun c0 => ?_)
    · rw [if_neg c0] at hK
      conv => whnf
      refine ⟨wt_116 hw1, ?_⟩
      conv => whnf
      refine c_M_writes S hw1 (b := 97 + lt) (by omega) b1 (fun h2 e2 b2 => ?_)
      have hw2 := eqX_WS e2.1 hw1
      have l2 : (acc1 ++ [97 + lt]).length = acc1.length + 1 := List.length_append
      conv => whnf
      refine bk_ne (b := 1) (by omega) (by decide) (fun c1 => ?_) (fun c1 => ?_)
      · rw [if_neg c1] at hK
        conv => whnf
        refine ⟨wt_116 hw2, ?_⟩
        conv => whnf
        refine c_M_writes S hw2 (b := 94) (by omega) b2 (fun h3 e3 b3 => ?_)
        have hw3 := eqX_WS e3.1 hw2
        have l3 : (acc1 ++ [97 + lt] ++ [94]).length = acc1.length + 1 + 1 := by rw [List.length_append, l2]; rfl
        have hr : (fun x y : Int32 => x + y) 48 (i_rem (nI k) 10) = 48 + nI (k % 10) := by
          show 48 + i_rem (nI k) 10 = _
          rw [show i_rem (nI k) 10 = nI (k % 10) from i_rem_n (d := 10) (by omega) (by decide) (by decide)]
        conv => whnf
        refine bk_le (b := 9) (by omega) (by decide) (fun c2 => ?_) (fun c2 => ?_)
        · rw [if_neg (by omega)] at hK
          conv => whnf
          refine ⟨(by decide), ?_⟩
          conv => whnf
          refine ⟨wt_116 hw3, ?_⟩
          conv => whnf
          refine p1c (congrArg (fun t => [Value.ref 116, Value.int t]) hr) ?_
          refine c_M_writes S hw3 (b := 48 + nI (k % 10)) (by omega) b3 (fun h4 e4 b4 => ?_)
          conv => whnf
          have e : acc1 ++ [97 + lt] ++ [94] ++ [48 + nI (k % 10)] = acc1 ++ ([97 + lt, 94] ++ [] ++ [48 + nI (k % 10)]) := by simp
          rw [e] at b4
          exact hK h4 (MWr_tr e1 (MWr_tr (MWr_tr e2 e3) e4)) b4
        · rw [if_pos (by omega)] at hK
          conv => whnf
          refine ⟨wt_116 hw3, ?_⟩
          conv => whnf
          refine c_M_writes S hw3 (b := 49) (by omega) b3 (fun h4 e4 b4 => ?_)
          have hw4 := eqX_WS e4.1 hw3
          have l4 : (acc1 ++ [97 + lt] ++ [94] ++ [49]).length = acc1.length + 1 + 1 + 1 := by rw [List.length_append, l3]; rfl
          conv => whnf
          refine ⟨(by decide), ?_⟩
          conv => whnf
          refine ⟨wt_116 hw4, ?_⟩
          conv => whnf
          refine p1c (congrArg (fun t => [Value.ref 116, Value.int t]) hr) ?_
          refine c_M_writes S hw4 (b := 48 + nI (k % 10)) (by omega) b4 (fun h5 e5 b5 => ?_)
          conv => whnf
          have e : acc1 ++ [97 + lt] ++ [94] ++ [49] ++ [48 + nI (k % 10)] = acc1 ++ ([97 + lt, 94] ++ [49] ++ [48 + nI (k % 10)]) := by simp
          rw [e] at b5
          exact hK h5 (MWr_tr e1 (MWr_tr (MWr_tr (MWr_tr e2 e3) e4) e5)) b5
      · rw [if_pos c1] at hK
        conv => whnf
        exact hK h2 (MWr_tr e1 e2) b2
    · rw [if_pos c0] at hK
      conv => whnf
      refine ⟨wt_116 hw1, ?_⟩
      conv => whnf
      refine c_M_writes S hw1 (b := 49) (by omega) b1 (fun h2 e2 b2 => ?_)
      conv => whnf
      exact hK h2 (MWr_tr e1 e2) b2
  refine S.2.1 _ 3 _ _ _ rfl rfl ?_
  refine S.at 60 [6] rfl ?_
  conv => whnf
  refine ⟨wt_116 hw, ?_⟩
  conv => whnf
  rw [hb.2]
  cases hacc : acc with
  | nil =>
    rw [hacc] at go hb
    refine bk_t (by decide) ?_
    conv => whnf
    exact go h [] (by decide) (MWr_rf h) hb rfl
  | cons x l =>
    rw [hacc] at go hb hl
    refine bk_f (fun c => ?_) ?_
    · have := (zn_le (b := 0) (by omega) (by decide)).mp c
      cases this
    conv => whnf
    refine ⟨wt_116 hw, ?_⟩
    conv => whnf
    refine c_M_writes S hw (b := 43) (by omega) hb (fun h2 e2 b2 => ?_)
    conv => whnf
    exact go h2 _ (by rw [List.length_append]; show (x :: l).length + 1 + 4 < 80; omega) e2 b2 rfl
theorem l_M_wo {P : PSem} (S : SysOK P) {h0 : PH} (hw0 : WS h0) {a n : Nat} {lt i : Int32} (ha : a < 4096) (hn : n ≤ 12) {K : PK} (hK : ∀ h', MWr h0 h' → WM h' (wrL a (97 + lt) n []) → P.2 n_M_written 30 [some (.ref 116), none, some (.int (nI a)), some (.int lt), some (.int i), none] [] h' 0 0 K) : ∀ j h acc, j ≤ n → MWr h0 h → acc.length ≤ 5 * (12 - j) → WM h acc → wrL a (97 + lt) n [] = wrL a (97 + lt) j acc →
    P.2 n_M_written 18 [some (.ref 116), none, some (.int (nI a)), some (.int lt), some (.int i), some (.int (nI j + (-1)))] [] h 0 0 K := by
  intro j
  induction j with
  | zero =>
    intro h acc hj he hl hb heq
    have heq : wrL a (97 + lt) n [] = acc := heq
    rw [heq] at hK
    refine S.at 60 [30] rfl ?_
    conv => whnf
    refine bk_t (neg1) ?_
    conv => whnf
    exact S.mk [(0, 1), (0, 0), (0, 1), (0, 1), (0, 1), (0, 0)] (hK h he hb)
  | succ j ih =>
    intro h acc hj he hl hb heq
    have hw := eqX_WS he.1 hw0
    rw [pk_m1]
    have heq : wrL a (97 + lt) n [] = wrL a (97 + lt) j (if a.testBit j then acc ++ wpL j (97 + lt) acc.isEmpty else acc) := heq
    refine S.at 60 [30] rfl ?_
    conv => whnf
    refine bk_f (nI_pos (by omega)) ?_
    conv => whnf
    refine c_M_has S (by omega) (by omega) ?_
    conv => whnf
    refine bk_b0 (fun c => ?_) (fun c => ?_)
    · rw [c, if_neg (by decide)] at heq
      conv => whnf
      exact ih h acc (by omega) he (by omega) hb heq
    · rw [c, if_pos rfl] at heq
      conv => whnf
      refine ⟨wt_116 hw, ?_⟩
      conv => whnf
      refine c_M_writesPower S hw (by omega) (by omega) hb (fun h2 e2 b2 => ?_)
      conv => whnf
      have := (wpL_len j (97 + lt) acc.isEmpty).1
      exact ih h2 _ (by omega) (MWr_tr he e2) (by rw [List.length_append]; omega) b2 heq
theorem wrL_ne {a : Nat} {lt : Int32} : ∀ n acc, a < 2 ^ n → (a ≠ 0 ∨ acc ≠ []) → wrL a lt n acc ≠ []
  | 0, acc, ha, h => by
    have : a = 0 := by have : a < 1 := ha; omega
    rcases h with h | h
    · exact absurd this h
    · exact h
  | n + 1, acc, ha, h => by
    show wrL a lt n (if a.testBit n then acc ++ wpL n lt acc.isEmpty else acc) ≠ []
    -- bits below n alone matter then
    have low : ∀ acc2, acc2 ≠ [] → ∀ k, wrL a lt k acc2 ≠ [] := by
      intro acc2 h2 k
      induction k generalizing acc2 with
      | zero => exact h2
      | succ k ih =>
        refine ih _ ?_
        split
        · intro e
          exact h2 (List.append_eq_nil_iff.mp e).1
        · exact h2
    rcases lt_succ_cases ha with ⟨w, hb⟩ | ⟨hb, w⟩
    · rw [hb, if_neg (by decide)]
      exact wrL_ne n acc w h
    · rw [hb, if_pos rfl]
      refine low _ (fun e => ?_) n
      have h1 := (List.append_eq_nil_iff.mp e).2
      have h2 := (wpL_len n lt acc.isEmpty).2
      rw [h1] at h2
      cases h2
theorem wrL_0 (lt : Int32) : ∀ n, wrL 0 lt n [] = []
  | 0 => rfl
  | n + 1 => by
    show wrL 0 lt n (if Nat.testBit 0 n then _ else []) = []
    rw [Nat.zero_testBit, if_neg (by decide), wrL_0 lt n]
theorem c_M_written {P : PSem} (S : SysOK P) {h : PH} {u : Nat → Nat} (hM : MJ h u) (n a lt i : Int32) {K : PK} (hK : ∀ h', MWr h h' → K (.int (sWritten n a lt i)) h') : P.1 n_M_written [.ref 116, .int n, .int a, .int lt, .int i] h K := by
  have hw := hM.1
  unfold sWritten at hK
  refine S.2.1 _ 6 _ _ _ rfl rfl ?_
  refine S.at 60 [18] rfl ?_
  conv => whnf
  refine c_M_isOf S n a ?_
  conv => whnf
  refine bk_b0 (fun c1 => ?_) (fun c1 => ?_)
  · rw [c1, Bool.false_and] at hK
    conv => whnf
    exact hK h (MWr_rf h)
  rw [c1, Bool.true_and] at hK
  conv => whnf
  refine c_M_in S _ _ _ ?_
  conv => whnf
  refine bk_b1 (fun c2 => ?_) (fun c2 => ?_)
  · rw [c2, if_pos rfl] at hK
    obtain ⟨k, x, k1, k2, rfl, rfl, hx⟩ := okE_nat c1
    have hk := pow12 k2
    rw [nI_clamp (show k < 2 ^ 31 by omega), nI_clamp (show x < 2 ^ 31 by omega)] at hK
    have hlen := wrF_len x (97 + lt) k2
    conv => whnf
    refine ⟨wt_116 hw, ?_⟩
    conv => whnf
    have m0 : MWr h (sI h 116 49 0) := ⟨eqX_sI (Or.inr rfl), fun j hj => hI_sI_j hj⟩
    have fin : ∀ h', MWr h h' → WM h' (wrF x (97 + lt) k) → P.2 n_M_written 35 [some (.ref 116), none, some (.int (nI x)), some (.int lt), some (.int i), none] [] h' 0 0 K := by
      intro h' a1 a2
      have hw' := eqX_WS a1.1 hw
      have hK := hK h' a1
      unfold wrI at hK
      refine S.at 60 [] rfl ?_
      conv => whnf
      refine ⟨fun c6 => ?_, fun c6 => ?_⟩
      · rw [if_neg c6] at hK
        conv => whnf
        refine ⟨wt_116 hw', ?_⟩
        conv => whnf
        rw [a2.2]
        have hpos : 1 ≤ (wrF x (97 + lt) k).length := by
          unfold wrF
          split
          · decide
          · rename_i e
            cases hq : wrL x (97 + lt) k [] with
            | nil => exact absurd hq e
            | cons y l => exact Nat.succ_le_succ (Nat.zero_le _)
        refine p1c (congrArg (fun t => [Value.int i, Value.int 0, Value.int t]) (pk_sub (a := (wrF x (97 + lt) k).length) (b := 1) hpos)) ?_
        refine c_M_in S _ _ _ ?_
        conv => whnf
        have eb : decide ((0 : Int32) ≤ i ∧ i ≤ nI ((wrF x (97 + lt) k).length - 1)) = decide (0 ≤ i ∧ i < nI (wrF x (97 + lt) k).length) := by
          rw [Bool.eq_iff_iff, decide_eq_true_iff, decide_eq_true_iff]
          constructor
          · rintro ⟨z1, z2⟩
            obtain ⟨q, rfl, hq⟩ := i32_nat z1
            exact ⟨z1, (zn_lt hq (by omega)).mpr (by have := (zn_le hq (by omega)).mp z2; omega)⟩
          · rintro ⟨z1, z2⟩
            obtain ⟨q, rfl, hq⟩ := i32_nat z1
            exact ⟨z1, (zn_le hq (by omega)).mpr (by have := (zn_lt hq (by omega)).mp z2; omega)⟩
        rw [eb]
        refine bk_b0 (fun c7 => ?_) (fun c7 => ?_)
        · have c7 := of_decide_eq_false c7
          rw [if_neg c7] at hK
          conv => whnf
          exact hK
        · have c7 := of_decide_eq_true c7
          rw [if_pos c7] at hK
          obtain ⟨q, rfl, hq⟩ := i32_nat c7.1
          have c8 := (zn_lt hq (by omega)).mp c7.2
          rw [nI_clamp hq, ← a2.1 q c8] at hK
          conv => whnf
          refine ⟨wt_116 hw', ?_⟩
          conv => whnf
          rw [wr_116_48 hw']
          refine ⟨inB_of (wt_148 hw') (wn_148 hw') (by omega) (by decide), ?_⟩
          conv => whnf
          rw [nI_clamp hq]
          exact hK
      · rw [if_pos c6] at hK
        conv => whnf
        refine ⟨wt_116 hw', ?_⟩
        conv => whnf
        rw [a2.2]
        exact hK
    have next := l_M_wo S hw (a := x) (n := k) (lt := lt) (i := i) (by omega) k2 (K := K) (fun h' a1 a2 => by
      have hw' := eqX_WS a1.1 hw
      refine S.at 60 [35] rfl ?_
      conv => whnf
      refine bk_ne (b := 0) (by omega) (by decide) (fun c0 => ?_) (fun c0 => ?_)
      · conv => whnf
        refine fin h' a1 ?_
        unfold wrF
        rw [if_neg (wrL_ne k [] hx (Or.inl c0))]
        exact a2
      · subst c0
        rw [wrL_0] at a2
        conv => whnf
        refine ⟨wt_116 hw', ?_⟩
        refine c_M_writes (acc := []) S hw' (b := 48) (by decide) a2 (fun h2 e2 b2 => ?_)
        conv => whnf
        refine fin h2 (MWr_tr a1 e2) ?_
        unfold wrF
        rw [if_pos (wrL_0 _ k)]
        exact b2) k (sI h 116 49 0) [] (Nat.le_refl k) m0 (Nat.zero_le _) ⟨fun i hi => (by cases hi), hI_sI⟩ rfl
    have e1 : nI k + (-1) = nI k - 1 := by rw [Int32.sub_eq_add_neg]
    rw [e1] at next
    exact S.mk [(0, 1), (0, 0), (0, 1), (0, 1), (0, 1), (0, 1)] next
  · rw [c2] at hK
    conv => whnf
    exact hK h (MWr_rf h)
