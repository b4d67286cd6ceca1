/-! MEANS: moduli, and the loop over lines -/
def dLm (n : Nat) : Int32 := nI (lm n)
def DR (h : PH) (tx : Nat → Nat) (L : Nat) (l0 : Nat → Int64) (f0 : Nat → Int32) (e : Nat) : Prop := (∀ i, i < e → cFL tx L l0 f0 i = 0) → ∀ n, 1 ≤ n → n ≤ 12 → hI h 126 n = cMD tx L dLm e n
def MSE (h : PH) (tx : Nat → Nat) (L : Nat) (l0 : Nat → Int64) (f0 : Nat → Int32) (e : Nat) : Prop := MST h tx L l0 e ∧ LFR h tx L l0 e ∧ DR h tx L l0 f0 e
theorem mb_ok {n w : Nat} (n1 : 1 ≤ n) (n2 : n ≤ 12) (hw : w < 8192) : isMB n (nI w) = (decide (2 ≤ w ∧ w.log2 = n) && irrT.testBit w) := by
  have p1 : 2 ^ n ≤ 2 ^ 12 := Nat.pow_le_pow_right (by decide) n2
  have p2 : 2 ^ (n + 1) ≤ 2 ^ 13 := Nat.pow_le_pow_right (by decide) (by omega)
  have p3 : 2 ^ 1 ≤ 2 ^ n := Nat.pow_le_pow_right (by decide) n1
  have c1 : 2 ^ 12 = 4096 := by decide
  have c2 : 2 ^ 13 = 8192 := by decide
  have c3 : 2 ^ 1 = 2 := by decide
  unfold isMB
  rw [show decide (nI (2 ^ n) ≤ nI w ∧ nI w < nI (2 ^ (n + 1))) = decide (2 ^ n ≤ w ∧ w < 2 ^ (n + 1)) from decide_eq_decide.mpr (by rw [zn_le (by omega) (by omega), zn_lt (by omega) (by omega)]), nI_clamp (by omega)]
  by_cases z : 2 ^ n ≤ w ∧ w < 2 ^ (n + 1)
  · have e : w.log2 = n := (Nat.log2_eq_iff (by omega)).mpr z
    rw [decide_eq_true z, decide_eq_true (show 2 ≤ w ∧ w.log2 = n from ⟨by omega, e⟩), isIrr_T (by omega) hw]
  · have e : ¬ (2 ≤ w ∧ w.log2 = n) := fun y => z ((Nat.log2_eq_iff (by omega)).mp y.2)
    rw [decide_eq_false z, decide_eq_false e, Bool.false_and, Bool.false_and]
theorem mb_m1 {n : Nat} (n2 : n ≤ 12) : isMB n (-1) = false := by
  unfold isMB
  rw [decide_eq_false, Bool.false_and]
  intro y
  have p1 : 2 ^ n ≤ 2 ^ 12 := Nat.pow_le_pow_right (by decide) n2
  have c1 : 2 ^ 12 = 4096 := by decide
  have : (0 : Int32) ≤ nI (2 ^ n) := (zn_le (a := 0) (by decide) (by omega)).mpr (Nat.zero_le _)
  exact absurd (Int32.le_trans this y.1) (by decide)
theorem c_M_meansModulus {P : PSem} (S : SysOK P) {h : PH} (hw : WS h) (hs : SPL h) {tx : Nat → Nat} {L : Nat} (hB : TXB tx) (hM : L ≤ 2000) (eo : EOK tx L) {l0 : Nat → Int64} {f0 : Nat → Int32} {k : Nat} (hk : k < pT (tkk tx L)) (hr : cR tx L k = 1) (hk1 : tkk tx L k = 1) (m : MSE h tx L l0 f0 k) {K : PK}
    (hK : ∀ h', MNX LJ LA h h' → k + 4 ≤ pT (tkk tx L) → cR tx L (k + 4) = 1 → (∀ i, k < i → i < k + 4 → cR tx L i ≠ 1) → MSE h' tx L l0 f0 (k + 4) → K .null h') : P.1 n_M_meansModulus [.ref 116, .int (nI k)] h K := by
  have t4 := (pT_ok (tkk tx L)).1
  have tab := rtab hk
  have r1 : cR tx L (k + 1) = 2 := by omega
  have l1 := eo.lt (t := k + 1) (by omega) (by omega)
  have tab1 := rtab l1
  have k5 : tkk tx L (k + 1) = 5 := by omega
  have r2 : cR tx L (k + 1 + 1) = 3 := by omega
  have r2 : cR tx L (k + 2) = 3 := r2
  have l2 := eo.lt (t := k + 2) (by omega) (by omega)
  have tab2 := rtab l2
  have k5' : tkk tx L (k + 2) = 5 := by omega
  have r3 : cR tx L (k + 2 + 1) = 4 := by omega
  have r3 : cR tx L (k + 3) = 4 := r3
  have l3 := eo.lt (t := k + 3) (by omega) (by omega)
  have tab3 := rtab l3
  have r4 : cR tx L (k + 3 + 1) = 1 := by omega
  have r4 : cR tx L (k + 4) = 1 := r4
  clear tab tab1 tab2 tab3
  have vb := tkv_bd (tx := tx) (L := L) (t := k + 1) hB
  obtain ⟨⟨mb, mr, mw, me⟩, lf, dr⟩ := m
  have tk1 := mb.1 (k + 1) (by omega)
  have tk2 := mb.1 (k + 2) (by omega)
  have n4 : cnm tx L (k + 4) = cnm tx L k := by
    show (if _ then _ else if _ then _ else if _ then _ else if _ then _ else _) = _
    rw [if_neg (by omega), if_neg (by omega), if_neg (by omega), if_neg (by omega)]
  have e4 : eW tx L l0 (k + 4) = eW tx L l0 k := (eW_flat l0 (by omega)).trans ((eW_flat l0 (by omega)).trans ((eW_flat l0 (by omega)).trans (eW_flat l0 (by omega))))
  have rl2 : rlf tx L (k + 2) = tkv tx L (k + 1) := by
    show (if _ then _ else _) = _
    rw [if_pos (Or.inl r1)]
  have cl2 : clf tx L (k + 2) = tkw tx L (k + 1) := by
    show (if _ then _ else _) = _
    rw [if_pos (Or.inl r1)]
  have z0 : rFL tx L l0 k = 0 := by
    unfold rFL
    rw [if_neg (by omega), if_neg (by omega), if_neg (by omega), if_neg (by omega), if_neg (by omega)]
  have z3 : rFL tx L l0 (k + 3) = 0 := by
    unfold rFL
    rw [if_neg (by omega), if_neg (by omega), if_neg (by omega), if_neg (by omega), if_neg (by omega)]
  have z1 : rFL tx L l0 (k + 1) = if 1 ≤ tkv tx L (k + 1) ∧ tkv tx L (k + 1) ≤ 12 then 0 else 5 := by
    unfold rFL
    rw [if_pos (Or.inl r1)]
  have z2 : rFL tx L l0 (k + 2) = if 1 ≤ tkv tx L (k + 1) ∧ tkv tx L (k + 1) ≤ 12 then (if isMB (tkv tx L (k + 1)) (cBt tx L (k + 2)) then 0 else 5) else 0 := by
    unfold rFL
    rw [if_neg (by omega), if_pos r2, rl2]
  have cMe : ∀ d0 : Nat → Int32, ∀ j, cMD tx L d0 (k + 4) j = if j = tkw tx L (k + 1) then cBt tx L (k + 2) else cMD tx L d0 k j := by
    intro d0 j
    show (if cR tx L (k + 3) = 3 ∧ _ then _ else if cR tx L (k + 2) = 3 ∧ j = clf tx L (k + 2) then cBt tx L (k + 2) else if cR tx L (k + 1) = 3 ∧ _ then _ else if cR tx L k = 3 ∧ _ then _ else _) = _
    rw [if_neg (by omega), cl2, if_neg (c := cR tx L (k + 1) = 3 ∧ _) (by omega), if_neg (c := cR tx L k = 3 ∧ _) (by omega)]
    by_cases y : j = tkw tx L (k + 1)
    · rw [if_pos ⟨r2, y⟩, if_pos y]
    · rw [if_neg (fun x => y x.2), if_neg y]
  have rs : ∀ i, k < i → i < k + 4 → cR tx L i ≠ 1 := fun i y1 y2 => by
    rcases (show i = k + 1 ∨ i = k + 2 ∨ i = k + 3 by omega) with e | e | e
    · rw [e]; omega
    · rw [e]; omega
    · rw [e]; omega
  have lf4 : ∀ h', hI h' 130 = hI h 130 → LFR h' tx L l0 (k + 4) := by
    intro h' e j hj
    rw [n4] at hj
    have a1 : lnA tx L (k + 4) j = lnA tx L k j := by
      show (if _ then _ else if _ then _ else if _ then _ else if _ then _ else _) = _
      rw [if_neg (by omega), if_neg (by omega), if_neg (by omega), if_neg (by omega)]
    have a2 : lnT tx L (k + 4) j = lnT tx L k j := by
      show (if _ then _ else if _ then _ else if _ then _ else if _ then _ else _) = _
      rw [if_neg (by omega), if_neg (by omega), if_neg (by omega), if_neg (by omega)]
    rw [a1, a2, e]
    exact lf j hj
  have wr : ∀ h' b, b = k + 1 ∨ b = k + 2 → (∀ c, c = k + 1 ∨ c = k + 2 → c ≠ b → rFL tx L l0 c = 0) → WR h' tx L (rFL tx L l0) (fun i => i < k + 1 ∨ i = b) → WR h' tx L (rFL tx L l0) (fun i => i < k + 4) := fun h' b hb hc w => w.eq (fun i => ⟨fun y => by
      rcases (show (i < k + 1 ∨ i = b) ∨ i = k + 3 ∨ ((i = k + 1 ∨ i = k + 2) ∧ i ≠ b) by omega) with x | x | x
      · exact Or.inl x
      · exact Or.inr ⟨y, by rw [x]; exact z3⟩
      · exact Or.inr ⟨y, hc i x.1 x.2⟩, fun y => by
      rcases y with y | y
      · omega
      · exact y.1⟩)
  have me1 := me.nx z0
  have q0 : ¬ ((cR tx L k = 8 ∨ cR tx L k = 10) ∧ tkk tx L k = 6) := by omega
  have q1 : ¬ ((cR tx L (k + 1) = 8 ∨ cR tx L (k + 1) = 10) ∧ tkk tx L (k + 1) = 6) := by omega
  have q2 : ¬ ((cR tx L (k + 2) = 8 ∨ cR tx L (k + 2) = 10) ∧ tkk tx L (k + 2) = 6) := by omega
  have q3 : ¬ ((cR tx L (k + 3) = 8 ∨ cR tx L (k + 3) = 10) ∧ tkk tx L (k + 3) = 6) := by omega
  have nx4 : ∀ h', MSB h' tx L l0 k → MSB h' tx L l0 (k + 4) := fun h' x => MSB.nx (i := k + 3) (MSB.nx (i := k + 2) (MSB.nx (i := k + 1) (MSB.nx (i := k) x q0) q1) q2) q3
  have mbx : ∀ h', MNX WJ WA h h' → MSB h' tx L l0 (k + 4) := fun h' f => nx4 h' (mb.fr (fun _ y => y) (WJ_TJ f))
  refine S.2.1 _ 4 _ _ _ rfl rfl ?_
  refine S.at 60 [31] rfl ?_
  conv => whnf
  refine ⟨wt_116 hw, ?_⟩
  conv => whnf
  rw [wr_116_7 hw]
  try rw [show (fun x y : Int32 => x + y) (nI k) 1 = nI (k + 1) from nI_1 k]
  refine ⟨inB_of (wt_121 hw) (wn_121 hw) (show k + 1 < 403 by omega) (by decide), ?_⟩
  conv => whnf
  rw [nI_clamp (by omega), tk1.2.2.1]
  refine c_M_isField S _ ?_
  conv => whnf
  rw [okF_n (by omega)]
  refine bk_b1 (fun y => ?_) (fun y => ?_)
  rotate_left
  · have y := of_decide_eq_false y
    rw [if_neg y] at z1 z2
    conv => whnf
    try rw [show (fun x y : Int32 => x + y) (nI k) 1 = nI (k + 1) from nI_1 k]
    refine ⟨wt_116 hw, ?_⟩
    refine c_M_wrong (v := 5) S hw hM (rFL_le tx L l0) (fun i hi => by have hi : i < k + 1 := hi; omega) l1 (by omega) tk1 mb.2.2.1 z1 (by decide) me1 ?_
    intro h2 f2 d2
    conv => whnf
    refine hK h2 (TJ_LJ (WJ_TJ f2)) l3 r4 rs ⟨⟨mbx h2 f2, ?_, ?_, wr h2 (k + 1) (Or.inl rfl) (fun c hc hc2 => ?_) d2⟩, lf4 h2 (f2.1.2.2.2 130 (by unfold WA; omega)).1, fun hz => ?_⟩
    · rw [e4]
      exact mr.wr f2
    · exact fun y => absurd y (by omega)
    · have : c = k + 2 := by omega
      rw [this]
      exact z2
    · exfalso
      have q := hz (k + 1) (by omega)
      unfold cFL at q
      rw [if_pos (Or.inl r1)] at q
      have := tkv_w k5
      split at q
      · omega
      · omega
  have y := of_decide_eq_true y
  rw [if_pos y] at z1 z2
  have twv : tkw tx L (k + 1) = tkv tx L (k + 1) := by
    have := tkv_w k5
    omega
  have g31 : isMB (tkv tx L (k + 1)) (cBt tx L (k + 2)) = false → P.2 n_M_meansModulus 31 [some (.ref 116), some (.int (nI k)), some (.int (nI (tkv tx L (k + 1)))), some (.int (cBt tx L (k + 2)))] [] h 0 0 K := by
    intro nb
    rw [nb] at z2
    refine S.at 60 [] rfl ?_
    conv => whnf
    try rw [show (fun x y : Int32 => x + y) (nI k) 2 = nI (k + 2) from (zn_plus k 2).symm]
    refine ⟨wt_116 hw, ?_⟩
    refine c_M_wrong (v := 5) S hw hM (rFL_le tx L l0) (fun i hi => by have hi : i < k + 1 := hi; omega) l2 (by omega) tk2 mb.2.2.1 z2 (by decide) me1 ?_
    intro h2 f2 d2
    conv => whnf
    refine hK h2 (TJ_LJ (WJ_TJ f2)) l3 r4 rs ⟨⟨mbx h2 f2, ?_, ?_, wr h2 (k + 2) (Or.inr rfl) (fun c hc hc2 => ?_) d2⟩, lf4 h2 (f2.1.2.2.2 130 (by unfold WA; omega)).1, fun hz => ?_⟩
    · rw [e4]
      exact mr.wr f2
    · exact fun y => absurd y (by omega)
    · have : c = k + 1 := by omega
      rw [this]
      exact z1
    · exfalso
      have q := hz (k + 2) (by omega)
      unfold cFL at q
      rw [if_neg (by omega), if_pos r2, cl2, twv, nb] at q
      exact absurd q (by decide)
  conv => whnf
  try rw [show (fun x y : Int32 => x + y) (nI k) 2 = nI (k + 2) from (zn_plus k 2).symm]
  refine ⟨wt_116 hw, ?_⟩
  refine c_M_rowAt S hw mb.2.1 hB hM (by omega) tk2.2.1 k5' ?_
  rw [show sRow tx (tkS tx L (k + 2)) (rwE tx L (tkS tx L (k + 2)) - tkS tx L (k + 2)) = cBt tx L (k + 2) from rfl]
  conv => whnf
  refine ⟨wt_116 hw, ?_⟩
  refine c_M_isWhole S hw hs _ ?_
  conv => whnf
  rcases cBt_or k5' with x | ⟨v, x1, x2⟩
  · have nb : isMB (tkv tx L (k + 1)) (cBt tx L (k + 2)) = false := by
      rw [x]
      exact mb_m1 (by omega)
    refine bk_t ?_ ?_
    · rw [x]
      rfl
    · conv => whnf
      exact g31 nb
  · have mo := mb_ok y.1 y.2 x1
    rw [← x2] at mo
    have wb : (decide ((2 : Int32) ≤ cBt tx L (k + 2) ∧ cBt tx L (k + 2) ≤ 8191) && irrT.testBit (cBt tx L (k + 2)).toNatClampNeg) = (decide (2 ≤ v) && irrT.testBit v) := by
      rw [x2, nI_clamp (by omega)]
      have a : ((2 : Int32) ≤ nI v) ↔ 2 ≤ v := zn_le (a := 2) (by decide) (by omega)
      have b : (nI v ≤ (8191 : Int32)) ↔ v ≤ 8191 := zn_le (b := 8191) (by omega) (by decide)
      rw [show decide ((2 : Int32) ≤ nI v ∧ nI v ≤ 8191) = decide (2 ≤ v) from decide_eq_decide.mpr (by rw [a, b]; omega)]
    rw [wb]
    refine bk_b0 (fun w => ?_) (fun w => ?_)
    · have nb : isMB (tkv tx L (k + 1)) (cBt tx L (k + 2)) = false := by
        rw [mo]
        by_cases q : 2 ≤ v
        · rw [decide_eq_true q, Bool.true_and] at w
          rw [w, Bool.and_false]
        · rw [decide_eq_false (fun p => q p.1), Bool.false_and]
      conv => whnf
      exact g31 nb
    rw [Bool.and_eq_true, decide_eq_true_iff] at w
    rw [w.2, Bool.and_true] at mo
    have lg : v.log2 < 13 := by
      rw [Nat.log2_lt (by omega)]
      exact x1
    conv => whnf
    rw [x2]
    refine c_M_degreeL S (by omega) ?_
    conv => whnf
    refine bk_eq (by omega) (by omega) (fun c => ?_) (fun c => ?_)
    rotate_left
    · conv => whnf
      rw [← x2]
      exact g31 (by rw [mo, decide_eq_false (fun p => c p.2)])
    · rw [decide_eq_true (show 2 ≤ v ∧ v.log2 = _ from ⟨w.1, c⟩)] at mo
      rw [mo] at z2
      conv => whnf
      refine ⟨wt_116 hw, ?_⟩
      conv => whnf
      rw [wr_116_19 hw]
      refine ⟨⟨(by decide), inB_of (wt_126 hw) (wn_126 hw) (show tkv tx L (k + 1) < 13 by omega) (by decide)⟩, ?_⟩
      conv => whnf
      rw [nI_clamp (by omega)]
      have fr : MNX LJ LA h (sI h 126 (tkv tx L (k + 1)) (nI v)) := MNX_A (by unfold LA; omega) (by decide)
      refine hK _ fr l3 r4 rs ⟨⟨?_, ?_, ?_, ?_⟩, lf4 _ (hI_sI_ne (by decide)), fun hz n a1 a2 => ?_⟩
      · have mb' : MSB (sI h 126 (tkv tx L (k + 1)) (nI v)) tx L l0 k := by
          refine ⟨fun q hq => (mb.1 q hq).fr fr.1 (by unfold LA SA; omega) (by unfold LA SA; omega) (by unfold LA SA; omega) (by unfold LA SA; omega), ⟨?_, ?_⟩, ?_, ?_, ?_, ?_⟩
          · rw [hI_ne (by decide)]
            exact mb.2.1.1
          · rw [hI_sI_ne (by decide)]
            exact mb.2.1.2
          · rw [hI_ne (by decide)]
            exact mb.2.2.1
          · rw [hI_ne (by decide)]
            exact mb.2.2.2.1
          · exact mb.2.2.2.2.1
          · rw [hI_sI_ne (by decide)]
            exact mb.2.2.2.2.2
        exact nx4 _ mb'
      · rw [e4]
        unfold RR
        rw [hI_ne (by decide), hI_sI_ne (by decide), hI_sI_ne (by decide), hI_sI_ne (by decide)]
        exact mr
      · exact fun y => absurd y (by omega)
      · have w2 : WR h tx L (rFL tx L l0) (fun i => i < k + 4) := me1.eq (fun i => ⟨fun q => by
          rcases (show i < k + 1 ∨ i = k + 1 ∨ i = k + 2 ∨ i = k + 3 by omega) with p | p | p | p
          · exact Or.inl p
          · exact Or.inr ⟨q, by rw [p]; exact z1⟩
          · exact Or.inr ⟨q, by rw [p]; exact z2⟩
          · exact Or.inr ⟨q, by rw [p]; exact z3⟩, fun q => by
          rcases q with q | q
          · have q : i < k + 1 := q
            omega
          · exact q.1⟩)
        unfold WR
        rw [hI_ne (by decide), hI_ne (by decide)]
        exact w2
      · rw [cMe, twv]
        by_cases q : n = tkv tx L (k + 1)
        · rw [if_pos q, q, hI_sI, x2]
        · rw [if_neg q, hI_sI_j q]
          exact dr (fun i hi => hz i (by omega)) n a1 a2
