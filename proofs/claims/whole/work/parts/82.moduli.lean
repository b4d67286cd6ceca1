/-! all that is wanted is settled; moduli changed -/
theorem c_Tower_settle {P : PSem} (S : SysOK P) {h : PH} {u : Nat → Nat} {r : Nat → Nat → Nat} (hu : MDS u) (hr : IMG u r) {n : Nat} (hn1 : 1 ≤ n) (hn : n ≤ 12) (hC : CI h u r) (hp : ∀ e, 1 ≤ e → e < n → e ∣ n → IMS h r e) (h29 : hI h 29 n = 0) {K : PK}
    (hK : ∀ h', CI h' u r → FQ h h' → hI h' 29 n = 1 → (∀ m, m ≠ n → hI h' 29 m = hI h 29 m) → K .null h') : P.1 n_Tower_settle [.ref 8, .int (nI n)] h K := by
  have hw := hC.1
  have hFn := hC.2.1 n hn1 hn
  have hm := (hu n hn1 hn).1
  refine S.2.1 _ 4 _ _ _ rfl rfl ?_
  refine S.at 60 [15] rfl ?_
  conv => whnf
  refine ⟨wt_8 hw, ?_⟩
  conv => whnf
  rw [wr_8_4 hw]
  refine ⟨Or.inr (Or.inr (Or.inr (wi_img0 hw hn1 hn))), ?_⟩
  conv => whnf
  rw [nI_clamp (by omega), wi_img hw hn1 hn]
  refine ⟨wt_8 hw, ?_⟩
  conv => whnf
  rw [wr_8_0 hw]
  refine ⟨Or.inl (wi_in9 hw hn1 hn), ?_⟩
  conv => whnf
  rw [nI_clamp (by omega), wi_fld hw hn1 hn]
  refine ⟨hFn.1, ?_⟩
  conv => whnf
  refine c_Field_x S hFn hn hm ?_
  conv => whnf
  refine ⟨⟨(show 5 ≤ 16 + n by omega), wi_im hw hn1 hn (d := n) (by omega)⟩, ?_⟩
  rw [nI_clamp (by omega)]
  conv => whnf
  obtain ⟨i1, -⟩ := hr n n hn1 hn hn1 (Nat.dvd_refl n)
  have hC1 : CI (sI h (16 + n) n (nI (xof n (u n)))) u r := CI_img hn1 hn h29 hC
  have next := l_Tow_set S hu hr hn1 hn hp h29 (K := K) (fun h' a b c => hK _ (CI_set hn1 hn c a) (FQ_tr (FQ_eqX b (fun k e hk => by unfold stS at e; unfold scr; omega)) (FQ_sI (by unfold scr; omega))) hI_sI (fun m hm => by
    rw [hI_sI_j hm, b.2.2.2.2 29 (fun q => by unfold stS at q; omega)])) (n - 1) (sI h (16 + n) n (nI (xof n (u n)))) (by omega) hC1 (eqX_sI (Or.inl rfl)) (fun d d1 d2 => by
    have := Nat.le_of_dvd hn1 d2
    have e : d = n := by omega
    subst e
    rw [hI_sI, i1 rfl])
  rw [← pk_sub (a := n) (b := 1) (by omega)] at next
  exact next
theorem l_Tow_prep {P : PSem} (S : SysOK P) {h0 : PH} {u : Nat → Nat} {r : Nat → Nat → Nat} (hu : MDS u) (hr : IMG u r) {n : Nat} (hn1 : 1 ≤ n) (hn : n ≤ 12) {K : PK}
    (hK : ∀ h', CI h' u r → FQ h0 h' → (∀ m, 1 ≤ m → m ∣ n → IMS h' r m) → K .null h') : ∀ j q h, q + j = n + 1 → 1 ≤ q → CI h u r → FQ h0 h → (∀ m, 1 ≤ m → m < q → m ∣ n → hI h 29 m = 1) →
    P.2 n_Tower_prepare 2 [some (.ref 8), some (.int (nI n)), some (.int (nI q))] [] h 0 0 K := by
  have ims : ∀ h, CI h u r → ∀ m, 1 ≤ m → m ≤ 12 → hI h 29 m = 1 → IMS h r m := fun h hC m m1 m2 e => by
    rcases hC.2.2.2.2.2 m m1 m2 with w | w
    · rw [e] at w
      exact absurd w (by decide)
    · exact w.2
  intro j
  induction j with
  | zero =>
    intro q h hq hq1 hC hf hs
    refine S.at 60 [] rfl ?_
    conv => whnf
    refine bk_t ((zn_lt (by omega) (by omega)).mpr (by omega)) ?_
    conv => whnf
    exact hK h hC hf (fun m m1 m2 => by
      have := Nat.le_of_dvd hn1 m2
      exact ims h hC m m1 (by omega) (hs m m1 (by omega) m2))
  | succ j ih =>
    intro q h hq hq1 hC hf hs
    have hw := hC.1
    have n20 : ∀ h', CI h' u r → FQ h0 h' → (∀ m, 1 ≤ m → m < q + 1 → m ∣ n → hI h' 29 m = 1) → P.2 n_Tower_prepare 20 [some (.ref 8), some (.int (nI n)), some (.int (nI q))] [] h' 0 0 K := by
      intro h' a b c
      have next := ih (q + 1) h' (by omega) (by omega) a b c
      rw [← nI_1] at next
      refine S.at 10 [] rfl ?_
      conv => whnf
      exact next
    refine S.at 60 [20] rfl ?_
    conv => whnf
    refine bk_f (fun c => absurd ((zn_lt (by omega) (by omega)).mp c) (by omega)) ?_
    conv => whnf
    refine bk_f (fun c => absurd ((zn_lt (a := 12) (by omega) (by omega)).mp c) (by omega)) ?_
    conv => whnf
    refine c_FT_divides S (by omega) (by omega) ?_
    conv => whnf
    refine bk_b0 (fun c => ?_) (fun c => ?_)
    · have c := of_decide_eq_false c
      conv => whnf
      exact n20 h hC hf (fun m m1 m2 m3 => by
        rcases Nat.eq_or_lt_of_le (Nat.le_of_lt_succ m2) with w | w
        · subst w
          exact absurd ⟨by omega, Nat.mod_eq_zero_of_dvd m3⟩ c
        · exact hs m m1 w m3)
    · have c := of_decide_eq_true c
      have hdv := Nat.dvd_of_mod_eq_zero c.2
      conv => whnf
      refine ⟨wt_8 hw, ?_⟩
      conv => whnf
      rw [wr_8_5 hw]
      refine ⟨Or.inr (inB_of (wt_29 hw) (wn_29 hw) (by omega) (by decide)), ?_⟩
      rw [nI_clamp (by omega)]
      rcases hC.2.2.2.2.2 q hq1 (by omega) with w | w
      · rw [w]
        refine bk_nf (rfl) ?_
        conv => whnf
        refine ⟨wt_8 hw, ?_⟩
        conv => whnf
        refine c_Tower_settle S hu hr hq1 (by omega) hC (fun e e1 e2 e3 => ims h hC e e1 (by omega) (hs e e1 e2 (Nat.dvd_trans e3 hdv))) w (fun h' a b c d => ?_)
        conv => whnf
        exact n20 h' a (FQ_tr hf b) (fun m m1 m2 m3 => by
          rcases Nat.eq_or_lt_of_le (Nat.le_of_lt_succ m2) with w | w
          · subst w
            exact c
          · rw [d m (by omega)]
            exact hs m m1 w m3)
      · rw [w.1]
        refine bk_nt ((by decide)) ?_
        conv => whnf
        exact n20 h hC hf (fun m m1 m2 m3 => by
          rcases Nat.eq_or_lt_of_le (Nat.le_of_lt_succ m2) with z | z
          · subst z
            exact w.1
          · exact hs m m1 z m3)
theorem c_Tower_prepare {P : PSem} (S : SysOK P) {h : PH} {u : Nat → Nat} {r : Nat → Nat → Nat} (hu : MDS u) (hr : IMG u r) {n : Nat} (hn1 : 1 ≤ n) (hn : n ≤ 12) (hC : CI h u r) {K : PK}
    (hK : ∀ h', CI h' u r → FQ h h' → (∀ m, 1 ≤ m → m ∣ n → IMS h' r m) → K .null h') : P.1 n_Tower_prepare [.ref 8, .int (nI n)] h K := by
  refine S.2.1 _ 3 _ _ _ rfl rfl ?_
  refine S.at 2 [] rfl ?_
  conv => whnf
  exact l_Tow_prep S hu hr hn1 hn hK n 1 h (by omega) (Nat.le_refl 1) hC (FQ_rf h) (fun m m1 m2 => by omega)
/-! moduli -/
def CI0 (h : PH) (u : Nat → Nat) : Prop := WS h ∧ CF h u ∧ CY h u ∧ CL h u ∧ CS h u
theorem CI.i0 {h : PH} {u : Nat → Nat} {r : Nat → Nat → Nat} (hC : CI h u r) : CI0 h u := ⟨hC.1, hC.2.1, hC.2.2.1, hC.2.2.2.1, hC.2.2.2.2.1⟩
theorem CI0.ci {h : PH} {u : Nat → Nat} {r : Nat → Nat → Nat} (hC : CI0 h u) (hm : CM h r) : CI h u r := ⟨hC.1, hC.2.1, hC.2.2.1, hC.2.2.2.1, hC.2.2.2.2, hm⟩
/-- cells of the tower -/
def twr (k : Nat) : Prop := scr k ∨ (31 ≤ k ∧ k ≤ 78)
def FW (h h' : PH) : Prop := (∀ k, k < 149 → ¬ twr k → hI h' k = hI h k ∧ hL h' k = hL h k ∧ hR h' k = hR h k) ∧ hE h ≤ hE h' ∧ h'.1 1 = h.1 1
theorem FW_rf (h : PH) : FW h h := ⟨fun _ _ _ => ⟨rfl, rfl, rfl⟩, Nat.le_refl _, rfl⟩
theorem FW_tr {h1 h2 h3 : PH} (a : FW h1 h2) (b : FW h2 h3) : FW h1 h3 := ⟨fun k h1 h2 => by
  obtain ⟨a1, a2, a3⟩ := a.1 k h1 h2
  obtain ⟨b1, b2, b3⟩ := b.1 k h1 h2
  exact ⟨b1.trans a1, b2.trans a2, b3.trans a3⟩, Nat.le_trans a.2.1 b.2.1, b.2.2.trans a.2.2⟩
theorem FQ.w {h h' : PH} (a : FQ h h') : FW h h' := ⟨fun k h1 h2 => a.1 k h1 (fun q => h2 (Or.inl q)), a.2⟩
theorem FW_eqX {A : Nat → Prop} {h h' : PH} (e : eqX A h h') (hA : ∀ k, A k → k < 149 → twr k) : FW h h' := ⟨fun k h1 h2 => ⟨e.2.2.2.2 k (fun q => h2 (hA k q h1)), by rw [e.2.2.1], by rw [e.2.1]⟩, by rw [e.2.2.2.1]; exact Nat.le_refl _, by rw [e.1]⟩
def updM (u : Nat → Nat) (n p : Nat) : Nat → Nat := fun k => if k = n then p else u k
theorem c_Cycle_forget {P : PSem} (S : SysOK P) {h : PH} {k : Nat} (ht : hT h k = 3) {K : PK} (hK : K .null (sI (sI h k 2 0) k 3 0)) : P.1 n_Cycle_forget [.ref k] h K := by
  refine S.go 20 rfl rfl rfl ?_
  conv => whnf
  refine ⟨ht, ?_⟩
  conv => whnf
  refine ⟨⟨ht, Or.inl rfl⟩, ?_⟩
  conv => whnf
  exact hK
theorem c_Space_forget {P : PSem} (S : SysOK P) {h : PH} {k : Nat} (ht : hT h k = 4) {K : PK} (hK : K .null (sI (sI h k 2 0) k 3 0)) : P.1 n_Space_forget [.ref k] h K := by
  refine S.go 20 rfl rfl rfl ?_
  conv => whnf
  refine ⟨ht, ?_⟩
  conv => whnf
  refine ⟨ht, ?_⟩
  conv => whnf
  exact hK
theorem l_Tow_sm {P : PSem} (S : SysOK P) {h0 : PH} (hw0 : WS h0) {n : Nat} (hn1 : 1 ≤ n) (hn : n ≤ 12) {K : PK}
    (hK : ∀ h', eqX (fun k => k = 29) h0 h' → (∀ m, m ≤ 12 → (n ∣ m → 1 ≤ m → hI h' 29 m = 0) ∧ (¬ n ∣ m → hI h' 29 m = hI h0 29 m)) → K .null h') : ∀ j q h, 13 ≤ q * n + j → 1 ≤ q → q ≤ 13 → eqX (fun k => k = 29) h0 h → (∀ m, m ≤ 12 → (n ∣ m → 1 ≤ m → m < q * n → hI h 29 m = 0) ∧ (¬ n ∣ m → hI h 29 m = hI h0 29 m)) →
    P.2 n_Tower_setModulus 22 [some (.ref 8), some (.int (nI n)), none, some (.int (nI (q * n)))] [] h 0 0 K := by
  intro j
  induction j with
  | zero =>
    intro q h hj hq1 hq2 he hs
    have hqn : q * n ≤ 13 * 12 := Nat.mul_le_mul hq2 hn
    refine S.at 60 [] rfl ?_
    conv => whnf
    refine bk_t ((zn_lt (a := 12) (by omega) (by omega)).mpr (by omega)) ?_
    conv => whnf
    exact hK h he (fun m m1 => ⟨fun a b => (hs m m1).1 a b (by omega), (hs m m1).2⟩)
  | succ j ih =>
    intro q h hj hq1 hq2 he hs
    have hqn : q * n ≤ 13 * 12 := Nat.mul_le_mul hq2 hn
    have hw := eqX_WS he hw0
    refine S.at 60 [] rfl ?_
    conv => whnf
    refine bk_lt (a := 12) (by decide) (by omega) (fun c => ?_) (fun c => ?_)
    · conv => whnf
      exact hK h he (fun m m1 => ⟨fun a b => (hs m m1).1 a b (by omega), (hs m m1).2⟩)
    · conv => whnf
      refine ⟨wt_8 hw, ?_⟩
      conv => whnf
      rw [wr_8_5 hw]
      refine ⟨Or.inr (inB_of (wt_29 hw) (wn_29 hw) (by omega) (by decide)), ?_⟩
      rw [nI_clamp (by omega), wt_29 hw]
      conv => whnf
      have hq12 : q ≤ 12 := by
        rcases Nat.lt_or_ge 12 q with z | z
        · have : 13 * 1 ≤ q * n := Nat.mul_le_mul z hn1
          omega
        · exact z
      have next := ih (q + 1) (sI h 29 (q * n) 0) (by rw [Nat.succ_mul]; omega) (by omega) (by omega) (eqX_tr he (eqX_sI rfl)) (fun m m1 => by
        by_cases e : m = q * n
        · subst e
          exact ⟨fun _ _ _ => hI_sI, fun z => absurd (Nat.dvd_mul_left n q) z⟩
        · rw [hI_sI_j e]
          refine ⟨fun a b d => (hs m m1).1 a b ?_, (hs m m1).2⟩
          obtain ⟨t, rfl⟩ := a
          rw [Nat.mul_comm n t] at d e ⊢
          have hlt : t < q + 1 := Nat.lt_of_mul_lt_mul_right d
          rcases Nat.eq_or_lt_of_le (Nat.le_of_lt_succ hlt) with w | w
          · rw [w] at e
            exact absurd rfl e
          · exact Nat.mul_lt_mul_of_pos_right w hn1)
      rw [Nat.succ_mul, zn_plus] at next
      exact next
theorem c_Tower_setModulus {P : PSem} (S : SysOK P) {h : PH} {u : Nat → Nat} {n p : Nat} (hn1 : 1 ≤ n) (hn : n ≤ 12) (hC : CI0 h u) {K : PK}
    (hK : ∀ h', CI0 h' (updM u n p) → FW h h' → (∀ m, 1 ≤ m → m ≤ 12 → (n ∣ m → hI h' 29 m = 0) ∧ (¬ n ∣ m → hI h' 29 m = hI h 29 m) ∧ hI h' (16 + m) = hI h (16 + m)) → K .null h') : P.1 n_Tower_setModulus [.ref 8, .int (nI n), .int (nI p)] h K := by
  have hw := hC.1
  have hFn := hC.2.1 n hn1 hn
  have hok : okF (nI n) = true := by
    unfold okF
    rw [decide_eq_true_eq]
    exact ⟨(zn_le (a := 1) (by decide) (by omega)).mpr hn1, (zn_le (b := 12) (by omega) (by decide)).mpr hn⟩
  refine S.2.1 _ 4 _ _ _ rfl rfl ?_
  refine S.at 60 [22] rfl ?_
  conv => whnf
  refine c_FT_isField S _ ?_
  conv => whnf
  rw [hok]
  refine bk_nt ((by decide)) ?_
  conv => whnf
  refine ⟨wt_8 hw, ?_⟩
  conv => whnf
  rw [wr_8_0 hw]
  refine ⟨Or.inl (wi_in9 hw hn1 hn), ?_⟩
  conv => whnf
  rw [nI_clamp (by omega), wi_fld hw hn1 hn]
  refine ⟨hFn.1, ?_⟩
  conv => whnf
  refine ⟨wt_8 hw, ?_⟩
  conv => whnf
  rw [hR_sI, wr_8_1 hw]
  refine ⟨Or.inr (Or.inl (wi_in10 (h := sI h _ _ _) hw hn1 hn)), ?_⟩
  conv => whnf
  rw [nI_clamp (by omega), wi_cyc hw hn1 hn]
  refine ⟨wi_yT hw hn1 hn, ?_⟩
  conv => whnf
  refine c_Cycle_forget S (h := sI h _ _ _) (wi_yT hw hn1 hn) ?_
  conv => whnf
  refine ⟨wt_8 hw, ?_⟩
  conv => whnf
  rw [hR_sI, hR_sI, hR_sI, wr_8_2 hw]
  refine ⟨Or.inr (Or.inr (Or.inl (wi_in11 (h := sI (sI (sI h _ _ _) _ _ _) _ _ _) hw hn1 hn))), ?_⟩
  conv => whnf
  rw [nI_clamp (by omega), wi_spc hw hn1 hn]
  refine ⟨wi_sT hw hn1 hn, ?_⟩
  conv => whnf
  refine c_Space_forget S (h := sI (sI (sI h _ _ _) _ _ _) _ _ _) (wi_sT hw hn1 hn) ?_
  conv => whnf
  refine S.mk [(0,1),(0,1),(0,0),(0,1)] ?_
  have next := l_Tow_sm S (h0 := sI (sI (sI (sI (sI h (27 + 4 * n) 2 (nI p)) (29 + 4 * n) 2 0) (29 + 4 * n) 3 0) (30 + 4 * n) 2 0) (30 + 4 * n) 3 0) hw hn1 hn (K := K) (fun h' he hs => ?_) 13 1 _ (by omega) (Nat.le_refl 1) (by omega) (eqX_rf _ _) (fun m m1 => ⟨fun a b c => by
      have := Nat.le_of_dvd b a
      omega, fun _ => rfl⟩)
  · rw [Nat.one_mul] at next
    exact next
  · have hi : ∀ k, k ≠ 29 → k ≠ 27 + 4 * n → k ≠ 29 + 4 * n → k ≠ 30 + 4 * n → hI h' k = hI h k := fun k a b c d => by
      rw [he.2.2.2.2 k a, hI_sI_ne d, hI_sI_ne d, hI_sI_ne c, hI_sI_ne c, hI_sI_ne b]
    have ec : hI h' (29 + 4 * n) 1 = hI h (29 + 4 * n) 1 ∧ hI h' (29 + 4 * n) 2 = 0 ∧ hI h' (29 + 4 * n) 3 = 0 := by
      rw [he.2.2.2.2 _ (by omega), hI_sI_ne (by omega), hI_sI_ne (by omega)]
      refine ⟨?_, ?_, hI_sI⟩
      · rw [hI_sI_j (by decide), hI_sI_j (by decide), hI_sI_ne (by omega)]
      · rw [hI_sI_j (by decide), hI_sI]
    have es : hI h' (30 + 4 * n) 2 = 0 ∧ hI h' (30 + 4 * n) 3 = 0 := by
      rw [he.2.2.2.2 _ (by omega)]
      refine ⟨?_, hI_sI⟩
      rw [hI_sI_j (by decide), hI_sI]
    have ef : hI h' (27 + 4 * n) 0 = hI h (27 + 4 * n) 0 ∧ hI h' (27 + 4 * n) 1 = hI h (27 + 4 * n) 1 ∧ hI h' (27 + 4 * n) 2 = nI p := by
      rw [he.2.2.2.2 _ (by omega), hI_sI_ne (by omega), hI_sI_ne (by omega), hI_sI_ne (by omega), hI_sI_ne (by omega)]
      exact ⟨hI_sI_j (by decide), hI_sI_j (by decide), hI_sI⟩
    have eT : ∀ k, hT h' k = hT h k := fun k => eqX_T he k
    have eN : ∀ k, hN h' k = hN h k := fun k => eqX_N he k
    have eR : hR h' = hR h := he.2.1
    have eE : hE h' = hE h := he.2.2.2.1
    obtain ⟨c1, c2, c3, c4, c5⟩ := hC
    refine hK h' ⟨eqX_WS he c1, fun k a b => ?_, fun k a b => ?_, ⟨fun k a b => ?_, ?_⟩, fun k a b => ?_⟩ ?_ (fun m m1 m2 => ?_)
    · obtain ⟨f1, f2, f3, f4⟩ := c2 k a b
      by_cases e : k = n
      · subst e
        rw [show updM u k p k = p from if_pos rfl]
        exact ⟨by rw [eT]; exact f1, by rw [ef.1]; exact f2, by rw [ef.2.1]; exact f3, ef.2.2⟩
      · rw [show updM u n p k = u k from if_neg e]
        have := hi (27 + 4 * k) (by omega) (by omega) (by omega) (by omega)
        exact ⟨by rw [eT]; exact f1, by rw [this]; exact f2, by rw [this]; exact f3, by rw [this]; exact f4⟩
    · by_cases e : k = n
      · subst e
        exact ⟨by rw [ec.1]; exact (c3 k a b).1, Or.inl ec.2.1⟩
      · rw [show updM u n p k = u k from if_neg e, hi (29 + 4 * k) (by omega) (by omega) (by omega) (by omega)]
        exact c3 k a b
    · rw [eR, eE, eT, eN]
      obtain ⟨g1, g2⟩ := c4.1 k a b
      refine ⟨g1, ?_⟩
      by_cases e : k = n
      · subst e
        exact Or.inl ec.2.2
      · rw [show updM u n p k = u k from if_neg e, hi (29 + 4 * k) (by omega) (by omega) (by omega) (by omega)]
        rcases g2 with g2 | ⟨g2, g3, g4⟩
        · exact Or.inl g2
        · refine Or.inr ⟨g2, g3, ?_⟩
          rcases g1 with g1 | g1
          · exact absurd g1 g3
          · rw [hi _ (by omega) (by omega) (by omega) (by omega)]
            exact g4
    · rw [eR]
      exact c4.2
    · by_cases e : k = n
      · subst e
        exact ⟨Or.inl es.1, Or.inl es.2⟩
      · rw [show updM u n p k = u k from if_neg e, hi (30 + 4 * k) (by omega) (by omega) (by omega) (by omega)]
        exact c5 k a b
    · refine ⟨fun k a b => ⟨hi k (fun e => b ?_) (fun e => b ?_) (fun e => b ?_) (fun e => b ?_), by rw [he.2.2.1]; rfl, by rw [eR]⟩, by rw [eE]; exact Nat.le_refl _, by rw [he.1]; rfl⟩ <;> (unfold twr scr; omega)
    · obtain ⟨s1, s2⟩ := hs m m2
      refine ⟨fun a => s1 a m1, fun a => ?_, hi _ (by omega) (by omega) (by omega) (by omega)⟩
      rw [s2 a, hI_sI_ne (by omega), hI_sI_ne (by omega), hI_sI_ne (by omega), hI_sI_ne (by omega), hI_sI_ne (by omega)]
