/-! images worked out -/
theorem root_pw {d p n m g a : Nat} (hP : GF d p) (hG : GF n m) (hg : prim n m g) (hd2 : 2 ≤ d) (hd : d ∣ n) (ha : root n m p a) : ∃ j, j < 2 ^ d - 1 ∧ fpw n m (fpw n m g ((2 ^ n - 1) / (2 ^ d - 1))) j = a := by
  have hm := hG.1.1
  have h4 : 2 < 2 ^ d := Nat.lt_of_lt_of_le (by decide : 2 < 2 ^ 2) (pow_le hd2)
  have e1 := pvl_x hm ha.1
  have a0 : a ≠ 0 := by
    intro z
    have := hom_inj hP.1 hm ha (a := 2) (b := 0) h4 (Nat.two_pow_pos d) (by rw [e1, pvl_0, z])
    cases this
  have hf := img_fix hP hm ha h4
  rw [e1] at hf
  obtain ⟨j, j1, j2⟩ := fix_log hG hg hd (by omega) ha.1 a0 hf
  refine ⟨j, j1, ?_⟩
  rw [← fpw_mul hm hg.1, ← j2]
  exact (lgF_ok hG.1 hg ha.1 a0).2
theorem l_Tow_li {P : PSem} (S : SysOK P) {h : PH} (hw : WS h) {u : Nat → Nat} {r : Nat → Nat → Nat} (hu : MDS u) (hr : IMG u r) {n d s : Nat} (hn1 : 1 ≤ n) (hn : n ≤ 12) (hd1 : 1 ≤ d) (hd : d ∣ n) (hdn : d < n) (hF : ∀ n, 1 ≤ n → n ≤ 12 → FOK h (27 + 4 * n) n (u n)) (hp : ∀ e, 1 ≤ e → e < n → e ∣ n → IMS h r e) (hq : ∀ e, d < e → e < n → e ∣ n → hI h (16 + n) e = nI (r e n)) (hs : s < 2 ^ n) {K : PK}
    (hK : ∀ L, L ≤ 2 ^ n → (L = 2 ^ n ∨ (L < 2 ^ n ∧ pvl n (u n) L (u d) = 0 ∧ AGR u r d n L)) → (∀ i, i < 2 ^ d - 1 → pvl n (u n) (fpw n (u n) s i) (u d) = 0 → AGR u r d n (fpw n (u n) s i) → L ≤ fpw n (u n) s i) → K (.int (nI L)) h) : ∀ j q L, q + j = 2 ^ d - 1 → L ≤ 2 ^ n → (L = 2 ^ n ∨ (L < 2 ^ n ∧ pvl n (u n) L (u d) = 0 ∧ AGR u r d n L)) → (∀ i, i < q → pvl n (u n) (fpw n (u n) s i) (u d) = 0 → AGR u r d n (fpw n (u n) s i) → L ≤ fpw n (u n) s i) →
    P.2 n_Tower_leastImage 40 [some (.ref 8), some (.int (nI d)), some (.int (nI n)), none, some (.int (nI (2 ^ d - 1))), some (.int (nI s)), some (.int (nI L)), some (.int (nI (fpw n (u n) s q))), some (.int (nI q))] [] h 0 0 K := by
  have h12 := pow12 hn
  have hd12 : (2 : Nat) ^ d ≤ 4096 := pow12 (by omega)
  have hm := (hu n hn1 hn).1
  have hFn := hF n hn1 hn
  have hFd := hF d hd1 (by omega)
  have hud := MOD_lt (by omega : d ≤ 12) (hu d hd1 (by omega)).1
  intro j
  induction j with
  | zero =>
    intro q L hq0 hL h1 h2
    refine S.at 60 [] rfl ?_
    conv => whnf
    refine bk_t ((zn_le (by omega) (by omega)).mpr (by omega)) ?_
    conv => whnf
    exact hK L hL h1 (fun i hi => h2 i (by omega))
  | succ j ih =>
    intro q L hq0 hL h1 h2
    have hp2 := fpw_lt hm hs q
    have n66 : ∀ L', L' ≤ 2 ^ n → (L' = 2 ^ n ∨ (L' < 2 ^ n ∧ pvl n (u n) L' (u d) = 0 ∧ AGR u r d n L')) → (∀ i, i < q + 1 → pvl n (u n) (fpw n (u n) s i) (u d) = 0 → AGR u r d n (fpw n (u n) s i) → L' ≤ fpw n (u n) s i) → P.2 n_Tower_leastImage 66 [some (.ref 8), some (.int (nI d)), some (.int (nI n)), none, some (.int (nI (2 ^ d - 1))), some (.int (nI s)), some (.int (nI L')), some (.int (nI (fpw n (u n) s q))), some (.int (nI q))] [] h 0 0 K := by
      intro L' a b c
      refine S.at 60 [] rfl ?_
      conv => whnf
      refine ⟨wt_8 hw, ?_⟩
      conv => whnf
      rw [wr_8_0 hw]
      refine ⟨Or.inl (wi_in9 hw hn1 hn), ?_⟩
      conv => whnf
      rw [nI_clamp (by omega), wi_fld hw hn1 hn]
      refine ⟨hFn.1, ?_⟩
      conv => whnf
      refine c_Field_times S hFn hn hm hp2 hs ?_
      conv => whnf
      have next := ih (q + 1) L' (by omega) a b c
      rw [← nI_1] at next
      exact next
    refine S.at 60 [66] rfl ?_
    conv => whnf
    refine bk_f (fun c => absurd ((zn_le (by omega) (by omega)).mp c) (by omega)) ?_
    conv => whnf
    refine bk_le (by omega) (by omega) (fun c => ?_) (fun c => ?_)
    · conv => whnf
      exact n66 L hL h1 (fun i hi e1 e2 => by
        rcases Nat.eq_or_lt_of_le (Nat.le_of_lt_succ hi) with w | w
        · subst w
          exact c
        · exact h2 i w e1 e2)
    · conv => whnf
      refine ⟨wt_8 hw, ?_⟩
      conv => whnf
      rw [wr_8_0 hw]
      refine ⟨Or.inl (wi_in9 hw hn1 hn), ?_⟩
      conv => whnf
      rw [nI_clamp (by omega), wi_fld hw hn1 hn]
      refine ⟨wt_8 hw, ?_⟩
      conv => whnf
      rw [wr_8_0 hw]
      refine ⟨Or.inl (wi_in9 hw hd1 (by omega)), ?_⟩
      conv => whnf
      rw [nI_clamp (show d < 2 ^ 31 by omega), wi_fld hw (n := d) hd1 (by omega)]
      refine ⟨hFd.1, ?_⟩
      conv => whnf
      rw [hFd.2.2.2]
      refine ⟨hFn.1, ?_⟩
      conv => whnf
      refine c_Field_valueAt S hFn hn hm hp2 hud.2 ?_
      conv => whnf
      have hv := pvl_lt hm hp2 (p := u d)
      refine bk_ne (b := 0) (by omega) (by decide) (fun c2 => ?_) (fun c2 => ?_)
      · conv => whnf
        exact n66 L hL h1 (fun i hi e1 e2 => by
          rcases Nat.eq_or_lt_of_le (Nat.le_of_lt_succ hi) with w | w
          · subst w
            exact absurd e1 c2
          · exact h2 i w e1 e2)
      · conv => whnf
        refine ⟨wt_8 hw, ?_⟩
        conv => whnf
        refine c_Tower_agrees S hw hu hr hn1 hn hd1 hd hdn hFn ⟨hp2, c2⟩ hp hq (fun ag => ?_) (fun ag => ?_)
        · conv => whnf
          refine bk_f ((by decide)) ?_
          conv => whnf
          exact n66 (fpw n (u n) s q) (by omega) (Or.inr ⟨hp2, c2, ag⟩) (fun i hi e1 e2 => by
            rcases Nat.eq_or_lt_of_le (Nat.le_of_lt_succ hi) with w | w
            · subst w
              exact Nat.le_refl _
            · exact Nat.le_trans (Nat.le_of_lt c) (h2 i w e1 e2))
        · conv => whnf
          refine bk_t (rfl) ?_
          conv => whnf
          exact n66 L hL h1 (fun i hi e1 e2 => by
            rcases Nat.eq_or_lt_of_le (Nat.le_of_lt_succ hi) with w | w
            · subst w
              exact absurd e2 ag
            · exact h2 i w e1 e2)
theorem c_Tower_leastImage {P : PSem} (S : SysOK P) {h : PH} (hw : WS h) {u : Nat → Nat} {r : Nat → Nat → Nat} (hu : MDS u) (hr : IMG u r) {n d : Nat} (hn1 : 1 ≤ n) (hn : n ≤ 12) (hd2 : 2 ≤ d) (hd : d ∣ n) (hdn : d < n) (hg : gbw d n = 0) (hF : ∀ n, 1 ≤ n → n ≤ 12 → FOK h (27 + 4 * n) n (u n)) (hp : ∀ e, 1 ≤ e → e < n → e ∣ n → IMS h r e) (hq : ∀ e, d < e → e < n → e ∣ n → hI h (16 + n) e = nI (r e n)) {K : PK}
    (hK : K (.int (nI (r d n))) h) : P.1 n_Tower_leastImage [.ref 8, .int (nI d), .int (nI n), .int (nI (lpF n (u n)))] h K := by
  have h12 := pow12 hn
  have hd12 : (2 : Nat) ^ d ≤ 4096 := pow12 (by omega)
  have h4 : 4 ≤ 2 ^ d := pow_le (i := 2) hd2
  have h2n := two_pow_ge2 hn1
  have hFn := hF n hn1 hn
  have hFd := hF d (by omega) (by omega)
  have hM := hu n hn1 hn
  have hm := hM.1
  have hG := all_GF hn hM
  have hGd := all_GF (by omega : d ≤ 12) (hu d (by omega) (by omega))
  have hpr := lpF_prim hn hM
  obtain ⟨-, -, hl⟩ := hr n d hn1 hn (by omega) hd
  have hl := hl hdn hg
  obtain ⟨⟨l1, l2, l3⟩, l4⟩ := hl
  refine S.2.1 _ 9 _ _ _ rfl rfl ?_
  refine S.at 60 [40] rfl ?_
  conv => whnf
  refine ⟨wt_8 hw, ?_⟩
  conv => whnf
  rw [wr_8_0 hw]
  refine ⟨Or.inl (wi_in9 hw (n := d) (by omega) (by omega)), ?_⟩
  conv => whnf
  rw [nI_clamp (by omega), wi_fld hw (n := d) (by omega) (by omega)]
  refine ⟨hFd.1, ?_⟩
  conv => whnf
  rw [hFd.2.2.1]
  have e1 : nI (2 ^ d) - 1 = nI (2 ^ d - 1) := pk_sub (b := 1) (by omega)
  have e1' : (fun x y : Int32 => x - y) (nI (2 ^ d)) 1 = nI (2 ^ d - 1) := e1
  rw [e1']
  refine bk_t ((zn_le (a := 1) (by omega) (by omega)).mpr (by omega)) ?_
  conv => whnf
  refine ⟨wt_8 hw, ?_⟩
  conv => whnf
  rw [wr_8_0 hw]
  refine ⟨Or.inl (wi_in9 hw hn1 hn), ?_⟩
  conv => whnf
  rw [nI_clamp (show n < 2 ^ 31 by omega), wi_fld hw hn1 hn]
  refine ⟨wt_8 hw, ?_⟩
  conv => whnf
  rw [wr_8_0 hw]
  refine ⟨Or.inl (wi_in9 hw hn1 hn), ?_⟩
  conv => whnf
  rw [nI_clamp (show n < 2 ^ 31 by omega), wi_fld hw hn1 hn]
  refine ⟨hFn.1, ?_⟩
  conv => whnf
  rw [hFn.2.2.1]
  refine ⟨nI_ne0 (by omega) (by omega), ?_⟩
  conv => whnf
  have e2 : ((nI (2 ^ n) - 1) / nI (2 ^ d - 1)).toInt64 = lN ((2 ^ n - 1) / (2 ^ d - 1)) := by
    rw [show nI (2 ^ n) - 1 = nI (2 ^ n - 1) from pk_sub (b := 1) (by omega), pk_div (by omega) (by omega) (by omega)]
    exact nI_l (Nat.lt_of_le_of_lt (Nat.div_le_self _ _) (by omega))
  refine ⟨hFn.1, ?_⟩
  refine p1c (congrArg (fun z => [Value.ref (27 + 4 * n), Value.int (nI (lpF n (u n))), Value.long z]) e2) ?_
  have hle : (2 ^ n - 1) / (2 ^ d - 1) ≤ 2 ^ n - 1 := Nat.div_le_self _ _
  refine c_Field_toThe S hFn hn hm hpr.1 (by omega) ?_
  conv => whnf
  refine ⟨wt_8 hw, ?_⟩
  conv => whnf
  rw [wr_8_0 hw]
  refine ⟨Or.inl (wi_in9 hw hn1 hn), ?_⟩
  conv => whnf
  rw [nI_clamp (show n < 2 ^ 31 by omega), wi_fld hw hn1 hn]
  refine ⟨hFn.1, ?_⟩
  conv => whnf
  rw [hFn.2.2.1]
  refine S.mk [(0,1),(0,1),(0,1),(0,0),(0,1),(0,1),(0,1),(0,1),(0,1)] ?_
  refine l_Tow_li S hw hu hr hn1 hn (by omega) hd hdn hF hp hq (fpw_lt hm hpr.1 _) (fun L a b c => ?_) (2 ^ d - 1) 0 (2 ^ n) (by omega) (Nat.le_refl _) (Or.inl rfl) (fun i hi => by omega)
  obtain ⟨j, j1, j2⟩ := root_pw hGd hG hpr hd2 hd ⟨l1, l2⟩
  have hle2 := c j j1 (by rw [j2]; exact l2) (by rw [j2]; exact l3)
  rw [j2] at hle2
  have e : L = r d n := by
    rcases b with b | b
    · omega
    · rcases Nat.eq_or_lt_of_le hle2 with w | w
      · exact w
      · exact absurd b (l4 L w)
  rw [e]
  exact hK
theorem CI_img {h : PH} {u : Nat → Nat} {r : Nat → Nat → Nat} {n j : Nat} {v : Int32} (hn1 : 1 ≤ n) (hn : n ≤ 12) (h0 : hI h 29 n = 0) (hC : CI h u r) : CI (sI h (16 + n) j v) u r := by
  obtain ⟨c1, c2, c3, c4, c5, c6⟩ := hC
  refine ⟨c1, fun k a b => ?_, fun k a b => ?_, ⟨fun k a b => ?_, c4.2⟩, fun k a b => ?_, fun k a b => ?_⟩
  · exact eqX_FOK (A := fun q => q = 16 + n) (eqX_sI rfl) (by omega) (c2 k a b)
  · rw [hI_sI_ne (by omega)]
    exact c3 k a b
  · obtain ⟨g1, g2⟩ := c4.1 k a b
    refine ⟨g1, ?_⟩
    rw [hI_sI_ne (by omega)]
    rcases g2 with g2 | ⟨g2, g3, g4⟩
    · exact Or.inl g2
    · refine Or.inr ⟨g2, g3, ?_⟩
      rcases g1 with g1 | g1
      · exact absurd g1 g3
      · rw [hR_sI, hI_sI_ne (by omega)]
        exact g4
  · rw [hI_sI_ne (by omega)]
    exact c5 k a b
  · rw [hI_sI_ne (by omega)]
    by_cases e : k = n
    · subst e
      exact Or.inl h0
    · rw [hI_sI_ne (by omega)]
      exact c6 k a b
theorem CI_set {h : PH} {u : Nat → Nat} {r : Nat → Nat → Nat} {n : Nat} (hn1 : 1 ≤ n) (hn : n ≤ 12) (hi : IMS h r n) (hC : CI h u r) : CI (sI h 29 n 1) u r := by
  obtain ⟨c1, c2, c3, c4, c5, c6⟩ := hC
  refine ⟨c1, fun k a b => ?_, fun k a b => ?_, ⟨fun k a b => ?_, c4.2⟩, fun k a b => ?_, fun k a b => ?_⟩
  · exact eqX_FOK (A := fun q => q = 29) (eqX_sI rfl) (by omega) (c2 k a b)
  · rw [hI_sI_ne (by omega)]
    exact c3 k a b
  · obtain ⟨g1, g2⟩ := c4.1 k a b
    refine ⟨g1, ?_⟩
    rw [hI_sI_ne (by omega)]
    rcases g2 with g2 | ⟨g2, g3, g4⟩
    · exact Or.inl g2
    · refine Or.inr ⟨g2, g3, ?_⟩
      rcases g1 with g1 | g1
      · exact absurd g1 g3
      · rw [hR_sI, hI_sI_ne (by omega)]
        exact g4
  · rw [hI_sI_ne (by omega)]
    exact c5 k a b
  · rw [hI_sI_ne (show 16 + k ≠ 29 by omega)]
    by_cases e : k = n
    · subst e
      exact Or.inr ⟨hI_sI, hi⟩
    · rw [hI_sI_j e]
      exact c6 k a b
def stS (n k : Nat) : Prop := k = 16 + n ∨ k = 29 + 4 * n
theorem l_Tow_set {P : PSem} (S : SysOK P) {h0 : PH} {u : Nat → Nat} {r : Nat → Nat → Nat} (hu : MDS u) (hr : IMG u r) {n : Nat} (hn1 : 1 ≤ n) (hn : n ≤ 12) (hp0 : ∀ e, 1 ≤ e → e < n → e ∣ n → IMS h0 r e) (h29 : hI h0 29 n = 0) {K : PK}
    (hK : ∀ h', CI h' u r → eqX (stS n) h0 h' → IMS h' r n → K .null (sI h' 29 n 1)) : ∀ j h, j < n → CI h u r → eqX (stS n) h0 h → (∀ d, j < d → d ∣ n → hI h (16 + n) d = nI (r d n)) →
    P.2 n_Tower_settle 15 [some (.ref 8), some (.int (nI n)), some (.int (nI j)), none] [] h 0 0 K := by
  have h12 := pow12 hn
  intro j
  induction j with
  | zero =>
    intro h hj hC he hd
    have hw := hC.1
    refine S.at 60 [] rfl ?_
    conv => whnf
    refine bk_t ((zn_lt (b := 1) (by omega) (by omega)).mpr (by omega)) ?_
    conv => whnf
    refine ⟨wt_8 hw, ?_⟩
    conv => whnf
    rw [wr_8_5 hw]
    refine ⟨Or.inr (inB_of (wt_29 hw) (wn_29 hw) (by omega) (by decide)), ?_⟩
    rw [nI_clamp (by omega), wt_29 hw]
    exact hK h hC he (fun d d1 d2 => hd d (by omega) d2)
  | succ j ih =>
    intro h hj hC he hd
    have hw := hC.1
    have hFn := hC.2.1 n hn1 hn
    have hm := (hu n hn1 hn).1
    have h29' : hI h 29 n = 0 := by rw [he.2.2.2.2 _ (fun q => by unfold stS at q; omega)]; exact h29
    have hp : ∀ e, 1 ≤ e → e < n → e ∣ n → IMS h r e := fun e e1 e2 e3 d d1 d2 => by
      rw [he.2.2.2.2 _ (fun q => by unfold stS at q; omega)]
      exact hp0 e e1 e2 e3 d d1 d2
    have n86 : ∀ h', CI h' u r → eqX (stS n) h0 h' → (∀ d, j < d → d ∣ n → hI h' (16 + n) d = nI (r d n)) → ∀ z, P.2 n_Tower_settle 86 [some (.ref 8), some (.int (nI n)), some (.int (nI (j + 1))), z] [] h' 0 0 K := by
      intro h' a b c z
      refine S.mk [(0, 1), (0, 1), (0, 1), (0, 0)] ?_
      have next := ih h' (by omega) a b c
      rw [← pk_m1 j] at next
      refine S.at 10 [] rfl ?_
      conv => whnf
      exact next
    have st : ∀ h', CI h' u r → eqX (stS n) h0 h' → (∀ d, j + 1 < d → d ∣ n → hI h' (16 + n) d = nI (r d n)) → ∀ v, v = nI (r (j + 1) n) → ∀ z, P.2 n_Tower_settle 86 [some (.ref 8), some (.int (nI n)), some (.int (nI (j + 1))), z] [] (sI h' (16 + n) (j + 1) v) 0 0 K := by
      intro h' a b c v hv z
      have h29'' : hI h' 29 n = 0 := by rw [b.2.2.2.2 _ (fun q => by unfold stS at q; omega)]; exact h29
      refine n86 _ (CI_img hn1 hn h29'' a) (eqX_tr b (eqX_sI (Or.inl rfl))) (fun d d1 d2 => ?_) z
      by_cases e : d = j + 1
      · subst e
        rw [hI_sI, hv]
      · rw [hI_sI_j e]
        exact c d (by omega) d2
    refine S.at 100 [86] rfl ?_
    conv => whnf
    refine bk_f (fun c => absurd ((zn_lt (b := 1) (by omega) (by omega)).mp c) (by omega)) ?_
    conv => whnf
    refine c_FT_divides S (by omega) (by omega) ?_
    conv => whnf
    refine bk_b1 (fun c => ?_) (fun c => ?_)
    · have c := of_decide_eq_true c
      have hdv := Nat.dvd_of_mod_eq_zero c.2
      obtain ⟨i1, i2, i3⟩ := hr n (j + 1) hn1 hn (by omega) hdv
      conv => whnf
      refine c_Tower_greatestBetween S (by omega) (by omega) hn ?_
      conv => whnf
      by_cases hg : gbw (j + 1) n = 0
      · rw [show gbI (gbw (j + 1) n) = -1 from if_pos hg]
        refine bk_t (rfl) ?_
        conv => whnf
        by_cases hj1 : j = 0
        · subst hj1
          refine bk_nf ((zn_eq (b := 1) (by omega) (by omega)).mpr (by omega)) ?_
          conv => whnf
          refine ⟨wt_8 hw, ?_⟩
          conv => whnf
          rw [wr_8_4 hw]
          refine ⟨Or.inr (Or.inr (Or.inr (wi_img0 hw hn1 hn))), ?_⟩
          conv => whnf
          rw [nI_clamp (by omega), wi_img hw hn1 hn]
          refine ⟨wt_8 hw, ?_⟩
          conv => whnf
          rw [wr_8_0 hw]
          refine ⟨Or.inl (wi_in9 hw (n := 1) (by omega) (by omega)), ?_⟩
          conv => whnf
          rw [show hR h 9 ((1 : Int32).toNatClampNeg) = 31 from wr_9_1 hw]
          have hF1 : FOK h 31 1 (u 1) := hC.2.1 1 (by omega) (by omega)
          refine ⟨hF1.1, ?_⟩
          conv => whnf
          rw [hF1.2.2.2]
          refine ⟨⟨(show 5 ≤ 16 + n by omega), wi_im hw hn1 hn (d := 1) (by omega)⟩, ?_⟩
          conv => whnf
          have hM1 := hu 1 (by omega) (by omega)
          obtain ⟨⟨l1, l2, l3⟩, l4⟩ := i3 (by omega) hg
          have hu1 : u 1 = 2 ∨ u 1 = 3 := by
            have := hM1.1.2
            have : (2 : Nat) ^ 1 = 2 := rfl
            have : (2 : Nat) ^ (1 + 1) = 4 := rfl
            omega
          have e1 : nI (u 1) &&& 1 = nI (r 1 n) := by
            rcases hu1 with w | w
            · rw [w] at l2 ⊢
              rw [pvl_x hm l1] at l2
              rw [l2]
              rfl
            · rw [w] at l2 ⊢
              have e3 : pvl n (u n) (r 1 n) 3 = r 1 n ^^^ 1 := by
                have := pvl_xor n (u n) (r 1 n) 2 1
                rw [pvl_x hm l1, pvl_1] at this
                exact this
              have l2 : pvl n (u n) (r (0 + 1) n) 3 = 0 := l2
              rw [show (0 + 1 : Nat) = 1 from rfl, e3] at l2
              rw [xor_eq0 l2]
              rfl
          exact st h hC he hd _ e1 _
        · refine bk_nt (fun c => absurd ((zn_eq (b := 1) (by omega) (by decide)).mp c) (by omega)) ?_
          conv => whnf
          refine ⟨wt_8 hw, ?_⟩
          conv => whnf
          rw [wr_8_4 hw]
          refine ⟨Or.inr (Or.inr (Or.inr (wi_img0 hw hn1 hn))), ?_⟩
          conv => whnf
          rw [nI_clamp (by omega), wi_img hw hn1 hn]
          refine ⟨wt_8 hw, ?_⟩
          conv => whnf
          rw [wr_8_1 hw]
          refine ⟨Or.inr (Or.inl (wi_in10 hw hn1 hn)), ?_⟩
          conv => whnf
          rw [nI_clamp (by omega), wi_cyc hw hn1 hn]
          refine ⟨wi_yT hw hn1 hn, ?_⟩
          conv => whnf
          obtain ⟨y1, y2⟩ := hC.2.2.1 n hn1 hn
          refine c_Cycle_leastPrimitive S hw hn1 hn hFn (hu n hn1 hn) y1 y2 ?_
          have hC1 := CI_prim hn1 hn hC
          have he1 : eqX (stS n) h0 (sI h (29 + 4 * n) 2 (nI (lpF n (u n)))) := eqX_tr he (eqX_sI (Or.inr rfl))
          have hp1 : ∀ e, 1 ≤ e → e < n → e ∣ n → IMS (sI h (29 + 4 * n) 2 (nI (lpF n (u n)))) r e := fun e e1 e2 e3 d d1 d2 => by
            rw [hI_sI_ne (by omega)]
            exact hp e e1 e2 e3 d d1 d2
          have hd' : ∀ d, j + 1 < d → d ∣ n → hI (sI h (29 + 4 * n) 2 (nI (lpF n (u n)))) (16 + n) d = nI (r d n) := fun d d1 d2 => by
            rw [hI_sI_ne (by omega)]
            exact hd d d1 d2
          conv => whnf
          refine ⟨wt_8 hw, ?_⟩
          conv => whnf
          refine c_Tower_leastImage S hC1.1 hu hr hn1 hn (by omega) hdv (by omega) hg hC1.2.1 hp1 (fun e e1 e2 e3 => hd' e e1 e3) ?_
          conv => whnf
          refine ⟨⟨(show 5 ≤ 16 + n by omega), wi_im hC1.1 hn1 hn (d := j + 1) (by omega)⟩, ?_⟩
          rw [nI_clamp (by omega)]
          exact st _ hC1 he1 hd' _ rfl _
      · rw [show gbI (gbw (j + 1) n) = nI (gbw (j + 1) n) from if_neg hg]
        obtain ⟨g1, g2, g3, g4⟩ := gbw_ok hg
        refine bk_f (nI_ne_m1 (by omega)) ?_
        conv => whnf
        refine ⟨wt_8 hw, ?_⟩
        conv => whnf
        rw [wr_8_4 hw]
        refine ⟨Or.inr (Or.inr (Or.inr (wi_img0 hw hn1 hn))), ?_⟩
        conv => whnf
        rw [nI_clamp (by omega), wi_img hw hn1 hn]
        refine ⟨wt_8 hw, ?_⟩
        conv => whnf
        rw [wr_8_0 hw]
        refine ⟨Or.inl (wi_in9 hw hn1 hn), ?_⟩
        conv => whnf
        rw [nI_clamp (by omega), wi_fld hw hn1 hn]
        refine ⟨wt_8 hw, ?_⟩
        conv => whnf
        rw [wr_8_4 hw]
        refine ⟨Or.inr (Or.inr (Or.inr (wi_img0 hw (n := gbw (j + 1) n) (by omega) (by omega)))), ?_⟩
        conv => whnf
        rw [nI_clamp (show gbw (j + 1) n < 2 ^ 31 by omega), wi_img hw (n := gbw (j + 1) n) (by omega) (by omega)]
        refine ⟨wi_im hw (n := gbw (j + 1) n) (d := j + 1) (by omega) (by omega) (by omega), ?_⟩
        conv => whnf
        rw [nI_clamp (show j + 1 < 2 ^ 31 by omega), hp _ (by omega) g2 g3 (j + 1) (by omega) g4]
        refine ⟨wt_8 hw, ?_⟩
        conv => whnf
        rw [wr_8_4 hw]
        refine ⟨Or.inr (Or.inr (Or.inr (wi_img0 hw hn1 hn))), ?_⟩
        conv => whnf
        rw [nI_clamp (show n < 2 ^ 31 by omega), wi_img hw hn1 hn]
        refine ⟨wi_im hw hn1 hn (d := gbw (j + 1) n) (by omega), ?_⟩
        conv => whnf
        rw [nI_clamp (show gbw (j + 1) n < 2 ^ 31 by omega), hd _ g1 g3]
        refine ⟨hFn.1, ?_⟩
        conv => whnf
        have rg1 := (IMG_root hu hr n _ hn1 hn (by omega) g3).1
        have rg2 := (IMG_root hu hr _ (j + 1) (by omega) (by omega) (by omega) g4).1
        have p2 : (2 : Nat) ^ gbw (j + 1) n ≤ 4096 := pow12 (by omega)
        refine c_Field_valueAt S hFn hn hm rg1 (by omega) ?_
        conv => whnf
        refine ⟨⟨(show 5 ≤ 16 + n by omega), wi_im hw hn1 hn (d := j + 1) (by omega)⟩, ?_⟩
        rw [nI_clamp (show j + 1 < 2 ^ 31 by omega)]
        exact st h hC he hd _ (by rw [i2 (by omega) hg]) _
    · have c := of_decide_eq_false c
      conv => whnf
      exact n86 h hC he (fun d d1 d2 => by
        rcases Nat.eq_or_lt_of_le d1 with w | w
        · subst w
          exact absurd ⟨by omega, Nat.mod_eq_zero_of_dvd d2⟩ c
        · exact hd d w d2) _
