/-! logarithms, with the invariant -/
theorem CI_new {h : PH} {u : Nat → Nat} {r : Nat → Nat → Nat} {n : Nat} (hn1 : 1 ≤ n) (hn : n ≤ 12) (hC : CI h u r) (h0 : hR h (29 + 4 * n) 4 = 0) : CI (sR (hNew h 20 (2 ^ n)) (29 + 4 * n) 4 (hE h)) u r := by
  obtain ⟨c1, c2, c3, c4, c5, c6⟩ := hC
  have hE149 := c1.2.2.2
  have hi : ∀ k, k < 149 → hI (sR (hNew h 20 (2 ^ n)) (29 + 4 * n) 4 (hE h)) k = hI h k := fun k hk => hI_new (t := 20) (n := 2 ^ n) (by omega)
  have hR0 : hR (sR (hNew h 20 (2 ^ n)) (29 + 4 * n) 4 (hE h)) (29 + 4 * n) 4 = hE h := hR_sR
  have hRk : ∀ k, k < 149 → k ≠ 29 + 4 * n → hR (sR (hNew h 20 (2 ^ n)) (29 + 4 * n) 4 (hE h)) k 4 = hR h k 4 := fun k h1 h2 => by
    rw [hR_sR_ne (fun q => h2 q.1), hR_new (by omega)]
  have h1k : ∀ k, k ≠ hE h → (sR (hNew h 20 (2 ^ n)) (29 + 4 * n) 4 (hE h)).1 k = h.1 k := fun k hk => h1_new hk
  refine ⟨ws_log c1 hn1 hn, fun k a b => ?_, fun k a b => ?_, ⟨fun k a b => ?_, ?_⟩, fun k a b => ?_, fun k a b => ?_⟩
  · obtain ⟨f1, f2, f3, f4⟩ := c2 k a b
    have e := hi (27 + 4 * k) (by omega)
    refine ⟨?_, by rw [e]; exact f2, by rw [e]; exact f3, by rw [e]; exact f4⟩
    unfold hT
    rw [h1k _ (by omega)]
    exact f1
  · rw [hi _ (by omega)]
    exact c3 k a b
  · rw [hi _ (by omega)]
    obtain ⟨g1, g2⟩ := c4.1 k a b
    by_cases e : k = n
    · subst e
      rw [hR0]
      refine ⟨Or.inr ⟨hE149, Nat.lt_succ_self _, ?_, ?_⟩, ?_⟩
      · show ((hNew h 20 (2 ^ k)).1 (hE h)).1 = 20
        rw [h1_new0]
      · show ((hNew h 20 (2 ^ k)).1 (hE h)).2 = 2 ^ k
        rw [h1_new0]
      · rcases g2 with g2 | ⟨g2, g3, g4⟩
        · exact Or.inl g2
        · exact absurd h0 g3
    · rw [hRk _ (by omega) (by omega)]
      refine ⟨?_, ?_⟩
      · rcases g1 with g1 | ⟨g1, g2, g3, g4⟩
        · exact Or.inl g1
        · refine Or.inr ⟨g1, Nat.lt_succ_of_lt g2, ?_, ?_⟩
          · show ((hNew h 20 (2 ^ n)).1 _).1 = 20
            rw [h1_new (by omega)]
            exact g3
          · show ((hNew h 20 (2 ^ n)).1 _).2 = 2 ^ k
            rw [h1_new (by omega)]
            exact g4
      · rcases g2 with g2 | ⟨g2, g3, g4⟩
        · exact Or.inl g2
        · refine Or.inr ⟨g2, g3, ?_⟩
          rcases g1 with g1 | g1
          · exact absurd g1 g3
          · have : hI (sR (hNew h 20 (2 ^ n)) (29 + 4 * n) 4 (hE h)) (hR h (29 + 4 * k) 4) = hI h (hR h (29 + 4 * k) 4) := hI_new (t := 20) (n := 2 ^ n) (by omega)
            rw [this]
            exact g4
  · intro i k i1 i2 k1 k2 hik
    have bound : ∀ k, 1 ≤ k → k ≤ 12 → hR h (29 + 4 * k) 4 < hE h := fun k k1 k2 => by
      rcases (c4.1 k k1 k2).1 with g | g
      · omega
      · exact g.2.1
    by_cases e : i = n
    · subst e
      rw [hR0, hRk (29 + 4 * k) (by omega) (by omega)]
      intro _
      have := bound k k1 k2
      omega
    · rw [hRk (29 + 4 * i) (by omega) (by omega)]
      by_cases e2 : k = n
      · subst e2
        rw [hR0]
        intro _
        have := bound i i1 i2
        omega
      · rw [hRk (29 + 4 * k) (by omega) (by omega)]
        exact c4.2 i k i1 i2 k1 k2 hik
  · rw [hi _ (by omega)]
    exact c5 k a b
  · rw [hi _ (by omega), hi _ (by omega)]
    exact c6 k a b
theorem FQ_new {h : PH} {n t N : Nat} (hn1 : 1 ≤ n) (hn : n ≤ 12) (hE149 : 149 ≤ hE h) : FQ h (sR (hNew h t N) (29 + 4 * n) 4 (hE h)) := by
  refine ⟨fun k h1 h2 => ⟨hI_new (t := t) (n := N) (by omega), hL_new (t := t) (n := N) (by omega), ?_⟩, Nat.le_succ _, if_neg (by omega)⟩
  funext j
  have hk : k ≠ 29 + 4 * n := fun e => h2 (by unfold scr; omega)
  rw [hR_sR_ne (fun q => hk q.1), hR_new (by omega)]
theorem CI_list {h h' : PH} {u : Nat → Nat} {r : Nat → Nat → Nat} {n : Nat} (hn1 : 1 ≤ n) (hn : n ≤ 12) (hC : CI h u r) (h0 : hR h (29 + 4 * n) 4 ≠ 0) (he : eqX (fun k => k = hR h (29 + 4 * n) 4) h h') (ht : ∀ a, 1 ≤ a → a < 2 ^ n → hI h' (hR h (29 + 4 * n) 4) a = nI (lgF n (u n) (lpF n (u n)) a)) : CI (sI h' (29 + 4 * n) 3 1) u r := by
  obtain ⟨c1, c2, c3, c4, c5, c6⟩ := hC
  have hRr : 149 ≤ hR h (29 + 4 * n) 4 := by
    rcases (c4.1 n hn1 hn).1 with g | g
    · exact absurd g h0
    · exact g.1
  have hi : ∀ k, k < 149 → hI h' k = hI h k := fun k hk => he.2.2.2.2 k (by omega)
  refine ⟨ws_sI (eqX_WS he c1), fun k a b => ?_, fun k a b => ?_, ⟨fun k a b => ?_, ?_⟩, fun k a b => ?_, fun k a b => ?_⟩
  · exact eqX_FOK (A := fun q => q = 29 + 4 * n) (eqX_sI rfl) (by omega) (eqX_FOK he (by omega) (c2 k a b))
  · by_cases e : k = n
    · subst e
      rw [hI_sI_j (by decide), hI_sI_j (by decide), hi _ (by omega)]
      exact c3 k a b
    · rw [hI_sI_ne (by omega), hi _ (by omega)]
      exact c3 k a b
  · obtain ⟨g1, g2⟩ := c4.1 k a b
    rw [hR_sI, he.2.1]
    have eE : hE (sI h' (29 + 4 * n) 3 1) = hE h := he.2.2.2.1
    rw [eE, hT_sI, eqX_T he, show hN (sI h' (29 + 4 * n) 3 1) = hN h' from rfl, eqX_N he]
    refine ⟨g1, ?_⟩
    by_cases e : k = n
    · subst e
      right
      refine ⟨hI_sI, h0, ?_⟩
      rw [hI_sI_ne (by omega)]
      exact ht
    · rw [hI_sI_ne (show 29 + 4 * k ≠ 29 + 4 * n by omega), hi _ (by omega)]
      rcases g2 with g2 | ⟨g2, g3, g4⟩
      · exact Or.inl g2
      · refine Or.inr ⟨g2, g3, ?_⟩
        rcases g1 with g1 | g1
        · exact absurd g1 g3
        · have hne := c4.2 k n a b hn1 hn e g3
          rw [hI_sI_ne (by omega), he.2.2.2.2 _ hne]
          exact g4
  · rw [hR_sI, he.2.1]
    exact c4.2
  · rw [hI_sI_ne (by omega), hi _ (by omega)]
    exact c5 k a b
  · rw [hI_sI_ne (by omega), hI_sI_ne (by omega), hi _ (by omega), hi _ (by omega)]
    exact c6 k a b
theorem l_Cyc_l10 {P : PSem} (S : SysOK P) {h : PH} {u : Nat → Nat} {r : Nat → Nat → Nat} {n : Nat} (hn1 : 1 ≤ n) (hn : n ≤ 12) (hu : MDS u) (hC : CI h u r) (h0 : hR h (29 + 4 * n) 4 ≠ 0) {ca sl : Nat} (hca : ca ≤ 1) (hsl : sl ≤ 4096) {K : PK}
    (hK : ∀ h', CI h' u r → FQ h h' → hI h' (29 + 4 * n) 3 = 1 → hR h' (29 + 4 * n) 4 ≠ 0 → K .null h') : P.2 n_Cycle_listLogarithms 10 [some (.ref (29 + 4 * n)), none, none, none] [] h ca sl K := by
  have hM := hu n hn1 hn
  have hw := hC.1
  have hF := hC.2.1 n hn1 hn
  obtain ⟨y1, y2⟩ := hC.2.2.1 n hn1 hn
  obtain ⟨l1, l2⟩ := hC.2.2.2.1.1 n hn1 hn
  have hcs : (Nat.ble ca 1 && Nat.ble sl 4096) = true := by rw [Nat.ble_eq.mpr hca, Nat.ble_eq.mpr hsl]; rfl
  refine S.at 60 [17] rfl ?_
  conv => whnf
  show b_if (Nat.ble (ca + 0) 1 && Nat.ble (sl + 0) 4096 && true) _
  rw [Nat.add_zero, Nat.add_zero, hcs]
  refine ⟨wi_yT hw hn1 hn, ?_⟩
  refine c_Cycle_leastPrimitive S hw hn1 hn hF hM y1 y2 ?_
  conv => whnf
  have hC1 := CI_prim hn1 hn hC
  have h12 := two_pow_ge2 hn1
  rcases l1 with l1 | ⟨l1, l3, l4, l5⟩
  · exact absurd l1 h0
  have := l_Cyc_list (R := hR h (29 + 4 * n) 4) (ca := ca) (sl := sl) (K := K) S hC1.1 hn1 hn (hC1.2.1 n hn1 hn) hM (hC1.2.2.1 n hn1 hn).1 rfl l1 l4 l5 hca hsl (fun h' e1 e2 => by
    refine hK _ (CI_list hn1 hn hC1 h0 e1 e2) ?_ hI_sI (by rw [hR_sI, e1.2.1]; exact h0)
    exact FQ_tr (FQ_tr (FQ_sI (by unfold scr; omega)) (FQ_eqX e1 (fun k e hk => by omega))) (FQ_sI (by unfold scr; omega))) (2 ^ n - 1) 0 _ (by omega) (eqX_rf _ _) (fun i hi => by omega)
  exact this
theorem c_Cycle_listLogarithms {P : PSem} (S : SysOK P) {h : PH} {u : Nat → Nat} {r : Nat → Nat → Nat} {n : Nat} (hn1 : 1 ≤ n) (hn : n ≤ 12) (hu : MDS u) (hC : CI h u r) {K : PK}
    (hK : ∀ h', CI h' u r → FQ h h' → hI h' (29 + 4 * n) 3 = 1 → hR h' (29 + 4 * n) 4 ≠ 0 → K .null h') : P.1 n_Cycle_listLogarithms [.ref (29 + 4 * n)] h K := by
  have hw := hC.1
  have h12 := pow12 hn
  have h2 := two_pow_ge2 hn1
  obtain ⟨y1, y2⟩ := hC.2.2.1 n hn1 hn
  refine S.2.1 _ 4 _ _ _ rfl rfl ?_
  refine S.at 60 [10] rfl ?_
  conv => whnf
  refine ⟨wi_yT hw hn1 hn, ?_⟩
  conv => whnf
  refine ⟨fun c => ?_, fun c => ?_⟩
  · conv => whnf
    exact l_Cyc_l10 S hn1 hn hu hC c (Nat.zero_le 1) (Nat.zero_le _) hK
  · conv => whnf
    refine ⟨wi_yT hw hn1 hn, ?_⟩
    conv => whnf
    rw [y1]
    have e : nI (2 ^ n - 1) + 1 = nI (2 ^ n) := by rw [nI_1, Nat.sub_add_cancel (by omega)]
    have e' : (fun x y : Int32 => x + y) (nI (2 ^ n - 1)) 1 = nI (2 ^ n) := e
    rw [e', nI_clamp (by omega)]
    refine ⟨⟨nI_pos (by omega), by omega⟩, ?_⟩
    conv => whnf
    have hC1 := CI_new hn1 hn hC c
    have e0 : hT (hNew h 20 (2 ^ n)) (29 + 4 * n) = 3 := by
      unfold hT
      rw [h1_new (by have := hw.2.2.2; omega)]
      exact wi_yT hw hn1 hn
    refine ⟨e0, ?_⟩
    conv => whnf
    refine l_Cyc_l10 S hn1 hn hu hC1 ?_ (Nat.le_refl 1) (Nat.le_refl _) (fun h' a b c d => hK h' a (FQ_tr (FQ_new hn1 hn hw.2.2.2) b) c d)
    rw [hR_sR]
    have := hw.2.2.2
    omega
theorem c_Cycle_logarithmOf {P : PSem} (S : SysOK P) {h : PH} {u : Nat → Nat} {r : Nat → Nat → Nat} {n a : Nat} (hn1 : 1 ≤ n) (hn : n ≤ 12) (hu : MDS u) (hC : CI h u r) (ha1 : 1 ≤ a) (ha : a < 2 ^ n) {K : PK}
    (hK : ∀ h', CI h' u r → FQ h h' → K (.int (nI (lgF n (u n) (lpF n (u n)) a))) h') : P.1 n_Cycle_logarithmOf [.ref (29 + 4 * n), .int (nI a)] h K := by
  have h12 := pow12 hn
  have fin : ∀ h' ca sl, ca ≤ 1 → sl ≤ 4096 → CI h' u r → FQ h h' → hI h' (29 + 4 * n) 3 = 1 → hR h' (29 + 4 * n) 4 ≠ 0 → P.2 n_Cycle_logarithmOf 5 [some (.ref (29 + 4 * n)), some (.int (nI a))] [] h' ca sl K := by
    intro h' ca sl hca hsl hC' hf e1 e2
    have hw := hC'.1
    have hcs : (Nat.ble ca 1 && Nat.ble sl 4096) = true := by rw [Nat.ble_eq.mpr hca, Nat.ble_eq.mpr hsl]; rfl
    obtain ⟨l1, l2⟩ := hC'.2.2.2.1.1 n hn1 hn
    rcases l1 with l1 | ⟨l1, l3, l4, l5⟩
    · exact absurd l1 e2
    rcases l2 with l2 | ⟨-, -, l2⟩
    · rw [e1] at l2
      exact absurd l2 (by decide)
    refine S.at 60 [] rfl ?_
    conv => whnf
    refine ⟨wi_yT hw hn1 hn, ?_⟩
    conv => whnf
    refine bk_f e2 ?_
    conv => whnf
    refine bk_f (fun c => absurd ((zn_le (b := 0) (by omega) (by decide)).mp c) (by omega)) ?_
    conv => whnf
    refine ⟨wi_yT hw hn1 hn, ?_⟩
    conv => whnf
    refine ⟨⟨by omega, by omega⟩, ?_⟩
    conv => whnf
    rw [l5]
    refine bk_f (fun c => absurd ((zn_le (by omega) (by omega)).mp c) (by omega)) ?_
    conv => whnf
    refine ⟨wi_yT hw hn1 hn, ?_⟩
    conv => whnf
    refine ⟨inB_of (N := 2 ^ n) l4 l5 ha (by omega), ?_⟩
    conv => whnf
    rw [nI_clamp (by omega), l2 a ha1 ha]
    show b_if (Nat.ble ca 1 && Nat.ble sl 4096) _
    rw [hcs]
    exact hK h' hC' hf
  have hw := hC.1
  obtain ⟨l1, l2⟩ := hC.2.2.2.1.1 n hn1 hn
  refine S.2.1 _ 2 _ _ _ rfl rfl ?_
  refine S.at 60 [5] rfl ?_
  conv => whnf
  refine ⟨wi_yT hw hn1 hn, ?_⟩
  conv => whnf
  rcases l2 with l2 | ⟨l2, l3, l4⟩
  · rw [l2]
    refine bk_nf (rfl) ?_
    conv => whnf
    refine ⟨wi_yT hw hn1 hn, ?_⟩
    conv => whnf
    refine c_Cycle_listLogarithms S hn1 hn hu hC (fun h' a b c d => ?_)
    conv => whnf
    exact fin h' _ _ (Nat.le_refl 1) (Nat.le_refl _) a b c d
  · rw [l2]
    refine bk_nt ((by decide)) ?_
    conv => whnf
    exact fin h 0 0 (Nat.zero_le _) (Nat.zero_le _) hC (FQ_rf h) l2 l3
