/-! conjugates spanned; normal elements -/
def spS (n k : Nat) : Prop := spA k ∨ k = 30 + 4 * n
theorem spA_frs {k : Nat} (h : spA k) : frs k := by
  unfold spA at h
  unfold frs
  omega
theorem spS_scr {n k : Nat} (hn1 : 1 ≤ n) (hn : n ≤ 12) (h : spS n k) : scr k := by
  unfold spS spA at h
  unfold scr
  omega
theorem spA_spS {n : Nat} (k : Nat) (h : spA k) : spS n k := Or.inl h
theorem bI_and (a b : Bool) : bI a &&& bI b = bI (a && b) := by cases a <;> cases b <;> rfl
theorem not_spA_f {n : Nat} (hn1 : 1 ≤ n) : ¬ spA (27 + 4 * n) := fun q => by unfold spA at q; omega
theorem l_Spc_cj {P : PSem} (S : SysOK P) {h0 : PH} (hw0 : WS h0) {n m a : Nat} (hn1 : 1 ≤ n) (hn : n ≤ 12) (hF0 : FOK h0 (27 + 4 * n) n m) (hm : MDg n m) (ha : a < 2 ^ n) {K : PK}
    (hK : ∀ h' rows src, eqX spA h0 h' → SPI rows src (cjn n m a) n → SPH h' rows src n → K (.int (bI (nrmB n m a))) h') : ∀ j q h rows src b, q + j = n → eqX spA h0 h → SPI rows src (cjn n m a) q → SPH h rows src q → (b = true ↔ indep (cjn n m a) q) →
    P.2 n_Space_spanConjugates 9 [some (.ref (30 + 4 * n)), none, some (.int (nI (cjn n m a q))), some (.int (bI b)), some (.int (nI q))] [] h 0 0 K := by
  have h12 := pow12 hn
  intro j
  induction j with
  | zero =>
    intro q h rows src b hq he hS hH hb
    have e : q = n := by omega
    subst e
    have hw := eqX_WS he hw0
    have hF := eqX_FOK he (not_spA_f hn1) hF0
    refine S.at 60 [] rfl ?_
    conv => whnf
    refine ⟨wi_sT hw hn1 hn, ?_⟩
    conv => whnf
    rw [wi_sf hw hn1 hn]
    refine ⟨hF.1, ?_⟩
    conv => whnf
    rw [hF.2.1]
    refine bk_t ((zn_le (by omega) (by omega)).mpr (by omega)) ?_
    conv => whnf
    have e : nrmB q m a = b := by
      rw [Bool.eq_iff_iff, nrmB_iff, hb]
      exact Iff.rfl
    rw [e] at hK
    exact ⟨bI_01 _, hK h rows src he hS hH⟩
  | succ j ih =>
    intro q h rows src b hq he hS hH hb
    have hw := eqX_WS he hw0
    have hF := eqX_FOK he (not_spA_f hn1) hF0
    have hc := cjn_lt hm ha q
    refine S.at 60 [] rfl ?_
    conv => whnf
    refine ⟨wi_sT hw hn1 hn, ?_⟩
    conv => whnf
    rw [wi_sf hw hn1 hn]
    refine ⟨hF.1, ?_⟩
    conv => whnf
    rw [hF.2.1]
    refine bk_f (fun c => absurd ((zn_le (by omega) (by omega)).mp c) (by omega)) ?_
    conv => whnf
    refine ⟨wi_sT hw hn1 hn, ?_⟩
    conv => whnf
    rw [wi_ss hw hn1 hn]
    refine ⟨wt_12 hw, ?_⟩
    conv => whnf
    refine c_Span_add (r := cjn n m a) S hw hS hH (by omega) (Nat.lt_of_lt_of_le hc h12) (fun h' rows' src' b' e1 e2 e3 e4 => ?_)
    have he' := eqX_tr he e1
    have hw' := eqX_WS he' hw0
    have hF' := eqX_FOK he' (not_spA_f hn1) hF0
    conv => whnf
    refine ⟨wi_sT hw' hn1 hn, ?_⟩
    conv => whnf
    rw [wi_sf hw' hn1 hn]
    refine ⟨hF'.1, ?_⟩
    conv => whnf
    refine c_Field_times S hF' hn hm hc hc ?_
    conv => whnf
    have next := ih (q + 1) h' rows' src' (b && b') (by omega) he' e2 e3 (by
      rw [Bool.and_eq_true, hb, e4, indep_succ]
      unfold spn
      exact ⟨fun ⟨x, y⟩ => ⟨x, fun c hc he => y ⟨c, hc, he⟩⟩, fun ⟨x, y⟩ => ⟨x, fun ⟨c, hc, he⟩ => y c hc he⟩⟩)
    rw [← nI_1, ← bI_and] at next
    have e5 : cjn n m a (q + 1) = fm n m (cjn n m a q) (cjn n m a q) := sqn_succ q a
    rw [e5] at next
    exact next
theorem c_Space_spanConjugates {P : PSem} (S : SysOK P) {h : PH} (hw : WS h) {n m a : Nat} (hn1 : 1 ≤ n) (hn : n ≤ 12) (hF : FOK h (27 + 4 * n) n m) (hm : MDg n m) (ha : a < 2 ^ n) {K : PK}
    (hK : ∀ h' rows src, eqX spA h h' → SPI rows src (cjn n m a) n → SPH h' rows src n → K (.int (bI (nrmB n m a))) h') : P.1 n_Space_spanConjugates [.ref (30 + 4 * n), .int (nI a)] h K := by
  refine S.2.1 _ 5 _ _ _ rfl rfl ?_
  refine S.at 60 [9] rfl ?_
  conv => whnf
  refine ⟨wi_sT hw hn1 hn, ?_⟩
  conv => whnf
  rw [wi_ss hw hn1 hn]
  refine ⟨wt_12 hw, ?_⟩
  conv => whnf
  refine c_Span_clear S hw (fun h' e1 e2 => ?_)
  conv => whnf
  refine S.mk [(0,1),(0,0),(0,1),(0,1),(0,1)] ?_
  exact l_Spc_cj S hw hn1 hn hF hm ha hK n 0 h' _ _ true (by omega) e1 (SPI_0 _) e2 ⟨fun _ c hc _ => by have : c < 1 := hc; omega, fun _ => rfl⟩
theorem c_Space_isNormal {P : PSem} (S : SysOK P) {h : PH} {u : Nat → Nat} {r : Nat → Nat → Nat} {n a : Nat} (hn1 : 1 ≤ n) (hn : n ≤ 12) (hu : MDS u) (hC : CI h u r) (ha : a < 2 ^ n) {K : PK}
    (hK : ∀ h', CI h' u r → eqX (spS n) h h' → hI h' (30 + 4 * n) 3 = hI h (30 + 4 * n) 3 → K (.int (bI (nrmB n (u n) a))) h') : P.1 n_Space_isNormal [.ref (30 + 4 * n), .int (nI a)] h K := by
  have hM := hu n hn1 hn
  have hG := all_GF hn hM
  have hw := hC.1
  have h12 := pow12 hn
  have hC1 : CI (sI h (30 + 4 * n) 2 (nI (tbF n (u n)))) u r := CI_spc hn1 hn (Or.inl ⟨rfl, rfl⟩) hC
  have e1 : eqX (spS n) h (sI h (30 + 4 * n) 2 (nI (tbF n (u n)))) := eqX_sI (Or.inr rfl)
  have e3 : hI (sI h (30 + 4 * n) 2 (nI (tbF n (u n)))) (30 + 4 * n) 3 = hI h (30 + 4 * n) 3 := hI_sI_j (by decide)
  refine S.go 60 rfl rfl rfl ?_
  conv => whnf
  refine ⟨wi_sT hw hn1 hn, ?_⟩
  conv => whnf
  refine c_Space_traceOf S hw hn1 hn (hC.2.1 n hn1 hn) hG ha (hC.2.2.2.2.1 n hn1 hn).1 ?_
  conv => whnf
  rcases tr1_01 hG ha with t | t
  · rw [t]
    refine bk_t (rfl) ?_
    conv => whnf
    have : nrmB n (u n) a = false := by
      rw [← Bool.not_eq_true, nrmB_iff]
      exact fun q => nrm_tr hM.1 q t
    rw [this] at hK
    exact ⟨Or.inl rfl, hK _ hC1 e1 e3⟩
  · rw [t]
    refine bk_f ((by decide)) ?_
    conv => whnf
    refine ⟨wi_sT hw hn1 hn, ?_⟩
    conv => whnf
    refine c_Space_spanConjugates S hC1.1 hn1 hn (hC1.2.1 n hn1 hn) hM.1 ha (fun h' rows src f1 f2 f3 => ?_)
    conv => whnf
    have hC2 := CI_eqX (fun k q => spA_frs q) f1 hC1
    have e2 := eqX_tr e1 (eqX_mono spA_spS f1)
    have e4 : hI h' (30 + 4 * n) 3 = hI h (30 + 4 * n) 3 := by
      rw [f1.2.2.2.2 _ (fun q => by unfold spA at q; omega)]
      exact e3
    refine bk_b0 (fun c => ?_) (fun c => ?_)
    · conv => whnf
      rw [c] at hK
      exact ⟨Or.inl rfl, hK h' hC2 e2 e4⟩
    · conv => whnf
      rw [c] at hK
      exact ⟨Or.inr rfl, hK h' hC2 e2 e4⟩
theorem l_Spc_least {P : PSem} (S : SysOK P) {h0 : PH} {u : Nat → Nat} {r : Nat → Nat → Nat} {n : Nat} (hn1 : 1 ≤ n) (hn : n ≤ 12) (hu : MDS u) {K : PK}
    (hK : ∀ h', CI h' u r → eqX (spS n) h0 h' → K (.int (nI (lnF n (u n)))) h') : ∀ j a h, a + j = lnF n (u n) → 1 ≤ a → CI h u r → eqX (spS n) h0 h → hI h (30 + 4 * n) 3 = 0 →
    P.2 n_Space_leastNormal 2 [some (.ref (30 + 4 * n)), some (.int (nI a))] [] h 0 0 K := by
  have h12 := pow12 hn
  have hM := hu n hn1 hn
  obtain ⟨l1, l2, l3, l4⟩ := lnF_ok hn hM
  intro j
  induction j with
  | zero =>
    intro a h ha ha1 hC he h3
    have e : a = lnF n (u n) := by omega
    subst e
    have hw := hC.1
    have hF := hC.2.1 n hn1 hn
    refine S.at 60 [] rfl ?_
    conv => whnf
    refine ⟨wi_sT hw hn1 hn, ?_⟩
    conv => whnf
    rw [wi_sf hw hn1 hn]
    refine ⟨hF.1, ?_⟩
    conv => whnf
    rw [hF.2.2.1]
    refine bk_f (fun c => absurd ((zn_le (by omega) (by omega)).mp c) (by omega)) ?_
    conv => whnf
    refine ⟨wi_sT hw hn1 hn, ?_⟩
    conv => whnf
    rw [h3]
    refine bk_nf (rfl) ?_
    conv => whnf
    refine ⟨wi_sT hw hn1 hn, ?_⟩
    conv => whnf
    refine c_Space_isNormal S hn1 hn hu hC l2 (fun h' f1 f2 f3 => ?_)
    conv => whnf
    rw [nrmB_iff.mpr l3]
    refine bk_f ((by decide)) ?_
    conv => whnf
    have hC2 : CI (sI h' (30 + 4 * n) 3 (nI (lnF n (u n)))) u r := CI_spc hn1 hn (Or.inr ⟨rfl, rfl⟩) f1
    have e2 : eqX (spS n) h0 (sI h' (30 + 4 * n) 3 (nI (lnF n (u n)))) := eqX_tr (eqX_tr he f2) (eqX_sI (Or.inr rfl))
    refine ⟨wi_sT f1.1 hn1 hn, ?_⟩
    conv => whnf
    have hw2 := hC2.1
    have hF2 := hC2.2.1 n hn1 hn
    have e3 : hI (sI h' (30 + 4 * n) 3 (nI (lnF n (u n)))) (30 + 4 * n) 3 = nI (lnF n (u n)) := hI_sI
    refine S.at 60 [] rfl ?_
    conv => whnf
    refine ⟨wi_sT hw2 hn1 hn, ?_⟩
    conv => whnf
    rw [wi_sf hw2 hn1 hn]
    refine ⟨hF2.1, ?_⟩
    conv => whnf
    rw [hF2.2.2.1, nI_1]
    refine bk_le (by omega) (by omega) (fun c => ?_) (fun c => ?_)
    · conv => whnf
      refine ⟨wi_sT hw2 hn1 hn, ?_⟩
      conv => whnf
      rw [e3]
      exact hK _ hC2 e2
    · conv => whnf
      refine ⟨wi_sT hw2 hn1 hn, ?_⟩
      conv => whnf
      rw [e3]
      refine bk_nt (nI_ne0 (by omega) (by omega)) ?_
      conv => whnf
      refine ⟨wi_sT hw2 hn1 hn, ?_⟩
      conv => whnf
      rw [e3]
      exact hK _ hC2 e2
  | succ j ih =>
    intro a h ha ha1 hC he h3
    have hw := hC.1
    have hF := hC.2.1 n hn1 hn
    refine S.at 60 [] rfl ?_
    conv => whnf
    refine ⟨wi_sT hw hn1 hn, ?_⟩
    conv => whnf
    rw [wi_sf hw hn1 hn]
    refine ⟨hF.1, ?_⟩
    conv => whnf
    rw [hF.2.2.1]
    refine bk_f (fun c => absurd ((zn_le (by omega) (by omega)).mp c) (by omega)) ?_
    conv => whnf
    refine ⟨wi_sT hw hn1 hn, ?_⟩
    conv => whnf
    rw [h3]
    refine bk_nf (rfl) ?_
    conv => whnf
    refine ⟨wi_sT hw hn1 hn, ?_⟩
    conv => whnf
    refine c_Space_isNormal S hn1 hn hu hC (show a < 2 ^ n by omega) (fun h' f1 f2 f3 => ?_)
    conv => whnf
    have : nrmB n (u n) a = false := by
      rw [← Bool.not_eq_true, nrmB_iff]
      exact l4 a ha1 (by omega)
    rw [this]
    refine bk_t (rfl) ?_
    conv => whnf
    have next := ih (a + 1) h' (by omega) (by omega) f1 (eqX_tr he f2) (by rw [f3]; exact h3)
    rw [← nI_1] at next
    exact next
theorem c_Space_leastNormal {P : PSem} (S : SysOK P) {h : PH} {u : Nat → Nat} {r : Nat → Nat → Nat} {n : Nat} (hn1 : 1 ≤ n) (hn : n ≤ 12) (hu : MDS u) (hC : CI h u r) {K : PK}
    (hK : ∀ h', CI h' u r → eqX (spS n) h h' → K (.int (nI (lnF n (u n)))) h') : P.1 n_Space_leastNormal [.ref (30 + 4 * n)] h K := by
  have h12 := pow12 hn
  have hw := hC.1
  have hF := hC.2.1 n hn1 hn
  obtain ⟨l1, l2, l3, l4⟩ := lnF_ok hn (hu n hn1 hn)
  refine S.2.1 _ 2 _ _ _ rfl rfl ?_
  refine S.at 2 [] rfl ?_
  conv => whnf
  by_cases z : hI h (30 + 4 * n) 3 = 0
  · exact l_Spc_least S hn1 hn hu hK (lnF n (u n) - 1) 1 h (by omega) (Nat.le_refl 1) hC (eqX_rf _ _) z
  · have z2 : hI h (30 + 4 * n) 3 = nI (lnF n (u n)) := by
      rcases (hC.2.2.2.2.1 n hn1 hn).2 with q | q
      · exact absurd q z
      · exact q
    refine S.at 60 [] rfl ?_
    conv => whnf
    refine ⟨wi_sT hw hn1 hn, ?_⟩
    conv => whnf
    rw [wi_sf hw hn1 hn]
    refine ⟨hF.1, ?_⟩
    conv => whnf
    rw [hF.2.2.1]
    refine bk_f (fun c => absurd ((zn_le (b := 1) (by omega) (by omega)).mp c) (by omega)) ?_
    conv => whnf
    refine ⟨wi_sT hw hn1 hn, ?_⟩
    conv => whnf
    rw [z2]
    refine bk_nt (nI_ne0 (by omega) (by omega)) ?_
    conv => whnf
    refine ⟨wi_sT hw hn1 hn, ?_⟩
    conv => whnf
    rw [z2]
    exact hK h hC (eqX_rf _ _)
/-- coordinates by the conjugates of a normal element -/
def coF (n m b a : Nat) : Nat := fnd (fun c => cmb (cjn n m b) n c == a) (2 ^ n) 0
theorem coF_eq {n m b a c : Nat} (hN : nrm n m b) (hc : c < 2 ^ n) (he : cmb (cjn n m b) n c = a) : coF n m b a = c :=
  fnd_uq (p := fun c => cmb (cjn n m b) n c == a) (Nat.zero_le c) (by omega) (beq_iff_eq.mpr he) (fun l _ h2 => beq_eq_false_iff_ne.mpr (fun q => by
    have := indep_uq hN (show l < 2 ^ n by omega) hc (by rw [q, he])
    omega))
theorem c_Space_coordinatesOf {P : PSem} (S : SysOK P) {h : PH} {u : Nat → Nat} {r : Nat → Nat → Nat} {n a : Nat} (hn1 : 1 ≤ n) (hn : n ≤ 12) (hu : MDS u) (hC : CI h u r) (ha : a < 2 ^ n) {K : PK}
    (hK : ∀ h', CI h' u r → eqX (spS n) h h' → K (.int (nI (coF n (u n) (lnF n (u n)) a))) h') : P.1 n_Space_coordinatesOf [.ref (30 + 4 * n), .int (nI a)] h K := by
  have hM := hu n hn1 hn
  obtain ⟨l1, l2, l3, l4⟩ := lnF_ok hn hM
  have h12 := pow12 hn
  refine S.go 60 rfl rfl rfl ?_
  conv => whnf
  refine ⟨wi_sT hC.1 hn1 hn, ?_⟩
  conv => whnf
  refine c_Space_leastNormal S hn1 hn hu hC (fun h1 f1 f2 => ?_)
  conv => whnf
  refine ⟨wi_sT f1.1 hn1 hn, ?_⟩
  conv => whnf
  refine c_Space_spanConjugates S f1.1 hn1 hn (f1.2.1 n hn1 hn) hM.1 l2 (fun h2 rows src g1 g2 g3 => ?_)
  conv => whnf
  have hC2 := CI_eqX (fun k q => spA_frs q) g1 f1
  have e2 := eqX_tr f2 (eqX_mono spA_spS g1)
  refine ⟨wi_sT hC2.1 hn1 hn, ?_⟩
  conv => whnf
  rw [wi_ss hC2.1 hn1 hn]
  refine ⟨wt_12 hC2.1, ?_⟩
  conv => whnf
  refine c_Span_express S hC2.1 g2 g3 (Nat.lt_of_lt_of_le ha h12) (fun s s1 s2 => ?_) (fun q => ?_)
  · conv => whnf
    rw [coF_eq l3 s1 s2] at hK
    exact hK h2 hC2 e2
  · exact absurd (indep_sur l3 (fun i _ => cjn_lt hM.1 l2 i) ha) q
