/-! the reference's tower -/
def NOW (h : PH) (u : Nat → Nat) : Prop := ∀ n, 1 ≤ n → n ≤ 12 → hI h 125 n = nI (u n)
def TBL (h : PH) (r : Nat → Nat → Nat) (d n : Nat) : Prop := ∀ n' d', bfr d n d' n' → hI h 144 (13 * d' + n') = nI (r d' n')
theorem ix13 {d n : Nat} : (13 : Int32) * nI d + nI n = nI (13 * d + n) := by
  rw [zn_plus, zn_tms]
  rfl
theorem ix13' {d n : Nat} : (fun x y : Int32 => x + y) ((fun x y : Int32 => x * y) 13 (nI d)) (nI n) = nI (13 * d + n) := ix13
theorem TBL_sI {h : PH} {r : Nat → Nat → Nat} {d n : Nat} {v : Int32} (hn : n ≤ 12) (ht : TBL h r d n) : TBL (sI h 144 (13 * d + n) v) r d n := fun n' d' hb => by
  obtain ⟨b1, b2, b3, b4, b5⟩ := hb
  rw [hI_sI_j (by omega)]
  exact ht n' d' ⟨b1, b2, b3, b4, b5⟩
theorem NOW_sI {h : PH} {u : Nat → Nat} {j : Nat} {v : Int32} (hu : NOW h u) : NOW (sI h 144 j v) u := fun n a b => by
  rw [hI_sI_ne (by decide)]
  exact hu n a b
theorem l_M_agV {P : PSem} (S : SysOK P) {h : PH} (hw : WS h) {u : Nat → Nat} {r : Nat → Nat → Nat} (hu : MDS u) (hr : IMG u r) (hnow : NOW h u) {n d e a : Nat} (hn1 : 1 ≤ n) (hn : n ≤ 12) (hd1 : 1 ≤ d) (hdn : d < n) (he1 : d < e) (he2 : e < n) (he3 : e ∣ n) (ht : TBL h r d n) (hx : hI h 144 (13 * d + n) = nI a) (ha : root n (u n) (u d) a) {K : PK}
    (hY : (∀ v, v < 2 ^ Nat.gcd d e → pvl n (u n) a (pvl d (u d) (r (Nat.gcd d e) d) v) = pvl n (u n) (r e n) (pvl e (u e) (r (Nat.gcd d e) e) v)) → P.2 n_M_agrees 66 [some (.ref 116), some (.int (nI d)), some (.int (nI n)), none, some (.int (nI e)), none, none] [] h 0 0 K)
    (hN : ¬ (∀ v, v < 2 ^ Nat.gcd d e → pvl n (u n) a (pvl d (u d) (r (Nat.gcd d e) d) v) = pvl n (u n) (r e n) (pvl e (u e) (r (Nat.gcd d e) e) v)) → K (.int 0) h) : ∀ j q, q + j = 2 ^ Nat.gcd d e → (∀ v, v < q → pvl n (u n) a (pvl d (u d) (r (Nat.gcd d e) d) v) = pvl n (u n) (r e n) (pvl e (u e) (r (Nat.gcd d e) e) v)) →
    P.2 n_M_agrees 38 [some (.ref 116), some (.int (nI d)), some (.int (nI n)), none, some (.int (nI e)), some (.int (nI (Nat.gcd d e))), some (.int (nI q))] [] h 0 0 K := by
  have h12 := pow12 hn
  have hm := (hu n hn1 hn).1
  have hmd := (hu d hd1 (by omega)).1
  have hme := (hu e (by omega) (by omega)).1
  have g0 : 1 ≤ Nat.gcd d e := Nat.gcd_pos_of_pos_left _ hd1
  have gd : Nat.gcd d e ≤ d := Nat.le_of_dvd (by omega) (Nat.gcd_dvd_left d e)
  have hg12 : (2 : Nat) ^ Nat.gcd d e ≤ 4096 := pow12 (by omega)
  have t1 := ht d _ ⟨hd1, by omega, g0, Nat.gcd_dvd_left d e, Or.inl hdn⟩
  have t2 := ht n e ⟨hn1, hn, by omega, he3, Or.inr ⟨rfl, he1⟩⟩
  have t3 := ht e _ ⟨by omega, by omega, g0, Nat.gcd_dvd_right d e, Or.inl he2⟩
  have r1 := (IMG_root hu hr d _ hd1 (by omega) g0 (Nat.gcd_dvd_left d e)).1
  have r2 := (IMG_root hu hr n e hn1 hn (by omega) he3).1
  have r3 := (IMG_root hu hr e _ (by omega) (by omega) g0 (Nat.gcd_dvd_right d e)).1
  intro j
  induction j with
  | zero =>
    intro q hq hs
    refine S.at 60 [66] rfl ?_
    conv => whnf
    rw [shl_one (by omega)]
    refine bk_t ((zn_le (by omega) (by omega)).mpr (by omega)) ?_
    conv => whnf
    exact S.mk [(0, 1), (0, 1), (0, 1), (0, 0), (0, 1), (0, 0), (0, 0)] (hY (fun v hv => hs v (by omega)))
  | succ j ih =>
    intro q hq hs
    have p1 := pvl_lt hmd r1 (p := q)
    have p3 := pvl_lt hme r3 (p := q)
    have p2 := pvl_lt hm ha.1 (p := pvl d (u d) (r (Nat.gcd d e) d) q)
    have p4 := pvl_lt hm r2 (p := pvl e (u e) (r (Nat.gcd d e) e) q)
    refine S.at 60 [66] rfl ?_
    conv => whnf
    rw [shl_one (by omega)]
    refine bk_f (fun c => absurd ((zn_le (by omega) (by omega)).mp c) (by omega)) ?_
    conv => whnf
    refine ⟨wt_116 hw, ?_⟩
    conv => whnf
    refine c_M_up S hw (d := Nat.gcd d e) (n := d) (by omega) g0 (by omega) hmd (hnow d hd1 (by omega)) t1 r1 (by omega) ?_
    conv => whnf
    refine ⟨wt_116 hw, ?_⟩
    conv => whnf
    refine c_M_up S hw hn hd1 (by omega) hm (hnow n hn1 hn) hx ha.1 p1 ?_
    conv => whnf
    refine ⟨wt_116 hw, ?_⟩
    conv => whnf
    refine c_M_up S hw (d := Nat.gcd d e) (n := e) (by omega) g0 (by omega) hme (hnow e (by omega) (by omega)) t3 r3 (by omega) ?_
    conv => whnf
    refine ⟨wt_116 hw, ?_⟩
    conv => whnf
    refine c_M_up S hw (d := e) hn (by omega) (by omega) hm (hnow n hn1 hn) t2 r2 p3 ?_
    conv => whnf
    refine bk_eq (by omega) (by omega) (fun c => ?_) (fun c => ?_)
    · conv => whnf
      have next := ih (q + 1) (by omega) (fun v hv => by
        rcases Nat.eq_or_lt_of_le (Nat.le_of_lt_succ hv) with w | w
        · subst w
          exact c
        · exact hs v w)
      rw [← nI_1] at next
      exact next
    · conv => whnf
      exact ⟨Or.inl rfl, hN (fun z => c (z q (by omega)))⟩
theorem l_M_agE {P : PSem} (S : SysOK P) {h : PH} (hw : WS h) {u : Nat → Nat} {r : Nat → Nat → Nat} (hu : MDS u) (hr : IMG u r) (hnow : NOW h u) {n d a : Nat} (hn1 : 1 ≤ n) (hn : n ≤ 12) (hd1 : 1 ≤ d) (hdn : d < n) (ht : TBL h r d n) (hx : hI h 144 (13 * d + n) = nI a) (ha : root n (u n) (u d) a) {K : PK} (hY : AGR u r d n a → K (.int 1) h) (hN : ¬ AGR u r d n a → K (.int 0) h) : ∀ j, d + j < n → (∀ e, d + j < e → e < n → e ∣ n → ∀ v, v < 2 ^ Nat.gcd d e → pvl n (u n) a (pvl d (u d) (r (Nat.gcd d e) d) v) = pvl n (u n) (r e n) (pvl e (u e) (r (Nat.gcd d e) e) v)) →
    P.2 n_M_agrees 24 [some (.ref 116), some (.int (nI d)), some (.int (nI n)), none, some (.int (nI (d + j))), none, none] [] h 0 0 K := by
  intro j
  induction j with
  | zero =>
    intro hj hs
    refine S.at 60 [] rfl ?_
    conv => whnf
    refine bk_t ((zn_le (by omega) (by omega)).mpr (by omega)) ?_
    conv => whnf
    exact ⟨Or.inr rfl, hY (fun e e1 e2 e3 => hs e (by omega) e2 e3)⟩
  | succ j ih =>
    intro hj hs
    have n66 : ((d + (j + 1)) ∣ n → ∀ v, v < 2 ^ Nat.gcd d (d + (j + 1)) → pvl n (u n) a (pvl d (u d) (r (Nat.gcd d (d + (j + 1))) d) v) = pvl n (u n) (r (d + (j + 1)) n) (pvl (d + (j + 1)) (u (d + (j + 1))) (r (Nat.gcd d (d + (j + 1))) (d + (j + 1))) v)) → P.2 n_M_agrees 66 [some (.ref 116), some (.int (nI d)), some (.int (nI n)), none, some (.int (nI (d + (j + 1)))), none, none] [] h 0 0 K := by
      intro hq
      have next := ih (by omega) (fun e e1 e2 e3 => by
        rcases Nat.eq_or_lt_of_le (show d + (j + 1) ≤ e by omega) with w | w
        · subst w
          exact hq e3
        · exact hs e w e2 e3)
      rw [← km1] at next
      refine S.at 10 [] rfl ?_
      conv => whnf
      exact next
    have hr1 : n % (d + (j + 1)) < 13 := Nat.lt_of_le_of_lt (Nat.mod_le _ _) (by omega)
    refine S.at 60 [38, 66] rfl ?_
    conv => whnf
    refine bk_f (fun c => absurd ((zn_le (by omega) (by omega)).mp c) (by omega)) ?_
    conv => whnf
    refine ⟨nI_ne0 (by omega) (by omega), ?_⟩
    conv => whnf
    rw [i_rem_n (by omega) (by omega) (by omega)]
    refine bk_eq (b := 0) (by omega) (by decide) (fun c => ?_) (fun c => ?_)
    · conv => whnf
      have hdv := Nat.dvd_of_mod_eq_zero c
      refine c_M_common S (by omega) (by omega) ?_
      conv => whnf
      refine l_M_agV S hw hu hr hnow hn1 hn hd1 hdn (by omega) hj hdv ht hx ha (fun z => n66 (fun _ => z)) (fun z => hN (fun q => z (q _ (by omega) hj hdv))) _ 0 (Nat.zero_add _) (fun v hv => by omega)
    · conv => whnf
      exact n66 (fun z => absurd (Nat.mod_eq_zero_of_dvd z) c)
theorem c_M_agrees {P : PSem} (S : SysOK P) {h : PH} (hw : WS h) {u : Nat → Nat} {r : Nat → Nat → Nat} (hu : MDS u) (hr : IMG u r) (hnow : NOW h u) {n d a : Nat} (hn1 : 1 ≤ n) (hn : n ≤ 12) (hd1 : 1 ≤ d) (hdn : d < n) (ht : TBL h r d n) (ha : a < 2 ^ n) {K : PK} (hY : pvl n (u n) a (u d) = 0 → AGR u r d n a → K (.int 1) (sI h 144 (13 * d + n) (nI a))) (hN : ∀ h', h' = h ∨ h' = sI h 144 (13 * d + n) (nI a) → ¬ (pvl n (u n) a (u d) = 0 ∧ AGR u r d n a) → K (.int 0) h') : P.1 n_M_agrees [.ref 116, .int (nI d), .int (nI n), .int (nI a)] h K := by
  have h12 := pow12 hn
  have hm := (hu n hn1 hn).1
  have hud := MOD_lt (by omega : d ≤ 12) (hu d hd1 (by omega)).1
  have hv := pvl_lt hm ha (p := u d)
  refine S.2.1 _ 7 _ _ _ rfl rfl ?_
  refine S.at 60 [24] rfl ?_
  conv => whnf
  refine ⟨wt_116 hw, ?_⟩
  conv => whnf
  rw [wr_116_18 hw]
  refine ⟨inB_of (wt_125 hw) (wn_125 hw) (by omega) (by decide), ?_⟩
  conv => whnf
  rw [nI_clamp (by omega), hnow d hd1 (by omega)]
  refine ⟨wt_116 hw, ?_⟩
  conv => whnf
  refine c_M_valueAt S hw hn hm (hnow n hn1 hn) ha hud.2 ?_
  conv => whnf
  refine bk_eq (b := 0) (by omega) (by decide) (fun c => ?_) (fun c => ?_)
  · conv => whnf
    refine ⟨wt_116 hw, ?_⟩
    conv => whnf
    rw [wr_116_44 hw, ix13']
    refine ⟨⟨by decide, inB_of (wt_144 hw) (wn_144 hw) (by omega) (by decide)⟩, ?_⟩
    conv => whnf
    rw [nI_clamp (by omega)]
    conv => whnf
    refine S.mk [(0,1),(0,1),(0,1),(0,0),(0,1),(0,0),(0,0)] ?_
    have next := l_M_agE S (h := sI h 144 (13 * d + n) (nI a)) hw hu hr (NOW_sI hnow) hn1 hn hd1 hdn (TBL_sI hn ht) hI_sI ⟨ha, c⟩ (K := K) (hY c) (fun z => hN _ (Or.inr rfl) (fun q => z q.2)) (n - 1 - d) (by omega) (fun e e1 e2 => by omega)
    rw [show d + (n - 1 - d) = n - 1 by omega, ← pk_sub (a := n) (b := 1) (by omega)] at next
    exact next
  · conv => whnf
    exact ⟨Or.inl rfl, hN h (Or.inl rfl) (fun q => c q.1)⟩
theorem l_M_upS {P : PSem} (S : SysOK P) {h : PH} (hw : WS h) {u : Nat → Nat} {r : Nat → Nat → Nat} (hu : MDS u) (hr : IMG u r) (hnow : NOW h u) {n d : Nat} (hn1 : 1 ≤ n) (hn : n ≤ 12) (hd1 : 1 ≤ d) (hd : d ∣ n) (hdn : d < n) (hg : gbw d n = 0) (ht : TBL h r d n) {K : PK} (hK : K .null (sI h 144 (13 * d + n) (nI (r d n)))) : ∀ j q h1, q + j = r d n → (h1 = h ∨ ∃ w, h1 = sI h 144 (13 * d + n) w) →
    P.2 n_M_laysUp 41 [some (.ref 116), some (.int (nI d)), some (.int (nI n)), some (.int (nI q))] [] h1 0 0 K := by
  have h12 := pow12 hn
  obtain ⟨-, -, i3⟩ := hr n d hn1 hn hd1 hd
  obtain ⟨⟨l1, l2, l3⟩, l4⟩ := i3 hdn hg
  have gen : ∀ h1 : PH, (h1 = h ∨ ∃ w, h1 = sI h 144 (13 * d + n) w) → WS h1 ∧ NOW h1 u ∧ TBL h1 r d n ∧ ∀ v, sI h1 144 (13 * d + n) v = sI h 144 (13 * d + n) v := by
    rintro h1 (rfl | ⟨w, rfl⟩)
    · exact ⟨hw, hnow, ht, fun v => rfl⟩
    · exact ⟨hw, NOW_sI hnow, TBL_sI hn ht, fun v => sI_sI⟩
  intro j
  induction j with
  | zero =>
    intro q h1 hq hh
    have e : q = r d n := by omega
    subst e
    obtain ⟨w1, w2, w3, w4⟩ := gen h1 hh
    refine S.at 60 [] rfl ?_
    conv => whnf
    refine ⟨wt_116 w1, ?_⟩
    conv => whnf
    refine c_M_agrees S w1 hu hr w2 hn1 hn hd1 hdn w3 l1 (fun _ _ => ?_) (fun h' _ z => absurd ⟨l2, l3⟩ z)
    conv => whnf
    refine bk_nt ((by decide)) ?_
    conv => whnf
    refine ⟨wt_116 w1, ?_⟩
    conv => whnf
    rw [hR_sI, wr_116_44 w1, ix13']
    refine ⟨⟨by decide, inB_of (h := sI h1 144 _ _) (wt_144 w1) (wn_144 w1) (by omega) (by decide)⟩, ?_⟩
    conv => whnf
    rw [nI_clamp (by omega), sI_sI, w4]
    exact hK
  | succ j ih =>
    intro q h1 hq hh
    obtain ⟨w1, w2, w3, w4⟩ := gen h1 hh
    refine S.at 60 [] rfl ?_
    conv => whnf
    refine ⟨wt_116 w1, ?_⟩
    conv => whnf
    refine c_M_agrees S w1 hu hr w2 hn1 hn hd1 hdn w3 (show q < 2 ^ n by omega) (fun z1 z2 => absurd ⟨by omega, z1, z2⟩ (l4 q (by omega))) (fun h' z _ => ?_)
    conv => whnf
    refine bk_nf (rfl) ?_
    conv => whnf
    have next := ih (q + 1) h' (by omega) (by
      rcases z with rfl | rfl
      · exact hh
      · exact Or.inr ⟨_, w4 _⟩)
    rw [← nI_1] at next
    exact next
theorem l_M_upE {P : PSem} (S : SysOK P) {h : PH} (hw : WS h) {u : Nat → Nat} {r : Nat → Nat → Nat} (hu : MDS u) (hr : IMG u r) (hnow : NOW h u) {n d : Nat} (hn1 : 1 ≤ n) (hn : n ≤ 12) (hd1 : 1 ≤ d) (hd : d ∣ n) (hdn : d < n) (ht : TBL h r d n) {K : PK} (hK : K .null (sI h 144 (13 * d + n) (nI (r d n)))) : ∀ j, d + j < n → gbL d n j = gbw d n →
    P.2 n_M_laysUp 4 [some (.ref 116), some (.int (nI d)), some (.int (nI n)), some (.int (nI (d + j)))] [] h 0 0 K := by
  have h12 := pow12 hn
  intro j
  induction j with
  | zero =>
    intro hj hg
    refine S.at 60 [41] rfl ?_
    conv => whnf
    refine bk_t ((zn_le (by omega) (by omega)).mpr (by omega)) ?_
    conv => whnf
    exact l_M_upS S hw hu hr hnow hn1 hn hd1 hd hdn hg.symm ht hK (r d n) 0 h (by omega) (Or.inl rfl)
  | succ j ih =>
    intro hj hg
    have n37 : ¬ (n % (d + (j + 1)) = 0 ∧ (d + (j + 1)) % d = 0) → P.2 n_M_laysUp 37 [some (.ref 116), some (.int (nI d)), some (.int (nI n)), some (.int (nI (d + (j + 1))))] [] h 0 0 K := by
      intro hq
      unfold gbL at hg
      rw [show d + 1 + j = d + (j + 1) by omega, if_neg hq] at hg
      have next := ih (by omega) hg
      rw [← km1] at next
      refine S.at 10 [] rfl ?_
      conv => whnf
      exact next
    have hr1 : n % (d + (j + 1)) < 13 := Nat.lt_of_le_of_lt (Nat.mod_le _ _) (by omega)
    have hr2 : (d + (j + 1)) % d < 13 := Nat.lt_of_le_of_lt (Nat.mod_le _ _) (by omega)
    refine S.at 60 [37] rfl ?_
    conv => whnf
    refine bk_f (fun c => absurd ((zn_le (by omega) (by omega)).mp c) (by omega)) ?_
    conv => whnf
    refine ⟨nI_ne0 (by omega) (by omega), ?_⟩
    conv => whnf
    rw [i_rem_n (by omega) (by omega) (by omega)]
    refine bk_ne (b := 0) (by omega) (by decide) (fun c => ?_) (fun c => ?_)
    · conv => whnf
      exact n37 (fun q => c q.1)
    · conv => whnf
      refine ⟨nI_ne0 (by omega) (by omega), ?_⟩
      conv => whnf
      rw [i_rem_n (by omega) (by omega) (by omega)]
      refine bk_eq (b := 0) (by omega) (by decide) (fun c2 => ?_) (fun c2 => ?_)
      · unfold gbL at hg
        rw [show d + 1 + j = d + (j + 1) by omega, if_pos ⟨c, c2⟩] at hg
        have hg0 : gbw d n ≠ 0 := by omega
        obtain ⟨g1, g2, g3, g4⟩ := gbw_ok hg0
        obtain ⟨-, i2, -⟩ := hr n d hn1 hn hd1 hd
        have i2 := i2 hdn hg0
        have t1 := ht (gbw d n) d ⟨by omega, by omega, hd1, g4, Or.inl g2⟩
        have t2 := ht n (gbw d n) ⟨hn1, hn, by omega, g3, Or.inr ⟨rfl, g1⟩⟩
        have r1 := (IMG_root hu hr n (gbw d n) hn1 hn (by omega) g3).1
        have r2 := (IMG_root hu hr (gbw d n) d (by omega) (by omega) hd1 g4).1
        have hm := (hu n hn1 hn).1
        rw [hg]
        conv => whnf
        refine ⟨wt_116 hw, ?_⟩
        conv => whnf
        rw [wr_116_44 hw]
        refine ⟨wt_116 hw, ?_⟩
        conv => whnf
        try rw [wr_116_44 hw]
        rw [ix13']
        refine ⟨inB_of (wt_144 hw) (wn_144 hw) (by omega) (by decide), ?_⟩
        conv => whnf
        rw [nI_clamp (show 13 * d + gbw d n < 2 ^ 31 by omega), t1]
        refine ⟨wt_116 hw, ?_⟩
        conv => whnf
        refine c_M_up S hw (d := gbw d n) hn (by omega) (by omega) hm (hnow n hn1 hn) t2 r1 r2 ?_
        conv => whnf
        rw [ix13']
        refine ⟨⟨by decide, inB_of (wt_144 hw) (wn_144 hw) (by omega) (by decide)⟩, ?_⟩
        conv => whnf
        rw [nI_clamp (by omega), ← i2]
        exact hK
      · conv => whnf
        exact n37 (fun q => c2 q.2)
theorem c_M_laysUp {P : PSem} (S : SysOK P) {h : PH} (hw : WS h) {u : Nat → Nat} {r : Nat → Nat → Nat} (hu : MDS u) (hr : IMG u r) (hnow : NOW h u) {n d : Nat} (hn1 : 1 ≤ n) (hn : n ≤ 12) (hd1 : 1 ≤ d) (hd : d ∣ n) (hdn : d < n) (ht : TBL h r d n) {K : PK} (hK : K .null (sI h 144 (13 * d + n) (nI (r d n)))) : P.1 n_M_laysUp [.ref 116, .int (nI d), .int (nI n)] h K := by
  refine S.2.1 _ 4 _ _ _ rfl rfl ?_
  refine S.at 4 [] rfl ?_
  conv => whnf
  have next := l_M_upE S hw hu hr hnow hn1 hn hd1 hd hdn ht hK (n - 1 - d) (by omega) rfl
  rw [show d + (n - 1 - d) = n - 1 by omega, ← pk_sub (a := n) (b := 1) (by omega)] at next
  exact next
def m144 (k : Nat) : Prop := k = 144
theorem l_M_twD {P : PSem} (S : SysOK P) {h0 : PH} (hw0 : WS h0) {u : Nat → Nat} {r : Nat → Nat → Nat} (hu : MDS u) (hr : IMG u r) (hnow0 : NOW h0 u) {n : Nat} (hn1 : 1 ≤ n) (hn : n ≤ 12) {K : PK} (hK : ∀ h', eqX m144 h0 h' → TBL h' r 0 n → P.2 n_M_laysTower 36 [some (.ref 116), some (.int (nI n)), none] [] h' 0 0 K) : ∀ j h, j < n → eqX m144 h0 h → TBL h r j n →
    P.2 n_M_laysTower 23 [some (.ref 116), some (.int (nI n)), some (.int (nI j))] [] h 0 0 K := by
  intro j
  induction j with
  | zero =>
    intro h hj he ht
    refine S.at 60 [36] rfl ?_
    conv => whnf
    refine bk_t ((zn_lt (b := 1) (by omega) (by omega)).mpr (by omega)) ?_
    conv => whnf
    exact S.mk [(0, 1), (0, 1), (0, 0)] (hK h he ht)
  | succ j ih =>
    intro h hj he ht
    have hw := eqX_WS he hw0
    have hnow : NOW h u := fun n a b => by rw [he.2.2.2.2 125 (fun q => by unfold m144 at q; omega)]; exact hnow0 n a b
    have hr1 : n % (j + 1) < 13 := Nat.lt_of_le_of_lt (Nat.mod_le _ _) (by omega)
    have n34 : ∀ h', eqX m144 h0 h' → TBL h' r j n → P.2 n_M_laysTower 34 [some (.ref 116), some (.int (nI n)), some (.int (nI (j + 1)))] [] h' 0 0 K := by
      intro h' a b
      have next := ih h' (by omega) a b
      rw [← pk_m1 j] at next
      refine S.at 10 [] rfl ?_
      conv => whnf
      exact next
    refine S.at 60 [34, 36] rfl ?_
    conv => whnf
    refine bk_f (fun c => absurd ((zn_lt (b := 1) (by omega) (by omega)).mp c) (by omega)) ?_
    conv => whnf
    refine ⟨nI_ne0 (by omega) (by omega), ?_⟩
    conv => whnf
    rw [i_rem_n (by omega) (by omega) (by omega)]
    refine bk_ne (b := 0) (by omega) (by decide) (fun c => ?_) (fun c => ?_)
    · conv => whnf
      refine n34 h he (fun n' d' hb => ?_)
      obtain ⟨b1, b2, b3, b4, b5⟩ := hb
      refine ht n' d' ⟨b1, b2, b3, b4, ?_⟩
      rcases b5 with w | ⟨w1, w2⟩
      · exact Or.inl w
      · refine Or.inr ⟨w1, ?_⟩
        rcases Nat.eq_or_lt_of_le w2 with z | z
        · subst z
          rw [w1] at b4
          exact absurd (Nat.mod_eq_zero_of_dvd b4) c
        · exact z
    · conv => whnf
      have hdv := Nat.dvd_of_mod_eq_zero c
      refine ⟨wt_116 hw, ?_⟩
      conv => whnf
      refine c_M_laysUp S hw hu hr hnow hn1 hn (by omega) hdv hj ht ?_
      conv => whnf
      refine n34 _ (eqX_tr he (eqX_sI rfl)) (fun n' d' hb => ?_)
      obtain ⟨b1, b2, b3, b4, b5⟩ := hb
      by_cases e : n' = n ∧ d' = j + 1
      · obtain ⟨rfl, rfl⟩ := e
        exact hI_sI
      · rw [hI_sI_j (by omega)]
        refine ht n' d' ⟨b1, b2, b3, b4, ?_⟩
        rcases b5 with w | ⟨w1, w2⟩
        · exact Or.inl w
        · exact Or.inr ⟨w1, by omega⟩
theorem l_M_twN {P : PSem} (S : SysOK P) {h0 : PH} (hw0 : WS h0) {u : Nat → Nat} {r : Nat → Nat → Nat} (hu : MDS u) (hr : IMG u r) (hnow0 : NOW h0 u) {K : PK} (hK : ∀ h', eqX m144 h0 h' → (∀ n d, 1 ≤ n → n ≤ 12 → 1 ≤ d → d ∣ n → hI h' 144 (13 * d + n) = nI (r d n)) → K .null h') : ∀ j n h, n + j = 13 → 1 ≤ n → eqX m144 h0 h → (∀ n' d', 1 ≤ n' → n' < n → 1 ≤ d' → d' ∣ n' → hI h 144 (13 * d' + n') = nI (r d' n')) →
    P.2 n_M_laysTower 2 [some (.ref 116), some (.int (nI n)), none] [] h 0 0 K := by
  intro j
  induction j with
  | zero =>
    intro n h hn hn1 he ht
    refine S.at 60 [] rfl ?_
    conv => whnf
    refine bk_t ((zn_lt (a := 12) (by omega) (by omega)).mpr (by omega)) ?_
    conv => whnf
    exact hK h he (fun n' d' a b c d => ht n' d' a (by omega) c d)
  | succ j ih =>
    intro n h hn hn1 he ht
    have hw := eqX_WS he hw0
    have hnow : NOW h u := fun n a b => by rw [he.2.2.2.2 125 (fun q => by unfold m144 at q; omega)]; exact hnow0 n a b
    have hm := (hu n hn1 (by omega)).1
    have hun := MOD_lt (by omega : n ≤ 12) hm
    refine S.at 60 [23] rfl ?_
    conv => whnf
    refine bk_f (fun c => absurd ((zn_lt (a := 12) (by omega) (by omega)).mp c) (by omega)) ?_
    conv => whnf
    refine ⟨wt_116 hw, ?_⟩
    conv => whnf
    rw [wr_116_44 hw, ix13']
    refine ⟨wt_116 hw, ?_⟩
    conv => whnf
    rw [wr_116_18 hw]
    refine ⟨inB_of (wt_125 hw) (wn_125 hw) (by omega) (by decide), ?_⟩
    conv => whnf
    rw [nI_clamp (by omega), hnow n hn1 (by omega)]
    refine c_M_rest (p := 2) S (by decide) (by omega) (by omega) ?_
    rw [xof_rem (by omega) hm]
    conv => whnf
    refine ⟨⟨by decide, inB_of (wt_144 hw) (wn_144 hw) (by omega) (by decide)⟩, ?_⟩
    conv => whnf
    rw [nI_clamp (by omega)]
    conv => whnf
    obtain ⟨i1, -⟩ := hr n n hn1 (by omega) hn1 (Nat.dvd_refl n)
    have next := l_M_twD S hw0 hu hr hnow0 hn1 (by omega) (K := K) (fun h' a b => by
      have next := ih (n + 1) h' (by omega) (by omega) a (fun n' d' c1 c2 c3 c4 => b n' d' ⟨c1, by omega, c3, c4, by omega⟩)
      rw [← nI_1] at next
      refine S.at 10 [] rfl ?_
      conv => whnf
      exact next) (n - 1) (sI h 144 (13 * n + n) (nI (xof n (u n)))) (by omega) (eqX_tr he (eqX_sI rfl)) (fun n' d' hb => by
      obtain ⟨b1, b2, b3, b4, b5⟩ := hb
      have hle := Nat.le_of_dvd b1 b4
      by_cases e : n' = n
      · have e2 : d' = n := by omega
        rw [e, e2, hI_sI, i1 rfl]
      · rw [hI_sI_j (by omega)]
        exact ht n' d' b1 (by omega) b3 b4)
    rw [← pk_sub (a := n) (b := 1) (by omega)] at next
    exact next
theorem c_M_laysTower {P : PSem} (S : SysOK P) {h : PH} (hw : WS h) {u : Nat → Nat} {r : Nat → Nat → Nat} (hu : MDS u) (hr : IMG u r) (hnow : NOW h u) {K : PK} (hK : ∀ h', eqX m144 h h' → (∀ n d, 1 ≤ n → n ≤ 12 → 1 ≤ d → d ∣ n → hI h' 144 (13 * d + n) = nI (r d n)) → K .null h') : P.1 n_M_laysTower [.ref 116] h K := by
  refine S.2.1 _ 3 _ _ _ rfl rfl ?_
  refine S.at 2 [] rfl ?_
  conv => whnf
  exact l_M_twN S hw hu hr hnow hK 12 1 h rfl (Nat.le_refl 1) (eqX_rf _ _) (fun n' d' a b => by omega)
