/-! roots and codes of the class -/
theorem c_Cycle_rootCount {P : PSem} (S : SysOK P) {h : PH} {u : Nat → Nat} {r : Nat → Nat → Nat} {n a k : Nat} (hn1 : 1 ≤ n) (hn : n ≤ 12) (hu : MDS u) (hC : CI h u r) (ha1 : 1 ≤ a) (ha : a < 2 ^ n) (hk1 : 1 ≤ k) (hk : k ≤ 9999) {K : PK}
    (hK : ∀ h', CI h' u r → FQ h h' → K (.int (nI (if lgF n (u n) (lpF n (u n)) a % Nat.gcd k (2 ^ n - 1) = 0 then Nat.gcd k (2 ^ n - 1) else 0))) h') : P.1 n_Cycle_rootCount [.ref (29 + 4 * n), .int (nI a), .int (nI k)] h K := by
  have hw := hC.1
  have h12 := pow12 hn
  have h2 := two_pow_ge2 hn1
  have hl := (hC.2.2.1 n hn1 hn).1
  have hla := (lgF_ok (hu n hn1 hn) (lpF_prim hn (hu n hn1 hn)) ha (by omega)).1
  have hg := (gcd_s (k := k) (show 0 < 2 ^ n - 1 by omega)).1
  have hgk : Nat.gcd k (2 ^ n - 1) ≤ k := Nat.le_of_dvd (by omega) (Nat.gcd_dvd_left _ _)
  refine S.go 60 rfl rfl rfl ?_
  conv => whnf
  refine ⟨wi_yT hw hn1 hn, ?_⟩
  conv => whnf
  rw [hl]
  refine c_FT_common S (by omega) (by omega) ?_
  conv => whnf
  refine ⟨wi_yT hw hn1 hn, ?_⟩
  conv => whnf
  refine c_Cycle_logarithmOf S hn1 hn hu hC ha1 ha (fun h' a1 a2 => ?_)
  conv => whnf
  refine c_FT_divides S (by omega) (by omega) ?_
  conv => whnf
  refine bk_b0 (fun c => ?_) (fun c => ?_)
  · have c := of_decide_eq_false c
    conv => whnf
    rw [if_neg (fun q => c ⟨hg, q⟩)] at hK
    exact hK h' a1 a2
  · have c := of_decide_eq_true c
    conv => whnf
    rw [if_pos c.2] at hK
    exact hK h' a1 a2
theorem l_Cyc_rl {P : PSem} (S : SysOK P) {h : PH} (hw : WS h) {n la k : Nat} (hn1 : 1 ≤ n) (hn : n ≤ 12) (hl : hI h (29 + 4 * n) 1 = nI (2 ^ n - 1)) (hla : la < 2 ^ n - 1) {K : PK} (hK : K (.int (nI (slF k (2 ^ n - 1) la))) h) (hs : slF k (2 ^ n - 1) la * k % (2 ^ n - 1) = la) (hm : ∀ j, j < slF k (2 ^ n - 1) la → j * k % (2 ^ n - 1) ≠ la) (hlt : slF k (2 ^ n - 1) la < 2 ^ n - 1) : ∀ j e, e + j = slF k (2 ^ n - 1) la →
    P.2 n_Cycle_rootLogarithm 14 [some (.ref (29 + 4 * n)), some (.int (nI la)), none, some (.int (nI (k % (2 ^ n - 1)))), some (.int (nI (e * k % (2 ^ n - 1)))), some (.int (nI e))] [] h 0 0 K := by
  have h12 := pow12 hn
  have h2 := two_pow_ge2 hn1
  have hL : 0 < 2 ^ n - 1 := by omega
  intro j
  induction j with
  | zero =>
    intro e he
    have e1 : e = slF k (2 ^ n - 1) la := by omega
    subst e1
    refine S.at 60 [] rfl ?_
    conv => whnf
    refine ⟨wi_yT hw hn1 hn, ?_⟩
    conv => whnf
    rw [hl]
    refine bk_f (fun c => absurd ((zn_le (by omega) (by omega)).mp c) (by omega)) ?_
    conv => whnf
    rw [hs]
    refine bk_nf (rfl) ?_
    conv => whnf
    exact hK
  | succ j ih =>
    intro e he
    have m1 := Nat.mod_lt (e * k) hL
    have m2 := Nat.mod_lt k hL
    have next := ih (e + 1) (by omega)
    have hne := hm e (by omega)
    have e2 : (e + 1) * k % (2 ^ n - 1) = (e * k % (2 ^ n - 1) + k % (2 ^ n - 1)) % (2 ^ n - 1) := by rw [Nat.succ_mul, Nat.add_mod]
    rw [e2] at next
    generalize e * k % (2 ^ n - 1) = x at m1 next hne ⊢
    generalize k % (2 ^ n - 1) = y at m2 next ⊢
    refine S.at 60 [] rfl ?_
    conv => whnf
    refine ⟨wi_yT hw hn1 hn, ?_⟩
    conv => whnf
    rw [hl]
    refine bk_f (fun c => absurd ((zn_le (by omega) (by omega)).mp c) (by omega)) ?_
    conv => whnf
    refine bk_nt (fun c => absurd ((zn_eq (by omega) (by omega)).mp c) hne) ?_
    conv => whnf
    refine ⟨wi_yT hw hn1 hn, ?_⟩
    conv => whnf
    rw [hl]
    have e3 : (fun x y : Int32 => x + y) (nI x) (nI y) = nI (x + y) := (zn_plus x y).symm
    rw [e3]
    refine bk_lt (by omega) (by omega) (fun c => ?_) (fun c => ?_)
    · conv => whnf
      rw [Nat.mod_eq_of_lt c, ← nI_1 e] at next
      exact next
    · conv => whnf
      refine ⟨wi_yT hw hn1 hn, ?_⟩
      conv => whnf
      rw [hl]
      rw [Nat.mod_eq_sub_mod c, Nat.mod_eq_of_lt (by omega), ← nI_1 e, ← pk_sub c] at next
      exact next
theorem c_Cycle_rootLogarithm {P : PSem} (S : SysOK P) {h : PH} (hw : WS h) {n la k : Nat} (hn1 : 1 ≤ n) (hn : n ≤ 12) (hl : hI h (29 + 4 * n) 1 = nI (2 ^ n - 1)) (hk : k ≤ 9999) (hla : la < 2 ^ n - 1) (hd : la % Nat.gcd k (2 ^ n - 1) = 0) {K : PK} (hK : K (.int (nI (slF k (2 ^ n - 1) la))) h) : P.1 n_Cycle_rootLogarithm [.ref (29 + 4 * n), .int (nI la), .int (nI k)] h K := by
  have h12 := pow12 hn
  have h2 := two_pow_ge2 hn1
  have hL : 0 < 2 ^ n - 1 := by omega
  obtain ⟨s1, s2, s3⟩ := slF_ok hL hla hd
  have hle : (2 ^ n - 1) / Nat.gcd k (2 ^ n - 1) ≤ 2 ^ n - 1 := Nat.div_le_self _ _
  refine S.2.1 _ 6 _ _ _ rfl rfl ?_
  refine S.at 60 [14] rfl ?_
  conv => whnf
  refine ⟨wi_yT hw hn1 hn, ?_⟩
  conv => whnf
  rw [hl]
  refine bk_f (fun c => absurd ((zn_le (b := 0) (by omega) (by decide)).mp c) (by omega)) ?_
  conv => whnf
  refine ⟨wi_yT hw hn1 hn, ?_⟩
  conv => whnf
  rw [hl]
  refine ⟨nI_ne0 (by omega) (by omega), ?_⟩
  conv => whnf
  rw [i_rem_n (by omega) (by omega) (by omega)]
  refine S.mk [(0,1),(0,1),(0,0),(0,1),(0,1),(0,1)] ?_
  have := l_Cyc_rl S hw hn1 hn hl hla hK s2 (fun j hj q => by have := s3 j q; omega) (by omega) (slF k (2 ^ n - 1) la) 0 (by omega)
  rw [Nat.zero_mul, Nat.zero_mod] at this
  exact this
theorem l_Cyc_lr {P : PSem} (S : SysOK P) {h : PH} (hw : WS h) {n m g e s c : Nat} (hn1 : 1 ≤ n) (hn : n ≤ 12) (hF : FOK h (27 + 4 * n) n m) (hm : MDg n m) (hg : g < 2 ^ n) (hc1 : 1 ≤ c) (hc : c < 5000) {K : PK} (hK : K (.int (nI (mnS (fun i => fpw n m g (e + i * s)) (c - 1)))) h) : ∀ j q, q + j = c → 1 ≤ q →
    P.2 n_Cycle_leastRoot 38 [some (.ref (29 + 4 * n)), none, none, some (.int (nI c)), some (.int (nI (fpw n m g (e + (q - 1) * s)))), some (.int (nI (fpw n m g s))), some (.int (nI (mnS (fun i => fpw n m g (e + i * s)) (q - 1)))), some (.int (nI q))] [] h 1 4096 K := by
  have h12 := pow12 hn
  have hp := fun i => fpw_lt hm hg i
  have hmn : ∀ k, mnS (fun i => fpw n m g (e + i * s)) k < 2 ^ n := fun k => by
    obtain ⟨i, -, i2⟩ := (mnS_ok (fun i => fpw n m g (e + i * s)) k).1
    rw [i2]
    exact hp _
  intro j
  induction j with
  | zero =>
    intro q hq hq1
    have e1 : q = c := by omega
    subst e1
    refine S.at 60 [] rfl ?_
    conv => whnf
    refine bk_t ((zn_le (by omega) (by omega)).mpr (by omega)) ?_
    conv => whnf
    exact hK
  | succ j ih =>
    intro q hq hq1
    have b1 := hmn (q - 1)
    have b2 := hp (e + (q - 1) * s)
    refine S.at 60 [] rfl ?_
    conv => whnf
    refine bk_f (fun c => absurd ((zn_le (by omega) (by omega)).mp c) (by omega)) ?_
    conv => whnf
    refine ⟨wi_yT hw hn1 hn, ?_⟩
    conv => whnf
    rw [wi_yf hw hn1 hn]
    refine ⟨hF.1, ?_⟩
    conv => whnf
    refine c_Field_times S hF hn hm b2 (hp s) ?_
    conv => whnf
    have b3 := fm_lt hm b2 (hp s)
    refine c_Math_min S (by omega) (by omega) ?_
    conv => whnf
    have next := ih (q + 1) (by omega) (by omega)
    have e2 : e + (q + 1 - 1) * s = e + (q - 1) * s + s := by
      rw [Nat.add_sub_cancel, Nat.add_assoc, ← Nat.succ_mul]
      congr 2
      omega
    have e3 : mnS (fun i => fpw n m g (e + i * s)) (q + 1 - 1) = min (mnS (fun i => fpw n m g (e + i * s)) (q - 1)) (fpw n m g (e + (q + 1 - 1) * s)) := by
      obtain ⟨t, rfl⟩ : ∃ t, q = t + 1 := ⟨q - 1, by omega⟩
      rfl
    rw [e3, e2, fpw_add hm hg, ← nI_1] at next
    exact next
theorem c_Cycle_leastRoot {P : PSem} (S : SysOK P) {h : PH} {u : Nat → Nat} {r : Nat → Nat → Nat} {n a k : Nat} (hn1 : 1 ≤ n) (hn : n ≤ 12) (hu : MDS u) (hC : CI h u r) (ha1 : 1 ≤ a) (ha : a < 2 ^ n) (hk1 : 1 ≤ k) (hk : k ≤ 9999) (hd : lgF n (u n) (lpF n (u n)) a % Nat.gcd k (2 ^ n - 1) = 0) {K : PK}
    (hK : ∀ h', CI h' u r → FQ h h' → K (.int (nI (rtL n (u n) a k))) h') : P.1 n_Cycle_leastRoot [.ref (29 + 4 * n), .int (nI a), .int (nI k)] h K := by
  have hw := hC.1
  have hM := hu n hn1 hn
  have hm := hM.1
  have hG := all_GF hn hM
  have hpr := lpF_prim hn hM
  have h12 := pow12 hn
  have h2 := two_pow_ge2 hn1
  have hL : 0 < 2 ^ n - 1 := by omega
  obtain ⟨y1, y2⟩ := hC.2.2.1 n hn1 hn
  have hla := (lgF_ok hM hpr ha (by omega)).1
  obtain ⟨g1, g2, g3⟩ := gcd_s (k := k) hL
  obtain ⟨s1, s2, s3⟩ := slF_ok hL hla hd
  have hle : (2 ^ n - 1) / Nat.gcd k (2 ^ n - 1) ≤ 2 ^ n - 1 := Nat.div_le_self _ _
  have hgk : Nat.gcd k (2 ^ n - 1) ≤ 2 ^ n - 1 := Nat.le_of_dvd (by omega) (Nat.gcd_dvd_right _ _)
  refine S.2.1 _ 8 _ _ _ rfl rfl ?_
  refine S.at 80 [38] rfl ?_
  conv => whnf
  refine ⟨wi_yT hw hn1 hn, ?_⟩
  conv => whnf
  rw [y1]
  refine c_FT_common S (by omega) (by omega) ?_
  conv => whnf
  refine bk_t ((zn_le (a := 1) (by omega) (by omega)).mpr (by omega)) ?_
  conv => whnf
  refine ⟨wi_yT hw hn1 hn, ?_⟩
  conv => whnf
  rw [wi_yf hw hn1 hn]
  refine ⟨wi_yT hw hn1 hn, ?_⟩
  conv => whnf
  refine c_Cycle_leastPrimitive S hw hn1 hn (hC.2.1 n hn1 hn) hM y1 y2 ?_
  have hC1 := CI_prim hn1 hn hC
  have hf1 : FQ h (sI h (29 + 4 * n) 2 (nI (lpF n (u n)))) := FQ_sI (by unfold scr; omega)
  conv => whnf
  refine ⟨wi_yT hw hn1 hn, ?_⟩
  conv => whnf
  refine c_Cycle_logarithmOf S hn1 hn hu hC1 ha1 ha (fun h' a1 a2 => ?_)
  obtain ⟨z1, z2⟩ := a1.2.2.1 n hn1 hn
  have hw' := a1.1
  conv => whnf
  refine ⟨wi_yT hw' hn1 hn, ?_⟩
  conv => whnf
  refine c_Cycle_rootLogarithm S hw' hn1 hn z1 hk hla hd ?_
  conv => whnf
  have hF' := a1.2.1 n hn1 hn
  refine ⟨hF'.1, ?_⟩
  conv => whnf
  refine p1c (congrArg (fun z => [Value.ref (27 + 4 * n), Value.int (nI (lpF n (u n))), Value.long z]) (nI_l (n := slF k (2 ^ n - 1) (lgF n (u n) (lpF n (u n)) a)) (by omega))) ?_
  refine c_Field_toThe S hF' hn hm hpr.1 (by omega) ?_
  conv => whnf
  refine ⟨wi_yT hw' hn1 hn, ?_⟩
  conv => whnf
  rw [wi_yf hw' hn1 hn]
  refine ⟨wi_yT hw' hn1 hn, ?_⟩
  conv => whnf
  refine c_Cycle_leastPrimitive S hw' hn1 hn hF' hM z1 z2 ?_
  have hC2 := CI_prim hn1 hn a1
  have hf2 : FQ h (sI h' (29 + 4 * n) 2 (nI (lpF n (u n)))) := FQ_tr (FQ_tr hf1 a2) (FQ_sI (by unfold scr; omega))
  have hF2 := hC2.2.1 n hn1 hn
  have z3 := (hC2.2.2.1 n hn1 hn).1
  conv => whnf
  refine ⟨wi_yT hw' hn1 hn, ?_⟩
  conv => whnf
  rw [z3]
  refine ⟨nI_ne0 (by omega) (by omega), ?_⟩
  conv => whnf
  have e2 : (nI (2 ^ n - 1) / nI (Nat.gcd k (2 ^ n - 1))).toInt64 = lN ((2 ^ n - 1) / Nat.gcd k (2 ^ n - 1)) := by
    rw [pk_div (by omega) (by omega) (by omega)]
    exact nI_l (by omega)
  refine ⟨hF2.1, ?_⟩
  refine p1c (congrArg (fun z => [Value.ref (27 + 4 * n), Value.int (nI (lpF n (u n))), Value.long z]) e2) ?_
  refine c_Field_toThe S hF2 hn hm hpr.1 (by omega) ?_
  conv => whnf
  refine S.mk [(0,1),(0,0),(0,0),(0,1),(0,1),(0,1),(0,1),(0,1)] ?_
  have := l_Cyc_lr (g := lpF n (u n)) (e := slF k (2 ^ n - 1) (lgF n (u n) (lpF n (u n)) a)) (s := (2 ^ n - 1) / Nat.gcd k (2 ^ n - 1)) S hC2.1 hn1 hn hF2 hm hpr.1 g1 (by omega) (K := K) (by
    rw [← rtL_eq hG hpr ha (by omega) hk1 hd]
    exact hK _ hC2 hf2) (Nat.gcd k (2 ^ n - 1) - 1) 1 (by omega) (Nat.le_refl 1)
  rw [Nat.sub_self] at this
  have e4 : mnS (fun i => fpw n (u n) (lpF n (u n)) (slF k (2 ^ n - 1) (lgF n (u n) (lpF n (u n)) a) + i * ((2 ^ n - 1) / Nat.gcd k (2 ^ n - 1)))) 0 = fpw n (u n) (lpF n (u n)) (slF k (2 ^ n - 1) (lgF n (u n) (lpF n (u n)) a) + 0 * ((2 ^ n - 1) / Nat.gcd k (2 ^ n - 1))) := rfl
  rw [e4, Nat.zero_mul, Nat.add_zero] at this
  exact this
