/-! ORDERS: the class's cycles -/
theorem p1c {P : PSem} {i : Nat} {as as' : List Value} {h : PH} {K : PK} (e : as = as') (H : P.1 i as' h K) : P.1 i as h K := by
  rw [e]
  exact H
theorem p2c {P : PSem} {i x : Nat} {pl pl' : PL} {st : List Value} {h : PH} {ca sl : Nat} {K : PK} (e : pl = pl') (H : P.2 i x pl' st h ca sl K) : P.2 i x pl st h ca sl K := by
  rw [e]
  exact H
def ordF (n m a : Nat) : Nat := fnd (fun k => fpw n m a k == 1) (2 ^ n - 1) 1
theorem ordF_ok {n m a : Nat} (hG : GF n m) (ha : a < 2 ^ n) (h0 : a ≠ 0) : isOrd n m a (ordF n m a) ∧ ordF n m a ≤ 2 ^ n - 1 := by
  obtain ⟨k, h1, h2⟩ := ord_ex hG ha h0
  have e : ordF n m a = k := fnd_uq (p := fun k => fpw n m a k == 1) (show 1 ≤ k from h2.1) (by omega) (beq_iff_eq.mpr h2.2.1) (fun l h3 h4 => beq_eq_false_iff_ne.mpr (h2.2.2 l h3 h4))
  rw [e]
  exact ⟨h2, h1⟩
def stpI (t : Nat → Bool) (p : Nat) : Nat → Nat → Nat → Nat × Nat
  | 0, o, r => (o, r)
  | f + 1, o, r => if r % p = 0 then stpI t p f (if t (o / p) then o / p else o) (r / p) else (o, r)
def stpO (t : Nat → Bool) : Nat → Nat → Nat → Nat → Nat
  | 0, _, o, _ => o
  | f + 1, p, o, r => if p ≤ r then stpO t f (p + 1) (stpI t p 12 o r).1 (stpI t p 12 o r).2 else o
theorem stp_1 : (List.range 9).all (fun n => ab (fun e => e == 0 || !((2 ^ n - 1) % e == 0) || stpO (fun k => k % e == 0) 4096 2 (2 ^ n - 1) (2 ^ n - 1) == e) n 0) = true := by decide +kernel
theorem stp_2 : ab (fun e => e == 0 || !((2 ^ 9 - 1) % e == 0) || stpO (fun k => k % e == 0) 4096 2 (2 ^ 9 - 1) (2 ^ 9 - 1) == e) 9 0 = true := by decide +kernel
theorem stp_3 : ab (fun e => e == 0 || !((2 ^ 10 - 1) % e == 0) || stpO (fun k => k % e == 0) 4096 2 (2 ^ 10 - 1) (2 ^ 10 - 1) == e) 10 0 = true := by decide +kernel
theorem stp_4 : ab (fun e => e == 0 || !((2 ^ 11 - 1) % e == 0) || stpO (fun k => k % e == 0) 4096 2 (2 ^ 11 - 1) (2 ^ 11 - 1) == e) 11 0 = true := by decide +kernel
theorem stp_5 : ab (fun e => e == 0 || !((2 ^ 12 - 1) % e == 0) || stpO (fun k => k % e == 0) 4096 2 (2 ^ 12 - 1) (2 ^ 12 - 1) == e) 12 0 = true := by decide +kernel
theorem stp_all {n e : Nat} (hn1 : 1 ≤ n) (hn : n ≤ 12) (he : e ∣ 2 ^ n - 1) : stpO (fun k => k % e == 0) 4096 2 (2 ^ n - 1) (2 ^ n - 1) = e := by
  have h2 := two_pow_ge2 hn1
  have hle : e ≤ 2 ^ n - 1 := Nat.le_of_dvd (by omega) he
  have he0 : e ≠ 0 := fun z => by
    rw [z] at he
    have := Nat.eq_zero_of_zero_dvd he
    omega
  have key : ab (fun e => e == 0 || !((2 ^ n - 1) % e == 0) || stpO (fun k => k % e == 0) 4096 2 (2 ^ n - 1) (2 ^ n - 1) == e) n 0 = true := by
    rcases (show n < 9 ∨ n = 9 ∨ n = 10 ∨ n = 11 ∨ n = 12 by omega) with w | rfl | rfl | rfl | rfl
    · exact List.all_eq_true.mp stp_1 n (List.mem_range.mpr w)
    · exact stp_2
    · exact stp_3
    · exact stp_4
    · exact stp_5
  have := ab_iff n 0 key e (by omega) (by omega)
  have e1 : (e == 0) = false := beq_eq_false_iff_ne.mpr he0
  have e2 : ((2 ^ n - 1) % e == 0) = true := beq_iff_eq.mpr (Nat.mod_eq_zero_of_dvd he)
  rw [e1, e2, Bool.not_true, Bool.false_or, Bool.false_or] at this
  exact eq_of_beq this
theorem stp_ord {n m a : Nat} (hn : n ≤ 12) (hG : GF n m) (ha : a < 2 ^ n) (h0 : a ≠ 0) : stpO (fun k => fpw n m a k == 1) 4096 2 (2 ^ n - 1) (2 ^ n - 1) = ordF n m a := by
  obtain ⟨h1, h2⟩ := ordF_ok hG ha h0
  have hm := hG.1.1
  have e : (fun k => fpw n m a k == 1) = (fun k => k % ordF n m a == 0) := by
    funext k
    rw [Bool.eq_iff_iff, beq_iff_eq, beq_iff_eq]
    exact ⟨fun q => Nat.mod_eq_zero_of_dvd (ord_dvd hm ha h1 q), fun q => pow_of_dvd hm ha h1.2.1 (Nat.dvd_of_mod_eq_zero q)⟩
  rw [e]
  exact stp_all hm.1 hn (ord_dvd hm ha h1 (fermat hG ha h0))
theorem stpI_le (t : Nat → Bool) (p : Nat) : ∀ f o r, (stpI t p f o r).1 ≤ o ∧ (stpI t p f o r).2 ≤ r
  | 0, o, r => ⟨Nat.le_refl o, Nat.le_refl r⟩
  | f + 1, o, r => by
    unfold stpI
    split
    · obtain ⟨a, b⟩ := stpI_le t p f (if t (o / p) then o / p else o) (r / p)
      refine ⟨Nat.le_trans a ?_, Nat.le_trans b (Nat.div_le_self _ _)⟩
      split
      · exact Nat.div_le_self _ _
      · exact Nat.le_refl o
    · exact ⟨Nat.le_refl o, Nat.le_refl r⟩
theorem l_Cyc_ordI {P : PSem} (S : SysOK P) {h : PH} (hw : WS h) {n m a p : Nat} (hn1 : 1 ≤ n) (hn : n ≤ 12) (hF : FOK h (27 + 4 * n) n m) (hm : MDg n m) (ha : a < 2 ^ n) (hp1 : 2 ≤ p) (hp : p < 5000) {K : PK} : ∀ f s o r, s + f = 12 → o ≤ 4095 → r ≤ 4095 → P.2 n_Cycle_orderOf 8 [some (.ref (29 + 4 * n)), some (.int (nI a)), some (.int (nI (stpI (fun k => fpw n m a k == 1) p f o r).1)), some (.int (nI (stpI (fun k => fpw n m a k == 1) p f o r).2)), some (.int (nI (p + 1))), none] [] h 0 0 K →
    P.2 n_Cycle_orderOf 13 [some (.ref (29 + 4 * n)), some (.int (nI a)), some (.int (nI o)), some (.int (nI r)), some (.int (nI p)), some (.int (nI s))] [] h 0 0 K := by
  have h12 := pow12 hn
  intro f
  induction f with
  | zero =>
    intro s o r hs ho hr next
    refine S.at 60 [] rfl ?_
    conv => whnf
    refine bk_t ((zn_le (a := 12) (by omega) (by omega)).mpr (by omega)) ?_
    conv => whnf
    rw [← nI_1] at next
    exact next
  | succ f ih =>
    intro s o r hs ho hr next
    have hrp : r % p < 5000 := Nat.lt_trans (Nat.mod_lt _ (by omega)) hp
    have hp0 : ¬ nI p = 0 := nI_ne0 (by omega) (by omega)
    have hop : o / p ≤ 4095 := Nat.le_trans (Nat.div_le_self _ _) ho
    have hrp2 : r / p ≤ 4095 := Nat.le_trans (Nat.div_le_self _ _) hr
    refine S.at 60 [] rfl ?_
    conv => whnf
    refine bk_f (fun c => absurd ((zn_le (a := 12) (by omega) (by omega)).mp c) (by omega)) ?_
    conv => whnf
    refine ⟨hp0, ?_⟩
    conv => whnf
    rw [i_rem_n (by omega) (by omega) (by omega)]
    unfold stpI at next
    refine bk_ne (b := 0) (by omega) (by decide) (fun c => ?_) (fun c => ?_)
    · rw [if_neg c] at next
      conv => whnf
      rw [← nI_1] at next
      exact next
    · rw [if_pos c] at next
      conv => whnf
      refine ⟨hp0, ?_⟩
      conv => whnf
      refine ⟨wi_yT hw hn1 hn, ?_⟩
      conv => whnf
      rw [wi_yf hw hn1 hn]
      refine ⟨hp0, ?_⟩
      conv => whnf
      refine ⟨hF.1, ?_⟩
      have e : (nI o / nI p).toInt64 = lN (o / p) := by
        rw [pk_div (by omega) (by omega) (by omega)]
        exact nI_l (by omega)
      refine p1c (congrArg (fun z => [Value.ref (27 + 4 * n), Value.int (nI a), Value.long z]) e) ?_
      refine c_Field_toThe S hF hn hm ha (by omega) ?_
      conv => whnf
      have hpl := fpw_lt hm ha (o / p)
      have ed : nI r / nI p = nI (r / p) := pk_div (by omega) (by omega) (by omega)
      have eo : nI o / nI p = nI (o / p) := pk_div (by omega) (by omega) (by omega)
      refine bk_ne (b := 1) (by omega) (by decide) (fun c2 => ?_) (fun c2 => ?_)
      · rw [if_neg (fun q => c2 (eq_of_beq q))] at next
        conv => whnf
        have next := ih (s + 1) o (r / p) (by omega) ho hrp2 next
        rw [← nI_1, ← ed] at next
        exact next
      · rw [if_pos (beq_iff_eq.mpr c2)] at next
        conv => whnf
        refine ⟨hp0, ?_⟩
        conv => whnf
        have next := ih (s + 1) (o / p) (r / p) (by omega) hop hrp2 next
        rw [← nI_1, ← ed, ← eo] at next
        exact next
theorem l_Cyc_ordO {P : PSem} (S : SysOK P) {h : PH} (hw : WS h) {n m a : Nat} (hn1 : 1 ≤ n) (hn : n ≤ 12) (hF : FOK h (27 + 4 * n) n m) (hm : MDg n m) (ha : a < 2 ^ n) {K : PK} : ∀ f p o r, p + f = 4098 → 2 ≤ p → o ≤ 4095 → r ≤ 4095 → K (.int (nI (stpO (fun k => fpw n m a k == 1) f p o r))) h →
    P.2 n_Cycle_orderOf 8 [some (.ref (29 + 4 * n)), some (.int (nI a)), some (.int (nI o)), some (.int (nI r)), some (.int (nI p)), none] [] h 0 0 K := by
  intro f
  induction f with
  | zero =>
    intro p o r hp hp2 ho hr hK
    refine S.at 60 [] rfl ?_
    conv => whnf
    refine bk_t ((zn_lt (by omega) (by omega)).mpr (by omega)) ?_
    conv => whnf
    exact hK
  | succ f ih =>
    intro p o r hp hp2 ho hr hK
    unfold stpO at hK
    refine S.at 60 [13] rfl ?_
    conv => whnf
    refine bk_lt (by omega) (by omega) (fun c => ?_) (fun c => ?_)
    · rw [if_neg (by omega)] at hK
      conv => whnf
      exact hK
    · rw [if_pos c] at hK
      conv => whnf
      obtain ⟨b1, b2⟩ := stpI_le (fun k => fpw n m a k == 1) p 12 o r
      exact l_Cyc_ordI S hw hn1 hn hF hm ha hp2 (by omega) 12 0 o r rfl ho hr (ih (p + 1) _ _ (by omega) (by omega) (by omega) (by omega) hK)
theorem c_Cycle_orderOf {P : PSem} (S : SysOK P) {h : PH} (hw : WS h) {n m a : Nat} (hn1 : 1 ≤ n) (hn : n ≤ 12) (hF : FOK h (27 + 4 * n) n m) (hG : GF n m) (ha : a < 2 ^ n) (h0 : a ≠ 0) (hl : hI h (29 + 4 * n) 1 = nI (2 ^ n - 1)) {K : PK} (hK : K (.int (nI (ordF n m a))) h) : P.1 n_Cycle_orderOf [.ref (29 + 4 * n), .int (nI a)] h K := by
  have h12 := pow12 hn
  refine S.2.1 _ 6 _ _ _ rfl rfl ?_
  refine S.at 8 [] rfl ?_
  conv => whnf
  refine ⟨wi_yT hw hn1 hn, ?_⟩
  conv => whnf
  rw [hl]
  refine ⟨wi_yT hw hn1 hn, ?_⟩
  conv => whnf
  exact l_Cyc_ordO S hw hn1 hn hF hG.1.1 ha 4096 2 (2 ^ n - 1) (2 ^ n - 1) rfl (Nat.le_refl 2) (by omega) (by omega) (by rw [stp_ord hn hG ha h0]; exact hK)
theorem c_Cycle_isPrimitive {P : PSem} (S : SysOK P) {h : PH} (hw : WS h) {n m a : Nat} (hn1 : 1 ≤ n) (hn : n ≤ 12) (hF : FOK h (27 + 4 * n) n m) (hG : GF n m) (ha : a < 2 ^ n) (h0 : a ≠ 0) (hl : hI h (29 + 4 * n) 1 = nI (2 ^ n - 1)) {K : PK} (hK : K (.int (bI (ordF n m a == 2 ^ n - 1))) h) : P.1 n_Cycle_isPrimitive [.ref (29 + 4 * n), .int (nI a)] h K := by
  have h12 := pow12 hn
  have ho := (ordF_ok hG ha h0).2
  refine S.go 40 rfl rfl rfl ?_
  conv => whnf
  refine ⟨wi_yT hw hn1 hn, ?_⟩
  conv => whnf
  refine c_Cycle_orderOf S hw hn1 hn hF hG ha h0 hl ?_
  conv => whnf
  refine ⟨wi_yT hw hn1 hn, ?_⟩
  conv => whnf
  rw [hl]
  refine bk_ne (by omega) (by omega) (fun c => ?_) (fun c => ?_)
  · conv => whnf
    rw [beq_eq_false_iff_ne.mpr c] at hK
    exact ⟨Or.inl rfl, hK⟩
  · conv => whnf
    rw [beq_iff_eq.mpr c] at hK
    exact ⟨Or.inr rfl, hK⟩
/-- the least primitive element -/
def lpF (n m : Nat) : Nat := fnd (fun a => ordF n m a == 2 ^ n - 1) (2 ^ n - 1) 1
theorem lpF_ok {n m : Nat} (hn : n ≤ 12) (hM : MOD n m) : 1 ≤ lpF n m ∧ lpF n m < 2 ^ n ∧ ordF n m (lpF n m) = 2 ^ n - 1 ∧ ∀ l, 1 ≤ l → l < lpF n m → ordF n m l ≠ 2 ^ n - 1 := by
  obtain ⟨g, g1, g2, g3⟩ := all_prim hn hM
  have hG := all_GF hn hM
  have e := ord_uq (ordF_ok hG g1 g2).1 g3
  obtain ⟨a, b, c, d⟩ := fnd_ok (p := fun a => ordF n m a == 2 ^ n - 1) (2 ^ n - 1) 1 g (by omega) (by omega) (beq_iff_eq.mpr e)
  exact ⟨a, Nat.lt_of_le_of_lt b g1, eq_of_beq c, fun l h1 h2 => beq_eq_false_iff_ne.mp (d l h1 h2)⟩
theorem lpF_prim {n m : Nat} (hn : n ≤ 12) (hM : MOD n m) : prim n m (lpF n m) := by
  obtain ⟨a, b, c, d⟩ := lpF_ok hn hM
  have := (ordF_ok (all_GF hn hM) b (by omega)).1
  rw [c] at this
  exact ⟨b, by omega, this⟩
theorem l_Cyc_least {P : PSem} (S : SysOK P) {h : PH} (hw : WS h) {n m : Nat} (hn1 : 1 ≤ n) (hn : n ≤ 12) (hF : FOK h (27 + 4 * n) n m) (hM : MOD n m) (hl : hI h (29 + 4 * n) 1 = nI (2 ^ n - 1)) (h0 : hI h (29 + 4 * n) 2 = 0) {K : PK} (hK : K (.int (nI (lpF n m))) (sI h (29 + 4 * n) 2 (nI (lpF n m)))) : ∀ j a, a + j = lpF n m → 1 ≤ a →
    P.2 n_Cycle_leastPrimitive 2 [some (.ref (29 + 4 * n)), some (.int (nI a))] [] h 0 0 K := by
  have h12 := pow12 hn
  have hG := all_GF hn hM
  obtain ⟨l1, l2, l3, l4⟩ := lpF_ok hn hM
  intro j
  induction j with
  | zero =>
    intro a ha ha1
    have e : a = lpF n m := by omega
    subst e
    refine S.at 60 [] rfl ?_
    conv => whnf
    refine ⟨wi_yT hw hn1 hn, ?_⟩
    conv => whnf
    rw [hl]
    refine bk_f (fun c => absurd ((zn_lt (by omega) (by omega)).mp c) (by omega)) ?_
    conv => whnf
    refine ⟨wi_yT hw hn1 hn, ?_⟩
    conv => whnf
    rw [h0]
    refine bk_nf (rfl) ?_
    conv => whnf
    refine ⟨wi_yT hw hn1 hn, ?_⟩
    conv => whnf
    refine c_Cycle_orderOf S hw hn1 hn hF hG l2 (by omega) hl ?_
    conv => whnf
    refine ⟨wi_yT hw hn1 hn, ?_⟩
    conv => whnf
    rw [hl, l3]
    refine bk_nf (rfl) ?_
    conv => whnf
    refine ⟨wi_yT hw hn1 hn, ?_⟩
    conv => whnf
    refine S.at 60 [] rfl ?_
    conv => whnf
    refine ⟨wi_yT hw hn1 hn, ?_⟩
    have e1 : hI (sI h (29 + 4 * n) 2 (nI (lpF n m))) (29 + 4 * n) 1 = nI (2 ^ n - 1) := by rw [hI_sI_j (by decide)]; exact hl
    conv => whnf
    rw [e1]
    have fin : hI (sI h (29 + 4 * n) 2 (nI (lpF n m))) (29 + 4 * n) 2 = nI (lpF n m) := hI_sI
    have e2 : nI (lpF n m) + 1 = nI (lpF n m + 1) := nI_1 _
    rw [e2]
    refine bk_lt (by omega) (by omega) (fun c => ?_) (fun c => ?_)
    · conv => whnf
      refine ⟨wi_yT hw hn1 hn, ?_⟩
      conv => whnf
      rw [fin]
      exact hK
    · conv => whnf
      refine ⟨wi_yT hw hn1 hn, ?_⟩
      conv => whnf
      rw [fin]
      refine bk_nt (nI_ne0 (by omega) (by omega)) ?_
      conv => whnf
      refine ⟨wi_yT hw hn1 hn, ?_⟩
      conv => whnf
      rw [fin]
      exact hK
  | succ j ih =>
    intro a ha ha1
    have ho := (ordF_ok hG (show a < 2 ^ n by omega) (by omega)).2
    refine S.at 60 [] rfl ?_
    conv => whnf
    refine ⟨wi_yT hw hn1 hn, ?_⟩
    conv => whnf
    rw [hl]
    refine bk_f (fun c => absurd ((zn_lt (by omega) (by omega)).mp c) (by omega)) ?_
    conv => whnf
    refine ⟨wi_yT hw hn1 hn, ?_⟩
    conv => whnf
    rw [h0]
    refine bk_nf (rfl) ?_
    conv => whnf
    refine ⟨wi_yT hw hn1 hn, ?_⟩
    conv => whnf
    refine c_Cycle_orderOf S hw hn1 hn hF hG (by omega) (by omega) hl ?_
    conv => whnf
    refine ⟨wi_yT hw hn1 hn, ?_⟩
    conv => whnf
    rw [hl]
    refine bk_nt (fun c => l4 a ha1 (by omega) ((zn_eq (by omega) (by omega)).mp c)) ?_
    conv => whnf
    have next := ih (a + 1) (by omega) (by omega)
    rw [← nI_1] at next
    exact next
theorem c_Cycle_leastPrimitive {P : PSem} (S : SysOK P) {h : PH} (hw : WS h) {n m : Nat} (hn1 : 1 ≤ n) (hn : n ≤ 12) (hF : FOK h (27 + 4 * n) n m) (hM : MOD n m) (hl : hI h (29 + 4 * n) 1 = nI (2 ^ n - 1)) (h0 : hI h (29 + 4 * n) 2 = 0 ∨ hI h (29 + 4 * n) 2 = nI (lpF n m)) {K : PK} (hK : K (.int (nI (lpF n m))) (sI h (29 + 4 * n) 2 (nI (lpF n m)))) : P.1 n_Cycle_leastPrimitive [.ref (29 + 4 * n)] h K := by
  obtain ⟨l1, l2, l3, l4⟩ := lpF_ok hn hM
  have h12 := pow12 hn
  refine S.2.1 _ 2 _ _ _ rfl rfl ?_
  refine S.at 2 [] rfl ?_
  conv => whnf
  rcases h0 with h0 | h0
  · exact l_Cyc_least S hw hn1 hn hF hM hl h0 hK (lpF n m - 1) 1 (by omega) (Nat.le_refl 1)
  · rw [sI_same h0] at hK
    refine S.at 60 [] rfl ?_
    conv => whnf
    refine ⟨wi_yT hw hn1 hn, ?_⟩
    conv => whnf
    rw [hl]
    refine bk_f (fun c => absurd ((zn_lt (b := 1) (by omega) (by omega)).mp c) (by omega)) ?_
    conv => whnf
    refine ⟨wi_yT hw hn1 hn, ?_⟩
    conv => whnf
    rw [h0]
    refine bk_nt (nI_ne0 (by omega) (by omega)) ?_
    conv => whnf
    refine ⟨wi_yT hw hn1 hn, ?_⟩
    conv => whnf
    rw [h0]
    exact hK
