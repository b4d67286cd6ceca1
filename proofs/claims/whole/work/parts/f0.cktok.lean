/-! CHECK: the class's check of a token -/
theorem row_ok {tx : Nat → Nat} {L t : Nat} (hM : L ≤ 2000) (hk : tkk tx L t = 5) : (if a13 (tkw tx L t) then nI (bF (tkw tx L t) 13) else -1) = cBt tx L t := by
  have hq := tkS_le (tx := tx) hM t
  obtain ⟨r1, r2, r3, r4⟩ := run_ok (f := fun q => dgtB (tx q)) hq hM
  have r1 : tkS tx L t ≤ rwE tx L (tkS tx L t) := r1
  unfold tkk tkK at hk
  unfold tkw tkW cBt
  split at hk
  · omega
  · rename_i n1
    split at hk
    · split at hk
      · omega
      · unfold wdK at hk
        repeat' split at hk
        all_goals omega
    · rename_i n2
      split at hk
      · rename_i n3
        split at hk
        · omega
        · rename_i n4
          rw [if_neg n1, if_neg n2, if_pos n3]
          exact bits_row (by omega) (fun i hi => (r4 (tkS tx L t + i) (by omega) (show _ < rwE tx L (tkS tx L t) by omega)).2)
      · unfold sgK at hk
        repeat' split at hk
        all_goals omega
theorem c_Script_checkToken {P : PSem} (S : SysOK P) {h0 h : PH} (hw0 : WS h0) {s : Nat} (hs : SCL s) {tx : Nat → Nat} {L : Nat} (hM : L ≤ 2000) {l0 : Nat → Int64} {f0 s0 m0 d0 : Nat → Int32} {t : Nat} (ht : t < pT (tkk tx L)) (hf : ∀ i, i < t → cFL tx L l0 f0 i = 0) (c : CHK h0 h s tx L l0 f0 s0 m0 d0 t) {K : PK}
    (hK : ∀ h', (cFL tx L l0 f0 t = 0 → CHK h0 h' s tx L l0 f0 s0 m0 d0 (t + 1)) → eqY (fun k => s ≤ k ∧ k ≤ s + 9) h0 h' → hI h' (s + 3) t = nI (tkS tx L t) → K (.int (nI (cFL tx L l0 f0 t))) h') : P.1 n_Script_checkToken [.ref s, .int (nI t)] h K := by
  have hw := eqY_WS c.1 hw0
  have t4 : t < 400 := Nat.lt_of_lt_of_le ht (pT_ok (tkk tx L)).1
  obtain ⟨v1, v2, v3, v4, v5⟩ := CIV_ok l0 f0 t (by omega) hf
  have b8 := (pT_8 (K := tkk tx L) (t := t) (by omega)).2
  have r10 : cR tx L t ≤ 10 := pst_le (tkk tx L) t
  have k14 := tkk_le tx L t
  have pg := ((pgo_iff _ t).mp ((pT_ok (tkk tx L)).2.2 t ht)).1
  have tab := gAf_tab rfl pg
  have kd : (cR tx L t = 3 ∨ cR tx L t = 2 ∨ cR tx L t = 6 ∨ cR tx L t = 9 → tkk tx L t = 5) ∧ (cR tx L t = 5 → tkk tx L t = 4) := by
    have e : cR tx L t = (pst (tkk tx L) t).1 := rfl
    omega
  clear tab
  obtain ⟨e1, e2, e3⟩ := c.2.2.2.2.2.1 t ht
  have e4 := c.2.2.2.2.2.2.1 t ht
  rw [if_neg (Nat.lt_irrefl t)] at e4
  have hn := c.2.2.1
  have hl := c.2.2.2.1
  have fL : hL h (s + 6) = cNL tx L l0 t := funext c.2.2.2.2.2.2.2.1
  have fF := c.2.2.2.2.2.2.2.2.1
  have same : cFL tx L l0 f0 t = 0 → (cR tx L t = 1 ∨ cR tx L t = 4 ∨ cR tx L t = 9 ∨ ((cR tx L t = 8 ∨ cR tx L t = 10) ∧ tkk tx L t ≠ 6) ∨ (cR tx L t = 7 ∧ tkk tx L t ≠ 4 ∧ tkk tx L t ≠ 5)) → K (.int 0) h := fun z y => by
    have := hK h (fun _ => c.same y) c.1 e3
    rw [z] at this
    exact this
  have fld : (cR tx L t = 2 ∨ cR tx L t = 6) → ∀ K' : PK, (∀ v h', K (.int v) h' → K' (.int v) h') → P.1 n_Script_checkField [.ref s, .int (nI t)] h K' := by
    intro y K' hK'
    have hwl := tkw_bd hM (Or.inr (kd.1 (by omega)))
    have hc : cFL tx L l0 f0 t = if 1 ≤ tkw tx L t ∧ tkw tx L t ≤ 12 then 0 else 5 := by
      unfold cFL
      rw [if_pos y]
    refine c_Script_checkField S hw hs t4 e2 r10 e4 hwl hn (fun z => ?_) (fun z => ?_) (fun z1 z2 => ?_)
    · rw [if_neg (by omega)] at v4
      omega
    · rw [if_neg z] at hc
      have := hK h (fun q => by rw [hc] at q; cases q) c.1 e3
      rw [hc] at this
      exact hK' _ _ this
    · rw [if_pos ⟨z1, z2⟩] at hc
      have g := c.fld y
      have := hK _ (fun _ => g) g.1 ((g.2.2.2.2.2.1 t ht).2.2)
      rw [hc] at this
      exact hK' _ _ this
  refine S.2.1 _ 2 _ _ _ rfl rfl ?_
  refine S.at 60 [32] rfl ?_
  conv => whnf
  refine ⟨sc_t hw hs, ?_⟩
  conv => whnf
  rw [sc_r2 hw hs]
  refine ⟨inB_of (sc_t2 hw hs) (sc_n2 hw hs) t4 (by decide), ?_⟩
  conv => whnf
  rw [nI_clamp (by omega), e2]
  refine bk_eq (b := 2) (by omega) (by omega) (fun y => ?_) (fun y2 => ?_)
  · conv => whnf
    refine ⟨sc_t hw hs, ?_⟩
    refine fld (Or.inl y) _ (fun v h' q => ?_)
    conv => whnf
    exact q
  refine bk_eq (b := 3) (by omega) (by omega) (fun y => ?_) (fun y3 => ?_)
  · have k5 := kd.1 (Or.inl y)
    have b := v2 (Or.inl y)
    have hc : cFL tx L l0 f0 t = if isMB (clf tx L t) (cBt tx L t) then 0 else 5 := by
      unfold cFL
      rw [if_neg (by omega), if_pos y]
    conv => whnf
    refine ⟨sc_t hw hs, ?_⟩
    refine c_Script_checkModulus S hw hs t4 e4 (tkw_bd hM (Or.inr k5)) (row_ok hM k5) hl b.1 b.2 (fun z => ?_) (fun z => ?_)
    · rw [z] at hc
      have := hK h (fun q => by rw [hc] at q; cases q) c.1 e3
      rw [hc] at this
      exact this
    · rw [z] at hc
      have g := c.mod y
      have := hK _ (fun _ => g) g.1 ((g.2.2.2.2.2.1 t ht).2.2)
      rw [hc] at this
      exact this
  refine bk_eq (b := 4) (by omega) (by omega) (fun y => ?_) (fun y4 => ?_)
  · conv => whnf
    exact same (by unfold cFL; rw [if_neg (by omega), if_neg (by omega), if_neg (by omega), if_neg (by omega), if_neg (by omega)]) (Or.inr (Or.inl y))
  refine bk_eq (b := 5) (by omega) (by omega) (fun y => ?_) (fun y5 => ?_)
  · have hc : cFL tx L l0 f0 t = if cIX tx L l0 t < cnm tx L t then 3 else 0 := by
      unfold cFL
      rw [if_neg (by omega), if_neg (by omega), if_pos y]
    rw [if_neg (by omega)] at v4
    conv => whnf
    refine ⟨sc_t hw hs, ?_⟩
    refine c_Script_checkNewName S hw hs t4 e4 hn (by omega) (fun z => ?_) (fun z => ?_)
    · rw [fL] at z
      have z : cIX tx L l0 t < cnm tx L t := z
      rw [if_pos z] at hc
      have := hK h (fun q => by rw [hc] at q; cases q) c.1 e3
      rw [hc] at this
      exact this
    · rw [fL] at z
      have z : ¬ cIX tx L l0 t < cnm tx L t := z
      rw [if_neg z] at hc
      have g := c.name y
      have := hK _ (fun _ => g) g.1 ((g.2.2.2.2.2.1 t ht).2.2)
      rw [hc] at this
      exact this
  refine bk_eq (b := 6) (by omega) (by omega) (fun y => ?_) (fun y6 => ?_)
  · conv => whnf
    refine ⟨sc_t hw hs, ?_⟩
    refine fld (Or.inr y) _ (fun v h' q => ?_)
    conv => whnf
    exact q
  refine bk_eq (b := 7) (by omega) (by omega) (fun y => ?_) (fun y7 => ?_)
  · have b := v2 (Or.inr (by omega))
    have hc : cFL tx L l0 f0 t = (if tkk tx L t = 5 then (if cBt tx L t = -1 then 5 else 0) else if tkk tx L t = 4 then (if cIX tx L l0 t < cnm tx L t then (if clf tx L t % (cNF tx L f0 t (cIX tx L l0 t)).toNatClampNeg = 0 then 0 else 6) else 4) else 0) := by
      unfold cFL
      rw [if_neg (by omega), if_neg (by omega), if_neg (by omega), if_pos y]
    rw [if_neg (by omega)] at v4
    conv => whnf
    refine ⟨sc_t hw hs, ?_⟩
    by_cases k5 : tkk tx L t = 5
    · rw [if_pos k5] at hc
      refine c_Script_checkAtom5 S hw hs t4 (by rw [e1, k5]) e4 (tkw_bd hM (Or.inr k5)) (row_ok hM k5) (fun z => ?_) (fun z => ?_)
      · rw [if_pos z] at hc
        have g := c.row y k5
        have := hK _ (fun q => by rw [hc] at q; cases q) g.1 ((g.2.2.2.2.2.1 t ht).2.2)
        rw [hc] at this
        exact this
      · rw [if_neg z] at hc
        have g := c.row y k5
        have := hK _ (fun _ => g) g.1 ((g.2.2.2.2.2.1 t ht).2.2)
        rw [hc] at this
        exact this
    · rw [if_neg k5] at hc
      by_cases k4 : tkk tx L t = 4
      · rw [if_pos k4] at hc
        have hx : ixF (hL h (s + 6)) (cnm tx L t) (lN (tkw tx L t)) = cIX tx L l0 t := by
          rw [fL]
          rfl
        refine c_Script_checkAtom4 S hw hs t4 (by rw [e1, k4]) e4 hn (by omega) hl b.2 (fun j hj => by rw [fF]; exact v1 j hj) ?_ ?_ ?_
        · rw [hx]
          intro z
          rw [if_neg z] at hc
          have := hK h (fun q => by rw [hc] at q; cases q) c.1 e3
          rw [hc] at this
          exact this
        · rw [hx]
          intro a z za a12 zd
          rw [fF] at za
          rw [if_pos z, za, nI_clamp (by omega), if_neg zd] at hc
          have := hK h (fun q => by rw [hc] at q; cases q) c.1 e3
          rw [hc] at this
          exact this
        · rw [hx]
          intro a z za a12 zd
          rw [fF] at za
          have g := c.atm y k4 za a12 b.2
          rw [if_pos z, za, nI_clamp (by omega), if_pos zd] at hc
          have := hK _ (fun _ => g) g.1 ((g.2.2.2.2.2.1 t ht).2.2)
          rw [hc] at this
          exact this
      · rw [if_neg k4] at hc
        exact c_Script_checkAtom0 S hw hs t4 e1 k14 k5 k4 (same hc (Or.inr (Or.inr (Or.inr (Or.inr ⟨y, k4, k5⟩)))))
  have hz : cR tx L t ≠ 9 → cFL tx L l0 f0 t = 0 := fun y9 => by
    unfold cFL
    rw [if_neg (by omega), if_neg (by omega), if_neg (by omega), if_neg (by omega), if_neg (by omega)]
  have n32 : (cR tx L t = 8 ∨ cR tx L t = 10) → P.2 n_Script_checkToken 32 [some (.ref s), some (.int (nI t))] [] h 0 0 K := by
    intro y
    have hc := hz (by omega)
    refine S.at 40 [] rfl ?_
    conv => whnf
    refine ⟨sc_t hw hs, ?_⟩
    conv => whnf
    rw [hn]
    refine ⟨sc_t hw hs, ?_⟩
    conv => whnf
    rw [sc_r1 hw hs]
    refine ⟨inB_of (sc_t1 hw hs) (sc_n1 hw hs) t4 (by decide), ?_⟩
    conv => whnf
    rw [nI_clamp (by omega), e1]
    refine bk_ne (b := 6) (by omega) (by omega) (fun z => ?_) (fun z => ?_)
    · conv => whnf
      refine ⟨sc_t hw hs, ?_⟩
      conv => whnf
      have e0 : (fun x y : Int32 => x + y) (nI (cnm tx L t)) 0 = hI h s 6 := by
        rw [hn]
        exact Int32.add_zero _
      rw [e0, sI_same rfl]
      exact same hc (Or.inr (Or.inr (Or.inr (Or.inl ⟨y, z⟩))))
    · conv => whnf
      refine ⟨sc_t hw hs, ?_⟩
      conv => whnf
      have g := c.semi y z
      have e0 : (fun x y : Int32 => x + y) (nI (cnm tx L t)) 1 = nI (cnm tx L t + 1) := nI_1 _
      rw [e0]
      have := hK _ (fun _ => g) g.1 ((g.2.2.2.2.2.1 t ht).2.2)
      rw [hc] at this
      exact this
  refine bk_eq (b := 8) (by omega) (by omega) (fun y => ?_) (fun y8 => ?_)
  · conv => whnf
    exact n32 (Or.inl y)
  refine bk_eq (b := 9) (by omega) (by omega) (fun y => ?_) (fun y9 => ?_)
  · have hwl := tkw_bd hM (Or.inr (kd.1 (Or.inr (Or.inr (Or.inr y)))))
    have hc : cFL tx L l0 f0 t = if 9999 < tkw tx L t then 5 else 0 := by
      unfold cFL
      rw [if_neg (by omega), if_neg (by omega), if_neg (by omega), if_neg (by omega), if_pos y]
    conv => whnf
    refine ⟨sc_t hw hs, ?_⟩
    conv => whnf
    rw [sc_r4 hw hs]
    refine ⟨inB_of (sc_t4 hw hs) (sc_n4 hw hs) t4 (by decide), ?_⟩
    conv => whnf
    rw [nI_clamp (by omega), e4]
    rcases Nat.lt_or_ge 9999 (tkw tx L t) with d | d
    · refine bk_f (fun y => absurd ((l_cmp_le (b := 9999) hwl (by decide)).mp y) (by omega)) ?_
      conv => whnf
      rw [if_pos d] at hc
      have := hK h (fun q => by rw [hc] at q; cases q) c.1 e3
      rw [hc] at this
      exact this
    · refine bk_t ((l_cmp_le (b := 9999) hwl (by decide)).mpr d) ?_
      conv => whnf
      rw [if_neg (by omega)] at hc
      exact same hc (Or.inr (Or.inr (Or.inl y)))
  refine bk_eq (b := 10) (by omega) (by omega) (fun y => ?_) (fun y10 => ?_)
  · conv => whnf
    exact n32 (Or.inr y)
  conv => whnf
  exact same (hz y9) (Or.inl (by omega))
