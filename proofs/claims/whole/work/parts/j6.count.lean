/-! COUNT: both sides -/
def hbN (g : Nat → Option (Nat → Nat)) (q : Nat) : Nat := match g q with
  | none => 0
  | some _ => 1
def hcN (g : Nat → Option (Nat → Nat)) : Nat → Nat
  | 0 => 0
  | q + 1 => hcN g q + hbN g q
theorem hb_le (g : Nat → Option (Nat → Nat)) (q : Nat) : hbN g q ≤ 1 := by
  unfold hbN
  split
  · omega
  · omega
theorem l_FT_held {P : PSem} (S : SysOK P) {h : PH} (hw : WS h) {g : Nat → Option (Nat → Nat)} (sl : SL h g) {K : PK} (hK : K (.int (nI (hcN g 3))) h) : ∀ j i, i + j = 3 → P.2 n_FT_heldSlots 4 [some (.ref 5), some (.int (nI (hcN g i))), some (.int (nI i))] [] h 0 0 K := by
  intro j
  induction j with
  | zero =>
    intro i hj
    have hj : i = 3 := by omega
    subst hj
    refine S.at 40 [] rfl ?_
    conv => whnf
    refine bk_t (by decide) ?_
    conv => whnf
    exact hK
  | succ j ih =>
    intro i hj
    have next := ih (i + 1) (by omega)
    rw [← nI_1 i] at next
    have e : hcN g (i + 1) = hcN g i + hbN g i := rfl
    refine S.at 40 [] rfl ?_
    conv => whnf
    refine bk_f (fun c => absurd ((zn_le (a := 3) (by omega) (by omega)).mp c) (by omega)) ?_
    conv => whnf
    refine ⟨wt_5 hw, ?_⟩
    conv => whnf
    rw [wr_5_7 hw]
    refine ⟨Or.inr (inB_of (wt_94 hw) (wn_94 hw) (show i < 3 by omega) (by decide)), ?_⟩
    conv => whnf
    rw [nI_clamp (show i < 2 ^ 31 by omega)]
    cases hg : g i with
    | none =>
      have e1 : hbN g i = 0 := by
        unfold hbN
        rw [hg]
      rw [e, e1, Nat.add_zero] at next
      rw [(sl i (by omega)).1 hg]
      refine bk_t (rfl) ?_
      conv => whnf
      exact next
    | some v =>
      have e1 : hbN g i = 1 := by
        unfold hbN
        rw [hg]
      rw [e, e1, ← nI_1 (hcN g i)] at next
      rw [((sl i (by omega)).2 v hg).1]
      refine bk_f (by decide) ?_
      conv => whnf
      exact next
def cnV (c t l g o : Nat) (w : Int32) : Int32 := if w = 0 then nI c else if w = 1 then nI t else if w = 2 then nI l else if w = 3 then nI g else if w = 4 then nI o else -1
theorem c_FT_count {P : PSem} (S : SysOK P) {h : PH} {u tx : Nat → Nat} {L : Nat} {l0 : Nat → Int64} {f0 s0 m0 : Nat → Int32} {s s' : Nat} (c0 : CST h u tx L l0 f0 s0 m0 s s') (hu : MDS u) {g : Nat → Option (Nat → Nat)} (sl : SL h g) {tl hl : Nat} (h1 : hI h 6 1 = nI tl) (h2 : hI h 85 2 = nI hl) {w : Int32} {K : PK}
    (hK : K (.int (cnV (cnm tx L (pT (tkk tx L))) tl hl (hcN g 3) (omS u 12) w)) h) : P.1 n_FT_count [.ref 5, .int w] h K := by
  obtain ⟨hC, ⟨r9, r10, ss⟩, sct, tt, en, nv, sta⟩ := c0
  have hw := hC.1
  have hs := ss.l
  unfold cnV at hK
  refine S.go 80 rfl rfl rfl ?_
  conv => whnf
  refine ⟨fun e => ?_, fun e0 => ?_⟩
  · rw [if_pos e] at hK
    conv => whnf
    refine ⟨wt_5 hw, ?_⟩
    conv => whnf
    rw [r9]
    refine ⟨sc_t hw hs, ?_⟩
    conv => whnf
    rw [sct.2.1]
    exact hK
  rw [if_neg e0] at hK
  refine ⟨fun e => ?_, fun e1 => ?_⟩
  · rw [if_pos e] at hK
    conv => whnf
    refine ⟨wt_5 hw, ?_⟩
    conv => whnf
    rw [wr_5_0 hw]
    refine ⟨wt_6 hw, ?_⟩
    conv => whnf
    rw [h1]
    exact hK
  rw [if_neg e1] at hK
  refine ⟨fun e => ?_, fun e2 => ?_⟩
  · rw [if_pos e] at hK
    conv => whnf
    refine ⟨wt_5 hw, ?_⟩
    conv => whnf
    rw [wr_5_3 hw]
    refine ⟨wt_85 hw, ?_⟩
    conv => whnf
    rw [h2]
    exact hK
  rw [if_neg e2] at hK
  refine ⟨fun e => ?_, fun e3 => ?_⟩
  · rw [if_pos e] at hK
    conv => whnf
    refine ⟨wt_5 hw, ?_⟩
    refine S.2.1 _ 3 _ _ _ rfl rfl ?_
    refine S.at 10 [4] rfl ?_
    conv => whnf
    refine l_FT_held S hw sl ?_ 3 0 rfl
    exact hK
  rw [if_neg e3] at hK
  refine ⟨fun e => ?_, fun e4 => ?_⟩
  · rw [if_pos e] at hK
    conv => whnf
    refine ⟨wt_5 hw, ?_⟩
    conv => whnf
    rw [wr_5_1 hw]
    refine ⟨wt_8 hw, ?_⟩
    refine c_Tower_otherModuli S hw hu hC.2.1 sta.1 ?_
    exact hK
  · rw [if_neg e4] at hK
    conv => whnf
    exact hK
theorem l_M_unlike {P : PSem} (S : SysOK P) {h : PH} {u : Nat → Nat} (hM : MJ h u) (hu : MDS u) {K : PK} (hK : K (.int (nI (omS u 12))) h) : ∀ j q, q + j = 12 → P.2 n_M_unlikeModuli 4 [some (.ref 116), some (.int (nI (omS u q))), some (.int (nI (q + 1)))] [] h 0 0 K := by
  have hw := hM.1
  intro j
  induction j with
  | zero =>
    intro q hq
    have hq : q = 12 := by omega
    subst hq
    refine S.at 40 [] rfl ?_
    conv => whnf
    refine bk_t (by decide) ?_
    conv => whnf
    exact hK
  | succ j ih =>
    intro q hq
    have next := ih (q + 1) (by omega)
    rw [← nI_1 (q + 1)] at next
    have e0 : omS u (q + 1) = if u (q + 1) = lm (q + 1) then omS u q else omS u q ||| 1 <<< q := rfl
    rw [e0] at next
    have nw := hM.2.1 (q + 1) (by omega) (by omega)
    have ul : u (q + 1) < 8192 := by
      have p2 : 2 ^ (q + 1 + 1) ≤ 2 ^ 13 := Nat.pow_le_pow_right (by decide) (by omega)
      have c2 : 2 ^ 13 = 8192 := by decide
      have := (hu (q + 1) (by omega) (by omega)).1.2.2
      omega
    have ll : lm (q + 1) < 8192 := by
      have p2 : 2 ^ (q + 1 + 1) ≤ 2 ^ 13 := Nat.pow_le_pow_right (by decide) (by omega)
      have c2 : 2 ^ 13 = 8192 := by decide
      have := (lm_MOD (n := q + 1) (by omega) (by omega)).1.2.2
      omega
    refine S.at 40 [] rfl ?_
    conv => whnf
    refine bk_f (fun c => absurd ((zn_lt (a := 12) (by omega) (by omega)).mp c) (by omega)) ?_
    conv => whnf
    refine ⟨wt_116 hw, ?_⟩
    conv => whnf
    rw [wr_116_18 hw]
    refine ⟨inB_of (wt_125 hw) (wn_125 hw) (show q + 1 < 13 by omega) (by decide), ?_⟩
    conv => whnf
    rw [nI_clamp (by omega), nw]
    refine ⟨wt_116 hw, ?_⟩
    refine c_M_leastWhole S hw hM.2.2.1 (by omega) (by omega) ?_
    conv => whnf
    refine bk_eq (by omega) (by omega) (fun c => ?_) (fun c => ?_)
    · rw [if_pos c] at next
      conv => whnf
      exact next
    · rw [if_neg c] at next
      conv => whnf
      have e1 : i_shl 1 (nI (q + 1) - 1) = nI (1 <<< q) := by
        rw [show nI (q + 1) - 1 = nI q from pk_sub (a := q + 1) (b := 1) (by omega)]
        have : (2 : Nat) ^ q ≤ 4096 := pow12 (by omega)
        exact zn_shl (a := 1) (by omega) (by rw [Nat.shiftLeft_eq]; omega)
      rw [← zn_or, ← e1] at next
      exact next
theorem ml_b {h : PH} {g : Nat → Option (Nat → Nat)} (ml : ML h g) {q : Nat} (hq : q < 3) {J : Int32 → Prop} (hJ : J (nI (hbN g q))) : (hI h 143 q = 0 → J 0) ∧ (¬ hI h 143 q = 0 → J 1) := by
  cases hg : g q with
  | none =>
    have e1 : hbN g q = 0 := by
      unfold hbN
      rw [hg]
    rw [e1] at hJ
    exact ⟨fun _ => hJ, fun y => absurd ((ml q hq).1 hg) y⟩
  | some v =>
    have e1 : hbN g q = 1 := by
      unfold hbN
      rw [hg]
    rw [e1] at hJ
    exact ⟨fun y => absurd (((ml q hq).2 v hg).1.symm.trans y) (by decide), fun _ => hJ⟩
theorem c_M_count {P : PSem} (S : SysOK P) {h : PH} {u tx : Nat → Nat} {L : Nat} {l0 : Nat → Int64} {f0 : Nat → Int32} (r0 : RST h u tx L l0 f0) (hu : MDS u) {g : Nat → Option (Nat → Nat)} (ml : ML h g) {tl hl : Nat} (h1 : hI h 116 2 = nI tl) (h2 : hI h 116 41 = nI hl) {w : Int32} {K : PK}
    (hK : K (.int (cnV (cnm tx L (pT (tkk tx L))) tl hl (hcN g 3) (omS u 12) w)) h) : P.1 n_M_count [.ref 116, .int w] h K := by
  obtain ⟨hM, ky, tt, rv, en, nv⟩ := r0
  have hw := hM.1
  unfold cnV at hK
  refine S.2.1 _ 2 _ _ _ rfl rfl ?_
  refine S.at 80 [19,27,36] rfl ?_
  conv => whnf
  refine ⟨fun e => ?_, fun e0 => ?_⟩
  · rw [if_pos e] at hK
    conv => whnf
    refine ⟨wt_116 hw, ?_⟩
    conv => whnf
    rw [rv.1]
    exact hK
  rw [if_neg e0] at hK
  refine ⟨fun e => ?_, fun e1 => ?_⟩
  · rw [if_pos e] at hK
    conv => whnf
    refine ⟨wt_116 hw, ?_⟩
    conv => whnf
    rw [h1]
    exact hK
  rw [if_neg e1] at hK
  refine ⟨fun e => ?_, fun e2 => ?_⟩
  · rw [if_pos e] at hK
    conv => whnf
    refine ⟨wt_116 hw, ?_⟩
    conv => whnf
    rw [h2]
    exact hK
  rw [if_neg e2] at hK
  refine ⟨fun e => ?_, fun e3 => ?_⟩
  · rw [if_pos e] at hK
    have hK : K (.int (nI (0 + hbN g 0 + hbN g 1 + hbN g 2))) h := hK
    rw [Nat.zero_add, zn_plus, zn_plus] at hK
    have g36 : ∀ x, x = nI (hbN g 2) → P.2 n_M_count 36 [some (.ref 116), some (.int w)] [.int x, .int (nI (hbN g 0) + nI (hbN g 1))] h 0 0 K := by
      intro x hx
      rw [hx]
      refine S.at 10 [] rfl ?_
      conv => whnf
      exact hK
    have g27 : ∀ x, x = nI (hbN g 1) → P.2 n_M_count 27 [some (.ref 116), some (.int w)] [.int x, .int (nI (hbN g 0))] h 0 0 K := by
      intro x hx
      rw [hx]
      refine S.at 30 [36] rfl ?_
      conv => whnf
      refine ⟨wt_116 hw, ?_⟩
      conv => whnf
      rw [wr_116_43 hw]
      refine ⟨Or.inr (inB_of (j := 2) (wt_143 hw) (wn_143 hw) (by decide) (by decide)), ?_⟩
      conv => whnf
      exact ml_b (q := 2) ml (by decide) (J := fun x => P.2 n_M_count 36 [some (.ref 116), some (.int w)] [.int x, .int (nI (hbN g 0) + nI (hbN g 1))] h 0 0 K) (g36 _ rfl)
    have g19 : ∀ x, x = nI (hbN g 0) → P.2 n_M_count 19 [some (.ref 116), some (.int w)] [.int x] h 0 0 K := by
      intro x hx
      rw [hx]
      refine S.at 30 [27] rfl ?_
      conv => whnf
      refine ⟨wt_116 hw, ?_⟩
      conv => whnf
      rw [wr_116_43 hw]
      refine ⟨Or.inr (inB_of (j := 1) (wt_143 hw) (wn_143 hw) (by decide) (by decide)), ?_⟩
      conv => whnf
      exact ml_b (q := 1) ml (by decide) (J := fun x => P.2 n_M_count 27 [some (.ref 116), some (.int w)] [.int x, .int (nI (hbN g 0))] h 0 0 K) (g27 _ rfl)
    conv => whnf
    refine ⟨wt_116 hw, ?_⟩
    conv => whnf
    rw [wr_116_43 hw]
    refine ⟨Or.inr (inB_of (j := 0) (wt_143 hw) (wn_143 hw) (by decide) (by decide)), ?_⟩
    conv => whnf
    exact ml_b (q := 0) ml (by decide) (J := fun x => P.2 n_M_count 19 [some (.ref 116), some (.int w)] [.int x] h 0 0 K) (g19 _ rfl)
  rw [if_neg e3] at hK
  refine ⟨fun e => ?_, fun e4 => ?_⟩
  · rw [if_pos e] at hK
    conv => whnf
    refine ⟨wt_116 hw, ?_⟩
    refine S.2.1 _ 3 _ _ _ rfl rfl ?_
    refine S.at 10 [4] rfl ?_
    conv => whnf
    refine l_M_unlike S hM hu ?_ 12 0 rfl
    exact hK
  · rw [if_neg e4] at hK
    conv => whnf
    exact hK
