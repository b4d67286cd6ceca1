/-! the reference's powers and values -/
theorem sh1 {l : Nat} (hl : l < 2 ^ 31) : i_shr (nI l) 1 = nI (l / 2) := by
  have := zn_shr (a := l) (k := 1) hl (by decide)
  rw [Nat.shiftRight_eq_div_pow] at this
  exact this
theorem tb0 (l : Nat) : l.testBit 0 = decide (l % 2 = 1) := Nat.testBit_zero l
theorem l_M_powered {P : PSem} (S : SysOK P) {h : PH} (hw : WS h) {n m : Nat} (hn : n ≤ 12) (hm : MDg n m) (hnow : hI h 125 n = nI m) {K : PK} : ∀ f o s l, l < 2 ^ f → l < 2 ^ 31 → o < 2 ^ n → s < 2 ^ n → K (.int (nI (fm n m o (fpw n m s l)))) h →
    P.2 n_M_powered 6 [some (.ref 116), some (.int (nI n)), none, none, some (.int (nI o)), some (.int (nI s)), some (.int (nI l))] [] h 0 0 K := by
  intro f
  induction f with
  | zero =>
    intro o s l hl hl2 ho hs hK
    have e : l = 0 := by have : l < 1 := hl; omega
    subst e
    refine S.at 60 [] rfl ?_
    conv => whnf
    refine bk_t (Int32.le_refl _) ?_
    conv => whnf
    have hK : K (.int (nI (fm n m o 1))) h := hK
    rw [fm_1r hm ho] at hK
    exact hK
  | succ f ih =>
    intro o s l hl hl2 ho hs hK
    refine S.at 60 [] rfl ?_
    conv => whnf
    refine bk_le (b := 0) hl2 (by decide) (fun c => ?_) (fun c => ?_)
    · have e : l = 0 := by omega
      subst e
      conv => whnf
      have hK : K (.int (nI (fm n m o 1))) h := hK
      rw [fm_1r hm ho] at hK
      exact hK
    · conv => whnf
      refine c_M_has S (j := 0) hl2 (by decide) ?_
      conv => whnf
      have hpw : (2 : Nat) ^ (f + 1) = 2 * 2 ^ f := by rw [Nat.pow_succ]; omega
      have ho' : (if l % 2 = 1 then fm n m o s else o) < 2 ^ n := by
        split
        · exact fm_lt hm ho hs
        · exact ho
      have next := ih (if l % 2 = 1 then fm n m o s else o) (fm n m s s) (l / 2) (by omega) (by omega) ho' (fm_lt hm hs hs) (by rw [pw_step hm ho hs]; exact hK)
      rw [← sh1 hl2] at next
      rw [tb0]
      refine bk_b0 (fun e1 => ?_) (fun e1 => ?_)
      · rw [decide_eq_false_iff_not] at e1
        rw [if_neg e1] at next
        conv => whnf
        refine ⟨wt_116 hw, ?_⟩
        refine c_M_product S hw hn hm hnow hs hs ?_
        conv => whnf
        exact next
      · rw [decide_eq_true_eq] at e1
        rw [if_pos e1] at next
        conv => whnf
        refine ⟨wt_116 hw, ?_⟩
        refine c_M_product S hw hn hm hnow ho hs ?_
        conv => whnf
        refine ⟨wt_116 hw, ?_⟩
        refine c_M_product S hw hn hm hnow hs hs ?_
        conv => whnf
        exact next
theorem c_M_powered {P : PSem} (S : SysOK P) {h : PH} (hw : WS h) {n m a k : Nat} (hn : n ≤ 12) (hm : MDg n m) (hnow : hI h 125 n = nI m) (ha : a < 2 ^ n) (hk : k < 2 ^ 31) {K : PK} (hK : K (.int (nI (fpw n m a k))) h) : P.1 n_M_powered [.ref 116, .int (nI n), .int (nI a), .int (nI k)] h K := by
  refine S.2.1 _ 7 _ _ _ rfl rfl ?_
  refine S.at 6 [] rfl ?_
  conv => whnf
  refine S.mk [(0,1),(0,1),(0,0),(0,0),(0,1),(0,1),(0,1)] ?_
  exact l_M_powered S hw hn hm hnow 31 1 a k hk hk (one_lt hm) ha (by rw [fm_1l hm (fpw_lt hm ha k)]; exact hK)
theorem l_M_squared {P : PSem} (S : SysOK P) {h : PH} (hw : WS h) {n m t : Nat} (hn : n ≤ 12) (ht : t < 2 ^ 31) (hm : MDg n m) (hnow : hI h 125 n = nI m) {K : PK} : ∀ j k o, k + j = t → o < 2 ^ n → K (.int (nI (sqn n m j o))) h →
    P.2 n_M_squared 4 [some (.ref 116), some (.int (nI n)), none, some (.int (nI t)), some (.int (nI o)), some (.int (nI k))] [] h 0 0 K := by
  intro j
  induction j with
  | zero =>
    intro k o hk ho hK
    refine S.at 60 [] rfl ?_
    conv => whnf
    refine bk_t ((zn_le (by omega) (by omega)).mpr (by omega)) ?_
    conv => whnf
    exact hK
  | succ j ih =>
    intro k o hk ho hK
    refine S.at 60 [] rfl ?_
    conv => whnf
    refine bk_f (fun c => absurd ((zn_le (by omega) (by omega)).mp c) (by omega)) ?_
    conv => whnf
    refine ⟨wt_116 hw, ?_⟩
    refine c_M_product S hw hn hm hnow ho ho ?_
    conv => whnf
    have next := ih (k + 1) (fm n m o o) (by omega) (fm_lt hm ho ho) hK
    rw [← nI_1] at next
    exact next
theorem c_M_squared {P : PSem} (S : SysOK P) {h : PH} (hw : WS h) {n m a t : Nat} (hn : n ≤ 12) (ht : t < 2 ^ 31) (hm : MDg n m) (hnow : hI h 125 n = nI m) (ha : a < 2 ^ n) {K : PK} (hK : K (.int (nI (sqn n m t a))) h) : P.1 n_M_squared [.ref 116, .int (nI n), .int (nI a), .int (nI t)] h K := by
  refine S.2.1 _ 6 _ _ _ rfl rfl ?_
  refine S.at 4 [] rfl ?_
  conv => whnf
  refine S.mk [(0,1),(0,1),(0,0),(0,1),(0,1),(0,1)] ?_
  exact l_M_squared S hw hn ht hm hnow t 0 a (by omega) ha hK
theorem shl1 {n : Nat} (hn : n ≤ 12) : i_shl 1 (nI n) = nI (2 ^ n) := by
  have h := pow_le hn
  have := zn_shl (a := 1) (k := n) (by omega) (by rw [Nat.shiftLeft_eq, Nat.one_mul]; have : (2 : Nat) ^ 12 = 4096 := rfl; omega)
  rw [Nat.shiftLeft_eq, Nat.one_mul] at this
  exact this
theorem c_M_inverse {P : PSem} (S : SysOK P) {h : PH} (hw : WS h) {n m a : Nat} (hn : n ≤ 12) (hm : MDg n m) (hnow : hI h 125 n = nI m) (ha : a < 2 ^ n) {K : PK} (hK : K (.int (nI (fpw n m a (2 ^ n - 2)))) h) : P.1 n_M_inverse [.ref 116, .int (nI n), .int (nI a)] h K := by
  refine S.go 40 rfl rfl rfl ?_
  conv => whnf
  refine ⟨wt_116 hw, ?_⟩
  rw [shl1 hn]
  have h2 := two_pow_ge2 hm.1
  have h12 : (2 : Nat) ^ n ≤ 4096 := pow_le hn
  have e : nI (2 ^ n) - 2 = nI (2 ^ n - 2) := pk_sub (b := 2) h2
  have key : ∀ K' : PK, K' (.int (nI (fpw n m a (2 ^ n - 2)))) h → P.1 n_M_powered [.ref 116, .int (nI n), .int (nI a), .int (nI (2 ^ n) - 2)] h K' := fun K' hk' => by
    rw [e]
    exact c_M_powered S hw hn hm hnow ha (by omega) hk'
  refine key _ ?_
  conv => whnf
  exact hK
