/-! SPACES of the class -/
def bcE (x : Int32) : Int32 :=
  let a := x - (i_ushr x 1 &&& 1431655765)
  let b := (a &&& 858993459) + (i_ushr a 2 &&& 858993459)
  let c := (b + i_ushr b 4) &&& 252645135
  let d := c + i_ushr c 8
  let e := d + i_ushr d 16
  e &&& 63
theorem c_Intg_bitCount {P : PSem} (S : SysOK P) {h : PH} (x : Int32) {K : PK} (hK : K (.int (bcE x)) h) : P.1 n_Intg_bitCount [.int x] h K := by
  refine S.go 60 rfl rfl rfl ?_
  conv => whnf
  exact hK
theorem bc_par : ab (fun x => bcE (nI x) &&& 1 == nI (cmb (fun _ => 1) 12 x)) 12 0 = true := by decide +kernel
theorem bc_eq {x : Nat} (hx : x < 4096) : bcE (nI x) &&& 1 = nI (cmb (fun _ => 1) 12 x) := eq_of_beq (ab_iff 12 0 bc_par x (by omega) (by have : (2 : Nat) ^ 12 = 4096 := rfl; omega))
theorem tbS_ok {n m : Nat} (hG : GF n m) : ∀ k, k ≤ n → tbS n m k < 2 ^ k ∧ ∀ i, (tbS n m k).testBit i = (decide (i < k) && decide (tr1 n m (2 ^ i) = 1))
  | 0, _ => ⟨by show 0 < 1; decide, fun i => by show (0 : Nat).testBit i = _; rw [Nat.zero_testBit]; simp⟩
  | k + 1, hk => by
    obtain ⟨h1, h2⟩ := tbS_ok hG k (by omega)
    have h3 := tr1_01 hG (show 2 ^ k < 2 ^ n from Nat.pow_lt_pow_right (by decide) (by omega))
    have hb2 : ∀ i, (tr1 n m (2 ^ k) <<< k).testBit i = (decide (i = k) && decide (tr1 n m (2 ^ k) = 1)) := by
      intro i
      rcases h3 with w | w
      · rw [w]; simp
      · rw [w, Nat.shiftLeft_eq, Nat.one_mul, Nat.testBit_two_pow]
        simp [eq_comm]
    have e : ∀ i, (tbS n m (k + 1)).testBit i = (decide (i < k + 1) && decide (tr1 n m (2 ^ i) = 1)) := by
      intro i
      show (tbS n m k ||| _).testBit i = _
      rw [Nat.testBit_or, h2, hb2]
      by_cases hk : i = k
      · subst hk
        simp
      · by_cases hlt : i < k
        · simp [hlt, hk, Nat.lt_succ_of_lt hlt]
        · have : ¬ i < k + 1 := by omega
          simp [hlt, hk, this]
    refine ⟨?_, e⟩
    apply Nat.lt_pow_two_of_testBit
    intro i hi
    rw [e i]
    have : ¬ i < k + 1 := by omega
    simp [this]
theorem tb_par {n m a : Nat} (hn : n ≤ 12) (hG : GF n m) (ha : a < 2 ^ n) : cmb (fun _ => 1) 12 (tbF n m &&& a) = tr1 n m a := by
  have hm := hG.1.1
  obtain ⟨h1, h2⟩ := tbS_ok hG n (Nat.le_refl n)
  have hlt : tbF n m &&& a < 2 ^ n := Nat.lt_of_le_of_lt Nat.and_le_left h1
  obtain ⟨j, hj⟩ := Nat.le.dest hn
  rw [← hj, cmb_st hlt, lin_cmb (f := tr1 n m) (tr1_0 hm) (fun x y hx hy => tr1_xor hm hx hy) ha]
  have key : ∀ k, k ≤ n → cmb (fun _ => 1) k (tbF n m &&& a) = cmb (fun k => tr1 n m (2 ^ k)) k a := by
    intro k
    induction k with
    | zero => intro _; rfl
    | succ k ih =>
      intro hk
      show cmb (fun _ => 1) k (tbF n m &&& a) ^^^ _ = cmb (fun k => tr1 n m (2 ^ k)) k a ^^^ _
      rw [ih (by omega)]
      congr 1
      have e := h2 k
      have e : (tbF n m).testBit k = _ := e
      rw [Nat.testBit_and, e, decide_eq_true (show k < n by omega), Bool.true_and]
      rcases tr1_01 hG (show 2 ^ k < 2 ^ n from Nat.pow_lt_pow_right (by decide) (by omega)) with w | w
      · simp [w]
      · simp [w]
  exact key n (Nat.le_refl n)
theorem sI_sI {h : PH} {k j : Nat} {v w : Int32} : sI (sI h k j v) k j w = sI h k j w := by
  have : up2 (hI (sI h k j v)) k j w = up2 (hI h) k j w := by
    funext q i
    show (if q = k ∧ i = j then w else (if q = k ∧ i = j then v else hI h q i)) = (if q = k ∧ i = j then w else hI h q i)
    split
    · rfl
    · rfl
  show (h.1, up2 (hI (sI h k j v)) k j w, hL h, hR h, hE h) = (h.1, up2 (hI h) k j w, hL h, hR h, hE h)
  rw [this]
theorem l_Spc_tr {P : PSem} (S : SysOK P) {h : PH} (hw : WS h) {n m a : Nat} (hn1 : 1 ≤ n) (hn : n ≤ 12) (hF : FOK h (27 + 4 * n) n m) (hG : GF n m) {K : PK} (hK : P.2 n_Space_traceOf 28 [some (.ref (30 + 4 * n)), some (.int (nI a)), none] [] (sI h (30 + 4 * n) 2 (nI (tbF n m))) 0 0 K) : ∀ j q, q + j = n →
    P.2 n_Space_traceOf 5 [some (.ref (30 + 4 * n)), some (.int (nI a)), some (.int (nI q))] [] (sI h (30 + 4 * n) 2 (nI (tbS n m q))) 0 0 K := by
  have h12 := pow12 hn
  intro j
  induction j with
  | zero =>
    intro q hq
    have e : q = n := by omega
    subst e
    have hF' := eqX_FOK (A := fun k => k = 30 + 4 * q) (eqX_sI (h := h) (j := 2) (v := nI (tbS q m q)) rfl) (by omega) hF
    refine S.at 60 [28] rfl ?_
    conv => whnf
    refine ⟨wi_sT hw hn1 hn, ?_⟩
    conv => whnf
    rw [hR_sI, wi_sf hw hn1 hn]
    refine ⟨hF'.1, ?_⟩
    conv => whnf
    rw [hF'.2.1]
    refine bk_t ((zn_le (by omega) (by omega)).mpr (by omega)) ?_
    conv => whnf
    exact S.mk [(0, 1), (0, 1), (0, 0)] hK
  | succ j ih =>
    intro q hq
    obtain ⟨b1, b2⟩ := tbS_ok hG q (by omega)
    have hF' := eqX_FOK (A := fun k => k = 30 + 4 * n) (eqX_sI (h := h) (j := 2) (v := nI (tbS n m q)) rfl) (by omega) hF
    have hq2 : 2 ^ q < 2 ^ n := Nat.pow_lt_pow_right (by decide) (by omega)
    have hq3 : (2 : Nat) ^ q ≤ 2048 := pow_le (j := 11) (by omega)
    refine S.at 60 [28] rfl ?_
    conv => whnf
    refine ⟨wi_sT hw hn1 hn, ?_⟩
    conv => whnf
    rw [hR_sI, wi_sf hw hn1 hn]
    refine ⟨hF'.1, ?_⟩
    conv => whnf
    rw [hF'.2.1]
    refine bk_f (fun c => absurd ((zn_le (by omega) (by omega)).mp c) (by omega)) ?_
    conv => whnf
    refine ⟨wi_sT hw hn1 hn, ?_⟩
    conv => whnf
    refine ⟨wi_sT hw hn1 hn, ?_⟩
    conv => whnf
    rw [hR_sI, wi_sf hw hn1 hn, hI_sI]
    refine ⟨hF'.1, ?_⟩
    refine p1c (congrArg (fun z => [Value.ref (27 + 4 * n), Value.int 1, Value.int z]) (shl_one (show q ≤ 12 by omega))) ?_
    refine c_Field_traceTo (d := 1) (j := n) S hF' hn (Nat.le_refl 1) (by decide) (Nat.one_mul n) hG.1.1 hq2 ?_
    conv => whnf
    refine ⟨wi_sT hw hn1 hn, ?_⟩
    conv => whnf
    have next := ih (q + 1) (by omega)
    rw [sI_sI]
    have e : nI (tbS n m q) ||| i_shl (nI (trS n m 1 n (2 ^ q)) &&& 1) (nI q) = nI (tbS n m (q + 1)) := by
      have t : trS n m 1 n (2 ^ q) = 0 ∨ trS n m 1 n (2 ^ q) = 1 := tr1_01 hG hq2
      show _ = nI (tbS n m q ||| (trS n m 1 n (2 ^ q) <<< q))
      rw [← zn_or]
      congr 1
      rcases t with t | t
      · rw [t]
        show i_shl (nI 0) (nI q) = nI (0 <<< q)
        exact zn_shl (by omega) (by rw [Nat.zero_shiftLeft]; decide)
      · rw [t]
        show i_shl (nI 1) (nI q) = nI (1 <<< q)
        exact zn_shl (by omega) (by rw [Nat.shiftLeft_eq]; omega)
    rw [← nI_1, ← e] at next
    exact next
theorem c_Space_traceOf {P : PSem} (S : SysOK P) {h : PH} (hw : WS h) {n m a : Nat} (hn1 : 1 ≤ n) (hn : n ≤ 12) (hF : FOK h (27 + 4 * n) n m) (hG : GF n m) (ha : a < 2 ^ n) (h0 : hI h (30 + 4 * n) 2 = 0 ∨ hI h (30 + 4 * n) 2 = nI (tbF n m)) {K : PK} (hK : K (.int (nI (tr1 n m a))) (sI h (30 + 4 * n) 2 (nI (tbF n m)))) : P.1 n_Space_traceOf [.ref (30 + 4 * n), .int (nI a)] h K := by
  have h12 := pow12 hn
  have htb : tbF n m < 2 ^ n := (tbS_ok hG n (Nat.le_refl n)).1
  have fin : P.2 n_Space_traceOf 28 [some (.ref (30 + 4 * n)), some (.int (nI a)), none] [] (sI h (30 + 4 * n) 2 (nI (tbF n m))) 0 0 K := by
    refine S.at 60 [] rfl ?_
    conv => whnf
    refine ⟨wi_sT hw hn1 hn, ?_⟩
    conv => whnf
    rw [hI_sI]
    refine p1c (congrArg (fun z => [Value.int z]) (zn_and (tbF n m) a)) ?_
    refine c_Intg_bitCount S _ ?_
    conv => whnf
    have e := bc_eq (x := tbF n m &&& a) (Nat.lt_of_lt_of_le (Nat.lt_of_le_of_lt Nat.and_le_left htb) h12)
    rw [tb_par hn hG ha] at e
    rw [← e] at hK
    exact hK
  refine S.2.1 _ 3 _ _ _ rfl rfl ?_
  refine S.at 60 [5, 28] rfl ?_
  conv => whnf
  refine ⟨wi_sT hw hn1 hn, ?_⟩
  conv => whnf
  by_cases z : hI h (30 + 4 * n) 2 = 0
  · rw [z]
    refine bk_nf (rfl) ?_
    conv => whnf
    have := l_Spc_tr S hw hn1 hn hF hG fin n 0 (by omega)
    rw [show sI h (30 + 4 * n) 2 (nI (tbS n m 0)) = h from sI_same z] at this
    exact this
  · rw [sI_same (by rcases h0 with h0 | h0; exact absurd h0 z; exact h0)] at fin
    refine bk_nt (z) ?_
    conv => whnf
    exact fin
