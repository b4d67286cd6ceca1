theorem zl_int {n : Nat} (h : n < 2 ^ 63) : (lN n).toInt = (n : Int) := Int64.toInt_ofNat_of_lt h
theorem zl_c : ∀ k, k < 64 → ((nI k).toInt64 &&& 63) = lN k := by decide +kernel
theorem zl_sm : ∀ k, k < 64 → ((lN k).toBitVec.smod 64).toNat = k := by decide +kernel
theorem zl_shr {a k : Nat} (ha : a < 2 ^ 63) (hk : k < 64) : l_shr (lN a) (nI k) = lN (a >>> k) := by
  unfold l_shr
  rw [zl_c k hk]
  apply Int64.toInt_inj.mp
  have h2 : a >>> k ≤ a := by rw [Nat.shiftRight_eq_div_pow]; exact Nat.div_le_self _ _
  have e2 : (lN a >>> lN k).toInt = (lN a).toInt >>> k := by
    show ((lN a).toBitVec.sshiftRight ((lN k).toBitVec.smod 64).toNat).toInt = _
    rw [zl_sm k hk, BitVec.toInt_sshiftRight]
    rfl
  rw [e2, zl_int ha, zl_int (by omega)]
  rfl
theorem zl_and (a b : Nat) : lN a &&& lN b = lN (a &&& b) := by
  apply Int64.toBitVec_inj.1
  show BitVec.ofNat 64 a &&& BitVec.ofNat 64 b = BitVec.ofNat 64 (a &&& b)
  apply BitVec.eq_of_getLsbD_eq
  intro i hi
  simp [hi]
theorem zl_eq {a b : Nat} (ha : a < 2 ^ 63) (hb : b < 2 ^ 63) : lN a = lN b ↔ a = b := by
  constructor
  · intro h
    have := congrArg Int64.toInt h
    rw [zl_int ha, zl_int hb] at this
    exact Int.ofNat.inj this
  · intro h
    rw [h]
theorem zl_lt {a b : Nat} (ha : a < 2 ^ 63) (hb : b < 2 ^ 63) : lN a < lN b ↔ a < b := by
  rw [Int64.lt_iff_toInt_lt, zl_int ha, zl_int hb]
  exact Int.ofNat_lt
theorem l_cmp0 {a b : Nat} (ha : a < 2 ^ 63) (hb : b < 2 ^ 63) : l_cmp (lN a) (lN b) = 0 ↔ a = b := by
  unfold l_cmp
  rcases Nat.lt_trichotomy a b with h | h | h
  · have h1 : ¬ lN a > lN b := fun q => absurd ((zl_lt hb ha).mp q) (by omega)
    have h2 : ¬ lN a = lN b := fun q => absurd ((zl_eq ha hb).mp q) (by omega)
    rw [if_neg h1, if_neg h2]
    exact ⟨fun q => absurd q (by decide), fun q => by omega⟩
  · subst h
    have h1 : ¬ lN a > lN a := fun q => absurd ((zl_lt hb ha).mp q) (by omega)
    rw [if_neg h1, if_pos rfl]
    exact ⟨fun _ => rfl, fun _ => rfl⟩
  · have h1 : lN a > lN b := (zl_lt hb ha).mpr h
    rw [if_pos h1]
    exact ⟨fun q => absurd q (by decide), fun q => by omega⟩
theorem sr_lt {a b k : Nat} (h : a < b) : a >>> k < b := Nat.lt_of_le_of_lt (by rw [Nat.shiftRight_eq_div_pow]; exact Nat.div_le_self _ _) h
/-- powers of the class: the bits of k from the lowest on -/
theorem l_Field_toThe {P : PSem} (S : SysOK P) {h : PH} {k n m e : Nat} (hF : FOK h k n m) (hn : n ≤ 12) (hm : MDg n m) (he : e < 2 ^ 62) {K : PK} : ∀ j q o s, q + j = 63 → o < 2 ^ n → s < 2 ^ n → K (.int (nI (fm n m o (fpw n m s (e >>> q))))) h →
    P.2 n_Field_toThe 6 [some (.ref k), none, some (.long (lN e)), none, some (.int (nI o)), some (.int (nI s)), some (.int (nI q))] [] h 0 0 K := by
  intro j
  induction j with
  | zero =>
    intro q o s hq ho hs hK
    refine S.at 60 [] rfl ?_
    conv => whnf
    refine bk_t ((zn_le (a := 63) (by decide) (by omega)).mpr (by omega)) ?_
    conv => whnf
    have hz : e >>> q = 0 := by
      rw [Nat.shiftRight_eq_div_pow]
      exact Nat.div_eq_of_lt (Nat.lt_of_lt_of_le he (pow_le (by omega)))
    rw [hz] at hK
    have hK : K (.int (nI (fm n m o 1))) h := hK
    rw [fm_1r hm ho] at hK
    exact hK
  | succ j ih =>
    intro q o s hq ho hs hK
    have hsr : e >>> q < 2 ^ 63 := sr_lt (by omega)
    refine S.at 60 [] rfl ?_
    conv => whnf
    refine bk_f (fun c => absurd ((zn_le (a := 63) (by decide) (by omega)).mp c) (by omega)) ?_
    conv => whnf
    rw [zl_shr (by omega) (by omega)]
    refine ⟨fun c => ?_, fun c => ?_⟩
    · have c := (l_cmp0 (b := 0) hsr (by decide)).mp c
      conv => whnf
      rw [c] at hK
      have hK : K (.int (nI (fm n m o 1))) h := hK
      rw [fm_1r hm ho] at hK
      exact hK
    · conv => whnf
      have hand : lN (e >>> q) &&& 1 = lN ((e >>> q) % 2) := by
        have := zl_and (e >>> q) 1
        rw [show (1 : Nat) = 2 ^ 1 - 1 from rfl, Nat.and_two_pow_sub_one_eq_mod] at this
        exact this
      have ho' : (if (e >>> q) % 2 = 1 then fm n m o s else o) < 2 ^ n := by
        split
        · exact fm_lt hm ho hs
        · exact ho
      have next := ih (q + 1) (if (e >>> q) % 2 = 1 then fm n m o s else o) (fm n m s s) (by omega) ho' (fm_lt hm hs hs) (by rw [Nat.shiftRight_succ, pw_step hm ho hs]; exact hK)
      rw [← nI_1] at next
      have hc2 : l_cmp ((fun x y : Int64 => x &&& y) (l_shr (lN e) (nI q)) 1) 0 = 0 ↔ (e >>> q) % 2 = 0 := by
        rw [zl_shr (by omega) (by omega)]
        show l_cmp (lN (e >>> q) &&& 1) 0 = 0 ↔ _
        rw [hand]
        exact l_cmp0 (b := 0) (by omega) (by decide)
      refine ⟨fun c2 => ?_, fun c2 => ?_⟩
      · have c2 := hc2.mp c2
        rw [if_neg (by omega)] at next
        conv => whnf
        refine ⟨hF.1, ?_⟩
        refine c_Field_times S hF hn hm hs hs ?_
        conv => whnf
        exact next
      · have c2 : ¬ (e >>> q) % 2 = 0 := fun w => c2 (hc2.mpr w)
        rw [if_pos (by omega)] at next
        conv => whnf
        refine ⟨hF.1, ?_⟩
        refine c_Field_times S hF hn hm ho hs ?_
        conv => whnf
        refine ⟨hF.1, ?_⟩
        refine c_Field_times S hF hn hm hs hs ?_
        conv => whnf
        exact next
theorem c_Field_toThe {P : PSem} (S : SysOK P) {h : PH} {k n m a e : Nat} (hF : FOK h k n m) (hn : n ≤ 12) (hm : MDg n m) (ha : a < 2 ^ n) (he : e < 2 ^ 62) {K : PK} (hK : K (.int (nI (fpw n m a e))) h) : P.1 n_Field_toThe [.ref k, .int (nI a), .long (lN e)] h K := by
  refine S.2.1 _ 7 _ _ _ rfl rfl ?_
  refine S.at 6 [] rfl ?_
  conv => whnf
  refine S.mk [(0,1),(0,0),(0,1),(0,0),(0,1),(0,1),(0,1)] ?_
  exact l_Field_toThe S hF hn hm he 63 0 1 a (by omega) (one_lt hm) ha (by rw [Nat.shiftRight_zero, fm_1l hm (fpw_lt hm ha e)]; exact hK)
