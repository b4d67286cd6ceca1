/-! CHECK: where a name stands -/
theorem l_cmp_eq (x y : Int64) : l_cmp x y = 0 ↔ x = y := by
  unfold l_cmp
  by_cases e : x = y
  · rw [e, if_neg Int64.lt_irrefl, if_pos rfl]
    exact ⟨fun _ => rfl, fun _ => rfl⟩
  · rw [if_neg e]
    constructor
    · intro h
      split at h
      · exact absurd h (by decide)
      · exact absurd h (by decide)
    · exact fun h => absurd h e
def ixF (NL : Nat → Int64) (nm : Nat) (w : Int64) : Nat := fnd (fun j => NL j == w || !(decide (j < nm))) 9 0
theorem ixF_ok {NL : Nat → Int64} {nm : Nat} {w : Int64} (hn : nm ≤ 8) : ixF NL nm w ≤ nm ∧ (ixF NL nm w < nm → NL (ixF NL nm w) = w) ∧ ∀ l, l < ixF NL nm w → NL l ≠ w := by
  obtain ⟨-, b, c, d⟩ := fnd_ok (p := fun j => NL j == w || !(decide (j < nm))) 9 0 nm (Nat.zero_le _) (by omega) (by
    rw [decide_eq_false (Nat.lt_irrefl nm)]
    exact Bool.or_true _)
  refine ⟨b, fun h => ?_, fun l hl => ?_⟩
  · have c : (NL (ixF NL nm w) == w || !(decide (ixF NL nm w < nm))) = true := c
    rw [decide_eq_true h, Bool.not_true, Bool.or_false, beq_iff_eq] at c
    exact c
  · have := d l (Nat.zero_le _) hl
    rw [Bool.or_eq_false_iff, beq_eq_false_iff_ne] at this
    exact this.1
def ixV (NL : Nat → Int64) (nm : Nat) (w : Int64) : Int32 := if ixF NL nm w < nm then nI (ixF NL nm w) else -1
theorem c_Script_indexOf {P : PSem} (S : SysOK P) {h : PH} (hw : WS h) {s : Nat} (hs : SCL s) {nm : Nat} {w : Int64} (hn : nm ≤ 8) (ha : hI h s 6 = nI nm) {K : PK} (hK : K (.int (ixV (hL h (s + 6)) nm w)) h) : P.1 n_Script_indexOf [.ref s, .long w] h K := by
  obtain ⟨x1, x2, x3⟩ := ixF_ok (NL := hL h (s + 6)) (w := w) hn
  unfold ixV at hK
  revert x1 x2 x3 hK
  generalize ixF (hL h (s + 6)) nm w = x
  intro hK x1 x2 x3
  have lp : ∀ j i, i + j = x → P.2 n_Script_indexOf 2 [some (.ref s), some (.long w), none, some (.int (nI i))] [] h 0 0 K := by
    intro j
    induction j with
    | zero =>
      intro i hi
      have e : i = x := by omega
      subst e
      refine S.at 40 [] rfl ?_
      conv => whnf
      refine ⟨sc_t hw hs, ?_⟩
      conv => whnf
      rw [ha]
      refine bk_le (by omega) (by omega) (fun c => ?_) (fun c => ?_)
      · rw [if_neg (by omega)] at hK
        conv => whnf
        exact hK
      · rw [if_pos c] at hK
        conv => whnf
        refine bk_f (fun c => absurd ((zn_le (a := 8) (by omega) (by omega)).mp c) (by omega)) ?_
        conv => whnf
        refine ⟨sc_t hw hs, ?_⟩
        conv => whnf
        rw [sc_r7 hw hs]
        refine ⟨inB_of (sc_t6 hw hs) (sc_n6 hw hs) (by omega) (by decide), ?_⟩
        conv => whnf
        rw [nI_clamp (by omega)]
        refine bk_nf (((l_cmp_eq _ _).mpr (x2 c))) ?_
        conv => whnf
        exact hK
    | succ j ih =>
      intro i hi
      have next := ih (i + 1) (by omega)
      rw [← nI_1 i] at next
      refine S.at 40 [] rfl ?_
      conv => whnf
      refine ⟨sc_t hw hs, ?_⟩
      conv => whnf
      rw [ha]
      refine bk_f (fun c => absurd ((zn_le (by omega) (by omega)).mp c) (by omega)) ?_
      conv => whnf
      refine bk_f (fun c => absurd ((zn_le (a := 8) (by omega) (by omega)).mp c) (by omega)) ?_
      conv => whnf
      refine ⟨sc_t hw hs, ?_⟩
      conv => whnf
      rw [sc_r7 hw hs]
      refine ⟨inB_of (sc_t6 hw hs) (sc_n6 hw hs) (by omega) (by decide), ?_⟩
      conv => whnf
      rw [nI_clamp (by omega)]
      refine bk_nt ((fun z => x3 i (by omega) ((l_cmp_eq _ _).mp z))) ?_
      conv => whnf
      refine S.mk [(0,1),(0,1),(0,0),(0,1)] ?_
      exact next
  refine S.2.1 _ 4 _ _ _ rfl rfl ?_
  refine S.at 20 [2] rfl ?_
  conv => whnf
  exact lp x 0 (Nat.zero_add _)
theorem c_M_named {P : PSem} (S : SysOK P) {h : PH} (hw : WS h) {nm : Nat} {w : Int64} (hn : nm ≤ 8) (ha : hI h 116 29 = nI nm) {K : PK} (hK : K (.int (ixV (hL h 133) nm w)) h) : P.1 n_M_named [.ref 116, .long w] h K := by
  obtain ⟨x1, x2, x3⟩ := ixF_ok (NL := hL h 133) (w := w) hn
  unfold ixV at hK
  revert x1 x2 x3 hK
  generalize ixF (hL h 133) nm w = x
  intro hK x1 x2 x3
  have lp : ∀ j i, i + j = x → P.2 n_M_named 2 [some (.ref 116), some (.long w), none, some (.int (nI i))] [] h 0 0 K := by
    intro j
    induction j with
    | zero =>
      intro i hi
      have e : i = x := by omega
      subst e
      refine S.at 40 [] rfl ?_
      conv => whnf
      refine ⟨wt_116 hw, ?_⟩
      conv => whnf
      rw [ha]
      refine bk_le (by omega) (by omega) (fun c => ?_) (fun c => ?_)
      · rw [if_neg (by omega)] at hK
        conv => whnf
        exact hK
      · rw [if_pos c] at hK
        conv => whnf
        refine ⟨wt_116 hw, ?_⟩
        conv => whnf
        rw [wr_116_28 hw]
        refine ⟨inB_of (wt_133 hw) (wn_133 hw) (by omega) (by decide), ?_⟩
        conv => whnf
        rw [nI_clamp (by omega)]
        refine bk_nf (((l_cmp_eq _ _).mpr (x2 c))) ?_
        conv => whnf
        exact hK
    | succ j ih =>
      intro i hi
      have next := ih (i + 1) (by omega)
      rw [← nI_1 i] at next
      refine S.at 40 [] rfl ?_
      conv => whnf
      refine ⟨wt_116 hw, ?_⟩
      conv => whnf
      rw [ha]
      refine bk_f (fun c => absurd ((zn_le (by omega) (by omega)).mp c) (by omega)) ?_
      conv => whnf
      refine ⟨wt_116 hw, ?_⟩
      conv => whnf
      rw [wr_116_28 hw]
      refine ⟨inB_of (wt_133 hw) (wn_133 hw) (by omega) (by decide), ?_⟩
      conv => whnf
      rw [nI_clamp (by omega)]
      refine bk_nt ((fun z => x3 i (by omega) ((l_cmp_eq _ _).mp z))) ?_
      conv => whnf
      refine S.mk [(0,1),(0,1),(0,0),(0,1)] ?_
      exact next
  refine S.2.1 _ 4 _ _ _ rfl rfl ?_
  refine S.at 20 [2] rfl ?_
  conv => whnf
  exact lp x 0 (Nat.zero_add _)
