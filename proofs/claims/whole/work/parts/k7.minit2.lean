/-! CONSTRUCTORS: the reference's, whole -/
def apN (w c : Nat) : Nat := if c = 0 then w else 27 * w + (c - 96)
theorem c_M_ap {P : PSem} (S : SysOK P) {h : PH} {w c : Nat} (hc : c = 0 ∨ ltrB c = true) {K : PK} (hK : K (.long (lN (apN w c))) h) : P.1 n_M_appends [.long (lN w), .int (nI c)] h K := by
  unfold apN at hK
  rcases hc with e | e
  · subst e
    rw [if_pos rfl] at hK
    refine S.go 20 rfl rfl rfl ?_
    conv => whnf
    refine bk_nf (rfl) ?_
    conv => whnf
    exact hK
  · have c0 : ¬ c = 0 := fun q => by
      rw [q] at e
      exact absurd e (by decide)
    rw [if_neg c0] at hK
    exact c_M_appends S e hK
theorem c_M_letters {P : PSem} (S : SysOK P) {h : PH} {a b c d e f g : Nat} (ha : a = 0 ∨ ltrB a = true) (hb : b = 0 ∨ ltrB b = true) (hc : c = 0 ∨ ltrB c = true) (hd : d = 0 ∨ ltrB d = true) (he : e = 0 ∨ ltrB e = true) (hf : f = 0 ∨ ltrB f = true) (hg : g = 0 ∨ ltrB g = true) {K : PK} (hK : K (.long (lN (apN (apN (apN (apN (apN (apN (apN 0 a) b) c) d) e) f) g))) h) : P.1 n_M_letters [.int (nI a), .int (nI b), .int (nI c), .int (nI d), .int (nI e), .int (nI f), .int (nI g)] h K := by
  refine S.go 40 rfl rfl rfl ?_
  conv => whnf
  refine c_M_ap (w := 0) S ha ?_
  conv => whnf
  refine c_M_ap S hb ?_
  conv => whnf
  refine c_M_ap S hc ?_
  conv => whnf
  refine c_M_ap S hd ?_
  conv => whnf
  refine c_M_ap S he ?_
  conv => whnf
  refine c_M_ap S hf ?_
  conv => whnf
  refine c_M_ap S hg ?_
  exact hK
theorem l_M_now {P : PSem} (S : SysOK P) {h0 : PH} (hw0 : WS h0) (hs0 : SPL h0) {K : PK} (hK : ∀ h', eqX (fun k => k = 125) h0 h' → NOW h' lm → P.2 n_M_init 211 [some (.ref 116), none, none] [] h' 32 17894 K) : ∀ j i h, i + j = 13 → 1 ≤ i → eqX (fun k => k = 125) h0 h → (∀ q, 1 ≤ q → q < i → hI h 125 q = nI (lm q)) → P.2 n_M_init 199 [some (.ref 116), some (.int (nI i)), none] [] h 32 17894 K := by
  intro j
  induction j with
  | zero =>
    intro i h hj hi f a
    have e : i = 13 := by omega
    subst e
    refine S.at 40 [211] rfl ?_
    conv => whnf
    refine bk_t (by decide) ?_
    conv => whnf
    refine S.mk [(0,1),(0,0),(0,0)] ?_
    exact hK h f (fun q y1 y2 => a q y1 (by omega))
  | succ j ih =>
    intro i h hj hi f a
    have hw := eqX_WS f hw0
    have hs : SPL h := fun p y1 y2 => by rw [f.2.2.2.2 124 (by decide)]; exact hs0 p y1 y2
    have next := ih (i + 1) (sI h 125 i (nI (lm i))) (by omega) (by omega) (eqX_tr f (eqX_sI rfl)) (fun q y1 y2 => by
      rcases Nat.lt_or_ge q i with w | w
      · rw [hI_sI_j (by omega)]
        exact a q y1 w
      · have : q = i := by omega
        rw [this, hI_sI])
    rw [← nI_1 i] at next
    refine S.at 40 [211] rfl ?_
    conv => whnf
    refine bk_f (fun c => absurd ((zn_lt (a := 12) (by omega) (by omega)).mp c) (by omega)) ?_
    conv => whnf
    refine ⟨wt_116 hw, ?_⟩
    conv => whnf
    rw [wr_116_18 hw]
    refine ⟨wt_116 hw, ?_⟩
    refine c_M_leastWhole S hw hs hi (by omega) ?_
    conv => whnf
    refine ⟨⟨by decide, inB_of (wt_125 hw) (wn_125 hw) (show i < 13 by omega) (by decide)⟩, ?_⟩
    conv => whnf
    rw [nI_clamp (by omega)]
    exact next
theorem lm_MDS : MDS lm := fun n n1 n2 => lm_MOD n1 n2
def NA (k : Nat) : Prop := k = 123 ∨ k = 124 ∨ k = 125 ∨ k = 144
theorem c_M_init {P : PSem} (S : SysOK P) {h : PH} (q : Q6 h 117) (hw : WS (MTH h)) (z : hI (MTH h) 124 = fun _ => 0) {K : PK} (hK : ∀ h', eqY NA (MTH h) h' → MJ h' lm → MKY h' → K .null h') : P.1 n_M_init [.ref 116] h K := by
  refine mi_all S q ?_
  revert hw z hK
  generalize MTH h = h1
  intro hw z hK
  have hw1 : WS (sL h1 123 0 (lN 5254248403)) := hw
  have hw2 : WS (sL (sL h1 123 0 (lN 5254248403)) 123 1 (lN 8903)) := hw
  refine S.at 100 [171] rfl ?_
  conv => whnf
  refine ⟨wt_116 hw, ?_⟩
  conv => whnf
  rw [wr_116_9 hw]
  refine c_M_letters (a := 109) (b := 111) (c := 100) (d := 117) (e := 108) (f := 117) (g := 115) S (Or.inr rfl) (Or.inr rfl) (Or.inr rfl) (Or.inr rfl) (Or.inr rfl) (Or.inr rfl) (Or.inr rfl) ?_
  rw [show apN (apN (apN (apN (apN (apN (apN 0 109) 111) 100) 117) 108) 117) 115 = 5254248403 from by decide +kernel]
  conv => whnf
  refine ⟨inB_of (j := 0) (wt_123 hw) (wn_123 hw) (by decide) (by decide), ?_⟩
  conv => whnf
  refine ⟨wt_116 hw1, ?_⟩
  conv => whnf
  rw [show hR (sL h1 123 (Int32.toNatClampNeg 0) (lN 5254248403)) 116 9 = 123 from wr_116_9 hw]
  refine c_M_letters (a := 108) (b := 101) (c := 116) (d := 0) (e := 0) (f := 0) (g := 0) S (Or.inr rfl) (Or.inr rfl) (Or.inr rfl) (Or.inl rfl) (Or.inl rfl) (Or.inl rfl) (Or.inl rfl) ?_
  rw [show apN (apN (apN (apN (apN (apN (apN 0 108) 101) 116) 0) 0) 0) 0 = 8903 from by decide +kernel]
  conv => whnf
  refine ⟨inB_of (j := 1) (wt_123 hw1) (wn_123 hw1) (by decide) (by decide), ?_⟩
  conv => whnf
  refine ⟨wt_116 hw2, ?_⟩
  conv => whnf
  rw [show hR (sL (sL h1 123 (Int32.toNatClampNeg 0) (lN 5254248403)) 123 (Int32.toNatClampNeg 1) (lN 8903)) 116 9 = 123 from wr_116_9 hw]
  refine c_M_letters (a := 120) (b := 0) (c := 0) (d := 0) (e := 0) (f := 0) (g := 0) S (Or.inr rfl) (Or.inl rfl) (Or.inl rfl) (Or.inl rfl) (Or.inl rfl) (Or.inl rfl) (Or.inl rfl) ?_
  rw [show apN (apN (apN (apN (apN (apN (apN 0 120) 0) 0) 0) 0) 0) 0 = 24 from by decide +kernel]
  conv => whnf
  refine ⟨inB_of (j := 2) (wt_123 hw2) (wn_123 hw2) (by decide) (by decide), ?_⟩
  conv => whnf
  have hw3 : WS (sL (sL (sL h1 123 0 (lN 5254248403)) 123 1 (lN 8903)) 123 2 (lN 24)) := hw
  have f3 : eqY NA h1 (sL (sL (sL h1 123 0 (lN 5254248403)) 123 1 (lN 8903)) 123 2 (lN 24)) := eqY_tr (eqY_tr (eqY_sL (Or.inl rfl)) (eqY_sL (Or.inl rfl))) (eqY_sL (Or.inl rfl))
  have ky3 : MKY (sL (sL (sL h1 123 0 (lN 5254248403)) 123 1 (lN 8903)) 123 2 (lN 24)) := ⟨by rw [hL_sL_ne (by decide), hL_sL_ne (by decide), hL_sL], by rw [hL_sL_ne (by decide), hL_sL], hL_sL⟩
  refine l_M_out (h0 := sL (sL (sL h1 123 0 (lN 5254248403)) 123 1 (lN 8903)) 123 2 (lN 24)) S hw3 ?_ 8190 2 _ rfl (Nat.le_refl _) (eqX_rf _ _) ⟨fun x y d => ?_, fun p _ => congrFun z p⟩
  · intro h4 f4 s4
    have hw4 := eqX_WS f4 hw3
    have sp4 := SPA_SPL s4
    refine S.at 20 [199] rfl ?_
    conv => whnf
    refine l_M_now S hw4 sp4 ?_ 12 1 h4 rfl (Nat.le_refl 1) (eqX_rf _ _) (fun q y1 y2 => absurd y1 (by omega))
    intro h5 f5 nw5
    have hw5 := eqX_WS f5 hw4
    refine S.at 20 [] rfl ?_
    conv => whnf
    refine ⟨wt_116 hw5, ?_⟩
    refine c_M_laysTower S hw5 lm_MDS (img_ex lm_MDS) nw5 ?_
    intro h6 f6 x6
    have ff : eqY NA h1 h6 := eqY_tr f3 (eqY_tr (eqY_mono (fun k hk => Or.inr (Or.inl hk)) f4.y) (eqY_tr (eqY_mono (fun k hk => Or.inr (Or.inr (Or.inl hk))) f5.y) (eqY_mono (fun k hk => Or.inr (Or.inr (Or.inr hk))) f6.y)))
    have fin := hK h6 ff ⟨eqX_WS f6 hw5, fun q y1 y2 => ?_, fun q y1 y2 => ?_, x6⟩ ?_
    · conv => whnf
      exact fin
    · rw [f6.2.2.2.2 125 (by unfold m144; decide)]
      exact nw5 q y1 y2
    · rw [f6.2.2.2.2 124 (by unfold m144; decide), f5.2.2.2.2 124 (by decide)]
      exact sp4 q y1 y2
    · unfold MKY
      rw [f6.2.2.1, f5.2.2.1, f4.2.2.1]
      exact ky3
  · have := d.1
    have := d.2.1
    have := d.2.2.2
    omega
