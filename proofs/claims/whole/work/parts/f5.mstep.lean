/-! MEANS: the reference's rows of steps -/
def MNX (J A : Nat → Prop) (h h' : PH) : Prop := eqY A h h' ∧ ∀ j, ¬ J j → hI h' 116 j = hI h 116 j
theorem MNX_rf (J A : Nat → Prop) (h : PH) : MNX J A h h := ⟨eqY_rf _ _, fun _ _ => rfl⟩
theorem MNX_tr {J A : Nat → Prop} {a b c : PH} (x : MNX J A a b) (y : MNX J A b c) : MNX J A a c := ⟨eqY_tr x.1 y.1, fun j hj => (y.2 j hj).trans (x.2 j hj)⟩
theorem MNX_J {J A : Nat → Prop} {h : PH} {j : Nat} {v : Int32} (hA : A 116) (hj : J j) : MNX J A h (sI h 116 j v) := ⟨eqY_sI hA, fun i hi => hI_sI_j (fun e => hi (by rw [e]; exact hj))⟩
theorem MNX_A {J A : Nat → Prop} {h : PH} {k j : Nat} {v : Int32} (hA : A k) (hk : k ≠ 116) : MNX J A h (sI h k j v) := ⟨eqY_sI hA, fun i hi => hI_ne (fun e => hk e.symm)⟩
theorem MNX_L {J A : Nat → Prop} {h : PH} {k j : Nat} {v : Int64} (hA : A k) : MNX J A h (sL h k j v) := ⟨eqY_sL hA, fun _ _ => rfl⟩
theorem MNX_mono {J A J' A' : Nat → Prop} {h h' : PH} (hj : ∀ j, J j → J' j) (ha : ∀ j, A j → A' j) (x : MNX J A h h') : MNX J' A' h h' := ⟨eqY_mono ha x.1, fun j n => x.2 j (fun y => n (hj j y))⟩
def SA (k : Nat) : Prop := k = 116 ∨ (127 ≤ k ∧ k ≤ 129) ∨ k = 139
def SJ (j : Nat) : Prop := j = 24 ∨ j = 37
def RR (h : PH) (E : List Qst) : Prop := hI h 116 24 = nI E.length ∧ ∀ i s, E[i]? = some s → hI h 127 i = nI s.1 ∧ hI h 128 i = s.2.1 ∧ hI h 129 i = nI s.2.2
def WW (h : PH) (W : List Nat) : Prop := hI h 116 37 = nI W.length ∧ ∀ i w, W[i]? = some w → hI h 139 (W.length - 1 - i) = nI w
def stH (h : PH) (e : Nat) (k v p : Int32) : PH := sI (sI (sI (sI h 127 e k) 128 e v) 129 e p) 116 24 (nI (e + 1))
theorem stH_F {h : PH} {e : Nat} {k v p : Int32} : MNX SJ SA h (stH h e k v p) := MNX_tr (MNX_tr (MNX_tr (MNX_A (by unfold SA; omega) (by decide)) (MNX_A (by unfold SA; omega) (by decide))) (MNX_A (by unfold SA; omega) (by decide))) (MNX_J (by unfold SA; omega) (by unfold SJ; omega))
theorem lt_some {α : Type} {E : List α} {i : Nat} {s : α} (h : E[i]? = some s) : i < E.length := (List.getElem?_eq_some_iff.mp h).1
theorem RR.step {h : PH} {E : List Qst} (r : RR h E) (k : Nat) (v : Int32) (p : Nat) : RR (stH h E.length (nI k) v (nI p)) (E ++ [(k, v, p)]) := by
  refine ⟨?_, fun i s hs => ?_⟩
  · rw [List.length_append]
    exact hI_sI
  · have hl := lt_some hs
    rw [List.length_append] at hl
    have hl : i < E.length + 1 := hl
    have a1 : hI (stH h E.length (nI k) v (nI p)) 127 i = hI (sI h 127 E.length (nI k)) 127 i := by
      unfold stH
      rw [hI_ne (by decide), hI_ne (by decide), hI_ne (by decide)]
    have a2 : hI (stH h E.length (nI k) v (nI p)) 128 i = hI (sI (sI h 127 E.length (nI k)) 128 E.length v) 128 i := by
      unfold stH
      rw [hI_ne (by decide), hI_ne (by decide)]
    have a3 : hI (stH h E.length (nI k) v (nI p)) 129 i = hI (sI (sI (sI h 127 E.length (nI k)) 128 E.length v) 129 E.length (nI p)) 129 i := by
      unfold stH
      rw [hI_ne (by decide)]
    rw [a1, a2, a3]
    rcases Nat.lt_or_ge i E.length with w | w
    · rw [List.getElem?_append_left w] at hs
      rw [hI_sI_j (by omega), hI_sI_j (by omega), hI_sI_j (by omega), hI_ne (by decide), hI_ne (by decide), hI_ne (by decide)]
      exact r.2 i s hs
    · have e : i = E.length := by omega
      rw [e, List.getElem?_append_right (Nat.le_refl _), Nat.sub_self] at hs
      have hs : (k, v, p) = s := by simpa using hs
      rw [e, hI_sI, hI_sI, hI_sI, ← hs]
      exact ⟨rfl, rfl, rfl⟩
theorem WW.st {h : PH} {W : List Nat} (r : WW h W) {e : Nat} {k v p : Int32} : WW (stH h e k v p) W := by
  unfold WW stH
  rw [hI_sI_j (by decide), hI_ne (by decide), hI_ne (by decide), hI_ne (by decide), hI_sI_ne (by decide), hI_sI_ne (by decide), hI_sI_ne (by decide), hI_sI_ne (by decide)]
  exact r
theorem c_M_step {P : PSem} (S : SysOK P) {h : PH} (hw : WS h) {e : Nat} {k v p : Int32} (he : e < 410) (ha : hI h 116 24 = nI e) {K : PK} (hK : K .null (stH h e k v p)) : P.1 n_M_step [.ref 116, .int k, .int v, .int p] h K := by
  refine S.go 60 rfl rfl rfl ?_
  conv => whnf
  refine ⟨wt_116 hw, ?_⟩
  conv => whnf
  rw [wr_116_21 hw]
  refine ⟨wt_116 hw, ?_⟩
  conv => whnf
  rw [ha]
  refine ⟨⟨(by decide), inB_of (wt_127 hw) (wn_127 hw) (show e < 410 from he) (by decide)⟩, ?_⟩
  conv => whnf
  rw [nI_clamp (by omega)]
  have hw1 : WS (sI h 127 e k) := hw
  refine ⟨wt_116 hw1, ?_⟩
  conv => whnf
  rw [wr_116_22 hw1]
  refine ⟨wt_116 hw1, ?_⟩
  conv => whnf
  rw [hI_ne (by decide), ha]
  refine ⟨⟨(by decide), inB_of (wt_128 hw1) (wn_128 hw1) (show e < 410 from he) (by decide)⟩, ?_⟩
  conv => whnf
  rw [nI_clamp (by omega)]
  have hw2 : WS (sI (sI h 127 e k) 128 e v) := hw
  refine ⟨wt_116 hw2, ?_⟩
  conv => whnf
  rw [wr_116_23 hw2]
  refine ⟨wt_116 hw2, ?_⟩
  conv => whnf
  rw [hI_ne (by decide), hI_ne (by decide), ha]
  refine ⟨⟨(by decide), inB_of (wt_129 hw2) (wn_129 hw2) (show e < 410 from he) (by decide)⟩, ?_⟩
  conv => whnf
  rw [nI_clamp (by omega)]
  have hw3 : WS (sI (sI (sI h 127 e k) 128 e v) 129 e p) := hw
  refine ⟨wt_116 hw3, ?_⟩
  conv => whnf
  rw [hI_ne (by decide), hI_ne (by decide), hI_ne (by decide), ha]
  refine ⟨wt_116 hw3, ?_⟩
  conv => whnf
  unfold stH at hK
  rw [← nI_1 e] at hK
  exact hK
theorem rkk_le (k : Nat) : rkk k ≤ 2 := by
  unfold rkk
  repeat' split
  all_goals omega
theorem c_M_rank {P : PSem} (S : SysOK P) {h : PH} {k : Nat} (hk : k < 15) {K : PK} (hK : K (.int (nI (rkk k))) h) : P.1 n_M_rank [.int (nI (kM k))] h K := by
  have kl := kM_le k hk
  have e5 : ∀ k, k < 15 → (kM k = 5 ↔ k = 7) := by decide
  have e6 : ∀ k, k < 15 → (kM k = 6 ↔ k = 8) := by decide
  have e7 : ∀ k, k < 15 → (kM k = 7 ↔ k = 9) := by decide
  have e5 := e5 k hk
  have e6 := e6 k hk
  have e7 := e7 k hk
  unfold rkk at hK
  refine S.go 40 rfl rfl rfl ?_
  conv => whnf
  refine bk_ne (b := 5) (by omega) (by omega) (fun c => ?_) (fun c => ?_)
  rotate_left
  · rw [if_pos (by omega)] at hK
    conv => whnf
    exact hK
  rw [if_neg (by omega)] at hK
  conv => whnf
  refine bk_eq (b := 6) (by omega) (by omega) (fun d => ?_) (fun d => ?_)
  · rw [if_pos (by omega)] at hK
    conv => whnf
    exact hK
  conv => whnf
  refine bk_ne (b := 7) (by omega) (by omega) (fun d2 => ?_) (fun d2 => ?_)
  · rw [if_neg (by omega)] at hK
    conv => whnf
    exact hK
  · rw [if_pos (by omega)] at hK
    conv => whnf
    exact hK
/-- tokens that lie in rows -/
def TKS (h : PH) (tx : Nat → Nat) (L : Nat) (W : List Nat) : Prop := ∀ w, w ∈ W → w ≤ 400 ∧ TOK h tx L w
theorem TOK.fr {h h' : PH} {tx : Nat → Nat} {L i : Nat} {A : Nat → Prop} (e : eqY A h h') (h9 : ¬ A 119) (h0 : ¬ A 120) (h1 : ¬ A 121) (h2 : ¬ A 122) (t : TOK h tx L i) : TOK h' tx L i := by
  unfold TOK
  rw [(e.2.2.2 119 h9).1, (e.2.2.2 120 h0).1, (e.2.2.2 121 h1).1, (e.2.2.2 122 h2).2]
  exact t
theorem TOK.sa {h h' : PH} {tx : Nat → Nat} {L i : Nat} {J : Nat → Prop} (e : MNX J SA h h') (t : TOK h tx L i) : TOK h' tx L i := t.fr e.1 (by unfold SA; omega) (by unfold SA; omega) (by unfold SA; omega) (by unfold SA; omega)
theorem nI_d1 (n : Nat) : nI (n + 1) - 1 = nI n := zn_mns (a := n + 1) (b := 1) (by omega)
theorem WW.pop {h : PH} {x : Nat} {W : List Nat} (w : WW h (x :: W)) : WW (sI h 116 37 (nI W.length)) W := by
  refine ⟨hI_sI, fun i v hv => ?_⟩
  have hl := lt_some hv
  have := w.2 (i + 1) v hv
  rw [hI_ne (by decide)]
  rw [List.length_cons, show W.length + 1 - 1 - (i + 1) = W.length - 1 - i by omega] at this
  exact this
theorem RR.w {h : PH} {E : List Qst} (r : RR h E) {v : Int32} : RR (sI h 116 37 v) E := by
  unfold RR
  rw [hI_sI_j (by decide), hI_sI_ne (by decide), hI_sI_ne (by decide), hI_sI_ne (by decide)]
  exact r
theorem WW.push {h : PH} {W : List Nat} (w : WW h W) (x : Nat) : WW (sI (sI h 139 W.length (nI x)) 116 37 (nI (W.length + 1))) (x :: W) := by
  refine ⟨hI_sI, fun i v hv => ?_⟩
  rw [hI_ne (by decide), List.length_cons]
  cases i with
  | zero =>
    have e : x = v := by simpa using hv
    rw [show W.length + 1 - 1 - 0 = W.length by omega, hI_sI, e]
  | succ i =>
    have hv : W[i]? = some v := by simpa using hv
    have hl := lt_some hv
    rw [show W.length + 1 - 1 - (i + 1) = W.length - 1 - i by omega, hI_sI_j (by omega)]
    exact w.2 i v hv
theorem RR.p {h : PH} {E : List Qst} (r : RR h E) {j : Nat} {v v' : Int32} : RR (sI (sI h 139 j v) 116 37 v') E := by
  refine RR.w ?_
  unfold RR
  rw [hI_sI_ne (by decide), hI_sI_ne (by decide), hI_sI_ne (by decide), hI_sI_ne (by decide)]
  exact r
theorem l_M_settles {P : PSem} (S : SysOK P) {h0 : PH} (hw0 : WS h0) {tx : Nat → Nat} {L q : Nat} (hM : L ≤ 2000) (hq1 : 1 ≤ q) (hq : q ≤ 2) {K : PK} : ∀ W E h, MNX SJ SA h0 h → TKS h0 tx L W → RR h E → WW h W → E.length + W.length ≤ 400 →
    (∀ h', MNX SJ SA h0 h' → RR h' (E ++ (stl tx L q W).1) → WW h' (stl tx L q W).2 → K .null h') → P.2 n_M_settles 0 [some (.ref 116), some (.int (nI q)), none] [] h 0 0 K := by
  intro W
  induction W with
  | nil =>
    intro E h f ts r w hl hK
    have hw := eqY_WS f.1 hw0
    have fin := hK h f (by rw [show (stl tx L q []).1 = [] from rfl, List.append_nil]; exact r) w
    refine S.at 60 [] rfl ?_
    conv => whnf
    refine ⟨wt_116 hw, ?_⟩
    conv => whnf
    rw [w.1]
    refine bk_t ((zn_le (a := 0) (b := 0) (by omega) (by omega)).mpr (by omega)) ?_
    conv => whnf
    exact fin
  | cons x W ih =>
    intro E h f ts r w hl hK
    have hw := eqY_WS f.1 hw0
    have tk := (ts x (List.mem_cons_self)).2.sa f
    have x4 := (ts x (List.mem_cons_self)).1
    have wl := w.1
    have w0 := w.2 0 x rfl
    have hl : E.length + (W.length + 1) ≤ 400 := hl
    rw [List.length_cons] at wl w0
    rw [show W.length + 1 - 1 - 0 = W.length by omega] at w0
    have rl := rkk_le (tkk tx L x)
    have kl := tkk_le tx L x
    have kl2 := kM_le (tkk tx L x) (by omega)
    refine S.at 60 [16] rfl ?_
    conv => whnf
    refine ⟨wt_116 hw, ?_⟩
    conv => whnf
    rw [wl]
    refine bk_f (fun c => absurd ((zn_le (b := 0) (by omega) (by omega)).mp c) (by omega)) ?_
    conv => whnf
    refine ⟨wt_116 hw, ?_⟩
    conv => whnf
    rw [wr_116_5 hw]
    refine ⟨wt_116 hw, ?_⟩
    conv => whnf
    rw [wr_116_36 hw]
    refine ⟨wt_116 hw, ?_⟩
    conv => whnf
    rw [wl, show (fun x y : Int32 => x - y) (nI (W.length + 1)) 1 = nI W.length from nI_d1 _]
    refine ⟨inB_of (wt_139 hw) (wn_139 hw) (show W.length < 400 by omega) (by decide), ?_⟩
    conv => whnf
    rw [nI_clamp (by omega), w0]
    refine ⟨inB_of (wt_119 hw) (wn_119 hw) (show x < 403 by omega) (by decide), ?_⟩
    conv => whnf
    rw [nI_clamp (by omega), tk.1]
    refine c_M_rank S (show tkk tx L x < 15 by omega) ?_
    conv => whnf
    refine bk_lt (by omega) (by omega) (fun c => ?_) (fun c => ?_)
    · have fin := hK h f (by
        unfold stl
        rw [if_neg (by omega), List.append_nil]
        exact r) (by
        unfold stl
        rw [if_neg (by omega)]
        exact w)
      conv => whnf
      exact fin
    · have c' : q ≤ rkk (tkk tx L x) := c
      have next := ih (E ++ [opS tx L x]) (stH (sI h 116 37 (nI W.length)) E.length (nI (opS tx L x).1) 0 (nI (tkS tx L x))) (MNX_tr f (MNX_tr (MNX_J (by unfold SA; omega) (by unfold SJ; omega)) stH_F)) (fun v hv => ts v (List.mem_cons_of_mem _ hv)) (r.w.step _ _ _) w.pop.st (by rw [List.length_append]; show E.length + 1 + W.length ≤ 400; omega) (fun h' a b d => hK h' a (by
        unfold stl
        rw [if_pos c']
        rw [List.append_assoc] at b
        exact b) (by
        unfold stl
        rw [if_pos c']
        exact d))
      have hw1 : WS (sI h 116 37 (nI W.length)) := hw
      have fin : ∀ o : Int32, o = nI (opS tx L x).1 → P.1 n_M_step [.ref 116, .int o, .int 0, .int (nI (tkS tx L x))] (sI h 116 37 (nI W.length)) (fun _ h' => P.2 n_M_settles 0 [some (.ref 116), some (.int (nI q)), none] [] h' 0 0 K) := fun o ho => by
        rw [ho]
        exact c_M_step S hw1 (by omega) ((hI_sI_j (by decide)).trans r.1) next
      have e5 : ∀ k, k < 15 → (kM k = 5 ↔ k = 7) := by decide
      have e6 : ∀ k, k < 15 → (kM k = 6 ↔ k = 8) := by decide
      have e5 := e5 (tkk tx L x) (by omega)
      have e6 := e6 (tkk tx L x) (by omega)
      have g43 : ∀ o : Int32, o = nI (opS tx L x).1 → P.2 n_M_settles 43 [some (.ref 116), some (.int (nI q)), some (.int (nI (kM (tkk tx L x))))] [.int o, .ref 116] (sI h 116 37 (nI W.length)) 0 0 K := by
        intro o ho
        refine S.at 60 [] rfl ?_
        conv => whnf
        refine ⟨wt_116 hw1, ?_⟩
        conv => whnf
        rw [wr_116_6 hw1]
        refine ⟨wt_116 hw1, ?_⟩
        conv => whnf
        rw [wr_116_36 hw1]
        refine ⟨wt_116 hw1, ?_⟩
        conv => whnf
        rw [hI_sI]
        refine ⟨inB_of (wt_139 hw1) (wn_139 hw1) (show W.length < 400 by omega) (by decide), ?_⟩
        conv => whnf
        rw [nI_clamp (by omega), hI_ne (by decide), w0]
        refine ⟨inB_of (wt_120 hw1) (wn_120 hw1) (show x < 403 by omega) (by decide), ?_⟩
        conv => whnf
        rw [nI_clamp (by omega), hI_ne (by decide), tk.2.1]
        refine ⟨wt_116 hw1, ?_⟩
        exact fin o ho
      refine S.at 60 [43] rfl ?_
      conv => whnf
      refine ⟨wt_116 hw, ?_⟩
      conv => whnf
      rw [wl, show (fun x y : Int32 => x - y) (nI (W.length + 1)) 1 = nI W.length from nI_d1 _]
      refine ⟨wt_116 hw, ?_⟩
      conv => whnf
      refine ⟨wt_116 hw1, ?_⟩
      conv => whnf
      rw [wr_116_5 hw1]
      refine ⟨wt_116 hw1, ?_⟩
      conv => whnf
      rw [wr_116_36 hw1]
      refine ⟨wt_116 hw1, ?_⟩
      conv => whnf
      rw [hI_sI]
      refine ⟨inB_of (wt_139 hw1) (wn_139 hw1) (show W.length < 400 by omega) (by decide), ?_⟩
      conv => whnf
      rw [nI_clamp (by omega), hI_ne (by decide), w0]
      refine ⟨inB_of (wt_119 hw1) (wn_119 hw1) (show x < 403 by omega) (by decide), ?_⟩
      conv => whnf
      rw [nI_clamp (by omega), hI_ne (by decide), tk.1]
      refine bk_ne (b := 5) (by omega) (by omega) (fun d => ?_) (fun d => ?_)
      · conv => whnf
        refine bk_ne (b := 6) (by omega) (by omega) (fun d2 => ?_) (fun d2 => ?_)
        · conv => whnf
          exact g43 5 (by unfold opS; rw [if_neg (by omega), if_neg (by omega)]; rfl)
        · conv => whnf
          exact g43 4 (by unfold opS; rw [if_neg (by omega), if_pos (by omega)]; rfl)
      · conv => whnf
        exact g43 3 (by unfold opS; rw [if_pos (by omega)]; rfl)
theorem c_M_settles {P : PSem} (S : SysOK P) {h : PH} (hw : WS h) {tx : Nat → Nat} {L q : Nat} (hM : L ≤ 2000) (hq1 : 1 ≤ q) (hq : q ≤ 2) {W : List Nat} {E : List Qst} (ts : TKS h tx L W) (r : RR h E) (w : WW h W) (hl : E.length + W.length ≤ 400) {K : PK}
    (hK : ∀ h', MNX SJ SA h h' → RR h' (E ++ (stl tx L q W).1) → WW h' (stl tx L q W).2 → K .null h') : P.1 n_M_settles [.ref 116, .int (nI q)] h K := by
  refine S.2.1 _ 3 _ _ _ rfl rfl ?_
  exact l_M_settles S hw hM hq1 hq W E h (MNX_rf _ _ _) ts r w hl hK
