/-! WORTH: the reference works a line out -/
def SK4 (h : PH) (n : Nat) (st : List Nat) : Prop := ∀ i w, st[i]? = some w → hI h 140 (st.length - 1 - i) = nI w ∧ w < 2 ^ n
theorem SK4.push {h : PH} {n : Nat} {st : List Nat} (k : SK4 h n st) {v : Nat} (hv : v < 2 ^ n) : SK4 (sI h 140 st.length (nI v)) n (v :: st) := by
  intro i w hw
  rw [List.length_cons]
  cases i with
  | zero =>
    have e : v = w := by simpa using hw
    rw [show st.length + 1 - 1 - 0 = st.length by omega, hI_sI, e]
    exact ⟨rfl, by rw [← e]; exact hv⟩
  | succ i =>
    have hw : st[i]? = some w := by simpa using hw
    have hl := lt_some hw
    rw [show st.length + 1 - 1 - (i + 1) = st.length - 1 - i by omega, hI_sI_j (by omega)]
    exact k i w hw
theorem SK4.tl {h : PH} {n x : Nat} {st : List Nat} (k : SK4 h n (x :: st)) : SK4 h n st := by
  intro i w hw
  have hl := lt_some hw
  have := k (i + 1) w (by simpa using hw)
  rw [List.length_cons, show st.length + 1 - 1 - (i + 1) = st.length - 1 - i by omega] at this
  exact this
theorem SK4.hd {h : PH} {n x : Nat} {st : List Nat} (k : SK4 h n (x :: st)) : hI h 140 st.length = nI x ∧ x < 2 ^ n := by
  have := k 0 x rfl
  rw [List.length_cons, show st.length + 1 - 1 - 0 = st.length by omega] at this
  exact this
/-- what a line's run knows -/
def ONE (h : PH) (u nf nv : Nat → Nat) (j n e : Nat) : Prop := WS h ∧ NOW h u ∧ (∀ d, 1 ≤ d → d ∣ n → hI h 144 (13 * d + n) = nI (imF u d n)) ∧ hI h 130 (j + 1) = nI e ∧ (∀ w, w < 8 → 1 ≤ nf w → nf w ∣ n → nv w < 2 ^ nf w → w < j → hI h 131 w = nI (nf w) ∧ hI h 132 w = nI (nv w))
theorem ONE.fr {h h' : PH} {u nf nv : Nat → Nat} {j n e : Nat} (o : ONE h u nf nv j n e) (f : eqX (fun k => k = 140) h h') : ONE h' u nf nv j n e := by
  obtain ⟨a, b, c, d, g⟩ := o
  refine ⟨eqX_WS f a, fun q y1 y2 => ?_, fun q y1 y2 => ?_, ?_, ?_⟩
  · rw [f.2.2.2.2 125 (by decide)]
    exact b q y1 y2
  · rw [f.2.2.2.2 144 (by decide)]
    exact c q y1 y2
  · rw [f.2.2.2.2 130 (by decide)]
    exact d
  · rw [f.2.2.2.2 131 (by decide), f.2.2.2.2 132 (by decide)]
    exact g
theorem l_M_one {P : PSem} (S : SysOK P) {h0 : PH} {u nf nv : Nat → Nat} (hu : MDS u) {j n e : Nat} (hj : j < 8) (n1 : 1 ≤ n) (n2 : n ≤ 12) (he : e ≤ 400) (o0 : ONE h0 u nf nv j n e) {r : Sum Nat (List Nat)} {K : PK}
    (hK : ∀ h', eqX (fun k => k = 140) h0 h' → (∀ p, r = Sum.inl p → K (.int (nI p)) h') ∧ (∀ v, r = Sum.inr [v] → v < 2 ^ n → K (.int (-1)) (sI h' 132 j (nI v)))) (hr : (∃ p, r = Sum.inl p) ∨ ∃ v, r = Sum.inr [v]) : ∀ R st s h, eqX (fun k => k = 140) h0 h → s + R.length = e → st.length + R.length ≤ 400 → (∀ i q, R[i]? = some q → hI h0 127 (s + i) = nI q.1 ∧ hI h0 128 (s + i) = q.2.1 ∧ hI h0 129 (s + i) = nI q.2.2) → (∀ q, q ∈ R → okQ u nf nv n j q) → SK4 h n st → rn u nf nv n R st = some r →
    P.2 n_M_worksOne 12 [some (.ref 116), some (.int (nI j)), some (.int (nI n)), some (.int (nI st.length)), some (.int (nI s)), none, none, none] [] h 0 0 K := by
  have hm := (hu n n1 n2).1
  have p1 : 2 ^ n ≤ 2 ^ 12 := Nat.pow_le_pow_right (by decide) n2
  have c1 : 2 ^ 12 = 4096 := by decide
  have p2 : 2 ^ (n + 1) ≤ 2 ^ 13 := Nat.pow_le_pow_right (by decide) (by omega)
  have c2 : 2 ^ 13 = 8192 := by decide
  have ul : u n < 8192 := by have := hm.2.2; omega
  have u0 : u n ≠ 0 := by have := hm.2.1; have := Nat.two_pow_pos n; omega
  intro R
  induction R with
  | nil =>
    intro st s h f hs hl rows ok sk hrn
    obtain ⟨hw, a1, a2, a3, a4⟩ := o0.fr f
    have hs : s = e := by simpa using hs
    have er : r = Sum.inr st := (Option.some.inj hrn).symm
    refine S.at 60 [] rfl ?_
    conv => whnf
    refine ⟨wt_116 hw, ?_⟩
    conv => whnf
    rw [wr_116_25 hw]
    try rw [show (fun x y : Int32 => x + y) (nI j) 1 = nI (j + 1) from nI_1 j]
    refine ⟨inB_of (wt_130 hw) (wn_130 hw) (show j + 1 < 9 by omega) (by decide), ?_⟩
    conv => whnf
    rw [nI_clamp (by omega), a3]
    refine bk_t ((zn_le (by omega) (by omega)).mpr (by omega)) ?_
    conv => whnf
    refine ⟨wt_116 hw, ?_⟩
    conv => whnf
    rw [wr_116_27 hw]
    refine ⟨wt_116 hw, ?_⟩
    conv => whnf
    rw [wr_116_38 hw]
    rcases hr with ⟨p, hp⟩ | ⟨v, hv⟩
    · rw [er] at hp
      exact absurd hp (by simp)
    · rw [er] at hv
      have est : st = [v] := Sum.inr.inj hv
      rw [est] at sk
      have h0' := sk.hd
      refine ⟨inB_of (wt_140 hw) (wn_140 hw) (show 0 < 410 by decide) (by decide), ?_⟩
      conv => whnf
      rw [show hI h 140 (Int32.toNatClampNeg 0) = nI v from h0'.1]
      refine ⟨⟨by decide, inB_of (wt_132 hw) (wn_132 hw) (show j < 8 by omega) (by decide)⟩, ?_⟩
      conv => whnf
      rw [nI_clamp (by omega)]
      exact (hK h f).2 v (by rw [er, est]) h0'.2
  | cons q R ih =>
    intro st s h f hs hl rows ok sk hrn
    obtain ⟨hw, a1, a2, a3, a4⟩ := o0.fr f
    have hs : s + (R.length + 1) = e := hs
    have hl : st.length + (R.length + 1) ≤ 400 := hl
    obtain ⟨b1, b2, b3⟩ := rows 0 q rfl
    rw [Nat.add_zero] at b1 b2 b3
    have b1 : hI h 127 s = nI q.1 := by rw [f.2.2.2.2 127 (by decide)]; exact b1
    have b2 : hI h 128 s = q.2.1 := by rw [f.2.2.2.2 128 (by decide)]; exact b2
    have b3 : hI h 129 s = nI q.2.2 := by rw [f.2.2.2.2 129 (by decide)]; exact b3
    obtain ⟨o1, o2, o3, o4, o5⟩ := ok q List.mem_cons_self
    have next : ∀ st' h', eqX (fun k => k = 140) h h' → st'.length ≤ st.length + 1 → SK4 h' n st' → rn u nf nv n R st' = some r → P.2 n_M_worksOne 12 [some (.ref 116), some (.int (nI j)), some (.int (nI n)), some (.int (nI st'.length)), some (.int (nI s + 1)), none, none, none] [] h' 0 0 K := by
      intro st' h' f' l' k' r'
      rw [nI_1]
      exact ih st' (s + 1) h' (eqX_tr f f') (by omega) (by omega) (fun i v hv => by
        have := rows (i + 1) v (by simpa using hv)
        rw [show s + (i + 1) = s + 1 + i by omega] at this
        exact this) (fun v hv => ok v (List.mem_cons_of_mem _ hv)) k' r'
    have hrn : (match rn1 u nf nv n q st with
      | none => none
      | some (Sum.inl p) => some (Sum.inl p)
      | some (Sum.inr st') => rn u nf nv n R st') = some r := hrn
    have nw := a1 n n1 n2
    have g150 : ∀ st' h' x6 x7, eqX (fun k => k = 140) h h' → st'.length ≤ st.length + 1 → SK4 h' n st' → rn u nf nv n R st' = some r → P.2 n_M_worksOne 150 [some (.ref 116), some (.int (nI j)), some (.int (nI n)), some (.int (nI st'.length)), some (.int (nI s)), some (.int q.2.1), x6, x7] [] h' 0 0 K := by
      intro st' h' x6 x7 f' l' k' r'
      refine S.at 10 [] rfl ?_
      conv => whnf
      exact next st' h' f' l' k' r'
    refine S.at 60 [88,150] rfl ?_
    conv => whnf
    refine ⟨wt_116 hw, ?_⟩
    conv => whnf
    rw [wr_116_25 hw]
    try rw [show (fun x y : Int32 => x + y) (nI j) 1 = nI (j + 1) from nI_1 j]
    refine ⟨inB_of (wt_130 hw) (wn_130 hw) (show j + 1 < 9 by omega) (by decide), ?_⟩
    conv => whnf
    rw [nI_clamp (by omega), a3]
    refine bk_f (fun c => absurd ((zn_le (by omega) (by omega)).mp c) (by omega)) ?_
    conv => whnf
    refine ⟨wt_116 hw, ?_⟩
    conv => whnf
    rw [wr_116_22 hw]
    refine ⟨inB_of (wt_128 hw) (wn_128 hw) (show s < 410 by omega) (by decide), ?_⟩
    conv => whnf
    rw [nI_clamp (by omega), b2]
    refine ⟨wt_116 hw, ?_⟩
    conv => whnf
    rw [wr_116_21 hw]
    refine ⟨inB_of (wt_127 hw) (wn_127 hw) (show s < 410 by omega) (by decide), ?_⟩
    conv => whnf
    rw [nI_clamp (by omega), b1]
    rcases (show q.1 = 0 ∨ q.1 = 1 ∨ q.1 = 2 ∨ q.1 = 6 ∨ (q.1 = 3 ∨ q.1 = 4 ∨ q.1 = 5) by omega) with z | z | z | z | z
    · have r1 : rn1 u nf nv n q st = some (Sum.inr (rem13 2 (u n) :: st)) := by
        unfold rn1
        rw [if_pos z]
      rw [r1] at hrn
      rw [z]
      repeat refine bk_f (by decide) ?_
      refine bk_t (by decide) ?_
      conv => whnf
      refine ⟨wt_116 hw, ?_⟩
      conv => whnf
      rw [wr_116_38 hw]
      refine ⟨wt_116 hw, ?_⟩
      conv => whnf
      rw [wr_116_18 hw]
      refine ⟨inB_of (wt_125 hw) (wn_125 hw) (show n < 13 by omega) (by decide), ?_⟩
      conv => whnf
      rw [nI_clamp (by omega), nw]
      refine c_M_rest (p := 2) S (by decide) u0 ul ?_
      conv => whnf
      refine ⟨⟨by decide, inB_of (wt_140 hw) (wn_140 hw) (show st.length < 410 by omega) (by decide)⟩, ?_⟩
      conv => whnf
      rw [nI_clamp (by omega)]
      have g := g150 (rem13 2 (u n) :: st) (sI h 140 st.length (nI (rem13 2 (u n)))) none none (eqX_sI rfl) (Nat.le_refl _) (sk.push (rem_lt n2 hm (by decide))) hrn
      rw [List.length_cons, ← nI_1] at g
      exact g
    · obtain ⟨v, v1, v2⟩ := o3 z
      have r1 : rn1 u nf nv n q st = some (Sum.inr (rem13 v (u n) :: st)) := by
        unfold rn1
        rw [if_neg (by omega), if_pos z, v2, nI_clamp (by omega)]
      rw [r1] at hrn
      rw [z]
      repeat refine bk_f (by decide) ?_
      refine bk_t (by decide) ?_
      conv => whnf
      refine ⟨wt_116 hw, ?_⟩
      conv => whnf
      rw [wr_116_38 hw]
      refine ⟨wt_116 hw, ?_⟩
      conv => whnf
      rw [wr_116_18 hw]
      refine ⟨inB_of (wt_125 hw) (wn_125 hw) (show n < 13 by omega) (by decide), ?_⟩
      conv => whnf
      rw [nI_clamp (by omega), nw, v2]
      refine c_M_rest S v1 u0 ul ?_
      conv => whnf
      refine ⟨⟨by decide, inB_of (wt_140 hw) (wn_140 hw) (show st.length < 410 by omega) (by decide)⟩, ?_⟩
      conv => whnf
      rw [nI_clamp (by omega)]
      have g := g150 (rem13 v (u n) :: st) (sI h 140 st.length (nI (rem13 v (u n)))) none none (eqX_sI rfl) (Nat.le_refl _) (sk.push (rem_lt n2 hm v1)) hrn
      rw [List.length_cons, ← nI_1, v2] at g
      exact g
    · obtain ⟨v, v1, v2, v3, v4, v5, vj⟩ := o4 z
      obtain ⟨e1, e2⟩ := a4 v v1 v3 v4 v5 vj
      have d12 : nf v ≤ 12 := Nat.le_trans (Nat.le_of_dvd n1 v4) n2
      have im := (IMG_root hu (img_ex hu) n (nf v) n1 n2 v3 v4).1
      have xu := a2 (nf v) v3 v4
      have r1 : rn1 u nf nv n q st = some (Sum.inr (pvl n (u n) (imF u (nf v) n) (nv v) :: st)) := by
        unfold rn1
        rw [if_neg (by rw [z]; decide), if_neg (by rw [z]; decide), if_pos z, v2, nI_clamp (Nat.lt_trans v1 (by decide))]
      have pl := pvl_lt (p := nv v) hm im
      clear v4
      rw [r1] at hrn
      rw [z]
      repeat refine bk_f (by decide) ?_
      refine bk_t (by decide) ?_
      conv => whnf
      refine ⟨wt_116 hw, ?_⟩
      conv => whnf
      rw [wr_116_38 hw]
      refine ⟨wt_116 hw, ?_⟩
      conv => whnf
      rw [wr_116_26 hw, v2]
      refine ⟨inB_of (wt_131 hw) (wn_131 hw) v1 (by decide), ?_⟩
      conv => whnf
      rw [nI_clamp (by omega), e1]
      refine ⟨wt_116 hw, ?_⟩
      conv => whnf
      rw [wr_116_27 hw]
      refine ⟨inB_of (wt_132 hw) (wn_132 hw) v1 (by decide), ?_⟩
      conv => whnf
      rw [nI_clamp (by omega), e2]
      refine ⟨wt_116 hw, ?_⟩
      refine c_M_up S hw n2 v3 d12 hm nw xu im v5 ?_
      conv => whnf
      refine ⟨⟨by decide, inB_of (wt_140 hw) (wn_140 hw) (show st.length < 410 by omega) (by decide)⟩, ?_⟩
      conv => whnf
      rw [nI_clamp (by omega)]
      have g := g150 (pvl n (u n) (imF u (nf v) n) (nv v) :: st) (sI h 140 st.length (nI (pvl n (u n) (imF u (nf v) n) (nv v)))) none none (eqX_sI rfl) (Nat.le_refl _) (sk.push pl) hrn
      rw [List.length_cons, ← nI_1, v2] at g
      exact g
    · obtain ⟨v, v1, v2⟩ := o5 z
      cases st with
      | nil =>
        have r1 : rn1 u nf nv n q [] = none := by
          unfold rn1
          rw [if_neg (by omega), if_neg (by omega), if_neg (by omega), if_pos z]
        rw [r1] at hrn
        exact absurd hrn (by simp)
      | cons x st =>
        obtain ⟨x1, x2⟩ := sk.hd
        have hl : st.length + 1 + (R.length + 1) ≤ 400 := hl
        have r1 : rn1 u nf nv n q (x :: st) = some (Sum.inr (fpw n (u n) x v :: st)) := by
          unfold rn1
          rw [if_neg (by omega), if_neg (by omega), if_neg (by omega), if_pos z, v2, nI_clamp (by omega)]
        rw [r1] at hrn
        rw [z]
        repeat refine bk_f (by decide) ?_
        refine bk_t (by decide) ?_
        conv => whnf
        refine ⟨wt_116 hw, ?_⟩
        conv => whnf
        rw [wr_116_38 hw]
        refine ⟨wt_116 hw, ?_⟩
        conv => whnf
        try rw [wr_116_38 hw]
        rw [List.length_cons, show (fun x y : Int32 => x - y) (nI (st.length + 1)) 1 = nI st.length from nI_d1 _]
        refine ⟨inB_of (wt_140 hw) (wn_140 hw) (show st.length < 410 by omega) (by decide), ?_⟩
        conv => whnf
        rw [nI_clamp (by omega), x1, v2]
        refine ⟨wt_116 hw, ?_⟩
        refine c_M_powered S hw n2 hm nw x2 (show v < 2 ^ 31 by omega) ?_
        conv => whnf
        refine ⟨⟨by decide, inB_of (wt_140 hw) (wn_140 hw) (show st.length < 410 by omega) (by decide)⟩, ?_⟩
        conv => whnf
        rw [nI_clamp (by omega)]
        have g := g150 (fpw n (u n) x v :: st) (sI h 140 st.length (nI (fpw n (u n) x v))) none none (eqX_sI rfl) (by simp) (sk.tl.push (fpw_lt hm x2 _)) hrn
        rw [List.length_cons, v2] at g
        exact g
    · match st, sk, hl, hrn, next, g150 with
      | [], _, _, hrn, _, _ =>
        have r1 : rn1 u nf nv n q [] = none := by
          unfold rn1
          rw [if_neg (by omega), if_neg (by omega), if_neg (by omega), if_neg (by omega)]
        rw [r1] at hrn
        exact absurd hrn (by simp)
      | [x], _, _, hrn, _, _ =>
        have r1 : rn1 u nf nv n q [x] = none := by
          unfold rn1
          rw [if_neg (by omega), if_neg (by omega), if_neg (by omega), if_neg (by omega)]
        rw [r1] at hrn
        exact absurd hrn (by simp)
      | b :: a :: t, sk, hl, hrn, next, g150 =>
        obtain ⟨x1, x2⟩ := sk.hd
        obtain ⟨y1, y2⟩ := sk.tl.hd
        rw [List.length_cons] at x1
        have hl : t.length + 1 + 1 + (R.length + 1) ≤ 400 := hl
        have r1 : rn1 u nf nv n q (b :: a :: t) = if q.1 = 5 ∧ b = 0 then some (Sum.inl q.2.2) else some (Sum.inr ((if q.1 = 3 then a ^^^ b else if q.1 = 4 then fm n (u n) a b else fm n (u n) a (fpw n (u n) b (2 ^ n - 2))) :: t)) := by
          unfold rn1
          rw [if_neg (by omega), if_neg (by omega), if_neg (by omega), if_neg (by omega)]
        rw [r1] at hrn
        have g149 : ∀ y, y < 2 ^ n → rn u nf nv n R (y :: t) = some r → P.2 n_M_worksOne 149 [some (.ref 116), some (.int (nI j)), some (.int (nI n)), some (.int (nI (t.length + 1))), some (.int (nI s)), some (.int q.2.1), some (.int (nI a)), some (.int (nI b))] [.int (nI y), .int (nI t.length), .ref 140] h 0 0 K := by
          intro y yl yr
          refine S.at 20 [150] rfl ?_
          conv => whnf
          refine ⟨⟨by decide, inB_of (wt_140 hw) (wn_140 hw) (show t.length < 410 by omega) (by decide)⟩, ?_⟩
          conv => whnf
          rw [nI_clamp (by omega)]
          have g := g150 (y :: t) (sI h 140 t.length (nI y)) (some (.int (nI a))) (some (.int (nI b))) (eqX_sI rfl) (by simp) (sk.tl.tl.push yl) yr
          exact g
        have g114 : ¬ (q.1 = 5 ∧ b = 0) → P.2 n_M_worksOne 114 [some (.ref 116), some (.int (nI j)), some (.int (nI n)), some (.int (nI (t.length + 1))), some (.int (nI s)), some (.int q.2.1), some (.int (nI a)), some (.int (nI b))] [] h 0 0 K := by
          intro nz
          rw [if_neg nz] at hrn
          have hrn : rn u nf nv n R ((if q.1 = 3 then a ^^^ b else if q.1 = 4 then fm n (u n) a b else fm n (u n) a (fpw n (u n) b (2 ^ n - 2))) :: t) = some r := hrn
          refine S.at 60 [149] rfl ?_
          conv => whnf
          refine ⟨wt_116 hw, ?_⟩
          conv => whnf
          rw [wr_116_38 hw]
          rw [show (fun x y : Int32 => x - y) (nI (t.length + 1)) 1 = nI t.length from nI_d1 _]
          refine ⟨wt_116 hw, ?_⟩
          conv => whnf
          rw [wr_116_21 hw]
          refine ⟨inB_of (wt_127 hw) (wn_127 hw) (show s < 410 by omega) (by decide), ?_⟩
          conv => whnf
          rw [nI_clamp (by omega), b1]
          refine bk_ne (b := 3) (by omega) (by omega) (fun c => ?_) (fun c => ?_)
          rotate_left
          · rw [if_pos c] at hrn
            conv => whnf
            rw [show (fun x y : Int32 => x ^^^ y) (nI a) (nI b) = nI (a ^^^ b) from zn_xor a b]
            exact g149 _ (Nat.xor_lt_two_pow y2 x2) hrn
          rw [if_neg c] at hrn
          conv => whnf
          refine ⟨wt_116 hw, ?_⟩
          conv => whnf
          rw [wr_116_21 hw]
          refine ⟨inB_of (wt_127 hw) (wn_127 hw) (show s < 410 by omega) (by decide), ?_⟩
          conv => whnf
          rw [nI_clamp (by omega), b1]
          refine bk_ne (b := 4) (by omega) (by omega) (fun c => ?_) (fun c => ?_)
          rotate_left
          · rw [if_pos c] at hrn
            conv => whnf
            refine ⟨wt_116 hw, ?_⟩
            refine c_M_product S hw n2 hm nw y2 x2 ?_
            conv => whnf
            exact g149 _ (fm_lt hm y2 x2) hrn
          rw [if_neg c] at hrn
          conv => whnf
          refine ⟨wt_116 hw, ?_⟩
          refine c_M_inverse S hw n2 hm nw x2 ?_
          conv => whnf
          refine ⟨wt_116 hw, ?_⟩
          refine c_M_product S hw n2 hm nw y2 (fpw_lt hm x2 _) ?_
          conv => whnf
          exact g149 _ (fm_lt hm y2 (fpw_lt hm x2 _)) hrn
        have g88 : P.2 n_M_worksOne 88 [some (.ref 116), some (.int (nI j)), some (.int (nI n)), some (.int (nI (t.length + 1 + 1))), some (.int (nI s)), some (.int q.2.1), none, none] [] h 0 0 K := by
          refine S.at 60 [114] rfl ?_
          conv => whnf
          rw [show nI (t.length + 1 + 1) + (-1) = nI (t.length + 1) from pk_m1 _]
          refine ⟨wt_116 hw, ?_⟩
          conv => whnf
          rw [wr_116_38 hw]
          try rw [show (fun x y : Int32 => x - y) (nI (t.length + 1)) 1 = nI t.length from nI_d1 _]
          refine ⟨inB_of (wt_140 hw) (wn_140 hw) (show t.length < 410 by omega) (by decide), ?_⟩
          conv => whnf
          rw [nI_clamp (by omega), y1]
          refine ⟨wt_116 hw, ?_⟩
          conv => whnf
          rw [wr_116_38 hw]
          refine ⟨inB_of (wt_140 hw) (wn_140 hw) (show t.length + 1 < 410 by omega) (by decide), ?_⟩
          conv => whnf
          rw [nI_clamp (by omega), x1]
          refine ⟨wt_116 hw, ?_⟩
          conv => whnf
          rw [wr_116_21 hw]
          refine ⟨inB_of (wt_127 hw) (wn_127 hw) (show s < 410 by omega) (by decide), ?_⟩
          conv => whnf
          rw [nI_clamp (by omega), b1]
          refine bk_ne (b := 5) (by omega) (by omega) (fun c => ?_) (fun c => ?_)
          · conv => whnf
            exact g114 (fun y => c y.1)
          · conv => whnf
            refine bk_ne (b := 0) (by omega) (by omega) (fun d => ?_) (fun d => ?_)
            · conv => whnf
              exact g114 (fun y => d y.2)
            · rw [if_pos ⟨c, d⟩] at hrn
              have er : r = Sum.inl q.2.2 := (Option.some.inj hrn).symm
              conv => whnf
              refine ⟨wt_116 hw, ?_⟩
              conv => whnf
              rw [wr_116_23 hw]
              refine ⟨inB_of (wt_129 hw) (wn_129 hw) (show s < 410 by omega) (by decide), ?_⟩
              conv => whnf
              rw [nI_clamp (by omega), b3]
              exact (hK h f).1 _ er
        rcases z with z | z | z
        · rw [z]
          repeat refine bk_f (by decide) ?_
          refine bk_t (by decide) ?_
          conv => whnf
          exact g88
        · rw [z]
          repeat refine bk_f (by decide) ?_
          refine bk_t (by decide) ?_
          conv => whnf
          exact g88
        · rw [z]
          repeat refine bk_f (by decide) ?_
          refine bk_t (by decide) ?_
          conv => whnf
          exact g88
