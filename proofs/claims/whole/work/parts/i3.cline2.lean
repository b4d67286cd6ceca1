/-! CLASS: the worker's loop over a line -/
theorem l_Worker_line {P : PSem} (S : SysOK P) {h0 : PH} (hw0 : WS h0) {s : Nat} (hs : SCL s) {tx : Nat → Nat} {L : Nat} {l0 : Nat → Int64} {f0 s0 m0 : Nat → Int32} (sc0 : SCT h0 s tx L l0 f0 s0 m0) (tt : TXT tx L l0 f0) {u : Nat → Nat} (hu : MDS u) (hF0 : CF h0 u) {a T j : Nat} (ha : cR tx L a = 6) (haT : a < T) (hT : T < pT (tkk tx L)) (h6 : tkk tx L T = 6) (haj : cnm tx L a = j) (hj8 : j < 8) (hi : ∀ i, a < i → i ≤ T → 7 ≤ cR tx L i ∧ cnm tx L i = j ∧ clf tx L i = tkw tx L a ∧ (i < T → tkk tx L i ≠ 6)) (iml : IML h0 tx L f0 l0 u (tkw tx L a) a T) (ra : ∀ w, w < j → hI h0 80 w = nI ((mst tx L l0 u a).2.2.2 w)) {K : PK}
    (hK1 : (mst tx L l0 u (T + 1)).1 = none → ∀ h', eqX W6 h0 h' → (∀ w, w < j → hI h' 80 w = nI ((mst tx L l0 u (T + 1)).2.2.2 w)) → hI h' 80 j = nI ((mst tx L l0 u (T + 1)).2.2.2 j) → hI h' 79 1 = hI h0 79 1 → K (.int 1) h')
    (hK0 : ∀ p, (mst tx L l0 u (T + 1)).1 = some p → ∀ h', eqX W6 h0 h' → hI h' 79 1 = nI p → K (.int 0) h') : ∀ d i h, i + d = T → a < i → (mst tx L l0 u i).1 = none → (mst tx L l0 u i).2.2.2 = (mst tx L l0 u a).2.2.2 → eqX W6 h0 h → WKL h tx L (mst tx L l0 u i).2.1 → (cR tx L i ≠ 7 → hI h 79 6 = nI (mst tx L l0 u i).2.2.1) → hI h 80 = hI h0 80 → hI h 79 1 = hI h0 79 1 →
    P.2 n_Worker_workLine 25 [some (.ref 79), some (.ref s), some (.ref 8), some (.int (nI j)), some (.int (nI (tkw tx L a))), some (.ref (27 + 4 * tkw tx L a)), some (.int (nI ((mst tx L l0 u i).2.1.length - 1))), some (.int (nI i)), none] [] h 0 0 K := by
  have t4 := (pT_ok (tkk tx L)).1
  obtain ⟨n1, n2, n3⟩ := nm_12 tt.2.2 ha (by omega)
  have hm := (hu _ n1 n2).1
  have s96 : 96 ≤ s ∧ s ≤ 106 := by
    unfold SCL at hs
    omega
  intro d
  induction d with
  | zero => ?_
  | succ d ih => ?_
  all_goals
    intro i h hd hai en nve f wk hx h80 h791
    have hw := eqX_WS f hw0
    obtain ⟨q1, q2, q3, q4⟩ := hi i hai (by omega)
    have ip : i < pT (tkk tx L) := by omega
    have tab := rtab ip
    have sc : SCT h s tx L l0 f0 s0 m0 := sc0.eq (fun k k1 k2 => ⟨f.2.2.2.2 k (by unfold W6; omega), by rw [f.2.2.1]⟩)
    obtain ⟨e1, e2, e3, e4⟩ := sc.2.2.1 i ip
    have hF : FOK h (27 + 4 * tkw tx L a) (tkw tx L a) (u (tkw tx L a)) := by
      have := hF0 _ n1 n2
      unfold FOK
      rw [eqX_T f, f.2.2.2.2 _ (by unfold W6; omega)]
      exact this
    have kl := tkk_le tx L i
    have rl : cR tx L i ≤ 10 := pst_le (tkk tx L) i
    obtain ⟨mi1, mi2, mi3, mi4, mi5⟩ := MIv_ok (tx := tx) (L := L) l0 u i (by omega) q1
    obtain ⟨bn1, bn2⟩ := BND_ok l0 f0 hu i (by omega) (fun k hk => tt.2.2 k (by omega))
    obtain ⟨bx, bl⟩ := bn2 q1
    rw [q3] at bx bl
    have o8 := (pT_8 (K := tkk tx L) (t := i) (by omega)).1
    have ms : mst tx L l0 u (i + 1) = if cR tx L i = 6 then ((mst tx L l0 u i).1, [(0, (none, 0), (none, 0))], 0, (mst tx L l0 u i).2.2.2)
      else if cR tx L i = 7 then (if tkk tx L i = 11 then ((mst tx L l0 u i).1, (i, (none, 0), (none, 0)) :: (mst tx L l0 u i).2.1, (mst tx L l0 u i).2.2.1, (mst tx L l0 u i).2.2.2) else ((mst tx L l0 u i).1, (mst tx L l0 u i).2.1, avF tx L l0 u (mst tx L l0 u i).2.2.2 i, (mst tx L l0 u i).2.2.2))
      else if cR tx L i = 9 then ((mst tx L l0 u i).1, (mst tx L l0 u i).2.1, fpw (clf tx L i) (u (clf tx L i)) (mst tx L l0 u i).2.2.1 (tkw tx L i), (mst tx L l0 u i).2.2.2)
      else if (cR tx L i = 8 ∨ cR tx L i = 10) ∧ tkk tx L i ≠ 10 then mjn tx L u i (mst tx L l0 u i)
      else mst tx L l0 u i := rfl
    rw [if_neg (by omega)] at ms
  · have eT : i = T := by omega
    have k6 : tkk tx L i = 6 := by
      rw [eT]
      exact h6
    have c8 : cR tx L i = 8 ∨ cR tx L i = 10 := by omega
    rw [if_neg (by omega), if_neg (by omega), if_pos ⟨c8, by omega⟩] at ms
    have hx := hx (by omega)
    have bx := bx (by omega)
    cases hl : (mst tx L l0 u i).2.1 with
    | nil => exact absurd hl mi1
    | cons l r =>
      rw [hl] at wk mi2 mi5 bl
      rw [mjn_cons hl, if_neg (by omega), if_neg (by omega), if_pos k6, q3] at ms
      have ol := mi5 l List.mem_cons_self
      obtain ⟨b1, b2⟩ := bl l List.mem_cons_self
      have r0 : r.length = 0 := by
        have o0 : (pst (tkk tx L) i).2.1 = 0 := by omega
        have mi2 : r.length + 1 = (pst (tkk tx L) i).2.1 + 1 := mi2
        omega
      have e1' : hI h (s + 1) i = nI 6 := by rw [e1, k6]
      obtain ⟨w1, w2, w3⟩ := wk.hd
      rw [r0] at w1
      have merr : (mst tx L l0 u (T + 1)).1 = jnE tx L l.2.2 (mst tx L l0 u i).2.2.1 := by
        rw [← eT, ms]
        show eOr _ _ = _
        rw [en]
        rfl
      have mval : ∀ w, (mst tx L l0 u (T + 1)).2.2.2 w = if w = j then l.2.1.2 ^^^ jnV tx L (tkw tx L a) (u (tkw tx L a)) l.2.2 (mst tx L l0 u i).2.2.1 else (mst tx L l0 u i).2.2.2 w := by
        intro w
        rw [← eT, ms]
        show (if w = cnm tx L i then _ else _) = _
        rw [q2]
      refine S.at 80 [114] rfl ?_
      conv => whnf
      refine ⟨sc_t hw hs, ?_⟩
      conv => whnf
      rw [sc.1]
      refine bk_f (fun c => absurd ((zn_le (by omega) (by omega)).mp c) (by omega)) ?_
      conv => whnf
      refine ⟨sc_t hw hs, ?_⟩
      conv => whnf
      rw [sc_r1 hw hs]
      refine ⟨inB_of (sc_t1 hw hs) (sc_n1 hw hs) (show i < 400 by omega) (by decide), ?_⟩
      conv => whnf
      rw [nI_clamp (by omega), e1']
      refine bk_nt (by decide) ?_
      conv => whnf
      refine ⟨sc_t hw hs, ?_⟩
      conv => whnf
      rw [sc_r2 hw hs]
      refine ⟨inB_of (sc_t2 hw hs) (sc_n2 hw hs) (show i < 400 by omega) (by decide), ?_⟩
      conv => whnf
      rw [nI_clamp (by omega), e2]
      refine bk_nt (fun c => absurd ((zn_eq (b := 7) (by omega) (by omega)).mp c) (by omega)) ?_
      conv => whnf
      refine ⟨sc_t hw hs, ?_⟩
      conv => whnf
      rw [sc_r2 hw hs]
      refine ⟨inB_of (sc_t2 hw hs) (sc_n2 hw hs) (show i < 400 by omega) (by decide), ?_⟩
      conv => whnf
      rw [nI_clamp (by omega), e2]
      refine bk_nt (fun c => absurd ((zn_eq (b := 9) (by omega) (by omega)).mp c) (by omega)) ?_
      conv => whnf
      refine bk_f (by decide) ?_
      conv => whnf
      refine ⟨wt_79 hw, ?_⟩
      have e0 : (l :: r).length - 1 = r.length := rfl
      rw [e0]
      refine c_Worker_join S hw n2 hm hF wk ol (by omega) hx bx b2 ?_ ?_
      · intro ej
        rw [r0]
        have hw1 : WS (sI h 82 0 (nI (jnV tx L (tkw tx L a) (u (tkw tx L a)) l.2.2 (mst tx L l0 u i).2.2.1))) := hw
        conv => whnf
        refine bk_nt (by decide) ?_
        conv => whnf
        refine bk_nf (rfl) ?_
        conv => whnf
        refine ⟨wt_79 hw1, ?_⟩
        conv => whnf
        rw [wr_79_0 hw1]
        refine ⟨wt_79 hw1, ?_⟩
        conv => whnf
        rw [wr_79_2 hw1]
        refine ⟨inB_of (j := 0) (wt_81 hw1) (wn_81 hw1) (by decide) (by decide), ?_⟩
        conv => whnf
        rw [show hI (sI h 82 0 (nI (jnV tx L (tkw tx L a) (u (tkw tx L a)) l.2.2 (mst tx L l0 u i).2.2.1))) 81 (Int32.toNatClampNeg 0) = nI l.2.1.2 from (hI_ne (by decide)).trans w1]
        refine ⟨wt_79 hw1, ?_⟩
        conv => whnf
        rw [wr_79_3 hw1]
        refine ⟨inB_of (j := 0) (wt_82 hw1) (wn_82 hw1) (by decide) (by decide), ?_⟩
        conv => whnf
        rw [show hI (sI h 82 0 (nI (jnV tx L (tkw tx L a) (u (tkw tx L a)) l.2.2 (mst tx L l0 u i).2.2.1))) 82 (Int32.toNatClampNeg 0) = nI (jnV tx L (tkw tx L a) (u (tkw tx L a)) l.2.2 (mst tx L l0 u i).2.2.1) from hI_sI]
        rw [show (fun x y : Int32 => x ^^^ y) (nI l.2.1.2) (nI (jnV tx L (tkw tx L a) (u (tkw tx L a)) l.2.2 (mst tx L l0 u i).2.2.1)) = nI (l.2.1.2 ^^^ jnV tx L (tkw tx L a) (u (tkw tx L a)) l.2.2 (mst tx L l0 u i).2.2.1) from zn_xor _ _]
        refine ⟨⟨by decide, inB_of (wt_80 hw1) (wn_80 hw1) hj8 (by decide)⟩, ?_⟩
        conv => whnf
        rw [nI_clamp (by omega)]
        refine ⟨Or.inr rfl, hK1 (merr.trans ej) _ (eqX_tr f (eqX_tr (eqX_sI (by unfold W6; omega)) (eqX_sI (by unfold W6; omega)))) (fun w hw => ?_) ?_ ?_⟩
        · rw [hI_sI_j (by omega), hI_ne (by decide), h80, ra w hw, mval w, if_neg (by omega), nve]
        · rw [hI_sI, mval j, if_pos rfl]
        · rw [hI_ne (by decide), hI_ne (by decide)]
          exact h791
      · intro p ej
        conv => whnf
        refine bk_nf (rfl) ?_
        conv => whnf
        exact ⟨Or.inl rfl, hK0 p (merr.trans ej) _ (eqX_tr f (eqX_sI (by unfold W6; omega))) hI_sI⟩
  · have q4 := q4 (by omega)
    have next : ∀ h', eqX W6 h h' → (mst tx L l0 u (i + 1)).1 = none → (mst tx L l0 u (i + 1)).2.2.2 = (mst tx L l0 u i).2.2.2 → WKL h' tx L (mst tx L l0 u (i + 1)).2.1 → (cR tx L (i + 1) ≠ 7 → hI h' 79 6 = nI (mst tx L l0 u (i + 1)).2.2.1) → hI h' 80 = hI h 80 → hI h' 79 1 = hI h 79 1 → ∀ x8, P.2 n_Worker_workLine 114 [some (.ref 79), some (.ref s), some (.ref 8), some (.int (nI j)), some (.int (nI (tkw tx L a))), some (.ref (27 + 4 * tkw tx L a)), some (.int (nI ((mst tx L l0 u (i + 1)).2.1.length - 1))), some (.int (nI i)), x8] [] h' 0 0 K := by
      intro h' f' m1 m2 m3 m4 m5 m6 x8
      have g := ih (i + 1) h' (by omega) (by omega) m1 (m2.trans nve) (eqX_tr f f') m3 m4 (m5.trans h80) (m6.trans h791)
      rw [← nI_1 i] at g
      refine S.at 10 [] rfl ?_
      conv => whnf
      exact g
    refine S.at 80 [45,114] rfl ?_
    conv => whnf
    refine ⟨sc_t hw hs, ?_⟩
    conv => whnf
    rw [sc.1]
    refine bk_f (fun c => absurd ((zn_le (by omega) (by omega)).mp c) (by omega)) ?_
    conv => whnf
    refine ⟨sc_t hw hs, ?_⟩
    conv => whnf
    rw [sc_r1 hw hs]
    refine ⟨inB_of (sc_t1 hw hs) (sc_n1 hw hs) (show i < 400 by omega) (by decide), ?_⟩
    conv => whnf
    rw [nI_clamp (by omega), e1]
    refine bk_ne (b := 11) (by omega) (by omega) (fun k11 => ?_) (fun k11 => ?_)
    rotate_left
    · have c7 : cR tx L i = 7 := by omega
      rw [if_pos c7, if_pos k11] at ms
      have o9 := (pT_8 (K := tkk tx L) (t := i + 1) (by omega)).1
      have o' : (pst (tkk tx L) (i + 1)).2.1 = (pst (tkk tx L) i).2.1 + 1 := by
        show (if _ then _ else _) = _
        rw [if_pos k11]
      have lp : 1 ≤ (mst tx L l0 u i).2.1.length := by omega
      have hw1 := hw
      conv => whnf
      refine bk_f (fun c => absurd ((zn_le (a := 8) (by omega) (by omega)).mp c) (by omega)) ?_
      conv => whnf
      rw [nI_1, show (mst tx L l0 u i).2.1.length - 1 + 1 = (mst tx L l0 u i).2.1.length by omega]
      refine ⟨wt_79 hw, ?_⟩
      refine c_Worker_begin S hw (by omega) ?_
      conv => whnf
      have g := next (bgH h (mst tx L l0 u i).2.1.length) bgH_F (by rw [ms]; exact en) (by rw [ms]) (by rw [ms]; exact wk.new i) (fun y => absurd (show cR tx L (i + 1) = 7 by omega) y) (by unfold bgH; rw [hI_sI_ne (by decide), hI_sI_ne (by decide), hI_sI_ne (by decide)]) (by unfold bgH; rw [hI_ne (by decide), hI_ne (by decide), hI_ne (by decide)]) (some (.int (nI (tkk tx L i))))
      rw [ms] at g
      exact g
    · have g45 : P.2 n_Worker_workLine 45 [some (.ref 79), some (.ref s), some (.ref 8), some (.int (nI j)), some (.int (nI (tkw tx L a))), some (.ref (27 + 4 * tkw tx L a)), some (.int (nI ((mst tx L l0 u i).2.1.length - 1))), some (.int (nI i)), some (.int (nI (tkk tx L i)))] [] h 0 0 K := by
        refine S.at 80 [114] rfl ?_
        conv => whnf
        refine ⟨sc_t hw hs, ?_⟩
        conv => whnf
        rw [sc_r2 hw hs]
        refine ⟨inB_of (sc_t2 hw hs) (sc_n2 hw hs) (show i < 400 by omega) (by decide), ?_⟩
        conv => whnf
        rw [nI_clamp (by omega), e2]
        refine bk_ne (b := 7) (by omega) (by omega) (fun c7 => ?_) (fun c7 => ?_)
        rotate_left
        · rw [if_pos c7, if_neg k11] at ms
          have hnv : ∀ w, w < cnm tx L i → hI h 80 w = nI ((mst tx L l0 u i).2.2.2 w) ∧ (mst tx L l0 u i).2.2.2 w < 2 ^ rNF tx L i w := fun w hw' => by
            refine ⟨?_, bn1 w hw'⟩
            rw [h80, ra w (by omega), nve]
          have him : tkk tx L i = 4 → cNF tx L f0 i (cIX tx L l0 i) ≠ nI (clf tx L i) → IMS h (imF u) (clf tx L i) := fun y1 y2 => by
            rw [q3] at y2 ⊢
            intro dd d1 d2
            rw [f.2.2.2.2 _ (by unfold W6; omega)]
            exact iml i hai (by omega) c7 y1 y2 dd d1 d2
          have hFa : CF h u := fun q y1 y2 => by
            have := hF0 q y1 y2
            unfold FOK
            rw [eqX_T f, f.2.2.2.2 _ (by unfold W6; omega)]
            exact this
          have at1 := c_Worker_atomAt S hw hs sc tt hu hFa ip c7 k11 hnv him (K := fun r h' => ∃ v, r = .int (nI v) ∧ v = avF tx L l0 u (mst tx L l0 u i).2.2.2 i ∧ h' = h) ⟨_, rfl, rfl, rfl⟩
          conv => whnf
          refine ⟨wt_79 hw, ?_⟩
          rw [← q3]
          refine c_Worker_atomAt S hw hs sc tt hu hFa ip c7 k11 hnv him ?_
          rw [q3]
          conv => whnf
          refine ⟨wt_79 hw, ?_⟩
          conv => whnf
          have g := next (sI h 79 6 (nI (avF tx L l0 u (mst tx L l0 u i).2.2.2 i))) (eqX_sI (by unfold W6; omega)) (by rw [ms]; exact en) (by rw [ms]) (by
            rw [ms]
            intro k l hl
            rw [hI_ne (by decide), hI_ne (by decide), hI_ne (by decide), hI_ne (by decide)]
            exact wk k l hl) (fun _ => by rw [hI_sI, ms]) (hI_sI_ne (by decide)) (hI_sI_j (by decide)) (some (.int (nI (tkk tx L i))))
          rw [ms] at g
          exact g
        rw [if_neg c7] at ms
        have hx := hx c7
        have bx := bx c7
        conv => whnf
        refine ⟨sc_t hw hs, ?_⟩
        conv => whnf
        rw [sc_r2 hw hs]
        refine ⟨inB_of (sc_t2 hw hs) (sc_n2 hw hs) (show i < 400 by omega) (by decide), ?_⟩
        conv => whnf
        rw [nI_clamp (by omega), e2]
        refine bk_ne (b := 9) (by omega) (by omega) (fun c9 => ?_) (fun c9 => ?_)
        rotate_left
        · rw [if_pos c9, q3] at ms
          have k5 : tkk tx L i = 5 := by omega
          have wb := tkw_bd tt.1 (Or.inr k5)
          have z := tt.2.2 i ip
          unfold cFL at z
          rw [if_neg (by omega), if_neg (by omega), if_neg (by omega), if_neg c7, if_pos c9] at z
          have wl : tkw tx L i ≤ 9999 := by
            by_cases y : 9999 < tkw tx L i
            · rw [if_pos y] at z
              omega
            · omega
          unfold cW at e4
          rw [if_neg (by omega), if_neg (by omega)] at e4
          conv => whnf
          refine ⟨wt_79 hw, ?_⟩
          conv => whnf
          rw [hx]
          refine ⟨sc_t hw hs, ?_⟩
          conv => whnf
          rw [sc_r4 hw hs]
          refine ⟨inB_of (sc_t4 hw hs) (sc_n4 hw hs) (show i < 400 by omega) (by decide), ?_⟩
          conv => whnf
          rw [nI_clamp (by omega), e4]
          refine ⟨hF.1, ?_⟩
          refine c_Field_toThe S hF n2 hm bx (by omega) ?_
          conv => whnf
          refine ⟨wt_79 hw, ?_⟩
          conv => whnf
          have g := next (sI h 79 6 (nI (fpw (tkw tx L a) (u (tkw tx L a)) (mst tx L l0 u i).2.2.1 (tkw tx L i)))) (eqX_sI (by unfold W6; omega)) (by rw [ms]; exact en) (by rw [ms]) (by
            rw [ms]
            intro k l hl
            rw [hI_ne (by decide), hI_ne (by decide), hI_ne (by decide), hI_ne (by decide)]
            exact wk k l hl) (fun _ => by rw [hI_sI, ms]) (hI_sI_ne (by decide)) (hI_sI_j (by decide)) (some (.int (nI (tkk tx L i))))
          rw [ms] at g
          exact g
        rw [if_neg c9] at ms
        have c8 : cR tx L i = 8 ∨ cR tx L i = 10 := by omega
        conv => whnf
        refine bk_eq (b := 10) (by omega) (by omega) (fun k10 => ?_) (fun k10 => ?_)
        · rw [if_neg (fun y => y.2 k10)] at ms
          have g := next h (eqX_rf _ _) (by rw [ms]; exact en) (by rw [ms]) (by rw [ms]; exact wk) (fun _ => by rw [ms]; exact hx) rfl rfl (some (.int (nI (tkk tx L i))))
          rw [ms] at g
          conv => whnf
          exact g
        rw [if_pos ⟨c8, k10⟩] at ms
        cases hl : (mst tx L l0 u i).2.1 with
        | nil => exact absurd hl mi1
        | cons l r =>
          rw [hl] at wk mi2 mi5 bl
          rw [mjn_cons hl, q3] at ms
          have ol := mi5 l List.mem_cons_self
          obtain ⟨b1, b2⟩ := bl l List.mem_cons_self
          obtain ⟨w1, w2, w3⟩ := wk.hd
          have mi2 : r.length + 1 = (pst (tkk tx L) i).2.1 + 1 := mi2
          have ee : ∀ (s1 : List Lv × Nat × (Nat → Nat)), mst tx L l0 u (i + 1) = (eOr (mst tx L l0 u i).1 (jnE tx L l.2.2 (mst tx L l0 u i).2.2.1), s1) → (mst tx L l0 u (i + 1)).1 = jnE tx L l.2.2 (mst tx L l0 u i).2.2.1 := by
            intro s1 hs1
            rw [hs1]
            show eOr _ _ = _
            rw [en]
            rfl
          have merr : (mst tx L l0 u (i + 1)).1 = jnE tx L l.2.2 (mst tx L l0 u i).2.2.1 := by
            split at ms
            · exact ee _ ms
            · split at ms
              · exact ee _ ms
              · exact ee _ ms
          rw [if_neg (c := tkk tx L i = 6) q4] at ms
          conv => whnf
          refine ⟨wt_79 hw, ?_⟩
          have e0 : (l :: r).length - 1 = r.length := rfl
          rw [e0]
          refine c_Worker_join S hw n2 hm hF wk ol (by omega) hx bx b2 ?_ ?_
          rotate_left
          · intro p ej
            have pe := mst_err (T + 1 - (i + 1)) (i + 1) (merr.trans ej)
            rw [show i + 1 + (T + 1 - (i + 1)) = T + 1 by omega] at pe
            conv => whnf
            refine bk_nf (rfl) ?_
            conv => whnf
            exact ⟨Or.inl rfl, hK0 p pe _ (eqX_tr f (eqX_sI (by unfold W6; omega))) hI_sI⟩
          intro ej
          have hw1 : WS (sI h 82 r.length (nI (jnV tx L (tkw tx L a) (u (tkw tx L a)) l.2.2 (mst tx L l0 u i).2.2.1))) := hw
          have sc1 : SCT (sI h 82 r.length (nI (jnV tx L (tkw tx L a) (u (tkw tx L a)) l.2.2 (mst tx L l0 u i).2.2.1))) s tx L l0 f0 s0 m0 := sc.eq (fun k k1 k2 => ⟨hI_sI_ne (by omega), rfl⟩)
          have y3 := (sc1.2.2.1 i ip).2.2.1
          have y81 : hI (sI h 82 r.length (nI (jnV tx L (tkw tx L a) (u (tkw tx L a)) l.2.2 (mst tx L l0 u i).2.2.1))) 81 r.length = nI l.2.1.2 := (hI_ne (by decide)).trans w1
          have y82 : hI (sI h 82 r.length (nI (jnV tx L (tkw tx L a) (u (tkw tx L a)) l.2.2 (mst tx L l0 u i).2.2.1))) 82 r.length = nI (jnV tx L (tkw tx L a) (u (tkw tx L a)) l.2.2 (mst tx L l0 u i).2.2.1) := hI_sI
          conv => whnf
          refine bk_nt (by decide) ?_
          conv => whnf
          refine bk_nt (fun c => absurd ((zn_eq (b := 6) (by omega) (by omega)).mp c) (by omega)) ?_
          conv => whnf
          refine ⟨sc_t hw1 hs, ?_⟩
          conv => whnf
          rw [sc_r3 hw1 hs]
          refine ⟨inB_of (sc_t3 hw1 hs) (sc_n3 hw1 hs) (show i < 400 by omega) (by decide), ?_⟩
          conv => whnf
          rw [nI_clamp (by omega), y3]
          refine ⟨wt_79 hw1, ?_⟩
          have below : ∀ (H : PH) c v k q, q < r.length → hI (sI H c r.length v) k q = hI H k q := fun H c v k q hq => by
            by_cases e : k = c
            · rw [e, hI_sI_j (by omega)]
            · rw [hI_ne e]
          rcases (show tkk tx L i = 7 ∨ tkk tx L i = 12 ∨ tkk tx L i = 8 ∨ tkk tx L i = 9 by omega) with k7 | k12 | k89
          · rw [if_pos k7] at ms
            rw [k7]
            refine c_Worker_goOn7 S hw1 (by omega) y81 y82 ?_
            have g := next (sI (sI (sI (sI h 82 r.length (nI (jnV tx L (tkw tx L a) (u (tkw tx L a)) l.2.2 (mst tx L l0 u i).2.2.1))) 81 r.length (nI (l.2.1.2 ^^^ jnV tx L (tkw tx L a) (u (tkw tx L a)) l.2.2 (mst tx L l0 u i).2.2.1))) 83 r.length 7) 84 r.length (nI (tkS tx L i))) (eqX_tr (eqX_tr (eqX_tr (eqX_sI (by unfold W6; omega)) (eqX_sI (by unfold W6; omega))) (eqX_sI (by unfold W6; omega))) (eqX_sI (by unfold W6; omega))) (merr.trans ej) (by rw [ms]) (by
              rw [ms]
              refine wk.tl.top (fun k q hq hk => by rw [below _ _ _ _ _ hq, below _ _ _ _ _ hq, below _ _ _ _ _ hq, below _ _ _ _ _ hq]) ⟨?_, ?_, fun o ho => absurd ho (by simp)⟩
              · rw [hI_ne (by decide), hI_ne (by decide), hI_sI]
              · rw [hI_ne (by decide), hI_sI]
                rfl) (fun y => absurd (show cR tx L (i + 1) = 7 by omega) y) (by rw [hI_sI_ne (by decide), hI_sI_ne (by decide), hI_sI_ne (by decide), hI_sI_ne (by decide)]) (by rw [hI_ne (by decide), hI_ne (by decide), hI_ne (by decide), hI_ne (by decide)]) (some (.int 7))
            rw [ms] at g
            exact g
          · rw [if_neg (by omega), if_pos k12] at ms
            rw [k12]
            refine c_Worker_goOn12 S hw1 (by omega) (by omega) y81 y82 ?_
            have g := next (sI (sI h 82 r.length (nI (jnV tx L (tkw tx L a) (u (tkw tx L a)) l.2.2 (mst tx L l0 u i).2.2.1))) 79 6 (nI (l.2.1.2 ^^^ jnV tx L (tkw tx L a) (u (tkw tx L a)) l.2.2 (mst tx L l0 u i).2.2.1))) (eqX_tr (eqX_sI (by unfold W6; omega)) (eqX_sI (by unfold W6; omega))) (merr.trans ej) (by rw [ms]) (by
              rw [ms]
              intro k v hv
              have hlk := lt_some hv
              have zz : ∀ c, 81 ≤ c → hI (sI (sI h 82 r.length (nI (jnV tx L (tkw tx L a) (u (tkw tx L a)) l.2.2 (mst tx L l0 u i).2.2.1))) 79 6 (nI (l.2.1.2 ^^^ jnV tx L (tkw tx L a) (u (tkw tx L a)) l.2.2 (mst tx L l0 u i).2.2.1))) c (r.length - 1 - k) = hI h c (r.length - 1 - k) := fun c hc => by
                rw [hI_ne (by omega), below _ _ _ _ _ (by omega)]
              rw [zz 81 (by decide), zz 82 (by decide), zz 83 (by decide), zz 84 (by decide)]
              exact wk.tl k v hv) (fun _ => by rw [hI_sI, ms]) (by rw [hI_sI_ne (by decide), hI_sI_ne (by decide)]) (by rw [hI_sI_j (by decide), hI_ne (by decide)]) (some (.int 12))
            rw [ms] at g
            exact g
          · rw [if_neg (by omega), if_neg (by omega)] at ms
            refine c_Worker_goOn89 S hw1 (by omega) k89 ?_
            have g := next (sI (sI (sI h 82 r.length (nI (jnV tx L (tkw tx L a) (u (tkw tx L a)) l.2.2 (mst tx L l0 u i).2.2.1))) 83 r.length (nI (tkk tx L i))) 84 r.length (nI (tkS tx L i))) (eqX_tr (eqX_tr (eqX_sI (by unfold W6; omega)) (eqX_sI (by unfold W6; omega))) (eqX_sI (by unfold W6; omega))) (merr.trans ej) (by rw [ms]) (by
              rw [ms]
              refine wk.tl.top (fun k q hq hk => by rw [below _ _ _ _ _ hq, below _ _ _ _ _ hq, below _ _ _ _ _ hq]) ⟨?_, ?_, fun o ho => ?_⟩
              · rw [hI_ne (by decide), hI_ne (by decide), hI_ne (by decide)]
                exact w1
              · rw [hI_ne (by decide), hI_sI]
                rfl
              · have eo : i = o := Option.some.inj ho
                rw [hI_ne (by decide), hI_ne (by decide), hI_sI, hI_sI, eo]
                exact ⟨rfl, rfl⟩) (fun y => absurd (show cR tx L (i + 1) = 7 by omega) y) (by rw [hI_sI_ne (by decide), hI_sI_ne (by decide), hI_sI_ne (by decide)]) (by rw [hI_ne (by decide), hI_ne (by decide), hI_ne (by decide)]) (some (.int (nI (tkk tx L i))))
            rw [ms] at g
            exact g
      conv => whnf
      exact g45
