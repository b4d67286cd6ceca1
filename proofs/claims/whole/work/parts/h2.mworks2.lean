/-! WORTH: the reference's works -/
theorem mst_bd {tx : Nat → Nat} {L : Nat} (hM : L ≤ 2000) {l0 : Nat → Int64} {u : Nat → Nat} : ∀ t p, (mst tx L l0 u t).1 = some p → p ≤ 2000 := by
  intro t
  induction t with
  | zero => exact fun p h => absurd (show none = some p from h) (by simp)
  | succ t ih =>
    intro p h
    have je : ∀ b x q, jnE tx L b x = some q → q ≤ 2000 := by
      intro b x q hq
      unfold jnE at hq
      split at hq
      · exact absurd hq (by simp)
      · rename_i o _
        split at hq
        · have := tkS_le (tx := tx) hM o
          have := Option.some.inj hq
          omega
        · exact absurd hq (by simp)
    have eo : ∀ b x q, eOr (mst tx L l0 u t).1 (jnE tx L b x) = some q → q ≤ 2000 := by
      intro b x q hq
      cases z : (mst tx L l0 u t).1 with
      | none =>
        rw [z] at hq
        exact je b x q hq
      | some v =>
        rw [z] at hq
        exact ih q (by rw [z]; exact hq)
    have e1 : mst tx L l0 u (t + 1) = if cR tx L t = 6 then ((mst tx L l0 u t).1, [(0, (none, 0), (none, 0))], 0, (mst tx L l0 u t).2.2.2)
      else if cR tx L t = 7 then (if tkk tx L t = 11 then ((mst tx L l0 u t).1, (t, (none, 0), (none, 0)) :: (mst tx L l0 u t).2.1, (mst tx L l0 u t).2.2.1, (mst tx L l0 u t).2.2.2) else ((mst tx L l0 u t).1, (mst tx L l0 u t).2.1, avF tx L l0 u (mst tx L l0 u t).2.2.2 t, (mst tx L l0 u t).2.2.2))
      else if cR tx L t = 9 then ((mst tx L l0 u t).1, (mst tx L l0 u t).2.1, fpw (clf tx L t) (u (clf tx L t)) (mst tx L l0 u t).2.2.1 (tkw tx L t), (mst tx L l0 u t).2.2.2)
      else if (cR tx L t = 8 ∨ cR tx L t = 10) ∧ tkk tx L t ≠ 10 then mjn tx L u t (mst tx L l0 u t)
      else mst tx L l0 u t := rfl
    rw [e1] at h
    split at h
    · exact ih p h
    split at h
    · split at h
      · exact ih p h
      · exact ih p h
    split at h
    · exact ih p h
    split at h
    · cases z : (mst tx L l0 u t).2.1 with
      | nil =>
        unfold mjn at h
        rw [z] at h
        exact ih p h
      | cons l r =>
        rw [mjn_cons z] at h
        split at h
        · exact eo _ _ _ h
        split at h
        · exact eo _ _ _ h
        split at h
        · exact eo _ _ _ h
        · exact eo _ _ _ h
    · exact ih p h
theorem nvT {tx : Nat → Nat} {L : Nat} (hM : L ≤ 2000) {l0 : Nat → Int64} {f0 : Nat → Int32} {u : Nat → Nat} (hu : MDS u) (hf : ∀ i, i < pT (tkk tx L) → cFL tx L l0 f0 i = 0) {a T : Nat} (ha : cR tx L a = 6) (haT : a < T) (hT : T < pT (tkk tx L)) (h6 : tkk tx L T = 6) (h8 : cR tx L T = 8 ∨ cR tx L T = 10) (hi : ∀ i, a < i → i ≤ T → 7 ≤ cR tx L i ∧ cnm tx L i = cnm tx L a ∧ clf tx L i = tkw tx L a ∧ (i < T → tkk tx L i ≠ 6)) {w : Nat} (hw : w ≠ cnm tx L a) : (mst tx L l0 u (T + 1)).2.2.2 w = (mst tx L l0 u a).2.2.2 w := by
  obtain ⟨seg, s1, s2, s3, s4⟩ := lrt hM hu hf ha (T - (a + 1)) (by omega) (by
    rw [show a + 1 + (T - (a + 1)) = T by omega]
    exact hi)
  rw [show a + 1 + (T - (a + 1)) = T by omega] at s3
  obtain ⟨q1, q2, q3, q4⟩ := hi T haT (Nat.le_refl T)
  obtain ⟨m1, -, -, -, -⟩ := MIv_ok (tx := tx) (L := L) l0 u T (by omega) q1
  have e1 : mst tx L l0 u (T + 1) = mjn tx L u T (mst tx L l0 u T) := by
    show (if _ then _ else if _ then _ else if _ then _ else if _ then _ else _) = _
    rw [if_neg (by omega), if_neg (by omega), if_neg (by omega), if_pos ⟨h8, by omega⟩]
  rw [e1, ← s3]
  cases h : (mst tx L l0 u T).2.1 with
  | nil => exact absurd h m1
  | cons l r =>
    rw [mjn_cons h, if_neg (by omega), if_neg (by omega), if_pos h6]
    show (if w = cnm tx L T then _ else _) = _
    rw [if_neg (by rw [q2]; exact hw)]
theorem nm_12 {tx : Nat → Nat} {L : Nat} {l0 : Nat → Int64} {f0 : Nat → Int32} (hf : ∀ i, i < pT (tkk tx L) → cFL tx L l0 f0 i = 0) {a : Nat} (ha : cR tx L a = 6) (hp : a < pT (tkk tx L)) : 1 ≤ tkw tx L a ∧ tkw tx L a ≤ 12 ∧ tkv tx L a = tkw tx L a := by
  have z := hf a hp
  unfold cFL at z
  rw [if_pos (Or.inr ha)] at z
  have tab := rtab hp
  have k5 : tkk tx L a = 5 := by omega
  have := tkv_w k5
  split at z
  · omega
  · omega
theorem l_M_works {P : PSem} (S : SysOK P) {h0 : PH} {tx : Nat → Nat} {L : Nat} {l0 : Nat → Int64} {f0 : Nat → Int32} (tt : TXT tx L l0 f0) {u : Nat → Nat} (hu : MDS u) (hw0 : WS h0) (rv : REV h0 tx L l0) (nw : NOW h0 u) (xu : ∀ n d, 1 ≤ n → n ≤ 12 → 1 ≤ d → d ∣ n → hI h0 144 (13 * d + n) = nI (imF u d n)) {K : PK}
    (hK : ∀ h', eqX (fun k => k = 132 ∨ k = 140) h0 h' → ((mst tx L l0 u (pT (tkk tx L))).1 = none → (∀ w, w < cnm tx L (pT (tkk tx L)) → hI h' 132 w = nI ((mst tx L l0 u (pT (tkk tx L))).2.2.2 w)) → K (.int (-1)) h') ∧ (∀ p, p ≤ 2000 → (mst tx L l0 u (pT (tkk tx L))).1 = some p → K (.int (nI p)) h')) : ∀ d i h, i + d = cnm tx L (pT (tkk tx L)) → eqX (fun k => k = 132 ∨ k = 140) h0 h → eA tx L l0 u i = none → (∀ w, w < i → hI h 132 w = nI (nA tx L l0 u i w)) → P.2 n_M_works 2 [some (.ref 116), some (.int (nI i)), none] [] h 0 0 K := by
  obtain ⟨hM, eo, hf⟩ := tt
  have t4 := (pT_ok (tkk tx L)).1
  have c8 := (cnm_le (tx := tx) (L := L) (t := pT (tkk tx L)) (Nat.le_refl _)).1
  have bf := bef (tx := tx) (L := L) l0 u (t := pT (tkk tx L)) (Nat.le_refl _) (by rw [eo.1]; decide)
  intro d
  induction d with
  | zero =>
    intro i h hd f ea na
    have hw := eqX_WS f hw0
    have l29 : hI h 116 29 = nI (cnm tx L (pT (tkk tx L))) := by
      rw [f.2.2.2.2 116 (by decide)]
      exact rv.1
    have e : i = cnm tx L (pT (tkk tx L)) := by omega
    rw [e] at ea na
    have fin := (hK h f).1 (by rw [bf.1]; exact ea) (fun w hw => by rw [na w hw, bf.2 w hw])
    refine S.at 40 [] rfl ?_
    conv => whnf
    refine ⟨wt_116 hw, ?_⟩
    conv => whnf
    rw [l29]
    refine bk_t ((zn_le (by omega) (by omega)).mpr (by omega)) ?_
    conv => whnf
    exact fin
  | succ d ih =>
    intro i h hd f ea na
    have hw := eqX_WS f hw0
    have l29 : hI h 116 29 = nI (cnm tx L (pT (tkk tx L))) := by
      rw [f.2.2.2.2 116 (by decide)]
      exact rv.1
    have ic : i < cnm tx L (pT (tkk tx L)) := by omega
    obtain ⟨ln, a2, a3, a4, a5, a6⟩ := (LNI_ok (tx := tx) (L := L) l0 f0 (fun _ => 0) (pT (tkk tx L)) (Nat.le_refl _)).1 i ic
    have lf := rv.2.1 i ic
    have lF := rv.2.2.1 i ic
    revert ln a2 a3 a4 a5 a6 lf
    have eAs : eA tx L l0 u (i + 1) = (mst tx L l0 u (lnT tx L (pT (tkk tx L)) i + 1)).1 := rfl
    have nAs : nA tx L l0 u (i + 1) = (mst tx L l0 u (lnT tx L (pT (tkk tx L)) i + 1)).2.2.2 := rfl
    revert eAs nAs
    generalize lnA tx L (pT (tkk tx L)) i = a
    generalize lnT tx L (pT (tkk tx L)) i = T
    intro eAs nAs ln a2 a3 a4 a5 a6 lf
    obtain ⟨b1, b2, b3, b4, b5, b6, b7, b8⟩ := ln
    obtain ⟨n1, n2, n3⟩ := nm_12 hf b1 b3
    have bfa := bef (tx := tx) (L := L) l0 u (t := a) (by omega) (by omega)
    rw [b2] at bfa
    obtain ⟨seg, s1, s2, s3⟩ := lrn hM hu hf b1 a2 a3 a4 (by rw [b2]; exact a6)
    obtain ⟨s4, s5⟩ := s3 (by rw [bfa.1]; exact ea)
    rw [b2] at s2 s4
    obtain ⟨o, ho⟩ := eW_pre (tx := tx) (L := L) (l0 := l0) (pT (tkk tx L) - (T + 1)) (T + 1)
    rw [show T + 1 + (pT (tkk tx L) - (T + 1)) = pT (tkk tx L) by omega] at ho
    have el := eW_len tx L l0 (T + 1)
    have pl : ∀ p, (mst tx L l0 u (T + 1)).1 = some p → (mst tx L l0 u (pT (tkk tx L))).1 = some p := fun p hp => by
      have := mst_err (pT (tkk tx L) - (T + 1)) (T + 1) hp
      rw [show T + 1 + (pT (tkk tx L) - (T + 1)) = pT (tkk tx L) by omega] at this
      exact this
    have one : ONE h u (rNF tx L (pT (tkk tx L))) (mst tx L l0 u a).2.2.2 i (tkw tx L a) (eW tx L l0 (T + 1)).1.length := by
      refine ⟨hw, fun q y1 y2 => ?_, fun q y1 y2 => ?_, ?_, fun w w1 w2 w3 w4 w5 => ⟨?_, ?_⟩⟩
      · rw [f.2.2.2.2 125 (by decide)]
        exact nw q y1 y2
      · rw [f.2.2.2.2 144 (by decide)]
        exact xu _ q n1 n2 y1 y2
      · rw [f.2.2.2.2 130 (by decide)]
        exact lf.2
      · rw [f.2.2.2.2 131 (by decide)]
        exact rv.2.2.1 w (by clear w3; omega)
      · rw [na w w5, bfa.2 w w5]
    have rows : ∀ k q, seg[k]? = some q → hI h 127 ((eW tx L l0 (a + 1)).1.length + k) = nI q.1 ∧ hI h 128 ((eW tx L l0 (a + 1)).1.length + k) = q.2.1 ∧ hI h 129 ((eW tx L l0 (a + 1)).1.length + k) = nI q.2.2 := by
      intro k q hq
      have hl := lt_some hq
      rw [f.2.2.2.2 127 (by decide), f.2.2.2.2 128 (by decide), f.2.2.2.2 129 (by decide)]
      refine rv.2.2.2.2 _ q ?_
      rw [ho, s1, List.append_assoc, List.getElem?_append_right (by omega), Nat.add_sub_cancel_left, List.getElem?_append_left hl]
      exact hq
    have h131 : hI h 131 i = nI (tkw tx L a) := by
      rw [f.2.2.2.2 131 (by decide), lF, b6, n3]
    have h130 : hI h 130 i = nI (eW tx L l0 (a + 1)).1.length := by
      rw [f.2.2.2.2 130 (by decide)]
      exact lf.1
    have next : ∀ h', eqX (fun k => k = 140) h h' → (mst tx L l0 u (T + 1)).1 = none → P.2 n_M_works 2 [some (.ref 116), some (.int (nI i + 1)), none] [] (sI h' 132 i (nI ((mst tx L l0 u (T + 1)).2.2.2 i))) 0 0 K := by
      intro h' f' en
      rw [nI_1]
      refine ih (i + 1) _ (by omega) (eqX_tr f (eqX_tr (eqX_mono (fun k hk => Or.inr hk) f') (eqX_sI (Or.inl rfl)))) (by rw [eAs]; exact en) (fun w hw => ?_)
      rw [nAs]
      rcases Nat.lt_or_ge w i with y | y
      · rw [hI_sI_j (by omega), f'.2.2.2.2 132 (by decide), na w y, nvT hM hu hf b1 a2 a3 a4 a5 (by rw [b2]; exact a6) (by rw [b2]; omega), bfa.2 w y]
      · have e : w = i := by omega
        rw [e, hI_sI]
    refine S.at 40 [14] rfl ?_
    conv => whnf
    refine ⟨wt_116 hw, ?_⟩
    conv => whnf
    rw [l29]
    refine bk_f (fun c => absurd ((zn_le (by omega) (by omega)).mp c) (by omega)) ?_
    conv => whnf
    refine ⟨wt_116 hw, ?_⟩
    cases z : (mst tx L l0 u (T + 1)).1 with
    | none =>
      refine c_M_worksOne S hu (r := Sum.inr [(mst tx L l0 u (T + 1)).2.2.2 i]) (by omega) n1 n2 (by omega) one h131 h130 (by rw [s1, List.length_append]) rows s2 (Or.inr ⟨_, rfl⟩) (s4 z) ?_
      intro h' f'
      refine ⟨fun p hp => absurd hp (by simp), fun v hv _ => ?_⟩
      have ev : (mst tx L l0 u (T + 1)).2.2.2 i = v := by
        have := Sum.inr.inj hv
        simpa using this
      rw [← ev]
      have g := next h' f' z
      conv => whnf
      refine bk_t (by decide) ?_
      conv => whnf
      refine S.at 10 [] rfl ?_
      conv => whnf
      exact g
    | some p =>
      have pb : p ≤ 2000 := mst_bd hM (T + 1) p z
      refine c_M_worksOne S hu (r := Sum.inl p) (by omega) n1 n2 (by omega) one h131 h130 (by rw [s1, List.length_append]) rows s2 (Or.inl ⟨_, rfl⟩) (s5 p z) ?_
      intro h' f'
      refine ⟨fun p' hp' => ?_, fun v hv _ => absurd hv (by simp)⟩
      rw [← Sum.inl.inj hp']
      have fin := (hK h' (eqX_tr f (eqX_mono (fun k hk => Or.inr hk) f'))).2 p pb (pl p z)
      conv => whnf
      refine bk_f (fun c => absurd ((zn_lt (b := 0) (by omega) (by omega)).mp c) (by omega)) ?_
      conv => whnf
      exact fin
theorem c_M_works {P : PSem} (S : SysOK P) {h : PH} {tx : Nat → Nat} {L : Nat} {l0 : Nat → Int64} {f0 : Nat → Int32} (tt : TXT tx L l0 f0) {u : Nat → Nat} (hu : MDS u) (hw : WS h) (rv : REV h tx L l0) (nw : NOW h u) (xu : ∀ n d, 1 ≤ n → n ≤ 12 → 1 ≤ d → d ∣ n → hI h 144 (13 * d + n) = nI (imF u d n)) {K : PK}
    (hK : ∀ h', eqX (fun k => k = 132 ∨ k = 140) h h' → ((mst tx L l0 u (pT (tkk tx L))).1 = none → (∀ w, w < cnm tx L (pT (tkk tx L)) → hI h' 132 w = nI ((mst tx L l0 u (pT (tkk tx L))).2.2.2 w)) → K (.int (-1)) h') ∧ (∀ p, p ≤ 2000 → (mst tx L l0 u (pT (tkk tx L))).1 = some p → K (.int (nI p)) h')) : P.1 n_M_works [.ref 116] h K := by
  refine S.2.1 _ 3 _ _ _ rfl rfl ?_
  refine S.at 10 [2] rfl ?_
  conv => whnf
  exact l_M_works S tt hu hw rv nw xu hK (cnm tx L (pT (tkk tx L))) 0 h (Nat.zero_add _) (eqX_rf _ _) rfl (fun w hw => absurd hw (Nat.not_lt_zero w))
