/-! WORTH: the reference's steps of a line come to what the machine says -/
theorem RSt_ok {tx : Nat → Nat} {L : Nat} (hM : L ≤ 2000) {l0 : Nat → Int64} {f0 : Nat → Int32} {u nf : Nat → Nat} (hu : MDS u) {t : Nat} (ht : t < pT (tkk tx L)) (hf : ∀ i, i < pT (tkk tx L) → cFL tx L l0 f0 i = 0) (h7 : 7 ≤ cR tx L t) (hnf : ∀ j, j < cnm tx L t → nf j = rNF tx L t j) : ∃ o, RSt tx L l0 u nf t o := by
  have tab := rtab ht
  have rc := RC_ok l0 f0 t (by omega) (fun i hi => hf i (by omega))
  obtain ⟨b1, b2⟩ := BND_ok l0 f0 hu t (by omega) (fun i hi => hf i (by omega))
  obtain ⟨j1, j2⟩ := b2 h7
  obtain ⟨y1, y2, y3⟩ := rc.1 (by omega)
  obtain ⟨m1, m2, m3, m4, m5⟩ := MIv_ok (tx := tx) (L := L) l0 u t (by omega) h7
  have cl := cnm_le (tx := tx) (L := L) (t := t) (by omega)
  have e1 : mst tx L l0 u (t + 1) = if cR tx L t = 6 then ((mst tx L l0 u t).1, [(0, (none, 0), (none, 0))], 0, (mst tx L l0 u t).2.2.2)
      else if cR tx L t = 7 then (if tkk tx L t = 11 then ((mst tx L l0 u t).1, (t, (none, 0), (none, 0)) :: (mst tx L l0 u t).2.1, (mst tx L l0 u t).2.2.1, (mst tx L l0 u t).2.2.2) else ((mst tx L l0 u t).1, (mst tx L l0 u t).2.1, avF tx L l0 u (mst tx L l0 u t).2.2.2 t, (mst tx L l0 u t).2.2.2))
      else if cR tx L t = 9 then ((mst tx L l0 u t).1, (mst tx L l0 u t).2.1, fpw (clf tx L t) (u (clf tx L t)) (mst tx L l0 u t).2.2.1 (tkw tx L t), (mst tx L l0 u t).2.2.2)
      else if (cR tx L t = 8 ∨ cR tx L t = 10) ∧ tkk tx L t ≠ 10 then mjn tx L u t (mst tx L l0 u t)
      else mst tx L l0 u t := rfl
  have w1 : eW tx L l0 (t + 1) = if cR tx L t = 6 then ((eW tx L l0 t).1, [])
    else if cR tx L t = 7 then (if tkk tx L t = 11 then ((eW tx L l0 t).1, t :: (eW tx L l0 t).2) else if tkk tx L t = 3 then ((eW tx L l0 t).1 ++ [(0, 0, 0)], (eW tx L l0 t).2) else if tkk tx L t = 5 then ((eW tx L l0 t).1 ++ [(1, cBt tx L t, 0)], (eW tx L l0 t).2) else ((eW tx L l0 t).1 ++ [(2, cIV tx L l0 t, 0)], (eW tx L l0 t).2))
    else if cR tx L t = 9 then ((eW tx L l0 t).1 ++ [(6, nI (tkv tx L t), 0)], (eW tx L l0 t).2)
    else if cR tx L t = 8 ∨ cR tx L t = 10 then (if tkk tx L t = 10 then eW tx L l0 t else if tkk tx L t = 12 then ((eW tx L l0 t).1 ++ (stl tx L 1 (eW tx L l0 t).2).1, (stl tx L 1 (eW tx L l0 t).2).2.tail) else if tkk tx L t = 6 then ((eW tx L l0 t).1 ++ (stl tx L 1 (eW tx L l0 t).2).1, (stl tx L 1 (eW tx L l0 t).2).2) else ((eW tx L l0 t).1 ++ (stl tx L (rkk (tkk tx L t)) (eW tx L l0 t).2).1, t :: (stl tx L (rkk (tkk tx L t)) (eW tx L l0 t).2).2))
    else eW tx L l0 t := rfl
  rw [if_neg (by omega)] at e1 w1
  by_cases c7 : cR tx L t = 7
  · rw [if_pos c7] at e1 w1
    by_cases k11 : tkk tx L t = 11
    · rw [if_pos k11] at e1 w1
      have r' : cR tx L (t + 1) = 7 := by omega
      refine ⟨[], ?_, fun s hs => absurd hs List.not_mem_nil, fun ne => ⟨fun p hp => ?_, fun _ => ?_⟩, fun p hp => ?_, fun _ => ?_⟩
      · rw [w1, List.append_nil]
      · rw [e1] at hp
        exact absurd (ne.symm.trans hp) (by simp)
      · rw [e1, r', c7, if_neg (by omega)]
        rfl
      · rw [e1]
        exact hp
      · rw [e1]
    · rw [if_neg k11] at e1 w1
      have r' : cR tx L (t + 1) = 8 := by omega
      have fin : ∀ s : Qst, (eW tx L l0 (t + 1)).1 = (eW tx L l0 t).1 ++ [s] → okQ u nf (mst tx L l0 u t).2.2.2 (clf tx L t) (cnm tx L t) s → (∀ st, rn1 u nf (mst tx L l0 u t).2.2.2 (clf tx L t) s st = some (Sum.inr (avF tx L l0 u (mst tx L l0 u t).2.2.2 t :: st))) → ∃ o, RSt tx L l0 u nf t o := by
        intro s a b c
        refine ⟨[s], a, fun v hv => ?_, fun ne => ⟨fun p hp => ?_, fun _ => ?_⟩, fun p hp => ?_, fun _ => ?_⟩
        · have : v = s := by simpa using hv
          rw [this]
          exact b
        · rw [e1] at hp
          exact absurd (ne.symm.trans hp) (by simp)
        · rw [e1, r', c7, if_neg (by omega)]
          show (match rn1 u nf (mst tx L l0 u t).2.2.2 (clf tx L t) s _ with
            | none => none
            | some (Sum.inl p) => some (Sum.inl p)
            | some (Sum.inr st') => rn u nf (mst tx L l0 u t).2.2.2 (clf tx L t) [] st') = _
          rw [c]
          rfl
        · rw [e1]
          exact hp
        · rw [e1]
      rcases (show tkk tx L t = 3 ∨ tkk tx L t = 4 ∨ tkk tx L t = 5 by omega) with k3 | k4 | k5
      · refine fin (0, 0, 0) (by rw [w1, if_pos k3]) ⟨by decide, by decide, fun h => absurd h (by simp), fun h => absurd h (by simp), fun h => absurd h (by simp)⟩ (fun st => ?_)
        unfold avF
        rw [if_pos k3]
        rfl
      rotate_left
      · obtain ⟨v, v1, v2⟩ := (atm_ok ht (fun i hi => hf i (by omega)) c7).2.1 k5
        refine fin (1, cBt tx L t, 0) (by rw [w1, if_neg (by omega), if_pos k5]) ⟨show 1 ≤ 6 by decide, show 0 ≤ 2000 by decide, fun _ => ⟨v, v1, v2⟩, fun h => absurd h (by simp), fun h => absurd h (by simp)⟩ (fun st => ?_)
        unfold avF
        rw [if_neg (by omega), if_pos k5]
        rfl
      · have n3 : ¬ tkk tx L t = 3 := by omega
        have n5 : ¬ tkk tx L t = 5 := by omega
        have at4 := (atm_ok ht (fun i hi => hf i (by omega)) c7).2.2 k4
        have z1 := at4.1
        have ix8 : cIX tx L l0 t < 8 := by
          clear at4
          omega
        have ix31 : cIX tx L l0 t < 2 ^ 31 := Nat.lt_trans ix8 (by decide)
        obtain ⟨-, z2, z3, z4⟩ := at4
        have ev : cIV tx L l0 t = nI (cIX tx L l0 t) := if_pos z1
        refine fin (2, cIV tx L l0 t, 0) (by rw [w1, if_neg n3, if_neg n5]) ⟨show 2 ≤ 6 by decide, show 0 ≤ 2000 by decide, fun h => absurd h (by simp), fun _ => ⟨cIX tx L l0 t, ix8, ev, by rw [hnf _ z1]; exact z2, by rw [hnf _ z1]; exact z4, by rw [hnf _ z1]; exact b1 _ z1, z1⟩, fun h => absurd h (by simp)⟩ (fun st => ?_)
        unfold avF
        rw [if_neg n3, if_neg n5]
        show some (Sum.inr (pvl _ _ (imF u (nf (cIV tx L l0 t).toNatClampNeg) _) ((mst tx L l0 u t).2.2.2 (cIV tx L l0 t).toNatClampNeg) :: st)) = _
        rw [ev, nI_clamp ix31, hnf _ z1]
  rw [if_neg c7] at e1 w1
  by_cases c9 : cR tx L t = 9
  · rw [if_pos c9] at e1 w1
    have r' : cR tx L (t + 1) = 10 := by omega
    have k5 : tkk tx L t = 5 := by omega
    have z := hf t ht
    unfold cFL at z
    rw [if_neg (by omega), if_neg (by omega), if_neg (by omega), if_neg c7, if_pos c9] at z
    have wl : tkw tx L t ≤ 9999 := by
      by_cases y : 9999 < tkw tx L t
      · rw [if_pos y] at z
        omega
      · omega
    have vw : tkv tx L t = tkw tx L t := by
      have := tkv_w k5
      omega
    refine ⟨[(6, nI (tkv tx L t), 0)], ?_, fun v hv => ?_, fun ne => ⟨fun p hp => ?_, fun _ => ?_⟩, fun p hp => ?_, fun _ => ?_⟩
    · rw [w1]
    · have : v = (6, nI (tkv tx L t), 0) := by simpa using hv
      rw [this]
      exact ⟨show 6 ≤ 6 by decide, show 0 ≤ 2000 by decide, fun h => absurd h (by simp), fun h => absurd h (by simp), fun _ => ⟨tkv tx L t, by omega, rfl⟩⟩
    · rw [e1] at hp
      exact absurd (ne.symm.trans hp) (by simp)
    · rw [e1, r', c9, if_neg (by omega)]
      show some (Sum.inr (fpw _ _ _ (nI (tkv tx L t)).toNatClampNeg :: fSS _)) = _
      rw [nI_clamp (by omega), vw]
      rfl
    · rw [e1]
      exact hp
    · rw [e1]
  rw [if_neg c9] at e1 w1
  have c8 : cR tx L t = 8 ∨ cR tx L t = 10 := by omega
  rw [if_pos c8] at w1
  by_cases k10 : tkk tx L t = 10
  · rw [if_neg (fun y => y.2 k10)] at e1
    rw [if_pos k10] at w1
    have r' : cR tx L (t + 1) ≠ 7 := by omega
    refine ⟨[], ?_, fun s hs => absurd hs List.not_mem_nil, fun ne => ⟨fun p hp => ?_, fun _ => ?_⟩, fun p hp => ?_, fun _ => ?_⟩
    · rw [w1, List.append_nil]
    · rw [e1] at hp
      exact absurd (ne.symm.trans hp) (by simp)
    · rw [e1, if_neg (by omega)]
      unfold Sk
      rw [if_neg c7, if_neg r']
      rfl
    · rw [e1]
      exact hp
    · rw [e1]
  rw [if_pos ⟨c8, k10⟩] at e1
  rw [if_neg k10] at w1
  cases h : (mst tx L l0 u t).2.1 with
  | nil => exact absurd h m1
  | cons l r =>
    rw [h] at m2 m3 m4 m5
    rw [mjn_cons h] at e1
    have ol := m5 l List.mem_cons_self
    have st := fwT_stq m4
    rw [← m3, fwW_cons] at w1
    have sk : Sk (cR tx L t) (mst tx L l0 u t).2.2.1 (mst tx L l0 u t).2.1 = (mst tx L l0 u t).2.2.1 :: (fS l ++ fSS r) := by
      unfold Sk
      rw [if_neg c7, h]
      rfl
    have okm : ∀ (x : Option Nat), ∀ s, s ∈ x.toList.map (opS tx L) → okQ u nf (mst tx L l0 u t).2.2.2 (clf tx L t) (cnm tx L t) s := by
      intro x s hs
      obtain ⟨w, -, e⟩ := List.mem_map.mp hs
      have q : (opS tx L w).1 = 3 ∨ (opS tx L w).1 = 4 ∨ (opS tx L w).1 = 5 := by
        unfold opS
        split
        · exact Or.inl rfl
        · split
          · exact Or.inr (Or.inl rfl)
          · exact Or.inr (Or.inr rfl)
      rw [← e]
      refine ⟨by omega, ?_, fun h => absurd h (by omega), fun h => absurd h (by omega), fun h => absurd h (by omega)⟩
      have := tkS_le (tx := tx) hM w
      show tkS tx L w ≤ 2000
      omega
    have ee : ∀ (s1 : List Lv × Nat × (Nat → Nat)), mst tx L l0 u (t + 1) = (eOr (mst tx L l0 u t).1 (jnE tx L l.2.2 (mst tx L l0 u t).2.2.1), s1) → (∀ p, (mst tx L l0 u t).1 = some p → (mst tx L l0 u (t + 1)).1 = some p) ∧ ((mst tx L l0 u t).1 = none → (mst tx L l0 u (t + 1)).1 = jnE tx L l.2.2 (mst tx L l0 u t).2.2.1) := by
      intro s1 hs
      rw [hs]
      refine ⟨fun p hp => ?_, fun hn => ?_⟩
      · show eOr _ _ = _
        rw [hp]
        rfl
      · show eOr _ _ = _
        rw [hn]
        rfl
    by_cases k12 : tkk tx L t = 12
    · rw [if_neg (by omega), if_pos k12] at e1
      rw [if_pos k12, stl_1 ol st] at w1
      obtain ⟨q1, q2⟩ := ee _ e1
      have r' : cR tx L (t + 1) ≠ 7 := by omega
      refine ⟨_, by rw [w1], fun s hs => ?_, fun ne => ⟨fun p hp => ?_, fun hn => ?_⟩, q1, fun _ => by rw [e1]⟩
      · rcases List.mem_append.mp hs with y | y
        · exact okm _ s y
        · exact okm _ s y
      · rw [q2 ne] at hp
        rw [sk, rn_all ol, hp]
      · rw [q2 ne] at hn
        rw [sk, rn_all ol, hn, if_neg (by omega), e1]
        unfold Sk
        rw [if_neg r']
        rfl
    rw [if_neg k12] at w1
    by_cases k6 : tkk tx L t = 6
    · rw [if_neg (by omega), if_neg k12, if_pos k6] at e1
      rw [if_pos k6, stl_1 ol st] at w1
      obtain ⟨q1, q2⟩ := ee _ e1
      have rl : r = [] := by
        have o0 : (pst (tkk tx L) t).2.1 = 0 := by omega
        rw [o0] at m2
        have m2 : r.length + 1 = 0 + 1 := m2
        exact List.length_eq_zero_iff.mp (by omega)
      refine ⟨_, by rw [w1], fun s hs => ?_, fun ne => ⟨fun p hp => ?_, fun hn => ?_⟩, q1, fun y => absurd k6 y⟩
      · rcases List.mem_append.mp hs with y | y
        · exact okm _ s y
        · exact okm _ s y
      · rw [q2 ne] at hp
        rw [sk, rn_all ol, hp]
      · rw [q2 ne] at hn
        rw [sk, rn_all ol, hn, if_pos k6, e1, rl]
        show some (Sum.inr [_]) = some (Sum.inr [if cnm tx L t = cnm tx L t then _ else _])
        rw [if_pos rfl]
    rw [if_neg k6] at w1
    have r' : cR tx L (t + 1) = 7 := by omega
    by_cases k7 : tkk tx L t = 7
    · rw [if_pos k7] at e1
      rw [rk_7 k7, stl_1 ol st] at w1
      obtain ⟨q1, q2⟩ := ee _ e1
      refine ⟨_, by rw [w1], fun s hs => ?_, fun ne => ⟨fun p hp => ?_, fun hn => ?_⟩, q1, fun _ => by rw [e1]⟩
      · rcases List.mem_append.mp hs with y | y
        · exact okm _ s y
        · exact okm _ s y
      · rw [q2 ne] at hp
        rw [sk, rn_all ol, hp]
      · rw [q2 ne] at hn
        rw [sk, rn_all ol, hn, if_neg k6, e1, r']
        rfl
    · rw [if_neg k7, if_neg k12, if_neg k6] at e1
      have k89 : tkk tx L t = 8 ∨ tkk tx L t = 9 := by omega
      rw [rk_8 k89, stl_2 ol st] at w1
      obtain ⟨q1, q2⟩ := ee _ e1
      refine ⟨_, by rw [w1], fun s hs => okm _ s hs, fun ne => ⟨fun p hp => ?_, fun hn => ?_⟩, q1, fun _ => by rw [e1]⟩
      · rw [q2 ne] at hp
        rw [sk, rn_op ol, hp]
      · rw [q2 ne] at hn
        rw [sk, rn_op ol, hn, if_neg k6, e1, r']
        rfl
