/-! WORTH: values stay in their field -/
def BND (tx : Nat → Nat) (L : Nat) (l0 : Nat → Int64) (u : Nat → Nat) (t : Nat) : Prop := (∀ j, j < cnm tx L t → (mst tx L l0 u t).2.2.2 j < 2 ^ rNF tx L t j) ∧ (7 ≤ cR tx L t → (cR tx L t ≠ 7 → (mst tx L l0 u t).2.2.1 < 2 ^ clf tx L t) ∧ ∀ l, l ∈ (mst tx L l0 u t).2.1 → l.2.1.2 < 2 ^ clf tx L t ∧ l.2.2.2 < 2 ^ clf tx L t)
theorem jnV_lt {tx : Nat → Nat} {L n m : Nat} (hm : MDg n m) {b : Option Nat × Nat} {x : Nat} (hb : b.2 < 2 ^ n) (hx : x < 2 ^ n) : jnV tx L n m b x < 2 ^ n := by
  unfold jnV
  split
  · exact hx
  · split
    · exact fm_lt hm hb hx
    · exact fm_lt hm hb (fpw_lt hm hx _)
theorem rem_lt {n m p : Nat} (n2 : n ≤ 12) (hm : MDg n m) (hp : p < 8192) : rem13 p m < 2 ^ n := by
  have p1 : 2 ^ (n + 1) ≤ 2 ^ 13 := Nat.pow_le_pow_right (by decide) (by omega)
  have c1 : 2 ^ 13 = 8192 := by decide
  have p0 := Nat.two_pow_pos n
  have e : m.log2 = n := (Nat.log2_eq_iff (by have := hm.2.1; omega)).mpr hm.2
  have := rem13_deg (p := p) (d := m) hp (by have := hm.2.1; omega) (by have := hm.2.2; omega)
  rw [e] at this
  exact this
/-- what an atom without fault says -/
theorem atm_ok {tx : Nat → Nat} {L : Nat} {l0 : Nat → Int64} {f0 : Nat → Int32} {t : Nat} (ht : t < pT (tkk tx L)) (hf : ∀ i, i < t + 1 → cFL tx L l0 f0 i = 0) (h7 : cR tx L t = 7) : (1 ≤ clf tx L t ∧ clf tx L t ≤ 12) ∧ (tkk tx L t = 5 → ∃ v, v < 8192 ∧ cBt tx L t = nI v) ∧ (tkk tx L t = 4 → cIX tx L l0 t < cnm tx L t ∧ 1 ≤ rNF tx L t (cIX tx L l0 t) ∧ rNF tx L t (cIX tx L l0 t) ≤ 12 ∧ rNF tx L t (cIX tx L l0 t) ∣ clf tx L t) := by
  obtain ⟨a, b, c⟩ := RC_ok l0 f0 t (by omega) (fun i hi => hf i (by omega))
  obtain ⟨y1, y2, y3⟩ := a (by omega)
  have z := hf t (by omega)
  unfold cFL at z
  rw [if_neg (by omega), if_neg (by omega), if_neg (by omega), if_pos h7] at z
  refine ⟨⟨y2, y3⟩, fun k5 => ?_, fun k4 => ?_⟩
  · rw [if_pos k5] at z
    rcases cBt_or k5 with w | w
    · rw [if_pos w] at z
      omega
    · exact w
  · rw [if_neg (by omega), if_pos k4] at z
    by_cases w : cIX tx L l0 t < cnm tx L t
    · rw [if_pos w] at z
      obtain ⟨x1, x2, x3⟩ := b _ w
      rw [x1, nI_clamp (by omega)] at z
      refine ⟨w, x2, x3, Nat.dvd_of_mod_eq_zero ?_⟩
      by_cases v : clf tx L t % rNF tx L t (cIX tx L l0 t) = 0
      · exact v
      · rw [if_neg v] at z
        omega
    · rw [if_neg w] at z
      omega
theorem BND_ok {tx : Nat → Nat} {L : Nat} (l0 : Nat → Int64) (f0 : Nat → Int32) {u : Nat → Nat} (hu : MDS u) : ∀ t, t ≤ pT (tkk tx L) → (∀ i, i < t → cFL tx L l0 f0 i = 0) → BND tx L l0 u t := by
  intro t
  induction t with
  | zero => exact fun _ _ => ⟨fun j hj => absurd hj (Nat.not_lt_zero j), fun h => absurd h (by show ¬ 7 ≤ 1; omega)⟩
  | succ t ih =>
    intro ht hf
    obtain ⟨i1, i2⟩ := ih (by omega) (fun i hi => hf i (by omega))
    have tab := rtab (tx := tx) (L := L) (t := t) (by omega)
    have kk0 : cR tx L t = 7 → tkk tx L t = 11 ∨ tkk tx L t = 3 ∨ tkk tx L t = 4 ∨ tkk tx L t = 5 := by omega
    have rc := RC_ok l0 f0 t (by omega) (fun i hi => hf i (by omega))
    have n' : cnm tx L (t + 1) = if (cR tx L t = 8 ∨ cR tx L t = 10) ∧ tkk tx L t = 6 then cnm tx L t + 1 else cnm tx L t := rfl
    have g3 : ∀ j, rNF tx L (t + 1) j = if cR tx L t = 6 ∧ j = cnm tx L t then tkv tx L t else rNF tx L t j := fun _ => rfl
    have f' : clf tx L (t + 1) = if cR tx L t = 2 ∨ cR tx L t = 6 then tkw tx L t else clf tx L t := rfl
    have e1 : mst tx L l0 u (t + 1) = if cR tx L t = 6 then ((mst tx L l0 u t).1, [(0, (none, 0), (none, 0))], 0, (mst tx L l0 u t).2.2.2)
      else if cR tx L t = 7 then (if tkk tx L t = 11 then ((mst tx L l0 u t).1, (t, (none, 0), (none, 0)) :: (mst tx L l0 u t).2.1, (mst tx L l0 u t).2.2.1, (mst tx L l0 u t).2.2.2) else ((mst tx L l0 u t).1, (mst tx L l0 u t).2.1, avF tx L l0 u (mst tx L l0 u t).2.2.2 t, (mst tx L l0 u t).2.2.2))
      else if cR tx L t = 9 then ((mst tx L l0 u t).1, (mst tx L l0 u t).2.1, fpw (clf tx L t) (u (clf tx L t)) (mst tx L l0 u t).2.2.1 (tkw tx L t), (mst tx L l0 u t).2.2.2)
      else if (cR tx L t = 8 ∨ cR tx L t = 10) ∧ tkk tx L t ≠ 10 then mjn tx L u t (mst tx L l0 u t)
      else mst tx L l0 u t := rfl
    have keep : ¬ ((cR tx L t = 8 ∨ cR tx L t = 10) ∧ tkk tx L t = 6) → ∀ j, j < cnm tx L (t + 1) → (mst tx L l0 u t).2.2.2 j < 2 ^ rNF tx L (t + 1) j := by
      intro z j hj
      rw [n', if_neg z] at hj
      rw [g3, if_neg (by omega)]
      exact i1 j hj
    by_cases c5 : cR tx L t ≤ 5
    · rw [if_neg (by omega), if_neg (by omega), if_neg (by omega), if_neg (by omega)] at e1
      refine ⟨?_, fun h => by omega⟩
      rw [e1]
      exact keep (by omega)
    by_cases c6 : cR tx L t = 6
    · rw [if_pos c6] at e1
      rw [BND, e1]
      refine ⟨keep (by omega), fun _ => ⟨fun y => by omega, fun l hl => ?_⟩⟩
      have e : l = (0, (none, 0), (none, 0)) := by simpa using hl
      rw [e]
      exact ⟨Nat.two_pow_pos _, Nat.two_pow_pos _⟩
    rw [if_neg c6] at e1
    obtain ⟨j1, j2⟩ := i2 (by omega)
    obtain ⟨y1, y2, y3⟩ := rc.1 (by omega)
    have hm := (hu _ y2 y3).1
    rw [if_neg (by omega)] at f'
    by_cases c7 : cR tx L t = 7
    · rw [if_pos c7] at e1
      by_cases k11 : tkk tx L t = 11
      · rw [if_pos k11] at e1
        rw [BND, e1, f']
        refine ⟨keep (by omega), fun _ => ⟨fun y => by omega, fun l hl => ?_⟩⟩
        rcases List.mem_cons.mp hl with e | e
        · rw [e]
          exact ⟨Nat.two_pow_pos _, Nat.two_pow_pos _⟩
        · exact j2 l e
      · rw [if_neg k11] at e1
        rw [BND, e1, f']
        refine ⟨keep (by omega), fun _ => ⟨fun _ => ?_, j2⟩⟩
        obtain ⟨x1, x2, x3⟩ := atm_ok (by omega) hf c7
        have kk : tkk tx L t = 3 ∨ tkk tx L t = 4 ∨ tkk tx L t = 5 := (kk0 c7).resolve_left k11
        show avF tx L l0 u _ t < _
        unfold avF
        rcases kk with k3 | k4 | k5
        · rw [if_pos k3]
          exact rem_lt y3 hm (by decide)
        rotate_left
        · rw [if_neg (by omega), if_pos k5]
          obtain ⟨v, v1, v2⟩ := x2 k5
          rw [v2, nI_clamp (by omega)]
          exact rem_lt y3 hm v1
        · rw [if_neg (by omega), if_neg (by omega)]
          obtain ⟨z1, z2, z3, z4⟩ := x3 k4
          exact pvl_lt hm (IMG_root hu (img_ex hu) _ _ y2 y3 z2 z4).1
    rw [if_neg c7] at e1
    by_cases c9 : cR tx L t = 9
    · rw [if_pos c9] at e1
      rw [BND, e1, f']
      exact ⟨keep (by omega), fun _ => ⟨fun _ => fpw_lt hm (j1 c7) _, j2⟩⟩
    rw [if_neg c9] at e1
    have c8 : cR tx L t = 8 ∨ cR tx L t = 10 := by omega
    by_cases k10 : tkk tx L t = 10
    · rw [if_neg (fun y => y.2 k10)] at e1
      rw [BND, e1, f']
      exact ⟨keep (by omega), fun _ => ⟨fun _ => j1 c7, j2⟩⟩
    rw [if_pos ⟨c8, k10⟩] at e1
    obtain ⟨m1, -, -, -, -⟩ := MIv_ok (tx := tx) (L := L) l0 u t (by omega) (by omega)
    cases h : (mst tx L l0 u t).2.1 with
    | nil => exact absurd h m1
    | cons l r =>
      rw [h] at j2
      rw [mjn_cons h] at e1
      obtain ⟨l1, l2⟩ := j2 l List.mem_cons_self
      have jv := jnV_lt (tx := tx) (L := L) hm l2 (j1 c7)
      have sv := Nat.xor_lt_two_pow l1 jv
      have jr : ∀ v, v ∈ r → v.2.1.2 < 2 ^ clf tx L t ∧ v.2.2.2 < 2 ^ clf tx L t := fun v hv => j2 v (List.mem_cons_of_mem _ hv)
      by_cases k7 : tkk tx L t = 7
      · rw [if_pos k7] at e1
        rw [BND, e1, f']
        refine ⟨keep (by omega), fun _ => ⟨fun _ => j1 c7, fun v hv => ?_⟩⟩
        rcases List.mem_cons.mp hv with e | e
        · rw [e]
          exact ⟨sv, Nat.two_pow_pos _⟩
        · exact jr v e
      rw [if_neg k7] at e1
      by_cases k12 : tkk tx L t = 12
      · rw [if_pos k12] at e1
        rw [BND, e1, f']
        exact ⟨keep (by omega), fun _ => ⟨fun _ => sv, jr⟩⟩
      rw [if_neg k12] at e1
      by_cases k6 : tkk tx L t = 6
      · rw [if_pos k6] at e1
        rw [BND, e1]
        refine ⟨fun j hj => ?_, fun y => by omega⟩
        rw [n', if_pos ⟨c8, k6⟩] at hj
        rw [g3, if_neg (by omega)]
        show (if j = cnm tx L t then _ else _) < _
        by_cases z : j = cnm tx L t
        · rw [if_pos z, z, (rc.2.2 (by omega)).2]
          exact sv
        · rw [if_neg z]
          exact i1 j (by omega)
      · rw [if_neg k6] at e1
        rw [BND, e1, f']
        refine ⟨keep (by omega), fun _ => ⟨fun _ => j1 c7, fun v hv => ?_⟩⟩
        rcases List.mem_cons.mp hv with e | e
        · rw [e]
          exact ⟨l1, jv⟩
        · exact jr v e
