/-! THE CLASS'S TOWER: what is always so -/
def LST (p : Nat → Prop) (a : Nat) : Prop := p a ∧ ∀ b, b < a → ¬ p b
theorem LST_uq {p : Nat → Prop} {a b : Nat} (h1 : LST p a) (h2 : LST p b) : a = b := by
  rcases Nat.lt_trichotomy a b with w | w | w
  · exact absurd h1.1 (h2.2 a w)
  · exact w
  · exact absurd h2.1 (h1.2 b w)
theorem LST_cg {p q : Nat → Prop} {a : Nat} (h : LST p a) (e : ∀ b, p b ↔ q b) : LST q a := ⟨(e a).mp h.1, fun b hb hq => h.2 b hb ((e b).mpr hq)⟩
theorem LST_ex {p : Nat → Prop} {b : Nat} (h : p b) : ∃ a, LST p a ∧ a ≤ b := by
  obtain ⟨k, h1, h2, h3⟩ := least_ex (p := p) b h
  exact ⟨k, ⟨h2, h3⟩, h1⟩
/-- the greatest field between two; 0: none -/
def gbL (d n : Nat) : Nat → Nat
  | 0 => 0
  | j + 1 => if n % (d + 1 + j) = 0 ∧ (d + 1 + j) % d = 0 then d + 1 + j else gbL d n j
def gbw (d n : Nat) : Nat := gbL d n (n - 1 - d)
theorem gbL_ok {d n : Nat} : ∀ j, gbL d n j ≠ 0 → d < gbL d n j ∧ gbL d n j ≤ d + j ∧ n % gbL d n j = 0 ∧ gbL d n j % d = 0
  | 0, h => absurd rfl h
  | j + 1, h => by
    unfold gbL at h ⊢
    by_cases c : n % (d + 1 + j) = 0 ∧ (d + 1 + j) % d = 0
    · rw [if_pos c]
      exact ⟨by omega, by omega, c.1, c.2⟩
    · rw [if_neg c] at h ⊢
      obtain ⟨a, b, e, f⟩ := gbL_ok j h
      exact ⟨a, by omega, e, f⟩
theorem gbw_ok {d n : Nat} (h : gbw d n ≠ 0) : d < gbw d n ∧ gbw d n < n ∧ gbw d n ∣ n ∧ d ∣ gbw d n := by
  obtain ⟨a, b, c, e⟩ := gbL_ok _ h
  have b : gbw d n ≤ d + (n - 1 - d) := b
  have hn : n - 1 - d ≠ 0 := fun z => by
    unfold gbw at h
    rw [z] at h
    exact h rfl
  exact ⟨a, by omega, Nat.dvd_of_mod_eq_zero c, Nat.dvd_of_mod_eq_zero e⟩
/-- both ways up agree -/
def AGR (u : Nat → Nat) (r : Nat → Nat → Nat) (d n a : Nat) : Prop := ∀ e, d < e → e < n → e ∣ n → ∀ v, v < 2 ^ Nat.gcd d e → pvl n (u n) a (pvl d (u d) (r (Nat.gcd d e) d) v) = pvl n (u n) (r e n) (pvl e (u e) (r (Nat.gcd d e) e) v)
/-- r tells what x of each field becomes in each greater one -/
def IMG (u : Nat → Nat) (r : Nat → Nat → Nat) : Prop := ∀ n d, 1 ≤ n → n ≤ 12 → 1 ≤ d → d ∣ n →
  (d = n → r d n = xof n (u n)) ∧ (d < n → gbw d n ≠ 0 → r d n = pvl n (u n) (r (gbw d n) n) (r d (gbw d n))) ∧ (d < n → gbw d n = 0 → LST (fun a => a < 2 ^ n ∧ pvl n (u n) a (u d) = 0 ∧ AGR u r d n a) (r d n))
def MDS (u : Nat → Nat) : Prop := ∀ n, 1 ≤ n → n ≤ 12 → MOD n (u n)
theorem IMG_root {u : Nat → Nat} {r : Nat → Nat → Nat} (hu : MDS u) (hr : IMG u r) : ∀ n d, 1 ≤ n → n ≤ 12 → 1 ≤ d → d ∣ n → root n (u n) (u d) (r d n) := by
  intro n
  induction n using Nat.strongRecOn with
  | _ n ihn =>
    have key : ∀ j d, d + j = n → 1 ≤ n → n ≤ 12 → 1 ≤ d → d ∣ n → root n (u n) (u d) (r d n) := by
      intro j
      induction j using Nat.strongRecOn with
      | _ j ihj =>
        intro d hj h1 h2 h3 h4
        obtain ⟨a, b, c⟩ := hr n d h1 h2 h3 h4
        have hm := (hu n h1 h2).1
        rcases Nat.eq_zero_or_pos j with z | z
        · have e : d = n := by omega
          rw [a e, e]
          exact xof_root hm
        · by_cases hg : gbw d n = 0
          · obtain ⟨⟨c1, c2, -⟩, -⟩ := c (by omega) hg
            exact ⟨c1, c2⟩
          · obtain ⟨g1, g2, g3, g4⟩ := gbw_ok hg
            rw [b (by omega) hg]
            have r1 := ihj (n - gbw d n) (by omega) (gbw d n) (by omega) h1 h2 (by omega) g3
            have r2 := ihn (gbw d n) g2 d (by omega) (by omega) h3 g4
            exact hom_root (hu (gbw d n) (by omega) (by omega)).1 hm r1 r2
    intro d h1 h2 h3 h4
    exact key (n - d) d (by have := Nat.le_of_dvd h1 h4; omega) h1 h2 h3 h4
/-- images depend on the moduli of the divisors alone -/
theorem IMG_loc {u u' : Nat → Nat} {r r' : Nat → Nat → Nat} (hr : IMG u r) (hr' : IMG u' r') : ∀ n d, 1 ≤ n → n ≤ 12 → 1 ≤ d → d ∣ n → (∀ e, 1 ≤ e → e ∣ n → u e = u' e) → r d n = r' d n := by
  intro n
  induction n using Nat.strongRecOn with
  | _ n ihn =>
    have key : ∀ j d, d + j = n → 1 ≤ n → n ≤ 12 → 1 ≤ d → d ∣ n → (∀ e, 1 ≤ e → e ∣ n → u e = u' e) → r d n = r' d n := by
      intro j
      induction j using Nat.strongRecOn with
      | _ j ihj =>
        intro d hj h1 h2 h3 h4 hu
        obtain ⟨a, b, c⟩ := hr n d h1 h2 h3 h4
        obtain ⟨a', b', c'⟩ := hr' n d h1 h2 h3 h4
        have un := hu n h1 (Nat.dvd_refl n)
        have ud := hu d h3 h4
        rcases Nat.eq_zero_or_pos j with z | z
        · rw [a (by omega), a' (by omega), un]
        · by_cases hg : gbw d n = 0
          · refine LST_uq (c (by omega) hg) (LST_cg (c' (by omega) hg) (fun x => ?_))
            rw [← un, ← ud]
            have e2 : AGR u' r' d n x ↔ AGR u r d n x := by
              unfold AGR
              have k : ∀ e, d < e → e < n → e ∣ n → ∀ v, (pvl n (u n) x (pvl d (u d) (r (Nat.gcd d e) d) v) = pvl n (u n) (r e n) (pvl e (u e) (r (Nat.gcd d e) e) v) ↔ pvl n (u' n) x (pvl d (u' d) (r' (Nat.gcd d e) d) v) = pvl n (u' n) (r' e n) (pvl e (u' e) (r' (Nat.gcd d e) e) v)) := by
                intro e e1 e2 e3 v
                have g0 : 1 ≤ Nat.gcd d e := Nat.gcd_pos_of_pos_left _ h3
                have ue := hu e (by omega) e3
                rw [← un, ← ud, ← ue]
                rw [ihn d (by omega) (Nat.gcd d e) h3 (by omega) g0 (Nat.gcd_dvd_left d e) (fun f f1 f2 => hu f f1 (Nat.dvd_trans f2 h4))]
                rw [ihn e (by omega) (Nat.gcd d e) (by omega) (by omega) g0 (Nat.gcd_dvd_right d e) (fun f f1 f2 => hu f f1 (Nat.dvd_trans f2 e3))]
                rw [ihj (n - e) (by omega) e (by omega) h1 h2 (by omega) e3 hu]
              exact ⟨fun q e e1 e2 e3 v hv => (k e e1 e2 e3 v).mpr (q e e1 e2 e3 v hv), fun q e e1 e2 e3 v hv => (k e e1 e2 e3 v).mp (q e e1 e2 e3 v hv)⟩
            rw [e2]
          · obtain ⟨g1, g2, g3, g4⟩ := gbw_ok hg
            rw [b (by omega) hg, b' (by omega) hg, ← un]
            rw [ihj (n - gbw d n) (by omega) (gbw d n) (by omega) h1 h2 (by omega) g3 hu]
            rw [ihn (gbw d n) g2 d (by omega) (by omega) h3 g4 (fun f f1 f2 => hu f f1 (Nat.dvd_trans f2 g3))]
    intro d h1 h2 h3 h4 hu
    exact key (n - d) d (by have := Nat.le_of_dvd h1 h4; omega) h1 h2 h3 h4 hu
/-! traces as bits, the least normal element -/
def tbS (n m : Nat) : Nat → Nat
  | 0 => 0
  | k + 1 => tbS n m k ||| (tr1 n m (2 ^ k) <<< k)
def tbF (n m : Nat) : Nat := tbS n m n
noncomputable def nrmB (n m a : Nat) : Bool := @decide (nrm n m a) (Classical.propDecidable _)
theorem nrmB_iff {n m a : Nat} : nrmB n m a = true ↔ nrm n m a := @decide_eq_true_iff _ (Classical.propDecidable _)
noncomputable def lnF (n m : Nat) : Nat := fnd (nrmB n m) (2 ^ n - 1) 1
theorem lnF_ok {n m : Nat} (hn : n ≤ 12) (hM : MOD n m) : 1 ≤ lnF n m ∧ lnF n m < 2 ^ n ∧ nrm n m (lnF n m) ∧ ∀ l, 1 ≤ l → l < lnF n m → ¬ nrm n m l := by
  obtain ⟨b, b1, b2⟩ := all_nrm hn hM
  have b0 := nrm_ne0 hM.1 b2
  obtain ⟨x, y, z, w⟩ := fnd_ok (p := nrmB n m) (2 ^ n - 1) 1 b (by omega) (by omega) (nrmB_iff.mpr b2)
  refine ⟨x, Nat.lt_of_le_of_lt y b1, nrmB_iff.mp z, fun l h1 h2 q => ?_⟩
  have := w l h1 h2
  rw [nrmB_iff.mpr q] at this
  cases this
/-! the invariant -/
def CF (h : PH) (u : Nat → Nat) : Prop := ∀ n, 1 ≤ n → n ≤ 12 → FOK h (27 + 4 * n) n (u n)
def CY (h : PH) (u : Nat → Nat) : Prop := ∀ n, 1 ≤ n → n ≤ 12 → hI h (29 + 4 * n) 1 = nI (2 ^ n - 1) ∧ (hI h (29 + 4 * n) 2 = 0 ∨ hI h (29 + 4 * n) 2 = nI (lpF n (u n)))
def CL (h : PH) (u : Nat → Nat) : Prop := (∀ n, 1 ≤ n → n ≤ 12 → (hR h (29 + 4 * n) 4 = 0 ∨ (149 ≤ hR h (29 + 4 * n) 4 ∧ hR h (29 + 4 * n) 4 < hE h ∧ hT h (hR h (29 + 4 * n) 4) = 20 ∧ hN h (hR h (29 + 4 * n) 4) = 2 ^ n)) ∧ (hI h (29 + 4 * n) 3 = 0 ∨ (hI h (29 + 4 * n) 3 = 1 ∧ hR h (29 + 4 * n) 4 ≠ 0 ∧ ∀ a, 1 ≤ a → a < 2 ^ n → hI h (hR h (29 + 4 * n) 4) a = nI (lgF n (u n) (lpF n (u n)) a)))) ∧
  ∀ n k, 1 ≤ n → n ≤ 12 → 1 ≤ k → k ≤ 12 → n ≠ k → hR h (29 + 4 * n) 4 ≠ 0 → hR h (29 + 4 * n) 4 ≠ hR h (29 + 4 * k) 4
def CS (h : PH) (u : Nat → Nat) : Prop := ∀ n, 1 ≤ n → n ≤ 12 → (hI h (30 + 4 * n) 2 = 0 ∨ hI h (30 + 4 * n) 2 = nI (tbF n (u n))) ∧ (hI h (30 + 4 * n) 3 = 0 ∨ hI h (30 + 4 * n) 3 = nI (lnF n (u n)))
def CM (h : PH) (r : Nat → Nat → Nat) : Prop := ∀ n, 1 ≤ n → n ≤ 12 → hI h 29 n = 0 ∨ (hI h 29 n = 1 ∧ ∀ d, 1 ≤ d → d ∣ n → hI h (16 + n) d = nI (r d n))
def CI (h : PH) (u : Nat → Nat) (r : Nat → Nat → Nat) : Prop := WS h ∧ CF h u ∧ CY h u ∧ CL h u ∧ CS h u ∧ CM h r
/-- cells of the class that a question may change -/
def scr (k : Nat) : Prop := k = 12 ∨ k = 13 ∨ k = 14 ∨ (16 ≤ k ∧ k ≤ 30) ∨ (31 ≤ k ∧ k ≤ 78 ∧ k % 4 ≠ 3) ∨ k = 95
def FQ (h h' : PH) : Prop := (∀ k, k < 149 → ¬ scr k → hI h' k = hI h k ∧ hL h' k = hL h k ∧ hR h' k = hR h k) ∧ hE h ≤ hE h' ∧ h'.1 1 = h.1 1
theorem FQ_rf (h : PH) : FQ h h := ⟨fun _ _ _ => ⟨rfl, rfl, rfl⟩, Nat.le_refl _, rfl⟩
theorem FQ_tr {h1 h2 h3 : PH} (a : FQ h1 h2) (b : FQ h2 h3) : FQ h1 h3 := ⟨fun k h1 h2 => by
  obtain ⟨a1, a2, a3⟩ := a.1 k h1 h2
  obtain ⟨b1, b2, b3⟩ := b.1 k h1 h2
  exact ⟨b1.trans a1, b2.trans a2, b3.trans a3⟩, Nat.le_trans a.2.1 b.2.1, b.2.2.trans a.2.2⟩
theorem FQ_eqX {A : Nat → Prop} {h h' : PH} (e : eqX A h h') (hA : ∀ k, A k → k < 149 → scr k) : FQ h h' := ⟨fun k h1 h2 => ⟨e.2.2.2.2 k (fun q => h2 (hA k q h1)), by rw [e.2.2.1], by rw [e.2.1]⟩, by rw [e.2.2.2.1]; exact Nat.le_refl _, by rw [e.1]⟩
/-- rows that hold nothing between the calls -/
def frs (k : Nat) : Prop := k = 12 ∨ k = 13 ∨ k = 14 ∨ k = 30 ∨ k = 95 ∨ (32 ≤ k ∧ k ≤ 76 ∧ k % 4 = 0)
theorem frs_scr {k : Nat} (h : frs k) : scr k := by
  unfold frs at h
  unfold scr
  omega
theorem CI_eqX {A : Nat → Prop} {h h' : PH} {u : Nat → Nat} {r : Nat → Nat → Nat} (hA : ∀ k, A k → frs k) (e : eqX A h h') (hC : CI h u r) : CI h' u r := by
  obtain ⟨c1, c2, c3, c4, c5, c6⟩ := hC
  have hi : ∀ k, ¬ frs k → hI h' k = hI h k := fun k hk => e.2.2.2.2 k (fun q => hk (hA k q))
  have f1 : ∀ n, ¬ frs (29 + 4 * n) := fun n q => by unfold frs at q; omega
  have f2 : ∀ n, ¬ frs (30 + 4 * n) ∨ n = 0 := fun n => by unfold frs; omega
  refine ⟨eqX_WS e c1, fun n a b => ?_, fun n a b => ?_, ⟨fun n a b => ?_, ?_⟩, fun n a b => ?_, fun n a b => ?_⟩
  · exact eqX_FOK e (fun q => by have := hA _ q; unfold frs at this; omega) (c2 n a b)
  · rw [hi _ (f1 n)]
    exact c3 n a b
  · rw [hi _ (f1 n), e.2.1, e.2.2.2.1, eqX_T e, eqX_N e]
    obtain ⟨g1, g2⟩ := c4.1 n a b
    refine ⟨g1, ?_⟩
    rcases g2 with g2 | ⟨g2, g3, g4⟩
    · exact Or.inl g2
    · refine Or.inr ⟨g2, g3, ?_⟩
      rcases g1 with g1 | g1
      · exact absurd g1 g3
      · rw [hi _ (fun q => by unfold frs at q; omega)]
        exact g4
  · rw [e.2.1]
    exact c4.2
  · rcases f2 n with f | f
    · rw [hi _ f]
      exact c5 n a b
    · omega
  · rw [hi _ (fun q => by unfold frs at q; omega), hi _ (fun q => by unfold frs at q; omega)]
    exact c6 n a b
theorem CI_prim {h : PH} {u : Nat → Nat} {r : Nat → Nat → Nat} {n : Nat} (hn1 : 1 ≤ n) (hn : n ≤ 12) (hC : CI h u r) : CI (sI h (29 + 4 * n) 2 (nI (lpF n (u n)))) u r := by
  obtain ⟨c1, c2, c3, c4, c5, c6⟩ := hC
  refine ⟨c1, fun k a b => ?_, fun k a b => ?_, ⟨fun k a b => ?_, c4.2⟩, fun k a b => ?_, fun k a b => ?_⟩
  · exact eqX_FOK (A := fun q => q = 29 + 4 * n) (eqX_sI rfl) (by omega) (c2 k a b)
  · by_cases e : k = n
    · subst e
      rw [hI_sI_j (by decide), hI_sI]
      exact ⟨(c3 k a b).1, Or.inr rfl⟩
    · rw [hI_sI_ne (by omega)]
      exact c3 k a b
  · obtain ⟨g1, g2⟩ := c4.1 k a b
    refine ⟨g1, ?_⟩
    have e3 : hI (sI h (29 + 4 * n) 2 (nI (lpF n (u n)))) (29 + 4 * k) 3 = hI h (29 + 4 * k) 3 := by
      by_cases e : k = n
      · subst e
        exact hI_sI_j (by decide)
      · rw [hI_sI_ne (by omega)]
    rw [e3]
    rcases g2 with g2 | ⟨g2, g3, g4⟩
    · exact Or.inl g2
    · refine Or.inr ⟨g2, g3, ?_⟩
      rcases g1 with g1 | g1
      · exact absurd g1 g3
      · rw [hR_sI, hI_sI_ne (by omega)]
        exact g4
  · rw [hI_sI_ne (by omega)]
    exact c5 k a b
  · rw [hI_sI_ne (by omega), hI_sI_ne (by omega)]
    exact c6 k a b
theorem CI_spc {h : PH} {u : Nat → Nat} {r : Nat → Nat → Nat} {n j v : Nat} (hn1 : 1 ≤ n) (hn : n ≤ 12) (hj : (j = 2 ∧ v = tbF n (u n)) ∨ (j = 3 ∧ v = lnF n (u n))) (hC : CI h u r) : CI (sI h (30 + 4 * n) j (nI v)) u r := by
  obtain ⟨c1, c2, c3, c4, c5, c6⟩ := hC
  refine ⟨c1, fun k a b => ?_, fun k a b => ?_, ⟨fun k a b => ?_, c4.2⟩, fun k a b => ?_, fun k a b => ?_⟩
  · exact eqX_FOK (A := fun q => q = 30 + 4 * n) (eqX_sI rfl) (by omega) (c2 k a b)
  · rw [hI_sI_ne (by omega)]
    exact c3 k a b
  · obtain ⟨g1, g2⟩ := c4.1 k a b
    refine ⟨g1, ?_⟩
    rw [hI_sI_ne (by omega)]
    rcases g2 with g2 | ⟨g2, g3, g4⟩
    · exact Or.inl g2
    · refine Or.inr ⟨g2, g3, ?_⟩
      rcases g1 with g1 | g1
      · exact absurd g1 g3
      · rw [hR_sI, hI_sI_ne (by omega)]
        exact g4
  · by_cases e : k = n
    · subst e
      rcases hj with ⟨rfl, rfl⟩ | ⟨rfl, rfl⟩
      · rw [hI_sI, hI_sI_j (by decide)]
        exact ⟨Or.inr rfl, (c5 k a b).2⟩
      · rw [hI_sI, hI_sI_j (by decide)]
        exact ⟨(c5 k a b).1, Or.inr rfl⟩
    · rw [hI_sI_ne (by omega)]
      exact c5 k a b
  · rw [hI_sI_ne (by omega), hI_sI_ne (by omega)]
    exact c6 k a b
theorem FQ_sI {h : PH} {k j : Nat} {v : Int32} (hk : scr k) : FQ h (sI h k j v) := FQ_eqX (A := fun q => q = k) (eqX_sI rfl) (fun q e _ => by rw [e]; exact hk)
