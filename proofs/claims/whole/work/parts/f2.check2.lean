/-! CHECK: the class's check, from its first word -/
theorem eqY_sCp {A : Nat → Prop} {h : PH} {k0 p0 k1 p1 n : Nat} (hk : A k1) : eqY A h (sCp h k0 p0 k1 p1 n) := ⟨rfl, rfl, rfl, fun q hq => ⟨funext fun j => if_neg (fun y => hq (by rw [y.1]; exact hk)), rfl⟩⟩
theorem hI_sCp_ne {h : PH} {k0 p0 k1 p1 n q : Nat} (hq : q ≠ k1) : hI (sCp h k0 p0 k1 p1 n) q = hI h q := funext fun j => if_neg (fun y => hq y.1)
theorem hI_sCp_in {h : PH} {k0 p0 k1 p1 n j : Nat} (h1 : p1 ≤ j) (h2 : j < p1 + n) : hI (sCp h k0 p0 k1 p1 n) k1 j = hI h k0 (p0 + (j - p1)) := if_pos ⟨rfl, h1, h2⟩
theorem hI_sCp_out {h : PH} {k0 p0 k1 p1 n j : Nat} (h2 : ¬ (p1 ≤ j ∧ j < p1 + n)) : hI (sCp h k0 p0 k1 p1 n) k1 j = hI h k1 j := if_neg (fun y => h2 y.2)
theorem hL_sCp {h : PH} {k0 p0 k1 p1 n : Nat} : hL (sCp h k0 p0 k1 p1 n) = hL h := rfl
def cD0 (h : PH) (s : Nat) : Nat → Int32 := fun j => if j < 13 then hI h 2 j else hI h (s + 5) j
theorem c_Script_check {P : PSem} (S : SysOK P) {h : PH} (hw : WS h) {s : Nat} (hs : SCL s) {tx : Nat → Nat} {L : Nat} (hM : L ≤ 2000)
    (p0 : hI h s 0 = nI (pT (tkk tx L))) (p1 : ∀ i, i < pT (tkk tx L) → hI h (s + 1) i = nI (tkk tx L i) ∧ hI h (s + 2) i = nI (cR tx L i) ∧ hI h (s + 3) i = nI (tkS tx L i) ∧ hL h (s + 4) i = lN (tkw tx L i)) {K : PK}
    (hG : cFT tx L (hL h (s + 6)) (hI h (s + 7)) = pT (tkk tx L) → ∀ h', CHK h h' s tx L (hL h (s + 6)) (hI h (s + 7)) (hI h (s + 8)) (hI h (s + 9)) (cD0 h s) (pT (tkk tx L)) → K (.int 0) h')
    (hB : cFT tx L (hL h (s + 6)) (hI h (s + 7)) < pT (tkk tx L) → ∀ h', eqY (fun k => s ≤ k ∧ k ≤ s + 9) h h' → hI h' s 12 = nI (tkS tx L (cFT tx L (hL h (s + 6)) (hI h (s + 7)))) → K (.int (nI (cFL tx L (hL h (s + 6)) (hI h (s + 7)) (cFT tx L (hL h (s + 6)) (hI h (s + 7)))))) h') : P.1 n_Script_check [.ref s] h K := by
  have s2 : s ≠ 2 := by
    unfold SCL at hs
    omega
  refine S.2.1 _ 3 _ _ _ rfl rfl ?_
  refine S.at 40 [15] rfl ?_
  conv => whnf
  refine ⟨sc_t hw hs, ?_⟩
  conv => whnf
  refine ⟨sc_t hw hs, ?_⟩
  conv => whnf
  refine ⟨sc_t hw hs, ?_⟩
  conv => whnf
  rw [show hR (sI (sI h s 6 0) s 11 0) = hR h from rfl, sc_r5 hw hs]
  refine ⟨⟨(show 5 ≤ s + 5 by omega), wt_2 hw, sc_t5 hw hs, by decide, by decide, by decide, show (13 : Nat) ≤ hN h 2 from Nat.le_of_eq (wn_2 hw).symm, show (13 : Nat) ≤ hN h (s + 5) from Nat.le_of_eq (sc_n5 hw hs).symm⟩, ?_⟩
  conv => whnf
  have f : eqY (fun k => s ≤ k ∧ k ≤ s + 9) h (sCp (sI (sI h s 6 0) s 11 0) 2 0 (s + 5) 0 13) := eqY_tr (eqY_tr (eqY_sI (by omega)) (eqY_sI (by omega))) (eqY_sCp (by omega))
  have g0 : ∀ q, q ≠ s → q ≠ s + 5 → hI (sCp (sI (sI h s 6 0) s 11 0) 2 0 (s + 5) 0 13) q = hI h q := fun q a b => by
    rw [hI_sCp_ne b, hI_sI_ne a, hI_sI_ne a]
  refine l_Script_check S hw hs hM hG hB (cFT tx L (hL h (s + 6)) (hI h (s + 7))) 0 (sCp (sI (sI h s 6 0) s 11 0) 2 0 (s + 5) 0 13) (by omega) ⟨f, ?_, ?_, ?_, ?_, fun i hi => ?_, fun i hi => ?_, fun j => rfl, fun j => ?_, fun j => ?_, fun j => ?_, fun j => ?_⟩
  · rw [hI_sCp_ne (by omega), hI_sI_j (by decide), hI_sI_j (by decide)]
    exact p0
  · rw [hI_sCp_ne (by omega), hI_sI_j (by decide), hI_sI]
    rfl
  · rw [hI_sCp_ne (by omega), hI_sI]
    rfl
  · rw [hI_sCp_ne (by omega), hI_sI_j (by decide), hI_sI_j (by decide)]
  · rw [g0 _ (by omega) (by omega), g0 _ (by omega) (by omega), g0 _ (by omega) (by omega)]
    exact ⟨(p1 i hi).1, (p1 i hi).2.1, (p1 i hi).2.2.1⟩
  · rw [if_neg (Nat.not_lt_zero i)]
    exact (p1 i hi).2.2.2
  · rw [g0 _ (by omega) (by omega)]
    rfl
  · rw [g0 _ (by omega) (by omega)]
    rfl
  · rw [g0 _ (by omega) (by omega)]
    rfl
  · show _ = if j < 13 then _ else _
    rcases Nat.lt_or_ge j 13 with w | w
    · rw [if_pos w, hI_sCp_in (Nat.zero_le j) (by omega), hI_sI_ne (by omega), hI_sI_ne (by omega), Nat.zero_add, Nat.sub_zero]
    · rw [if_neg (by omega), hI_sCp_out (by omega), hI_sI_ne (by omega), hI_sI_ne (by omega)]
