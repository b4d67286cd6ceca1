/-! CONSTRUCTORS: what the kernel finds of the closed heap -/
theorem cl_shp : (List.range 147).all (fun i => decide (hcl.1 (i + 2) = (shpL[i + 2]?).getD (99, 0))) = true := by decide +kernel
theorem cl_ref : refL.all (fun q => hR hcl q.1 q.2.1 == q.2.2) = true := by decide +kernel
theorem cl_E : hE hcl = 149 := by decide +kernel
theorem cl_56 : hR hcl 5 9 = 96 ∧ hR hcl 5 10 = 106 := by decide +kernel
theorem cl_fld : (List.range 12).all (fun i => hI hcl (31 + 4 * i) 0 == nI (i + 1) && hI hcl (31 + 4 * i) 1 == nI (2 ^ (i + 1)) && hI hcl (31 + 4 * i) 2 == nI (lm (i + 1)) && hI hcl (33 + 4 * i) 1 == nI (2 ^ (i + 1) - 1) && hI hcl (33 + 4 * i) 2 == 0 && hI hcl (33 + 4 * i) 3 == 0 && hI hcl (34 + 4 * i) 2 == 0 && hI hcl (34 + 4 * i) 3 == 0 && hR hcl (33 + 4 * i) 4 == 0) = true := by decide +kernel
theorem cl_29 : (List.range 13).all (fun n => hI hcl 29 n == 0 && hI hcl 2 n == nI (lm n) && hI hcl 3 n == nI (whL.getD n 0) && hI hcl 4 n == nI (nmL.getD n 0)) = true := by decide +kernel
theorem cl_sm : hI hcl 5 11 = -1 ∧ hI hcl 116 16 = -1 ∧ hI hcl 96 0 = 0 ∧ hI hcl 96 6 = 0 ∧ hI hcl 6 1 = 0 ∧ hI hcl 85 2 = 0 ∧ hI hcl 116 2 = 0 ∧ hI hcl 116 24 = 0 ∧ hI hcl 116 29 = 0 ∧ hI hcl 116 40 = 0 ∧ hI hcl 116 41 = 0 := by decide +kernel
theorem cl_sl : (List.range 3).all (fun q => hI hcl 94 q == 0 && hI hcl 143 q == 0) = true := by decide +kernel
theorem mk_I {H : PH} {k j t n q : Nat} (hq : q < hE H) : hI (mkR H k j t n) q = hI H q := hI_new (t := t) (n := n) (by omega)
theorem mk_0 {H : PH} {k j t n : Nat} : hI (mkR H k j t n) (hE H) = fun _ => 0 := if_pos rfl
theorem Q6.I {H : PH} {e j t n q : Nat} (a : Q6 H e) (hq : q < e) : hI (mkR H 116 j t n) q = hI H q := mk_I (by have := a.2; omega)
theorem cl_q : Q6 (hNew (hF0 0 (fun _ => 0)) 10 50) 117 := ⟨by decide +kernel, by decide +kernel⟩
theorem cl_124 : hI hcl 124 = fun _ => 0 := by
  have qX := qm_X (qm_A cl_q)
  have b1 := qX.mk (j := 17) (t := 22) (n := 8192) (by decide)
  have b2 := b1.mk (j := 18) (t := 20) (n := 13) (by decide)
  have b3 := b2.mk (j := 19) (t := 20) (n := 13) (by decide)
  have b4 := b3.mk (j := 21) (t := 20) (n := 410) (by decide)
  have b5 := b4.mk (j := 22) (t := 20) (n := 410) (by decide)
  have qB := qm_B qX
  have c1 := qB.mk (j := 25) (t := 20) (n := 9) (by decide)
  have c2 := c1.mk (j := 26) (t := 20) (n := 8) (by decide)
  have c3 := c2.mk (j := 27) (t := 20) (n := 8) (by decide)
  have qC := qm_C qB
  have d1 := qC.mk (j := 30) (t := 20) (n := 410) (by decide)
  have d2 := d1.mk (j := 31) (t := 20) (n := 410) (by decide)
  have d3 := d2.mk (j := 32) (t := 20) (n := 410) (by decide)
  have d4 := d3.mk (j := 33) (t := 20) (n := 26) (by decide)
  have d5 := d4.mk (j := 34) (t := 20) (n := 13) (by decide)
  have qD := qm_D qC
  have e1 := qD.mk (j := 38) (t := 20) (n := 410) (by decide)
  have e2 := e1.mk (j := 39) (t := 20) (n := 390) (by decide)
  have e3 := e2.mk (j := 42) (t := 20) (n := 39) (by decide)
  have e4 := e3.mk (j := 43) (t := 22) (n := 3) (by decide)
  have qE := qm_E qD
  have f1 := qE.mk (j := 45) (t := 20) (n := 12) (by decide)
  have f2 := f1.mk (j := 46) (t := 20) (n := 12) (by decide)
  have f3 := f2.mk (j := 47) (t := 20) (n := 14) (by decide)
  have z0 : hI (mkR (mX (mA (hNew (hF0 0 (fun _ => 0)) 10 50))) 116 17 22 8192) 124 = fun _ => 0 := by
    have := mk_0 (H := mX (mA (hNew (hF0 0 (fun _ => 0)) 10 50))) (k := 116) (j := 17) (t := 22) (n := 8192)
    rw [qX.2] at this
    exact this
  show hI (mF (mE (mD (mC (mB (mX (mA (hNew (hF0 0 (fun _ => 0)) 10 50)))))))) 124 = _
  unfold mF
  rw [f3.I (by decide), f2.I (by decide), f1.I (by decide), qE.I (by decide)]
  unfold mE
  rw [e4.I (by decide), e3.I (by decide), e2.I (by decide), e1.I (by decide), qD.I (by decide)]
  unfold mD
  rw [d5.I (by decide), d4.I (by decide), d3.I (by decide), d2.I (by decide), d1.I (by decide), qC.I (by decide)]
  unfold mC
  rw [c3.I (by decide), c2.I (by decide), c1.I (by decide), qB.I (by decide)]
  unfold mB
  rw [b5.I (by decide), b4.I (by decide), b3.I (by decide), b2.I (by decide), b1.I (by decide)]
  exact z0
/-- what holds behind the rows of both constructors -/
theorem in_range {n : Nat} {f : Nat → Bool} (h : (List.range n).all f = true) {i : Nat} (hi : i < n) : f i = true := List.all_eq_true.mp h i (List.mem_range.mpr hi)
theorem ws_M (L : Nat) (xs : Nat → Int32) (h1 : (hM0 L xs).1 1 = (20, L)) : WS (hM0 L xs) := by
  obtain ⟨e, i, l, r⟩ := AG_all L xs
  refine ⟨fun k k1 k2 => ?_, fun q hq => ?_, congrArg (fun x => x.1) h1, ?_⟩
  · rw [(i k (by omega)).1]
    have := of_decide_eq_true (in_range cl_shp (i := k - 2) (by omega))
    rw [show k - 2 + 2 = k by omega] at this
    exact this
  · rw [r]
    exact beq_iff_eq.mp (List.all_eq_true.mp cl_ref q hq)
  · rw [e, cl_E]
    exact Nat.le_refl _
theorem ci_M (L : Nat) (xs : Nat → Int32) (h1 : (hM0 L xs).1 1 = (20, L)) : CI (hM0 L xs) lm (imF lm) := by
  have hw := ws_M L xs h1
  obtain ⟨e, i, l, r⟩ := AG_all L xs
  have I : ∀ k, k ≠ 1 → hI (hM0 L xs) k = hI hcl k := fun k hk => (i k hk).2
  have F : ∀ n, 1 ≤ n → n ≤ 12 → hI (hM0 L xs) (27 + 4 * n) 0 = nI n ∧ hI (hM0 L xs) (27 + 4 * n) 1 = nI (2 ^ n) ∧ hI (hM0 L xs) (27 + 4 * n) 2 = nI (lm n) ∧ hI (hM0 L xs) (29 + 4 * n) 1 = nI (2 ^ n - 1) ∧ hI (hM0 L xs) (29 + 4 * n) 2 = 0 ∧ hI (hM0 L xs) (29 + 4 * n) 3 = 0 ∧ hI (hM0 L xs) (30 + 4 * n) 2 = 0 ∧ hI (hM0 L xs) (30 + 4 * n) 3 = 0 ∧ hR (hM0 L xs) (29 + 4 * n) 4 = 0 := by
    intro n n1 n2
    have := in_range cl_fld (i := n - 1) (by omega)
    rw [show n - 1 + 1 = n by omega, show 31 + 4 * (n - 1) = 27 + 4 * n by omega, show 33 + 4 * (n - 1) = 29 + 4 * n by omega, show 34 + 4 * (n - 1) = 30 + 4 * n by omega] at this
    simp only [Bool.and_eq_true, beq_iff_eq] at this
    rw [I _ (by omega), I _ (by omega), I _ (by omega), r]
    obtain ⟨⟨⟨⟨⟨⟨⟨⟨a1, a2⟩, a3⟩, a4⟩, a5⟩, a6⟩, a7⟩, a8⟩, a9⟩ := this
    exact ⟨a1, a2, a3, a4, a5, a6, a7, a8, a9⟩
  have t : ∀ n, 1 ≤ n → n ≤ 12 → hT (hM0 L xs) (27 + 4 * n) = 2 := by
    intro n n1 n2
    rcases (show n = 1 ∨ n = 2 ∨ n = 3 ∨ n = 4 ∨ n = 5 ∨ n = 6 ∨ n = 7 ∨ n = 8 ∨ n = 9 ∨ n = 10 ∨ n = 11 ∨ n = 12 by omega) with e | e | e | e | e | e | e | e | e | e | e | e <;> subst e
    · exact (ws_t hw 31 2 4 (by decide) (by decide) (by decide +kernel)).1
    · exact (ws_t hw 35 2 4 (by decide) (by decide) (by decide +kernel)).1
    · exact (ws_t hw 39 2 4 (by decide) (by decide) (by decide +kernel)).1
    · exact (ws_t hw 43 2 4 (by decide) (by decide) (by decide +kernel)).1
    · exact (ws_t hw 47 2 4 (by decide) (by decide) (by decide +kernel)).1
    · exact (ws_t hw 51 2 4 (by decide) (by decide) (by decide +kernel)).1
    · exact (ws_t hw 55 2 4 (by decide) (by decide) (by decide +kernel)).1
    · exact (ws_t hw 59 2 4 (by decide) (by decide) (by decide +kernel)).1
    · exact (ws_t hw 63 2 4 (by decide) (by decide) (by decide +kernel)).1
    · exact (ws_t hw 67 2 4 (by decide) (by decide) (by decide +kernel)).1
    · exact (ws_t hw 71 2 4 (by decide) (by decide) (by decide +kernel)).1
    · exact (ws_t hw 75 2 4 (by decide) (by decide) (by decide +kernel)).1
  refine ⟨hw, fun n n1 n2 => ?_, fun n n1 n2 => ?_, ⟨fun n n1 n2 => ?_, fun n k n1 n2 k1 k2 nk z => ?_⟩, fun n n1 n2 => ?_, fun n n1 n2 => ?_⟩
  · obtain ⟨a1, a2, a3, -⟩ := F n n1 n2
    exact ⟨t n n1 n2, a1, a2, a3⟩
  · obtain ⟨-, -, -, a4, a5, -⟩ := F n n1 n2
    exact ⟨a4, Or.inl a5⟩
  · obtain ⟨-, -, -, -, -, a6, -, -, a9⟩ := F n n1 n2
    exact ⟨Or.inl a9, Or.inl a6⟩
  · obtain ⟨-, -, -, -, -, -, -, -, a9⟩ := F n n1 n2
    exact absurd a9 z
  · obtain ⟨-, -, -, -, -, -, a7, a8, -⟩ := F n n1 n2
    exact ⟨Or.inl a7, Or.inl a8⟩
  · have := in_range cl_29 (i := n) (by omega)
    simp only [Bool.and_eq_true, beq_iff_eq] at this
    rw [I 29 (by decide)]
    exact Or.inl this.1.1.1
