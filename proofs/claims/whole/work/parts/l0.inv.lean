/-! THE LAW: what holds between two calls -/
def HG (tx : Nat → Nat) (L : Nat) (l0 : Nat → Int64) : (Nat → Nat) → List (Nat × Nat) → Prop
  | _, [] => True
  | u, x :: H => (1 ≤ x.1 ∧ x.1 ≤ 12 ∧ GOOD tx L l0 (updM u x.1 x.2)) ∧ HG tx L l0 (updM u x.1 x.2) H
theorem HG_take {tx : Nat → Nat} {L : Nat} {l0 : Nat → Int64} : ∀ m H u, HG tx L l0 u H → HG tx L l0 u (H.take m) := by
  intro m
  induction m with
  | zero => exact fun H u _ => trivial
  | succ m ih =>
    intro H u g
    cases H with
    | nil => exact trivial
    | cons x H => exact ⟨g.1, ih H _ g.2⟩
/-- the class's and the reference's rows outside tower and text -/
def OUT (h : PH) (u : Nat → Nat) (H : List (Nat × Nat)) (g : Nat → Option (Nat → Nat)) (ttx : Nat → Nat) (tL : Nat) : Prop := HR h H ∧ MR h u H ∧ SL h g ∧ ML h g ∧ TC h ttx tL ∧ TM h ttx tL ∧ hI h 5 11 = hI h 116 16
def INVg (h : PH) (u tx : Nat → Nat) (L : Nat) (l0 : Nat → Int64) (f0 s0 m0 : Nat → Int32) (s s' : Nat) (H : List (Nat × Nat)) (g : Nat → Option (Nat → Nat)) (ttx : Nat → Nat) (tL Ls : Nat) (xs : Nat → Int32) : Prop :=
  CST h u tx L l0 f0 s0 m0 s s' ∧ RST h u tx L l0 f0 ∧ MDS u ∧ OUT h u H g ttx tL ∧ HG tx L l0 u H ∧ (∀ q v, q < 3 → g q = some v → GOOD tx L l0 v) ∧ TXB ttx ∧ tL ≤ 2000 ∧ hI h 1 = xs ∧ h.1 1 = (20, Ls)
theorem RST_mx {h h' : PH} {u tx : Nat → Nat} {L : Nat} {l0 : Nat → Int64} {f0 : Nat → Int32} (m : MFX h h') (hw : WS h') (r : RST h u tx L l0 f0) : RST h' u tx L l0 f0 := by
  obtain ⟨⟨a1, a2, a3, a4⟩, b, c, ⟨d1, d2, d3, d4⟩, e, f⟩ := r
  have i : ∀ k, 116 ≤ k → k ≤ 148 → hI h' k = hI h k := fun k y1 y2 => (m k y1 y2).1
  refine ⟨⟨hw, fun q y1 y2 => ?_, fun q y1 y2 => ?_, fun n d y1 y2 y3 y4 => ?_⟩, ?_, c, ⟨?_, fun j hj => ?_, fun j hj => ?_, ?_, fun q s hs => ?_⟩, e, fun w hw => ?_⟩
  · rw [i 125 (by decide) (by decide)]; exact a2 q y1 y2
  · rw [i 124 (by decide) (by decide)]; exact a3 q y1 y2
  · rw [i 144 (by decide) (by decide)]; exact a4 n d y1 y2 y3 y4
  · unfold MKY
    rw [(m 123 (by decide) (by decide)).2.1]
    exact b
  · rw [i 116 (by decide) (by decide)]; exact d1
  · rw [i 130 (by decide) (by decide)]; exact d2 j hj
  · rw [i 131 (by decide) (by decide)]; exact d3 j hj
  · rw [i 116 (by decide) (by decide)]; exact d4.1
  · rw [i 127 (by decide) (by decide), i 128 (by decide) (by decide), i 129 (by decide) (by decide)]; exact d4.2 q s hs
  · rw [i 132 (by decide) (by decide)]; exact f w hw
theorem OUT_eq {h h' : PH} {u : Nat → Nat} {H : List (Nat × Nat)} {g : Nat → Option (Nat → Nat)} {ttx : Nat → Nat} {tL : Nat} (e : ∀ k, k = 5 ∨ k = 6 ∨ k = 7 ∨ (85 ≤ k ∧ k ≤ 87) ∨ (91 ≤ k ∧ k ≤ 94) ∨ k = 117 ∨ (141 ≤ k ∧ k ≤ 143) → hI h' k = hI h k) (e1 : ∀ j, j = 2 ∨ j = 16 ∨ j = 40 ∨ j = 41 → hI h' 116 j = hI h 116 j) (o : OUT h u H g ttx tL) : OUT h' u H g ttx tL := by
  obtain ⟨a, b, c, d, f, f2, p⟩ := o
  refine ⟨a.eq ⟨e 85 (by decide), e 86 (by decide), e 87 (by decide)⟩, MR_eq (e1 40 (by decide)) (e1 41 (by decide)) (e 141 (by decide)) b, fun q hq => ?_, fun q hq => ?_, ⟨?_, ?_⟩, ⟨?_, ?_⟩, ?_⟩
  · rw [e 94 (by decide), e (91 + q) (by omega)]
    exact c q hq
  · rw [e 143 (by decide), e 142 (by decide)]
    exact d q hq
  · rw [e 6 (by decide)]; exact f.1
  · rw [e 7 (by decide)]; exact f.2
  · rw [e1 2 (by decide)]; exact f2.1
  · rw [e 117 (by decide)]; exact f2.2
  · rw [e 5 (by decide), e1 16 (by decide)]; exact p
theorem INVg.q {h h' : PH} {u tx : Nat → Nat} {L : Nat} {l0 : Nat → Int64} {f0 s0 m0 : Nat → Int32} {s s' : Nat} {H : List (Nat × Nat)} {g : Nat → Option (Nat → Nat)} {ttx : Nat → Nat} {tL Ls : Nat} {xs : Nat → Int32} (i : INVg h u tx L l0 f0 s0 m0 s s' H g ttx tL Ls xs) (hC : CI h' u (imF u)) (q : FQ h h') : INVg h' u tx L l0 f0 s0 m0 s s' H g ttx tL Ls xs := by
  obtain ⟨a, b, c, o, p, r, t, w, x, y⟩ := i
  have ns : ∀ k, k < 149 → (k < 8 ∨ (79 ≤ k ∧ k ≠ 95)) → ¬ scr k := fun k _ h2 => by unfold scr; omega
  have e : ∀ k, k < 149 → (k < 8 ∨ (79 ≤ k ∧ k ≠ 95)) → hI h' k = hI h k := fun k h1 h2 => (q.1 k h1 (ns k h1 h2)).1
  have f : FO (fun _ => False) h h' := FO_Q q
  refine ⟨a.fo hC f (fun _ _ _ => id) id (fun _ _ _ => id) rfl, RST_mx (MFX_FO f (fun k hk => absurd hk id)) hC.1 b, c, OUT_eq (fun k hk => e k (by omega) (by omega)) (fun j _ => by rw [e 116 (by decide) (by decide)]) o, p, r, t, w, ?_, ?_⟩
  · rw [e 1 (by decide) (by decide)]; exact x
  · rw [q.2.2]; exact y
/-- the reference's questions -/
theorem INVg.m {h h' : PH} {u tx : Nat → Nat} {L : Nat} {l0 : Nat → Int64} {f0 s0 m0 : Nat → Int32} {s s' : Nat} {H : List (Nat × Nat)} {g : Nat → Option (Nat → Nat)} {ttx : Nat → Nat} {tL Ls : Nat} {xs : Nat → Int32} (i : INVg h u tx L l0 f0 s0 m0 s s' H g ttx tL Ls xs) {J A : Nat → Prop} (q : MNX J A h h') (hA : ∀ k, A k → k = 116 ∨ (145 ≤ k ∧ k ≤ 148)) (hJ : ∀ j, J j → j = 49) : INVg h' u tx L l0 f0 s0 m0 s s' H g ttx tL Ls xs := by
  obtain ⟨a, b, c, o, p, r, t, w, x, y⟩ := i
  have nA : ∀ k, k ≠ 116 → ¬ (145 ≤ k ∧ k ≤ 148) → ¬ A k := fun k h1 h2 h3 => by have := hA k h3; omega
  have hC : CI h' u (imF u) := CI_out (fun k hk => by have := hA k hk; omega) q.1 a.1
  have f : FO A h h' := FO_Y q.1
  have sb := a.2.1.2.2
  refine ⟨a.fo hC f (fun k k1 k2 => nA k (by unfold SS at sb; omega) (by unfold SS at sb; omega)) (nA _ (by decide) (by decide)) (fun k k1 k2 => nA k (by omega) (by omega)) rfl, b.fr q (fun y => by have := hJ _ y; omega) (fun y => by have := hJ _ y; omega) (fun k k1 k2 k3 => nA k (by omega) (by omega)) (nA _ (by decide) (by decide)), c, OUT_eq (fun k hk => (q.1.2.2.2 k (nA k (by omega) (by omega))).1) (fun j hj => q.2 j (fun y => by have := hJ _ y; omega)) o, p, r, t, w, ?_, ?_⟩
  · rw [(q.1.2.2.2 1 (nA _ (by decide) (by decide))).1]; exact x
  · rw [q.1.1]; exact y
theorem mq_MNX {h h' : PH} (e : eqX mq h h') : MNX (fun _ => False) mq h h' := ⟨e.y, fun j _ => by rw [e.2.2.2.2 116 (by unfold mq; omega)]⟩
