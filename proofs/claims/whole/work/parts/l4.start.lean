/-! THE LAW: its beginning -/
def O1 (Ls : Nat) (xs : Nat → Int32) (h : PH) : Prop := 2 ≤ hE h ∧ h.1 1 = (20, Ls) ∧ hI h 1 = xs
theorem O1.nw {Ls : Nat} {xs : Nat → Int32} {h : PH} (o : O1 Ls xs h) (t n : Nat) : O1 Ls xs (hNew h t n) := ⟨Nat.le_succ_of_le o.1, (h1_new (by have := o.1; omega)).trans o.2.1, (hI_new (by have := o.1; omega)).trans o.2.2⟩
theorem O1.nM {Ls : Nat} {xs : Nat → Int32} {h : PH} (o : O1 Ls xs h) (t n t2 m : Nat) : O1 Ls xs (hNewM h t n t2 m) := by
  obtain ⟨a, b, c⟩ := o
  refine ⟨by show 2 ≤ hE h + 1 + n; omega, ?_, ?_⟩
  · show (if 1 = hE h then (t, n) else if hE h < 1 ∧ 1 ≤ hE h + n then (t2, m) else h.1 1) = _
    rw [if_neg (by omega), if_neg (by omega)]
    exact b
  · funext j
    show (if hE h ≤ 1 ∧ 1 ≤ hE h + n then 0 else hI h 1 j) = _
    rw [if_neg (by omega), c]
theorem O1.r {Ls : Nat} {xs : Nat → Int32} {h : PH} (o : O1 Ls xs h) (k j v : Nat) : O1 Ls xs (sR h k j v) := o
theorem O1.i {Ls : Nat} {xs : Nat → Int32} {h : PH} (o : O1 Ls xs h) {k : Nat} (hk : 2 ≤ k) (j : Nat) (v : Int32) : O1 Ls xs (sI h k j v) := ⟨o.1, o.2.1, (hI_sI_ne (by omega)).trans o.2.2⟩
theorem O1.mk {Ls : Nat} {xs : Nat → Int32} {h : PH} (o : O1 Ls xs h) (k j t n : Nat) : O1 Ls xs (mkR h k j t n) := (o.nw t n).r _ _ _
theorem O1.tB {Ls : Nat} {xs : Nat → Int32} {h : PH} (o : O1 Ls xs h) (i : Nat) : O1 Ls xs (twB h i) := by
  have gF : O1 Ls xs (twF h i) := (((((o.nw 2 4).i o.1 _ _).i o.1 _ _).i o.1 _ _).mk _ _ _ _).r _ _ _
  have gC : ∀ {H : PH}, O1 Ls xs H → ∀ f, O1 Ls xs (twC H i f) := fun b f => (((b.nw 3 5).r _ _ _).i b.1 _ _).r _ _ _
  have gS : ∀ {H : PH}, O1 Ls xs H → ∀ f, O1 Ls xs (twS H i f) := fun b f => (((b.nw 4 4).r _ _ _).r _ _ _).r _ _ _
  exact gS (gC gF _) _
theorem O1.tL {Ls : Nat} {xs : Nat → Int32} {h : PH} (o : O1 Ls xs h) : ∀ i, O1 Ls xs (twL h i) := by
  intro i
  induction i with
  | zero => exact o
  | succ i ih => exact ih.tB (i + 1)
theorem O1.t8 {Ls : Nat} {xs : Nat → Int32} {h : PH} (o : O1 Ls xs h) : O1 Ls xs (tw8 h) := by
  have g3 : O1 Ls xs (tw3 h) := ((o.mk _ _ _ _).mk _ _ _ _).mk _ _ _ _
  have g5 : O1 Ls xs (tw5 h) := (((g3.nw 1 3).mk _ _ _ _).mk _ _ _ _).r _ _ _
  have g6 : O1 Ls xs (tw6 h) := (g5.nM _ _ _ _).r _ _ _
  exact (g6.mk _ _ _ _).mk _ _ _ _
theorem O1.sc {Ls : Nat} {xs : Nat → Int32} {h : PH} (o : O1 Ls xs h) {k : Nat} (hk : 2 ≤ k) : O1 Ls xs (scrH h k) := (((((((((o.mk _ _ _ _).mk _ _ _ _).mk _ _ _ _).mk _ _ _ _).mk _ _ _ _).mk _ _ _ _).mk _ _ _ _).mk _ _ _ _).mk _ _ _ _).i hk _ _
theorem O1.fB {Ls : Nat} {xs : Nat → Int32} {h : PH} (o : O1 Ls xs h) : O1 Ls xs (ftB h) := (((o.nw 5 7).t8).tL 12).r _ _ _
theorem O1.FT {Ls : Nat} {xs : Nat → Int32} {h : PH} (o : O1 Ls xs h) : O1 Ls xs (FTH h) := by
  have a : O1 Ls xs (ftA h) := ((o.nw 0 6).mk _ _ _ _).r _ _ _
  have b := a.fB
  have c : O1 Ls xs (ftC (ftB (ftA h))) := ((((((b.nw 6 7).mk _ _ _ _).mk _ _ _ _).mk _ _ _ _).mk _ _ _ _).mk _ _ _ _).r _ _ _
  have d : O1 Ls xs (ftD (ftC (ftB (ftA h)))) := (((c.nw 7 3).mk _ _ _ _).mk _ _ _ _).r _ _ _
  have e : O1 Ls xs (ftE (ftD (ftC (ftB (ftA h))))) := (d.mk _ _ _ _).mk _ _ _ _
  have f : O1 Ls xs (ftF (ftE (ftD (ftC (ftB (ftA h)))))) := (e.nM _ _ _ _).r _ _ _
  have g : O1 Ls xs (ftG (ftF (ftE (ftD (ftC (ftB (ftA h))))))) := (f.mk _ _ _ _).mk _ _ _ _
  have hh : O1 Ls xs (ftH (ftG (ftF (ftE (ftD (ftC (ftB (ftA h)))))))) := ((g.nw 8 13).sc g.1).r _ _ _
  have i : O1 Ls xs (ftI (ftH (ftG (ftF (ftE (ftD (ftC (ftB (ftA h))))))))) := ((hh.nw 8 13).sc hh.1).r _ _ _
  exact i.i (by decide) _ _
theorem O1.MT {Ls : Nat} {xs : Nat → Int32} {h : PH} (o : O1 Ls xs h) : O1 Ls xs (MTH h) := by
  have A : O1 Ls xs (mA h) := ((((((o.mk _ _ _ _).mk _ _ _ _).mk _ _ _ _).mk _ _ _ _).mk _ _ _ _).mk _ _ _ _).mk _ _ _ _
  have X : O1 Ls xs (mX (mA h)) := A.i (by decide) _ _
  have B : O1 Ls xs (mB (mX (mA h))) := (((((X.mk _ _ _ _).mk _ _ _ _).mk _ _ _ _).mk _ _ _ _).mk _ _ _ _).mk _ _ _ _
  have C : O1 Ls xs (mC (mB (mX (mA h)))) := (((B.mk _ _ _ _).mk _ _ _ _).mk _ _ _ _).mk _ _ _ _
  have D : O1 Ls xs (mD (mC (mB (mX (mA h))))) := (((((C.mk _ _ _ _).mk _ _ _ _).mk _ _ _ _).mk _ _ _ _).mk _ _ _ _).mk _ _ _ _
  have E : O1 Ls xs (mE (mD (mC (mB (mX (mA h)))))) := ((((D.mk _ _ _ _).mk _ _ _ _).mk _ _ _ _).mk _ _ _ _).mk _ _ _ _
  exact (((E.mk _ _ _ _).mk _ _ _ _).mk _ _ _ _).mk _ _ _ _
theorem O1_00 (Ls : Nat) (xs : Nat → Int32) : O1 Ls xs (h00 Ls xs) := ⟨by show 2 ≤ 5; decide, rfl, rfl⟩
theorem O1_M (Ls : Nat) (xs : Nat → Int32) : O1 Ls xs (hM0 Ls xs) := (((O1_00 Ls xs).nw 9 12).FT.nw 10 50).MT
theorem pT_0 (tx : Nat → Nat) : pT (tkk tx 0) = 0 ∧ cR tx 0 0 = 1 ∧ tkk tx 0 0 = 14 := by
  have k : tkk tx 0 0 = 14 := by
    unfold tkk tkK
    rw [if_pos (Nat.zero_le _)]
  refine ⟨?_, rfl, k⟩
  apply Classical.byContradiction
  intro z
  have := (pT_ok (tkk tx 0)).2.2 0 (by omega)
  have := ((pgo_iff _ 0).mp this).1
  rw [k, gAf_14] at this
  exact this rfl
theorem inv0 {Ls : Nat} {xs : Nat → Int32} {h : PH} (e : eqY NA (hM0 Ls xs) h) (m : MJ h lm) (ky : MKY h) : INV h Ls xs := by
  obtain ⟨o1, o2, o3⟩ := O1_M Ls xs
  have ci := ci_M Ls xs o2
  obtain ⟨ae, ai, al, ar⟩ := AG_all Ls xs
  have I : ∀ k, k ≠ 1 → ¬ NA k → hI h k = hI hcl k := fun k k1 k2 => ((e.2.2.2 k k2).1).trans (ai k k1).2
  have R : hR h = hR hcl := e.2.1.trans ar
  obtain ⟨p1, p2, p3⟩ := pT_0 (fun _ => 0)
  obtain ⟨z1, z2, z3, z4, z5, z6, z7, z8, z9, z10, z11⟩ := cl_sm
  have c0 : cnm (fun _ => 0) 0 (pT (tkk (fun _ => 0) 0)) = 0 := by
    rw [p1]
    rfl
  have tt : TXT (fun _ => 0) 0 (hL h 102) (hI h 103) := ⟨Nat.zero_le _, ⟨by rw [p1]; exact p2, by rw [p1]; exact p3⟩, fun i hi => by rw [p1] at hi; exact absurd hi (Nat.not_lt_zero i)⟩
  have en : (mst (fun _ => 0) 0 (hL h 102) lm (pT (tkk (fun _ => 0) 0))).1 = none := by
    rw [p1]
    rfl
  have row : ∀ n, n ≤ 12 → hI hcl 29 n = 0 ∧ hI hcl 2 n = nI (lm n) ∧ hI hcl 3 n = nI (whL.getD n 0) ∧ hI hcl 4 n = nI (nmL.getD n 0) := fun n hn => by
    have := in_range cl_29 (i := n) (by omega)
    simp only [Bool.and_eq_true, beq_iff_eq] at this
    exact ⟨this.1.1.1, this.1.1.2, this.1.2, this.2⟩
  have slot : ∀ q, q < 3 → hI hcl 94 q = 0 ∧ hI hcl 143 q = 0 := fun q hq => by
    have := in_range cl_sl hq
    simp only [Bool.and_eq_true, beq_iff_eq] at this
    exact this
  refine ⟨lm, fun _ => 0, 0, hL h 102, hI h 103, hI h 104, hI h 105, 96, 106, [], fun _ => none, fun _ => 0, 0, ⟨CI_out (fun k hk => by unfold NA at hk; omega) e ci, ⟨by rw [R]; exact cl_56.1, by rw [R]; exact cl_56.2, Or.inl ⟨rfl, rfl⟩⟩, ⟨?_, ?_, fun i hi => ?_, fun j => ?_⟩, tt, en, fun w hw => ?_, ⟨fun n hn => ?_, fun n hn => ?_, fun n hn => ?_⟩⟩, ⟨m, ky, tt, ⟨?_, fun j hj => ?_, fun j hj => ?_, ?_, fun i s hs => ?_⟩, en, fun w hw => ?_⟩, lm_MDS, ⟨⟨?_, Nat.zero_le _, fun i x hx => absurd hx (by simp)⟩, ⟨0, by decide, ?_, ?_, Nat.zero_le _, trivial⟩, fun q hq => ⟨fun _ => ?_, fun v hv => absurd hv (by simp)⟩, fun q hq => ⟨fun _ => ?_, fun v hv => absurd hv (by simp)⟩, TC0 ?_, TM0 ?_, ?_⟩, trivial, fun q v hq hv => absurd hv (by simp), fun i => (by decide : 0 < 256), Nat.zero_le _, ?_, ?_⟩
  · rw [p1, I 96 (by decide) (by unfold NA; omega)]; exact z3
  · rw [c0, I 96 (by decide) (by unfold NA; omega)]; exact z4
  · rw [p1] at hi; exact absurd hi (Nat.not_lt_zero i)
  · rw [p1]; exact ⟨rfl, rfl, rfl⟩
  · rw [c0] at hw; exact absurd hw (Nat.not_lt_zero w)
  · rw [I 2 (by decide) (by unfold NA; omega)]; exact (row n hn).2.1
  · rw [I 3 (by decide) (by unfold NA; omega)]; exact (row n hn).2.2.1
  · rw [I 4 (by decide) (by unfold NA; omega)]; exact (row n hn).2.2.2
  · rw [c0, I 116 (by decide) (by unfold NA; omega)]; exact z9
  · rw [c0] at hj; exact absurd hj (Nat.not_lt_zero j)
  · rw [c0] at hj; exact absurd hj (Nat.not_lt_zero j)
  · rw [p1, I 116 (by decide) (by unfold NA; omega)]; exact z8
  · rw [p1] at hs; exact absurd hs (by simp [eW])
  · rw [c0] at hw; exact absurd hw (Nat.not_lt_zero w)
  · rw [I 85 (by decide) (by unfold NA; omega)]; exact z6
  · rw [I 116 (by decide) (by unfold NA; omega)]; exact z10
  · rw [I 116 (by decide) (by unfold NA; omega)]; exact z11
  · rw [I 94 (by decide) (by unfold NA; omega)]; exact (slot q hq).1
  · rw [I 143 (by decide) (by unfold NA; omega)]; exact (slot q hq).2
  · rw [I 6 (by decide) (by unfold NA; omega)]; exact z5
  · rw [I 116 (by decide) (by unfold NA; omega)]; exact z7
  · rw [I 5 (by decide) (by unfold NA; omega), I 116 (by decide) (by unfold NA; omega), z1, z2]
  · rw [(e.2.2.2 1 (by unfold NA; omega)).1]; exact o3
  · rw [e.1]; exact o2
