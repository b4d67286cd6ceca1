/-! CONSTRUCTORS: the heap behind both, against one without script -/
def AG (h h' : PH) : Prop := hE h = hE h' ∧ (∀ k, k ≠ 1 → h.1 k = h'.1 k ∧ hI h k = hI h' k) ∧ hL h = hL h' ∧ hR h = hR h'
theorem AG_new {h h' : PH} (a : AG h h') (t n : Nat) : AG (hNew h t n) (hNew h' t n) := by
  obtain ⟨e, i, l, r⟩ := a
  refine ⟨by show hE h + 1 = hE h' + 1; rw [e], fun k hk => ?_, ?_, ?_⟩
  · show up1 h.1 (hE h) (t, n) k = up1 h'.1 (hE h') (t, n) k ∧ up1 (hI h) (hE h) (fun _ => 0) k = up1 (hI h') (hE h') (fun _ => 0) k
    unfold up1
    rw [e, (i k hk).1, (i k hk).2]
    exact ⟨rfl, rfl⟩
  · show up1 (hL h) (hE h) _ = up1 (hL h') (hE h') _
    rw [e, l]
  · show up1 (hR h) (hE h) _ = up1 (hR h') (hE h') _
    rw [e, r]
theorem AG_newM {h h' : PH} (a : AG h h') (t n t2 m : Nat) : AG (hNewM h t n t2 m) (hNewM h' t n t2 m) := by
  obtain ⟨e, i, l, r⟩ := a
  refine ⟨by show hE h + 1 + n = hE h' + 1 + n; rw [e], fun k hk => ⟨?_, ?_⟩, ?_, ?_⟩
  · show (if k = hE h then (t, n) else if hE h < k ∧ k ≤ hE h + n then (t2, m) else h.1 k) = (if k = hE h' then (t, n) else if hE h' < k ∧ k ≤ hE h' + n then (t2, m) else h'.1 k)
    rw [e, (i k hk).1]
  · funext j
    show (if hE h ≤ k ∧ k ≤ hE h + n then 0 else hI h k j) = (if hE h' ≤ k ∧ k ≤ hE h' + n then 0 else hI h' k j)
    rw [e, (i k hk).2]
  · funext k j
    show (if hE h ≤ k ∧ k ≤ hE h + n then 0 else hL h k j) = (if hE h' ≤ k ∧ k ≤ hE h' + n then 0 else hL h' k j)
    rw [e, l]
  · funext k j
    show (if k = hE h then (if j < n then hE h + 1 + j else 0) else if hE h < k ∧ k ≤ hE h + n then 0 else hR h k j) = (if k = hE h' then (if j < n then hE h' + 1 + j else 0) else if hE h' < k ∧ k ≤ hE h' + n then 0 else hR h' k j)
    rw [e, r]
theorem AG_sR {h h' : PH} (a : AG h h') (k j v : Nat) : AG (sR h k j v) (sR h' k j v) := by
  obtain ⟨e, i, l, r⟩ := a
  refine ⟨e, i, l, ?_⟩
  show up2 (hR h) k j v = up2 (hR h') k j v
  rw [r]
theorem AG_sI {h h' : PH} (a : AG h h') (k j : Nat) (v : Int32) : AG (sI h k j v) (sI h' k j v) := by
  obtain ⟨e, i, l, r⟩ := a
  refine ⟨e, fun q hq => ⟨(i q hq).1, ?_⟩, l, r⟩
  show up2 (hI h) k j v q = up2 (hI h') k j v q
  funext p
  unfold up2
  rw [(i q hq).2]
theorem AG_mkR {h h' : PH} (a : AG h h') (k j t n : Nat) : AG (mkR h k j t n) (mkR h' k j t n) := by
  unfold mkR
  rw [a.1]
  exact AG_sR (AG_new a t n) k j _
theorem AG_fld {h h' : PH} (a : AG h h') (k i : Nat) : AG (fldH h k i) (fldH h' k i) := by
  unfold fldH
  rw [(a.2.1 2 (by decide)).2]
  exact AG_mkR (AG_sI (AG_sI (AG_sI a _ _ _) _ _ _) _ _ _) _ _ _ _
theorem AG_twB {h h' : PH} (a : AG h h') (i : Nat) : AG (twB h i) (twB h' i) := by
  have gF : AG (twF h i) (twF h' i) := by
    unfold twF
    rw [a.1]
    exact AG_sR (AG_fld (AG_new a _ _) _ _) _ _ _
  have gC : ∀ {H H' : PH}, AG H H' → ∀ f, AG (twC H i f) (twC H' i f) := fun b f => by
    unfold twC cycH
    rw [b.1]
    exact AG_sR (AG_sI (AG_sR (AG_new b _ _) _ _ _) _ _ _) _ _ _
  have gS : ∀ {H H' : PH}, AG H H' → ∀ f, AG (twS H i f) (twS H' i f) := fun b f => by
    unfold twS spcH
    rw [b.1]
    exact AG_sR (AG_sR (AG_sR (AG_new b _ _) _ _ _) _ _ _) _ _ _
  unfold twB
  rw [a.1]
  exact gS (gC gF _) _
theorem AG_twL {h h' : PH} (a : AG h h') : ∀ i, AG (twL h i) (twL h' i) := by
  intro i
  induction i with
  | zero => exact a
  | succ i ih => exact AG_twB ih (i + 1)
theorem AG_tw8 {h h' : PH} (a : AG h h') : AG (tw8 h) (tw8 h') := by
  have g3 : AG (tw3 h) (tw3 h') := AG_mkR (AG_mkR (AG_mkR a _ _ _ _) _ _ _ _) _ _ _ _
  have g5 : AG (tw5 h) (tw5 h') := by
    unfold tw5 spanH
    rw [g3.1]
    exact AG_sR (AG_mkR (AG_mkR (AG_new g3 _ _) _ _ _ _) _ _ _ _) _ _ _
  have g6 : AG (tw6 h) (tw6 h') := by
    unfold tw6
    rw [g5.1]
    exact AG_sR (AG_newM g5 _ _ _ _) _ _ _
  exact AG_mkR (AG_mkR g6 _ _ _ _) _ _ _ _
theorem AG_scr {h h' : PH} (a : AG h h') (k : Nat) : AG (scrH h k) (scrH h' k) := AG_sI (AG_mkR (AG_mkR (AG_mkR (AG_mkR (AG_mkR (AG_mkR (AG_mkR (AG_mkR (AG_mkR a _ _ _ _) _ _ _ _) _ _ _ _) _ _ _ _) _ _ _ _) _ _ _ _) _ _ _ _) _ _ _ _) _ _ _ _) _ _ _
theorem AG_A {h h' : PH} (a : AG h h') : AG (ftA h) (ftA h') := by
  unfold ftA tapeH
  rw [a.1]
  exact AG_sR (AG_mkR (AG_new a _ _) _ _ _ _) _ _ _
theorem AG_B {h h' : PH} (a : AG h h') : AG (ftB h) (ftB h') := by
  unfold ftB
  rw [a.1]
  exact AG_sR (AG_twL (AG_tw8 (AG_new a _ _)) 12) _ _ _
theorem AG_C {h h' : PH} (a : AG h h') : AG (ftC h) (ftC h') := by
  unfold ftC workH
  rw [a.1]
  exact AG_sR (AG_mkR (AG_mkR (AG_mkR (AG_mkR (AG_mkR (AG_new a _ _) _ _ _ _) _ _ _ _) _ _ _ _) _ _ _ _) _ _ _ _) _ _ _
theorem AG_D {h h' : PH} (a : AG h h') : AG (ftD h) (ftD h') := by
  unfold ftD histH
  rw [a.1]
  exact AG_sR (AG_mkR (AG_mkR (AG_new a _ _) _ _ _ _) _ _ _ _) _ _ _
theorem AG_F {h h' : PH} (a : AG h h') : AG (ftF h) (ftF h') := by
  unfold ftF
  rw [a.1]
  exact AG_sR (AG_newM a _ _ _ _) _ _ _
theorem AG_H {h h' : PH} (a : AG h h') : AG (ftH h) (ftH h') := by
  unfold ftH
  rw [a.1]
  exact AG_sR (AG_scr (AG_new a _ _) _) _ _ _
theorem AG_I {h h' : PH} (a : AG h h') : AG (ftI h) (ftI h') := by
  unfold ftI
  rw [a.1]
  exact AG_sR (AG_scr (AG_new a _ _) _) _ _ _
theorem AG_FT {h h' : PH} (a : AG h h') : AG (FTH h) (FTH h') := by
  have d := AG_D (AG_C (AG_B (AG_A a)))
  have e : AG (ftE (ftD (ftC (ftB (ftA h))))) (ftE (ftD (ftC (ftB (ftA h'))))) := AG_mkR (AG_mkR d _ _ _ _) _ _ _ _
  have f := AG_F e
  have g : AG (ftG (ftF (ftE (ftD (ftC (ftB (ftA h))))))) (ftG (ftF (ftE (ftD (ftC (ftB (ftA h'))))))) := AG_mkR (AG_mkR f _ _ _ _) _ _ _ _
  exact AG_sI (AG_I (AG_H g)) _ _ _
theorem AG_MT {h h' : PH} (a : AG h h') : AG (MTH h) (MTH h') := by
  have A : AG (mA h) (mA h') := AG_mkR (AG_mkR (AG_mkR (AG_mkR (AG_mkR (AG_mkR (AG_mkR a _ _ _ _) _ _ _ _) _ _ _ _) _ _ _ _) _ _ _ _) _ _ _ _) _ _ _ _
  have X : AG (mX (mA h)) (mX (mA h')) := AG_sI A _ _ _
  have B : AG (mB (mX (mA h))) (mB (mX (mA h'))) := AG_mkR (AG_mkR (AG_mkR (AG_mkR (AG_mkR (AG_mkR X _ _ _ _) _ _ _ _) _ _ _ _) _ _ _ _) _ _ _ _) _ _ _ _
  have C : AG (mC (mB (mX (mA h)))) (mC (mB (mX (mA h')))) := AG_mkR (AG_mkR (AG_mkR (AG_mkR B _ _ _ _) _ _ _ _) _ _ _ _) _ _ _ _
  have D : AG (mD (mC (mB (mX (mA h))))) (mD (mC (mB (mX (mA h'))))) := AG_mkR (AG_mkR (AG_mkR (AG_mkR (AG_mkR (AG_mkR C _ _ _ _) _ _ _ _) _ _ _ _) _ _ _ _) _ _ _ _) _ _ _ _
  have E : AG (mE (mD (mC (mB (mX (mA h)))))) (mE (mD (mC (mB (mX (mA h')))))) := AG_mkR (AG_mkR (AG_mkR (AG_mkR (AG_mkR D _ _ _ _) _ _ _ _) _ _ _ _) _ _ _ _) _ _ _ _
  exact AG_mkR (AG_mkR (AG_mkR (AG_mkR E _ _ _ _) _ _ _ _) _ _ _ _) _ _ _ _
theorem AG_00 (L : Nat) (xs : Nat → Int32) : AG (h00 L xs) (h00 0 (fun _ => 0)) := by
  refine ⟨rfl, fun k hk => ⟨?_, ?_⟩, rfl, rfl⟩
  · show (if k = 1 then _ else _) = (if k = 1 then _ else _)
    rw [if_neg hk, if_neg hk]
  · funext j
    show (if k = 1 then _ else _) = (if k = 1 then _ else _)
    rw [if_neg hk, if_neg hk]
def hF0 (L : Nat) (xs : Nat → Int32) : PH := FTH (hNew (h00 L xs) 9 12)
def hM0 (L : Nat) (xs : Nat → Int32) : PH := MTH (hNew (hF0 L xs) 10 50)
def hcl : PH := hM0 0 (fun _ => 0)
theorem AG_all (L : Nat) (xs : Nat → Int32) : AG (hM0 L xs) hcl := AG_MT (AG_new (AG_FT (AG_new (AG_00 L xs) _ _)) _ _)
