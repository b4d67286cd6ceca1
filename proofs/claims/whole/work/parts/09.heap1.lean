/-! SOUNDNESS: the heap -/
theorem uw_0 : ∀ w ∈ u_ws r_0 ff_0 6, w ∈ tbG := by
  intro w hw
  have h1 : (u_ws r_0 ff_0 6).all (fun w => lw_tbl.contains w && goodWord w) = true := by decide +kernel
  have h2 := List.all_eq_true.mp h1 w hw
  simp only [Bool.and_eq_true] at h2
  exact List.mem_filter.mpr ⟨by simpa using h2.1, h2.2⟩
theorem uw_1 : ∀ w ∈ u_ws r_1 ff_1 3, w ∈ tbG := by
  intro w hw
  have h1 : (u_ws r_1 ff_1 3).all (fun w => lw_tbl.contains w && goodWord w) = true := by decide +kernel
  have h2 := List.all_eq_true.mp h1 w hw
  simp only [Bool.and_eq_true] at h2
  exact List.mem_filter.mpr ⟨by simpa using h2.1, h2.2⟩
theorem uw_2 : ∀ w ∈ u_ws r_2 ff_2 4, w ∈ tbG := by
  intro w hw
  have h1 : (u_ws r_2 ff_2 4).all (fun w => lw_tbl.contains w && goodWord w) = true := by decide +kernel
  have h2 := List.all_eq_true.mp h1 w hw
  simp only [Bool.and_eq_true] at h2
  exact List.mem_filter.mpr ⟨by simpa using h2.1, h2.2⟩
theorem uw_3 : ∀ w ∈ u_ws r_3 ff_3 5, w ∈ tbG := by
  intro w hw
  have h1 : (u_ws r_3 ff_3 5).all (fun w => lw_tbl.contains w && goodWord w) = true := by decide +kernel
  have h2 := List.all_eq_true.mp h1 w hw
  simp only [Bool.and_eq_true] at h2
  exact List.mem_filter.mpr ⟨by simpa using h2.1, h2.2⟩
theorem uw_4 : ∀ w ∈ u_ws r_4 ff_4 4, w ∈ tbG := by
  intro w hw
  have h1 : (u_ws r_4 ff_4 4).all (fun w => lw_tbl.contains w && goodWord w) = true := by decide +kernel
  have h2 := List.all_eq_true.mp h1 w hw
  simp only [Bool.and_eq_true] at h2
  exact List.mem_filter.mpr ⟨by simpa using h2.1, h2.2⟩
theorem uw_5 : ∀ w ∈ u_ws r_5 ff_5 7, w ∈ tbG := by
  intro w hw
  have h1 : (u_ws r_5 ff_5 7).all (fun w => lw_tbl.contains w && goodWord w) = true := by decide +kernel
  have h2 := List.all_eq_true.mp h1 w hw
  simp only [Bool.and_eq_true] at h2
  exact List.mem_filter.mpr ⟨by simpa using h2.1, h2.2⟩
theorem uw_6 : ∀ w ∈ u_ws r_6 ff_6 7, w ∈ tbG := by
  intro w hw
  have h1 : (u_ws r_6 ff_6 7).all (fun w => lw_tbl.contains w && goodWord w) = true := by decide +kernel
  have h2 := List.all_eq_true.mp h1 w hw
  simp only [Bool.and_eq_true] at h2
  exact List.mem_filter.mpr ⟨by simpa using h2.1, h2.2⟩
theorem uw_7 : ∀ w ∈ u_ws r_7 ff_7 3, w ∈ tbG := by
  intro w hw
  have h1 : (u_ws r_7 ff_7 3).all (fun w => lw_tbl.contains w && goodWord w) = true := by decide +kernel
  have h2 := List.all_eq_true.mp h1 w hw
  simp only [Bool.and_eq_true] at h2
  exact List.mem_filter.mpr ⟨by simpa using h2.1, h2.2⟩
theorem uw_8 : ∀ w ∈ u_ws r_8 ff_8 13, w ∈ tbG := by
  intro w hw
  have h1 : (u_ws r_8 ff_8 13).all (fun w => lw_tbl.contains w && goodWord w) = true := by decide +kernel
  have h2 := List.all_eq_true.mp h1 w hw
  simp only [Bool.and_eq_true] at h2
  exact List.mem_filter.mpr ⟨by simpa using h2.1, h2.2⟩
theorem uw_9 : ∀ w ∈ u_ws r_9 ff_9 12, w ∈ tbG := by
  intro w hw
  have h1 : (u_ws r_9 ff_9 12).all (fun w => lw_tbl.contains w && goodWord w) = true := by decide +kernel
  have h2 := List.all_eq_true.mp h1 w hw
  simp only [Bool.and_eq_true] at h2
  exact List.mem_filter.mpr ⟨by simpa using h2.1, h2.2⟩
theorem uw_10 : ∀ w ∈ u_ws r_10 ff_10 50, w ∈ tbG := by
  intro w hw
  have h1 : (u_ws r_10 ff_10 50).all (fun w => lw_tbl.contains w && goodWord w) = true := by decide +kernel
  have h2 := List.all_eq_true.mp h1 w hw
  simp only [Bool.and_eq_true] at h2
  exact List.mem_filter.mpr ⟨by simpa using h2.1, h2.2⟩
theorem cl_ok {ci : Nat} {C : String} {T : u_T} {N : Nat} (h : v_cl[ci]? = some (C, T, N)) : (∀ w ∈ u_ws C T N, w ∈ tbG) ∧ ∃ ty0 : Nat → FieldType, (∀ k, k < N → parseFieldDescriptor (T k).2.2.1 = some (ty0 k)) ∧ ∀ a, a < N → ∀ b, b < N → a ≠ b → (T a).2.1 ≠ (T b).2.1 := by
  match ci, h with
  | 0, h => cases h; exact ⟨uw_0, ft_0, fo_0, fn_0⟩
  | 1, h => cases h; exact ⟨uw_1, ft_1, fo_1, fn_1⟩
  | 2, h => cases h; exact ⟨uw_2, ft_2, fo_2, fn_2⟩
  | 3, h => cases h; exact ⟨uw_3, ft_3, fo_3, fn_3⟩
  | 4, h => cases h; exact ⟨uw_4, ft_4, fo_4, fn_4⟩
  | 5, h => cases h; exact ⟨uw_5, ft_5, fo_5, fn_5⟩
  | 6, h => cases h; exact ⟨uw_6, ft_6, fo_6, fn_6⟩
  | 7, h => cases h; exact ⟨uw_7, ft_7, fo_7, fn_7⟩
  | 8, h => cases h; exact ⟨uw_8, ft_8, fo_8, fn_8⟩
  | 9, h => cases h; exact ⟨uw_9, ft_9, fo_9, fn_9⟩
  | 10, h => cases h; exact ⟨uw_10, ft_10, fo_10, fn_10⟩
  | k + 11, h => simp [v_cl] at h
theorem wsH_upd {G : GW} {h h' : PH} {k : Nat} (he : hE h' = hE h) (h1 : 5 ≤ k) (ho : ∀ j, 5 ≤ j → j ≠ k → enT G h' j = enT G h j) : wsH G h' = (wsH G h).set (k - 5) (ad G k, enT G h' k) := by
  apply List.ext_getElem?
  intro i
  by_cases hi : i < hE h - 5
  · have a1 : (wsH G h')[i]? = some (ad G (i + 5), enT G h' (i + 5)) := by
      have := wsH_at (G := G) (h := h') (k := i + 5) (by omega) (by rw [he]; omega)
      rwa [show i + 5 - 5 = i by omega] at this
    have a2 : (wsH G h)[i]? = some (ad G (i + 5), enT G h (i + 5)) := by
      have := wsH_at (G := G) (h := h) (k := i + 5) (by omega) (by omega)
      rwa [show i + 5 - 5 = i by omega] at this
    by_cases hik : i = k - 5
    · subst hik
      rw [List.getElem?_set_self (by rw [wsH_len]; exact hi), a1]
      rw [show k - 5 + 5 = k by omega]
    · rw [List.getElem?_set_ne (Ne.symm hik), a1, a2, ho (i + 5) (by omega) (by omega)]
  · rw [List.getElem?_eq_none (by rw [wsH_len, he]; omega), List.getElem?_eq_none (by rw [List.length_set, wsH_len]; omega)]
theorem HRl.upd {G : GW} {h h' : PH} {H H1 : Heap} {k : Nat} (hH : HRl G h H) (h1 : 5 ≤ k) (h2 : k < hE h) (e1 : h'.1 = h.1) (e2 : hE h' = hE h) (e3 : ∀ j, j < 5 → hI h' j = hI h j) (ho : ∀ j, 5 ≤ j → j ≠ k → enT G h' j = enT G h j)
    (hat : va_at G.1 v_cl (ad G k, enT G h' k) H1) (z : H1.size = H.size) (oq : ∀ q : Nat, q ≠ ad G k → H1[q]? = H[q]?) : HRl G h' H1 := by
  obtain ⟨w1, w2, w3, w4, w5⟩ := hH
  have et : ∀ j, hT h' j = hT h j := fun j => by unfold hT; rw [e1]
  refine ⟨?_, fun j a b => ?_, by rw [z, e2]; exact w3, fun q hq => ?_, ?_⟩
  · obtain ⟨a1, a2, a3, a4⟩ := w1
    exact ⟨by rw [e2]; exact a1, by rw [et]; exact a2, fun j a b => by rw [et]; exact a3 j a b, fun j a => by rw [et]; exact a4 j (by rw [← e2]; exact a)⟩
  · obtain ⟨b1, b2⟩ := w2 j a b
    refine ⟨?_, by rw [e3 j b]; exact b2⟩
    rw [← b1]
    unfold hN
    rw [e1]
  · rw [oq q (by rw [ad_ge h1]; omega)]
    exact w4 q hq
  · rw [wsH_upd e2 h1 ho]
    exact w5.set wsH_D (wsH_at h1 h2) hat oq
theorem enT_o {G : GW} {h : PH} {k c : Nat} (hk : hT h k = c) (hc : c < 20) : enT G h k = enO G h k c := by
  unfold enT
  rw [if_pos (by rw [hk]; exact hc), hk]
theorem enT_a {G : GW} {h : PH} {k t : Nat} (hk : hT h k = t) (hc : 20 ≤ t) : enT G h k = enA G h k t := by
  unfold enT
  rw [if_neg (by rw [hk]; omega), hk]
theorem enO_at {G : GW} {h : PH} {k c j : Nat} (hj : j < (ftl c).length) : ((List.range (ftl c).length).map (fun j => fvl G h k ((ftl c)[j]?.getD 0) j))[j]? = some (fvl G h k ((ftl c)[j]?.getD 0) j) := by
  rw [List.getElem?_map, List.getElem?_range hj]
  rfl
theorem tv_ref {G : GW} {k : Nat} (hk : 1 ≤ k) : tv G (.ref k) = .ref (ad G k) := by
  show va_rf (rfq G k) = _
  unfold rfq
  rw [if_neg (by omega)]
  rfl
theorem vq_in {i : Int32} {n : Nat} (h1 : ¬ i < 0) (h2 : i.toNatClampNeg < n) : vp_in i n := fun q => by
  rcases q with q | q
  · exact h1 q
  · omega
theorem va_S_of {G : GW} {s : State} {H : Heap} {locs : List Loc} (hS : va_S (AA G) s.heap H locs) {H1 : Heap} {a j : Nat} (z : H1.size = H.size) (oq : ∀ q : Nat, q ≠ a → H1[q]? = H[q]?) (hA : G.2.2.2.1.size ≤ a) : va_S (AA G) s.heap H1 (locs ++ [⟨a, j⟩]) := hS.put z oq hA
theorem ad_AA {G : GW} {k : Nat} (h : 5 ≤ k) : G.2.2.2.1.size ≤ ad G k := by rw [ad_ge h]; omega
theorem fvl_ne_up {G : GW} {h : PH} {k j tc j' k' : Nat} {v : Int32} (hne : k' ≠ k ∨ j' ≠ j) : fvl G (sI h k j v) k' tc j' = fvl G h k' tc j' := by
  have e : hI (sI h k j v) k' j' = hI h k' j' := by
    show up2 (hI h) k j v k' j' = _
    unfold up2
    rw [if_neg (by intro q; rcases hne with z | z; exact z q.1; exact z q.2)]
  unfold fvl
  split
  · rfl
  · rfl
  · rw [e]
theorem fvl_ne_upL {G : GW} {h : PH} {k j tc j' k' : Nat} {v : Int64} (hne : k' ≠ k ∨ j' ≠ j) : fvl G (sL h k j v) k' tc j' = fvl G h k' tc j' := by
  have e : hL (sL h k j v) k' j' = hL h k' j' := by
    show up2 (hL h) k j v k' j' = _
    unfold up2
    rw [if_neg (by intro q; rcases hne with z | z; exact z q.1; exact z q.2)]
  unfold fvl
  split
  · rw [e]
  · rfl
  · rfl
theorem fvl_ne_upR {G : GW} {h : PH} {k j tc j' k' : Nat} {v : Nat} (hne : k' ≠ k ∨ j' ≠ j) : fvl G (sR h k j v) k' tc j' = fvl G h k' tc j' := by
  have e : hR (sR h k j v) k' j' = hR h k' j' := by
    show up2 (hR h) k j v k' j' = _
    unfold up2
    rw [if_neg (by intro q; rcases hne with z | z; exact z q.1; exact z q.2)]
  unfold fvl
  split
  · rfl
  · rw [e]
  · rfl
theorem enA_cg {G : GW} {h h' : PH} {k t : Nat} (e1 : hN h' k = hN h k) (e2 : hI h' k = hI h k) (e3 : hL h' k = hL h k) (e4 : hR h' k = hR h k) : enA G h' k t = enA G h k t := by
  unfold enA
  rw [e1, e2, e3, e4]
theorem enO_cg {G : GW} {h h' : PH} {k t : Nat} (e2 : hI h' k = hI h k) (e3 : hL h' k = hL h k) (e4 : hR h' k = hR h k) : enO G h' k t = enO G h k t := by
  unfold enO fvl
  rw [e2, e3, e4]
theorem enT_cg {G : GW} {h h' : PH} {k : Nat} (e0 : h'.1 k = h.1 k) (e2 : hI h' k = hI h k) (e3 : hL h' k = hL h k) (e4 : hR h' k = hR h k) : enT G h' k = enT G h k := by
  unfold enT
  rw [show hT h' k = hT h k by unfold hT; rw [e0], enO_cg e2 e3 e4, enA_cg (by unfold hN; rw [e0]) e2 e3 e4]
theorem up2_ne {α : Type} {f : Nat → Nat → α} {k j k' : Nat} {v : α} (h : k' ≠ k) : up2 f k j v k' = f k' := by
  funext j'
  unfold up2
  rw [if_neg (fun q => h q.1)]
theorem up2_self {α : Type} {f : Nat → Nat → α} {k j : Nat} {v : α} : up2 f k j v k = fun j' => if j' = j then v else f k j' := by
  funext j'
  unfold up2
  by_cases e : j' = j <;> simp [e]
section S9
variable {G : GW} {mi : MI} {mc ms : Nat} {p : Program} {l : Launch} {e : Env} {s : State} {m : MethodId} {args : Array Value} {below : List Frame} {meth : Method} {c : Code} {Q : State → Prop} {pc : Nat} {pl : PL} {h : PH} {ca sl : Nat}
theorem gq_getf (hx : p.tables.exec = Jvm.exec) (hb : c.code = mi.2.1) (hts : ∀ w ∈ tbG, w.before args s = true) (ho : s.vm.findClass mi.1.cls = some m.cls) (hV : VRl G s) {k ea ec index : Nat} {C : String} {T : u_T} {N : Nat} {st : List Value} (hc : v_cl[ec]? = some (C, T, N)) (hlen : (ftl ec).length = N) (h11 : ec < 11) (hea : ea < N) (hTC : (T ea).1 = C) (htag : hT h k = ec) {v : Value} (hv : tv G v = fvl G h k ((ftl ec)[ea]?.getD 0) ea) (hl : (Jvm.Cond.fieldLink mi.1.cls index C (T ea).2.1 (T ea).2.2.1).before args s = true ∨ (Jvm.Cond.fieldLinkNest mi.1.cls index C (T ea).2.1 (T ea).2.2.1 "FieldTower").before args s = true) (hd : decode mi.2.1 pc = .ok (.getfield index, 3)) (kk : GLp G mi mc ms p l e s m args below meth c Q (pc + 3) (pl) (v :: st) (h) (ca) (sl)) : GLp G mi mc ms p l e s m args below meth c Q (pc) (pl) (.ref k :: st) (h) (ca) (sl) := by
  intro H locs ls h1 h2 h3
  obtain ⟨k5, kE⟩ := tag_in h1.1 htag (by omega) (by omega)
  have g := kk H locs ls h1 h2 h3
  rw [List.map_cons, hv] at g
  rw [List.map_cons, tv_ref (by omega)]
  have he := wsH_at (G := G) k5 kE
  rw [enT_o htag (by omega)] at he
  rcases hl with hl | hl
  · exact va_get hx hb hts (cl_ok hc).1 ho hV.1 h1.2.2.2.2 (k - 5) he hc ea hea hl (fun x hx => by rw [hTC] at hx; exact hx) (enO_at (by rw [hlen]; exact hea)) hd g
  · exact va_getN hx hb hts (cl_ok hc).1 ho hV.1 h1.2.2.2.2 (k - 5) he hc ea hea hl (fun x hx => by rw [hTC] at hx; exact hx) (enO_at (by rw [hlen]; exact hea)) hd g
/-- a field is written: the machine's side -/
theorem gq_putW (hx : p.tables.exec = Jvm.exec) (hb : c.code = mi.2.1) (hts : ∀ w ∈ tbG, w.before args s = true) (ho : s.vm.findClass mi.1.cls = some m.cls) (hV : VRl G s) {k ea ec index : Nat} {C : String} {T : u_T} {N : Nat} (hc : v_cl[ec]? = some (C, T, N)) (hlen : (ftl ec).length = N) (h11 : ec < 11) (hea : ea < N) (hTC : (T ea).1 = C) (htag : hT h k = ec) {H : Heap} {locs : List Loc} {ls : Array Slot} {v : Value} {rest : List Value} (h1 : HRl G h H) (h2 : va_S (AA G) s.heap H locs) {ty : FieldType} (hdc : parseFieldDescriptor (T ea).2.2.1 = some ty) (hn : narrow ty v = v) (hfit : fits ty v = true)
    (hl : (Jvm.Cond.fieldLink mi.1.cls index C (T ea).2.1 (T ea).2.2.1).before args s = true) (hfin : (T ea).2.2.2 = false ∨ ((T ea).2.2.2 = true ∧ meth.name = "<init>" ∧ C = mi.1.cls)) (hd : decode mi.2.1 pc = .ok (.putfield index, 3))
    (kk : ∀ (H1 : Heap) (locs1 : List Loc), va_at G.1 v_cl (ad G k, .inr (ec, ((List.range (ftl ec).length).map (fun j => fvl G h k ((ftl ec)[j]?.getD 0) j)).set ea v)) H1 → H1.size = H.size → (∀ q : Nat, q ≠ ad G k → H1[q]? = H[q]?) → va_S (AA G) s.heap H1 locs1 → W p l e (rmU mi mc ms) s m args below meth c H1 locs1 ca sl Q (F0 m (pc + 3) ls rest)) :
    W p l e (rmU mi mc ms) s m args below meth c H locs ca sl Q (F0 m pc ls (v :: .ref (ad G k) :: rest)) := by
  obtain ⟨k5, kE⟩ := tag_in h1.1 htag (by omega) (by omega)
  have he := wsH_at (G := G) k5 kE
  rw [enT_o htag (by omega)] at he
  obtain ⟨hin, ty0, hty, hnm⟩ := cl_ok hc
  have hsame : ∀ x, s.fieldFound? (T ea).1 (T ea).2.1 (T ea).2.2.1 = some x → s.fieldFound? C (T ea).2.1 (T ea).2.2.1 = some x := fun x hx => by rw [hTC] at hx; exact hx
  have hP := h1.2.2.2.2
  have hK := hV.1
  have hap := va_apart (own := mi.1.cls) hts hin ty0 hty hnm hK hc
  obtain ⟨r, g1, cell, q1, q2, q3, q4⟩ := hP (k - 5) _ he
  have hr : r = (C, T, N) := Option.some.inj (g1.symm.trans hc)
  subst hr
  obtain ⟨hS, hfc, kC, hkC, hkind⟩ := hK.1 ec _ hc
  obtain ⟨cf, kf, fi, f, hi, hsl⟩ := hS ea hea
  have hlay := hts _ (hin _ (u_in_lay hea))
  have hst := (u_facts hfc hkC (u_lays hts hin hea) hi).1
  have hll : ea < ((List.range (ftl ec).length).map (fun j => fvl G h k ((ftl ec)[j]?.getD 0) j)).length := by simp [hlen]; exact hea
  have done : ∀ (H' : Heap), H'[ad G k]? = some (cell.setSlot f.slot v) → H'.size = H.size → (∀ q : Nat, q ≠ ad G k → H'[q]? = H[q]?) → W p l e (rmU mi mc ms) s m args below meth c H' (locs ++ [⟨ad G k, f.slot⟩]) ca sl Q (F0 m (pc + 3) ls rest) := fun H' e1 e2 e3 => by
    rw [hsl] at e1
    exact kk H' _ ⟨_, hc, t_OB.to (V := updV (vp_V _) ea v) ⟨_, e1, q2, q3, t_set q4 hap hea v⟩ (fun j _ => vp_updV_set hll v j)⟩ e2 e3 (va_S_of h2 e2 e3 (ad_AA k5))
  unfold u_lay at hlay
  rcases hfin with hfin | ⟨hfin, hin2, hdecl⟩
  · rw [if_neg (by rw [hfin]; decide)] at hlay
    have h6 := u_store hfc hkC hkind hlay hi hdc hn hfit
    exact W.putK hx hb (f := f) ⟨ho, hl, ⟨_, _, _, hsame _ hi⟩, hst⟩ (by rw [q2]; exact h6) q1 q3 (by rw [hsl]; exact k2_hasslot (q4 ea hea)) rfl rfl hd done
  · rw [if_pos hfin] at hlay
    have hcf : m.cls = cf := by
      obtain ⟨_, _, c', _, _, _, -, -, hf', -, -, -, hown2, -⟩ := Cond.laysFinal_spec hlay
      have e1 : c' = cf := by have := hi.symm.trans hf'; simp at this; exact this.1.symm
      rw [hTC, hdecl] at hown2
      rw [← e1]; exact Option.some.inj (ho.symm.trans hown2)
    have h6 := u_fits hfc hkC hkind (Or.inr hlay) hi hdc hn hfit
    exact W.putFinK hx hb ho hl (hsame _ hi) hst hcf hin2 (by rw [q2]; exact h6) q1 q3 (by rw [hsl]; exact k2_hasslot (q4 ea hea)) rfl rfl hd done
theorem gq_putI (hx : p.tables.exec = Jvm.exec) (hb : c.code = mi.2.1) (hts : ∀ w ∈ tbG, w.before args s = true) (ho : s.vm.findClass mi.1.cls = some m.cls) (hV : VRl G s) {k ea ec index : Nat} {C : String} {T : u_T} {N : Nat} {st : List Value} (hc : v_cl[ec]? = some (C, T, N)) (hlen : (ftl ec).length = N) (h11 : ec < 11) (hea : ea < N) (hTC : (T ea).1 = C) (htag : hT h k = ec) {v : Int32} (hcode : (ftl ec)[ea]? = some 0) (hdc : parseFieldDescriptor (T ea).2.2.1 = some .int) (hl : (Jvm.Cond.fieldLink mi.1.cls index C (T ea).2.1 (T ea).2.2.1).before args s = true) (hfin : (T ea).2.2.2 = false ∨ ((T ea).2.2.2 = true ∧ meth.name = "<init>" ∧ C = mi.1.cls)) (hd : decode mi.2.1 pc = .ok (.putfield index, 3)) (kk : GLp G mi mc ms p l e s m args below meth c Q (pc + 3) (pl) (st) (sI h k ea v) (ca) (sl)) : GLp G mi mc ms p l e s m args below meth c Q (pc) (pl) (.int v :: .ref k :: st) (h) (ca) (sl) := by
  intro H locs ls h1 h2 h3
  obtain ⟨k5, kE⟩ := tag_in h1.1 htag (by omega) (by omega)
  rw [List.map_cons, List.map_cons, tv_ref (by omega)]
  refine gq_putW (v := .int v) hx hb hts ho hV hc hlen h11 hea hTC htag h1 h2 hdc (rfl) (rfl) hl hfin hd (fun H1 locs1 hat z oq hS => ?_)
  refine kk H1 locs1 ls (HRl.upd (h' := sI h k ea v) h1 k5 kE rfl rfl ?_ ?_ ?_ z oq) hS h3
  · intro j hj
    exact up2_ne (by omega)
  · intro j hj hjk
    exact enT_cg rfl (up2_ne hjk) rfl rfl
  · rw [enT_o (G := G) (h := sI h k ea v) (k := k) (c := ec) htag (by omega)]
    have e9 : enO G (sI h k ea v) k ec = .inr (ec, ((List.range (ftl ec).length).map (fun j => fvl G h k ((ftl ec)[j]?.getD 0) j)).set ea (.int v)) := by
      unfold enO
      congr 2
      apply List.ext_getElem?
      intro i
      by_cases hi : i < (ftl ec).length
      · rw [enO_at hi]
        by_cases hie : i = ea
        · subst hie
          rw [List.getElem?_set_self (by simp; exact hi), hcode]
          show some (Value.int (up2 _ k i v k i)) = _
          unfold up2
          rw [if_pos ⟨rfl, rfl⟩]
        · rw [List.getElem?_set_ne (Ne.symm hie), enO_at hi, fvl_ne_up (Or.inr hie)]
      · rw [List.getElem?_eq_none (by simp; omega), List.getElem?_eq_none (by simp; omega)]
    rw [e9]
    exact hat
theorem gq_putZ (hx : p.tables.exec = Jvm.exec) (hb : c.code = mi.2.1) (hts : ∀ w ∈ tbG, w.before args s = true) (ho : s.vm.findClass mi.1.cls = some m.cls) (hV : VRl G s) {k ea ec index : Nat} {C : String} {T : u_T} {N : Nat} {st : List Value} (hc : v_cl[ec]? = some (C, T, N)) (hlen : (ftl ec).length = N) (h11 : ec < 11) (hea : ea < N) (hTC : (T ea).1 = C) (htag : hT h k = ec) {v : Int32} (hz : v = 0 ∨ v = 1) (hcode : (ftl ec)[ea]? = some 3) (hdc : parseFieldDescriptor (T ea).2.2.1 = some .boolean) (hl : (Jvm.Cond.fieldLink mi.1.cls index C (T ea).2.1 (T ea).2.2.1).before args s = true) (hfin : (T ea).2.2.2 = false ∨ ((T ea).2.2.2 = true ∧ meth.name = "<init>" ∧ C = mi.1.cls)) (hd : decode mi.2.1 pc = .ok (.putfield index, 3)) (kk : GLp G mi mc ms p l e s m args below meth c Q (pc + 3) (pl) (st) (sI h k ea v) (ca) (sl)) : GLp G mi mc ms p l e s m args below meth c Q (pc) (pl) (.int v :: .ref k :: st) (h) (ca) (sl) := by
  intro H locs ls h1 h2 h3
  obtain ⟨k5, kE⟩ := tag_in h1.1 htag (by omega) (by omega)
  rw [List.map_cons, List.map_cons, tv_ref (by omega)]
  refine gq_putW (v := .int v) hx hb hts ho hV hc hlen h11 hea hTC htag h1 h2 hdc (by rcases hz with rfl | rfl <;> rfl) (by rcases hz with rfl | rfl <;> rfl) hl hfin hd (fun H1 locs1 hat z oq hS => ?_)
  refine kk H1 locs1 ls (HRl.upd (h' := sI h k ea v) h1 k5 kE rfl rfl ?_ ?_ ?_ z oq) hS h3
  · intro j hj
    exact up2_ne (by omega)
  · intro j hj hjk
    exact enT_cg rfl (up2_ne hjk) rfl rfl
  · rw [enT_o (G := G) (h := sI h k ea v) (k := k) (c := ec) htag (by omega)]
    have e9 : enO G (sI h k ea v) k ec = .inr (ec, ((List.range (ftl ec).length).map (fun j => fvl G h k ((ftl ec)[j]?.getD 0) j)).set ea (.int v)) := by
      unfold enO
      congr 2
      apply List.ext_getElem?
      intro i
      by_cases hi : i < (ftl ec).length
      · rw [enO_at hi]
        by_cases hie : i = ea
        · subst hie
          rw [List.getElem?_set_self (by simp; exact hi), hcode]
          show some (Value.int (up2 _ k i v k i)) = _
          unfold up2
          rw [if_pos ⟨rfl, rfl⟩]
        · rw [List.getElem?_set_ne (Ne.symm hie), enO_at hi, fvl_ne_up (Or.inr hie)]
      · rw [List.getElem?_eq_none (by simp; omega), List.getElem?_eq_none (by simp; omega)]
    rw [e9]
    exact hat
theorem gq_putL (hx : p.tables.exec = Jvm.exec) (hb : c.code = mi.2.1) (hts : ∀ w ∈ tbG, w.before args s = true) (ho : s.vm.findClass mi.1.cls = some m.cls) (hV : VRl G s) {k ea ec index : Nat} {C : String} {T : u_T} {N : Nat} {st : List Value} (hc : v_cl[ec]? = some (C, T, N)) (hlen : (ftl ec).length = N) (h11 : ec < 11) (hea : ea < N) (hTC : (T ea).1 = C) (htag : hT h k = ec) {v : Int64} (hcode : (ftl ec)[ea]? = some 1) (hdc : parseFieldDescriptor (T ea).2.2.1 = some .long) (hl : (Jvm.Cond.fieldLink mi.1.cls index C (T ea).2.1 (T ea).2.2.1).before args s = true) (hfin : (T ea).2.2.2 = false ∨ ((T ea).2.2.2 = true ∧ meth.name = "<init>" ∧ C = mi.1.cls)) (hd : decode mi.2.1 pc = .ok (.putfield index, 3)) (kk : GLp G mi mc ms p l e s m args below meth c Q (pc + 3) (pl) (st) (sL h k ea v) (ca) (sl)) : GLp G mi mc ms p l e s m args below meth c Q (pc) (pl) (.long v :: .ref k :: st) (h) (ca) (sl) := by
  intro H locs ls h1 h2 h3
  obtain ⟨k5, kE⟩ := tag_in h1.1 htag (by omega) (by omega)
  rw [List.map_cons, List.map_cons, tv_ref (by omega)]
  refine gq_putW (v := .long v) hx hb hts ho hV hc hlen h11 hea hTC htag h1 h2 hdc (rfl) (rfl) hl hfin hd (fun H1 locs1 hat z oq hS => ?_)
  refine kk H1 locs1 ls (HRl.upd (h' := sL h k ea v) h1 k5 kE rfl rfl ?_ ?_ ?_ z oq) hS h3
  · intro j hj
    rfl
  · intro j hj hjk
    exact enT_cg rfl rfl (up2_ne hjk) rfl
  · rw [enT_o (G := G) (h := sL h k ea v) (k := k) (c := ec) htag (by omega)]
    have e9 : enO G (sL h k ea v) k ec = .inr (ec, ((List.range (ftl ec).length).map (fun j => fvl G h k ((ftl ec)[j]?.getD 0) j)).set ea (.long v)) := by
      unfold enO
      congr 2
      apply List.ext_getElem?
      intro i
      by_cases hi : i < (ftl ec).length
      · rw [enO_at hi]
        by_cases hie : i = ea
        · subst hie
          rw [List.getElem?_set_self (by simp; exact hi), hcode]
          show some (Value.long (up2 _ k i v k i)) = _
          unfold up2
          rw [if_pos ⟨rfl, rfl⟩]
        · rw [List.getElem?_set_ne (Ne.symm hie), enO_at hi, fvl_ne_upL (Or.inr hie)]
      · rw [List.getElem?_eq_none (by simp; omega), List.getElem?_eq_none (by simp; omega)]
    rw [e9]
    exact hat
theorem gq_putR (hx : p.tables.exec = Jvm.exec) (hb : c.code = mi.2.1) (hts : ∀ w ∈ tbG, w.before args s = true) (ho : s.vm.findClass mi.1.cls = some m.cls) (hV : VRl G s) {k ea ec index : Nat} {C : String} {T : u_T} {N : Nat} {st : List Value} (hc : v_cl[ec]? = some (C, T, N)) (hlen : (ftl ec).length = N) (h11 : ec < 11) (hea : ea < N) (hTC : (T ea).1 = C) (htag : hT h k = ec) {v : Nat} {ty : FieldType} (hcode : (ftl ec)[ea]? = some 2) (hdc : parseFieldDescriptor (T ea).2.2.1 = some ty) (hty : (∃ n, ty = .object n) ∨ ∃ t, ty = .array t) (hl : (Jvm.Cond.fieldLink mi.1.cls index C (T ea).2.1 (T ea).2.2.1).before args s = true) (hfin : (T ea).2.2.2 = false ∨ ((T ea).2.2.2 = true ∧ meth.name = "<init>" ∧ C = mi.1.cls)) (hd : decode mi.2.1 pc = .ok (.putfield index, 3)) (kk : GLp G mi mc ms p l e s m args below meth c Q (pc + 3) (pl) (st) (sR h k ea v) (ca) (sl)) : GLp G mi mc ms p l e s m args below meth c Q (pc) (pl) (.ref v :: .ref k :: st) (h) (ca) (sl) := by
  intro H locs ls h1 h2 h3
  obtain ⟨k5, kE⟩ := tag_in h1.1 htag (by omega) (by omega)
  rw [List.map_cons, List.map_cons, tv_ref (k := k) (by omega)]
  refine gq_putW (v := tv G (.ref v)) hx hb hts ho hV hc hlen h11 hea hTC htag h1 h2 hdc ?_ ?_ hl hfin hd (fun H1 locs1 hat z oq hS => ?_)
  · show narrow ty (va_rf (rfq G v)) = va_rf (rfq G v)
    unfold rfq
    rcases hty with ⟨n, rfl⟩ | ⟨t, rfl⟩ <;> split <;> rfl
  · show fits ty (va_rf (rfq G v)) = true
    unfold rfq
    rcases hty with ⟨n, rfl⟩ | ⟨t, rfl⟩ <;> split <;> rfl
  refine kk H1 locs1 ls (HRl.upd (h' := sR h k ea v) h1 k5 kE rfl rfl ?_ ?_ ?_ z oq) hS h3
  · intro j hj
    rfl
  · intro j hj hjk
    exact enT_cg rfl rfl rfl (up2_ne hjk)
  · rw [enT_o (G := G) (h := sR h k ea v) (k := k) (c := ec) htag (by omega)]
    have e9 : enO G (sR h k ea v) k ec = .inr (ec, ((List.range (ftl ec).length).map (fun j => fvl G h k ((ftl ec)[j]?.getD 0) j)).set ea (tv G (.ref v))) := by
      unfold enO
      congr 2
      apply List.ext_getElem?
      intro i
      by_cases hi : i < (ftl ec).length
      · rw [enO_at hi]
        by_cases hie : i = ea
        · subst hie
          rw [List.getElem?_set_self (by simp; exact hi), hcode]
          show some (va_rf (rfq G (up2 _ k i v k i))) = _
          unfold up2
          rw [if_pos ⟨rfl, rfl⟩]
          rfl
        · rw [List.getElem?_set_ne (Ne.symm hie), enO_at hi, fvl_ne_upR (Or.inr hie)]
      · rw [List.getElem?_eq_none (by simp; omega), List.getElem?_eq_none (by simp; omega)]
    rw [e9]
    exact hat
end S9
