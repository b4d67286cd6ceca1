/-! SOUNDNESS: what is made, statics, arraycopy -/
def dvl (tc : Nat) : Value := match tc with
  | 1 => .long 0
  | 2 => .null
  | _ => .int 0
theorem dv_0 : ∀ j, j < 6 → defaultValue (ft_0 j) = dvl ((ftl 0)[j]?.getD 0) := by decide +kernel
theorem ini_0 : Jvm.Cond.initialized r_0 ∈ tbG ∧ Jvm.Cond.instantiable r_0 6 ∈ tbG := by
  refine ⟨List.mem_filter.mpr ⟨?_, rfl⟩, List.mem_filter.mpr ⟨?_, rfl⟩⟩
  · exact List.mem_of_elem_eq_true (by decide +kernel)
  · exact List.mem_of_elem_eq_true (by decide +kernel)
theorem dv_1 : ∀ j, j < 3 → defaultValue (ft_1 j) = dvl ((ftl 1)[j]?.getD 0) := by decide +kernel
theorem ini_1 : Jvm.Cond.initialized r_1 ∈ tbG ∧ Jvm.Cond.instantiable r_1 3 ∈ tbG := by
  refine ⟨List.mem_filter.mpr ⟨?_, rfl⟩, List.mem_filter.mpr ⟨?_, rfl⟩⟩
  · exact List.mem_of_elem_eq_true (by decide +kernel)
  · exact List.mem_of_elem_eq_true (by decide +kernel)
theorem dv_2 : ∀ j, j < 4 → defaultValue (ft_2 j) = dvl ((ftl 2)[j]?.getD 0) := by decide +kernel
theorem ini_2 : Jvm.Cond.initialized r_2 ∈ tbG ∧ Jvm.Cond.instantiable r_2 4 ∈ tbG := by
  refine ⟨List.mem_filter.mpr ⟨?_, rfl⟩, List.mem_filter.mpr ⟨?_, rfl⟩⟩
  · exact List.mem_of_elem_eq_true (by decide +kernel)
  · exact List.mem_of_elem_eq_true (by decide +kernel)
theorem dv_3 : ∀ j, j < 5 → defaultValue (ft_3 j) = dvl ((ftl 3)[j]?.getD 0) := by decide +kernel
theorem ini_3 : Jvm.Cond.initialized r_3 ∈ tbG ∧ Jvm.Cond.instantiable r_3 5 ∈ tbG := by
  refine ⟨List.mem_filter.mpr ⟨?_, rfl⟩, List.mem_filter.mpr ⟨?_, rfl⟩⟩
  · exact List.mem_of_elem_eq_true (by decide +kernel)
  · exact List.mem_of_elem_eq_true (by decide +kernel)
theorem dv_4 : ∀ j, j < 4 → defaultValue (ft_4 j) = dvl ((ftl 4)[j]?.getD 0) := by decide +kernel
theorem ini_4 : Jvm.Cond.initialized r_4 ∈ tbG ∧ Jvm.Cond.instantiable r_4 4 ∈ tbG := by
  refine ⟨List.mem_filter.mpr ⟨?_, rfl⟩, List.mem_filter.mpr ⟨?_, rfl⟩⟩
  · exact List.mem_of_elem_eq_true (by decide +kernel)
  · exact List.mem_of_elem_eq_true (by decide +kernel)
theorem dv_5 : ∀ j, j < 7 → defaultValue (ft_5 j) = dvl ((ftl 5)[j]?.getD 0) := by decide +kernel
theorem ini_5 : Jvm.Cond.initialized r_5 ∈ tbG ∧ Jvm.Cond.instantiable r_5 7 ∈ tbG := by
  refine ⟨List.mem_filter.mpr ⟨?_, rfl⟩, List.mem_filter.mpr ⟨?_, rfl⟩⟩
  · exact List.mem_of_elem_eq_true (by decide +kernel)
  · exact List.mem_of_elem_eq_true (by decide +kernel)
theorem dv_6 : ∀ j, j < 7 → defaultValue (ft_6 j) = dvl ((ftl 6)[j]?.getD 0) := by decide +kernel
theorem ini_6 : Jvm.Cond.initialized r_6 ∈ tbG ∧ Jvm.Cond.instantiable r_6 7 ∈ tbG := by
  refine ⟨List.mem_filter.mpr ⟨?_, rfl⟩, List.mem_filter.mpr ⟨?_, rfl⟩⟩
  · exact List.mem_of_elem_eq_true (by decide +kernel)
  · exact List.mem_of_elem_eq_true (by decide +kernel)
theorem dv_7 : ∀ j, j < 3 → defaultValue (ft_7 j) = dvl ((ftl 7)[j]?.getD 0) := by decide +kernel
theorem ini_7 : Jvm.Cond.initialized r_7 ∈ tbG ∧ Jvm.Cond.instantiable r_7 3 ∈ tbG := by
  refine ⟨List.mem_filter.mpr ⟨?_, rfl⟩, List.mem_filter.mpr ⟨?_, rfl⟩⟩
  · exact List.mem_of_elem_eq_true (by decide +kernel)
  · exact List.mem_of_elem_eq_true (by decide +kernel)
theorem dv_8 : ∀ j, j < 13 → defaultValue (ft_8 j) = dvl ((ftl 8)[j]?.getD 0) := by decide +kernel
theorem ini_8 : Jvm.Cond.initialized r_8 ∈ tbG ∧ Jvm.Cond.instantiable r_8 13 ∈ tbG := by
  refine ⟨List.mem_filter.mpr ⟨?_, rfl⟩, List.mem_filter.mpr ⟨?_, rfl⟩⟩
  · exact List.mem_of_elem_eq_true (by decide +kernel)
  · exact List.mem_of_elem_eq_true (by decide +kernel)
theorem dv_9 : ∀ j, j < 12 → defaultValue (ft_9 j) = dvl ((ftl 9)[j]?.getD 0) := by decide +kernel
theorem ini_9 : Jvm.Cond.initialized r_9 ∈ tbG ∧ Jvm.Cond.instantiable r_9 12 ∈ tbG := by
  refine ⟨List.mem_filter.mpr ⟨?_, rfl⟩, List.mem_filter.mpr ⟨?_, rfl⟩⟩
  · exact List.mem_of_elem_eq_true (by decide +kernel)
  · exact List.mem_of_elem_eq_true (by decide +kernel)
theorem dv_10 : ∀ j, j < 50 → defaultValue (ft_10 j) = dvl ((ftl 10)[j]?.getD 0) := by decide +kernel
theorem ini_10 : Jvm.Cond.initialized r_10 ∈ tbG ∧ Jvm.Cond.instantiable r_10 50 ∈ tbG := by
  refine ⟨List.mem_filter.mpr ⟨?_, rfl⟩, List.mem_filter.mpr ⟨?_, rfl⟩⟩
  · exact List.mem_of_elem_eq_true (by decide +kernel)
  · exact List.mem_of_elem_eq_true (by decide +kernel)
theorem cl_ok2 {ci : Nat} {C : String} {T : u_T} {N : Nat} (h : v_cl[ci]? = some (C, T, N)) : Jvm.Cond.initialized C ∈ tbG ∧ Jvm.Cond.instantiable C N ∈ tbG ∧ ∃ ty0 : Nat → FieldType, (∀ k, k < N → parseFieldDescriptor (T k).2.2.1 = some (ty0 k)) ∧ ∀ j, j < N → defaultValue (ty0 j) = dvl ((ftl ci)[j]?.getD 0) := by
  match ci, h with
  | 0, h => cases h; exact ⟨ini_0.1, ini_0.2, ft_0, fo_0, dv_0⟩
  | 1, h => cases h; exact ⟨ini_1.1, ini_1.2, ft_1, fo_1, dv_1⟩
  | 2, h => cases h; exact ⟨ini_2.1, ini_2.2, ft_2, fo_2, dv_2⟩
  | 3, h => cases h; exact ⟨ini_3.1, ini_3.2, ft_3, fo_3, dv_3⟩
  | 4, h => cases h; exact ⟨ini_4.1, ini_4.2, ft_4, fo_4, dv_4⟩
  | 5, h => cases h; exact ⟨ini_5.1, ini_5.2, ft_5, fo_5, dv_5⟩
  | 6, h => cases h; exact ⟨ini_6.1, ini_6.2, ft_6, fo_6, dv_6⟩
  | 7, h => cases h; exact ⟨ini_7.1, ini_7.2, ft_7, fo_7, dv_7⟩
  | 8, h => cases h; exact ⟨ini_8.1, ini_8.2, ft_8, fo_8, dv_8⟩
  | 9, h => cases h; exact ⟨ini_9.1, ini_9.2, ft_9, fo_9, dv_9⟩
  | 10, h => cases h; exact ⟨ini_10.1, ini_10.2, ft_10, fo_10, dv_10⟩
  | k + 11, h => simp [v_cl] at h
theorem ac_20 : Jvm.Cond.arrayClass .int ∈ tbG := List.mem_filter.mpr ⟨List.mem_of_elem_eq_true (by decide +kernel), rfl⟩
theorem ac_21 : Jvm.Cond.arrayClass .byte ∈ tbG := List.mem_filter.mpr ⟨List.mem_of_elem_eq_true (by decide +kernel), rfl⟩
theorem ac_22 : Jvm.Cond.arrayClass .boolean ∈ tbG := List.mem_filter.mpr ⟨List.mem_of_elem_eq_true (by decide +kernel), rfl⟩
theorem ac_23 : Jvm.Cond.arrayClass .long ∈ tbG := List.mem_filter.mpr ⟨List.mem_of_elem_eq_true (by decide +kernel), rfl⟩
theorem acp_w : Jvm.Cond.native arraycopyName ∈ tbG ∧ Jvm.Cond.static arraycopyName ∈ tbG ∧ Jvm.Cond.initialized "java/lang/System" ∈ tbG := ⟨List.mem_filter.mpr ⟨List.mem_of_elem_eq_true (by decide +kernel), rfl⟩, List.mem_filter.mpr ⟨List.mem_of_elem_eq_true (by decide +kernel), rfl⟩, List.mem_filter.mpr ⟨List.mem_of_elem_eq_true (by decide +kernel), rfl⟩⟩
theorem HRl.grow {G : GW} {h h' : PH} {H H1 : Heap} (hH : HRl G h H) (e0 : hE h ≤ hE h') (e1 : ∀ j, j < hE h → h'.1 j = h.1 j ∧ hI h' j = hI h j ∧ hL h' j = hL h j ∧ hR h' j = hR h j) (e2 : ∀ j, hE h' ≤ j → hT h' j = 99)
    (z : H1.size = G.2.2.2.1.size + (hE h' - 5)) (oq : ∀ q : Nat, q < H.size → H1[q]? = H[q]?) (hat : ∀ j, hE h ≤ j → j < hE h' → va_at G.1 v_cl (ad G j, enT G h' j) H1) : HRl G h' H1 := by
  obtain ⟨⟨a1, a2, a3, a4⟩, w2, w3, w4, w5⟩ := hH
  have et : ∀ j, j < hE h → hT h' j = hT h j := fun j hj => by unfold hT; rw [(e1 j hj).1]
  refine ⟨⟨by omega, by rw [et 0 (by omega)]; exact a2, fun j a b => by rw [et j (by omega)]; exact a3 j a b, e2⟩, fun j a b => ?_, z, fun q hq => ?_, fun i x hx => ?_⟩
  · obtain ⟨b1, b2⟩ := w2 j a b
    obtain ⟨c1, c2, -⟩ := e1 j (by omega)
    exact ⟨by rw [← b1]; unfold hN; rw [c1], by rw [c2]; exact b2⟩
  · rw [oq q (by omega)]
    exact w4 q hq
  · obtain ⟨hi, rfl⟩ := wsH_of hx
    by_cases hlt : i + 5 < hE h
    · obtain ⟨c1, c2, c3, c4⟩ := e1 (i + 5) hlt
      rw [enT_cg c1 c2 c3 c4]
      have hold := w5 (i + 5 - 5) _ (wsH_at (G := G) (by omega) hlt)
      exact hold.kept (oq _ (by show ad G (i + 5) < _; rw [ad_5]; omega))
    · exact hat (i + 5) (by omega) (by omega)
theorem va_S_new {G : GW} {s : State} {H : Heap} {locs : List Loc} (hS : va_S (AA G) s.heap H locs) {H1 : Heap} (z : H.size ≤ H1.size) (oq : ∀ q : Nat, q < H.size → H1[q]? = H[q]?) : va_S (AA G) s.heap H1 locs := ⟨Nat.le_trans hS.1 z, fun x g1 g2 => (oq x (Nat.lt_of_lt_of_le g1 hS.1)).trans (hS.2.1 x g1 g2), hS.2.2⟩
theorem ad_E {G : GW} {h : PH} {H : Heap} (hH : HRl G h H) : ad G (hE h) = H.size := by
  rw [ad_ge hH.1.1, hH.2.2.1]
theorem hNew_old {h : PH} {t n j : Nat} (hj : j < hE h) : (hNew h t n).1 j = h.1 j ∧ hI (hNew h t n) j = hI h j ∧ hL (hNew h t n) j = hL h j ∧ hR (hNew h t n) j = hR h j := by
  have hne : j ≠ hE h := by omega
  refine ⟨?_, ?_, ?_, ?_⟩
  · show up1 _ _ _ _ = _; unfold up1; rw [if_neg hne]
  · show up1 _ _ _ _ = _; unfold up1; rw [if_neg hne]
  · show up1 _ _ _ _ = _; unfold up1; rw [if_neg hne]
  · show up1 _ _ _ _ = _; unfold up1; rw [if_neg hne]
theorem hNew_at {h : PH} {t n : Nat} : (hNew h t n).1 (hE h) = (t, n) ∧ hI (hNew h t n) (hE h) = (fun _ => 0) ∧ hL (hNew h t n) (hE h) = (fun _ => 0) ∧ hR (hNew h t n) (hE h) = (fun _ => 0) := by
  refine ⟨?_, ?_, ?_, ?_⟩
  · show up1 _ _ _ _ = _; unfold up1; rw [if_pos rfl]
  · show up1 _ _ _ _ = _; unfold up1; rw [if_pos rfl]
  · show up1 _ _ _ _ = _; unfold up1; rw [if_pos rfl]
  · show up1 _ _ _ _ = _; unfold up1; rw [if_pos rfl]
theorem HRl.new {G : GW} {h : PH} {H H1 : Heap} {t n : Nat} (hH : HRl G h H) (z : H1.size = H.size + 1) (oq : ∀ q : Nat, q < H.size → H1[q]? = H[q]?) (hat : va_at G.1 v_cl (H.size, enT G (hNew h t n) (hE h)) H1) : HRl G (hNew h t n) H1 := by
  have h5 := hH.1.1
  refine HRl.grow hH (h' := hNew h t n) (Nat.le_succ _) (fun j hj => hNew_old hj) (fun j hj => ?_) ?_ oq (fun j a b => ?_)
  · have hj' : hE h + 1 ≤ j := hj
    have e9 : (hNew h t n).1 j = h.1 j := by
      show up1 _ _ _ _ = _; unfold up1; rw [if_neg (by omega)]
    unfold hT
    rw [e9]
    exact hH.1.2.2.2 j (by omega)
  · show H1.size = _ + (hE h + 1 - 5)
    rw [z, hH.2.2.1]
    omega
  · have b' : j < hE h + 1 := b
    have e : j = hE h := by omega
    subst e
    rw [ad_E hH]
    exact hat
section S11
variable {G : GW} {mi : MI} {mc ms : Nat} {p : Program} {l : Launch} {e : Env} {s : State} {m : MethodId} {args : Array Value} {below : List Frame} {meth : Method} {c : Code} {Q : State → Prop} {pc : Nat} {pl : PL} {h : PH} {ca sl : Nat}
theorem gq_new (hx : p.tables.exec = Jvm.exec) (hb : c.code = mi.2.1) (hts : ∀ w ∈ tbG, w.before args s = true) (ho : s.vm.findClass mi.1.cls = some m.cls) (hV : VRl G s) {ea eb index : Nat} {C : String} {T : u_T} {st : List Value} (hc : v_cl[ea]? = some (C, T, eb)) (hlen : (ftl ea).length = eb) (h11 : ea < 11) (hl : (Jvm.Cond.classLink mi.1.cls index C).before args s = true) (hca : ca + 1 ≤ mc) (hsl : sl + eb ≤ ms) (hd : decode mi.2.1 pc = .ok (.new index, 3)) (kk : GLp G mi mc ms p l e s m args below meth c Q (pc + 3) (pl) (.ref (hE h) :: st) (hNew h ea eb) (ca + 1) (sl + eb)) : GLp G mi mc ms p l e s m args below meth c Q (pc) (pl) (st) (h) (ca) (sl) := by
  intro H locs ls h1 h2 h3
  obtain ⟨w1, w2, ty0, hty, hdv⟩ := cl_ok2 hc
  have hKn := hV.1.1 ea _ hc
  refine W.newcK hx hb ho hl (hts _ w2) (hts _ w1) rfl hd hca hsl hKn.2.1 rfl fun H1 kC hkC e1 z1 o1 => ?_
  have hn : HRl G (hNew h ea eb) H1 := by
    refine HRl.new h1 z1 o1 ?_
    obtain ⟨n1, n2, n3, n4⟩ := hNew_at (h := h) (t := ea) (n := eb)
    rw [enT_o (c := ea) (by unfold hT; rw [n1]) (by omega)]
    refine ⟨_, hc, (u_born ty0 hts (cl_ok hc).1 hKn hkC e1 hty).to (fun j hj => ?_)⟩
    rw [hdv j hj]
    have e5 : (List.map (fun j => fvl G (hNew h ea eb) (hE h) ((ftl ea)[j]?.getD 0) j) (List.range (ftl ea).length))[j]? = some (fvl G (hNew h ea eb) (hE h) ((ftl ea)[j]?.getD 0) j) := enO_at (by rw [hlen]; exact hj)
    show _ = vp_V _ j
    unfold vp_V
    rw [List.getD_eq_getElem?_getD, e5]
    show dvl _ = fvl G (hNew h ea eb) (hE h) _ j
    unfold dvl fvl
    rw [n2, n3, n4]
    generalize (ftl ea)[j]?.getD 0 = tc
    match tc with
    | 0 => rfl
    | 1 => rfl
    | 2 => rfl
    | n + 3 => rfl
  have g := kk H1 locs ls hn (va_S_new h2 (by omega) o1) h3
  rw [List.map_cons, tv_ref (by have := h1.1.1; omega), ad_E h1] at g
  exact g
theorem gq_newa (hx : p.tables.exec = Jvm.exec) (hb : c.code = mi.2.1) (hts : ∀ w ∈ tbG, w.before args s = true) (ho : s.vm.findClass mi.1.cls = some m.cls) (hV : VRl G s) {ea eb : Nat} {at_ : ArrayType} {n : Int32} {st : List Value} (hty : newarray.typeOf at_ = tagTy ea) (h20 : 20 ≤ ea) (h23 : ea ≤ 23) (hn0 : ¬ n < 0) (hn1 : n.toNatClampNeg ≤ eb) (hbd : eb ≤ 10000) (hca : ca + 1 ≤ mc) (hsl : sl + eb ≤ ms) (hd : decode mi.2.1 pc = .ok (.newarray at_, 2)) (kk : GLp G mi mc ms p l e s m args below meth c Q (pc + 2) (pl) (.ref (hE h) :: st) (hNew h ea n.toNatClampNeg) (ca + 1) (sl + eb)) : GLp G mi mc ms p l e s m args below meth c Q (pc) (pl) (.int n :: st) (h) (ca) (sl) := by
  intro H locs ls h1 h2 h3
  have facts : (Jvm.Cond.arrayClass (newarray.typeOf at_)).before args s = true ∧ n.toNatClampNeg * componentBytes (newarray.typeOf at_) ≤ 536870912 ∧ ∃ ty, (tyL G)[ea - 20]? = some (G.2.1 ea, ty) ∧ newarray.typeOf at_ = ty ∧ s.vm.findClass ("[" ++ ty.toString) = some (G.2.1 ea) ∧ (∀ N, enA G (hNew h ea N) (hE h) ea = .inl (G.2.1 ea, N, (if ea = 23 then .inr (.inl (fun _ => 0)) else .inl (fun _ => 0)))) ∧ (∀ (cA : ClassId) (N : Nat), vp_cell cA (N, (if ea = 23 then .inr (.inl (fun _ => 0)) else .inl (fun _ => 0))) = arrV cA N (fun _ => defaultValue ty)) := by
    have hen : ∀ N, enA G (hNew h ea N) (hE h) ea = .inl (G.2.1 ea, N, (if ea = 23 then .inr (.inl (fun _ => 0)) else .inl (fun _ => 0))) := fun N => by
      obtain ⟨n1, n2, n3, n4⟩ := hNew_at (h := h) (t := ea) (n := N)
      unfold enA hN
      rw [n1, n2, n3]
      congr 3
      split
      · rfl
      · rw [if_neg (by omega)]
    rw [hty]
    rcases (show ea = 20 ∨ ea = 21 ∨ ea = 22 ∨ ea = 23 by omega) with rfl | rfl | rfl | rfl
    · exact ⟨hts _ ac_20, by show _ * 4 ≤ _; omega, .int, rfl, rfl, (hV.1.2 0 _ rfl).2, hen, fun _ _ => rfl⟩
    · exact ⟨hts _ ac_21, by show _ * 1 ≤ _; omega, .byte, rfl, rfl, (hV.1.2 1 _ rfl).2, hen, fun _ _ => rfl⟩
    · exact ⟨hts _ ac_22, by show _ * 1 ≤ _; omega, .boolean, rfl, rfl, (hV.1.2 2 _ rfl).2, hen, fun _ _ => rfl⟩
    · exact ⟨hts _ ac_23, by show _ * 8 ≤ _; omega, .long, rfl, rfl, (hV.1.2 3 _ rfl).2, hen, fun _ _ => rfl⟩
  obtain ⟨f1, f2, ty, f3, f4, f5, f6, f7⟩ := facts
  refine va_newaK hx hb f1 rfl hd rfl hn0 rfl f2 hca (show sl + n.toNatClampNeg ≤ ms by omega) rfl fun H1 cA e1 z1 o1 hAr hNm => ?_
  rw [f4] at hNm e1
  have hcA : cA = G.2.1 ea := Option.some.inj (hNm.symm.trans f5)
  subst hcA
  have hn : HRl G (hNew h ea n.toNatClampNeg) H1 := by
    refine HRl.new h1 z1 o1 ?_
    rw [enT_a (t := ea) (by unfold hT; rw [hNew_at.1]) h20, f6]
    show H1[H.size]? = some (vp_cell _ _)
    rw [f7]
    exact e1
  have g := kk H1 locs ls hn (va_S_new h2 (by omega) o1) h3
  rw [List.map_cons, tv_ref (by have := h1.1.1; omega), ad_E h1] at g
  exact W.widen (k := ca + 1) (n := sl + eb) (Nat.le_refl _) (by omega) g
theorem gq_newq (hx : p.tables.exec = Jvm.exec) (hb : c.code = mi.2.1) (hts : ∀ w ∈ tbG, w.before args s = true) (ho : s.vm.findClass mi.1.cls = some m.cls) (hV : VRl G s) {ea eb index : Nat} {n : Int32} {st : List Value} (h24 : 24 ≤ ea) (h26 : ea ≤ 26) (hl : (Jvm.Cond.classLink mi.1.cls index (tagCl ea)).before args s = true) (hn0 : ¬ n < 0) (hn1 : n.toNatClampNeg ≤ eb) (hbd : eb ≤ 10000) (hca : ca + 1 ≤ mc) (hsl : sl + eb ≤ ms) (hd : decode mi.2.1 pc = .ok (.anewarray index, 3)) (kk : GLp G mi mc ms p l e s m args below meth c Q (pc + 3) (pl) (.ref (hE h) :: st) (hNew h ea n.toNatClampNeg) (ca + 1) (sl + eb)) : GLp G mi mc ms p l e s m args below meth c Q (pc) (pl) (.int n :: st) (h) (ca) (sl) := by
  intro H locs ls h1 h2 h3
  have facts : va_AO (tagCl ea) s ∧ s.vm.findClass ("[" ++ (FieldType.object (tagCl ea)).toString) = some (G.2.1 ea) := by
    rcases (show ea = 24 ∨ ea = 25 ∨ ea = 26 by omega) with rfl | rfl | rfl
    · obtain ⟨kA, comp, -, -, -, q⟩ := (hV.1.2 4 _ rfl).2
      exact ⟨hV.2.2.2.1, q⟩
    · obtain ⟨kA, comp, -, -, -, q⟩ := (hV.1.2 5 _ rfl).2
      exact ⟨hV.2.2.2.2.1, q⟩
    · obtain ⟨kA, comp, -, -, -, q⟩ := (hV.1.2 6 _ rfl).2
      exact ⟨hV.2.2.2.2.2.1, q⟩
  obtain ⟨f1, f5⟩ := facts
  refine W.anew hx hb ho hl (va_AO.use f1) rfl hd rfl hn0 (by omega) hca (show sl + n.toNatClampNeg ≤ ms by omega) fun cA kA comp k1 k2 k3 k4 => ?_
  have hcA : cA = G.2.1 ea := Option.some.inj (k1.symm.trans f5)
  subst hcA
  generalize hH1 : H.push ({ cls := G.2.1 ea, slots := Array.replicate n.toNatClampNeg .null, vm := .none } : Cell) = H1
  have z1 : H1.size = H.size + 1 := by rw [← hH1, Array.size_push]
  have e1 : H1[H.size]? = some (arrV (G.2.1 ea) n.toNatClampNeg (fun _ => .null)) := by rw [← hH1, Array.getElem?_push_size, ← arrV_new]
  have o1 : ∀ q : Nat, q < H.size → H1[q]? = H[q]? := fun q hq => by rw [← hH1, Array.getElem?_push, if_neg (Nat.ne_of_lt hq)]
  have hn : HRl G (hNew h ea n.toNatClampNeg) H1 := by
    refine HRl.new h1 z1 o1 ?_
    obtain ⟨n1, n2, n3, n4⟩ := hNew_at (h := h) (t := ea) (n := n.toNatClampNeg)
    rw [enT_a (t := ea) (by unfold hT; rw [n1]) (by omega)]
    unfold enA hN
    rw [if_neg (by omega), if_pos h24, n1, n4]
    exact e1
  have g := kk H1 locs ls hn (va_S_new h2 (by omega) o1) h3
  rw [List.map_cons, tv_ref (by have := h1.1.1; omega), ad_E h1] at g
  exact W.widen (k := ca + 1) (n := sl + eb) (Nat.le_refl _) (by omega) g
theorem gq_gets (hx : p.tables.exec = Jvm.exec) (hb : c.code = mi.2.1) (hts : ∀ w ∈ tbG, w.before args s = true) (ho : s.vm.findClass mi.1.cls = some m.cls) (hV : VRl G s) (hB : G.2.2.2.1.size ≤ s.heap.size) (hB2 : ∀ q, q < G.2.2.2.1.size → s.heap[q]? = G.2.2.2.1[q]?) {ea index : Nat} {st : List Value} (h2e : 2 ≤ ea) (h5e : ea < 5) (hl : (Jvm.Cond.fieldLink mi.1.cls index "FieldTower" (stN ea) "[I").before args s = true ∨ (Jvm.Cond.fieldLinkNest mi.1.cls index "FieldTower" (stN ea) "[I" "FieldTower").before args s = true) (hd : decode mi.2.1 pc = .ok (.getstatic index, 3)) (kk : GLp G mi mc ms p l e s m args below meth c Q (pc + 3) (pl) (.ref ea :: st) (h) (ca) (sl)) : GLp G mi mc ms p l e s m args below meth c Q (pc) (pl) (st) (h) (ca) (sl) := by
  intro H locs ls h1 h2 h3
  have g := kk H locs ls h1 h2 h3
  rw [List.map_cons, tv_ref (by omega), ad_lt h5e] at g
  have hZ := (hV.2.2.1 ea h2e h5e).kept (H1 := s.heap) (fun a ha _ => hB2 a ha)
  rcases hl with hl | hl
  · exact va_gets hx hb hZ h2 ho hl (fun x hx => hx) hd g
  · exact va_getsN hx hb hZ h2 ho hl (fun x hx => hx) hd g
theorem gq_aast (hx : p.tables.exec = Jvm.exec) (hb : c.code = mi.2.1) (hts : ∀ w ∈ tbG, w.before args s = true) (ho : s.vm.findClass mi.1.cls = some m.cls) (hV : VRl G s) {k x : Nat} {i : Int32} {st : List Value} (hi : (inB h k 24 i ∧ hT h x = 2) ∨ (inB h k 25 i ∧ hT h x = 3) ∨ (inB h k 26 i ∧ hT h x = 4)) (hd : decode mi.2.1 pc = .ok (.aastore, 1)) (kk : GLp G mi mc ms p l e s m args below meth c Q (pc + 1) (pl) (st) (sR h k i.toNatClampNeg x) (ca) (sl)) : GLp G mi mc ms p l e s m args below meth c Q (pc) (pl) (.ref x :: .int i :: .ref k :: st) (h) (ca) (sl) := by
  intro H locs ls h1 h2 h3
  have gen : ∀ (t cx : Nat) (r : vw_C), 24 ≤ t → t ≤ 27 → cx < 11 → v_cl[cx]? = some r → (tyL G)[t - 20]? = some (G.2.1 t, .object r.1) → inB h k t i → hT h x = cx → W p l e (rmU mi mc ms) s m args below meth c H locs ca sl Q (F0 m pc ls (List.map (tv G) (.ref x :: .int i :: .ref k :: st))) := by
    intro t cx r t1 t2 cx1 hc hty hi hxt
    obtain ⟨k5, kE⟩ := tag_in h1.1 hi.1 (by omega) (by omega)
    obtain ⟨x5, xE⟩ := tag_in h1.1 hxt (by omega) (by omega)
    rw [List.map_cons, List.map_cons, List.map_cons, tv_ref (k := x) (by omega), tv_ref (k := k) (by omega)]
    have he := wsH_at (G := G) k5 kE
    rw [enT_a hi.1 (by omega)] at he
    have e9 : enA G h k t = .inl (G.2.1 t, hN h k, .inr (.inr (.inr (.inr (fun j => rfq G (hR h k j)))))) := by
      unfold enA
      rw [if_neg (by omega), if_pos t1]
    rw [e9] at he
    have hv := wsH_at (G := G) x5 xE
    rw [enT_o hxt (by omega)] at hv
    have hP := h1.2.2.2.2
    obtain ⟨r', hr', cellV, g1, g2, g3, -⟩ := hP (x - 5) _ hv
    have hcls := (hV.1.1 cx r hc).2
    obtain ⟨kA, comp, k1, k2, k3, -⟩ := (hV.1.2 (t - 20) _ hty).2
    have hcomp : comp = G.1.1 cx := Option.some.inj (k3.symm.trans hcls.1)
    subst hcomp
    obtain ⟨kC, hkC, -⟩ := hcls.2
    refine W.aast hx hb (hP (k - 5) _ he) (fun q h => by cases h) (fun h => by cases h) k1 k2 rfl hkC ⟨hi.2.1, by show _ < (arrV _ _ _).slots.size; rw [arrV_size]; exact hi.2.2⟩ g1 (fun q h => by rw [g3] at h; cases h) (by rw [g2]; exact hkC) (by rw [g2]; exact va_assign hcls) rfl rfl hd fun H1 e1 z oq => ?_
    refine kk H1 _ ls (HRl.upd (h' := sR h k i.toNatClampNeg x) h1 k5 kE rfl rfl (fun j hj => rfl) (fun j hj hjk => enT_cg rfl rfl rfl (up2_ne hjk)) ?_ z oq) (va_S_of h2 z oq (ad_AA k5)) h3
    rw [enT_a (G := G) (h := sR h k i.toNatClampNeg x) (k := k) (t := t) hi.1 (by omega)]
    have e8 : enA G (sR h k i.toNatClampNeg x) k t = .inl (G.2.1 t, hN h k, .inr (.inr (.inr (.inr (fun j => rfq G (up2 (hR h) k i.toNatClampNeg x k j)))))) := by
      unfold enA
      rw [if_neg (by omega), if_pos t1]
      rfl
    rw [e8]
    show H1[ad G k]? = some (vp_cell _ _)
    rw [e1, up2_self]
    rw [vp_cell_q, vp_cell_q, arrV_store]
    congr 2
    funext q
    by_cases hq : q = i.toNatClampNeg
    · subst hq
      have : rfq G x = some (ad G x) := if_neg (by omega)
      simp [updV, this, va_rf]
    · simp [updV, hq]
  rcases hi with ⟨hi, hx2⟩ | ⟨hi, hx2⟩ | ⟨hi, hx2⟩
  · exact gen 24 2 _ (by omega) (by omega) (by omega) rfl rfl hi hx2
  · exact gen 25 3 _ (by omega) (by omega) (by omega) rfl rfl hi hx2
  · exact gen 26 4 _ (by omega) (by omega) (by omega) rfl rfl hi hx2
end S11
theorem hNewM_old {h : PH} {n m j : Nat} (hj : j < hE h) : (hNewM h 27 n 20 m).1 j = h.1 j ∧ hI (hNewM h 27 n 20 m) j = hI h j ∧ hL (hNewM h 27 n 20 m) j = hL h j ∧ hR (hNewM h 27 n 20 m) j = hR h j := by
  refine ⟨?_, ?_, ?_, ?_⟩
  · show (if j = hE h then _ else if _ then _ else _) = _
    rw [if_neg (by omega), if_neg (by omega)]
  · funext i
    show (if _ then _ else _) = _
    rw [if_neg (by omega)]
  · funext i
    show (if _ then _ else _) = _
    rw [if_neg (by omega)]
  · funext i
    show (if j = hE h then _ else if _ then _ else _) = _
    rw [if_neg (by omega), if_neg (by omega)]
section S12
variable {G : GW} {mi : MI} {mc ms : Nat} {p : Program} {l : Launch} {e : Env} {s : State} {m : MethodId} {args : Array Value} {below : List Frame} {meth : Method} {c : Code} {Q : State → Prop} {pc : Nat} {pl : PL} {h : PH} {ca sl : Nat}
theorem gq_mna (hx : p.tables.exec = Jvm.exec) (hb : c.code = mi.2.1) (hts : ∀ w ∈ tbG, w.before args s = true) (ho : s.vm.findClass mi.1.cls = some m.cls) (hV : VRl G s) {eb ec index : Nat} {n k : Int32} {st : List Value} (hl : (Jvm.Cond.classLink mi.1.cls index "[[I").before args s = true) (hn0 : ¬ n < 0) (hn1 : n.toNatClampNeg = eb) (hk0 : ¬ k < 0) (hk1 : k.toNatClampNeg = ec) (hb1 : eb ≤ 1000) (hb2 : ec ≤ 1000) (hca : ca + (1 + eb) ≤ mc) (hsl : sl + (eb + eb * ec) ≤ ms) (hd : decode mi.2.1 pc = .ok (.multianewarray index 2, 4)) (kk : GLp G mi mc ms p l e s m args below meth c Q (pc + 4) (pl) (.ref (hE h) :: st) (hNewM h 27 eb 20 ec) (ca + 1 + eb) (sl + eb + eb * ec)) : GLp G mi mc ms p l e s m args below meth c Q (pc) (pl) (.int k :: .int n :: st) (h) (ca) (sl) := by
  intro H locs ls h1 h2 h3
  subst hn1
  subst hk1
  have q20 : s.vm.findClass "[I" = some (G.2.1 20) := (hV.1.2 0 _ rfl).2
  have q27 : s.vm.findClass "[[I" = some (G.2.1 27) := (hV.1.2 7 _ rfl).2
  have hover : va_AOA .int s := hV.2.2.2.2.2.2.1
  intro T hTT Xs
  obtain ⟨vm₁, cA, comp, -, fA, fC, hO, -, X', step⟩ := Xs.multianewarray2F (ty := .int) hx ho hl (va_AOA.use hover) (hts _ ac_20) (g := F0 m pc ls (.int k :: .int n :: st.map (tv G))) rfl (by rw [hb]; exact hd) rfl hn0 hk0 (by omega) (by show _ * 4 ≤ _; omega) (by omega) rfl rfl hca hsl
  have ec1 : comp = G.2.1 20 := Option.some.inj (fC.symm.trans q20)
  have ec2 : cA = G.2.1 27 := Option.some.inj (fA.symm.trans q27)
  subst ec1
  subst ec2
  generalize hF : Jvm.Free.Multi.fill (T.setVm vm₁) (G.2.1 27) (G.2.1 20) n.toNatClampNeg k.toNatClampNeg (defaultValue .int) n.toNatClampNeg = F at X' step
  have hTh : (T.setVm vm₁).heap = H := hTT
  obtain ⟨f1, f2, -, -⟩ := Jvm.Free.Multi.fill_facts (T.setVm vm₁) (G.2.1 27) (G.2.1 20) n.toNatClampNeg k.toNatClampNeg (defaultValue .int) n.toNatClampNeg
  rw [hF, hTh] at f1 f2
  have hold : ∀ x : Nat, x < H.size → F.heap[x]? = H[x]? := fun x hx => by
    have := Jvm.Free.Multi.fill_old (T.setVm vm₁) (G.2.1 27) (G.2.1 20) n.toNatClampNeg k.toNatClampNeg (defaultValue .int) (a := x) (by rw [hTh]; exact hx) n.toNatClampNeg
    rw [hF, hTh] at this
    exact this
  have hrow : ∀ j : Nat, j < n.toNatClampNeg → F.heap[H.size + 1 + j]? = some (vp_cell (G.2.1 20) (k.toNatClampNeg, .inl (fun _ => 0))) := fun j hj => by
    have := Jvm.Free.Multi.fill_inner (T.setVm vm₁) (G.2.1 27) (G.2.1 20) n.toNatClampNeg k.toNatClampNeg (defaultValue .int) n.toNatClampNeg j hj
    rw [hF, hTh] at this
    rw [this]
    show some ({ cls := _, slots := Array.replicate _ (.int 0), vm := .none } : Cell) = _
    rw [arrV_new]
    rfl
  have hout : Jvm.Free.Multi.outerC (G.2.1 27) n.toNatClampNeg H.size n.toNatClampNeg = vp_cell (G.2.1 27) (n.toNatClampNeg, .inr (.inr (.inr (.inr (fun i => if i < n.toNatClampNeg then some (H.size + 1 + i) else none))))) := by
    rw [vp_cell_q]
    exact vr_outer (G.2.1 27) n.toNatClampNeg H.size n.toNatClampNeg
  rw [hout] at f2
  have h5 := h1.1.1
  have hsz := h1.2.2.1
  have hn : HRl G (hNewM h 27 n.toNatClampNeg 20 k.toNatClampNeg) F.heap := by
    refine HRl.grow h1 (h' := hNewM h 27 n.toNatClampNeg 20 k.toNatClampNeg) (by show hE h ≤ hE h + 1 + _; omega) (fun j hj => hNewM_old hj) (fun j hj => ?_) ?_ hold (fun j a b => ?_)
    · have hj' : hE h + 1 + n.toNatClampNeg ≤ j := hj
      unfold hT
      have e9 : (hNewM h 27 n.toNatClampNeg 20 k.toNatClampNeg).1 j = h.1 j := by
        show (if j = hE h then _ else if _ then _ else _) = _
        rw [if_neg (by omega), if_neg (by omega)]
      rw [e9]
      exact h1.1.2.2.2 j (by omega)
    · show F.heap.size = _ + (hE h + 1 + n.toNatClampNeg - 5)
      rw [f1]
      omega
    · have b' : j < hE h + 1 + n.toNatClampNeg := b
      by_cases ej : j = hE h
      · subst ej
        have e9 : (hNewM h 27 n.toNatClampNeg 20 k.toNatClampNeg).1 (hE h) = (27, n.toNatClampNeg) := by
          show (if hE h = hE h then _ else _) = _
          rw [if_pos rfl]
        rw [ad_E h1, enT_a (t := 27) (by unfold hT; rw [e9]) (by omega)]
        unfold enA hN
        rw [e9, if_neg (by omega), if_pos (by omega)]
        show F.heap[H.size]? = some (vp_cell _ _)
        rw [f2]
        congr 7
        funext i
        show _ = rfq G (if hE h = hE h then _ else _)
        rw [if_pos rfl]
        by_cases hi : i < n.toNatClampNeg
        · rw [if_pos hi, if_pos hi]
          unfold rfq
          rw [if_neg (by omega), ad_ge (by omega)]
          congr 1
          omega
        · rw [if_neg hi, if_neg hi]
          rfl
      · have e9 : (hNewM h 27 n.toNatClampNeg 20 k.toNatClampNeg).1 j = (20, k.toNatClampNeg) := by
          show (if j = hE h then _ else if _ then _ else _) = _
          rw [if_neg ej, if_pos (by omega)]
        have e8 : hI (hNewM h 27 n.toNatClampNeg 20 k.toNatClampNeg) j = fun _ => 0 := by
          funext i
          show (if _ then _ else _) = _
          rw [if_pos (by omega)]
        rw [enT_a (t := 20) (by unfold hT; rw [e9]) (by omega)]
        unfold enA hN
        rw [e9, e8, if_neg (by omega), if_neg (by omega)]
        show F.heap[ad G j]? = some (vp_cell _ _)
        have := hrow (j - hE h - 1) (by omega)
        rw [ad_ge (by omega)]
        rw [show G.2.2.2.1.size + (j - 5) = H.size + 1 + (j - hE h - 1) by omega]
        exact this
  have g := kk F.heap locs ls hn (va_S_new h2 (by rw [f1]; omega) hold) h3
  rw [List.map_cons, tv_ref (by omega), ad_E h1] at g
  obtain ⟨t, a1, b1⟩ := g F rfl X'
  refine ⟨t, step t ?_, b1⟩
  have e9 : T.heap.size = H.size := by rw [hTT]
  rw [e9]
  exact a1
theorem gq_acp (hx : p.tables.exec = Jvm.exec) (hb : c.code = mi.2.1) (hts : ∀ w ∈ tbG, w.before args s = true) (ho : s.vm.findClass mi.1.cls = some m.cls) (hV : VRl G s) (hB : G.2.2.2.1.size ≤ s.heap.size) (hB2 : ∀ q, q < G.2.2.2.1.size → s.heap[q]? = G.2.2.2.1[q]?) (hml : c.maxLocals = mi.2.2.1) {k0 k1 index : Nat} {sp dp n : Int32} {st : List Value} (hct : ctg st ≤ 8) (k5 : 5 ≤ k1) (ht0 : hT h k0 = 20) (ht1 : hT h k1 = 20) (g1 : ¬ sp < 0) (g2 : ¬ dp < 0) (g3 : ¬ n < 0) (g4 : sp.toNatClampNeg + n.toNatClampNeg ≤ hN h k0) (g5 : dp.toNatClampNeg + n.toNatClampNeg ≤ hN h k1) (hl : (Jvm.Cond.methodLink mi.1.cls index arraycopyName).before args s = true) (hfr : 1 ≤ mi.2.2.2.2.2.1) (hlo : 8 + 18 ≤ mi.2.2.2.2.2.2.1) (hd : decode mi.2.1 pc = .ok (.invokestatic index, 3)) (kk : GLp G mi mc ms p l e s m args below meth c Q (pc + 3) (pl) (st) (sCp h k0 sp.toNatClampNeg k1 dp.toNatClampNeg n.toNatClampNeg) (ca) (sl)) : GLp G mi mc ms p l e s m args below meth c Q (pc) (pl) (.int n :: .int dp :: .ref k1 :: .int sp :: .ref k0 :: st) (h) (ca) (sl) := by
  intro H locs ls h1 h2 h3
  have nn : ∀ z : Int32, ¬ z < 0 → z.toInt = (z.toNatClampNeg : Int) := by
    intro z hz
    have hz0 : (0 : Int) ≤ z.toInt := by
      have := Int32.not_lt.mp hz
      simpa using Int32.le_iff_toInt_le.mp this
    show z.toInt = ((z.toInt.toNat : Nat) : Int)
    omega
  obtain ⟨k01, k0E⟩ := tag_in20 h1.1 ht0
  obtain ⟨-, k1E⟩ := tag_in20 h1.1 ht1
  have hP := h1.2.2.2.2
  have he1 := wsH_at (G := G) k5 k1E
  rw [enT_a ht1 (by omega)] at he1
  have hc1 : H[ad G k1]? = some (vp_cell (G.2.1 20) (hN h k1, .inl (hI h k1))) := hP (k1 - 5) _ he1
  have src : ∃ scr : Cell, H[ad G k0]? = some scr ∧ s.isArrayOf scr .int ∧ scr.vm ≠ .unknown ∧ hN h k0 ≤ scr.slots.size ∧ ∀ j, j < hN h k0 → scr.slots[j]? = some (.int (hI h k0 j)) := by
    by_cases q5 : k0 < 5
    · obtain ⟨cell, c1, c2, c3, c4, c5, c6, c7⟩ := ext_T hV hB hB2 k01 q5
      obtain ⟨e1, e2⟩ := h1.2.1 k0 k01 q5
      rw [ad_lt q5, e1, e2]
      refine ⟨cell, ?_, c2, c3, c4, c6⟩
      rw [h2.2.1 _ (Array.getElem?_eq_some_iff.mp c1).1 c7]
      exact c1
    · have he0 := wsH_at (G := G) (k := k0) (by omega) k0E
      rw [enT_a ht0 (by omega)] at he0
      have hc0 : H[ad G k0]? = some (vp_cell (G.2.1 20) (hN h k0, .inl (hI h k0))) := hP (k0 - 5) _ he0
      refine ⟨_, hc0, (hV.1.2 0 _ rfl).1 (hN h k0) (fun j => .int (hI h k0 j)), (fun h => by cases h), ?_, fun j hj => ?_⟩
      · show _ ≤ (arrV _ _ _).slots.size
        rw [arrV_size]
        exact Nat.le_refl _
      · show (arrV _ _ _).slots[j]? = _
        rw [arrV_read _ _ hj]
  obtain ⟨scr, s1, s2, s3, s4, s5⟩ := src
  obtain ⟨s6, kc0, hk0, cm0, hkk0⟩ := s2
  obtain ⟨-, kc1, hk1, cm1, hkk1⟩ := (hV.1.2 0 _ rfl).1 (hN h k1) (fun j => .int (hI h k1 j))
  obtain ⟨w1, w2, w3⟩ := acp_w
  have hcs : ((st.map (tv G)).map fun v => v.category).sum ≤ 8 := by
    have : ∀ l : List Value, ((l.map (tv G)).map fun v => v.category).sum = ctg l := by
      intro l
      induction l with
      | nil => rfl
      | cons v l ih =>
        rw [List.map_cons, List.map_cons, List.sum_cons, ih, tv_cat]
        cases v <;> rfl
    rw [this]
    exact hct
  rw [List.map_cons, List.map_cons, List.map_cons, List.map_cons, List.map_cons, tv_ref (k := k1) (by omega), tv_ref (k := k0) k01]
  intro T hTT X
  obtain ⟨vm', X', step⟩ := X.arraycopy hx ho hl (hts _ w1) (hts _ w2) (hts _ w3) (src := ad G k0) (dst := ad G k1) (cs := scr) (cd := vp_cell (G.2.1 20) (hN h k1, .inl (hI h k1))) (srcPos := sp) (destPos := dp) (n := n) (by rw [hTT]; exact s1) (by rw [hTT]; exact hc1)
    s6 (fun _ h => by cases h) s3 (fun h => by cases h) hk0 hk1 hkk0 hkk1 (by simp [refKind]) g1 g2 g3
    (by rw [nn sp g1, nn n g3]; omega)
    (by rw [nn dp g2, nn n g3]; show ¬ _ > ((arrV (G.2.1 20) (hN h k1) (fun j => .int (hI h k1 j))).slots.size : Int); rw [arrV_size]; omega)
    (fun vm₁ _ i hi => by
      have e : scr.slots.getD (sp.toNatClampNeg + i) .null = .int (hI h k0 (sp.toNatClampNeg + i)) := by
        rw [Array.getD_eq_getD_getElem?, s5 _ (by omega)]
        rfl
      refine ⟨?_, ?_⟩
      · rw [e]
        rfl
      · rw [e]
        exact trivial)
    (g := F0 m pc ls (.int n :: .int dp :: .ref (ad G k1) :: .int sp :: .ref (ad G k0) :: st.map (tv G))) rfl (by rw [hml]; exact h3.1) (rest := st.map (tv G)) rfl (by rw [hb]; exact hd) hfr (by show 2 * 0 + _ + (7 + 11) ≤ mi.2.2.2.2.2.2.1; omega)
  have e1 : copied scr (vp_cell (G.2.1 20) (hN h k1, .inl (hI h k1))) sp dp n = vp_cell (G.2.1 20) (hN h k1, .inl (va_cpy (hI h k0) (hI h k1) sp.toNatClampNeg dp.toNatClampNeg n.toNatClampNeg)) := va_copiedX (fun z => .int z) scr (G.2.1 20) (hI h k0) (hI h k1) s5 g4
  rw [e1] at X' step
  generalize hH1 : H.setIfInBounds (ad G k1) (vp_cell (G.2.1 20) (hN h k1, .inl (va_cpy (hI h k0) (hI h k1) sp.toNatClampNeg dp.toNatClampNeg n.toNatClampNeg))) = H1
  have hl1 : ad G k1 < H.size := (Array.getElem?_eq_some_iff.mp hc1).1
  have hheap : ((T.setVm vm').setCell (ad G k1) (vp_cell (G.2.1 20) (hN h k1, .inl (va_cpy (hI h k0) (hI h k1) sp.toNatClampNeg dp.toNatClampNeg n.toNatClampNeg)))).heap = H1 := by rw [← hH1, ← hTT]; rfl
  have oq : ∀ q : Nat, q ≠ ad G k1 → H1[q]? = H[q]? := fun q hq => by rw [← hH1]; simp [Array.getElem?_setIfInBounds, Ne.symm hq]
  have hat : H1[ad G k1]? = some (vp_cell (G.2.1 20) (hN h k1, .inl (va_cpy (hI h k0) (hI h k1) sp.toNatClampNeg dp.toNatClampNeg n.toNatClampNeg))) := by rw [← hH1]; simp [Array.getElem?_setIfInBounds, hl1]
  have z : H1.size = H.size := by rw [← hH1]; simp
  have hn : HRl G (sCp h k0 sp.toNatClampNeg k1 dp.toNatClampNeg n.toNatClampNeg) H1 := by
    refine HRl.upd (h' := sCp h k0 sp.toNatClampNeg k1 dp.toNatClampNeg n.toNatClampNeg) h1 k5 k1E rfl rfl (fun j hj => ?_) (fun j hj hjk => enT_cg rfl ?_ rfl rfl) ?_ z oq
    · funext i
      show (if j = k1 ∧ _ then _ else _) = _
      rw [if_neg (by omega)]
    · funext i
      show (if j = k1 ∧ _ then _ else _) = _
      rw [if_neg (by omega)]
    · rw [enT_a (G := G) (h := sCp h k0 sp.toNatClampNeg k1 dp.toNatClampNeg n.toNatClampNeg) (k := k1) (t := 20) ht1 (by omega)]
      show H1[ad G k1]? = some (vp_cell (G.2.1 20) (hN h k1, .inl (hI (sCp h k0 sp.toNatClampNeg k1 dp.toNatClampNeg n.toNatClampNeg) k1)))
      rw [hat]
      congr 4
      funext i
      show va_cpy _ _ _ _ _ i = (if k1 = k1 ∧ _ then _ else _)
      unfold va_cpy
      by_cases q : dp.toNatClampNeg ≤ i ∧ i < dp.toNatClampNeg + n.toNatClampNeg
      · rw [if_pos q, if_pos ⟨rfl, q⟩]
      · rw [if_neg q, if_neg (fun w => q w.2)]
  have hS1 : va_S (AA G) s.heap H1 (locs ++ ((scr.stretch sp.toNatClampNeg n.toNatClampNeg).zipIdx).map (fun q => ⟨ad G k1, dp.toNatClampNeg + q.2⟩)) := ⟨by rw [z]; exact h2.1, fun q a b => by
      rw [oq q (fun e => b (by rw [e]; exact ad_AA k5))]
      exact h2.2.1 q a b, fun q hq => by
      rcases List.mem_append.mp hq with w | w
      · exact h2.2.2 q w
      · obtain ⟨i, -, hi⟩ := List.mem_map.mp w
        rw [← hi]
        exact ad_AA k5⟩
  obtain ⟨t, a1, b1⟩ := kk H1 _ ls hn hS1 h3 _ hheap X'
  exact ⟨t, step t a1, b1⟩
end S12
