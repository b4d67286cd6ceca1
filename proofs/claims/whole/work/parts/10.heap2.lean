/-! SOUNDNESS: arrays -/
theorem inB_in {h : PH} {k t : Nat} {i : Int32} (hi : inB h k t i) : vp_in i (hN h k) := vq_in hi.2.1 hi.2.2
section S10
variable {G : GW} {mi : MI} {mc ms : Nat} {p : Program} {l : Launch} {e : Env} {s : State} {m : MethodId} {args : Array Value} {below : List Frame} {meth : Method} {c : Code} {Q : State → Prop} {pc : Nat} {pl : PL} {h : PH} {ca sl : Nat}
theorem ext_T (hV : VRl G s) (hB : G.2.2.2.1.size ≤ s.heap.size) (hB2 : ∀ q, q < G.2.2.2.1.size → s.heap[q]? = G.2.2.2.1[q]?) {k : Nat} (h1 : 1 ≤ k) (h5 : k < 5) : va_T .int (G.2.2.1 k) (G.2.2.2.2 k).1 (fun j => .int ((G.2.2.2.2 k).2 j)) (AA G) s s.heap :=
  (hV.2.1 k h1 h5).kept (fun a ha _ => hB2 a ha)
theorem gq_iald (hx : p.tables.exec = Jvm.exec) (hb : c.code = mi.2.1) (hV : VRl G s) (hB : G.2.2.2.1.size ≤ s.heap.size) (hB2 : ∀ q, q < G.2.2.2.1.size → s.heap[q]? = G.2.2.2.1[q]?) {k : Nat} {i : Int32} {st : List Value} (hi : inB h k 20 i) (hd : decode mi.2.1 pc = .ok (.iaload, 1)) (kk : GLp G mi mc ms p l e s m args below meth c Q (pc + 1) (pl) (.int (hI h k i.toNatClampNeg) :: st) (h) (ca) (sl)) : GLp G mi mc ms p l e s m args below meth c Q (pc) (pl) (.int i :: .ref k :: st) (h) (ca) (sl) := by
  intro H locs ls h1 h2 h3
  obtain ⟨k1, kE⟩ := tag_in20 h1.1 hi.1
  have g := kk H locs ls h1 h2 h3
  rw [List.map_cons, List.map_cons, tv_ref k1]
  by_cases h5 : k < 5
  · obtain ⟨e1, e2⟩ := h1.2.1 k k1 h5
    rw [ad_lt h5]
    exact va_ti hx hb (ext_T hV hB hB2 k1 h5) h2 (by rw [← e1]; exact inB_in hi) (by rw [← e2]; rfl) hd g
  · have he := wsH_at (G := G) (by omega) kE
    rw [enT_a hi.1 (by omega)] at he
    exact va_iald hx hb hV.1 h1.2.2.2.2 (k - 5) 0 he rfl (inB_in hi) hd g
theorem gq_bald (hx : p.tables.exec = Jvm.exec) (hb : c.code = mi.2.1) (hV : VRl G s) {k : Nat} {i : Int32} {st : List Value} (hi : inB h k 21 i ∨ inB h k 22 i) (hd : decode mi.2.1 pc = .ok (.baload, 1)) (kk : GLp G mi mc ms p l e s m args below meth c Q (pc + 1) (pl) (.int (hI h k i.toNatClampNeg) :: st) (h) (ca) (sl)) : GLp G mi mc ms p l e s m args below meth c Q (pc) (pl) (.int i :: .ref k :: st) (h) (ca) (sl) := by
  intro H locs ls h1 h2 h3
  have g := kk H locs ls h1 h2 h3
  rcases hi with hi | hi
  · obtain ⟨k5, kE⟩ := tag_in h1.1 hi.1 (by omega) (by omega)
    rw [List.map_cons, List.map_cons, tv_ref (by omega)]
    have he := wsH_at (G := G) k5 kE
    rw [enT_a hi.1 (by omega)] at he
    exact va_bald hx hb hV.1 h1.2.2.2.2 (k - 5) 1 he rfl (inB_in hi) hd g
  · obtain ⟨k5, kE⟩ := tag_in h1.1 hi.1 (by omega) (by omega)
    rw [List.map_cons, List.map_cons, tv_ref (by omega)]
    have he := wsH_at (G := G) k5 kE
    rw [enT_a hi.1 (by omega)] at he
    exact va_zald hx hb hV.1 h1.2.2.2.2 (k - 5) 2 he rfl (inB_in hi) hd g
theorem gq_lald (hx : p.tables.exec = Jvm.exec) (hb : c.code = mi.2.1) (hV : VRl G s) {k : Nat} {i : Int32} {st : List Value} (hi : inB h k 23 i) (hd : decode mi.2.1 pc = .ok (.laload, 1)) (kk : GLp G mi mc ms p l e s m args below meth c Q (pc + 1) (pl) (.long (hL h k i.toNatClampNeg) :: st) (h) (ca) (sl)) : GLp G mi mc ms p l e s m args below meth c Q (pc) (pl) (.int i :: .ref k :: st) (h) (ca) (sl) := by
  intro H locs ls h1 h2 h3
  have g := kk H locs ls h1 h2 h3
  obtain ⟨k5, kE⟩ := tag_in h1.1 hi.1 (by omega) (by omega)
  rw [List.map_cons, List.map_cons, tv_ref (by omega)]
  have he := wsH_at (G := G) k5 kE
  rw [enT_a hi.1 (by omega)] at he
  exact va_lald hx hb hV.1 h1.2.2.2.2 (k - 5) 3 he rfl (inB_in hi) hd g
theorem gq_aald (hx : p.tables.exec = Jvm.exec) (hb : c.code = mi.2.1) (hV : VRl G s) {k : Nat} {i : Int32} {st : List Value} (hi : inB h k 24 i ∨ inB h k 25 i ∨ inB h k 26 i ∨ inB h k 27 i) (hd : decode mi.2.1 pc = .ok (.aaload, 1)) (kk : GLp G mi mc ms p l e s m args below meth c Q (pc + 1) (pl) (.ref (hR h k i.toNatClampNeg) :: st) (h) (ca) (sl)) : GLp G mi mc ms p l e s m args below meth c Q (pc) (pl) (.int i :: .ref k :: st) (h) (ca) (sl) := by
  intro H locs ls h1 h2 h3
  have g := kk H locs ls h1 h2 h3
  have gen : ∀ t : Nat, 24 ≤ t → t ≤ 27 → inB h k t i → (∃ ty, (tyL G)[t - 20]? = some (G.2.1 t, ty) ∧ ((∃ n, ty = .object n) ∨ ∃ u, ty = .array u)) → W p l e (rmU mi mc ms) s m args below meth c H locs ca sl Q (F0 m pc ls (List.map (tv G) (.int i :: .ref k :: st))) := by
    rintro t t1 t2 hi ⟨ty, hty, hk⟩
    obtain ⟨k5, kE⟩ := tag_in h1.1 hi.1 (by omega) (by omega)
    rw [List.map_cons, List.map_cons, tv_ref (by omega)]
    have he := wsH_at (G := G) k5 kE
    rw [enT_a hi.1 (by omega)] at he
    have e9 : enA G h k t = .inl (G.2.1 t, hN h k, .inr (.inr (.inr (.inr (fun j => rfq G (hR h k j)))))) := by
      unfold enA
      rw [if_neg (by omega), if_pos t1]
    rw [e9] at he
    have hlt : i.toNatClampNeg < hN h k := hi.2.2
    have hin := inB_in hi
    exact W.aald (v := va_rf (rfq G (hR h k i.toNatClampNeg))) (ty := ty) hx hb (h1.2.2.2.2 (k - 5) _ he) ((hV.1.2 (t - 20) _ hty).1 (hN h k) (fun j => va_rf (rfq G (hR h k j)))) (by rcases hk with ⟨n, rfl⟩ | ⟨u, rfl⟩ <;> rfl) (fun q => by cases q) (by show ¬ (i < 0 ∨ (arrV _ _ _).slots.size ≤ _); rw [arrV_size]; exact hin) (by show (arrV _ _ _).slots[_]? = _; rw [arrV_read _ _ hlt]) rfl rfl hd g
  rcases hi with hi | hi | hi | hi
  · exact gen 24 (by omega) (by omega) hi ⟨_, rfl, Or.inl ⟨_, rfl⟩⟩
  · exact gen 25 (by omega) (by omega) hi ⟨_, rfl, Or.inl ⟨_, rfl⟩⟩
  · exact gen 26 (by omega) (by omega) hi ⟨_, rfl, Or.inl ⟨_, rfl⟩⟩
  · exact gen 27 (by omega) (by omega) hi ⟨_, rfl, Or.inr ⟨_, rfl⟩⟩
theorem gq_alen (hx : p.tables.exec = Jvm.exec) (hb : c.code = mi.2.1) (hV : VRl G s) (hB : G.2.2.2.1.size ≤ s.heap.size) (hB2 : ∀ q, q < G.2.2.2.1.size → s.heap[q]? = G.2.2.2.1[q]?) {k : Nat} {st : List Value} (hk : 20 ≤ hT h k ∧ hT h k ≤ 27) (hd : decode mi.2.1 pc = .ok (.arraylength, 1)) (kk : GLp G mi mc ms p l e s m args below meth c Q (pc + 1) (pl) (.int (Int32.ofNat (hN h k)) :: st) (h) (ca) (sl)) : GLp G mi mc ms p l e s m args below meth c Q (pc) (pl) (.ref k :: st) (h) (ca) (sl) := by
  intro H locs ls h1 h2 h3
  have g := kk H locs ls h1 h2 h3
  by_cases h20 : hT h k = 20 ∧ k < 5
  · obtain ⟨k1, kE⟩ := tag_in20 h1.1 h20.1
    obtain ⟨e1, e2⟩ := h1.2.1 k k1 h20.2
    rw [List.map_cons, tv_ref k1, ad_lt h20.2]
    exact va_tlen hx hb (ext_T hV hB hB2 k1 h20.2) h2 (by rw [← e1]) hd g
  · have k5 : 5 ≤ k ∧ k < hE h := by
      by_cases e : hT h k = 20
      · obtain ⟨k1, kE⟩ := tag_in20 h1.1 e
        exact ⟨by rcases Nat.lt_or_ge k 5 with q | q; exact absurd ⟨e, q⟩ h20; exact q, kE⟩
      · exact tag_in h1.1 rfl (by omega) e
    rw [List.map_cons, tv_ref (by omega)]
    have he := wsH_at (G := G) k5.1 k5.2
    rw [enT_a rfl hk.1] at he
    have hty : ∃ ty, (tyL G)[hT h k - 20]? = some (G.2.1 (hT h k), ty) := by
      obtain ⟨a1, a2⟩ := hk
      generalize hT h k = t at a1 a2
      rcases (show t = 20 ∨ t = 21 ∨ t = 22 ∨ t = 23 ∨ t = 24 ∨ t = 25 ∨ t = 26 ∨ t = 27 by omega) with rfl | rfl | rfl | rfl | rfl | rfl | rfl | rfl <;> exact ⟨_, rfl⟩
    obtain ⟨ty, hty⟩ := hty
    exact va_alen hx hb hV.1 h1.2.2.2.2 (k - 5) (hT h k - 20) he hty rfl hd g
theorem gq_iast (hx : p.tables.exec = Jvm.exec) (hb : c.code = mi.2.1) (hV : VRl G s) {k : Nat} {i : Int32} {x : Int32} {st : List Value} (k5 : 5 ≤ k) (hi : inB h k 20 i) (hd : decode mi.2.1 pc = .ok (.iastore, 1)) (kk : GLp G mi mc ms p l e s m args below meth c Q (pc + 1) (pl) (st) (sI h k i.toNatClampNeg x) (ca) (sl)) : GLp G mi mc ms p l e s m args below meth c Q (pc) (pl) (.int x :: .int i :: .ref k :: st) (h) (ca) (sl) := by
  intro H locs ls h1 h2 h3
  have kE : k < hE h := (tag_in20 h1.1 hi.1).2
  rw [List.map_cons, List.map_cons, List.map_cons, tv_ref (by omega)]
  have he := wsH_at (G := G) k5 kE
  rw [enT_a hi.1 (by omega)] at he
  have hin := inB_in hi
  have hP := h1.2.2.2.2
  refine W.iast hx hb (hP (k - 5) _ he) ((hV.1.2 0 _ rfl).1 (hN h k) (fun j => .int (hI h k j))) (fun q => by cases q) (by show ¬ (i < 0 ∨ (arrV _ _ _).slots.size ≤ _); rw [arrV_size]; exact hin) rfl rfl hd fun H1 e1 z oq => ?_
  refine kk H1 _ ls (HRl.upd (h' := sI h k i.toNatClampNeg x) h1 k5 kE rfl rfl (fun j hj => up2_ne (by omega)) (fun j hj hjk => enT_cg rfl (up2_ne hjk) rfl rfl) ?_ z oq) (va_S_of h2 z oq (ad_AA k5)) h3
  rw [enT_a (G := G) (h := sI h k i.toNatClampNeg x) (k := k) (t := 20) hi.1 (by omega)]
  show H1[ad G k]? = some (vp_cell (G.2.1 20) (hN h k, .inl (up2 (hI h) k i.toNatClampNeg x k)))
  rw [e1, up2_self]
  show some ((vp_cell (G.2.1 20) (hN h k, .inl (hI h k))).setSlot _ _) = _
  rw [vp_cell_i, vp_cell_i, arrV_store]
  congr 2
  funext q
  by_cases hq : q = i.toNatClampNeg
  · subst hq
    simp [updV]
  · simp [updV, hq]
theorem gq_last (hx : p.tables.exec = Jvm.exec) (hb : c.code = mi.2.1) (hV : VRl G s) {k : Nat} {i : Int32} {x : Int64} {st : List Value} (hi : inB h k 23 i) (hd : decode mi.2.1 pc = .ok (.lastore, 1)) (kk : GLp G mi mc ms p l e s m args below meth c Q (pc + 1) (pl) (st) (sL h k i.toNatClampNeg x) (ca) (sl)) : GLp G mi mc ms p l e s m args below meth c Q (pc) (pl) (.long x :: .int i :: .ref k :: st) (h) (ca) (sl) := by
  intro H locs ls h1 h2 h3
  obtain ⟨k5, kE⟩ := tag_in h1.1 hi.1 (by omega) (by omega)
  rw [List.map_cons, List.map_cons, List.map_cons, tv_ref (by omega)]
  have he := wsH_at (G := G) k5 kE
  rw [enT_a hi.1 (by omega)] at he
  have hin := inB_in hi
  have hP := h1.2.2.2.2
  refine W.last hx hb (hP (k - 5) _ he) ((hV.1.2 3 _ rfl).1 (hN h k) (fun j => .long (hL h k j))) (fun q => by cases q) (by show ¬ (i < 0 ∨ (arrV _ _ _).slots.size ≤ _); rw [arrV_size]; exact hin) rfl rfl hd fun H1 e1 z oq => ?_
  refine kk H1 _ ls (HRl.upd (h' := sL h k i.toNatClampNeg x) h1 k5 kE rfl rfl (fun j hj => rfl) (fun j hj hjk => enT_cg rfl rfl (up2_ne hjk) rfl) ?_ z oq) (va_S_of h2 z oq (ad_AA k5)) h3
  rw [enT_a (G := G) (h := sL h k i.toNatClampNeg x) (k := k) (t := 23) hi.1 (by omega)]
  show H1[ad G k]? = some (vp_cell (G.2.1 23) (hN h k, .inr (.inl (up2 (hL h) k i.toNatClampNeg x k))))
  rw [e1, up2_self]
  show some ((vp_cell (G.2.1 23) (hN h k, .inr (.inl (hL h k)))).setSlot _ _) = _
  rw [vp_cell_l, vp_cell_l, arrV_store]
  congr 2
  funext q
  by_cases hq : q = i.toNatClampNeg
  · subst hq
    simp [updV]
  · simp [updV, hq]
theorem gq_bast (hx : p.tables.exec = Jvm.exec) (hb : c.code = mi.2.1) (hV : VRl G s) {k : Nat} {i : Int32} {x : Int32} {st : List Value} (hi : inB h k 21 i ∨ inB h k 22 i) (hd : decode mi.2.1 pc = .ok (.bastore, 1)) (kk : GLp G mi mc ms p l e s m args below meth c Q (pc + 1) (pl) (st) (sI h k i.toNatClampNeg (nrB (hT h k) x)) (ca) (sl)) : GLp G mi mc ms p l e s m args below meth c Q (pc) (pl) (.int x :: .int i :: .ref k :: st) (h) (ca) (sl) := by
  intro H locs ls h1 h2 h3
  rcases hi with hi | hi
  · obtain ⟨k5, kE⟩ := tag_in h1.1 hi.1 (by omega) (by omega)
    rw [List.map_cons, List.map_cons, List.map_cons, tv_ref (by omega)]
    have he := wsH_at (G := G) k5 kE
    rw [enT_a hi.1 (by omega)] at he
    have hin := inB_in hi
    have hP := h1.2.2.2.2
    refine W.bast hx hb (hP (k - 5) _ he) ((hV.1.2 1 _ rfl).1 (hN h k) (fun j => .int (hI h k j))) (fun q => by cases q) (by show ¬ (i < 0 ∨ (arrV _ _ _).slots.size ≤ _); rw [arrV_size]; exact hin) rfl rfl hd fun H1 e1 z oq => ?_
    refine kk H1 _ ls (HRl.upd (h' := sI h k i.toNatClampNeg (nrB (hT h k) x)) h1 k5 kE rfl rfl (fun j hj => up2_ne (by omega)) (fun j hj hjk => enT_cg rfl (up2_ne hjk) rfl rfl) ?_ z oq) (va_S_of h2 z oq (ad_AA k5)) h3
    rw [enT_a (G := G) (h := sI h k i.toNatClampNeg (nrB (hT h k) x)) (k := k) (t := 21) hi.1 (by omega), hi.1]
    show H1[ad G k]? = some (vp_cell (G.2.1 21) (hN h k, .inl (up2 (hI h) k i.toNatClampNeg (nrB 21 x) k)))
    rw [e1, up2_self]
    show some ((vp_cell (G.2.1 21) (hN h k, .inl (hI h k))).setSlot _ _) = _
    rw [vp_cell_i, vp_cell_i, arrV_store]
    congr 2
    funext q
    by_cases hq : q = i.toNatClampNeg
    · subst hq
      simp [updV, nrB]
      try rfl
    · simp [updV, hq]
  · obtain ⟨k5, kE⟩ := tag_in h1.1 hi.1 (by omega) (by omega)
    rw [List.map_cons, List.map_cons, List.map_cons, tv_ref (by omega)]
    have he := wsH_at (G := G) k5 kE
    rw [enT_a hi.1 (by omega)] at he
    have hin := inB_in hi
    have hP := h1.2.2.2.2
    refine W.zast hx hb (hP (k - 5) _ he) ((hV.1.2 2 _ rfl).1 (hN h k) (fun j => .int (hI h k j))) (fun q => by cases q) (by show ¬ (i < 0 ∨ (arrV _ _ _).slots.size ≤ _); rw [arrV_size]; exact hin) rfl rfl hd fun H1 e1 z oq => ?_
    refine kk H1 _ ls (HRl.upd (h' := sI h k i.toNatClampNeg (nrB (hT h k) x)) h1 k5 kE rfl rfl (fun j hj => up2_ne (by omega)) (fun j hj hjk => enT_cg rfl (up2_ne hjk) rfl rfl) ?_ z oq) (va_S_of h2 z oq (ad_AA k5)) h3
    rw [enT_a (G := G) (h := sI h k i.toNatClampNeg (nrB (hT h k) x)) (k := k) (t := 22) hi.1 (by omega), hi.1]
    show H1[ad G k]? = some (vp_cell (G.2.1 22) (hN h k, .inl (up2 (hI h) k i.toNatClampNeg (nrB 22 x) k)))
    rw [e1, up2_self]
    show some ((vp_cell (G.2.1 22) (hN h k, .inl (hI h k))).setSlot _ _) = _
    rw [vp_cell_i, vp_cell_i, arrV_store]
    congr 2
    funext q
    by_cases hq : q = i.toNatClampNeg
    · subst hq
      simp [updV, nrB]
      try rfl
    · simp [updV, hq]
end S10
