/-! SOUNDNESS: calls -/
def pshR (ret : Option FieldType) (r : Value) (rest : List Value) : List Value := match ret with
  | none => rest
  | some _ => r :: rest
theorem tbA_in {pl : Nat} {w : Jvm.Cond} (h : tbA pl w = true) : w ∈ tbG := by
  unfold tbA at h
  simp only [Bool.and_eq_true, decide_eq_true_eq] at h
  exact List.mem_filter.mpr ⟨List.mem_of_getElem? h.1, h.2⟩
theorem tbB_in {pl : Nat} {w : Jvm.Cond} (h : tbB pl w = true) : w ∈ tbN := by
  unfold tbB at h
  simp only [Bool.and_eq_true, decide_eq_true_eq] at h
  exact List.mem_filter.mpr ⟨List.mem_of_getElem? h.1, h.2⟩
theorem tbG_good {w : Jvm.Cond} (h : w ∈ tbG) : (w.onTables && w.keeps) = true ∨ ∃ ty, w = .arrayClass ty := good_of_word (List.mem_filter.mp h).2
/-- what is checked of a call -/
def CkC (mi cm : MI) (cq : List Ent × Nat × Nat) (nargs ec : Nat) (tl : List (Int32 × Nat)) (idx pl : Nat) (stat : Bool) : Prop :=
  (tbA pl (.methodLink mi.1.cls idx cm.1) = true ∨ tbB pl (.methodLinkNest mi.1.cls idx cm.1 "FieldTower") = true) ∧ Jvm.Cond.code cm.1 cm.2.1 cm.2.2.1 cm.2.2.2.1 ∈ tbG ∧ Jvm.Cond.initialized cm.1.cls ∈ tbG ∧ (cm.1.cls ≠ "java/lang/invoke/MethodHandle" ∧ cm.1.cls ≠ "java/lang/invoke/VarHandle") ∧
  (parseMethodDescriptor cm.1.desc).map (fun d => d.parameters.length) = some nargs ∧ cm.2.2.2.2.2.1 + 1 ≤ mi.2.2.2.2.2.1 ∧ 8 + (cm.2.2.1 + 11) + cm.2.2.2.2.2.2.1 ≤ mi.2.2.2.2.2.2.1 ∧ tl_c tl = (cq.2.1, cq.2.2) ∧ (ec = 0 ↔ cm.2.2.2.1 = none) ∧ (if stat then Jvm.Cond.static cm.1 ∈ tbG else Jvm.Cond.instanceMethod cm.1 ∈ tbG)
theorem ck_call_use {mi : MI} {mc ms ea nargs ec idx pl : Nat} {tl : List (Int32 × Nat)} {stat : Bool} (h : ck_call mi mc ms ea nargs ec tl idx pl stat = true) : ∃ cm cq, mis[ea]? = some cm ∧ progs[ea]? = some cq ∧ CkC mi cm cq nargs ec tl idx pl stat := by
  unfold ck_call at h
  split at h
  · rename_i cm cq hm hq
    refine ⟨cm, cq, hm, hq, ?_⟩
    simp only [Bool.and_eq_true, Bool.or_eq_true, decide_eq_true_eq, Nat.ble_eq] at h
    obtain ⟨⟨⟨⟨⟨⟨⟨⟨⟨⟨⟨⟨h1, h2⟩, h3⟩, h4⟩, h5⟩, h6⟩, h7⟩, h8⟩, h9⟩, h10⟩, h11⟩, h12⟩, h13⟩ := h
    refine ⟨h1, tbA_in h2, tbA_in h3, h4, by rw [h5, h10], h7, h8, h11, h12, ?_⟩
    cases stat
    · exact tbA_in h13
    · exact tbA_in h13
  · cases h
theorem ctg_cat {G : GW} : ∀ l : List Value, ((l.map (tv G)).map fun v => v.category).sum = ctg l := by
  intro l
  induction l with
  | nil => rfl
  | cons v l ih =>
    rw [List.map_cons, List.map_cons, List.sum_cons, ih, tv_cat]
    cases v <;> rfl
theorem PcU_blind {G : GW} {as : List Value} {h : PH} : FrameBlind (PcU G as h) := fun a U g mk q => ⟨q.1, q.2.1, VRl.same (s := U) (U := U.calling g mk a) rfl q.2.2⟩
theorem popn_eq : ∀ (n : Nat) (st acc as s : List Value), popn n st acc = some (as, s) → ∃ b, st = b ++ s ∧ as = b.reverse ++ acc ∧ b.length = n
  | 0, st, acc, as, s, h => by
    unfold popn at h
    cases h
    exact ⟨[], rfl, rfl, rfl⟩
  | n + 1, [], acc, as, s, h => by
    unfold popn at h
    cases h
  | n + 1, v :: st, acc, as, s, h => by
    unfold popn at h
    obtain ⟨b, h1, h2, h3⟩ := popn_eq n st (v :: acc) as s h
    exact ⟨v :: b, by rw [h1]; rfl, by rw [h2]; simp, by simp [h3]⟩
section S13
variable {G : GW} {mi : MI} {mc ms : Nat} {p : Program} {l : Launch} {e : Env} {s : State} {m : MethodId} {args : Array Value} {below : List Frame} {meth : Method} {c : Code} {Q : State → Prop} {pc : Nat} {pl : PL} {h : PH} {ca sl : Nat}
/-- behind a call -/
theorem gq_back (hB : G.2.2.2.1.size ≤ s.heap.size) (hB2 : ∀ q, q < G.2.2.2.1.size → s.heap[q]? = G.2.2.2.1[q]?) {H : Heap} {locs : List Loc} {ls : Array Slot} {st rest : List Value} {mc' ms' : Nat} {K : PK} {ret : Option FieldType} {a : Array Value} (h2 : va_S (AA G) s.heap H locs) (h3 : LRl G pl ls mi.2.2.1)
    (hr : va_Run p l e (rmU mi mc ms) s m args below meth c H locs ca sl mc' ms' (F0 m pc ls st) (rest.map (tv G)) (QcU G ret K a) (AA G))
    (kk : ∀ (r : Value) (h' : PH), K r h' → GLp G mi mc ms p l e s m args below meth c Q (pc + 3) pl (pshR ret r rest) h' (ca + mc') (sl + ms')) : W p l e (rmU mi mc ms) s m args below meth c H locs ca sl Q (F0 m pc ls st) := by
  intro T hTT X
  obtain ⟨v, st0, t, T', L, z1, X', hL, z2, z3, ⟨z4, r, h', hK, hv, hH⟩, go⟩ := hr T hTT X
  cases hv
  rw [z1] at z4
  have hS1 : va_S (AA G) s.heap t.heap (locs ++ L) := ⟨Nat.le_trans h2.1 z4, fun q a b => by
      have hq : q < G.2.2.2.1.size := Nat.not_le.mp b
      rw [hH.2.2.2.1 q hq, hB2 q hq], fun q hq => by
      rcases List.mem_append.mp hq with w | w
      · exact h2.2.2 q w
      · exact hL q w⟩
  have g := kk r h' hK t.heap (locs ++ L) ls hH hS1 h3 T' z2 X'
  obtain ⟨tf, a1, b1⟩ := g
  refine ⟨tf, go tf ?_, b1⟩
  cases ret with
  | none => exact a1
  | some ty => exact a1
theorem gq_callV (hx : p.tables.exec = Jvm.exec) (hb : c.code = mi.2.1) (hts : ∀ w ∈ tbG, w.before args s = true) (ho : s.vm.findClass mi.1.cls = some m.cls) (hV : VRl G s) (hB : G.2.2.2.1.size ≤ s.heap.size) (hB2 : ∀ q, q < G.2.2.2.1.size → s.heap[q]? = G.2.2.2.1[q]?) (hml : c.maxLocals = mi.2.2.1) {ea nargs ec index pl0 : Nat} {tl : List (Int32 × Nat)} {cm : MI} {cq : List Ent × Nat × Nat} (hm : mis[ea]? = some cm) (hq : progs[ea]? = some cq) (hck : CkC mi cm cq nargs ec tl index pl0 false) (hlink : Jvm.Cond.methodLink mi.1.cls index cm.1 ∈ tbG) (hsel : Jvm.Cond.selects cm.1.cls cm.1 cm.1 ∈ tbG) {k tg : Nat} {r0 : vw_C} (hc : v_cl[tg]? = some r0) (hr0 : r0.1 = cm.1.cls) (h11 : tg < 11) (htag : hT h k = tg) {b rest : List Value} (hbl : b.length = nargs) {K : PK} (hP : PMd ea (.ref k :: b.reverse) h K) (hct : ctg rest ≤ 8) (hca : ca + cq.2.1 ≤ mc) (hsl : sl + cq.2.2 ≤ ms) (hd : decode mi.2.1 pc = .ok (.invokevirtual index, 3)) (kk : ∀ (r : Value) (h' : PH), K r h' → GLp G mi mc ms p l e s m args below meth c Q (pc + 3) (pl) (pshR cm.2.2.2.1 r rest) (h') (ca + cq.2.1) (sl + cq.2.2)) : GLp G mi mc ms p l e s m args below meth c Q (pc) (pl) (b ++ .ref k :: rest) (h) (ca) (sl) := by
  obtain ⟨c1, c2, c3, c4, c5, c6, c7, c8, c9, c10⟩ := hck
  intro H locs ls h1 h2 h3
  obtain ⟨k5, kE⟩ := tag_in h1.1 htag (by omega) (by omega)
  have he := wsH_at (G := G) k5 kE
  rw [enT_o htag (by omega)] at he
  have hM := hP l G cq cm hq hm
  have hgood : GoodIn tbG (wsV mi.1.cls index cm.1.cls cm.1 (wsU cm)) := by
    intro w hw
    have hin : w ∈ tbG := by
      rcases List.mem_append.mp hw with q | q
      · simp only [List.mem_cons, List.not_mem_nil, or_false] at q
        rcases q with rfl | rfl | rfl | rfl
        · exact hlink
        · exact c10
        · exact hsel
        · exact c3
      · rcases List.mem_cons.mp q with rfl | q
        · exact c2
        · exact q
    exact ⟨hin, tbG_good hin⟩
  have cw := cwV (R := rmU mi mc ms) (rm := rmU cm cq.2.1 cq.2.2) (ws := wsU cm) nargs hts hgood rfl rfl rfl ⟨rfl, c4.1, c4.2, c5⟩ ⟨c6, c7⟩
  have hrun := va_runV (e := e) (below := below) (meth := meth) (locs := locs) (g := F0 m pc ls ((b ++ .ref k :: rest).map (tv G))) (As := (b.map (tv G)).reverse) (b := ad G k) (rest := rest.map (tv G)) ⟨hx, hb, hml, ho, hts⟩ hM cw ⟨PcU_blind, hr0 ▸ va_recv hV.1 h1.2.2.2.2 hc he, fun U hU hW => ⟨by rw [List.map_cons, tv_ref (by omega), List.map_reverse], by rw [hU]; exact h1, VRl.warm hW hV⟩⟩ rfl (by simp [hbl]) h3.1 (by simp [tv_ref (G := G) (k := k) (by omega)]) (by show 2 * 0 + _ ≤ 8; rw [ctg_cat]; omega) hd ⟨hca, hsl⟩
  exact gq_back hB hB2 h2 h3 hrun kk
theorem gq_callI (hx : p.tables.exec = Jvm.exec) (hb : c.code = mi.2.1) (hts : ∀ w ∈ tbG, w.before args s = true) (ho : s.vm.findClass mi.1.cls = some m.cls) (hV : VRl G s) (hB : G.2.2.2.1.size ≤ s.heap.size) (hB2 : ∀ q, q < G.2.2.2.1.size → s.heap[q]? = G.2.2.2.1[q]?) (hml : c.maxLocals = mi.2.2.1) {ea nargs ec index pl0 : Nat} {tl : List (Int32 × Nat)} {cm : MI} {cq : List Ent × Nat × Nat} (hm : mis[ea]? = some cm) (hq : progs[ea]? = some cq) (hck : CkC mi cm cq nargs ec tl index pl0 false) (hlink : Jvm.Cond.methodLink mi.1.cls index cm.1 ∈ tbG) (hnm : cm.1.name = "<init>") (hrn : cm.2.2.2.1 = none) {k : Nat} (hk1 : 1 ≤ k) {b rest : List Value} (hbl : b.length = nargs) {K : PK} (hP : PMd ea (.ref k :: b.reverse) h K) (hct : ctg rest ≤ 8) (hca : ca + cq.2.1 ≤ mc) (hsl : sl + cq.2.2 ≤ ms) (hd : decode mi.2.1 pc = .ok (.invokespecial index, 3)) (kk : ∀ (r : Value) (h' : PH), K r h' → GLp G mi mc ms p l e s m args below meth c Q (pc + 3) (pl) (pshR cm.2.2.2.1 r rest) (h') (ca + cq.2.1) (sl + cq.2.2)) : GLp G mi mc ms p l e s m args below meth c Q (pc) (pl) (b ++ .ref k :: rest) (h) (ca) (sl) := by
  obtain ⟨c1, c2, c3, c4, c5, c6, c7, c8, c9, c10⟩ := hck
  intro H locs ls h1 h2 h3
  have hM := hP l G cq cm hq hm
  have hgood : GoodIn tbG (wsU cm) := by
    intro w hw
    have hin : w ∈ tbG := by
      rcases List.mem_cons.mp hw with rfl | q
      · exact c2
      · exact q
    exact ⟨hin, tbG_good hin⟩
  have hws : wsU cm = Jvm.Cond.code cm.1 cm.2.1 cm.2.2.1 none :: tbG := by unfold wsU; rw [hrn]
  have cw := cwI (R := rmU mi mc ms) (rm := rmU cm cq.2.1 cq.2.2) (ws := wsU cm) nargs hts hgood hws rfl rfl (hts _ c3) (hts _ hlink) (hts _ c10) hnm ⟨c4.1, c4.2, c5⟩ ⟨c6, c7⟩
  have hrun := va_runI (e := e) (below := below) (meth := meth) (locs := locs) (g := F0 m pc ls ((b ++ .ref k :: rest).map (tv G))) (As := (b.map (tv G)).reverse) (b := ad G k) (rest := rest.map (tv G)) ⟨hx, hb, hml, ho, hts⟩ hM cw ⟨PcU_blind, fun U hU hW => ⟨by rw [List.map_cons, tv_ref hk1, List.map_reverse], by rw [hU]; exact h1, VRl.warm hW hV⟩⟩ rfl (by simp [hbl]) h3.1 (by simp [tv_ref (G := G) (k := k) hk1]) (by show 2 * 0 + _ ≤ 8; rw [ctg_cat]; omega) hd ⟨hca, hsl⟩
  exact gq_back hB hB2 h2 h3 hrun kk
theorem gq_callS (hx : p.tables.exec = Jvm.exec) (hb : c.code = mi.2.1) (hts : ∀ w ∈ tbG, w.before args s = true) (ho : s.vm.findClass mi.1.cls = some m.cls) (hV : VRl G s) (hB : G.2.2.2.1.size ≤ s.heap.size) (hB2 : ∀ q, q < G.2.2.2.1.size → s.heap[q]? = G.2.2.2.1[q]?) (hml : c.maxLocals = mi.2.2.1) {ea nargs ec index pl0 : Nat} {tl : List (Int32 × Nat)} {cm : MI} {cq : List Ent × Nat × Nat} (hm : mis[ea]? = some cm) (hq : progs[ea]? = some cq) (hck : CkC mi cm cq nargs ec tl index pl0 true) {b rest : List Value} (hbl : b.length = nargs) {K : PK} (hP : PMd ea b.reverse h K) (hct : ctg rest ≤ 8) (hca : ca + cq.2.1 ≤ mc) (hsl : sl + cq.2.2 ≤ ms) (hd : decode mi.2.1 pc = .ok (.invokestatic index, 3)) (kk : ∀ (r : Value) (h' : PH), K r h' → GLp G mi mc ms p l e s m args below meth c Q (pc + 3) (pl) (pshR cm.2.2.2.1 r rest) (h') (ca + cq.2.1) (sl + cq.2.2)) : GLp G mi mc ms p l e s m args below meth c Q (pc) (pl) (b ++ rest) (h) (ca) (sl) := by
  obtain ⟨c1, c2, c3, c4, c5, c6, c7, c8, c9, c10⟩ := hck
  intro H locs ls h1 h2 h3
  have hM := hP l G cq cm hq hm
  have hgood : GoodIn tbG (wsU cm) := by
    intro w hw
    have hin : w ∈ tbG := by
      rcases List.mem_cons.mp hw with rfl | q
      · exact c2
      · exact q
    exact ⟨hin, tbG_good hin⟩
  have hpre : PreS s H (PcU G b.reverse h) (b.map (tv G)).reverse := ⟨PcU_blind, fun U hU hW => ⟨by rw [List.map_reverse], by rw [hU]; exact h1, VRl.warm hW hV⟩⟩
  rcases c1 with c1 | c1
  · have cw := callB_of (R := rmU mi mc ms) (rm := rmU cm cq.2.1 cq.2.2) (ws := wsU cm) nargs hts hgood rfl rfl rfl (hts _ c3) (hts _ (tbA_in c1)) ⟨c4.1, c4.2, c5⟩ ⟨c6, c7⟩
    have hrun := va_runS (e := e) (below := below) (meth := meth) (locs := locs) (g := F0 m pc ls ((b ++ rest).map (tv G))) (As := (b.map (tv G)).reverse) (rest := rest.map (tv G)) ⟨hx, hb, hml, ho, hts⟩ hM ⟨cw, hts _ c10⟩ hpre rfl (by simp [hbl]) h3.1 (by simp) (by show 2 * 0 + _ ≤ 8; rw [ctg_cat]; omega) hd ⟨hca, hsl⟩
    exact gq_back hB hB2 h2 h3 hrun kk
  · have cw := va_cnB (R := rmU mi mc ms) (args := args) (rm := rmU cm cq.2.1 cq.2.2) (ws := wsU cm) nargs hts hgood rfl rfl rfl (hV.2.2.2.2.2.2.2 _ (tbB_in c1)) (hts _ c3) ⟨c4.1, c4.2, c5⟩ ⟨c6, c7⟩
    have hrun := va_runSN (e := e) (below := below) (meth := meth) (locs := locs) (g := F0 m pc ls ((b ++ rest).map (tv G))) (As := (b.map (tv G)).reverse) (rest := rest.map (tv G)) ⟨hx, hb, hml, ho, hts⟩ hM ⟨cw, hts _ c10, trivial⟩ hpre rfl (by simp [hbl]) h3.1 (by simp) (by show 2 * 0 + _ ≤ 8; rw [ctg_cat]; omega) hd ⟨hca, hsl⟩
    exact gq_back hB hB2 h2 h3 hrun kk
theorem obj_w : Jvm.Cond.instanceMethod objectInit ∈ tbG ∧ Jvm.Cond.code objectInit ⟨#[0xb1]⟩ 1 none ∈ tbG := ⟨List.mem_filter.mpr ⟨List.mem_of_elem_eq_true (by decide +kernel), rfl⟩, List.mem_filter.mpr ⟨List.mem_of_elem_eq_true (by decide +kernel), rfl⟩⟩
theorem gq_obj (hx : p.tables.exec = Jvm.exec) (hb : c.code = mi.2.1) (hts : ∀ w ∈ tbG, w.before args s = true) (ho : s.vm.findClass mi.1.cls = some m.cls) (hV : VRl G s) (hml : c.maxLocals = mi.2.2.1) {index k : Nat} {rest : List Value} (hk1 : 1 ≤ k) (hlink : Jvm.Cond.methodLink mi.1.cls index objectInit ∈ tbG) (hct : ctg rest ≤ 8) (hfr : 1 ≤ mi.2.2.2.2.2.1) (hlo : 20 ≤ mi.2.2.2.2.2.2.1) (hd : decode mi.2.1 pc = .ok (.invokespecial index, 3)) (kk : GLp G mi mc ms p l e s m args below meth c Q (pc + 3) (pl) (rest) (h) (ca) (sl)) : GLp G mi mc ms p l e s m args below meth c Q (pc) (pl) (.ref k :: rest) (h) (ca) (sl) := by
  intro H locs ls h1 h2 h3
  have g := kk H locs ls h1 h2 h3
  rw [List.map_cons, tv_ref hk1]
  exact W.objInit hx hb ho (hts _ hlink) (hts _ obj_w.1) (hts _ obj_w.2) rfl (by rw [hml]; exact h3.1) rfl hd hfr (by show 2 * 0 + _ + 12 ≤ mi.2.2.2.2.2.2.1; rw [ctg_cat]; omega) g
end S13
