/-! THE START: the law from its entry, out of the pure law -/
def lmT : List Int32 := [0, 2, 7, 11, 19, 37, 67, 131, 283, 515, 1033, 2053, 4105]
def wpT : List Int32 := [0, 2, 1, 2, 3, 6, 9, 18, 30, 56, 99, 186, 335]
def neT : List Int32 := [0, 1, 2, 3, 8, 15, 24, 49, 128, 189, 480, 1023, 1536]
/-- the heap ahead of the law: the script and three static rows -/
def h00 (L : Nat) (xs : Nat → Int32) : PH := (fun k => if k = 1 then (20, L) else if 2 ≤ k ∧ k < 5 then (20, 13) else (99, 0), fun k j => if k = 1 then xs j else if k = 2 then (lmT[j]?).getD 0 else if k = 3 then (wpT[j]?).getD 0 else if k = 4 then (neT[j]?).getD 0 else 0, fun _ _ => 0, fun _ _ => 0, 5)
def R_law : String := "FieldTowerLaw"
def lw_P (b : Addr) (xs : List Int32) (args : Array Value) (s : State) : Prop := args = #[.ref b] ∧ s.IntsAt b xs ∧ xs.length ≤ 3072 ∧ (Jvm.Cond.and given_1 narrow_1).before args s = true
def lw_Q (_ : Array Value) (s : State) (o : Outcome) (t : State) : Prop := o = .returned (some (.int 1)) ∧ Framed s o t [] 600000 7302250
def lw_Z (below : List Frame) (a : Array Value) (s : State) : State → Prop := fun t => ∃ o, t.status = .running ∧ Ended t below o ∧ lw_Q a s o t
/-- the law's own end, with 1 on the stack, nothing written that was there before, its room as the claim has it -/
theorem lw_ret {p : Program} {l : Launch} {e : Env} {s : State} {m : MethodId} {below : List Frame} {meth : Method} {c : Code} {b : Nat} (hx : p.tables.exec = Jvm.exec) (hb : c.code = code) (hr : meth.sig.returnType = ret) (hlocks : meth.locks = false) {pc : Nat} {H : Heap} {ls : Array Slot} (hdg : decode code pc = .ok (.ireturn, 1)) : W p l e room_1 s m #[Value.ref b] below meth c H [] 600000 7302250 (lw_Z below #[Value.ref b] s) (F0 m pc ls [.int 1]) := by
  intro T hT X
  obtain ⟨fs, hret, hrun, hended, hW, hframe⟩ := X.leave (v := some (.int 1)) (hlocks := hlocks) (fun h => by rw [hr] at h; cases h)
  have hmeth' : T.vm.method? m = some meth := X.method'
  refine ⟨T.setFrames fs, ?_, .returned (some (.int 1)), hrun, hended, rfl, ⟨_, rfl⟩, hW, hframe⟩
  jvm_step X.here [X.here.top, hx, hb, hdg, hmeth', hr, ret, narrow_b1]
  (try refine ⟨rfl, ?_⟩); (try refine ⟨rfl, ?_⟩)
  first | (intro acts; rw [hret _ acts rfl rfl rfl]) | rw [hret _ _ rfl rfl rfl]
  exact Steps.refl _
/-- what holds at the law's entry: the machine, the code, the tables' words (any of lw_tbl by 'hts w (by decide +kernel)'), the script of L ints xs at the cell b, what the Statement gives of the start (any of its parts by flat_of_before) -/
def lw_At (p : Program) (s : State) (m : MethodId) (meth : Method) (c : Code) (b L : Nat) (xs : Nat → Int32) : Prop :=
  p.tables.exec = Jvm.exec ∧ c.code = code ∧ meth.sig.returnType = ret ∧ c.maxLocals = 4 ∧ s.vm.findClass R_law = some m.cls ∧ (∀ w ∈ lw_tbl, w.before #[Value.ref b] s = true) ∧ va_X b L xs s s.heap ∧ b < s.heap.size ∧ meth.locks = false ∧ (Jvm.Cond.and given_1 narrow_1).before #[Value.ref b] s = true
set_option maxHeartbeats 4000000 in
theorem ext_row {args : Array Value} {s : State} {nm : String} {tl : List Int32} (A : Nat → Prop) (hA : ∀ a : Nat, a < s.heap.size → ¬ A a) (hlen : tl.length = 13)
    (h1 : (Jvm.Cond.arrayOf (.static "FieldTower" nm "[I") .int).before args s = true) (h2 : (Jvm.Cond.eq (.length (.static "FieldTower" nm "[I")) (.int 13)).before args s = true)
    (h3 : ∀ j : Nat, j < 13 → (Jvm.Cond.eq (.elem (.static "FieldTower" nm "[I") (.int (Int32.ofNat j))) (.int ((tl[j]?).getD 0))).before args s = true)
    (h4 : (Jvm.Cond.laysStatic "FieldTower" nm "[I").before args s = true) (h5 : (Jvm.Cond.initialized "FieldTower").before args s = true) :
    ∃ t : Nat, va_T .int t 13 (fun j => .int ((tl[j]?).getD 0)) A s s.heap ∧ va_Z "FieldTower" nm "[I" (.ref t) A s s.heap := by
  obtain ⟨t, ht, hT⟩ := va_Tof (N := 13) (f := fun j => .int ((tl[j]?).getD 0)) (A := A) (by decide) h1 (va_eqt h2) (fun j hj => va_eqt (h3 j hj)) hA
  exact ⟨t, hT, va_Zof h4 h5 ht hA⟩
theorem pr_row {args : Array Value} {s : State} {ty : FieldType} (h : (Jvm.Cond.arrayClass ty).before args s = true) (hty : ∀ C, ty ≠ .object C) : ∃ cA : ClassId, ArrOfT s cA ty ∧ va_RA s cA ty := by
  obtain ⟨c, k, comp, h1, h2, h3⟩ := Cond.arrayClass_spec h
  refine ⟨c, fun n z => ⟨(fun q hq => by cases hq), k, h2, comp, h3⟩, ?_⟩
  cases ty with
  | object C => exact absurd rfl (hty C)
  | _ => exact h1
theorem ob_row {s : State} {C : String} (h : va_AO C s) : ∃ cA : ClassId, ArrOfT s cA (.object C) ∧ va_RA s cA (.object C) := by
  obtain ⟨comp, c, k, h1, h2, h3, h4, h5⟩ := Cond.arrayOver_spec h
  exact ⟨c, fun n z => ⟨(fun q hq => by cases hq), k, h3, comp, h4⟩, k, comp, h3, h4, h1, h5⟩
theorem ar_row {s : State} {t : FieldType} (h : va_AOA t s) : ∃ cA : ClassId, ArrOfT s cA (.array t) ∧ va_RA s cA (.array t) := by
  obtain ⟨comp, c, k, h1, h2, h3, h4, h5⟩ := Jvm.Stand.arrayOver_specB h
  exact ⟨c, fun n z => ⟨(fun q hq => by cases hq), k, h3, comp, h4⟩, h5⟩
theorem xr_lmT {args : Array Value} {s : State} (A : Nat → Prop) (hA : ∀ a : Nat, a < s.heap.size → ¬ A a) (hf : ∀ w ∈ flatC (Jvm.Cond.and given_1 narrow_1), w.before args s = true) (hts : ∀ w ∈ lw_tbl, w.before args s = true) : ∃ t : Nat, va_T .int t 13 (fun j => .int ((lmT[j]?).getD 0)) A s s.heap ∧ va_Z "FieldTower" "LEAST_MODULI" "[I" (.ref t) A s s.heap := by
  refine ext_row A hA rfl (hf _ (by decide +kernel)) (hf _ (by decide +kernel)) ?_ (hts _ (List.mem_of_elem_eq_true (by decide +kernel))) (hts _ (List.mem_of_elem_eq_true (by decide +kernel)))
  intro j hj
  match j, hj with
  | 0, _ => exact hf _ (by decide +kernel)
  | 1, _ => exact hf _ (by decide +kernel)
  | 2, _ => exact hf _ (by decide +kernel)
  | 3, _ => exact hf _ (by decide +kernel)
  | 4, _ => exact hf _ (by decide +kernel)
  | 5, _ => exact hf _ (by decide +kernel)
  | 6, _ => exact hf _ (by decide +kernel)
  | 7, _ => exact hf _ (by decide +kernel)
  | 8, _ => exact hf _ (by decide +kernel)
  | 9, _ => exact hf _ (by decide +kernel)
  | 10, _ => exact hf _ (by decide +kernel)
  | 11, _ => exact hf _ (by decide +kernel)
  | 12, _ => exact hf _ (by decide +kernel)
  | k + 13, hj => exact absurd hj (by omega)
theorem xr_wpT {args : Array Value} {s : State} (A : Nat → Prop) (hA : ∀ a : Nat, a < s.heap.size → ¬ A a) (hf : ∀ w ∈ flatC (Jvm.Cond.and given_1 narrow_1), w.before args s = true) (hts : ∀ w ∈ lw_tbl, w.before args s = true) : ∃ t : Nat, va_T .int t 13 (fun j => .int ((wpT[j]?).getD 0)) A s s.heap ∧ va_Z "FieldTower" "WHOLE_POLYNOMIALS" "[I" (.ref t) A s s.heap := by
  refine ext_row A hA rfl (hf _ (by decide +kernel)) (hf _ (by decide +kernel)) ?_ (hts _ (List.mem_of_elem_eq_true (by decide +kernel))) (hts _ (List.mem_of_elem_eq_true (by decide +kernel)))
  intro j hj
  match j, hj with
  | 0, _ => exact hf _ (by decide +kernel)
  | 1, _ => exact hf _ (by decide +kernel)
  | 2, _ => exact hf _ (by decide +kernel)
  | 3, _ => exact hf _ (by decide +kernel)
  | 4, _ => exact hf _ (by decide +kernel)
  | 5, _ => exact hf _ (by decide +kernel)
  | 6, _ => exact hf _ (by decide +kernel)
  | 7, _ => exact hf _ (by decide +kernel)
  | 8, _ => exact hf _ (by decide +kernel)
  | 9, _ => exact hf _ (by decide +kernel)
  | 10, _ => exact hf _ (by decide +kernel)
  | 11, _ => exact hf _ (by decide +kernel)
  | 12, _ => exact hf _ (by decide +kernel)
  | k + 13, hj => exact absurd hj (by omega)
theorem xr_neT {args : Array Value} {s : State} (A : Nat → Prop) (hA : ∀ a : Nat, a < s.heap.size → ¬ A a) (hf : ∀ w ∈ flatC (Jvm.Cond.and given_1 narrow_1), w.before args s = true) (hts : ∀ w ∈ lw_tbl, w.before args s = true) : ∃ t : Nat, va_T .int t 13 (fun j => .int ((neT[j]?).getD 0)) A s s.heap ∧ va_Z "FieldTower" "NORMAL_ELEMENTS" "[I" (.ref t) A s s.heap := by
  refine ext_row A hA rfl (hf _ (by decide +kernel)) (hf _ (by decide +kernel)) ?_ (hts _ (List.mem_of_elem_eq_true (by decide +kernel))) (hts _ (List.mem_of_elem_eq_true (by decide +kernel)))
  intro j hj
  match j, hj with
  | 0, _ => exact hf _ (by decide +kernel)
  | 1, _ => exact hf _ (by decide +kernel)
  | 2, _ => exact hf _ (by decide +kernel)
  | 3, _ => exact hf _ (by decide +kernel)
  | 4, _ => exact hf _ (by decide +kernel)
  | 5, _ => exact hf _ (by decide +kernel)
  | 6, _ => exact hf _ (by decide +kernel)
  | 7, _ => exact hf _ (by decide +kernel)
  | 8, _ => exact hf _ (by decide +kernel)
  | 9, _ => exact hf _ (by decide +kernel)
  | 10, _ => exact hf _ (by decide +kernel)
  | 11, _ => exact hf _ (by decide +kernel)
  | 12, _ => exact hf _ (by decide +kernel)
  | k + 13, hj => exact absurd hj (by omega)
def sel {α : Type} (l : List α) (d : α) (k : Nat) : α := (l[k]?).getD d
def mkG (lc : List ClassId) (li : List (Nat → Nat)) (la : List ClassId) (lx : List Nat) (H : Heap) (L : Nat) (xs : Nat → Int32) : GW := ((sel lc 0, sel li (fun _ => 0)), (fun k => sel la 0 (k - 20)), sel lx 0, H, fun k => (hN (h00 L xs) k, hI (h00 L xs) k))
set_option maxHeartbeats 8000000 in
set_option maxRecDepth 100000 in
theorem whole_start_of (hlaw : ∀ (L : Nat) (xs : Nat → Int32), L ≤ 3072 → PWd 247 0 [some (.ref 1), none, none, none] [] (h00 L xs) 0 0 (fun r _ => r = .int 1)) {p : Program} {e : Env} {s : State} {m : MethodId} {below : List Frame} {meth : Method} {c : Code} (l : Launch) {b L : Nat} {xs : Nat → Int32} (hL : L ≤ 3072) (C0 : lw_At p s m meth c b L xs) : W p l e room_1 s m #[Value.ref b] below meth c s.heap [] 0 0 (lw_Z below #[Value.ref b] s) (entryFrame m ([Value.ref b] : List Value).toArray 4) := by
  obtain ⟨hx, hb, hr, hml, hown, hts, hX, hbl, hlocks, hgv⟩ := id C0
  have hf := flat_of_before _ hgv
  have htsG : ∀ w ∈ tbG, w.before #[Value.ref b] s = true := fun w hw => hts w (List.mem_filter.mp hw).1
  obtain ⟨c0, iS0, hKn0⟩ := u_known (C := r_0) (T := ff_0) (N := 6) (n := 6) htsG uw_0 (htsG _ ini_0.2)
  obtain ⟨c1, iS1, hKn1⟩ := u_known (C := r_1) (T := ff_1) (N := 3) (n := 3) htsG uw_1 (htsG _ ini_1.2)
  obtain ⟨c2, iS2, hKn2⟩ := u_known (C := r_2) (T := ff_2) (N := 4) (n := 4) htsG uw_2 (htsG _ ini_2.2)
  obtain ⟨c3, iS3, hKn3⟩ := u_known (C := r_3) (T := ff_3) (N := 5) (n := 5) htsG uw_3 (htsG _ ini_3.2)
  obtain ⟨c4, iS4, hKn4⟩ := u_known (C := r_4) (T := ff_4) (N := 4) (n := 4) htsG uw_4 (htsG _ ini_4.2)
  obtain ⟨c5, iS5, hKn5⟩ := u_known (C := r_5) (T := ff_5) (N := 7) (n := 7) htsG uw_5 (htsG _ ini_5.2)
  obtain ⟨c6, iS6, hKn6⟩ := u_known (C := r_6) (T := ff_6) (N := 7) (n := 7) htsG uw_6 (htsG _ ini_6.2)
  obtain ⟨c7, iS7, hKn7⟩ := u_known (C := r_7) (T := ff_7) (N := 3) (n := 3) htsG uw_7 (htsG _ ini_7.2)
  obtain ⟨c8, iS8, hKn8⟩ := u_known (C := r_8) (T := ff_8) (N := 13) (n := 13) htsG uw_8 (htsG _ ini_8.2)
  obtain ⟨c9, iS9, hKn9⟩ := u_known (C := r_9) (T := ff_9) (N := 12) (n := 12) htsG uw_9 (htsG _ ini_9.2)
  obtain ⟨c10, iS10, hKn10⟩ := u_known (C := r_10) (T := ff_10) (N := 50) (n := 50) htsG uw_10 (htsG _ ini_10.2)
  have hF := va_AO.of (hts (.arrayOver (.object "FieldTower$Field")) (List.mem_of_elem_eq_true (by decide +kernel)))
  have hCy := va_AO.of (hts (.arrayOver (.object "FieldTower$Cycle")) (List.mem_of_elem_eq_true (by decide +kernel)))
  have hSp := va_AO.of (hts (.arrayOver (.object "FieldTower$Space")) (List.mem_of_elem_eq_true (by decide +kernel)))
  have hII : va_AOA .int s := hts (.arrayOver (.array .int)) (List.mem_of_elem_eq_true (by decide +kernel))
  obtain ⟨a20, A20⟩ := pr_row (htsG _ ac_20) (fun _ h => by cases h)
  obtain ⟨a21, A21⟩ := pr_row (htsG _ ac_21) (fun _ h => by cases h)
  obtain ⟨a22, A22⟩ := pr_row (htsG _ ac_22) (fun _ h => by cases h)
  obtain ⟨a23, A23⟩ := pr_row (htsG _ ac_23) (fun _ h => by cases h)
  obtain ⟨a24, A24⟩ := ob_row hF
  obtain ⟨a25, A25⟩ := ob_row hCy
  obtain ⟨a26, A26⟩ := ob_row hSp
  obtain ⟨a27, A27⟩ := ar_row hII
  have hA0 : ∀ a : Nat, a < s.heap.size → ¬ (fun q : Nat => s.heap.size ≤ q) a := fun a h => Nat.not_le.mpr h
  obtain ⟨t2, T2, Z2⟩ := xr_lmT (fun q : Nat => s.heap.size ≤ q) hA0 hf hts
  obtain ⟨t3, T3, Z3⟩ := xr_wpT (fun q : Nat => s.heap.size ≤ q) hA0 hf hts
  obtain ⟨t4, T4, Z4⟩ := xr_neT (fun q : Nat => s.heap.size ≤ q) hA0 hf hts
  have hK : va_K (mkG [c0, c1, c2, c3, c4, c5, c6, c7, c8, c9, c10] [iS0, iS1, iS2, iS3, iS4, iS5, iS6, iS7, iS8, iS9, iS10] [a20, a21, a22, a23, a24, a25, a26, a27] [0, b, t2, t3, t4] s.heap L xs).1 v_cl (tyL (mkG [c0, c1, c2, c3, c4, c5, c6, c7, c8, c9, c10] [iS0, iS1, iS2, iS3, iS4, iS5, iS6, iS7, iS8, iS9, iS10] [a20, a21, a22, a23, a24, a25, a26, a27] [0, b, t2, t3, t4] s.heap L xs)) s := by
    refine ⟨?_, ?_⟩
    · intro k q hq
      match k, hq with
      | 0, hq => cases hq; exact hKn0
      | 1, hq => cases hq; exact hKn1
      | 2, hq => cases hq; exact hKn2
      | 3, hq => cases hq; exact hKn3
      | 4, hq => cases hq; exact hKn4
      | 5, hq => cases hq; exact hKn5
      | 6, hq => cases hq; exact hKn6
      | 7, hq => cases hq; exact hKn7
      | 8, hq => cases hq; exact hKn8
      | 9, hq => cases hq; exact hKn9
      | 10, hq => cases hq; exact hKn10
      | k + 11, hq => simp [v_cl] at hq
    · intro k q hq
      match k, hq with
      | 0, hq => cases hq; exact A20
      | 1, hq => cases hq; exact A21
      | 2, hq => cases hq; exact A22
      | 3, hq => cases hq; exact A23
      | 4, hq => cases hq; exact A24
      | 5, hq => cases hq; exact A25
      | 6, hq => cases hq; exact A26
      | 7, hq => cases hq; exact A27
      | k + 8, hq => simp [tyL] at hq
  have hT1 : va_T .int b L (fun j => .int (xs j)) (fun q : Nat => s.heap.size ≤ q) s s.heap := by
    obtain ⟨scr, s1, s2, s3, s4, s5⟩ := hX
    exact ⟨scr, s1, s2, s3, by omega, by rw [s4], s5, hA0 b hbl⟩
  have hV : VRl (mkG [c0, c1, c2, c3, c4, c5, c6, c7, c8, c9, c10] [iS0, iS1, iS2, iS3, iS4, iS5, iS6, iS7, iS8, iS9, iS10] [a20, a21, a22, a23, a24, a25, a26, a27] [0, b, t2, t3, t4] s.heap L xs) s := by
    refine ⟨hK, ?_, ?_, hF, hCy, hSp, hII, ?_⟩
    · intro k k1 k5
      rcases (show k = 1 ∨ k = 2 ∨ k = 3 ∨ k = 4 by omega) with rfl | rfl | rfl | rfl
      · exact hT1
      · exact T2
      · exact T3
      · exact T4
    · intro k k2 k5
      rcases (show k = 2 ∨ k = 3 ∨ k = 4 by omega) with rfl | rfl | rfl
      · exact Z2
      · exact Z3
      · exact Z4
    · intro w hw
      have h1 := hts w (List.mem_filter.mp hw).1
      have h2 := (List.mem_filter.mp hw).2
      cases w <;> first | exact va_Nw.of rfl h1 | cases h2
  have hH : HRl (mkG [c0, c1, c2, c3, c4, c5, c6, c7, c8, c9, c10] [iS0, iS1, iS2, iS3, iS4, iS5, iS6, iS7, iS8, iS9, iS10] [a20, a21, a22, a23, a24, a25, a26, a27] [0, b, t2, t3, t4] s.heap L xs) (h00 L xs) s.heap := by
    refine ⟨⟨Nat.le_refl 5, rfl, ?_, ?_⟩, fun k _ _ => ⟨rfl, rfl⟩, rfl, fun q _ => rfl, ?_⟩
    · intro k k1 k5
      rcases (show k = 1 ∨ k = 2 ∨ k = 3 ∨ k = 4 by omega) with rfl | rfl | rfl | rfl <;> rfl
    · intro k hk
      have hk : 5 ≤ k := hk
      show (if k = 1 then _ else if _ then _ else _ : Nat × Nat).1 = 99
      rw [if_neg (by omega), if_neg (by omega)]
    · intro k q hq
      obtain ⟨h1, -⟩ := wsH_of hq
      exact absurd h1 (Nat.not_lt_zero _)
  have hC : CXm mi_247 p s m #[Value.ref b] meth c := ⟨hx, hb, hml, htsG, hown, hlocks, fun w => absurd w (by decide)⟩
  have hl := lv_entry ([.ref b]) (n := 4) (Nat.le_of_ble_eq_true rfl)
  rw [lg_entry_eq]
  have h3 : LRl (mkG [c0, c1, c2, c3, c4, c5, c6, c7, c8, c9, c10] [iS0, iS1, iS2, iS3, iS4, iS5, iS6, iS7, iS8, iS9, iS10] [a20, a21, a22, a23, a24, a25, a26, a27] [0, b, t2, t3, t4] s.heap L xs) [some (.ref 1), none, none, none] ((lg_sl ([.ref b]) ++ List.replicate (4 - (lg_sl ([.ref b])).length) Slot.unset).toArray) 4 := by
    refine ⟨hl.1, hl.2.1, fun i v hi => ?_⟩
    match i, hi with
    | 0, hi => cases hi; exact hl.2.2 (0, .ref b) List.mem_cons_self
    | 1, hi => cases hi
    | 2, hi => cases hi
    | 3, hi => cases hi
    | k + 4, hi => simp at hi
  refine hlaw L xs hL (p_Law_law, 600000, 7302250) mi_247 (0, .new 7, 3, 105) rfl rfl rfl l (mkG [c0, c1, c2, c3, c4, c5, c6, c7, c8, c9, c10] [iS0, iS1, iS2, iS3, iS4, iS5, iS6, iS7, iS8, iS9, iS10] [a20, a21, a22, a23, a24, a25, a26, a27] [0, b, t2, t3, t4] s.heap L xs) p e s m #[Value.ref b] below meth c s.heap [] _ (lw_Z below #[Value.ref b] s) hC hH hV va_S.rf (Nat.le_refl _) (fun _ _ => rfl) h3 ?_
  intro r h H locs ca sl ls pc hK2 h1 h2 hca hsl
  refine ⟨?_, ?_, ?_⟩
  · rintro x rfl hd hty
    cases hK2
    refine va_forget (fun q hq => h2.2.2 q hq) ?_
    refine W.widen (k := 600000) (n := 7302250) hca hsl ?_
    exact lw_ret hx hb hr hlocks hd
  · rintro x rfl hd hty
    cases hty
  · rintro rfl hd hty
    cases hty
