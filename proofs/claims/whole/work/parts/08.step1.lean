/-! SOUNDNESS: stack, locals, branches -/
section S8
variable {G : GW} {mi : MI} {mc ms : Nat} {p : Program} {l : Launch} {e : Env} {s : State} {m : MethodId} {args : Array Value} {below : List Frame} {meth : Method} {c : Code} {Q : State → Prop} {pc : Nat} {pl : PL} {h : PH} {ca sl : Nat}
theorem gq_iadd (hx : p.tables.exec = Jvm.exec) (hb : c.code = mi.2.1) {x y : Int32} {st : List Value} (hd : decode mi.2.1 pc = .ok (.iadd, 1)) (k : GLp G mi mc ms p l e s m args below meth c Q (pc + 1) (pl) (.int (x + y) :: st) (h) (ca) (sl)) : GLp G mi mc ms p l e s m args below meth c Q (pc) (pl) (.int y :: .int x :: st) (h) (ca) (sl) := by
  intro H locs ls h1 h2 h3
  exact lv_iadd hx hb hd (k H locs ls h1 h2 h3)
theorem gq_isub (hx : p.tables.exec = Jvm.exec) (hb : c.code = mi.2.1) {x y : Int32} {st : List Value} (hd : decode mi.2.1 pc = .ok (.isub, 1)) (k : GLp G mi mc ms p l e s m args below meth c Q (pc + 1) (pl) (.int (x - y) :: st) (h) (ca) (sl)) : GLp G mi mc ms p l e s m args below meth c Q (pc) (pl) (.int y :: .int x :: st) (h) (ca) (sl) := by
  intro H locs ls h1 h2 h3
  exact lv_isub hx hb hd (k H locs ls h1 h2 h3)
theorem gq_imul (hx : p.tables.exec = Jvm.exec) (hb : c.code = mi.2.1) {x y : Int32} {st : List Value} (hd : decode mi.2.1 pc = .ok (.imul, 1)) (k : GLp G mi mc ms p l e s m args below meth c Q (pc + 1) (pl) (.int (x * y) :: st) (h) (ca) (sl)) : GLp G mi mc ms p l e s m args below meth c Q (pc) (pl) (.int y :: .int x :: st) (h) (ca) (sl) := by
  intro H locs ls h1 h2 h3
  exact lv_imul hx hb hd (k H locs ls h1 h2 h3)
theorem gq_iand (hx : p.tables.exec = Jvm.exec) (hb : c.code = mi.2.1) {x y : Int32} {st : List Value} (hd : decode mi.2.1 pc = .ok (.iand, 1)) (k : GLp G mi mc ms p l e s m args below meth c Q (pc + 1) (pl) (.int (x &&& y) :: st) (h) (ca) (sl)) : GLp G mi mc ms p l e s m args below meth c Q (pc) (pl) (.int y :: .int x :: st) (h) (ca) (sl) := by
  intro H locs ls h1 h2 h3
  exact lv_iand hx hb hd (k H locs ls h1 h2 h3)
theorem gq_ior (hx : p.tables.exec = Jvm.exec) (hb : c.code = mi.2.1) {x y : Int32} {st : List Value} (hd : decode mi.2.1 pc = .ok (.ior, 1)) (k : GLp G mi mc ms p l e s m args below meth c Q (pc + 1) (pl) (.int (x ||| y) :: st) (h) (ca) (sl)) : GLp G mi mc ms p l e s m args below meth c Q (pc) (pl) (.int y :: .int x :: st) (h) (ca) (sl) := by
  intro H locs ls h1 h2 h3
  exact lv_ior hx hb hd (k H locs ls h1 h2 h3)
theorem gq_ixor (hx : p.tables.exec = Jvm.exec) (hb : c.code = mi.2.1) {x y : Int32} {st : List Value} (hd : decode mi.2.1 pc = .ok (.ixor, 1)) (k : GLp G mi mc ms p l e s m args below meth c Q (pc + 1) (pl) (.int (x ^^^ y) :: st) (h) (ca) (sl)) : GLp G mi mc ms p l e s m args below meth c Q (pc) (pl) (.int y :: .int x :: st) (h) (ca) (sl) := by
  intro H locs ls h1 h2 h3
  exact lv_ixor hx hb hd (k H locs ls h1 h2 h3)
theorem gq_ishl (hx : p.tables.exec = Jvm.exec) (hb : c.code = mi.2.1) {x y : Int32} {st : List Value} (hd : decode mi.2.1 pc = .ok (.ishl, 1)) (k : GLp G mi mc ms p l e s m args below meth c Q (pc + 1) (pl) (.int (i_shl x y) :: st) (h) (ca) (sl)) : GLp G mi mc ms p l e s m args below meth c Q (pc) (pl) (.int y :: .int x :: st) (h) (ca) (sl) := by
  intro H locs ls h1 h2 h3
  exact lv_ishl hx hb hd (k H locs ls h1 h2 h3)
theorem gq_ishr (hx : p.tables.exec = Jvm.exec) (hb : c.code = mi.2.1) {x y : Int32} {st : List Value} (hd : decode mi.2.1 pc = .ok (.ishr, 1)) (k : GLp G mi mc ms p l e s m args below meth c Q (pc + 1) (pl) (.int (i_shr x y) :: st) (h) (ca) (sl)) : GLp G mi mc ms p l e s m args below meth c Q (pc) (pl) (.int y :: .int x :: st) (h) (ca) (sl) := by
  intro H locs ls h1 h2 h3
  exact lv_ishr hx hb hd (k H locs ls h1 h2 h3)
theorem gq_iushr (hx : p.tables.exec = Jvm.exec) (hb : c.code = mi.2.1) {x y : Int32} {st : List Value} (hd : decode mi.2.1 pc = .ok (.iushr, 1)) (k : GLp G mi mc ms p l e s m args below meth c Q (pc + 1) (pl) (.int (i_ushr x y) :: st) (h) (ca) (sl)) : GLp G mi mc ms p l e s m args below meth c Q (pc) (pl) (.int y :: .int x :: st) (h) (ca) (sl) := by
  intro H locs ls h1 h2 h3
  exact lv_iushr hx hb hd rfl (k H locs ls h1 h2 h3)
theorem gq_idiv (hx : p.tables.exec = Jvm.exec) (hb : c.code = mi.2.1) {x y : Int32} {st : List Value} (hd : decode mi.2.1 pc = .ok (.idiv, 1)) (hn : ¬ y = 0) (k : GLp G mi mc ms p l e s m args below meth c Q (pc + 1) (pl) (.int (x / y) :: st) (h) (ca) (sl)) : GLp G mi mc ms p l e s m args below meth c Q (pc) (pl) (.int y :: .int x :: st) (h) (ca) (sl) := by
  intro H locs ls h1 h2 h3
  exact lv_idiv hx hb hd hn (k H locs ls h1 h2 h3)
theorem gq_irem (hx : p.tables.exec = Jvm.exec) (hb : c.code = mi.2.1) {x y : Int32} {st : List Value} (hd : decode mi.2.1 pc = .ok (.irem, 1)) (hn : ¬ y = 0) (k : GLp G mi mc ms p l e s m args below meth c Q (pc + 1) (pl) (.int (i_rem x y) :: st) (h) (ca) (sl)) : GLp G mi mc ms p l e s m args below meth c Q (pc) (pl) (.int y :: .int x :: st) (h) (ca) (sl) := by
  intro H locs ls h1 h2 h3
  exact lv_irem hx hb hd hn (k H locs ls h1 h2 h3)
theorem gq_ladd (hx : p.tables.exec = Jvm.exec) (hb : c.code = mi.2.1) {x y : Int64} {st : List Value} (hd : decode mi.2.1 pc = .ok (.ladd, 1)) (k : GLp G mi mc ms p l e s m args below meth c Q (pc + 1) (pl) (.long (x + y) :: st) (h) (ca) (sl)) : GLp G mi mc ms p l e s m args below meth c Q (pc) (pl) (.long y :: .long x :: st) (h) (ca) (sl) := by
  intro H locs ls h1 h2 h3
  exact lv_ladd hx hb hd (k H locs ls h1 h2 h3)
theorem gq_lmul (hx : p.tables.exec = Jvm.exec) (hb : c.code = mi.2.1) {x y : Int64} {st : List Value} (hd : decode mi.2.1 pc = .ok (.lmul, 1)) (k : GLp G mi mc ms p l e s m args below meth c Q (pc + 1) (pl) (.long (x * y) :: st) (h) (ca) (sl)) : GLp G mi mc ms p l e s m args below meth c Q (pc) (pl) (.long y :: .long x :: st) (h) (ca) (sl) := by
  intro H locs ls h1 h2 h3
  exact lv_lmul hx hb hd (k H locs ls h1 h2 h3)
theorem gq_land (hx : p.tables.exec = Jvm.exec) (hb : c.code = mi.2.1) {x y : Int64} {st : List Value} (hd : decode mi.2.1 pc = .ok (.land, 1)) (k : GLp G mi mc ms p l e s m args below meth c Q (pc + 1) (pl) (.long (x &&& y) :: st) (h) (ca) (sl)) : GLp G mi mc ms p l e s m args below meth c Q (pc) (pl) (.long y :: .long x :: st) (h) (ca) (sl) := by
  intro H locs ls h1 h2 h3
  exact lv_land hx hb hd (k H locs ls h1 h2 h3)
theorem gq_lxor (hx : p.tables.exec = Jvm.exec) (hb : c.code = mi.2.1) {x y : Int64} {st : List Value} (hd : decode mi.2.1 pc = .ok (.lxor, 1)) (k : GLp G mi mc ms p l e s m args below meth c Q (pc + 1) (pl) (.long (x ^^^ y) :: st) (h) (ca) (sl)) : GLp G mi mc ms p l e s m args below meth c Q (pc) (pl) (.long y :: .long x :: st) (h) (ca) (sl) := by
  intro H locs ls h1 h2 h3
  exact lv_lxor hx hb hd (k H locs ls h1 h2 h3)
theorem gq_ldiv (hx : p.tables.exec = Jvm.exec) (hb : c.code = mi.2.1) {x y : Int64} {st : List Value} (hd : decode mi.2.1 pc = .ok (.ldiv, 1)) (hn : ¬ y = 0) (k : GLp G mi mc ms p l e s m args below meth c Q (pc + 1) (pl) (.long (x / y) :: st) (h) (ca) (sl)) : GLp G mi mc ms p l e s m args below meth c Q (pc) (pl) (.long y :: .long x :: st) (h) (ca) (sl) := by
  intro H locs ls h1 h2 h3
  exact lv_ldiv hx hb hd hn (k H locs ls h1 h2 h3)
theorem gq_lrem (hx : p.tables.exec = Jvm.exec) (hb : c.code = mi.2.1) {x y : Int64} {st : List Value} (hd : decode mi.2.1 pc = .ok (.lrem, 1)) (hn : ¬ y = 0) (k : GLp G mi mc ms p l e s m args below meth c Q (pc + 1) (pl) (.long (l_rem x y) :: st) (h) (ca) (sl)) : GLp G mi mc ms p l e s m args below meth c Q (pc) (pl) (.long y :: .long x :: st) (h) (ca) (sl) := by
  intro H locs ls h1 h2 h3
  exact lv_lrem hx hb hd hn (k H locs ls h1 h2 h3)
theorem gq_lshl (hx : p.tables.exec = Jvm.exec) (hb : c.code = mi.2.1) {x : Int64} {y : Int32} {st : List Value} (hd : decode mi.2.1 pc = .ok (.lshl, 1)) (k : GLp G mi mc ms p l e s m args below meth c Q (pc + 1) (pl) (.long (l_shl x y) :: st) (h) (ca) (sl)) : GLp G mi mc ms p l e s m args below meth c Q (pc) (pl) (.int y :: .long x :: st) (h) (ca) (sl) := by
  intro H locs ls h1 h2 h3
  exact lv_lshl hx hb hd rfl (k H locs ls h1 h2 h3)
theorem gq_lshr (hx : p.tables.exec = Jvm.exec) (hb : c.code = mi.2.1) {x : Int64} {y : Int32} {st : List Value} (hd : decode mi.2.1 pc = .ok (.lshr, 1)) (k : GLp G mi mc ms p l e s m args below meth c Q (pc + 1) (pl) (.long (l_shr x y) :: st) (h) (ca) (sl)) : GLp G mi mc ms p l e s m args below meth c Q (pc) (pl) (.int y :: .long x :: st) (h) (ca) (sl) := by
  intro H locs ls h1 h2 h3
  exact lv_lshr hx hb hd rfl (k H locs ls h1 h2 h3)
theorem gq_lneg (hx : p.tables.exec = Jvm.exec) (hb : c.code = mi.2.1) {x : Int64} {st : List Value} (hd : decode mi.2.1 pc = .ok (.lneg, 1)) (k : GLp G mi mc ms p l e s m args below meth c Q (pc + 1) (pl) (.long (-x) :: st) (h) (ca) (sl)) : GLp G mi mc ms p l e s m args below meth c Q (pc) (pl) (.long x :: st) (h) (ca) (sl) := by
  intro H locs ls h1 h2 h3
  exact lv_lneg hx hb hd (k H locs ls h1 h2 h3)
theorem gq_lcmp (hx : p.tables.exec = Jvm.exec) (hb : c.code = mi.2.1) {x y : Int64} {st : List Value} (hd : decode mi.2.1 pc = .ok (.lcmp, 1)) (k : GLp G mi mc ms p l e s m args below meth c Q (pc + 1) (pl) (.int (l_cmp x y) :: st) (h) (ca) (sl)) : GLp G mi mc ms p l e s m args below meth c Q (pc) (pl) (.long y :: .long x :: st) (h) (ca) (sl) := by
  intro H locs ls h1 h2 h3
  exact W.lcmp hx hb hd (k H locs ls h1 h2 h3)
theorem gq_i2l (hx : p.tables.exec = Jvm.exec) (hb : c.code = mi.2.1) {x : Int32} {st : List Value} (hd : decode mi.2.1 pc = .ok (.i2l, 1)) (k : GLp G mi mc ms p l e s m args below meth c Q (pc + 1) (pl) (.long (x.toInt64) :: st) (h) (ca) (sl)) : GLp G mi mc ms p l e s m args below meth c Q (pc) (pl) (.int x :: st) (h) (ca) (sl) := by
  intro H locs ls h1 h2 h3
  exact lv_i2l hx hb hd rfl (k H locs ls h1 h2 h3)
theorem gq_l2i (hx : p.tables.exec = Jvm.exec) (hb : c.code = mi.2.1) {x : Int64} {st : List Value} (hd : decode mi.2.1 pc = .ok (.l2i, 1)) (k : GLp G mi mc ms p l e s m args below meth c Q (pc + 1) (pl) (.int (x.toInt32) :: st) (h) (ca) (sl)) : GLp G mi mc ms p l e s m args below meth c Q (pc) (pl) (.long x :: st) (h) (ca) (sl) := by
  intro H locs ls h1 h2 h3
  exact lv_l2i hx hb hd rfl (k H locs ls h1 h2 h3)
theorem gq_i2b (hx : p.tables.exec = Jvm.exec) (hb : c.code = mi.2.1) {x : Int32} {st : List Value} (hd : decode mi.2.1 pc = .ok (.i2b, 1)) (k : GLp G mi mc ms p l e s m args below meth c Q (pc + 1) (pl) (.int (x.toInt8.toInt32) :: st) (h) (ca) (sl)) : GLp G mi mc ms p l e s m args below meth c Q (pc) (pl) (.int x :: st) (h) (ca) (sl) := by
  intro H locs ls h1 h2 h3
  exact lv_i2b hx hb hd rfl (k H locs ls h1 h2 h3)
theorem gq_dup (hx : p.tables.exec = Jvm.exec) (hb : c.code = mi.2.1) {v : Value} {st : List Value} (hv : v.category = 1) (hd : decode mi.2.1 pc = .ok (.dup, 1)) (k : GLp G mi mc ms p l e s m args below meth c Q (pc + 1) (pl) (v :: v :: st) (h) (ca) (sl)) : GLp G mi mc ms p l e s m args below meth c Q (pc) (pl) (v :: st) (h) (ca) (sl) := by
  intro H locs ls h1 h2 h3
  exact lv_dup hx hb hd (by rw [tv_cat]; exact hv) (k H locs ls h1 h2 h3)
theorem gq_dup2 (hx : p.tables.exec = Jvm.exec) (hb : c.code = mi.2.1) {v w : Value} {st : List Value} (hv : v.category = 1) (hw : w.category = 1) (hd : decode mi.2.1 pc = .ok (.dup2, 1)) (k : GLp G mi mc ms p l e s m args below meth c Q (pc + 1) (pl) (v :: w :: v :: w :: st) (h) (ca) (sl)) : GLp G mi mc ms p l e s m args below meth c Q (pc) (pl) (v :: w :: st) (h) (ca) (sl) := by
  intro H locs ls h1 h2 h3
  exact lv_dup2_11 hx hb hd (by rw [tv_cat]; exact hv) (by rw [tv_cat]; exact hw) (k H locs ls h1 h2 h3)
theorem gq_pop (hx : p.tables.exec = Jvm.exec) (hb : c.code = mi.2.1) {v : Value} {st : List Value} (hv : v.category = 1) (hd : decode mi.2.1 pc = .ok (.pop, 1)) (k : GLp G mi mc ms p l e s m args below meth c Q (pc + 1) (pl) (st) (h) (ca) (sl)) : GLp G mi mc ms p l e s m args below meth c Q (pc) (pl) (v :: st) (h) (ca) (sl) := by
  intro H locs ls h1 h2 h3
  exact lv_pop hx hb hd (by rw [tv_cat]; exact hv) (k H locs ls h1 h2 h3)
theorem gq_iload (hx : p.tables.exec = Jvm.exec) (hb : c.code = mi.2.1) {i : Nat} {x : Int32} {st : List Value} (hl : pl[i]? = some (some (.int x))) (hd : decode mi.2.1 pc = .ok (.iload i, 2)) (k : GLp G mi mc ms p l e s m args below meth c Q (pc + 2) (pl) (.int x :: st) (h) (ca) (sl)) : GLp G mi mc ms p l e s m args below meth c Q (pc) (pl) (st) (h) (ca) (sl) := by
  intro H locs ls h1 h2 h3
  exact lv_iload hx hb hd (h3.2.2 _ _ hl) (k H locs ls h1 h2 h3)
theorem gq_iload_n (hx : p.tables.exec = Jvm.exec) (hb : c.code = mi.2.1) {i : Nat} {kk : Fin 4} {x : Int32} {st : List Value} (hi : (kk : Nat) = i) (hl : pl[i]? = some (some (.int x))) (hd : decode mi.2.1 pc = .ok (.iload_n kk, 1)) (k : GLp G mi mc ms p l e s m args below meth c Q (pc + 1) (pl) (.int x :: st) (h) (ca) (sl)) : GLp G mi mc ms p l e s m args below meth c Q (pc) (pl) (st) (h) (ca) (sl) := by
  intro H locs ls h1 h2 h3
  exact lv_iload_n hx hb hd hi (h3.2.2 _ _ hl) (k H locs ls h1 h2 h3)
theorem gq_lload (hx : p.tables.exec = Jvm.exec) (hb : c.code = mi.2.1) {i : Nat} {x : Int64} {st : List Value} (hl : pl[i]? = some (some (.long x))) (hd : decode mi.2.1 pc = .ok (.lload i, 2)) (k : GLp G mi mc ms p l e s m args below meth c Q (pc + 2) (pl) (.long x :: st) (h) (ca) (sl)) : GLp G mi mc ms p l e s m args below meth c Q (pc) (pl) (st) (h) (ca) (sl) := by
  intro H locs ls h1 h2 h3
  exact lv_lload hx hb hd (h3.2.2 _ _ hl) (k H locs ls h1 h2 h3)
theorem gq_lload_n (hx : p.tables.exec = Jvm.exec) (hb : c.code = mi.2.1) {i : Nat} {kk : Fin 4} {x : Int64} {st : List Value} (hi : (kk : Nat) = i) (hl : pl[i]? = some (some (.long x))) (hd : decode mi.2.1 pc = .ok (.lload_n kk, 1)) (k : GLp G mi mc ms p l e s m args below meth c Q (pc + 1) (pl) (.long x :: st) (h) (ca) (sl)) : GLp G mi mc ms p l e s m args below meth c Q (pc) (pl) (st) (h) (ca) (sl) := by
  intro H locs ls h1 h2 h3
  exact lv_lload_n hx hb hd hi (h3.2.2 _ _ hl) (k H locs ls h1 h2 h3)
theorem gq_aload (hx : p.tables.exec = Jvm.exec) (hb : c.code = mi.2.1) {i : Nat} {x : Nat} {st : List Value} (hl : pl[i]? = some (some (.ref x))) (hd : decode mi.2.1 pc = .ok (.aload i, 2)) (k : GLp G mi mc ms p l e s m args below meth c Q (pc + 2) (pl) (.ref x :: st) (h) (ca) (sl)) : GLp G mi mc ms p l e s m args below meth c Q (pc) (pl) (st) (h) (ca) (sl) := by
  intro H locs ls h1 h2 h3
  have g1 := h3.2.2 _ _ hl
  have g2 := k H locs ls h1 h2 h3
  have e1 : tv G (.ref x) = va_rf (rfq G x) := rfl
  rw [List.map_cons, e1] at g2
  rw [e1] at g1
  cases hz : rfq G x with
  | none =>
    rw [hz] at g1 g2
    exact lv_aloadN hx hb hd g1 g2
  | some y =>
    rw [hz] at g1 g2
    exact lv_aload hx hb hd g1 g2
theorem gq_aload_n (hx : p.tables.exec = Jvm.exec) (hb : c.code = mi.2.1) {i : Nat} {kk : Fin 4} {x : Nat} {st : List Value} (hi : (kk : Nat) = i) (hl : pl[i]? = some (some (.ref x))) (hd : decode mi.2.1 pc = .ok (.aload_n kk, 1)) (k : GLp G mi mc ms p l e s m args below meth c Q (pc + 1) (pl) (.ref x :: st) (h) (ca) (sl)) : GLp G mi mc ms p l e s m args below meth c Q (pc) (pl) (st) (h) (ca) (sl) := by
  intro H locs ls h1 h2 h3
  have g1 := h3.2.2 _ _ hl
  have g2 := k H locs ls h1 h2 h3
  have e1 : tv G (.ref x) = va_rf (rfq G x) := rfl
  rw [List.map_cons, e1] at g2
  rw [e1] at g1
  cases hz : rfq G x with
  | none =>
    rw [hz] at g1 g2
    exact lv_aload_nN hx hb hd hi g1 g2
  | some y =>
    rw [hz] at g1 g2
    exact lv_aload_n hx hb hd hi g1 g2
theorem gq_istore (hx : p.tables.exec = Jvm.exec) (hb : c.code = mi.2.1) {i : Nat} {x : Int32} {st : List Value} (hn : i < mi.2.2.1) (hd : decode mi.2.1 pc = .ok (.istore i, 2)) (k : GLp G mi mc ms p l e s m args below meth c Q (pc + 2) (ls1 pl i (.int x)) (st) (h) (ca) (sl)) : GLp G mi mc ms p l e s m args below meth c Q (pc) (pl) (.int x :: st) (h) (ca) (sl) := by
  intro H locs ls h1 h2 h3
  exact lv_istore hx hb hd h3.has hn rfl (fun ls' hl => k H locs ls' h1 h2 (LRl.set1 (v := .int x) hl))
theorem gq_istore_n (hx : p.tables.exec = Jvm.exec) (hb : c.code = mi.2.1) {i : Nat} {kk : Fin 4} {x : Int32} {st : List Value} (hi : (kk : Nat) = i) (hn : i < mi.2.2.1) (hd : decode mi.2.1 pc = .ok (.istore_n kk, 1)) (k : GLp G mi mc ms p l e s m args below meth c Q (pc + 1) (ls1 pl i (.int x)) (st) (h) (ca) (sl)) : GLp G mi mc ms p l e s m args below meth c Q (pc) (pl) (.int x :: st) (h) (ca) (sl) := by
  intro H locs ls h1 h2 h3
  exact lv_istore_n hx hb hd hi h3.has hn rfl (fun ls' hl => k H locs ls' h1 h2 (LRl.set1 (v := .int x) hl))
theorem gq_lstore (hx : p.tables.exec = Jvm.exec) (hb : c.code = mi.2.1) {i : Nat} {x : Int64} {st : List Value} (hn : i + 1 < mi.2.2.1) (hd : decode mi.2.1 pc = .ok (.lstore i, 2)) (k : GLp G mi mc ms p l e s m args below meth c Q (pc + 2) (ls2 pl i (.long x)) (st) (h) (ca) (sl)) : GLp G mi mc ms p l e s m args below meth c Q (pc) (pl) (.long x :: st) (h) (ca) (sl) := by
  intro H locs ls h1 h2 h3
  exact lv_lstore hx hb hd h3.has hn rfl (fun ls' hl => k H locs ls' h1 h2 (LRl.set2 (v := .long x) hl))
theorem gq_lstore_n (hx : p.tables.exec = Jvm.exec) (hb : c.code = mi.2.1) {i : Nat} {kk : Fin 4} {x : Int64} {st : List Value} (hi : (kk : Nat) = i) (hn : i + 1 < mi.2.2.1) (hd : decode mi.2.1 pc = .ok (.lstore_n kk, 1)) (k : GLp G mi mc ms p l e s m args below meth c Q (pc + 1) (ls2 pl i (.long x)) (st) (h) (ca) (sl)) : GLp G mi mc ms p l e s m args below meth c Q (pc) (pl) (.long x :: st) (h) (ca) (sl) := by
  intro H locs ls h1 h2 h3
  exact lv_lstore_n hx hb hd hi h3.has hn rfl (fun ls' hl => k H locs ls' h1 h2 (LRl.set2 (v := .long x) hl))
theorem gq_astore (hx : p.tables.exec = Jvm.exec) (hb : c.code = mi.2.1) {i : Nat} {x : Nat} {st : List Value} (hn : i < mi.2.2.1) (hd : decode mi.2.1 pc = .ok (.astore i, 2)) (k : GLp G mi mc ms p l e s m args below meth c Q (pc + 2) (ls1 pl i (.ref x)) (st) (h) (ca) (sl)) : GLp G mi mc ms p l e s m args below meth c Q (pc) (pl) (.ref x :: st) (h) (ca) (sl) := by
  intro H locs ls h1 h2 h3
  have g2 := fun ls' hl => k H locs ls' h1 h2 (LRl.set1 (G := G) (pl := pl) (v := .ref x) (i := i) (n := mi.2.2.1) hl)
  have e1 : tv G (.ref x) = va_rf (rfq G x) := rfl
  rw [List.map_cons, e1]
  rw [e1] at g2
  cases hz : rfq G x with
  | none =>
    rw [hz] at g2
    exact lv_astoreN hx hb hd h3.has hn rfl g2
  | some y =>
    rw [hz] at g2
    exact lv_astore hx hb hd h3.has hn rfl g2
theorem gq_astore_n (hx : p.tables.exec = Jvm.exec) (hb : c.code = mi.2.1) {i : Nat} {kk : Fin 4} {x : Nat} {st : List Value} (hi : (kk : Nat) = i) (hn : i < mi.2.2.1) (hd : decode mi.2.1 pc = .ok (.astore_n kk, 1)) (k : GLp G mi mc ms p l e s m args below meth c Q (pc + 1) (ls1 pl i (.ref x)) (st) (h) (ca) (sl)) : GLp G mi mc ms p l e s m args below meth c Q (pc) (pl) (.ref x :: st) (h) (ca) (sl) := by
  intro H locs ls h1 h2 h3
  have g2 := fun ls' hl => k H locs ls' h1 h2 (LRl.set1 (G := G) (pl := pl) (v := .ref x) (i := i) (n := mi.2.2.1) hl)
  have e1 : tv G (.ref x) = va_rf (rfq G x) := rfl
  rw [List.map_cons, e1]
  rw [e1] at g2
  cases hz : rfq G x with
  | none =>
    rw [hz] at g2
    exact lv_astore_nN hx hb hd hi h3.has hn rfl g2
  | some y =>
    rw [hz] at g2
    exact lv_astore_n hx hb hd hi h3.has hn rfl g2
theorem gq_iinc (hx : p.tables.exec = Jvm.exec) (hb : c.code = mi.2.1) {i : Nat} {x v : Int32} {n : Int} {st : List Value} (hl : pl[i]? = some (some (.int x))) (hn : i < mi.2.2.1) (hv : Int32.ofInt n = v) (hd : decode mi.2.1 pc = .ok (.iinc i n, 3)) (k : GLp G mi mc ms p l e s m args below meth c Q (pc + 3) (ls1 pl i (.int (x + v))) (st) (h) (ca) (sl)) : GLp G mi mc ms p l e s m args below meth c Q (pc) (pl) (st) (h) (ca) (sl) := by
  intro H locs ls h1 h2 h3
  have hm : (i, Value.int x) ∈ lvo G pl := lvo_mem.mpr ⟨.int x, hl, rfl⟩
  obtain ⟨k0, hk0⟩ := List.getElem?_of_mem hm
  exact lv_iinc hx hb hd h3.has hk0 (by rw [hv]) hn rfl (fun ls' hl => k H locs ls' h1 h2 (LRl.set1 (v := .int (x + v)) hl))
theorem gq_iconst (hx : p.tables.exec = Jvm.exec) (hb : c.code = mi.2.1) {n : Int} {v : Int32} {st : List Value} (hv : Int32.ofInt n = v) (hd : decode mi.2.1 pc = .ok (.iconst n, 1)) (k : GLp G mi mc ms p l e s m args below meth c Q (pc + 1) (pl) (.int v :: st) (h) (ca) (sl)) : GLp G mi mc ms p l e s m args below meth c Q (pc) (pl) (st) (h) (ca) (sl) := by
  intro H locs ls h1 h2 h3
  exact lv_iconst hx hb hd hv (k H locs ls h1 h2 h3)
theorem gq_bipush (hx : p.tables.exec = Jvm.exec) (hb : c.code = mi.2.1) {n : Int} {v : Int32} {st : List Value} (hv : (Int8.ofInt n).toInt32 = v) (hd : decode mi.2.1 pc = .ok (.bipush n, 2)) (k : GLp G mi mc ms p l e s m args below meth c Q (pc + 2) (pl) (.int v :: st) (h) (ca) (sl)) : GLp G mi mc ms p l e s m args below meth c Q (pc) (pl) (st) (h) (ca) (sl) := by
  intro H locs ls h1 h2 h3
  exact lv_bipush hx hb hd hv (k H locs ls h1 h2 h3)
theorem gq_sipush (hx : p.tables.exec = Jvm.exec) (hb : c.code = mi.2.1) {n : Int} {v : Int32} {st : List Value} (hv : (Int16.ofInt n).toInt32 = v) (hd : decode mi.2.1 pc = .ok (.sipush n, 3)) (k : GLp G mi mc ms p l e s m args below meth c Q (pc + 3) (pl) (.int v :: st) (h) (ca) (sl)) : GLp G mi mc ms p l e s m args below meth c Q (pc) (pl) (st) (h) (ca) (sl) := by
  intro H locs ls h1 h2 h3
  exact lv_sipush hx hb hd hv (k H locs ls h1 h2 h3)
theorem gq_lconst (hx : p.tables.exec = Jvm.exec) (hb : c.code = mi.2.1) {n : Fin 2} {v : Int64} {st : List Value} (hv : Int64.ofNat (n : Nat) = v) (hd : decode mi.2.1 pc = .ok (.lconst n, 1)) (k : GLp G mi mc ms p l e s m args below meth c Q (pc + 1) (pl) (.long v :: st) (h) (ca) (sl)) : GLp G mi mc ms p l e s m args below meth c Q (pc) (pl) (st) (h) (ca) (sl) := by
  intro H locs ls h1 h2 h3
  exact lv_lconst hx hb hd hv (k H locs ls h1 h2 h3)
theorem gq_ldc (hx : p.tables.exec = Jvm.exec) (hb : c.code = mi.2.1) {ix : Nat} {v : Int32} {st : List Value} (ho : s.vm.findClass mi.1.cls = some m.cls) (hw : (Jvm.Cond.constant mi.1.cls ix v).before args s = true) (hd : decode mi.2.1 pc = .ok (.ldc ix, 2)) (k : GLp G mi mc ms p l e s m args below meth c Q (pc + 2) (pl) (.int v :: st) (h) (ca) (sl)) : GLp G mi mc ms p l e s m args below meth c Q (pc) (pl) (st) (h) (ca) (sl) := by
  intro H locs ls h1 h2 h3
  exact lv_ldc hx hb ho hw hd (k H locs ls h1 h2 h3)
theorem gq_ldcw (hx : p.tables.exec = Jvm.exec) (hb : c.code = mi.2.1) {ix : Nat} {v : Int32} {st : List Value} (ho : s.vm.findClass mi.1.cls = some m.cls) (hw : (Jvm.Cond.constant mi.1.cls ix v).before args s = true) (hd : decode mi.2.1 pc = .ok (.ldc_w ix, 3)) (k : GLp G mi mc ms p l e s m args below meth c Q (pc + 3) (pl) (.int v :: st) (h) (ca) (sl)) : GLp G mi mc ms p l e s m args below meth c Q (pc) (pl) (st) (h) (ca) (sl) := by
  intro H locs ls h1 h2 h3
  exact lv_ldcw hx hb ho hw hd (k H locs ls h1 h2 h3)
theorem gq_ldc2 (hx : p.tables.exec = Jvm.exec) (hb : c.code = mi.2.1) {ix : Nat} {v : Int64} {st : List Value} (ho : s.vm.findClass mi.1.cls = some m.cls) (hw : (Jvm.Cond.constantLong mi.1.cls ix v).before args s = true) (hd : decode mi.2.1 pc = .ok (.ldc2_w ix, 3)) (k : GLp G mi mc ms p l e s m args below meth c Q (pc + 3) (pl) (.long v :: st) (h) (ca) (sl)) : GLp G mi mc ms p l e s m args below meth c Q (pc) (pl) (st) (h) (ca) (sl) := by
  intro H locs ls h1 h2 h3
  exact lv_ldc2 hx hb ho hw hd (k H locs ls h1 h2 h3)
theorem gq_if (hx : p.tables.exec = Jvm.exec) (hb : c.code = mi.2.1) {cd : Jvm.ClassFile.Cond} {x : Int32} {off : Int} {tgt : Nat} {st : List Value} {J N : Prop} (hd : decode mi.2.1 pc = .ok (.ifCond cd off, 3)) (ht : (pc : Int) + off = (tgt : Int)) (hj : J → GLp G mi mc ms p l e s m args below meth c Q (tgt) (pl) (st) (h) (ca) (sl)) (hn : N → GLp G mi mc ms p l e s m args below meth c Q (pc + 3) (pl) (st) (h) (ca) (sl)) (hb2 : br1 cd x J N) : GLp G mi mc ms p l e s m args below meth c Q (pc) (pl) (.int x :: st) (h) (ca) (sl) := by
  intro H locs ls h1 h2 h3
  cases cd
  · exact lv_if_eq hx hb hd ht (fun q => hj (hb2.1 q) H locs ls h1 h2 h3) (fun q => hn (hb2.2 q) H locs ls h1 h2 h3)
  · exact lv_if_ne hx hb hd ht (fun q => hj (hb2.1 q) H locs ls h1 h2 h3) (fun q => hn (hb2.2 q) H locs ls h1 h2 h3)
  · exact lv_if_lt hx hb hd ht (fun q => hj (hb2.1 q) H locs ls h1 h2 h3) (fun q => hn (hb2.2 q) H locs ls h1 h2 h3)
  · exact lv_if_ge hx hb hd ht (fun q => hj (hb2.1 q) H locs ls h1 h2 h3) (fun q => hn (hb2.2 q) H locs ls h1 h2 h3)
  · exact lv_if_gt hx hb hd ht (fun q => hj (hb2.1 q) H locs ls h1 h2 h3) (fun q => hn (hb2.2 q) H locs ls h1 h2 h3)
  · exact lv_if_le hx hb hd ht (fun q => hj (hb2.1 q) H locs ls h1 h2 h3) (fun q => hn (hb2.2 q) H locs ls h1 h2 h3)
theorem gq_icmp (hx : p.tables.exec = Jvm.exec) (hb : c.code = mi.2.1) {cd : Jvm.ClassFile.Cond} {x y : Int32} {off : Int} {tgt : Nat} {st : List Value} {J N : Prop} (hd : decode mi.2.1 pc = .ok (.if_icmp cd off, 3)) (ht : (pc : Int) + off = (tgt : Int)) (hj : J → GLp G mi mc ms p l e s m args below meth c Q (tgt) (pl) (st) (h) (ca) (sl)) (hn : N → GLp G mi mc ms p l e s m args below meth c Q (pc + 3) (pl) (st) (h) (ca) (sl)) (hb2 : br2 cd x y J N) : GLp G mi mc ms p l e s m args below meth c Q (pc) (pl) (.int y :: .int x :: st) (h) (ca) (sl) := by
  intro H locs ls h1 h2 h3
  cases cd
  · exact lv_icmp_eq hx hb hd ht (fun q => hj (hb2.1 q) H locs ls h1 h2 h3) (fun q => hn (hb2.2 q) H locs ls h1 h2 h3)
  · exact lv_icmp_ne hx hb hd ht (fun q => hj (hb2.1 q) H locs ls h1 h2 h3) (fun q => hn (hb2.2 q) H locs ls h1 h2 h3)
  · exact lv_icmp_lt hx hb hd ht (fun q => hj (hb2.1 q) H locs ls h1 h2 h3) (fun q => hn (hb2.2 q) H locs ls h1 h2 h3)
  · exact lv_icmp_ge hx hb hd ht (fun q => hj (hb2.1 q) H locs ls h1 h2 h3) (fun q => hn (hb2.2 q) H locs ls h1 h2 h3)
  · exact lv_icmp_gt hx hb hd ht (fun q => hj (hb2.1 q) H locs ls h1 h2 h3) (fun q => hn (hb2.2 q) H locs ls h1 h2 h3)
  · exact lv_icmp_le hx hb hd ht (fun q => hj (hb2.1 q) H locs ls h1 h2 h3) (fun q => hn (hb2.2 q) H locs ls h1 h2 h3)
theorem gq_ifnull (hx : p.tables.exec = Jvm.exec) (hb : c.code = mi.2.1) {x : Nat} {off : Int} {tgt : Nat} {st : List Value} (hd : decode mi.2.1 pc = .ok (.ifnull off, 3)) (ht : (pc : Int) + off = (tgt : Int)) (hj : x = 0 → GLp G mi mc ms p l e s m args below meth c Q (tgt) (pl) (st) (h) (ca) (sl)) (hn : ¬ x = 0 → GLp G mi mc ms p l e s m args below meth c Q (pc + 3) (pl) (st) (h) (ca) (sl)) : GLp G mi mc ms p l e s m args below meth c Q (pc) (pl) (.ref x :: st) (h) (ca) (sl) := by
  intro H locs ls h1 h2 h3
  rw [List.map_cons, show tv G (.ref x) = va_rf (rfq G x) from rfl]
  by_cases hz : x = 0
  · rw [show rfq G x = none from if_pos hz]
    exact lv_ifnullN hx hb hd ht (hj hz H locs ls h1 h2 h3)
  · rw [show rfq G x = some (ad G x) from if_neg hz]
    exact lv_ifnull hx hb hd (hn hz H locs ls h1 h2 h3)
theorem gq_ifnonnull (hx : p.tables.exec = Jvm.exec) (hb : c.code = mi.2.1) {x : Nat} {off : Int} {tgt : Nat} {st : List Value} (hd : decode mi.2.1 pc = .ok (.ifnonnull off, 3)) (ht : (pc : Int) + off = (tgt : Int)) (hj : ¬ x = 0 → GLp G mi mc ms p l e s m args below meth c Q (tgt) (pl) (st) (h) (ca) (sl)) (hn : x = 0 → GLp G mi mc ms p l e s m args below meth c Q (pc + 3) (pl) (st) (h) (ca) (sl)) : GLp G mi mc ms p l e s m args below meth c Q (pc) (pl) (.ref x :: st) (h) (ca) (sl) := by
  intro H locs ls h1 h2 h3
  rw [List.map_cons, show tv G (.ref x) = va_rf (rfq G x) from rfl]
  by_cases hz : x = 0
  · rw [show rfq G x = none from if_pos hz]
    exact lv_ifnonnullN hx hb hd (hn hz H locs ls h1 h2 h3)
  · rw [show rfq G x = some (ad G x) from if_neg hz]
    exact lv_ifnonnull hx hb hd ht (hj hz H locs ls h1 h2 h3)
theorem gq_goto (hx : p.tables.exec = Jvm.exec) (hb : c.code = mi.2.1) {off : Int} {tgt : Nat} {st : List Value} (hd : decode mi.2.1 pc = .ok (.goto off, 3)) (ht : (pc : Int) + off = (tgt : Int)) (k : GLp G mi mc ms p l e s m args below meth c Q (tgt) (pl) (st) (h) (ca) (sl)) : GLp G mi mc ms p l e s m args below meth c Q (pc) (pl) (st) (h) (ca) (sl) := by
  intro H locs ls h1 h2 h3
  exact lv_goto hx hb hd ht (k H locs ls h1 h2 h3)
end S8
