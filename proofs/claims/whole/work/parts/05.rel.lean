/-! THE PURE HEAP AND THE MACHINE'S; what is checked of the tables by program -/
abbrev GW : Type := va_G × (Nat → ClassId) × (Nat → Nat) × Heap × (Nat → Nat × (Nat → Int32))
def ad (G : GW) (k : Nat) : Nat := if k < 5 then G.2.2.1 k else G.2.2.2.1.size + (k - 5)
def rfq (G : GW) (k : Nat) : Option Nat := if k = 0 then none else some (ad G k)
def tv (G : GW) (v : Value) : Value := match v with
  | .ref k => va_rf (rfq G k)
  | v => v
def ftl (c : Nat) : List Nat := (fts[c]?).getD []
def fvl (G : GW) (h : PH) (k tc j : Nat) : Value := match tc with
  | 1 => .long (hL h k j)
  | 2 => va_rf (rfq G (hR h k j))
  | _ => .int (hI h k j)
def enO (G : GW) (h : PH) (k c : Nat) : va_E := .inr (c, (List.range (ftl c).length).map (fun j => fvl G h k ((ftl c)[j]?.getD 0) j))
def enA (G : GW) (h : PH) (k t : Nat) : va_E := .inl (G.2.1 t, hN h k, if t = 23 then .inr (.inl (hL h k)) else if 24 ≤ t then .inr (.inr (.inr (.inr (fun j => rfq G (hR h k j))))) else .inl (hI h k))
def enT (G : GW) (h : PH) (k : Nat) : va_E := if hT h k < 20 then enO G h k (hT h k) else enA G h k (hT h k)
def wsH (G : GW) (h : PH) : va_W := (List.range (hE h - 5)).map (fun i => (ad G (i + 5), enT G h (i + 5)))
def tyL (G : GW) : List (ClassId × FieldType) := [(G.2.1 20, .int), (G.2.1 21, .byte), (G.2.1 22, .boolean), (G.2.1 23, .long), (G.2.1 24, .object "FieldTower$Field"), (G.2.1 25, .object "FieldTower$Cycle"), (G.2.1 26, .object "FieldTower$Space"), (G.2.1 27, .array .int)]
def AA (G : GW) : Nat → Prop := fun q => G.2.2.2.1.size ≤ q
def WfH (h : PH) : Prop := 5 ≤ hE h ∧ hT h 0 = 99 ∧ (∀ k, 1 ≤ k → k < 5 → hT h k = 20) ∧ ∀ k, hE h ≤ k → hT h k = 99
def HRl (G : GW) (h : PH) (H : Heap) : Prop := WfH h ∧ (∀ k, 1 ≤ k → k < 5 → hN h k = (G.2.2.2.2 k).1 ∧ hI h k = (G.2.2.2.2 k).2) ∧ H.size = G.2.2.2.1.size + (hE h - 5) ∧ (∀ q, q < G.2.2.2.1.size → H[q]? = G.2.2.2.1[q]?) ∧ va_P G.1 v_cl (wsH G h) H
def va_AOA (ty : FieldType) (U : State) : Prop := (Jvm.Cond.arrayOver (.array ty)).before #[] U = true
def stN (k : Nat) : String := match k with
  | 2 => "LEAST_MODULI"
  | 3 => "WHOLE_POLYNOMIALS"
  | _ => "NORMAL_ELEMENTS"
def isNw : Jvm.Cond → Bool
  | .fieldLinkNest _ _ _ _ _ _ => true
  | .methodLinkNest _ _ _ _ => true
  | _ => false
def tbN : List Jvm.Cond := lw_tbl.filter isNw
def VRl (G : GW) (s : State) : Prop :=
  va_K G.1 v_cl (tyL G) s ∧ (∀ k, 1 ≤ k → k < 5 → va_T .int (G.2.2.1 k) (G.2.2.2.2 k).1 (fun j => .int ((G.2.2.2.2 k).2 j)) (AA G) s G.2.2.2.1) ∧
  (∀ k, 2 ≤ k → k < 5 → va_Z "FieldTower" (stN k) "[I" (.ref (G.2.2.1 k)) (AA G) s G.2.2.2.1) ∧
  va_AO "FieldTower$Field" s ∧ va_AO "FieldTower$Cycle" s ∧ va_AO "FieldTower$Space" s ∧ va_AOA .int s ∧ (∀ w ∈ tbN, va_Nw w s)
def tbG : List Jvm.Cond := lw_tbl.filter goodWord
def wsU (mi : MI) : List Jvm.Cond := Jvm.Cond.code mi.1 mi.2.1 mi.2.2.1 mi.2.2.2.1 :: tbG
def PcU (G : GW) (as : List Value) (h : PH) : Array Value → State → Prop := fun v U => v = (as.map (tv G)).toArray ∧ HRl G h U.heap ∧ VRl G U
def QcU (G : GW) (ret : Option FieldType) (K : PK) : Array Value → State → Outcome → State → Prop := fun _ st o t => st.heap.size ≤ t.heap.size ∧ ∃ r h', K r h' ∧ o = .returned (match ret with | none => none | some _ => some (tv G r)) ∧ HRl G h' t.heap
def rmU (mi : MI) (mc ms : Nat) : Room := { frames := mi.2.2.2.2.2.1, cells := mc, slots := ms, locals := mi.2.2.2.2.2.2.1 }
/-- a call of method i, with these arguments and this heap, comes back with K -/
def PMd (i : Nat) (as : List Value) (h : PH) (K : PK) : Prop := ∀ (l : Launch) (G : GW) (q : List Ent × Nat × Nat) (mi : MI), progs[i]? = some q → mis[i]? = some mi → Met l mi.1 (wsU mi) (rmU mi q.2.1 q.2.2) (PcU G as h) (QcU G mi.2.2.2.1 K) q.2.1 q.2.2 (AA G)
/-- what holds throughout a method's run -/
def CXm (mi : MI) (p : Program) (s : State) (m : MethodId) (args : Array Value) (meth : Method) (c : Code) : Prop :=
  p.tables.exec = Jvm.exec ∧ c.code = mi.2.1 ∧ c.maxLocals = mi.2.2.1 ∧ (∀ w ∈ tbG, w.before args s = true) ∧ s.vm.findClass mi.1.cls = some m.cls ∧ meth.locks = false ∧ (mi.1.name = "<init>" → meth.name = "<init>")
def LRl (G : GW) (pl : PL) (ls : Array Slot) (n : Nat) : Prop := ls.size = n ∧ lv_wf ls ∧ ∀ (i : Nat) (v : Value), pl[i]? = some (some v) → ls[i]? = some (.val (tv G v))
def pcA (mi : MI) (ix : Nat) : Option (Nat × Instr × Nat × Nat) := mi.2.2.2.2.1[ix]?
/-- what a return needs -/
def ROK (G : GW) (mi : MI) (mc ms : Nat) (K : PK) (p : Program) (l : Launch) (e : Env) (R : Room) (s : State) (m : MethodId) (args : Array Value) (below : List Frame) (meth : Method) (c : Code) (Q : State → Prop) : Prop :=
  ∀ (r : Value) (h : PH) (H : Heap) (locs : List Loc) (ca sl : Nat) (ls : Array Slot) (pc : Nat), K r h → HRl G h H → va_S (AA G) s.heap H locs → ca ≤ mc → sl ≤ ms →
    (∀ x : Int32, r = .int x → decode mi.2.1 pc = .ok (.ireturn, 1) → (mi.2.2.2.1 = some .int ∨ (mi.2.2.2.1 = some .boolean ∧ (x = 0 ∨ x = 1))) → W p l e R s m args below meth c H locs ca sl Q (F0 m pc ls [.int x])) ∧
    (∀ x : Int64, r = .long x → decode mi.2.1 pc = .ok (.lreturn, 1) → mi.2.2.2.1 = some .long → W p l e R s m args below meth c H locs ca sl Q (F0 m pc ls [.long x])) ∧
    (r = .null → decode mi.2.1 pc = .ok (.return_, 1) → mi.2.2.2.1 = none → W p l e R s m args below meth c H locs ca sl Q (F0 m pc ls []))
/-- method i at place ix, with these locals, this stack and heap, comes to its end with K -/
def PWd (i ix : Nat) (pl : PL) (st : List Value) (h : PH) (ca sl : Nat) (K : PK) : Prop :=
  ∀ (q : List Ent × Nat × Nat) (mi : MI) (x : Nat × Instr × Nat × Nat), progs[i]? = some q → mis[i]? = some mi → pcA mi ix = some x →
  ∀ (l : Launch) (G : GW) (p : Program) (e : Env) (s : State) (m : MethodId) (args : Array Value) (below : List Frame) (meth : Method) (c : Code) (H : Heap) (locs : List Loc) (ls : Array Slot) (Q : State → Prop),
    CXm mi p s m args meth c → HRl G h H → VRl G s → va_S (AA G) s.heap H locs → G.2.2.2.1.size ≤ s.heap.size → (∀ q, q < G.2.2.2.1.size → s.heap[q]? = G.2.2.2.1[q]?) → LRl G pl ls mi.2.2.1 → ROK G mi q.2.1 q.2.2 K p l e (rmU mi q.2.1 q.2.2) s m args below meth c Q →
    W p l e (rmU mi q.2.1 q.2.2) s m args below meth c H locs ca sl Q (F0 m x.1 ls (st.map (tv G)))
/-! what the program checks: an instruction's raw form, its words, its targets -/
def tbA (pl : Nat) (w : Jvm.Cond) : Bool := decide (lw_tbl[pl]? = some w) && goodWord w
def tbB (pl : Nat) (w : Jvm.Cond) : Bool := decide (lw_tbl[pl]? = some w) && isNw w
def ck_n (mi : MI) (ix pc len : Nat) : Bool := match pcA mi (ix + 1) with
  | some y => y.1 == pc + len
  | none => false
def ck_j (mi : MI) (pc : Nat) (off : Int) (t : Nat) : Bool := match pcA mi t with
  | some y => decide ((pc : Int) + off = (y.1 : Int))
  | none => false
def ck_sw (mi : MI) (pc : Nat) : List (Int × Int) → List (Int32 × Nat) → Bool
  | [], [] => true
  | (v, off) :: a, (u, t) :: b => decide (Int32.ofInt v = u) && decide (u.toInt = v) && ck_j mi pc off t && ck_sw mi pc a b
  | _, _ => false
def ck_call (mi : MI) (mc ms ea nargs ec : Nat) (tl : List (Int32 × Nat)) (idx pl : Nat) (stat : Bool) : Bool := match mis[ea]?, progs[ea]? with
  | some cm, some cq => (tbA pl (.methodLink mi.1.cls idx cm.1) || tbB pl (.methodLinkNest mi.1.cls idx cm.1 "FieldTower")) &&
      tbA cm.2.2.2.2.2.2.2.2.2.1 (.code cm.1 cm.2.1 cm.2.2.1 cm.2.2.2.1) &&
      tbA cm.2.2.2.2.2.2.2.2.2.2.2.2 (.initialized cm.1.cls) && decide (cm.1.cls ≠ "java/lang/invoke/MethodHandle" ∧ cm.1.cls ≠ "java/lang/invoke/VarHandle") &&
      decide ((parseMethodDescriptor cm.1.desc).map (fun d => d.parameters.length) = some cm.2.2.2.2.2.2.2.2.1) && plainFor cm.1 &&
      Nat.ble (cm.2.2.2.2.2.1 + 1) mi.2.2.2.2.2.1 && Nat.ble (8 + (cm.2.2.1 + 11) + cm.2.2.2.2.2.2.1) mi.2.2.2.2.2.2.1 &&
      decide (cm.2.2.2.2.2.2.2.1 = stat) && decide (nargs = cm.2.2.2.2.2.2.2.2.1) && decide (tl_c tl = (cq.2.1, cq.2.2)) &&
      decide ((ec = 0) ↔ cm.2.2.2.1 = none) && (if stat then tbA cm.2.2.2.2.2.2.2.2.2.2.1 (.static cm.1) else tbA cm.2.2.2.2.2.2.2.2.2.2.1 (.instanceMethod cm.1))
  | _, _ => false
def tagTy (t : Nat) : FieldType := match t with
  | 20 => .int
  | 21 => .byte
  | 22 => .boolean
  | 23 => .long
  | _ => .int
def tagCl (t : Nat) : String := match t with
  | 24 => "FieldTower$Field"
  | 25 => "FieldTower$Cycle"
  | _ => "FieldTower$Space"
def isRfT (o : Option FieldType) : Bool := match o with
  | some (.object _) => true
  | some (.array _) => true
  | _ => false
def ck_e (mi : MI) (q : List Ent × Nat × Nat) (e : Ent) (pc : Nat) (raw : Instr) (len pl : Nat) : Bool := match e with
  | (ix, ins, ea, eb, ec, ev, ew, tl) => match ins with
  | .sipush _ => ck_n mi ix pc len && (match raw with
    | .iconst n => len == 1 && decide (Int32.ofInt n = ev)
    | .bipush n => len == 2 && decide ((Int8.ofInt n).toInt32 = ev)
    | .sipush n => len == 3 && decide ((Int16.ofInt n).toInt32 = ev)
    | .ldc idx => len == 2 && tbA pl (.constant mi.1.cls idx ev)
    | .ldc_w idx => len == 3 && tbA pl (.constant mi.1.cls idx ev)
    | _ => false)
  | .ldc2_w _ => ck_n mi ix pc len && (match raw with
    | .lconst n => len == 1 && decide (Int64.ofNat (n : Nat) = ew)
    | .ldc2_w idx => len == 3 && tbA pl (.constantLong mi.1.cls idx ew)
    | _ => false)
  | .iload i => ck_n mi ix pc len && (match raw with
    | .iload j => len == 2 && i == j
    | .iload_n k => len == 1 && i == (k : Nat)
    | _ => false)
  | .lload i => ck_n mi ix pc len && (match raw with
    | .lload j => len == 2 && i == j
    | .lload_n k => len == 1 && i == (k : Nat)
    | _ => false)
  | .aload i => ck_n mi ix pc len && (match raw with
    | .aload j => len == 2 && i == j
    | .aload_n k => len == 1 && i == (k : Nat)
    | _ => false)
  | .istore i => ck_n mi ix pc len && Nat.blt i mi.2.2.1 && (match raw with
    | .istore j => len == 2 && i == j
    | .istore_n k => len == 1 && i == (k : Nat)
    | _ => false)
  | .lstore i => ck_n mi ix pc len && Nat.blt (i + 1) mi.2.2.1 && (match raw with
    | .lstore j => len == 2 && i == j
    | .lstore_n k => len == 1 && i == (k : Nat)
    | _ => false)
  | .astore i => ck_n mi ix pc len && Nat.blt i mi.2.2.1 && (match raw with
    | .astore j => len == 2 && i == j
    | .astore_n k => len == 1 && i == (k : Nat)
    | _ => false)
  | .iinc i _ => ck_n mi ix pc len && Nat.blt i mi.2.2.1 && (match raw with
    | .iinc j n => len == 3 && i == j && decide (Int32.ofInt n = ev)
    | _ => false)
  | .ifCond c _ => ck_n mi ix pc len && (match raw with
    | .ifCond c' off => len == 3 && decide (c = c') && ck_j mi pc off ea
    | _ => false)
  | .if_icmp c _ => ck_n mi ix pc len && (match raw with
    | .if_icmp c' off => len == 3 && decide (c = c') && ck_j mi pc off ea
    | _ => false)
  | .ifnull _ => ck_n mi ix pc len && (match raw with
    | .ifnull off => len == 3 && ck_j mi pc off ea
    | _ => false)
  | .ifnonnull _ => ck_n mi ix pc len && (match raw with
    | .ifnonnull off => len == 3 && ck_j mi pc off ea
    | _ => false)
  | .goto _ => (match raw with
    | .goto off => len == 3 && ck_j mi pc off ea
    | _ => false)
  | .lookupswitch _ _ => (match raw with
    | .lookupswitch d ps => (ps.toList.zip (ps.toList.drop 1)).all (fun (a, next) => a.1 < next.1) && ck_j mi pc d ea && ck_sw mi pc ps.toList tl
    | .tableswitch d lo hi offs => decide (lo + offs.size = hi + 1) && ck_j mi pc d ea && ck_sw mi pc ((List.range offs.size).map (fun (j : Nat) => (lo + (j : Int), offs[j]?.getD 0))) tl
    | _ => false)
  | .getfield _ => ck_n mi ix pc len && (match raw, v_cl[ec]? with
    | .getfield idx, some (C, T, N) => len == 3 && Nat.blt ea N && (tbA pl (.fieldLink mi.1.cls idx C (T ea).2.1 (T ea).2.2.1) || tbB pl (.fieldLinkNest mi.1.cls idx C (T ea).2.1 (T ea).2.2.1 "FieldTower")) && decide ((T ea).1 = C) && Nat.blt ec 11 && decide ((ftl ec).length = N) && (match (ftl ec)[ea]? with
      | some 0 => eb == 0
      | some 1 => eb == 1
      | some 2 => eb == 2
      | some 3 => eb == 0
      | _ => false)
    | _, _ => false)
  | .putfield _ => ck_n mi ix pc len && (match raw, v_cl[ec]? with
    | .putfield idx, some (C, T, N) => len == 3 && Nat.blt ea N && tbA pl (.fieldLink mi.1.cls idx C (T ea).2.1 (T ea).2.2.1) && decide ((T ea).1 = C) && Nat.blt ec 11 && decide ((ftl ec).length = N) && decide ((ftl ec)[ea]? = some eb) &&
        (decide ((T ea).2.2.2 = false) || (decide ((T ea).2.2.2 = true) && decide (mi.1.name = "<init>") && decide (C = mi.1.cls))) && decide (parseFieldDescriptor (T ea).2.2.1 = some (match eb with
          | 0 => .int
          | 1 => .long
          | 3 => .boolean
          | _ => ((parseFieldDescriptor (T ea).2.2.1).getD .int))) && (eb != 2 || isRfT (parseFieldDescriptor (T ea).2.2.1))
    | _, _ => false)
  | .getstatic _ => ck_n mi ix pc len && (match raw with
    | .getstatic idx => len == 3 && Nat.ble 2 ea && Nat.blt ea 5 && (tbA pl (.fieldLink mi.1.cls idx "FieldTower" (stN ea) "[I") || tbB pl (.fieldLinkNest mi.1.cls idx "FieldTower" (stN ea) "[I" "FieldTower"))
    | _ => false)
  | .new _ => ck_n mi ix pc len && (match raw, v_cl[ea]? with
    | .new idx, some (C, _, N) => len == 3 && N == eb && tbA pl (.classLink mi.1.cls idx C) && Nat.blt ea 11 && decide ((ftl ea).length = N)
    | _, _ => false)
  | .newarray a => ck_n mi ix pc len && (match raw with
    | .newarray a' => len == 2 && decide (a = a') && Nat.ble 20 ea && Nat.ble ea 23 && decide (newarray.typeOf a = tagTy ea) && Nat.ble eb 10000
    | _ => false)
  | .anewarray _ => ck_n mi ix pc len && (match raw with
    | .anewarray idx => len == 3 && Nat.ble 24 ea && Nat.ble ea 26 && tbA pl (.classLink mi.1.cls idx (tagCl ea)) && Nat.ble eb 10000
    | _ => false)
  | .multianewarray _ _ => ck_n mi ix pc len && (match raw with
    | .multianewarray idx 2 => len == 4 && tbA pl (.classLink mi.1.cls idx "[[I") && Nat.ble eb 1000 && Nat.ble ec 1000
    | _ => false)
  | .invokevirtual _ => ck_n mi ix pc len && (match raw, mis[ea]? with
    | .invokevirtual idx, some cm => len == 3 && ck_call mi q.2.1 q.2.2 ea (eb - 1) ec tl idx pl false && Nat.ble 1 eb && decide ((v_cl[tl_g tl]?).map (fun r => r.1) = some cm.1.cls) && Nat.blt (tl_g tl) 11 && tbA cm.2.2.2.2.2.2.2.2.2.2.2.1 (.selects cm.1.cls cm.1 cm.1) && decide (tbA pl (.methodLink mi.1.cls idx cm.1) = true)
    | _, _ => false)
  | .invokespecial _ => ck_n mi ix pc len && (match raw, mis[ea]? with
    | .invokespecial idx, some cm => len == 3 && (if ec = 9 then tbA pl (.methodLink mi.1.cls idx objectInit) && Nat.ble 1 mi.2.2.2.2.2.1 && Nat.ble 20 mi.2.2.2.2.2.2.1 else
        ck_call mi q.2.1 q.2.2 ea (eb - 1) ec tl idx pl false && Nat.ble 1 eb && decide (cm.1.name = "<init>") && decide (cm.2.2.2.1 = none) && decide (tbA pl (.methodLink mi.1.cls idx cm.1) = true))
    | _, _ => false)
  | .invokestatic _ => ck_n mi ix pc len && (match raw with
    | .invokestatic idx => len == 3 && (if ec = 8 then tbA pl (.methodLink mi.1.cls idx arraycopyName) && Nat.ble 1 mi.2.2.2.2.2.1 && Nat.ble (8 + 18) mi.2.2.2.2.2.2.1 else ck_call mi q.2.1 q.2.2 ea eb ec tl idx pl true)
    | _ => false)
  | .ireturn => decide (raw = .ireturn) && len == 1 && ((ea == 0 && decide (mi.2.2.2.1 = some .int)) || (ea == 1 && decide (mi.2.2.2.1 = some .boolean)))
  | .lreturn => decide (raw = .lreturn) && len == 1 && decide (mi.2.2.2.1 = some .long)
  | .return_ => decide (raw = .return_) && len == 1 && decide (mi.2.2.2.1 = none)
  | n => ck_n mi ix pc len && decide (raw = n) && len == 1
def ck_at (mi : MI) (q : List Ent × Nat × Nat) (k : Nat) : Bool := match pcA mi k, q.1[k]? with
  | some (pc, raw, len, pl), some e => decide (decode mi.2.1 pc = .ok (raw, len)) && e.1 == k && ck_e mi q e pc raw len pl
  | _, _ => false
def ck_l (i : Nat) : Bool := match mis[i]?, progs[i]? with
  | some mi, some q => decide (mi.2.2.2.2.1.length = q.1.length) && plainFor mi.1 && decide ((pcA mi 0).map (fun x => x.1) = some 0)
  | _, _ => false
def ck_r (i a n : Nat) : Bool := match mis[i]?, progs[i]? with
  | some mi, some q => (List.range n).all (fun k => ck_at mi q (a + k))
  | _, _ => false
/-- all of a method is checked -/
def CkM (i : Nat) : Prop := ∀ (mi : MI) (q : List Ent × Nat × Nat), mis[i]? = some mi → progs[i]? = some q → mi.2.2.2.2.1.length = q.1.length ∧ plainFor mi.1 = true ∧ (∀ k, k < q.1.length → ck_at mi q k = true) ∧ ∃ x, pcA mi 0 = some x ∧ x.1 = 0
theorem ck_r_use {i a n : Nat} (h : ck_r i a n = true) {mi : MI} {q : List Ent × Nat × Nat} (hm : mis[i]? = some mi) (hq : progs[i]? = some q) {k : Nat} (h1 : a ≤ k) (h2 : k < a + n) : ck_at mi q k = true := by
  unfold ck_r at h
  rw [hm, hq] at h
  have := List.all_eq_true.mp h (k - a) (List.mem_range.mpr (by omega))
  rw [show a + (k - a) = k by omega] at this
  exact this
theorem ck_l_use {i : Nat} (h : ck_l i = true) {mi : MI} {q : List Ent × Nat × Nat} (hm : mis[i]? = some mi) (hq : progs[i]? = some q) : mi.2.2.2.2.1.length = q.1.length ∧ plainFor mi.1 = true ∧ ∃ x, pcA mi 0 = some x ∧ x.1 = 0 := by
  unfold ck_l at h
  rw [hm, hq] at h
  simp only [Bool.and_eq_true, decide_eq_true_eq] at h
  refine ⟨h.1.1, h.1.2, ?_⟩
  have h2 := h.2
  cases hp : pcA mi 0 with
  | none => rw [hp] at h2; cases h2
  | some x => rw [hp] at h2; exact ⟨x, rfl, Option.some.inj h2⟩
theorem ck_r_app {i a n1 n2 : Nat} (h1 : ck_r i a n1 = true) (h2 : ck_r i (a + n1) n2 = true) : ck_r i a (n1 + n2) = true := by
  unfold ck_r at *
  split at h1
  · rename_i mi q hm hq
    rw [hm, hq] at h2
    rw [List.all_eq_true] at h1 h2 ⊢
    intro k hk
    have hk := List.mem_range.mp hk
    by_cases hlt : k < n1
    · exact h1 k (List.mem_range.mpr hlt)
    · have := h2 (k - n1) (List.mem_range.mpr (by omega))
      rw [show a + n1 + (k - n1) = a + k by omega] at this
      exact this
  · cases h1
theorem ckM_of {i n : Nat} (hl : ck_l i = true) (hr : ck_r i 0 n = true) (hn : (progs[i]?).map (fun q => q.1.length) = some n) : CkM i := by
  intro mi q hm hq
  obtain ⟨h1, h2, h3⟩ := ck_l_use hl hm hq
  rw [hq] at hn
  have hn : q.1.length = n := Option.some.inj hn
  exact ⟨h1, h2, fun k hk => ck_r_use hr hm hq (Nat.zero_le _) (by omega), h3⟩
