/-! THE PURE MACHINE: a heap of three functions, and a predicate transformer over linked instructions.
A pure heap: the shape of each cell (its tag, its length), ints, longs, references (0 is null), and the next free cell.
Tags: 0 .. 10 classes, 20 int[], 21 byte[], 22 boolean[], 23 long[], 24 Field[], 25 Cycle[], 26 Space[], 27 int[][], 99 nothing. Cells 1 .. 4: the script and three static rows, which are read only. -/
abbrev PH : Type := (Nat → Nat × Nat) × (Nat → Nat → Int32) × (Nat → Nat → Int64) × (Nat → Nat → Nat) × Nat
def hT (h : PH) (k : Nat) : Nat := (h.1 k).1
def hN (h : PH) (k : Nat) : Nat := (h.1 k).2
def hI (h : PH) : Nat → Nat → Int32 := h.2.1
def hL (h : PH) : Nat → Nat → Int64 := h.2.2.1
def hR (h : PH) : Nat → Nat → Nat := h.2.2.2.1
def hE (h : PH) : Nat := h.2.2.2.2
def up1 {α : Type} (f : Nat → α) (k : Nat) (v : α) : Nat → α := fun k' => if k' = k then v else f k'
def up2 {α : Type} (f : Nat → Nat → α) (k j : Nat) (v : α) : Nat → Nat → α := fun k' j' => if k' = k ∧ j' = j then v else f k' j'
def sI (h : PH) (k j : Nat) (v : Int32) : PH := (h.1, up2 (hI h) k j v, hL h, hR h, hE h)
def sL (h : PH) (k j : Nat) (v : Int64) : PH := (h.1, hI h, up2 (hL h) k j v, hR h, hE h)
def sR (h : PH) (k j : Nat) (v : Nat) : PH := (h.1, hI h, hL h, up2 (hR h) k j v, hE h)
/-- a new cell -/
def hNew (h : PH) (t n : Nat) : PH := (up1 h.1 (hE h) (t, n), up1 (hI h) (hE h) (fun _ => 0), up1 (hL h) (hE h) (fun _ => 0), up1 (hR h) (hE h) (fun _ => 0), hE h + 1)
/-- new T[n][m] -/
def hNewM (h : PH) (t n t2 m : Nat) : PH :=
  (fun k => if k = hE h then (t, n) else if hE h < k ∧ k ≤ hE h + n then (t2, m) else h.1 k,
   fun k j => if hE h ≤ k ∧ k ≤ hE h + n then 0 else hI h k j,
   fun k j => if hE h ≤ k ∧ k ≤ hE h + n then 0 else hL h k j,
   fun k j => if k = hE h then (if j < n then hE h + 1 + j else 0) else if hE h < k ∧ k ≤ hE h + n then 0 else hR h k j,
   hE h + 1 + n)
/-- System.arraycopy of ints -/
def sCp (h : PH) (k0 p0 k1 p1 n : Nat) : PH := (h.1, fun k j => if k = k1 ∧ p1 ≤ j ∧ j < p1 + n then hI h k0 (p0 + (j - p1)) else hI h k j, hL h, hR h, hE h)
/-- an index in an array of a kind -/
def inB (h : PH) (k t : Nat) (i : Int32) : Prop := hT h k = t ∧ ¬ i < 0 ∧ i.toNatClampNeg < hN h k
/-- what a store into a row of bytes or booleans keeps -/
def nrB (t : Nat) (x : Int32) : Int32 := if t = 21 then x.toInt8.toInt32 else x &&& 1
/-- a linked instruction: its place, the instruction in one of the forms below, numbers, constants, targets -/
abbrev Ent : Type := Nat × Instr × Nat × Nat × Nat × Int32 × Int64 × List (Int32 × Nat)
abbrev PK : Type := Value → PH → Prop
abbrev PL : Type := List (Option Value)
abbrev PSem : Type := (Nat → List Value → PH → PK → Prop) × (Nat → Nat → PL → List Value → PH → Nat → Nat → PK → Prop)
def lgt (pl : PL) (i : Nat) : Value := match pl[i]? with
  | some (some v) => v
  | _ => .retAddr 0
def lcl (pl : PL) (i : Nat) : PL := match i with
  | 0 => pl
  | j + 1 => match pl[j]? with
    | some (some (.long _)) => pl.set j none
    | some (some (.double _)) => pl.set j none
    | _ => pl
def ls1 (pl : PL) (i : Nat) (v : Value) : PL := (lcl pl i).set i (some v)
def ls2 (pl : PL) (i : Nat) (v : Value) : PL := ((lcl pl i).set i (some v)).set (i + 1) none
/-- only what is still wanted -/
def lmk : List (Int32 × Nat) → PL → PL
  | (_, 0) :: m, _ :: l => none :: lmk m l
  | (_, _ + 1) :: m, a :: l => a :: lmk m l
  | [], l => l
  | _, [] => []
def ctg : List Value → Nat
  | [] => 0
  | .long _ :: l => 2 + ctg l
  | .double _ :: l => 2 + ctg l
  | _ :: l => 1 + ctg l
def popn : Nat → List Value → List Value → Option (List Value × List Value)
  | 0, st, acc => some (acc, st)
  | n + 1, v :: st, acc => popn n st (v :: acc)
  | _ + 1, [], _ => none
def o_ii (f : Int32 → Int32 → Int32) (st : List Value) (k : List Value → Prop) : Prop := match st with
  | .int y :: .int x :: s => k (.int (f x y) :: s)
  | _ => False
def o_iin (f : Int32 → Int32 → Int32) (st : List Value) (k : List Value → Prop) : Prop := match st with
  | .int y :: .int x :: s => (¬ y = 0) ∧ k (.int (f x y) :: s)
  | _ => False
def o_ll (f : Int64 → Int64 → Int64) (st : List Value) (k : List Value → Prop) : Prop := match st with
  | .long y :: .long x :: s => k (.long (f x y) :: s)
  | _ => False
def o_lln (f : Int64 → Int64 → Int64) (st : List Value) (k : List Value → Prop) : Prop := match st with
  | .long y :: .long x :: s => (¬ y = 0) ∧ k (.long (f x y) :: s)
  | _ => False
def o_li (f : Int64 → Int32 → Int64) (st : List Value) (k : List Value → Prop) : Prop := match st with
  | .int y :: .long x :: s => k (.long (f x y) :: s)
  | _ => False
def i_rem (x y : Int32) : Int32 := x - x / y * y
def l_rem (x y : Int64) : Int64 := x - x / y * y
def i_shl (x y : Int32) : Int32 := x <<< (y &&& 31)
def i_shr (x y : Int32) : Int32 := x >>> (y &&& 31)
def i_ushr (x y : Int32) : Int32 := (x.toUInt32 >>> (y.toUInt32 &&& Int32.toUInt32 31)).toInt32
def l_shl (x : Int64) (y : Int32) : Int64 := x <<< (y.toInt64 &&& 63)
def l_shr (x : Int64) (y : Int32) : Int64 := x >>> (y.toInt64 &&& 63)
def l_cmp (x y : Int64) : Int32 := if x > y then 1 else if x = y then 0 else -1
def br1 (c : Jvm.ClassFile.Cond) (x : Int32) (J N : Prop) : Prop := match c with
  | .eq => (x = 0 → J) ∧ (¬ x = 0 → N)
  | .ne => (¬ x = 0 → J) ∧ (x = 0 → N)
  | .lt => (x < 0 → J) ∧ (¬ x < 0 → N)
  | .ge => (0 ≤ x → J) ∧ (¬ 0 ≤ x → N)
  | .gt => (0 < x → J) ∧ (¬ 0 < x → N)
  | .le => (x ≤ 0 → J) ∧ (¬ x ≤ 0 → N)
def br2 (c : Jvm.ClassFile.Cond) (x y : Int32) (J N : Prop) : Prop := match c with
  | .eq => (x = y → J) ∧ (¬ x = y → N)
  | .ne => (¬ x = y → J) ∧ (x = y → N)
  | .lt => (x < y → J) ∧ (¬ x < y → N)
  | .ge => (y ≤ x → J) ∧ (¬ y ≤ x → N)
  | .gt => (y < x → J) ∧ (¬ y < x → N)
  | .le => (x ≤ y → J) ∧ (¬ x ≤ y → N)
def swp (x : Int32) (J : Nat → Prop) (d : Nat) : List (Int32 × Nat) → Prop
  | [] => J d
  | (v, t) :: l => (x = v → J t) ∧ (¬ x = v → swp x J d l)
def tl_g (l : List (Int32 × Nat)) : Nat := match l with
  | (_, a) :: _ => a
  | _ => 0
def tl_c (l : List (Int32 × Nat)) : Nat × Nat := match l with
  | _ :: (_, a) :: (_, b) :: _ => (a, b)
  | _ => (0, 0)
def b_if (b : Bool) (k : Prop) : Prop := match b with
  | true => k
  | false => False
def c_eq (n m : Nat) (x y : Prop) : Prop := match Nat.beq n m with
  | true => x
  | false => y
def p_if {α : Type} (o : Option α) (k : α → Prop) : Prop := match o with
  | some a => k a
  | none => False
def s_i (st : List Value) (k : Int32 → List Value → Prop) : Prop := match st with
  | .int x :: s => k x s
  | _ => False
def s_l (st : List Value) (k : Int64 → List Value → Prop) : Prop := match st with
  | .long x :: s => k x s
  | _ => False
def s_r (st : List Value) (k : Nat → List Value → Prop) : Prop := match st with
  | .ref x :: s => k x s
  | _ => False
def s_n (st : List Value) (k : Prop) : Prop := match st with
  | [] => k
  | _ => False
def pshE (n : Nat) (r : Value) (s : List Value) : List Value := match n with
  | 0 => s
  | _ => r :: s
abbrev PGo : Type := PL → List Value → PH → Nat → Nat → Prop
/-- one instruction: nx goes on behind it, jp at a place; mc, ms: what the method may make -/
def stp (P : PSem) (mc ms : Nat) (K : PK) (e : Ent) (nx : PGo) (jp : Nat → List (Int32 × Nat) → PGo) (pl : PL) (st : List Value) (h : PH) (ca sl : Nat) : Prop :=
  match e with
  | (_, ins, ea, eb, ec, ev, ew, tl) => match ins with
  | .sipush _ => nx pl (.int ev :: st) h ca sl
  | .ldc2_w _ => nx pl (.long ew :: st) h ca sl
  | .iload i => match lgt pl i with
    | .int x => nx pl (.int x :: st) h ca sl
    | _ => False
  | .lload i => match lgt pl i with
    | .long x => nx pl (.long x :: st) h ca sl
    | _ => False
  | .aload i => match lgt pl i with
    | .ref x => nx pl (.ref x :: st) h ca sl
    | _ => False
  | .istore i => match st with
    | .int x :: s => nx (ls1 pl i (.int x)) s h ca sl
    | _ => False
  | .lstore i => match st with
    | .long x :: s => nx (ls2 pl i (.long x)) s h ca sl
    | _ => False
  | .astore i => match st with
    | .ref x :: s => nx (ls1 pl i (.ref x)) s h ca sl
    | _ => False
  | .iinc i _ => match lgt pl i with
    | .int x => nx (ls1 pl i (.int (x + ev))) st h ca sl
    | _ => False
  | .iadd => o_ii (fun x y => x + y) st (fun s => nx pl s h ca sl)
  | .isub => o_ii (fun x y => x - y) st (fun s => nx pl s h ca sl)
  | .imul => o_ii (fun x y => x * y) st (fun s => nx pl s h ca sl)
  | .iand => o_ii (fun x y => x &&& y) st (fun s => nx pl s h ca sl)
  | .ior => o_ii (fun x y => x ||| y) st (fun s => nx pl s h ca sl)
  | .ixor => o_ii (fun x y => x ^^^ y) st (fun s => nx pl s h ca sl)
  | .ishl => o_ii i_shl st (fun s => nx pl s h ca sl)
  | .ishr => o_ii i_shr st (fun s => nx pl s h ca sl)
  | .iushr => o_ii i_ushr st (fun s => nx pl s h ca sl)
  | .idiv => o_iin (fun x y => x / y) st (fun s => nx pl s h ca sl)
  | .irem => o_iin i_rem st (fun s => nx pl s h ca sl)
  | .ladd => o_ll (fun x y => x + y) st (fun s => nx pl s h ca sl)
  | .lmul => o_ll (fun x y => x * y) st (fun s => nx pl s h ca sl)
  | .land => o_ll (fun x y => x &&& y) st (fun s => nx pl s h ca sl)
  | .lxor => o_ll (fun x y => x ^^^ y) st (fun s => nx pl s h ca sl)
  | .ldiv => o_lln (fun x y => x / y) st (fun s => nx pl s h ca sl)
  | .lrem => o_lln l_rem st (fun s => nx pl s h ca sl)
  | .lshl => o_li l_shl st (fun s => nx pl s h ca sl)
  | .lshr => o_li l_shr st (fun s => nx pl s h ca sl)
  | .lneg => match st with
    | .long x :: s => nx pl (.long (-x) :: s) h ca sl
    | _ => False
  | .lcmp => match st with
    | .long y :: .long x :: s => nx pl (.int (l_cmp x y) :: s) h ca sl
    | _ => False
  | .i2l => match st with
    | .int x :: s => nx pl (.long x.toInt64 :: s) h ca sl
    | _ => False
  | .l2i => match st with
    | .long x :: s => nx pl (.int x.toInt32 :: s) h ca sl
    | _ => False
  | .i2b => match st with
    | .int x :: s => nx pl (.int x.toInt8.toInt32 :: s) h ca sl
    | _ => False
  | .dup => match st with
    | .int x :: s => nx pl (.int x :: .int x :: s) h ca sl
    | .ref x :: s => nx pl (.ref x :: .ref x :: s) h ca sl
    | _ => False
  | .dup2 => match st with
    | .int x :: .ref y :: s => nx pl (.int x :: .ref y :: .int x :: .ref y :: s) h ca sl
    | _ => False
  | .pop => match st with
    | .int _ :: s => nx pl s h ca sl
    | .ref _ :: s => nx pl s h ca sl
    | _ => False
  | .ifCond c _ => match st with
    | .int x :: s => br1 c x (jp ea tl pl s h ca sl) (nx pl s h ca sl)
    | _ => False
  | .if_icmp c _ => match st with
    | .int y :: .int x :: s => br2 c x y (jp ea tl pl s h ca sl) (nx pl s h ca sl)
    | _ => False
  | .ifnull _ => match st with
    | .ref x :: s => (x = 0 → jp ea tl pl s h ca sl) ∧ (¬ x = 0 → nx pl s h ca sl)
    | _ => False
  | .ifnonnull _ => match st with
    | .ref x :: s => (¬ x = 0 → jp ea tl pl s h ca sl) ∧ (x = 0 → nx pl s h ca sl)
    | _ => False
  | .goto _ => jp ea tl pl st h ca sl
  | .lookupswitch _ _ => match st with
    | .int x :: s => swp x (fun t => jp t [] pl s h ca sl) ea tl
    | _ => False
  | .getfield _ => match st with
    | .ref k :: s => hT h k = ec ∧ (match eb with
      | 0 => nx pl (.int (hI h k ea) :: s) h ca sl
      | 1 => nx pl (.long (hL h k ea) :: s) h ca sl
      | _ => nx pl (.ref (hR h k ea) :: s) h ca sl)
    | _ => False
  | .putfield _ => match eb, st with
    | 0, .int v :: .ref k :: s => hT h k = ec ∧ nx pl s (sI h k ea v) ca sl
    | 1, .long v :: .ref k :: s => hT h k = ec ∧ nx pl s (sL h k ea v) ca sl
    | 2, .ref v :: .ref k :: s => hT h k = ec ∧ nx pl s (sR h k ea v) ca sl
    | 3, .int v :: .ref k :: s => (hT h k = ec ∧ (v = 0 ∨ v = 1)) ∧ nx pl s (sI h k ea v) ca sl
    | _, _ => False
  | .getstatic _ => nx pl (.ref ea :: st) h ca sl
  | .iaload => match st with
    | .int i :: .ref k :: s => inB h k 20 i ∧ nx pl (.int (hI h k i.toNatClampNeg) :: s) h ca sl
    | _ => False
  | .baload => match st with
    | .int i :: .ref k :: s => (inB h k 21 i ∨ inB h k 22 i) ∧ nx pl (.int (hI h k i.toNatClampNeg) :: s) h ca sl
    | _ => False
  | .laload => match st with
    | .int i :: .ref k :: s => inB h k 23 i ∧ nx pl (.long (hL h k i.toNatClampNeg) :: s) h ca sl
    | _ => False
  | .aaload => match st with
    | .int i :: .ref k :: s => (inB h k 24 i ∨ inB h k 25 i ∨ inB h k 26 i ∨ inB h k 27 i) ∧ nx pl (.ref (hR h k i.toNatClampNeg) :: s) h ca sl
    | _ => False
  | .iastore => match st with
    | .int x :: .int i :: .ref k :: s => (5 ≤ k ∧ inB h k 20 i) ∧ nx pl s (sI h k i.toNatClampNeg x) ca sl
    | _ => False
  | .bastore => match st with
    | .int x :: .int i :: .ref k :: s => (inB h k 21 i ∨ inB h k 22 i) ∧ nx pl s (sI h k i.toNatClampNeg (nrB (hT h k) x)) ca sl
    | _ => False
  | .lastore => match st with
    | .long x :: .int i :: .ref k :: s => inB h k 23 i ∧ nx pl s (sL h k i.toNatClampNeg x) ca sl
    | _ => False
  | .aastore => match st with
    | .ref x :: .int i :: .ref k :: s => ((inB h k 24 i ∧ hT h x = 2) ∨ (inB h k 25 i ∧ hT h x = 3) ∨ (inB h k 26 i ∧ hT h x = 4)) ∧ nx pl s (sR h k i.toNatClampNeg x) ca sl
    | _ => False
  | .arraylength => match st with
    | .ref k :: s => (20 ≤ hT h k ∧ hT h k ≤ 27) ∧ nx pl (.int (Int32.ofNat (hN h k)) :: s) h ca sl
    | _ => False
  | .new _ => b_if (Nat.ble (ca + 1) mc && Nat.ble (sl + eb) ms) (nx pl (.ref (hE h) :: st) (hNew h ea eb) (ca + 1) (sl + eb))
  | .newarray _ => b_if (Nat.ble (ca + 1) mc && Nat.ble (sl + eb) ms) (s_i st (fun n s => (¬ n < 0 ∧ n.toNatClampNeg ≤ eb) ∧ nx pl (.ref (hE h) :: s) (hNew h ea n.toNatClampNeg) (ca + 1) (sl + eb)))
  | .anewarray _ => b_if (Nat.ble (ca + 1) mc && Nat.ble (sl + eb) ms) (s_i st (fun n s => (¬ n < 0 ∧ n.toNatClampNeg ≤ eb) ∧ nx pl (.ref (hE h) :: s) (hNew h ea n.toNatClampNeg) (ca + 1) (sl + eb)))
  | .multianewarray _ _ => b_if (Nat.ble (ca + (1 + eb)) mc && Nat.ble (sl + (eb + eb * ec)) ms) (s_i st (fun m s => s_i s (fun n s => (¬ n < 0 ∧ n.toNatClampNeg = eb ∧ ¬ m < 0 ∧ m.toNatClampNeg = ec) ∧ nx pl (.ref (hE h) :: s) (hNewM h 27 eb 20 ec) (ca + 1 + eb) (sl + eb + eb * ec))))
  | .invokevirtual _ => p_if (popn eb st []) (fun a => s_r a.1 (fun k as => b_if (Nat.ble (ca + (tl_c tl).1) mc && Nat.ble (sl + (tl_c tl).2) ms && Nat.ble (ctg a.2) 8)
      (hT h k = tl_g tl ∧ P.1 ea (.ref k :: as) h (fun r h' => nx pl (pshE ec r a.2) h' (ca + (tl_c tl).1) (sl + (tl_c tl).2)))))
  | .invokespecial _ => c_eq ec 9 (s_r st (fun k s => b_if (Nat.ble (ctg s) 8) (1 ≤ k ∧ nx pl s h ca sl)))
      (p_if (popn eb st []) (fun a => s_r a.1 (fun k as => b_if (Nat.ble (ca + (tl_c tl).1) mc && Nat.ble (sl + (tl_c tl).2) ms && Nat.ble (ctg a.2) 8)
        (1 ≤ k ∧ P.1 ea (.ref k :: as) h (fun _ h' => nx pl a.2 h' (ca + (tl_c tl).1) (sl + (tl_c tl).2))))))
  | .invokestatic _ => c_eq ec 8 (s_i st (fun n s => s_i s (fun dp s => s_r s (fun k1 s => s_i s (fun sp s => s_r s (fun k0 s => b_if (Nat.ble (ctg s) 8)
        ((5 ≤ k1 ∧ hT h k0 = 20 ∧ hT h k1 = 20 ∧ ¬ sp < 0 ∧ ¬ dp < 0 ∧ ¬ n < 0 ∧ sp.toNatClampNeg + n.toNatClampNeg ≤ hN h k0 ∧ dp.toNatClampNeg + n.toNatClampNeg ≤ hN h k1) ∧ nx pl s (sCp h k0 sp.toNatClampNeg k1 dp.toNatClampNeg n.toNatClampNeg) ca sl)))))))
      (p_if (popn eb st []) (fun a => b_if (Nat.ble (ca + (tl_c tl).1) mc && Nat.ble (sl + (tl_c tl).2) ms && Nat.ble (ctg a.2) 8)
        (P.1 ea a.1 h (fun r h' => nx pl (pshE ec r a.2) h' (ca + (tl_c tl).1) (sl + (tl_c tl).2)))))
  | .ireturn => b_if (Nat.ble ca mc && Nat.ble sl ms) (s_i st (fun x s => s_n s (c_eq ea 1 ((x = 0 ∨ x = 1) ∧ K (.int x) h) (K (.int x) h))))
  | .lreturn => b_if (Nat.ble ca mc && Nat.ble sl ms) (s_l st (fun x s => s_n s (K (.long x) h)))
  | .return_ => b_if (Nat.ble ca mc && Nat.ble sl ms) (s_n st (K .null h))
  | _ => False
def isn (stops : List Nat) (t : Nat) : Bool := match stops with
  | [] => false
  | a :: l => Nat.beq a t || isn l t
/-- the predicate transformer: at most so many instructions; at a stop, behind a jump back and when it is at its end it asks PW of the place -/
def wp (P : PSem) (i mc ms : Nat) (prog : List Ent) (stops : List Nat) (K : PK) : Nat → List Ent → PGo
  | _, [] => fun _ _ _ _ _ => False
  | 0, e :: _ => fun pl st h ca sl => P.2 i e.1 pl st h ca sl K
  | f + 1, e :: rest => stp P mc ms K e
      (match rest with
        | [] => fun _ _ _ _ _ => False
        | e2 :: _ => match isn stops e2.1 with
          | true => fun pl st h ca sl => P.2 i e2.1 pl st h ca sl K
          | false => wp P i mc ms prog stops K f rest)
      (fun t m => match Nat.ble t e.1 || isn stops t with
        | true => fun pl st h ca sl => P.2 i t (lmk m pl) st h ca sl K
        | false => wp P i mc ms prog stops K f (prog.drop t))
def e_0 (ix : Nat) (n : Instr) : Ent := (ix, n, 0, 0, 0, 0, 0, [])
def e_v (ix : Nat) (v : Int32) : Ent := (ix, .sipush 0, 0, 0, 0, v, 0, [])
def e_w (ix : Nat) (v : Int64) : Ent := (ix, .ldc2_w 0, 0, 0, 0, 0, v, [])
def e_a (ix : Nat) (n : Instr) (a b c : Nat) : Ent := (ix, n, a, b, c, 0, 0, [])
def e_i (ix k : Nat) (v : Int32) : Ent := (ix, .iinc k 0, 0, 0, 0, v, 0, [])
def e_j (ix : Nat) (n : Instr) (a : Nat) (m : List (Int32 × Nat)) : Ent := (ix, n, a, 0, 0, 0, 0, m)
/-- a call: callee, how many arguments, what it answers (0 nothing), then the class of the receiver, what it makes -/
def e_c (ix : Nat) (n : Instr) (a b c : Nat) (m : List (Int32 × Nat)) : Ent := (ix, n, a, b, c, 0, 0, m)
