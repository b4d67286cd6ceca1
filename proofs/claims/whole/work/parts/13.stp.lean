/-! SOUNDNESS: one instruction, all kinds; the transformer; what a semantics keeps -/
theorem ck_at_use {mi : MI} {q : List Ent × Nat × Nat} {k pc len pl : Nat} {raw : Instr} {en : Ent} (h : ck_at mi q k = true) (hx : pcA mi k = some (pc, raw, len, pl)) (he : q.1[k]? = some en) : decode mi.2.1 pc = .ok (raw, len) ∧ en.1 = k ∧ ck_e mi q en pc raw len pl = true := by
  unfold ck_at at h
  rw [hx, he] at h
  simp only [Bool.and_eq_true, decide_eq_true_eq, beq_iff_eq] at h
  exact ⟨h.1.1, h.1.2, h.2⟩
theorem ck_n_use {mi : MI} {ix pc len : Nat} (h : ck_n mi ix pc len = true) : ∃ y, pcA mi (ix + 1) = some y ∧ y.1 = pc + len := by
  unfold ck_n at h
  split at h
  · rename_i y hy
    exact ⟨y, hy, by simpa using h⟩
  · cases h
theorem ck_j_use {mi : MI} {pc t : Nat} {off : Int} (h : ck_j mi pc off t = true) : ∃ y, pcA mi t = some y ∧ (pc : Int) + off = (y.1 : Int) := by
  unfold ck_j at h
  split at h
  · rename_i y hy
    exact ⟨y, hy, by simpa using h⟩
  · cases h
theorem b_if_inv {b : Bool} {k : Prop} (h : b_if b k) : b = true ∧ k := by
  cases b
  · exact h.elim
  · exact ⟨rfl, h⟩
theorem p_if_inv {α : Type} {o : Option α} {k : α → Prop} (h : p_if o k) : ∃ a, o = some a ∧ k a := by
  cases o with
  | none => exact h.elim
  | some a => exact ⟨a, rfl, h⟩
theorem s_i_inv {st : List Value} {k : Int32 → List Value → Prop} (h : s_i st k) : ∃ x s, st = .int x :: s ∧ k x s := by
  unfold s_i at h
  split at h
  · exact ⟨_, _, rfl, h⟩
  · exact h.elim
theorem s_l_inv {st : List Value} {k : Int64 → List Value → Prop} (h : s_l st k) : ∃ x s, st = .long x :: s ∧ k x s := by
  unfold s_l at h
  split at h
  · exact ⟨_, _, rfl, h⟩
  · exact h.elim
theorem s_r_inv {st : List Value} {k : Nat → List Value → Prop} (h : s_r st k) : ∃ x s, st = .ref x :: s ∧ k x s := by
  unfold s_r at h
  split at h
  · exact ⟨_, _, rfl, h⟩
  · exact h.elim
theorem s_n_inv {st : List Value} {k : Prop} (h : s_n st k) : st = [] ∧ k := by
  cases st with
  | nil => exact ⟨rfl, h⟩
  | cons a b => exact h.elim
theorem c_eq_inv {n m : Nat} {x y : Prop} (h : c_eq n m x y) : (n = m ∧ x) ∨ (n ≠ m ∧ y) := by
  unfold c_eq at h
  split at h
  · rename_i hb
    exact Or.inl ⟨Nat.eq_of_beq_eq_true hb, h⟩
  · rename_i hb
    exact Or.inr ⟨Nat.ne_of_beq_eq_false hb, h⟩
theorem pshE_R {n : Nat} {ret : Option FieldType} {r : Value} {s : List Value} (h : n = 0 ↔ ret = none) : pshR ret r s = pshE n r s := by
  cases ret with
  | none =>
    rw [h.mpr rfl]
    rfl
  | some ty =>
    cases n with
    | zero => cases h.mp rfl
    | succ n => rfl
def PSd : PSem := (PMd, PWd)
section S14
variable {G : GW} {mi : MI} {q : List Ent × Nat × Nat} {p : Program} {l : Launch} {e : Env} {s : State} {m : MethodId} {args : Array Value} {below : List Frame} {meth : Method} {c : Code} {Q : State → Prop} {K : PK} {pc ix : Nat} {pl : PL} {h : PH} {ca sl : Nat}
theorem gq_sw (hx : p.tables.exec = Jvm.exec) (hb : c.code = mi.2.1) {d : Int} {ps : Array (Int × Int)} {len ea : Nat} {tl : List (Int32 × Nat)} {x : Int32} {st : List Value} {jp : Nat → List (Int32 × Nat) → PGo}
    (hjp : ∀ t mm pl st h ca sl, jp t mm pl st h ca sl → ∀ y, pcA mi t = some y → GLp G mi q.2.1 q.2.2 p l e s m args below meth c Q y.1 pl st h ca sl)
    (hd : decode mi.2.1 pc = .ok (.lookupswitch d ps, len)) (ho : (ps.toList.zip (ps.toList.drop 1)).all (fun (a, next) => a.1 < next.1) = true) (hdf : ck_j mi pc d ea = true) (hsw : ck_sw mi pc ps.toList tl = true)
    (hs : swp x (fun t => jp t [] pl st h ca sl) ea tl) : GLp G mi q.2.1 q.2.2 p l e s m args below meth c Q pc pl (.int x :: st) h ca sl := by
  have key : ∀ (L : List (Int × Int)) (tl : List (Int32 × Nat)), ck_sw mi pc L tl = true → swp x (fun t => jp t [] pl st h ca sl) ea tl → ∃ y : Nat, (pc : Int) + Op.lookupswitch.offset L d x.toInt = (y : Int) ∧ GLp G mi q.2.1 q.2.2 p l e s m args below meth c Q y pl st h ca sl := by
    intro L
    induction L with
    | nil =>
      intro tl h1 h2
      cases tl with
      | nil =>
        obtain ⟨y, hy, he⟩ := ck_j_use hdf
        exact ⟨y.1, he, hjp _ _ _ _ _ _ _ h2 y hy⟩
      | cons a b => cases h1
    | cons a L ih =>
      obtain ⟨v, off⟩ := a
      intro tl h1 h2
      cases tl with
      | nil => cases h1
      | cons b tl =>
        obtain ⟨u, t⟩ := b
        unfold ck_sw at h1
        simp only [Bool.and_eq_true, decide_eq_true_eq] at h1
        obtain ⟨⟨⟨g1, g2⟩, g3⟩, g4⟩ := h1
        by_cases hxu : x = u
        · obtain ⟨y, hy, he⟩ := ck_j_use g3
          refine ⟨y.1, ?_, hjp _ _ _ _ _ _ _ (h2.1 hxu) y hy⟩
          rw [← he]
          simp [Op.lookupswitch.offset, hxu, g2]
        · obtain ⟨y, hy, hg⟩ := ih tl g4 (h2.2 hxu)
          refine ⟨y, ?_, hg⟩
          rw [← hy]
          have hne : ¬ v = x.toInt := fun w => hxu (by rw [← g1, w]; simp)
          simp [Op.lookupswitch.offset, hne]
  obtain ⟨y, hy, hg⟩ := key _ _ hsw hs
  intro H locs ls h1 h2 h3
  exact lv_lookup hx hb hd ho rfl hy (hg H locs ls h1 h2 h3)
theorem gq_tsw (hx : p.tables.exec = Jvm.exec) (hb : c.code = mi.2.1) {d lo hi : Int} {offs : Array Int} {len ea : Nat} {tl : List (Int32 × Nat)} {x : Int32} {st : List Value} {jp : Nat → List (Int32 × Nat) → PGo}
    (hjp : ∀ t mm pl st h ca sl, jp t mm pl st h ca sl → ∀ y, pcA mi t = some y → GLp G mi q.2.1 q.2.2 p l e s m args below meth c Q y.1 pl st h ca sl)
    (hd : decode mi.2.1 pc = .ok (.tableswitch d lo hi offs, len)) (hsz : lo + offs.size = hi + 1) (hdf : ck_j mi pc d ea = true) (hsw : ck_sw mi pc ((List.range offs.size).map (fun (j : Nat) => (lo + (j : Int), offs[j]?.getD 0))) tl = true)
    (hs : swp x (fun t => jp t [] pl st h ca sl) ea tl) : GLp G mi q.2.1 q.2.2 p l e s m args below meth c Q pc pl (.int x :: st) h ca sl := by
  have key : ∀ (n a : Nat) (tl : List (Int32 × Nat)), ck_sw mi pc ((List.range' a n).map (fun (j : Nat) => (lo + (j : Int), offs[j]?.getD 0))) tl = true → swp x (fun t => jp t [] pl st h ca sl) ea tl →
      (∃ (j : Nat) (y : Nat), a ≤ j ∧ j < a + n ∧ x.toInt = lo + (j : Int) ∧ (pc : Int) + offs[j]?.getD 0 = (y : Int) ∧ GLp G mi q.2.1 q.2.2 p l e s m args below meth c Q y pl st h ca sl) ∨ ((∀ j : Nat, a ≤ j → j < a + n → x.toInt ≠ lo + (j : Int)) ∧ ∃ y : Nat, (pc : Int) + d = (y : Int) ∧ GLp G mi q.2.1 q.2.2 p l e s m args below meth c Q y pl st h ca sl) := by
    intro n
    induction n with
    | zero =>
      intro a tl h1 h2
      cases tl with
      | nil =>
        obtain ⟨y, hy, he⟩ := ck_j_use hdf
        exact Or.inr ⟨fun j a b => by omega, y.1, he, hjp _ _ _ _ _ _ _ h2 y hy⟩
      | cons b tl => cases h1
    | succ n ih =>
      intro a tl h1 h2
      cases tl with
      | nil => cases h1
      | cons b tl =>
        obtain ⟨u, t⟩ := b
        rw [List.range'_succ, List.map_cons] at h1
        unfold ck_sw at h1
        simp only [Bool.and_eq_true, decide_eq_true_eq] at h1
        obtain ⟨⟨⟨g1, g2⟩, g3⟩, g4⟩ := h1
        by_cases hxu : x = u
        · obtain ⟨y, hy, he⟩ := ck_j_use g3
          exact Or.inl ⟨a, y.1, Nat.le_refl _, by omega, by rw [hxu, g2], he, hjp _ _ _ _ _ _ _ (h2.1 hxu) y hy⟩
        · rcases ih (a + 1) tl g4 (h2.2 hxu) with ⟨j, y, w1, w2, w3⟩ | ⟨w1, w2⟩
          · exact Or.inl ⟨j, y, by omega, by omega, w3⟩
          · refine Or.inr ⟨fun j a1 a2 => ?_, w2⟩
            by_cases hja : j = a
            · subst hja
              exact fun w => hxu (by rw [← g1, ← w]; simp)
            · exact w1 j (by omega) (by omega)
  rw [List.range_eq_range'] at hsw
  intro H locs ls h1 h2 h3
  rcases key _ _ _ hsw hs with ⟨j, y, w1, w2, w3, w4, w5⟩ | ⟨w1, y, w4, w5⟩
  · have hj : j < offs.size := by omega
    have ho : offs[(x.toInt - lo).toNat]? = some (offs[j]?.getD 0) := by
      rw [show (x.toInt - lo).toNat = j by omega]
      simp [hj]
    exact lv_tableIn hx hb hd (by omega) (by omega) ho w4 (w5 H locs ls h1 h2 h3)
  · refine lv_tableOut hx hb hd ?_ w4 (w5 H locs ls h1 h2 h3)
    rcases Int.lt_or_le x.toInt lo with w | w
    · exact Or.inl w
    · rcases Int.lt_or_le hi x.toInt with w' | w'
      · exact Or.inr w'
      · exact absurd (by omega) (w1 (x.toInt - lo).toNat (by omega) (by omega))
end S14
set_option maxHeartbeats 4000000 in
theorem stp_ok {G : GW} {mi : MI} {q : List Ent × Nat × Nat} {p : Program} {l : Launch} {e : Env} {s : State} {m : MethodId} {args : Array Value} {below : List Frame} {meth : Method} {c : Code} {Q : State → Prop} {K : PK} {pc ix len pl0 : Nat} {raw : Instr} {en : Ent} {pl : PL} {st : List Value} {h : PH} {ca sl : Nat} {nx : PGo} {jp : Nat → List (Int32 × Nat) → PGo}
    (hC : CXm mi p s m args meth c) (hV : VRl G s) (hB : G.2.2.2.1.size ≤ s.heap.size) (hB2 : ∀ q, q < G.2.2.2.1.size → s.heap[q]? = G.2.2.2.1[q]?) (hRt : ROK G mi q.2.1 q.2.2 K p l e (rmU mi q.2.1 q.2.2) s m args below meth c Q)
    (hdec : decode mi.2.1 pc = .ok (raw, len)) (hix : en.1 = ix) (hck : ck_e mi q en pc raw len pl0 = true)
    (hnx : ∀ pl st h ca sl, nx pl st h ca sl → ∀ y, pcA mi (ix + 1) = some y → GLp G mi q.2.1 q.2.2 p l e s m args below meth c Q y.1 pl st h ca sl)
    (hjp : ∀ t mm pl st h ca sl, jp t mm pl st h ca sl → ∀ y, pcA mi t = some y → GLp G mi q.2.1 q.2.2 p l e s m args below meth c Q y.1 pl st h ca sl)
    (hs : stp PSd q.2.1 q.2.2 K en nx jp pl st h ca sl) : GLp G mi q.2.1 q.2.2 p l e s m args below meth c Q pc pl st h ca sl := by
  obtain ⟨hx, hb, hml, hts, ho, hlk, hin⟩ := hC
  obtain ⟨ix', ins, ea, eb, ec, ev, ew, tl⟩ := en
  have hix : ix' = ix := hix
  subst hix
  have hn1 : ck_n mi ix' pc len = true → ∀ pl st h ca sl, nx pl st h ca sl → GLp G mi q.2.1 q.2.2 p l e s m args below meth c Q (pc + len) pl st h ca sl := fun hc pl st h ca sl w => by
    obtain ⟨y, hy, he⟩ := ck_n_use hc
    rw [← he]
    exact hnx pl st h ca sl w y hy
  have hj1 : ∀ {t : Nat} {off : Int}, ck_j mi pc off t = true → ∃ tgt : Nat, (pc : Int) + off = (tgt : Int) ∧ ∀ mm pl st h ca sl, jp t mm pl st h ca sl → GLp G mi q.2.1 q.2.2 p l e s m args below meth c Q tgt pl st h ca sl := fun hc => by
    obtain ⟨y, hy, he⟩ := ck_j_use hc
    exact ⟨y.1, he, fun mm pl st h ca sl w => hjp _ mm pl st h ca sl w y hy⟩
  cases ins
  case iadd =>
    change (ck_n mi ix' pc len && decide (raw = .iadd) && len == 1) = true at hck
    simp only [Bool.and_eq_true, Bool.or_eq_true, decide_eq_true_eq, beq_iff_eq, Nat.ble_eq, Nat.blt_eq] at hck
    obtain ⟨⟨hk1, rfl⟩, rfl⟩ := hck
    obtain ⟨x, y, s', rfl, hk⟩ := o_ii_inv (f := fun x y => x + y) (st := st) (k := fun s => nx pl s h ca sl) hs
    exact gq_iadd hx hb hdec (hn1 hk1 _ _ _ _ _ hk)
  case isub =>
    change (ck_n mi ix' pc len && decide (raw = .isub) && len == 1) = true at hck
    simp only [Bool.and_eq_true, Bool.or_eq_true, decide_eq_true_eq, beq_iff_eq, Nat.ble_eq, Nat.blt_eq] at hck
    obtain ⟨⟨hk1, rfl⟩, rfl⟩ := hck
    obtain ⟨x, y, s', rfl, hk⟩ := o_ii_inv (f := fun x y => x - y) (st := st) (k := fun s => nx pl s h ca sl) hs
    exact gq_isub hx hb hdec (hn1 hk1 _ _ _ _ _ hk)
  case imul =>
    change (ck_n mi ix' pc len && decide (raw = .imul) && len == 1) = true at hck
    simp only [Bool.and_eq_true, Bool.or_eq_true, decide_eq_true_eq, beq_iff_eq, Nat.ble_eq, Nat.blt_eq] at hck
    obtain ⟨⟨hk1, rfl⟩, rfl⟩ := hck
    obtain ⟨x, y, s', rfl, hk⟩ := o_ii_inv (f := fun x y => x * y) (st := st) (k := fun s => nx pl s h ca sl) hs
    exact gq_imul hx hb hdec (hn1 hk1 _ _ _ _ _ hk)
  case iand =>
    change (ck_n mi ix' pc len && decide (raw = .iand) && len == 1) = true at hck
    simp only [Bool.and_eq_true, Bool.or_eq_true, decide_eq_true_eq, beq_iff_eq, Nat.ble_eq, Nat.blt_eq] at hck
    obtain ⟨⟨hk1, rfl⟩, rfl⟩ := hck
    obtain ⟨x, y, s', rfl, hk⟩ := o_ii_inv (f := fun x y => x &&& y) (st := st) (k := fun s => nx pl s h ca sl) hs
    exact gq_iand hx hb hdec (hn1 hk1 _ _ _ _ _ hk)
  case ior =>
    change (ck_n mi ix' pc len && decide (raw = .ior) && len == 1) = true at hck
    simp only [Bool.and_eq_true, Bool.or_eq_true, decide_eq_true_eq, beq_iff_eq, Nat.ble_eq, Nat.blt_eq] at hck
    obtain ⟨⟨hk1, rfl⟩, rfl⟩ := hck
    obtain ⟨x, y, s', rfl, hk⟩ := o_ii_inv (f := fun x y => x ||| y) (st := st) (k := fun s => nx pl s h ca sl) hs
    exact gq_ior hx hb hdec (hn1 hk1 _ _ _ _ _ hk)
  case ixor =>
    change (ck_n mi ix' pc len && decide (raw = .ixor) && len == 1) = true at hck
    simp only [Bool.and_eq_true, Bool.or_eq_true, decide_eq_true_eq, beq_iff_eq, Nat.ble_eq, Nat.blt_eq] at hck
    obtain ⟨⟨hk1, rfl⟩, rfl⟩ := hck
    obtain ⟨x, y, s', rfl, hk⟩ := o_ii_inv (f := fun x y => x ^^^ y) (st := st) (k := fun s => nx pl s h ca sl) hs
    exact gq_ixor hx hb hdec (hn1 hk1 _ _ _ _ _ hk)
  case ishl =>
    change (ck_n mi ix' pc len && decide (raw = .ishl) && len == 1) = true at hck
    simp only [Bool.and_eq_true, Bool.or_eq_true, decide_eq_true_eq, beq_iff_eq, Nat.ble_eq, Nat.blt_eq] at hck
    obtain ⟨⟨hk1, rfl⟩, rfl⟩ := hck
    obtain ⟨x, y, s', rfl, hk⟩ := o_ii_inv (f := i_shl) (st := st) (k := fun s => nx pl s h ca sl) hs
    exact gq_ishl hx hb hdec (hn1 hk1 _ _ _ _ _ hk)
  case ishr =>
    change (ck_n mi ix' pc len && decide (raw = .ishr) && len == 1) = true at hck
    simp only [Bool.and_eq_true, Bool.or_eq_true, decide_eq_true_eq, beq_iff_eq, Nat.ble_eq, Nat.blt_eq] at hck
    obtain ⟨⟨hk1, rfl⟩, rfl⟩ := hck
    obtain ⟨x, y, s', rfl, hk⟩ := o_ii_inv (f := i_shr) (st := st) (k := fun s => nx pl s h ca sl) hs
    exact gq_ishr hx hb hdec (hn1 hk1 _ _ _ _ _ hk)
  case iushr =>
    change (ck_n mi ix' pc len && decide (raw = .iushr) && len == 1) = true at hck
    simp only [Bool.and_eq_true, Bool.or_eq_true, decide_eq_true_eq, beq_iff_eq, Nat.ble_eq, Nat.blt_eq] at hck
    obtain ⟨⟨hk1, rfl⟩, rfl⟩ := hck
    obtain ⟨x, y, s', rfl, hk⟩ := o_ii_inv (f := i_ushr) (st := st) (k := fun s => nx pl s h ca sl) hs
    exact gq_iushr hx hb hdec (hn1 hk1 _ _ _ _ _ hk)
  case idiv =>
    change (ck_n mi ix' pc len && decide (raw = .idiv) && len == 1) = true at hck
    simp only [Bool.and_eq_true, Bool.or_eq_true, decide_eq_true_eq, beq_iff_eq, Nat.ble_eq, Nat.blt_eq] at hck
    obtain ⟨⟨hk1, rfl⟩, rfl⟩ := hck
    obtain ⟨x, y, s', rfl, hz, hk⟩ := o_iin_inv (f := fun x y => x / y) (st := st) (k := fun s => nx pl s h ca sl) hs
    exact gq_idiv hx hb hdec hz (hn1 hk1 _ _ _ _ _ hk)
  case irem =>
    change (ck_n mi ix' pc len && decide (raw = .irem) && len == 1) = true at hck
    simp only [Bool.and_eq_true, Bool.or_eq_true, decide_eq_true_eq, beq_iff_eq, Nat.ble_eq, Nat.blt_eq] at hck
    obtain ⟨⟨hk1, rfl⟩, rfl⟩ := hck
    obtain ⟨x, y, s', rfl, hz, hk⟩ := o_iin_inv (f := i_rem) (st := st) (k := fun s => nx pl s h ca sl) hs
    exact gq_irem hx hb hdec hz (hn1 hk1 _ _ _ _ _ hk)
  case ladd =>
    change (ck_n mi ix' pc len && decide (raw = .ladd) && len == 1) = true at hck
    simp only [Bool.and_eq_true, Bool.or_eq_true, decide_eq_true_eq, beq_iff_eq, Nat.ble_eq, Nat.blt_eq] at hck
    obtain ⟨⟨hk1, rfl⟩, rfl⟩ := hck
    obtain ⟨x, y, s', rfl, hk⟩ := o_ll_inv (f := fun x y => x + y) (st := st) (k := fun s => nx pl s h ca sl) hs
    exact gq_ladd hx hb hdec (hn1 hk1 _ _ _ _ _ hk)
  case lmul =>
    change (ck_n mi ix' pc len && decide (raw = .lmul) && len == 1) = true at hck
    simp only [Bool.and_eq_true, Bool.or_eq_true, decide_eq_true_eq, beq_iff_eq, Nat.ble_eq, Nat.blt_eq] at hck
    obtain ⟨⟨hk1, rfl⟩, rfl⟩ := hck
    obtain ⟨x, y, s', rfl, hk⟩ := o_ll_inv (f := fun x y => x * y) (st := st) (k := fun s => nx pl s h ca sl) hs
    exact gq_lmul hx hb hdec (hn1 hk1 _ _ _ _ _ hk)
  case land =>
    change (ck_n mi ix' pc len && decide (raw = .land) && len == 1) = true at hck
    simp only [Bool.and_eq_true, Bool.or_eq_true, decide_eq_true_eq, beq_iff_eq, Nat.ble_eq, Nat.blt_eq] at hck
    obtain ⟨⟨hk1, rfl⟩, rfl⟩ := hck
    obtain ⟨x, y, s', rfl, hk⟩ := o_ll_inv (f := fun x y => x &&& y) (st := st) (k := fun s => nx pl s h ca sl) hs
    exact gq_land hx hb hdec (hn1 hk1 _ _ _ _ _ hk)
  case lxor =>
    change (ck_n mi ix' pc len && decide (raw = .lxor) && len == 1) = true at hck
    simp only [Bool.and_eq_true, Bool.or_eq_true, decide_eq_true_eq, beq_iff_eq, Nat.ble_eq, Nat.blt_eq] at hck
    obtain ⟨⟨hk1, rfl⟩, rfl⟩ := hck
    obtain ⟨x, y, s', rfl, hk⟩ := o_ll_inv (f := fun x y => x ^^^ y) (st := st) (k := fun s => nx pl s h ca sl) hs
    exact gq_lxor hx hb hdec (hn1 hk1 _ _ _ _ _ hk)
  case ldiv =>
    change (ck_n mi ix' pc len && decide (raw = .ldiv) && len == 1) = true at hck
    simp only [Bool.and_eq_true, Bool.or_eq_true, decide_eq_true_eq, beq_iff_eq, Nat.ble_eq, Nat.blt_eq] at hck
    obtain ⟨⟨hk1, rfl⟩, rfl⟩ := hck
    obtain ⟨x, y, s', rfl, hz, hk⟩ := o_lln_inv (f := fun x y => x / y) (st := st) (k := fun s => nx pl s h ca sl) hs
    exact gq_ldiv hx hb hdec hz (hn1 hk1 _ _ _ _ _ hk)
  case lrem =>
    change (ck_n mi ix' pc len && decide (raw = .lrem) && len == 1) = true at hck
    simp only [Bool.and_eq_true, Bool.or_eq_true, decide_eq_true_eq, beq_iff_eq, Nat.ble_eq, Nat.blt_eq] at hck
    obtain ⟨⟨hk1, rfl⟩, rfl⟩ := hck
    obtain ⟨x, y, s', rfl, hz, hk⟩ := o_lln_inv (f := l_rem) (st := st) (k := fun s => nx pl s h ca sl) hs
    exact gq_lrem hx hb hdec hz (hn1 hk1 _ _ _ _ _ hk)
  case lshl =>
    change (ck_n mi ix' pc len && decide (raw = .lshl) && len == 1) = true at hck
    simp only [Bool.and_eq_true, Bool.or_eq_true, decide_eq_true_eq, beq_iff_eq, Nat.ble_eq, Nat.blt_eq] at hck
    obtain ⟨⟨hk1, rfl⟩, rfl⟩ := hck
    obtain ⟨x, y, s', rfl, hk⟩ := o_li_inv (f := l_shl) (st := st) (k := fun s => nx pl s h ca sl) hs
    exact gq_lshl hx hb hdec (hn1 hk1 _ _ _ _ _ hk)
  case lshr =>
    change (ck_n mi ix' pc len && decide (raw = .lshr) && len == 1) = true at hck
    simp only [Bool.and_eq_true, Bool.or_eq_true, decide_eq_true_eq, beq_iff_eq, Nat.ble_eq, Nat.blt_eq] at hck
    obtain ⟨⟨hk1, rfl⟩, rfl⟩ := hck
    obtain ⟨x, y, s', rfl, hk⟩ := o_li_inv (f := l_shr) (st := st) (k := fun s => nx pl s h ca sl) hs
    exact gq_lshr hx hb hdec (hn1 hk1 _ _ _ _ _ hk)
  case lneg =>
    change (ck_n mi ix' pc len && decide (raw = .lneg) && len == 1) = true at hck
    simp only [Bool.and_eq_true, Bool.or_eq_true, decide_eq_true_eq, beq_iff_eq, Nat.ble_eq, Nat.blt_eq] at hck
    obtain ⟨⟨hk1, rfl⟩, rfl⟩ := hck
    match st, hs with
    | .long x :: s', hs => exact gq_lneg hx hb hdec (hn1 hk1 _ _ _ _ _ hs)
  case lcmp =>
    change (ck_n mi ix' pc len && decide (raw = .lcmp) && len == 1) = true at hck
    simp only [Bool.and_eq_true, Bool.or_eq_true, decide_eq_true_eq, beq_iff_eq, Nat.ble_eq, Nat.blt_eq] at hck
    obtain ⟨⟨hk1, rfl⟩, rfl⟩ := hck
    match st, hs with
    | .long y :: .long x :: s', hs => exact gq_lcmp hx hb hdec (hn1 hk1 _ _ _ _ _ hs)
  case i2l =>
    change (ck_n mi ix' pc len && decide (raw = .i2l) && len == 1) = true at hck
    simp only [Bool.and_eq_true, Bool.or_eq_true, decide_eq_true_eq, beq_iff_eq, Nat.ble_eq, Nat.blt_eq] at hck
    obtain ⟨⟨hk1, rfl⟩, rfl⟩ := hck
    match st, hs with
    | .int x :: s', hs => exact gq_i2l hx hb hdec (hn1 hk1 _ _ _ _ _ hs)
  case l2i =>
    change (ck_n mi ix' pc len && decide (raw = .l2i) && len == 1) = true at hck
    simp only [Bool.and_eq_true, Bool.or_eq_true, decide_eq_true_eq, beq_iff_eq, Nat.ble_eq, Nat.blt_eq] at hck
    obtain ⟨⟨hk1, rfl⟩, rfl⟩ := hck
    match st, hs with
    | .long x :: s', hs => exact gq_l2i hx hb hdec (hn1 hk1 _ _ _ _ _ hs)
  case i2b =>
    change (ck_n mi ix' pc len && decide (raw = .i2b) && len == 1) = true at hck
    simp only [Bool.and_eq_true, Bool.or_eq_true, decide_eq_true_eq, beq_iff_eq, Nat.ble_eq, Nat.blt_eq] at hck
    obtain ⟨⟨hk1, rfl⟩, rfl⟩ := hck
    match st, hs with
    | .int x :: s', hs => exact gq_i2b hx hb hdec (hn1 hk1 _ _ _ _ _ hs)
  case dup =>
    change (ck_n mi ix' pc len && decide (raw = .dup) && len == 1) = true at hck
    simp only [Bool.and_eq_true, Bool.or_eq_true, decide_eq_true_eq, beq_iff_eq, Nat.ble_eq, Nat.blt_eq] at hck
    obtain ⟨⟨hk1, rfl⟩, rfl⟩ := hck
    match st, hs with
    | .int x :: s', hs => exact gq_dup hx hb rfl hdec (hn1 hk1 _ _ _ _ _ hs)
    | .ref x :: s', hs => exact gq_dup hx hb rfl hdec (hn1 hk1 _ _ _ _ _ hs)
  case dup2 =>
    change (ck_n mi ix' pc len && decide (raw = .dup2) && len == 1) = true at hck
    simp only [Bool.and_eq_true, Bool.or_eq_true, decide_eq_true_eq, beq_iff_eq, Nat.ble_eq, Nat.blt_eq] at hck
    obtain ⟨⟨hk1, rfl⟩, rfl⟩ := hck
    match st, hs with
    | .int x :: .ref y :: s', hs => exact gq_dup2 hx hb rfl rfl hdec (hn1 hk1 _ _ _ _ _ hs)
  case pop =>
    change (ck_n mi ix' pc len && decide (raw = .pop) && len == 1) = true at hck
    simp only [Bool.and_eq_true, Bool.or_eq_true, decide_eq_true_eq, beq_iff_eq, Nat.ble_eq, Nat.blt_eq] at hck
    obtain ⟨⟨hk1, rfl⟩, rfl⟩ := hck
    match st, hs with
    | .int x :: s', hs => exact gq_pop hx hb rfl hdec (hn1 hk1 _ _ _ _ _ hs)
    | .ref x :: s', hs => exact gq_pop hx hb rfl hdec (hn1 hk1 _ _ _ _ _ hs)
  case sipush n0 =>
    unfold ck_e at hck
    simp only [Bool.and_eq_true] at hck
    obtain ⟨hk1, hck⟩ := hck
    have hk := hn1 hk1 _ _ _ _ _ (show nx pl (.int ev :: st) h ca sl from hs)
    split at hck
    · simp only [Bool.and_eq_true, beq_iff_eq, decide_eq_true_eq] at hck
      obtain ⟨rfl, hv⟩ := hck
      exact gq_iconst hx hb hv hdec hk
    · simp only [Bool.and_eq_true, beq_iff_eq, decide_eq_true_eq] at hck
      obtain ⟨rfl, hv⟩ := hck
      exact gq_bipush hx hb hv hdec hk
    · simp only [Bool.and_eq_true, beq_iff_eq, decide_eq_true_eq] at hck
      obtain ⟨rfl, hv⟩ := hck
      exact gq_sipush hx hb hv hdec hk
    · simp only [Bool.and_eq_true, beq_iff_eq] at hck
      obtain ⟨rfl, hv⟩ := hck
      exact gq_ldc hx hb ho (hts _ (tbA_in hv)) hdec hk
    · simp only [Bool.and_eq_true, beq_iff_eq] at hck
      obtain ⟨rfl, hv⟩ := hck
      exact gq_ldcw hx hb ho (hts _ (tbA_in hv)) hdec hk
    · cases hck
  case ldc2_w n0 =>
    unfold ck_e at hck
    simp only [Bool.and_eq_true] at hck
    obtain ⟨hk1, hck⟩ := hck
    have hk := hn1 hk1 _ _ _ _ _ (show nx pl (.long ew :: st) h ca sl from hs)
    split at hck
    · simp only [Bool.and_eq_true, beq_iff_eq, decide_eq_true_eq] at hck
      obtain ⟨rfl, hv⟩ := hck
      exact gq_lconst hx hb hv hdec hk
    · simp only [Bool.and_eq_true, beq_iff_eq] at hck
      obtain ⟨rfl, hv⟩ := hck
      exact gq_ldc2 hx hb ho (hts _ (tbA_in hv)) hdec hk
    · cases hck
  case iload i =>
    unfold ck_e at hck
    simp only [Bool.and_eq_true] at hck
    obtain ⟨hk1, hck⟩ := hck
    have hs : (match lgt pl i with | .int x => nx pl (.int x :: st) h ca sl | _ => False) := hs
    split at hs
    · rename_i x hv
      have hl := lgt_of hv (fun w => by cases w)
      have hk := hn1 hk1 _ _ _ _ _ hs
      split at hck
      · simp only [Bool.and_eq_true, beq_iff_eq] at hck
        obtain ⟨rfl, rfl⟩ := hck
        exact gq_iload hx hb hl hdec hk
      · simp only [Bool.and_eq_true, beq_iff_eq] at hck
        obtain ⟨rfl, hi⟩ := hck
        exact gq_iload_n hx hb hi.symm hl hdec hk
      · cases hck
    · exact hs.elim
  case lload i =>
    unfold ck_e at hck
    simp only [Bool.and_eq_true] at hck
    obtain ⟨hk1, hck⟩ := hck
    have hs : (match lgt pl i with | .long x => nx pl (.long x :: st) h ca sl | _ => False) := hs
    split at hs
    · rename_i x hv
      have hl := lgt_of hv (fun w => by cases w)
      have hk := hn1 hk1 _ _ _ _ _ hs
      split at hck
      · simp only [Bool.and_eq_true, beq_iff_eq] at hck
        obtain ⟨rfl, rfl⟩ := hck
        exact gq_lload hx hb hl hdec hk
      · simp only [Bool.and_eq_true, beq_iff_eq] at hck
        obtain ⟨rfl, hi⟩ := hck
        exact gq_lload_n hx hb hi.symm hl hdec hk
      · cases hck
    · exact hs.elim
  case aload i =>
    unfold ck_e at hck
    simp only [Bool.and_eq_true] at hck
    obtain ⟨hk1, hck⟩ := hck
    have hs : (match lgt pl i with | .ref x => nx pl (.ref x :: st) h ca sl | _ => False) := hs
    split at hs
    · rename_i x hv
      have hl := lgt_of hv (fun w => by cases w)
      have hk := hn1 hk1 _ _ _ _ _ hs
      split at hck
      · simp only [Bool.and_eq_true, beq_iff_eq] at hck
        obtain ⟨rfl, rfl⟩ := hck
        exact gq_aload hx hb hl hdec hk
      · simp only [Bool.and_eq_true, beq_iff_eq] at hck
        obtain ⟨rfl, hi⟩ := hck
        exact gq_aload_n hx hb hi.symm hl hdec hk
      · cases hck
    · exact hs.elim
  case istore i =>
    unfold ck_e at hck
    simp only [Bool.and_eq_true, Nat.blt_eq] at hck
    obtain ⟨⟨hk1, hlt⟩, hck⟩ := hck
    match st, hs with
    | .int x :: s', hs =>
      have hk := hn1 hk1 _ _ _ _ _ hs
      split at hck
      · simp only [Bool.and_eq_true, beq_iff_eq] at hck
        obtain ⟨rfl, rfl⟩ := hck
        exact gq_istore hx hb hlt hdec hk
      · simp only [Bool.and_eq_true, beq_iff_eq] at hck
        obtain ⟨rfl, hi⟩ := hck
        exact gq_istore_n hx hb hi.symm hlt hdec hk
      · cases hck
  case lstore i =>
    unfold ck_e at hck
    simp only [Bool.and_eq_true, Nat.blt_eq] at hck
    obtain ⟨⟨hk1, hlt⟩, hck⟩ := hck
    match st, hs with
    | .long x :: s', hs =>
      have hk := hn1 hk1 _ _ _ _ _ hs
      split at hck
      · simp only [Bool.and_eq_true, beq_iff_eq] at hck
        obtain ⟨rfl, rfl⟩ := hck
        exact gq_lstore hx hb hlt hdec hk
      · simp only [Bool.and_eq_true, beq_iff_eq] at hck
        obtain ⟨rfl, hi⟩ := hck
        exact gq_lstore_n hx hb hi.symm hlt hdec hk
      · cases hck
  case astore i =>
    unfold ck_e at hck
    simp only [Bool.and_eq_true, Nat.blt_eq] at hck
    obtain ⟨⟨hk1, hlt⟩, hck⟩ := hck
    match st, hs with
    | .ref x :: s', hs =>
      have hk := hn1 hk1 _ _ _ _ _ hs
      split at hck
      · simp only [Bool.and_eq_true, beq_iff_eq] at hck
        obtain ⟨rfl, rfl⟩ := hck
        exact gq_astore hx hb hlt hdec hk
      · simp only [Bool.and_eq_true, beq_iff_eq] at hck
        obtain ⟨rfl, hi⟩ := hck
        exact gq_astore_n hx hb hi.symm hlt hdec hk
      · cases hck
  case iinc i n0 =>
    unfold ck_e at hck
    simp only [Bool.and_eq_true, Nat.blt_eq] at hck
    obtain ⟨⟨hk1, hlt⟩, hck⟩ := hck
    have hs : (match lgt pl i with | .int x => nx (ls1 pl i (.int (x + ev))) st h ca sl | _ => False) := hs
    split at hs
    · rename_i x hv
      have hl := lgt_of hv (fun w => by cases w)
      have hk := hn1 hk1 _ _ _ _ _ hs
      split at hck
      · simp only [Bool.and_eq_true, beq_iff_eq, decide_eq_true_eq] at hck
        obtain ⟨⟨rfl, rfl⟩, hv⟩ := hck
        exact gq_iinc hx hb hl hlt hv hdec hk
      · cases hck
    · exact hs.elim
  case ifCond cd o0 =>
    unfold ck_e at hck
    simp only [Bool.and_eq_true] at hck
    obtain ⟨hk1, hck⟩ := hck
    match st, hs with
    | .int x :: s', hs =>
      split at hck
      · simp only [Bool.and_eq_true, beq_iff_eq, decide_eq_true_eq] at hck
        obtain ⟨⟨rfl, rfl⟩, hj⟩ := hck
        obtain ⟨tgt, ht, hj⟩ := hj1 hj
        exact gq_if hx hb hdec ht (fun w => hj _ _ _ _ _ _ w) (fun w => hn1 hk1 _ _ _ _ _ w) hs
      · cases hck
  case if_icmp cd o0 =>
    unfold ck_e at hck
    simp only [Bool.and_eq_true] at hck
    obtain ⟨hk1, hck⟩ := hck
    match st, hs with
    | .int y :: .int x :: s', hs =>
      split at hck
      · simp only [Bool.and_eq_true, beq_iff_eq, decide_eq_true_eq] at hck
        obtain ⟨⟨rfl, rfl⟩, hj⟩ := hck
        obtain ⟨tgt, ht, hj⟩ := hj1 hj
        exact gq_icmp hx hb hdec ht (fun w => hj _ _ _ _ _ _ w) (fun w => hn1 hk1 _ _ _ _ _ w) hs
      · cases hck
  case ifnull o0 =>
    unfold ck_e at hck
    simp only [Bool.and_eq_true] at hck
    obtain ⟨hk1, hck⟩ := hck
    match st, hs with
    | .ref x :: s', hs =>
      split at hck
      · simp only [Bool.and_eq_true, beq_iff_eq] at hck
        obtain ⟨rfl, hj⟩ := hck
        obtain ⟨tgt, ht, hj⟩ := hj1 hj
        exact gq_ifnull hx hb hdec ht (fun w => hj _ _ _ _ _ _ (hs.1 w)) (fun w => hn1 hk1 _ _ _ _ _ (hs.2 w))
      · cases hck
  case ifnonnull o0 =>
    unfold ck_e at hck
    simp only [Bool.and_eq_true] at hck
    obtain ⟨hk1, hck⟩ := hck
    match st, hs with
    | .ref x :: s', hs =>
      split at hck
      · simp only [Bool.and_eq_true, beq_iff_eq] at hck
        obtain ⟨rfl, hj⟩ := hck
        obtain ⟨tgt, ht, hj⟩ := hj1 hj
        exact gq_ifnonnull hx hb hdec ht (fun w => hj _ _ _ _ _ _ (hs.1 w)) (fun w => hn1 hk1 _ _ _ _ _ (hs.2 w))
      · cases hck
  case goto o0 =>
    simp only [ck_e] at hck
    split at hck
    · simp only [Bool.and_eq_true, beq_iff_eq] at hck
      obtain ⟨rfl, hj⟩ := hck
      obtain ⟨tgt, ht, hj⟩ := hj1 hj
      exact gq_goto hx hb hdec ht (hj _ _ _ _ _ _ hs)
    · cases hck
  case lookupswitch d0 ps0 =>
    simp only [ck_e] at hck
    match st, hs with
    | .int x :: s', hs =>
      split at hck
      · simp only [Bool.and_eq_true] at hck
        obtain ⟨⟨h1, h2⟩, h3⟩ := hck
        exact gq_sw (ea := ea) (tl := tl) (jp := jp) hx hb hjp hdec h1 h2 h3 hs
      · simp only [Bool.and_eq_true, decide_eq_true_eq] at hck
        obtain ⟨⟨h1, h2⟩, h3⟩ := hck
        exact gq_tsw (ea := ea) (tl := tl) (jp := jp) hx hb hjp hdec h1 h2 h3 hs
      · cases hck
  case getfield i0 =>
    unfold ck_e at hck
    simp only [Bool.and_eq_true] at hck
    obtain ⟨hk1, hck⟩ := hck
    match st, hs with
    | .ref k :: s', hs =>
      split at hck
      · rename_i idx C T N hcl
        simp only [Bool.and_eq_true, Bool.or_eq_true, beq_iff_eq, decide_eq_true_eq, Nat.blt_eq] at hck
        obtain ⟨⟨⟨⟨⟨⟨rfl, hea⟩, hl⟩, hTC⟩, h11⟩, hlen⟩, hty⟩ := hck
        obtain ⟨htag, hs⟩ := hs
        have hl2 : (Jvm.Cond.fieldLink mi.1.cls idx C (T ea).2.1 (T ea).2.2.1).before args s = true ∨ (Jvm.Cond.fieldLinkNest mi.1.cls idx C (T ea).2.1 (T ea).2.2.1 "FieldTower").before args s = true := by
          rcases hl with hl | hl
          · exact Or.inl (hts _ (tbA_in hl))
          · exact Or.inr (va_Nw.use rfl (hV.2.2.2.2.2.2.2 _ (tbB_in hl)))
        split at hty
        · rename_i hcode
          have hty : eb = 0 := by simpa using hty
          subst hty
          exact gq_getf (v := .int (hI h k ea)) hx hb hts ho hV hcl hlen h11 hea hTC htag (by rw [hcode]; rfl) hl2 hdec (hn1 hk1 _ _ _ _ _ hs)
        · rename_i hcode
          have hty : eb = 1 := by simpa using hty
          subst hty
          exact gq_getf (v := .long (hL h k ea)) hx hb hts ho hV hcl hlen h11 hea hTC htag (by rw [hcode]; rfl) hl2 hdec (hn1 hk1 _ _ _ _ _ hs)
        · rename_i hcode
          have hty : eb = 2 := by simpa using hty
          subst hty
          exact gq_getf (v := .ref (hR h k ea)) hx hb hts ho hV hcl hlen h11 hea hTC htag (by rw [hcode]; rfl) hl2 hdec (hn1 hk1 _ _ _ _ _ hs)
        · rename_i hcode
          have hty : eb = 0 := by simpa using hty
          subst hty
          exact gq_getf (v := .int (hI h k ea)) hx hb hts ho hV hcl hlen h11 hea hTC htag (by rw [hcode]; rfl) hl2 hdec (hn1 hk1 _ _ _ _ _ hs)
        · cases hty
      · cases hck
  case putfield i0 =>
    unfold ck_e at hck
    simp only [Bool.and_eq_true] at hck
    obtain ⟨hk1, hck⟩ := hck
    split at hck
    · rename_i idx C T N hcl
      simp only [Bool.and_eq_true, Bool.or_eq_true, beq_iff_eq, decide_eq_true_eq, Nat.blt_eq] at hck
      obtain ⟨⟨⟨⟨⟨⟨⟨⟨⟨rfl, hea⟩, hl⟩, hTC⟩, h11⟩, hlen⟩, hcode⟩, hfin⟩, hdc⟩, hrf⟩ := hck
      have hl2 := hts _ (tbA_in hl)
      have hfin2 : (T ea).2.2.2 = false ∨ ((T ea).2.2.2 = true ∧ meth.name = "<init>" ∧ C = mi.1.cls) := by
        rcases hfin with w | ⟨⟨w1, w2⟩, w3⟩
        · exact Or.inl w
        · exact Or.inr ⟨w1, hin w2, w3⟩
      match eb, st, hs, hcode, hdc, hrf with
      | 0, .int v :: .ref k :: s', hs, hcode, hdc, _ => exact gq_putI hx hb hts ho hV hcl hlen h11 hea hTC hs.1 hcode hdc hl2 hfin2 hdec (hn1 hk1 _ _ _ _ _ hs.2)
      | 1, .long v :: .ref k :: s', hs, hcode, hdc, _ => exact gq_putL hx hb hts ho hV hcl hlen h11 hea hTC hs.1 hcode hdc hl2 hfin2 hdec (hn1 hk1 _ _ _ _ _ hs.2)
      | 3, .int v :: .ref k :: s', hs, hcode, hdc, _ => exact gq_putZ hx hb hts ho hV hcl hlen h11 hea hTC hs.1.1 hs.1.2 hcode hdc hl2 hfin2 hdec (hn1 hk1 _ _ _ _ _ hs.2)
      | 2, .ref v :: .ref k :: s', hs, hcode, hdc, hrf =>
        have hrf2 : isRfT (parseFieldDescriptor (T ea).2.2.1) = true := by simpa using hrf
        unfold isRfT at hrf2
        split at hrf2
        · rename_i n hn
          exact gq_putR hx hb hts ho hV hcl hlen h11 hea hTC hs.1 hcode hn (Or.inl ⟨_, rfl⟩) hl2 hfin2 hdec (hn1 hk1 _ _ _ _ _ hs.2)
        · rename_i n hn
          exact gq_putR hx hb hts ho hV hcl hlen h11 hea hTC hs.1 hcode hn (Or.inr ⟨_, rfl⟩) hl2 hfin2 hdec (hn1 hk1 _ _ _ _ _ hs.2)
        · cases hrf2
    · cases hck
  case getstatic i0 =>
    unfold ck_e at hck
    simp only [Bool.and_eq_true] at hck
    obtain ⟨hk1, hck⟩ := hck
    split at hck
    · rename_i idx
      simp only [Bool.and_eq_true, Bool.or_eq_true, beq_iff_eq, Nat.blt_eq, Nat.ble_eq] at hck
      obtain ⟨⟨⟨rfl, h2⟩, h5⟩, hl⟩ := hck
      refine gq_gets (index := idx) hx hb hts ho hV hB hB2 h2 h5 ?_ hdec (hn1 hk1 _ _ _ _ _ hs)
      rcases hl with hl | hl
      · exact Or.inl (hts _ (tbA_in hl))
      · exact Or.inr (va_Nw.use rfl (hV.2.2.2.2.2.2.2 _ (tbB_in hl)))
    · cases hck
  case iaload =>
    change (ck_n mi ix' pc len && decide (raw = .iaload) && len == 1) = true at hck
    simp only [Bool.and_eq_true, Bool.or_eq_true, decide_eq_true_eq, beq_iff_eq, Nat.ble_eq, Nat.blt_eq] at hck
    obtain ⟨⟨hk1, rfl⟩, rfl⟩ := hck
    match st, hs with
    | .int i :: .ref k :: s', hs => exact gq_iald hx hb hV hB hB2 hs.1 hdec (hn1 hk1 _ _ _ _ _ hs.2)
  case baload =>
    change (ck_n mi ix' pc len && decide (raw = .baload) && len == 1) = true at hck
    simp only [Bool.and_eq_true, Bool.or_eq_true, decide_eq_true_eq, beq_iff_eq, Nat.ble_eq, Nat.blt_eq] at hck
    obtain ⟨⟨hk1, rfl⟩, rfl⟩ := hck
    match st, hs with
    | .int i :: .ref k :: s', hs => exact gq_bald hx hb hV hs.1 hdec (hn1 hk1 _ _ _ _ _ hs.2)
  case laload =>
    change (ck_n mi ix' pc len && decide (raw = .laload) && len == 1) = true at hck
    simp only [Bool.and_eq_true, Bool.or_eq_true, decide_eq_true_eq, beq_iff_eq, Nat.ble_eq, Nat.blt_eq] at hck
    obtain ⟨⟨hk1, rfl⟩, rfl⟩ := hck
    match st, hs with
    | .int i :: .ref k :: s', hs => exact gq_lald hx hb hV hs.1 hdec (hn1 hk1 _ _ _ _ _ hs.2)
  case aaload =>
    change (ck_n mi ix' pc len && decide (raw = .aaload) && len == 1) = true at hck
    simp only [Bool.and_eq_true, Bool.or_eq_true, decide_eq_true_eq, beq_iff_eq, Nat.ble_eq, Nat.blt_eq] at hck
    obtain ⟨⟨hk1, rfl⟩, rfl⟩ := hck
    match st, hs with
    | .int i :: .ref k :: s', hs => exact gq_aald hx hb hV hs.1 hdec (hn1 hk1 _ _ _ _ _ hs.2)
  case iastore =>
    change (ck_n mi ix' pc len && decide (raw = .iastore) && len == 1) = true at hck
    simp only [Bool.and_eq_true, Bool.or_eq_true, decide_eq_true_eq, beq_iff_eq, Nat.ble_eq, Nat.blt_eq] at hck
    obtain ⟨⟨hk1, rfl⟩, rfl⟩ := hck
    match st, hs with
    | .int x :: .int i :: .ref k :: s', hs => exact gq_iast hx hb hV hs.1.1 hs.1.2 hdec (hn1 hk1 _ _ _ _ _ hs.2)
  case bastore =>
    change (ck_n mi ix' pc len && decide (raw = .bastore) && len == 1) = true at hck
    simp only [Bool.and_eq_true, Bool.or_eq_true, decide_eq_true_eq, beq_iff_eq, Nat.ble_eq, Nat.blt_eq] at hck
    obtain ⟨⟨hk1, rfl⟩, rfl⟩ := hck
    match st, hs with
    | .int x :: .int i :: .ref k :: s', hs => exact gq_bast hx hb hV hs.1 hdec (hn1 hk1 _ _ _ _ _ hs.2)
  case lastore =>
    change (ck_n mi ix' pc len && decide (raw = .lastore) && len == 1) = true at hck
    simp only [Bool.and_eq_true, Bool.or_eq_true, decide_eq_true_eq, beq_iff_eq, Nat.ble_eq, Nat.blt_eq] at hck
    obtain ⟨⟨hk1, rfl⟩, rfl⟩ := hck
    match st, hs with
    | .long x :: .int i :: .ref k :: s', hs => exact gq_last hx hb hV hs.1 hdec (hn1 hk1 _ _ _ _ _ hs.2)
  case aastore =>
    change (ck_n mi ix' pc len && decide (raw = .aastore) && len == 1) = true at hck
    simp only [Bool.and_eq_true, Bool.or_eq_true, decide_eq_true_eq, beq_iff_eq, Nat.ble_eq, Nat.blt_eq] at hck
    obtain ⟨⟨hk1, rfl⟩, rfl⟩ := hck
    match st, hs with
    | .ref x :: .int i :: .ref k :: s', hs => exact gq_aast hx hb hts ho hV hs.1 hdec (hn1 hk1 _ _ _ _ _ hs.2)
  case arraylength =>
    change (ck_n mi ix' pc len && decide (raw = .arraylength) && len == 1) = true at hck
    simp only [Bool.and_eq_true, Bool.or_eq_true, decide_eq_true_eq, beq_iff_eq, Nat.ble_eq, Nat.blt_eq] at hck
    obtain ⟨⟨hk1, rfl⟩, rfl⟩ := hck
    match st, hs with
    | .ref k :: s', hs => exact gq_alen hx hb hV hB hB2 hs.1 hdec (hn1 hk1 _ _ _ _ _ hs.2)
  case new i0 =>
    simp only [ck_e, Bool.and_eq_true] at hck
    obtain ⟨hk1, hck⟩ := hck
    split at hck
    · rename_i idx C T N hcl
      simp only [Bool.and_eq_true, beq_iff_eq, decide_eq_true_eq, Nat.blt_eq] at hck
      obtain ⟨⟨⟨⟨rfl, rfl⟩, hl⟩, h11⟩, hlen⟩ := hck
      obtain ⟨hbb, hs⟩ := b_if_inv hs
      simp only [Bool.and_eq_true, Nat.ble_eq] at hbb
      exact gq_new hx hb hts ho hV hcl hlen h11 (hts _ (tbA_in hl)) hbb.1 hbb.2 hdec (hn1 hk1 _ _ _ _ _ hs)
    · cases hck
  case newarray i0 =>
    simp only [ck_e, Bool.and_eq_true] at hck
    obtain ⟨hk1, hck⟩ := hck
    split at hck
    · rename_i idx
      simp only [Bool.and_eq_true, beq_iff_eq, decide_eq_true_eq, Nat.ble_eq] at hck
      obtain ⟨⟨⟨⟨⟨rfl, rfl⟩, h20⟩, h23⟩, hty⟩, hbd⟩ := hck
      obtain ⟨hbb, hs⟩ := b_if_inv hs
      simp only [Bool.and_eq_true, Nat.ble_eq] at hbb
      obtain ⟨n, s', rfl, hs⟩ := s_i_inv hs
      exact gq_newa hx hb hts ho hV hty h20 h23 hs.1.1 hs.1.2 hbd hbb.1 hbb.2 hdec (hn1 hk1 _ _ _ _ _ hs.2)
    · cases hck
  case anewarray i0 =>
    simp only [ck_e, Bool.and_eq_true] at hck
    obtain ⟨hk1, hck⟩ := hck
    split at hck
    · rename_i idx
      simp only [Bool.and_eq_true, beq_iff_eq, decide_eq_true_eq, Nat.ble_eq] at hck
      obtain ⟨⟨⟨⟨rfl, h20⟩, h23⟩, hl⟩, hbd⟩ := hck
      obtain ⟨hbb, hs⟩ := b_if_inv hs
      simp only [Bool.and_eq_true, Nat.ble_eq] at hbb
      obtain ⟨n, s', rfl, hs⟩ := s_i_inv hs
      exact gq_newq hx hb hts ho hV h20 h23 (hts _ (tbA_in hl)) hs.1.1 hs.1.2 hbd hbb.1 hbb.2 hdec (hn1 hk1 _ _ _ _ _ hs.2)
    · cases hck
  case multianewarray i0 d0 =>
    simp only [ck_e, Bool.and_eq_true] at hck
    obtain ⟨hk1, hck⟩ := hck
    split at hck
    · rename_i idx
      simp only [Bool.and_eq_true, beq_iff_eq, Nat.ble_eq] at hck
      obtain ⟨⟨⟨rfl, hl⟩, hb1⟩, hb2⟩ := hck
      obtain ⟨hbb, hs⟩ := b_if_inv hs
      simp only [Bool.and_eq_true, Nat.ble_eq] at hbb
      obtain ⟨mm, s1, rfl, hs⟩ := s_i_inv hs
      obtain ⟨n, s2, rfl, hs⟩ := s_i_inv (st := s1) hs
      obtain ⟨⟨g1, g2, g3, g4⟩, hs⟩ := hs
      exact gq_mna hx hb hts ho hV (hts _ (tbA_in hl)) g1 g2 g3 g4 hb1 hb2 hbb.1 hbb.2 hdec (hn1 hk1 _ _ _ _ _ hs)
    · cases hck
  case ireturn =>
    simp only [ck_e, Bool.and_eq_true, Bool.or_eq_true, decide_eq_true_eq, beq_iff_eq] at hck
    obtain ⟨⟨rfl, rfl⟩, hty⟩ := hck
    obtain ⟨hbb, hs⟩ := b_if_inv hs
    simp only [Bool.and_eq_true, Nat.ble_eq] at hbb
    obtain ⟨x, s', rfl, hs⟩ := s_i_inv hs
    obtain ⟨rfl, hs⟩ := s_n_inv hs
    rcases c_eq_inv hs with ⟨rfl, hs⟩ | ⟨hne, hs⟩
    · rcases hty with ⟨w, -⟩ | ⟨-, hty⟩
      · cases w
      · intro H locs ls h1 h2 h3
        exact (hRt (.int x) h H locs ca sl ls pc hs.2 h1 h2 hbb.1 hbb.2).1 x rfl hdec (Or.inr ⟨hty, hs.1⟩)
    · rcases hty with ⟨-, hty⟩ | ⟨w, -⟩
      · intro H locs ls h1 h2 h3
        exact (hRt (.int x) h H locs ca sl ls pc hs h1 h2 hbb.1 hbb.2).1 x rfl hdec (Or.inl hty)
      · exact absurd w hne
  case lreturn =>
    simp only [ck_e, Bool.and_eq_true, decide_eq_true_eq, beq_iff_eq] at hck
    obtain ⟨⟨rfl, rfl⟩, hty⟩ := hck
    obtain ⟨hbb, hs⟩ := b_if_inv hs
    simp only [Bool.and_eq_true, Nat.ble_eq] at hbb
    obtain ⟨x, s', rfl, hs⟩ := s_l_inv hs
    obtain ⟨rfl, hs⟩ := s_n_inv hs
    intro H locs ls h1 h2 h3
    exact (hRt (.long x) h H locs ca sl ls pc hs h1 h2 hbb.1 hbb.2).2.1 x rfl hdec hty
  case return_ =>
    simp only [ck_e, Bool.and_eq_true, decide_eq_true_eq, beq_iff_eq] at hck
    obtain ⟨⟨rfl, rfl⟩, hty⟩ := hck
    obtain ⟨hbb, hs⟩ := b_if_inv hs
    simp only [Bool.and_eq_true, Nat.ble_eq] at hbb
    obtain ⟨rfl, hs⟩ := s_n_inv hs
    intro H locs ls h1 h2 h3
    exact (hRt .null h H locs ca sl ls pc hs h1 h2 hbb.1 hbb.2).2.2 rfl hdec hty
  case invokevirtual i0 =>
    simp only [ck_e, Bool.and_eq_true] at hck
    obtain ⟨hk1, hck⟩ := hck
    split at hck
    · rename_i idx cm0 hm0
      simp only [Bool.and_eq_true, beq_iff_eq, decide_eq_true_eq, Nat.ble_eq, Nat.blt_eq] at hck
      obtain ⟨⟨⟨⟨⟨⟨rfl, hcc⟩, heb⟩, hcl⟩, h11⟩, hsel⟩, hlk2⟩ := hck
      obtain ⟨cm, cq, hm, hq, hckc⟩ := ck_call_use hcc
      have hcm : cm0 = cm := Option.some.inj (hm0.symm.trans hm)
      subst hcm
      obtain ⟨⟨as0, s'⟩, hp, hs⟩ := p_if_inv hs
      obtain ⟨k, as, has, hs⟩ := s_r_inv hs
      have has : as0 = .ref k :: as := has
      subst has
      obtain ⟨hbb, hs⟩ := b_if_inv hs
      simp only [Bool.and_eq_true, Nat.ble_eq] at hbb
      obtain ⟨b, hb1, hb2, hb3⟩ := popn_eq _ _ _ _ _ hp
      rw [List.append_nil] at hb2
      have hb4 : b = as.reverse ++ [.ref k] := by
        have := congrArg List.reverse hb2
        simpa using this.symm
      subst hb4
      have hlen : as.length = eb - 1 := by
        have : as.length + 1 = eb := by simpa using hb3
        omega
      rw [hckc.2.2.2.2.2.2.2.1] at hbb hs
      obtain ⟨r0, hr0⟩ : ∃ r0, v_cl[tl_g tl]? = some r0 := by
        cases hv : v_cl[tl_g tl]? with
        | none => rw [hv] at hcl; cases hcl
        | some r0 => exact ⟨r0, rfl⟩
      rw [hr0] at hcl
      have hr1 : r0.1 = cm0.1.cls := Option.some.inj hcl
      rw [hb1]
      have := gq_callV (b := as.reverse) (rest := s') (K := fun r h' => nx pl (pshE ec r s') h' (ca + cq.2.1) (sl + cq.2.2)) (pl := pl) (h := h) (ca := ca) (sl := sl) (pc := pc) (Q := Q) hx hb hts ho hV hB hB2 hml hm hq hckc (tbA_in hlk2) (tbA_in hsel) hr0 hr1 h11 hs.1 (by simp [hlen]) (by rw [List.reverse_reverse]; exact hs.2) hbb.2 hbb.1.1 hbb.1.2 hdec (fun r h' hk => by
        have := hn1 hk1 _ _ _ _ _ hk
        rw [pshE_R hckc.2.2.2.2.2.2.2.2.1]
        exact this)
      simpa using this
    · cases hck
  case invokespecial i0 =>
    simp only [ck_e, Bool.and_eq_true] at hck
    obtain ⟨hk1, hck⟩ := hck
    split at hck
    · rename_i idx cm0 hm0
      simp only [Bool.and_eq_true, beq_iff_eq] at hck
      obtain ⟨rfl, hck⟩ := hck
      rcases c_eq_inv hs with ⟨rfl, hs⟩ | ⟨h9, hs⟩
      · rw [if_pos rfl] at hck
        simp only [Bool.and_eq_true, Nat.ble_eq] at hck
        obtain ⟨⟨hl, hfr⟩, hlo⟩ := hck
        obtain ⟨k, s', rfl, hs⟩ := s_r_inv hs
        obtain ⟨hbb, hs⟩ := b_if_inv hs
        exact gq_obj hx hb hts ho hV hml hs.1 (tbA_in hl) (by simpa using hbb) hfr hlo hdec (hn1 hk1 _ _ _ _ _ hs.2)
      · rw [if_neg h9] at hck
        simp only [Bool.and_eq_true, decide_eq_true_eq, Nat.ble_eq] at hck
        obtain ⟨⟨⟨⟨hcc, heb⟩, hnm⟩, hrn⟩, hlk2⟩ := hck
        obtain ⟨cm, cq, hm, hq, hckc⟩ := ck_call_use hcc
        have hcm : cm0 = cm := Option.some.inj (hm0.symm.trans hm)
        subst hcm
        obtain ⟨⟨as0, s'⟩, hp, hs⟩ := p_if_inv hs
        obtain ⟨k, as, has, hs⟩ := s_r_inv hs
        have has : as0 = .ref k :: as := has
        subst has
        obtain ⟨hbb, hs⟩ := b_if_inv hs
        simp only [Bool.and_eq_true, Nat.ble_eq] at hbb
        obtain ⟨b, hb1, hb2, hb3⟩ := popn_eq _ _ _ _ _ hp
        rw [List.append_nil] at hb2
        have hb4 : b = as.reverse ++ [.ref k] := by
          have := congrArg List.reverse hb2
          simpa using this.symm
        subst hb4
        have hlen : as.length = eb - 1 := by
          have : as.length + 1 = eb := by simpa using hb3
          omega
        rw [hckc.2.2.2.2.2.2.2.1] at hbb hs
        rw [hb1]
        have := gq_callI (b := as.reverse) (rest := s') (K := fun _ h' => nx pl s' h' (ca + cq.2.1) (sl + cq.2.2)) (pl := pl) (h := h) (ca := ca) (sl := sl) (pc := pc) (Q := Q) hx hb hts ho hV hB hB2 hml hm hq hckc (tbA_in hlk2) hnm hrn hs.1 (by simp [hlen]) (by rw [List.reverse_reverse]; exact hs.2) hbb.2 hbb.1.1 hbb.1.2 hdec (fun r h' hk => by
          have := hn1 hk1 _ _ _ _ _ hk
          rw [hrn]
          exact this)
        simpa using this
    · cases hck
  case invokestatic i0 =>
    simp only [ck_e, Bool.and_eq_true] at hck
    obtain ⟨hk1, hck⟩ := hck
    split at hck
    · rename_i idx
      simp only [Bool.and_eq_true, beq_iff_eq] at hck
      obtain ⟨rfl, hck⟩ := hck
      rcases c_eq_inv hs with ⟨rfl, hs⟩ | ⟨h8, hs⟩
      · rw [if_pos rfl] at hck
        simp only [Bool.and_eq_true, Nat.ble_eq] at hck
        obtain ⟨⟨hl, hfr⟩, hlo⟩ := hck
        obtain ⟨n, s1, rfl, hs⟩ := s_i_inv hs
        obtain ⟨dp, s2, rfl, hs⟩ := s_i_inv (st := s1) hs
        obtain ⟨k1, s3, rfl, hs⟩ := s_r_inv (st := s2) hs
        obtain ⟨sp, s4, rfl, hs⟩ := s_i_inv (st := s3) hs
        obtain ⟨k0, s5, rfl, hs⟩ := s_r_inv (st := s4) hs
        obtain ⟨hbb, hs⟩ := b_if_inv hs
        obtain ⟨⟨g1, g2, g3, g4, g5, g6, g7, g8⟩, hs⟩ := hs
        exact gq_acp hx hb hts ho hV hB hB2 hml (by simpa using hbb) g1 g2 g3 g4 g5 g6 g7 g8 (hts _ (tbA_in hl)) hfr hlo hdec (hn1 hk1 _ _ _ _ _ hs)
      · rw [if_neg h8] at hck
        obtain ⟨cm, cq, hm, hq, hckc⟩ := ck_call_use hck
        obtain ⟨⟨as, s'⟩, hp, hs⟩ := p_if_inv hs
        obtain ⟨hbb, hs⟩ := b_if_inv hs
        simp only [Bool.and_eq_true, Nat.ble_eq] at hbb
        obtain ⟨b, hb1, hb2, hb3⟩ := popn_eq _ _ _ _ _ hp
        rw [List.append_nil] at hb2
        subst hb2
        rw [hckc.2.2.2.2.2.2.2.1] at hbb hs
        rw [hb1]
        exact gq_callS (b := b) (rest := s') (K := fun r h' => nx pl (pshE ec r s') h' (ca + cq.2.1) (sl + cq.2.2)) (pl := pl) (h := h) (ca := ca) (sl := sl) (pc := pc) (Q := Q) hx hb hts ho hV hB hB2 hml hm hq hckc hb3 hs hbb.2 hbb.1.1 hbb.1.2 hdec (fun r h' hk => by
          have := hn1 hk1 _ _ _ _ _ hk
          rw [pshE_R hckc.2.2.2.2.2.2.2.2.1]
          exact this)
    · cases hck
  all_goals exact hs.elim
