/-! THE SEMANTICS: what the transformer gives, and the machine keeps -/
def entL : List Value → Nat → PL
  | [], n => List.replicate n none
  | .long x :: l, n => some (.long x) :: none :: entL l (n - 2)
  | .double x :: l, n => some (.double x) :: none :: entL l (n - 2)
  | v :: l, n => some v :: entL l (n - 1)
/-- what a semantics of methods keeps: a place by the transformer, a method by its first place, fewer known locals, more at the end -/
def SysOK (P : PSem) : Prop :=
  (∀ (i ix : Nat) (q : List Ent × Nat × Nat) (stops : List Nat) (f : Nat) (pl : PL) (st : List Value) (h : PH) (ca sl : Nat) (K : PK), progs[i]? = some q → wp P i q.2.1 q.2.2 q.1 stops K f (q.1.drop ix) pl st h ca sl → P.2 i ix pl st h ca sl K) ∧
  (∀ (i n : Nat) (as : List Value) (h : PH) (K : PK), mxl[i]? = some n → Nat.ble (ctg as) n = true → P.2 i 0 (entL as n) [] h 0 0 K → P.1 i as h K) ∧
  (∀ (i ix : Nat) (pl pl' : PL) (st : List Value) (h : PH) (ca sl : Nat) (K : PK), (∀ (j : Nat) (v : Value), pl'[j]? = some (some v) → pl[j]? = some (some v)) → P.2 i ix pl' st h ca sl K → P.2 i ix pl st h ca sl K) ∧
  (∀ (i ix : Nat) (pl : PL) (st : List Value) (h : PH) (ca sl : Nat) (K K' : PK), (∀ r h, K r h → K' r h) → P.2 i ix pl st h ca sl K → P.2 i ix pl st h ca sl K')
theorem drop_at {α : Type} {l r : List α} {a : α} {ix : Nat} (h : l.drop ix = a :: r) : l[ix]? = some a ∧ l.drop (ix + 1) = r := by
  have h1 : (l.drop ix)[0]? = some a := by rw [h]; rfl
  rw [List.getElem?_drop] at h1
  refine ⟨by simpa using h1, ?_⟩
  have h2 : (l.drop ix).drop 1 = r := by rw [h]; rfl
  rw [List.drop_drop] at h2
  rwa [Nat.add_comm] at h2 ⊢
theorem GLp.mk {G : GW} {mi : MI} {mc ms : Nat} {p : Program} {l : Launch} {e : Env} {s : State} {m : MethodId} {args : Array Value} {below : List Frame} {meth : Method} {c : Code} {Q : State → Prop} {pc : Nat} {pl : PL} {st : List Value} {h : PH} {ca sl : Nat} {mm : List (Int32 × Nat)} (k : GLp G mi mc ms p l e s m args below meth c Q pc (lmk mm pl) st h ca sl) : GLp G mi mc ms p l e s m args below meth c Q pc pl st h ca sl := fun H locs ls h1 h2 h3 => k H locs ls h1 h2 (h3.mk mm)
theorem wp_ok {i : Nat} {stops : List Nat} {G : GW} {mi : MI} {q : List Ent × Nat × Nat} {p : Program} {l : Launch} {e : Env} {s : State} {m : MethodId} {args : Array Value} {below : List Frame} {meth : Method} {c : Code} {Q : State → Prop} {K : PK}
    (hq : progs[i]? = some q) (hm : mis[i]? = some mi) (hk : CkM i)
    (hC : CXm mi p s m args meth c) (hV : VRl G s) (hB : G.2.2.2.1.size ≤ s.heap.size) (hB2 : ∀ q, q < G.2.2.2.1.size → s.heap[q]? = G.2.2.2.1[q]?) (hRt : ROK G mi q.2.1 q.2.2 K p l e (rmU mi q.2.1 q.2.2) s m args below meth c Q) :
    ∀ (f ix : Nat) (pl : PL) (st : List Value) (h : PH) (ca sl : Nat), wp PSd i q.2.1 q.2.2 q.1 stops K f (q.1.drop ix) pl st h ca sl → ∀ x, pcA mi ix = some x → GLp G mi q.2.1 q.2.2 p l e s m args below meth c Q x.1 pl st h ca sl := by
  obtain ⟨hlen, -, hck, -⟩ := hk mi q hm hq
  have hpw : ∀ (ix : Nat) (pl : PL) (st : List Value) (h : PH) (ca sl : Nat), PWd i ix pl st h ca sl K → ∀ x, pcA mi ix = some x → GLp G mi q.2.1 q.2.2 p l e s m args below meth c Q x.1 pl st h ca sl := fun ix pl st h ca sl hs x hx H locs ls h1 h2 h3 => hs q mi x hq hm hx l G p e s m args below meth c H locs ls Q hC h1 hV h2 hB hB2 h3 hRt
  intro f
  induction f with
  | zero =>
    intro ix pl st h ca sl hs x hx
    cases hd : q.1.drop ix with
    | nil => rw [hd] at hs; exact hs.elim
    | cons en rest =>
      rw [hd] at hs
      obtain ⟨he, hr⟩ := drop_at hd
      have hl : ix < q.1.length := (List.getElem?_eq_some_iff.mp he).1
      obtain ⟨-, h2, -⟩ := ck_at_use (hck ix hl) hx he
      have hs : PWd i en.1 pl st h ca sl K := hs
      rw [h2] at hs
      exact hpw ix pl st h ca sl hs x hx
  | succ f ih =>
    intro ix pl st h ca sl hs x hx
    cases hd : q.1.drop ix with
    | nil => rw [hd] at hs; exact hs.elim
    | cons en rest =>
      rw [hd] at hs
      obtain ⟨he, hr⟩ := drop_at hd
      have hl : ix < q.1.length := (List.getElem?_eq_some_iff.mp he).1
      obtain ⟨h1, h2, h3⟩ := ck_at_use (hck ix hl) hx he
      refine stp_ok hC hV hB hB2 hRt h1 h2 h3 ?_ ?_ hs
      · intro pl st h ca sl hn y hy
        cases hrest : rest with
        | nil => rw [hrest] at hn; exact hn.elim
        | cons e2 r2 =>
          rw [hrest] at hn
          cases hb : isn stops e2.1 with
          | true =>
            have hn : PWd i e2.1 pl st h ca sl K := by
              simp only [hb] at hn
              exact hn
            have hd2 : q.1.drop (ix + 1) = e2 :: r2 := by rw [hr, hrest]
            obtain ⟨he2, -⟩ := drop_at hd2
            have hl2 : ix + 1 < q.1.length := (List.getElem?_eq_some_iff.mp he2).1
            obtain ⟨-, g2, -⟩ := ck_at_use (hck (ix + 1) hl2) hy he2
            rw [g2] at hn
            exact hpw _ _ _ _ _ _ hn y hy
          | false =>
            have hn : wp PSd i q.2.1 q.2.2 q.1 stops K f (e2 :: r2) pl st h ca sl := by
              simp only [hb] at hn
              exact hn
            rw [← hrest, ← hr] at hn
            exact ih (ix + 1) pl st h ca sl hn y hy
      · intro t mm pl st h ca sl hn y hy
        cases hb : Nat.ble t en.1 || isn stops t with
        | true =>
          have hn : PWd i t (lmk mm pl) st h ca sl K := by
            simp only [hb] at hn
            exact hn
          exact (hpw _ _ _ _ _ _ hn y hy).mk
        | false =>
          have hn : wp PSd i q.2.1 q.2.2 q.1 stops K f (q.1.drop t) pl st h ca sl := by
            simp only [hb] at hn
            exact hn
          exact ih t pl st h ca sl hn y hy
theorem ROK.mono {G : GW} {mi : MI} {mc ms : Nat} {K K' : PK} {p : Program} {l : Launch} {e : Env} {R : Room} {s : State} {m : MethodId} {args : Array Value} {below : List Frame} {meth : Method} {c : Code} {Q : State → Prop} (hK : ∀ r h, K r h → K' r h) (h : ROK G mi mc ms K' p l e R s m args below meth c Q) : ROK G mi mc ms K p l e R s m args below meth c Q :=
  fun r hh H locs ca sl ls pc k => h r hh H locs ca sl ls pc (hK _ _ k)
theorem entL_get {G : GW} : ∀ (as : List Value) (n o i : Nat) (v : Value), (entL as n)[i]? = some (some v) → (o + i, tv G v) ∈ lv_args o (as.map (tv G))
  | [], n, o, i, v, h => by
    unfold entL at h
    rw [List.getElem?_replicate] at h
    split at h <;> cases h
  | a :: as, n, o, i, v, h => by
    have one : a.category = 1 → entL (a :: as) n = some a :: entL as (n - 1) → (o + i, tv G v) ∈ lv_args o ((a :: as).map (tv G)) := fun hc he => by
      rw [he] at h
      have hca : (tv G a).category = 1 := by rw [tv_cat]; exact hc
      rw [List.map_cons]
      unfold lv_args
      cases i with
      | zero =>
        cases h
        exact List.mem_cons_self
      | succ i =>
        refine List.mem_cons_of_mem _ ?_
        have := entL_get (G := G) as (n - 1) (o + 1) i v h
        rw [show o + (i + 1) = o + 1 + i by omega]
        simpa [hca] using this
    have two : a.category = 2 → entL (a :: as) n = some a :: none :: entL as (n - 2) → (o + i, tv G v) ∈ lv_args o ((a :: as).map (tv G)) := fun hc he => by
      rw [he] at h
      have hca : (tv G a).category = 2 := by rw [tv_cat]; exact hc
      rw [List.map_cons]
      unfold lv_args
      match i, h with
      | 0, h =>
        cases h
        exact List.mem_cons_self
      | 1, h => cases h
      | i + 2, h =>
        refine List.mem_cons_of_mem _ ?_
        have := entL_get (G := G) as (n - 2) (o + 2) i v h
        rw [show o + (i + 2) = o + 2 + i by omega]
        simpa [hca] using this
    cases a with
    | long x => exact two rfl rfl
    | double x => exact two rfl rfl
    | _ => exact one rfl rfl
theorem lg_sl_len {G : GW} : ∀ as : List Value, (lg_sl (as.map (tv G))).length = ctg as
  | [] => rfl
  | a :: as => by
    have ih := lg_sl_len (G := G) as
    have e : lg_sl ((a :: as).map (tv G)) = (if (tv G a).category = 2 then [.val (tv G a), .second] else [.val (tv G a)]) ++ lg_sl (as.map (tv G)) := by
      simp [lg_sl]
    rw [e, List.length_append, ih, tv_cat]
    cases a <;> rfl
/-- the machine is such a semantics, where all methods are checked -/
theorem sys_ok (hck : ∀ i, CkM i) (hmx : ∀ (i n : Nat) (mi : MI), mxl[i]? = some n → mis[i]? = some mi → mi.2.2.1 = n) : SysOK PSd := by
  refine ⟨?_, ?_, ?_, ?_⟩
  · intro i ix q stops f pl st h ca sl K hq hw q' mi x hq' hm hx l G p e s m args below meth c H locs ls Q hC h1 hV h2 hB hB2 h3 hRt
    have eq : q = q' := Option.some.inj (hq.symm.trans hq')
    subst eq
    exact wp_ok hq hm (hck i) hC hV hB hB2 hRt f ix pl st h ca sl hw x hx H locs ls h1 h2 h3
  · intro i n as h K hn hct hw l G q mi hq hm
    have hmn := hmx i n mi hn hm
    obtain ⟨hlen, hpn, hck0, hx0⟩ := hck i mi q hm hq
    have hct : ctg as ≤ n := by simpa using hct
    refine va_MetF (cc := mi.2.1) (maxL := mi.2.2.1) (ret := mi.2.2.2.1) hpn rfl ?_
    intro p e s m args below meth c s₁ B hml hv
    obtain ⟨rfl, hH, hV⟩ := hv
    have hts := atoms_spec (ws := wsU mi) B.pre
    have hown : s.vm.findClass mi.1.cls = some m.cls := findClass_of_methodNamed B.named
    have hnm := (name_of_methodNamed B.named B.method).1
    have hr := B.returns
    have hlocks := B.notSynchronized
    have hC : CXm mi p s m ((as.map (tv G)).toArray) meth c := ⟨B.exec, B.bytes, hml, fun w hw => hts w (List.mem_cons_of_mem _ hw), hown, hlocks, fun w => by rw [hnm, w]⟩
    have hB : G.2.2.2.1.size ≤ s.heap.size := by rw [hH.2.2.1]; omega
    have hl := lv_entry (as.map (tv G)) (n := mi.2.2.1) (by rw [lg_sl_len, hmn]; exact hct)
    rw [lg_entry_eq]
    have h3 : LRl G (entL as n) ((lg_sl (as.map (tv G)) ++ List.replicate (mi.2.2.1 - (lg_sl (as.map (tv G))).length) Slot.unset).toArray) mi.2.2.1 := ⟨hl.1, hl.2.1, fun j v hj => hl.2.2 (j, tv G v) (by have := entL_get (G := G) as n 0 j v hj; rwa [Nat.zero_add] at this)⟩
    obtain ⟨x, hx0, hx1⟩ := hx0
    have := hw q mi x hq hm hx0 l G p e s m _ below meth c s.heap [] _ (MQ below (QcU G mi.2.2.2.1 K) ((as.map (tv G)).toArray) s q.2.1 q.2.2 (AA G)) hC hH hV va_S.rf hB hH.2.2.2.1 h3 ?_
    · rw [hx1] at this
      exact this
    · intro r h' H locs ca sl ls pc hK h1 h2 hca hsl
      have fin : ∀ (t : State), t.heap = H → ∀ o, o = Outcome.returned (match mi.2.2.2.1 with | none => none | some _ => some (tv G r)) → QcU G mi.2.2.2.1 K ((as.map (tv G)).toArray) s o t := fun t ht o ho => ⟨by rw [ht]; exact h2.1, r, h', hK, ho, by rw [ht]; exact h1⟩
      refine ⟨?_, ?_, ?_⟩
      · rintro y rfl hd hty
        refine W.widen (k := q.2.1) (n := q.2.2) hca hsl ?_
        rcases hty with hty | ⟨hty, hz⟩
        · exact W.iret B.exec B.bytes (by rw [hr, hty]) (fun t ht _ => fin t ht _ (by rw [hty]; rfl)) h2.2.2 hd
        · exact W.zret (ty := .boolean) B.exec B.bytes (by rw [hr, hty]) (by rcases hz with rfl | rfl <;> rfl) (fun t ht _ => fin t ht _ (by rw [hty]; rfl)) h2.2.2 hd
      · rintro y rfl hd hty
        refine W.widen (k := q.2.1) (n := q.2.2) hca hsl ?_
        exact W.lret B.exec B.bytes (by rw [hr, hty]) (fun t ht _ => fin t ht _ (by rw [hty]; rfl)) h2.2.2 hd
      · rintro rfl hd hty
        refine W.widen (k := q.2.1) (n := q.2.2) hca hsl ?_
        exact W.vret B.exec B.bytes (by rw [hr, hty]) (fun t ht _ => fin t ht _ (by rw [hty])) h2.2.2 hd
  · intro i ix pl pl' st h ca sl K hle hw q mi x hq hm hx l G p e s m args below meth c H locs ls Q hC h1 hV h2 hB hB2 h3 hRt
    exact hw q mi x hq hm hx l G p e s m args below meth c H locs ls Q hC h1 hV h2 hB hB2 ⟨h3.1, h3.2.1, fun j v hj => h3.2.2 j v (hle j v hj)⟩ hRt
  · intro i ix pl st h ca sl K K' hle hw q mi x hq hm hx l G p e s m args below meth c H locs ls Q hC h1 hV h2 hB hB2 h3 hRt
    exact hw q mi x hq hm hx l G p e s m args below meth c H locs ls Q hC h1 hV h2 hB hB2 h3 (hRt.mono hle)
