/-! CHECK: the class's checks, one by one -/
theorem l_cmp_v {a b : Nat} (ha : a < 2 ^ 63) (hb : b < 2 ^ 63) : l_cmp (lN a) (lN b) = if b < a then 1 else if a = b then 0 else -1 := by
  unfold l_cmp
  have e1 : (lN a > lN b) ↔ b < a := zl_lt hb ha
  have e2 := zl_eq ha hb
  rcases Nat.lt_trichotomy a b with h | h | h
  · rw [if_neg (fun y => absurd (e1.mp y) (by omega)), if_neg (fun y => absurd (e2.mp y) (by omega)), if_neg (by omega), if_neg (by omega)]
  · rw [if_neg (fun y => absurd (e1.mp y) (by omega)), if_pos (e2.mpr h), if_neg (by omega), if_pos h]
  · rw [if_pos (e1.mpr h), if_pos h]
theorem l_cmp_lt {a b : Nat} (ha : a < 2 ^ 63) (hb : b < 2 ^ 63) : l_cmp (lN a) (lN b) < 0 ↔ a < b := by
  rw [l_cmp_v ha hb]
  rcases Nat.lt_trichotomy a b with h | h | h
  · rw [if_neg (by omega), if_neg (by omega)]
    exact ⟨fun _ => h, fun _ => by decide⟩
  · rw [if_neg (by omega), if_pos h]
    exact ⟨fun y => absurd y (by decide), fun y => by omega⟩
  · rw [if_pos h]
    exact ⟨fun y => absurd y (by decide), fun y => by omega⟩
theorem l_cmp_le {a b : Nat} (ha : a < 2 ^ 63) (hb : b < 2 ^ 63) : l_cmp (lN a) (lN b) ≤ 0 ↔ a ≤ b := by
  rw [l_cmp_v ha hb]
  rcases Nat.lt_trichotomy a b with h | h | h
  · rw [if_neg (by omega), if_neg (by omega)]
    exact ⟨fun _ => by omega, fun _ => by decide⟩
  · rw [if_neg (by omega), if_pos h]
    exact ⟨fun _ => by omega, fun _ => by decide⟩
  · rw [if_pos h]
    exact ⟨fun y => absurd y (by decide), fun y => by omega⟩
def fdH (s : Nat) (h : PH) (r nm w i : Nat) : PH := if r = 6 then sI (sI (sI (sI h s 11 (nI w)) (s + 7) nm (nI w)) (s + 8) nm (nI (i + 1))) (s + 9) nm 0 else sI h s 11 (nI w)
theorem c_Script_checkField {P : PSem} (S : SysOK P) {h : PH} (hw : WS h) {s : Nat} (hs : SCL s) {i r w nm : Nat} (hi : i < 400) (hr : hI h (s + 2) i = nI r) (r10 : r ≤ 10) (hl : hL h (s + 4) i = lN w) (hwl : w < 2 ^ 63) (hn : hI h s 6 = nI nm) (n8' : r = 6 → nm < 8) {K : PK}
    (hB : ¬ (1 ≤ w ∧ w ≤ 12) → K (.int 5) h) (hG : 1 ≤ w → w ≤ 12 → K (.int 0) (fdH s h r nm w i)) : P.1 n_Script_checkField [.ref s, .int (nI i)] h K := by
  have s6 : 96 ≤ s := by rcases hs with rfl | rfl <;> decide
  refine S.go 60 rfl rfl rfl ?_
  conv => whnf
  refine ⟨sc_t hw hs, ?_⟩
  conv => whnf
  rw [sc_r4 hw hs]
  refine ⟨inB_of (sc_t4 hw hs) (sc_n4 hw hs) hi (by decide), ?_⟩
  conv => whnf
  rw [nI_clamp (by omega), hl]
  rcases Nat.lt_or_ge w 1 with c | c
  · refine bk_t (((l_cmp_lt (b := 1) hwl (by decide)).mpr c)) ?_
    conv => whnf
    exact hB (by omega)
  refine bk_f ((fun y => absurd ((l_cmp_lt (b := 1) hwl (by decide)).mp y) (by omega))) ?_
  conv => whnf
  refine ⟨sc_t hw hs, ?_⟩
  conv => whnf
  rw [sc_r4 hw hs]
  refine ⟨inB_of (sc_t4 hw hs) (sc_n4 hw hs) hi (by decide), ?_⟩
  conv => whnf
  rw [nI_clamp (by omega), hl]
  rcases Nat.lt_or_ge 12 w with d | d
  · refine bk_f ((fun y => absurd ((l_cmp_le (b := 12) hwl (by decide)).mp y) (by omega))) ?_
    conv => whnf
    exact hB (by omega)
  refine bk_t (((l_cmp_le (b := 12) hwl (by decide)).mpr d)) ?_
  conv => whnf
  have hG := hG c d
  unfold fdH at hG
  refine ⟨sc_t hw hs, ?_⟩
  conv => whnf
  rw [sc_r4 hw hs]
  refine ⟨inB_of (sc_t4 hw hs) (sc_n4 hw hs) hi (by decide), ?_⟩
  conv => whnf
  rw [nI_clamp (by omega), hl, l2i_s w (by omega)]
  refine ⟨sc_t hw hs, ?_⟩
  conv => whnf
  refine ⟨sc_t hw hs, ?_⟩
  conv => whnf
  have w2 : hR (sI h s 11 (nI w)) s 2 = s + 2 := sc_r2 hw hs
  rw [w2]
  refine ⟨inB_of (sc_t2 hw hs) (sc_n2 hw hs) hi (by decide), ?_⟩
  conv => whnf
  have r2 : hI (sI h s 11 (nI w)) (s + 2) i = nI r := (hI_ne (by omega)).trans hr
  rw [nI_clamp (by omega), r2]
  refine bk_ne (b := 6) (by omega) (by omega) (fun z => ?_) (fun z => ?_)
  · rw [if_neg z] at hG
    conv => whnf
    exact hG
  · rw [if_pos z] at hG
    have n8 := n8' z
    have n2 : hI (sI h s 11 (nI w)) s 6 = nI nm := (hI_sI_j (by decide)).trans hn
    conv => whnf
    refine ⟨sc_t hw hs, ?_⟩
    conv => whnf
    rw [n2]
    refine bk_f (fun c => absurd ((zn_le (a := 8) (by omega) (by omega)).mp c) (by omega)) ?_
    conv => whnf
    refine ⟨sc_t hw hs, ?_⟩
    conv => whnf
    have w8 : hR (sI h s 11 (nI w)) s 8 = s + 7 := sc_r8 hw hs
    rw [w8]
    refine ⟨sc_t hw hs, ?_⟩
    conv => whnf
    rw [n2]
    refine ⟨sc_t hw hs, ?_⟩
    conv => whnf
    have v11 : hI (sI h s 11 (nI w)) s 11 = nI w := hI_sI
    rw [v11]
    refine ⟨⟨(show 5 ≤ s + 7 by omega), inB_of (sc_t7 hw hs) (sc_n7 hw hs) n8 (by decide)⟩, ?_⟩
    conv => whnf
    rw [nI_clamp (by omega)]
    refine ⟨sc_t hw hs, ?_⟩
    conv => whnf
    have w9 : hR (sI (sI h s 11 (nI w)) (s + 7) nm (nI w)) s 9 = s + 8 := sc_r9 hw hs
    rw [w9]
    refine ⟨sc_t hw hs, ?_⟩
    conv => whnf
    have n3 : hI (sI (sI h s 11 (nI w)) (s + 7) nm (nI w)) s 6 = nI nm := (hI_ne (by omega)).trans n2
    rw [n3]
    refine ⟨⟨(show 5 ≤ s + 8 by omega), inB_of (sc_t8 hw hs) (sc_n8 hw hs) n8 (by decide)⟩, ?_⟩
    conv => whnf
    rw [nI_clamp (by omega)]
    have ei : (fun x y : Int32 => x + y) (nI i) 1 = nI (i + 1) := nI_1 i
    rw [ei]
    refine ⟨sc_t hw hs, ?_⟩
    conv => whnf
    have w10 : hR (sI (sI (sI h s 11 (nI w)) (s + 7) nm (nI w)) (s + 8) nm (nI (i + 1))) s 10 = s + 9 := sc_r10 hw hs
    rw [w10]
    refine ⟨sc_t hw hs, ?_⟩
    conv => whnf
    have n4 : hI (sI (sI (sI h s 11 (nI w)) (s + 7) nm (nI w)) (s + 8) nm (nI (i + 1))) s 6 = nI nm := (hI_ne (by omega)).trans n3
    rw [n4]
    refine ⟨Or.inr (inB_of (sc_t9 hw hs) (sc_n9 hw hs) n8 (by decide)), ?_⟩
    have w9t : hT (sI (sI (sI h s 11 (nI w)) (s + 7) nm (nI w)) (s + 8) nm (nI (i + 1))) (s + 9) = 22 := sc_t9 hw hs
    try rw [nI_clamp (show nm < 2 ^ 31 by omega)]
    try rw [w9t]
    conv => whnf
    exact hG
