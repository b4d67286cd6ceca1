/-! all methods are checked; the machine is a semantics -/
theorem ck_all : ∀ i, CkM i := by
  intro i
  rcases Nat.lt_or_ge i 42 with h42 | h42
  · have := ckA_0 (i - 0) (by omega)
    rwa [show 0 + (i - 0) = i by omega] at this
  rcases Nat.lt_or_ge i 84 with h84 | h84
  · have := ckA_42 (i - 42) (by omega)
    rwa [show 42 + (i - 42) = i by omega] at this
  rcases Nat.lt_or_ge i 126 with h126 | h126
  · have := ckA_84 (i - 84) (by omega)
    rwa [show 84 + (i - 84) = i by omega] at this
  rcases Nat.lt_or_ge i 168 with h168 | h168
  · have := ckA_126 (i - 126) (by omega)
    rwa [show 126 + (i - 126) = i by omega] at this
  rcases Nat.lt_or_ge i 210 with h210 | h210
  · have := ckA_168 (i - 168) (by omega)
    rwa [show 168 + (i - 168) = i by omega] at this
  rcases Nat.lt_or_ge i 248 with h248 | h248
  · have := ckA_210 (i - 210) (by omega)
    rwa [show 210 + (i - 210) = i by omega] at this
  intro mi q hm hq
  have h1 := (List.getElem?_eq_some_iff.mp hm).1
  have hl : mis.length = 248 := by decide +kernel
  omega
theorem mxl_ok : mis.map (fun m => m.2.2.1) = mxl := by decide +kernel
theorem sys_PSd : SysOK PSd := by
  refine sys_ok ck_all (fun i n mi hn hm => ?_)
  rw [← mxl_ok, List.getElem?_map, hm] at hn
  exact Option.some.inj hn
