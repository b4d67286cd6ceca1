/-! all methods are checked; the machine is a semantics -/
theorem ckl_247 : ck_l 247 = true := by decide +kernel
theorem ckm_247 : CkM 247 := ckM_of (n := 905) ckl_247 (ck_r_app (n1 := 887) (n2 := 18) (ck_r_app (n1 := 862) (n2 := 25) (ck_r_app (n1 := 837) (n2 := 25) (ck_r_app (n1 := 812) (n2 := 25) (ck_r_app (n1 := 787) (n2 := 25) (ck_r_app (n1 := 762) (n2 := 25) (ck_r_app (n1 := 737) (n2 := 25) (ck_r_app (n1 := 712) (n2 := 25) (ck_r_app (n1 := 687) (n2 := 25) (ck_r_app (n1 := 662) (n2 := 25) (ck_r_app (n1 := 637) (n2 := 25) (ck_r_app (n1 := 612) (n2 := 25) (ck_r_app (n1 := 587) (n2 := 25) (ck_r_app (n1 := 562) (n2 := 25) (ck_r_app (n1 := 537) (n2 := 25) (ck_r_app (n1 := 512) (n2 := 25) (ck_r_app (n1 := 487) (n2 := 25) (ck_r_app (n1 := 462) (n2 := 25) (ck_r_app (n1 := 437) (n2 := 25) (ck_r_app (n1 := 412) (n2 := 25) (ck_r_app (n1 := 387) (n2 := 25) (ck_r_app (n1 := 362) (n2 := 25) (ck_r_app (n1 := 337) (n2 := 25) (ck_r_app (n1 := 312) (n2 := 25) (ck_r_app (n1 := 287) (n2 := 25) (ck_r_app (n1 := 262) (n2 := 25) (ck_r_app (n1 := 237) (n2 := 25) (ck_r_app (n1 := 212) (n2 := 25) (ck_r_app (n1 := 187) (n2 := 25) (ck_r_app (n1 := 162) (n2 := 25) (ck_r_app (n1 := 137) (n2 := 25) (ck_r_app (n1 := 112) (n2 := 25) (ck_r_app (n1 := 87) (n2 := 25) (ck_r_app (n1 := 62) (n2 := 25) (ck_r_app (n1 := 37) (n2 := 25) (ck_r_app (n1 := 12) (n2 := 25) ckr_247_0 ckr_247_12) ckr_247_37) ckr_247_62) ckr_247_87) ckr_247_112) ckr_247_137) ckr_247_162) ckr_247_187) ckr_247_212) ckr_247_237) ckr_247_262) ckr_247_287) ckr_247_312) ckr_247_337) ckr_247_362) ckr_247_387) ckr_247_412) ckr_247_437) ckr_247_462) ckr_247_487) ckr_247_512) ckr_247_537) ckr_247_562) ckr_247_587) ckr_247_612) ckr_247_637) ckr_247_662) ckr_247_687) ckr_247_712) ckr_247_737) ckr_247_762) ckr_247_787) ckr_247_812) ckr_247_837) ckr_247_862) ckr_247_887) (by decide +kernel)
theorem ck_all : ∀ i, CkM i := by
  intro i
  rcases Nat.lt_or_ge i 42 with h42 | h42
  · have := ckA_0 (i - 0) (by omega)
    rwa [show 0 + (i - 0) = i by omega] at this
  rcases Nat.lt_or_ge i 84 with h84 | h84
  · have := ckA_42 (i - 42) (by omega)
    rwa [show 42 + (i - 42) = i by omega] at this
  rcases Nat.lt_or_ge i 126 with h126 | h126
  · have := ckA_84 (i - 84) (by omega)
    rwa [show 84 + (i - 84) = i by omega] at this
  rcases Nat.lt_or_ge i 168 with h168 | h168
  · have := ckA_126 (i - 126) (by omega)
    rwa [show 126 + (i - 126) = i by omega] at this
  rcases Nat.lt_or_ge i 210 with h210 | h210
  · have := ckA_168 (i - 168) (by omega)
    rwa [show 168 + (i - 168) = i by omega] at this
  rcases Nat.lt_or_ge i 247 with h247 | h247
  · have := ckA_210 (i - 210) (by omega)
    rwa [show 210 + (i - 210) = i by omega] at this
  rcases Nat.lt_or_ge i 248 with h248 | h248
  · have : i = 247 := by omega
    subst this
    exact ckm_247
  intro mi q hm hq
  have h1 := (List.getElem?_eq_some_iff.mp hm).1
  have hl : mis.length = 248 := by decide +kernel
  omega
theorem mxl_ok : mis.map (fun m => m.2.2.1) = mxl := by decide +kernel
theorem sys_PSd : SysOK PSd := by
  refine sys_ok ck_all (fun i n mi hn hm => ?_)
  rw [← mxl_ok, List.getElem?_map, hm] at hn
  exact Option.some.inj hn
