/-! printed: the checks of methods 0 .. -/
theorem ckl_0 : ck_l 0 = true := by decide +kernel
theorem ckr_0_0 : ck_r 0 0 50 = true := by decide +kernel
theorem ckr_0_50 : ck_r 0 50 7 = true := by decide +kernel
theorem ckm_0 : CkM 0 := ckM_of (n := 57) ckl_0 (ck_r_app (n1 := 50) (n2 := 7) ckr_0_0 ckr_0_50) (by decide +kernel)
theorem ckl_1 : ck_l 1 = true := by decide +kernel
theorem ckr_1_0 : ck_r 1 0 7 = true := by decide +kernel
theorem ckm_1 : CkM 1 := ckM_of (n := 7) ckl_1 ckr_1_0 (by decide +kernel)
theorem ckl_2 : ck_l 2 = true := by decide +kernel
theorem ckr_2_0 : ck_r 2 0 50 = true := by decide +kernel
theorem ckr_2_50 : ck_r 2 50 22 = true := by decide +kernel
theorem ckm_2 : CkM 2 := ckM_of (n := 72) ckl_2 (ck_r_app (n1 := 50) (n2 := 22) ckr_2_0 ckr_2_50) (by decide +kernel)
theorem ckl_3 : ck_l 3 = true := by decide +kernel
theorem ckr_3_0 : ck_r 3 0 11 = true := by decide +kernel
theorem ckm_3 : CkM 3 := ckM_of (n := 11) ckl_3 ckr_3_0 (by decide +kernel)
theorem ckl_4 : ck_l 4 = true := by decide +kernel
theorem ckr_4_0 : ck_r 4 0 20 = true := by decide +kernel
theorem ckm_4 : CkM 4 := ckM_of (n := 20) ckl_4 ckr_4_0 (by decide +kernel)
theorem ckl_5 : ck_l 5 = true := by decide +kernel
theorem ckr_5_0 : ck_r 5 0 12 = true := by decide +kernel
theorem ckm_5 : CkM 5 := ckM_of (n := 12) ckl_5 ckr_5_0 (by decide +kernel)
theorem ckl_6 : ck_l 6 = true := by decide +kernel
theorem ckr_6_0 : ck_r 6 0 9 = true := by decide +kernel
theorem ckm_6 : CkM 6 := ckM_of (n := 9) ckl_6 ckr_6_0 (by decide +kernel)
theorem ckl_7 : ck_l 7 = true := by decide +kernel
theorem ckr_7_0 : ck_r 7 0 23 = true := by decide +kernel
theorem ckm_7 : CkM 7 := ckM_of (n := 23) ckl_7 ckr_7_0 (by decide +kernel)
theorem ckl_8 : ck_l 8 = true := by decide +kernel
theorem ckr_8_0 : ck_r 8 0 11 = true := by decide +kernel
theorem ckm_8 : CkM 8 := ckM_of (n := 11) ckl_8 ckr_8_0 (by decide +kernel)
theorem ckl_9 : ck_l 9 = true := by decide +kernel
theorem ckr_9_0 : ck_r 9 0 42 = true := by decide +kernel
theorem ckm_9 : CkM 9 := ckM_of (n := 42) ckl_9 ckr_9_0 (by decide +kernel)
theorem ckl_10 : ck_l 10 = true := by decide +kernel
theorem ckr_10_0 : ck_r 10 0 33 = true := by decide +kernel
theorem ckm_10 : CkM 10 := ckM_of (n := 33) ckl_10 ckr_10_0 (by decide +kernel)
theorem ckl_11 : ck_l 11 = true := by decide +kernel
theorem ckr_11_0 : ck_r 11 0 26 = true := by decide +kernel
theorem ckm_11 : CkM 11 := ckM_of (n := 26) ckl_11 ckr_11_0 (by decide +kernel)
theorem ckl_12 : ck_l 12 = true := by decide +kernel
theorem ckr_12_0 : ck_r 12 0 20 = true := by decide +kernel
theorem ckm_12 : CkM 12 := ckM_of (n := 20) ckl_12 ckr_12_0 (by decide +kernel)
theorem ckl_13 : ck_l 13 = true := by decide +kernel
theorem ckr_13_0 : ck_r 13 0 50 = true := by decide +kernel
theorem ckr_13_50 : ck_r 13 50 26 = true := by decide +kernel
theorem ckm_13 : CkM 13 := ckM_of (n := 76) ckl_13 (ck_r_app (n1 := 50) (n2 := 26) ckr_13_0 ckr_13_50) (by decide +kernel)
theorem ckl_14 : ck_l 14 = true := by decide +kernel
theorem ckr_14_0 : ck_r 14 0 50 = true := by decide +kernel
theorem ckr_14_50 : ck_r 14 50 40 = true := by decide +kernel
theorem ckm_14 : CkM 14 := ckM_of (n := 90) ckl_14 (ck_r_app (n1 := 50) (n2 := 40) ckr_14_0 ckr_14_50) (by decide +kernel)
theorem ckl_15 : ck_l 15 = true := by decide +kernel
theorem ckr_15_0 : ck_r 15 0 4 = true := by decide +kernel
theorem ckm_15 : CkM 15 := ckM_of (n := 4) ckl_15 ckr_15_0 (by decide +kernel)
theorem ckl_16 : ck_l 16 = true := by decide +kernel
theorem ckr_16_0 : ck_r 16 0 49 = true := by decide +kernel
theorem ckm_16 : CkM 16 := ckM_of (n := 49) ckl_16 ckr_16_0 (by decide +kernel)
theorem ckl_17 : ck_l 17 = true := by decide +kernel
theorem ckr_17_0 : ck_r 17 0 20 = true := by decide +kernel
theorem ckm_17 : CkM 17 := ckM_of (n := 20) ckl_17 ckr_17_0 (by decide +kernel)
theorem ckl_18 : ck_l 18 = true := by decide +kernel
theorem ckr_18_0 : ck_r 18 0 16 = true := by decide +kernel
theorem ckm_18 : CkM 18 := ckM_of (n := 16) ckl_18 ckr_18_0 (by decide +kernel)
theorem ckl_19 : ck_l 19 = true := by decide +kernel
theorem ckr_19_0 : ck_r 19 0 20 = true := by decide +kernel
theorem ckm_19 : CkM 19 := ckM_of (n := 20) ckl_19 ckr_19_0 (by decide +kernel)
theorem ckl_20 : ck_l 20 = true := by decide +kernel
theorem ckr_20_0 : ck_r 20 0 50 = true := by decide +kernel
theorem ckr_20_50 : ck_r 20 50 26 = true := by decide +kernel
theorem ckm_20 : CkM 20 := ckM_of (n := 76) ckl_20 (ck_r_app (n1 := 50) (n2 := 26) ckr_20_0 ckr_20_50) (by decide +kernel)
theorem ckl_21 : ck_l 21 = true := by decide +kernel
theorem ckr_21_0 : ck_r 21 0 20 = true := by decide +kernel
theorem ckm_21 : CkM 21 := ckM_of (n := 20) ckl_21 ckr_21_0 (by decide +kernel)
theorem ckl_22 : ck_l 22 = true := by decide +kernel
theorem ckr_22_0 : ck_r 22 0 45 = true := by decide +kernel
theorem ckm_22 : CkM 22 := ckM_of (n := 45) ckl_22 ckr_22_0 (by decide +kernel)
theorem ckl_23 : ck_l 23 = true := by decide +kernel
theorem ckr_23_0 : ck_r 23 0 18 = true := by decide +kernel
theorem ckm_23 : CkM 23 := ckM_of (n := 18) ckl_23 ckr_23_0 (by decide +kernel)
theorem ckl_24 : ck_l 24 = true := by decide +kernel
theorem ckr_24_0 : ck_r 24 0 50 = true := by decide +kernel
theorem ckr_24_50 : ck_r 24 50 33 = true := by decide +kernel
theorem ckm_24 : CkM 24 := ckM_of (n := 83) ckl_24 (ck_r_app (n1 := 50) (n2 := 33) ckr_24_0 ckr_24_50) (by decide +kernel)
theorem ckl_25 : ck_l 25 = true := by decide +kernel
theorem ckr_25_0 : ck_r 25 0 13 = true := by decide +kernel
theorem ckm_25 : CkM 25 := ckM_of (n := 13) ckl_25 ckr_25_0 (by decide +kernel)
theorem ckl_26 : ck_l 26 = true := by decide +kernel
theorem ckr_26_0 : ck_r 26 0 18 = true := by decide +kernel
theorem ckm_26 : CkM 26 := ckM_of (n := 18) ckl_26 ckr_26_0 (by decide +kernel)
theorem ckl_27 : ck_l 27 = true := by decide +kernel
theorem ckr_27_0 : ck_r 27 0 34 = true := by decide +kernel
theorem ckm_27 : CkM 27 := ckM_of (n := 34) ckl_27 ckr_27_0 (by decide +kernel)
theorem ckl_28 : ck_l 28 = true := by decide +kernel
theorem ckr_28_0 : ck_r 28 0 37 = true := by decide +kernel
theorem ckm_28 : CkM 28 := ckM_of (n := 37) ckl_28 ckr_28_0 (by decide +kernel)
theorem ckl_29 : ck_l 29 = true := by decide +kernel
theorem ckr_29_0 : ck_r 29 0 50 = true := by decide +kernel
theorem ckm_29 : CkM 29 := ckM_of (n := 50) ckl_29 ckr_29_0 (by decide +kernel)
theorem ckl_30 : ck_l 30 = true := by decide +kernel
theorem ckr_30_0 : ck_r 30 0 50 = true := by decide +kernel
theorem ckr_30_50 : ck_r 30 50 6 = true := by decide +kernel
theorem ckm_30 : CkM 30 := ckM_of (n := 56) ckl_30 (ck_r_app (n1 := 50) (n2 := 6) ckr_30_0 ckr_30_50) (by decide +kernel)
theorem ckl_31 : ck_l 31 = true := by decide +kernel
theorem ckr_31_0 : ck_r 31 0 28 = true := by decide +kernel
theorem ckm_31 : CkM 31 := ckM_of (n := 28) ckl_31 ckr_31_0 (by decide +kernel)
theorem ckl_32 : ck_l 32 = true := by decide +kernel
theorem ckr_32_0 : ck_r 32 0 33 = true := by decide +kernel
theorem ckm_32 : CkM 32 := ckM_of (n := 33) ckl_32 ckr_32_0 (by decide +kernel)
theorem ckl_33 : ck_l 33 = true := by decide +kernel
theorem ckr_33_0 : ck_r 33 0 10 = true := by decide +kernel
theorem ckm_33 : CkM 33 := ckM_of (n := 10) ckl_33 ckr_33_0 (by decide +kernel)
theorem ckl_34 : ck_l 34 = true := by decide +kernel
theorem ckr_34_0 : ck_r 34 0 17 = true := by decide +kernel
theorem ckm_34 : CkM 34 := ckM_of (n := 17) ckl_34 ckr_34_0 (by decide +kernel)
theorem ckl_35 : ck_l 35 = true := by decide +kernel
theorem ckr_35_0 : ck_r 35 0 24 = true := by decide +kernel
theorem ckm_35 : CkM 35 := ckM_of (n := 24) ckl_35 ckr_35_0 (by decide +kernel)
theorem ckl_36 : ck_l 36 = true := by decide +kernel
theorem ckr_36_0 : ck_r 36 0 16 = true := by decide +kernel
theorem ckm_36 : CkM 36 := ckM_of (n := 16) ckl_36 ckr_36_0 (by decide +kernel)
theorem ckl_37 : ck_l 37 = true := by decide +kernel
theorem ckr_37_0 : ck_r 37 0 30 = true := by decide +kernel
theorem ckm_37 : CkM 37 := ckM_of (n := 30) ckl_37 ckr_37_0 (by decide +kernel)
theorem ckl_38 : ck_l 38 = true := by decide +kernel
theorem ckr_38_0 : ck_r 38 0 25 = true := by decide +kernel
theorem ckm_38 : CkM 38 := ckM_of (n := 25) ckl_38 ckr_38_0 (by decide +kernel)
theorem ckl_39 : ck_l 39 = true := by decide +kernel
theorem ckr_39_0 : ck_r 39 0 22 = true := by decide +kernel
theorem ckm_39 : CkM 39 := ckM_of (n := 22) ckl_39 ckr_39_0 (by decide +kernel)
theorem ckl_40 : ck_l 40 = true := by decide +kernel
theorem ckr_40_0 : ck_r 40 0 50 = true := by decide +kernel
theorem ckr_40_50 : ck_r 40 50 32 = true := by decide +kernel
theorem ckm_40 : CkM 40 := ckM_of (n := 82) ckl_40 (ck_r_app (n1 := 50) (n2 := 32) ckr_40_0 ckr_40_50) (by decide +kernel)
theorem ckl_41 : ck_l 41 = true := by decide +kernel
theorem ckr_41_0 : ck_r 41 0 10 = true := by decide +kernel
theorem ckm_41 : CkM 41 := ckM_of (n := 10) ckl_41 ckr_41_0 (by decide +kernel)
theorem ckA_0 : ∀ j, j < 42 → CkM (0 + j) := by
  intro j hj
  match j, hj with
  | 0, _ => exact ckm_0
  | 1, _ => exact ckm_1
  | 2, _ => exact ckm_2
  | 3, _ => exact ckm_3
  | 4, _ => exact ckm_4
  | 5, _ => exact ckm_5
  | 6, _ => exact ckm_6
  | 7, _ => exact ckm_7
  | 8, _ => exact ckm_8
  | 9, _ => exact ckm_9
  | 10, _ => exact ckm_10
  | 11, _ => exact ckm_11
  | 12, _ => exact ckm_12
  | 13, _ => exact ckm_13
  | 14, _ => exact ckm_14
  | 15, _ => exact ckm_15
  | 16, _ => exact ckm_16
  | 17, _ => exact ckm_17
  | 18, _ => exact ckm_18
  | 19, _ => exact ckm_19
  | 20, _ => exact ckm_20
  | 21, _ => exact ckm_21
  | 22, _ => exact ckm_22
  | 23, _ => exact ckm_23
  | 24, _ => exact ckm_24
  | 25, _ => exact ckm_25
  | 26, _ => exact ckm_26
  | 27, _ => exact ckm_27
  | 28, _ => exact ckm_28
  | 29, _ => exact ckm_29
  | 30, _ => exact ckm_30
  | 31, _ => exact ckm_31
  | 32, _ => exact ckm_32
  | 33, _ => exact ckm_33
  | 34, _ => exact ckm_34
  | 35, _ => exact ckm_35
  | 36, _ => exact ckm_36
  | 37, _ => exact ckm_37
  | 38, _ => exact ckm_38
  | 39, _ => exact ckm_39
  | 40, _ => exact ckm_40
  | 41, _ => exact ckm_41
  | k + 42, hj => exact absurd hj (by omega)
