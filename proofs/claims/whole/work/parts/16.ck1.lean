/-! printed: the checks of methods 42 .. -/
theorem ckl_42 : ck_l 42 = true := by decide +kernel
theorem ckr_42_0 : ck_r 42 0 20 = true := by decide +kernel
theorem ckm_42 : CkM 42 := ckM_of (n := 20) ckl_42 ckr_42_0 (by decide +kernel)
theorem ckl_43 : ck_l 43 = true := by decide +kernel
theorem ckr_43_0 : ck_r 43 0 27 = true := by decide +kernel
theorem ckm_43 : CkM 43 := ckM_of (n := 27) ckl_43 ckr_43_0 (by decide +kernel)
theorem ckl_44 : ck_l 44 = true := by decide +kernel
theorem ckr_44_0 : ck_r 44 0 36 = true := by decide +kernel
theorem ckm_44 : CkM 44 := ckM_of (n := 36) ckl_44 ckr_44_0 (by decide +kernel)
theorem ckl_45 : ck_l 45 = true := by decide +kernel
theorem ckr_45_0 : ck_r 45 0 7 = true := by decide +kernel
theorem ckm_45 : CkM 45 := ckM_of (n := 7) ckl_45 ckr_45_0 (by decide +kernel)
theorem ckl_46 : ck_l 46 = true := by decide +kernel
theorem ckr_46_0 : ck_r 46 0 7 = true := by decide +kernel
theorem ckm_46 : CkM 46 := ckM_of (n := 7) ckl_46 ckr_46_0 (by decide +kernel)
theorem ckl_47 : ck_l 47 = true := by decide +kernel
theorem ckr_47_0 : ck_r 47 0 35 = true := by decide +kernel
theorem ckm_47 : CkM 47 := ckM_of (n := 35) ckl_47 ckr_47_0 (by decide +kernel)
theorem ckl_48 : ck_l 48 = true := by decide +kernel
theorem ckr_48_0 : ck_r 48 0 23 = true := by decide +kernel
theorem ckm_48 : CkM 48 := ckM_of (n := 23) ckl_48 ckr_48_0 (by decide +kernel)
theorem ckl_49 : ck_l 49 = true := by decide +kernel
theorem ckr_49_0 : ck_r 49 0 50 = true := by decide +kernel
theorem ckr_49_50 : ck_r 49 50 44 = true := by decide +kernel
theorem ckm_49 : CkM 49 := ckM_of (n := 94) ckl_49 (ck_r_app (n1 := 50) (n2 := 44) ckr_49_0 ckr_49_50) (by decide +kernel)
theorem ckl_50 : ck_l 50 = true := by decide +kernel
theorem ckr_50_0 : ck_r 50 0 5 = true := by decide +kernel
theorem ckm_50 : CkM 50 := ckM_of (n := 5) ckl_50 ckr_50_0 (by decide +kernel)
theorem ckl_51 : ck_l 51 = true := by decide +kernel
theorem ckr_51_0 : ck_r 51 0 21 = true := by decide +kernel
theorem ckm_51 : CkM 51 := ckM_of (n := 21) ckl_51 ckr_51_0 (by decide +kernel)
theorem ckl_52 : ck_l 52 = true := by decide +kernel
theorem ckr_52_0 : ck_r 52 0 25 = true := by decide +kernel
theorem ckm_52 : CkM 52 := ckM_of (n := 25) ckl_52 ckr_52_0 (by decide +kernel)
theorem ckl_53 : ck_l 53 = true := by decide +kernel
theorem ckr_53_0 : ck_r 53 0 42 = true := by decide +kernel
theorem ckm_53 : CkM 53 := ckM_of (n := 42) ckl_53 ckr_53_0 (by decide +kernel)
theorem ckl_54 : ck_l 54 = true := by decide +kernel
theorem ckr_54_0 : ck_r 54 0 23 = true := by decide +kernel
theorem ckm_54 : CkM 54 := ckM_of (n := 23) ckl_54 ckr_54_0 (by decide +kernel)
theorem ckl_55 : ck_l 55 = true := by decide +kernel
theorem ckr_55_0 : ck_r 55 0 44 = true := by decide +kernel
theorem ckm_55 : CkM 55 := ckM_of (n := 44) ckl_55 ckr_55_0 (by decide +kernel)
theorem ckl_56 : ck_l 56 = true := by decide +kernel
theorem ckr_56_0 : ck_r 56 0 37 = true := by decide +kernel
theorem ckm_56 : CkM 56 := ckM_of (n := 37) ckl_56 ckr_56_0 (by decide +kernel)
theorem ckl_57 : ck_l 57 = true := by decide +kernel
theorem ckr_57_0 : ck_r 57 0 50 = true := by decide +kernel
theorem ckr_57_50 : ck_r 57 50 28 = true := by decide +kernel
theorem ckm_57 : CkM 57 := ckM_of (n := 78) ckl_57 (ck_r_app (n1 := 50) (n2 := 28) ckr_57_0 ckr_57_50) (by decide +kernel)
theorem ckl_58 : ck_l 58 = true := by decide +kernel
theorem ckr_58_0 : ck_r 58 0 50 = true := by decide +kernel
theorem ckr_58_50 : ck_r 58 50 4 = true := by decide +kernel
theorem ckm_58 : CkM 58 := ckM_of (n := 54) ckl_58 (ck_r_app (n1 := 50) (n2 := 4) ckr_58_0 ckr_58_50) (by decide +kernel)
theorem ckl_59 : ck_l 59 = true := by decide +kernel
theorem ckr_59_0 : ck_r 59 0 23 = true := by decide +kernel
theorem ckm_59 : CkM 59 := ckM_of (n := 23) ckl_59 ckr_59_0 (by decide +kernel)
theorem ckl_60 : ck_l 60 = true := by decide +kernel
theorem ckr_60_0 : ck_r 60 0 50 = true := by decide +kernel
theorem ckr_60_50 : ck_r 60 50 50 = true := by decide +kernel
theorem ckr_60_100 : ck_r 60 100 18 = true := by decide +kernel
theorem ckm_60 : CkM 60 := ckM_of (n := 118) ckl_60 (ck_r_app (n1 := 100) (n2 := 18) (ck_r_app (n1 := 50) (n2 := 50) ckr_60_0 ckr_60_50) ckr_60_100) (by decide +kernel)
theorem ckl_61 : ck_l 61 = true := by decide +kernel
theorem ckr_61_0 : ck_r 61 0 16 = true := by decide +kernel
theorem ckm_61 : CkM 61 := ckM_of (n := 16) ckl_61 ckr_61_0 (by decide +kernel)
theorem ckl_62 : ck_l 62 = true := by decide +kernel
theorem ckr_62_0 : ck_r 62 0 50 = true := by decide +kernel
theorem ckr_62_50 : ck_r 62 50 4 = true := by decide +kernel
theorem ckm_62 : CkM 62 := ckM_of (n := 54) ckl_62 (ck_r_app (n1 := 50) (n2 := 4) ckr_62_0 ckr_62_50) (by decide +kernel)
theorem ckl_63 : ck_l 63 = true := by decide +kernel
theorem ckr_63_0 : ck_r 63 0 13 = true := by decide +kernel
theorem ckm_63 : CkM 63 := ckM_of (n := 13) ckl_63 ckr_63_0 (by decide +kernel)
theorem ckl_64 : ck_l 64 = true := by decide +kernel
theorem ckr_64_0 : ck_r 64 0 50 = true := by decide +kernel
theorem ckr_64_50 : ck_r 64 50 10 = true := by decide +kernel
theorem ckm_64 : CkM 64 := ckM_of (n := 60) ckl_64 (ck_r_app (n1 := 50) (n2 := 10) ckr_64_0 ckr_64_50) (by decide +kernel)
theorem ckl_65 : ck_l 65 = true := by decide +kernel
theorem ckr_65_0 : ck_r 65 0 9 = true := by decide +kernel
theorem ckm_65 : CkM 65 := ckM_of (n := 9) ckl_65 ckr_65_0 (by decide +kernel)
theorem ckl_66 : ck_l 66 = true := by decide +kernel
theorem ckr_66_0 : ck_r 66 0 46 = true := by decide +kernel
theorem ckm_66 : CkM 66 := ckM_of (n := 46) ckl_66 ckr_66_0 (by decide +kernel)
theorem ckl_67 : ck_l 67 = true := by decide +kernel
theorem ckr_67_0 : ck_r 67 0 7 = true := by decide +kernel
theorem ckm_67 : CkM 67 := ckM_of (n := 7) ckl_67 ckr_67_0 (by decide +kernel)
theorem ckl_68 : ck_l 68 = true := by decide +kernel
theorem ckr_68_0 : ck_r 68 0 10 = true := by decide +kernel
theorem ckm_68 : CkM 68 := ckM_of (n := 10) ckl_68 ckr_68_0 (by decide +kernel)
theorem ckl_69 : ck_l 69 = true := by decide +kernel
theorem ckr_69_0 : ck_r 69 0 13 = true := by decide +kernel
theorem ckm_69 : CkM 69 := ckM_of (n := 13) ckl_69 ckr_69_0 (by decide +kernel)
theorem ckl_70 : ck_l 70 = true := by decide +kernel
theorem ckr_70_0 : ck_r 70 0 3 = true := by decide +kernel
theorem ckm_70 : CkM 70 := ckM_of (n := 3) ckl_70 ckr_70_0 (by decide +kernel)
theorem ckl_71 : ck_l 71 = true := by decide +kernel
theorem ckr_71_0 : ck_r 71 0 50 = true := by decide +kernel
theorem ckm_71 : CkM 71 := ckM_of (n := 50) ckl_71 ckr_71_0 (by decide +kernel)
theorem ckl_72 : ck_l 72 = true := by decide +kernel
theorem ckr_72_0 : ck_r 72 0 42 = true := by decide +kernel
theorem ckm_72 : CkM 72 := ckM_of (n := 42) ckl_72 ckr_72_0 (by decide +kernel)
theorem ckl_73 : ck_l 73 = true := by decide +kernel
theorem ckr_73_0 : ck_r 73 0 34 = true := by decide +kernel
theorem ckm_73 : CkM 73 := ckM_of (n := 34) ckl_73 ckr_73_0 (by decide +kernel)
theorem ckl_74 : ck_l 74 = true := by decide +kernel
theorem ckr_74_0 : ck_r 74 0 13 = true := by decide +kernel
theorem ckm_74 : CkM 74 := ckM_of (n := 13) ckl_74 ckr_74_0 (by decide +kernel)
theorem ckl_75 : ck_l 75 = true := by decide +kernel
theorem ckr_75_0 : ck_r 75 0 13 = true := by decide +kernel
theorem ckm_75 : CkM 75 := ckM_of (n := 13) ckl_75 ckr_75_0 (by decide +kernel)
theorem ckl_76 : ck_l 76 = true := by decide +kernel
theorem ckr_76_0 : ck_r 76 0 21 = true := by decide +kernel
theorem ckm_76 : CkM 76 := ckM_of (n := 21) ckl_76 ckr_76_0 (by decide +kernel)
theorem ckl_77 : ck_l 77 = true := by decide +kernel
theorem ckr_77_0 : ck_r 77 0 35 = true := by decide +kernel
theorem ckm_77 : CkM 77 := ckM_of (n := 35) ckl_77 ckr_77_0 (by decide +kernel)
theorem ckl_78 : ck_l 78 = true := by decide +kernel
theorem ckr_78_0 : ck_r 78 0 12 = true := by decide +kernel
theorem ckm_78 : CkM 78 := ckM_of (n := 12) ckl_78 ckr_78_0 (by decide +kernel)
theorem ckl_79 : ck_l 79 = true := by decide +kernel
theorem ckr_79_0 : ck_r 79 0 12 = true := by decide +kernel
theorem ckm_79 : CkM 79 := ckM_of (n := 12) ckl_79 ckr_79_0 (by decide +kernel)
theorem ckl_80 : ck_l 80 = true := by decide +kernel
theorem ckr_80_0 : ck_r 80 0 10 = true := by decide +kernel
theorem ckm_80 : CkM 80 := ckM_of (n := 10) ckl_80 ckr_80_0 (by decide +kernel)
theorem ckl_81 : ck_l 81 = true := by decide +kernel
theorem ckr_81_0 : ck_r 81 0 25 = true := by decide +kernel
theorem ckm_81 : CkM 81 := ckM_of (n := 25) ckl_81 ckr_81_0 (by decide +kernel)
theorem ckl_82 : ck_l 82 = true := by decide +kernel
theorem ckr_82_0 : ck_r 82 0 9 = true := by decide +kernel
theorem ckm_82 : CkM 82 := ckM_of (n := 9) ckl_82 ckr_82_0 (by decide +kernel)
theorem ckl_83 : ck_l 83 = true := by decide +kernel
theorem ckr_83_0 : ck_r 83 0 20 = true := by decide +kernel
theorem ckm_83 : CkM 83 := ckM_of (n := 20) ckl_83 ckr_83_0 (by decide +kernel)
theorem ckA_42 : ∀ j, j < 42 → CkM (42 + j) := by
  intro j hj
  match j, hj with
  | 0, _ => exact ckm_42
  | 1, _ => exact ckm_43
  | 2, _ => exact ckm_44
  | 3, _ => exact ckm_45
  | 4, _ => exact ckm_46
  | 5, _ => exact ckm_47
  | 6, _ => exact ckm_48
  | 7, _ => exact ckm_49
  | 8, _ => exact ckm_50
  | 9, _ => exact ckm_51
  | 10, _ => exact ckm_52
  | 11, _ => exact ckm_53
  | 12, _ => exact ckm_54
  | 13, _ => exact ckm_55
  | 14, _ => exact ckm_56
  | 15, _ => exact ckm_57
  | 16, _ => exact ckm_58
  | 17, _ => exact ckm_59
  | 18, _ => exact ckm_60
  | 19, _ => exact ckm_61
  | 20, _ => exact ckm_62
  | 21, _ => exact ckm_63
  | 22, _ => exact ckm_64
  | 23, _ => exact ckm_65
  | 24, _ => exact ckm_66
  | 25, _ => exact ckm_67
  | 26, _ => exact ckm_68
  | 27, _ => exact ckm_69
  | 28, _ => exact ckm_70
  | 29, _ => exact ckm_71
  | 30, _ => exact ckm_72
  | 31, _ => exact ckm_73
  | 32, _ => exact ckm_74
  | 33, _ => exact ckm_75
  | 34, _ => exact ckm_76
  | 35, _ => exact ckm_77
  | 36, _ => exact ckm_78
  | 37, _ => exact ckm_79
  | 38, _ => exact ckm_80
  | 39, _ => exact ckm_81
  | 40, _ => exact ckm_82
  | 41, _ => exact ckm_83
  | k + 42, hj => exact absurd hj (by omega)
