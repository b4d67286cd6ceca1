/-! printed: the checks of methods 84 .. -/
theorem ckl_84 : ck_l 84 = true := by decide +kernel
theorem ckr_84_0 : ck_r 84 0 14 = true := by decide +kernel
theorem ckm_84 : CkM 84 := ckM_of (n := 14) ckl_84 ckr_84_0 (by decide +kernel)
theorem ckl_85 : ck_l 85 = true := by decide +kernel
theorem ckr_85_0 : ck_r 85 0 12 = true := by decide +kernel
theorem ckm_85 : CkM 85 := ckM_of (n := 12) ckl_85 ckr_85_0 (by decide +kernel)
theorem ckl_86 : ck_l 86 = true := by decide +kernel
theorem ckr_86_0 : ck_r 86 0 50 = true := by decide +kernel
theorem ckm_86 : CkM 86 := ckM_of (n := 50) ckl_86 ckr_86_0 (by decide +kernel)
theorem ckl_87 : ck_l 87 = true := by decide +kernel
theorem ckr_87_0 : ck_r 87 0 40 = true := by decide +kernel
theorem ckm_87 : CkM 87 := ckM_of (n := 40) ckl_87 ckr_87_0 (by decide +kernel)
theorem ckl_88 : ck_l 88 = true := by decide +kernel
theorem ckr_88_0 : ck_r 88 0 14 = true := by decide +kernel
theorem ckm_88 : CkM 88 := ckM_of (n := 14) ckl_88 ckr_88_0 (by decide +kernel)
theorem ckl_89 : ck_l 89 = true := by decide +kernel
theorem ckr_89_0 : ck_r 89 0 33 = true := by decide +kernel
theorem ckm_89 : CkM 89 := ckM_of (n := 33) ckl_89 ckr_89_0 (by decide +kernel)
theorem ckl_90 : ck_l 90 = true := by decide +kernel
theorem ckr_90_0 : ck_r 90 0 20 = true := by decide +kernel
theorem ckm_90 : CkM 90 := ckM_of (n := 20) ckl_90 ckr_90_0 (by decide +kernel)
theorem ckl_91 : ck_l 91 = true := by decide +kernel
theorem ckr_91_0 : ck_r 91 0 50 = true := by decide +kernel
theorem ckr_91_50 : ck_r 91 50 1 = true := by decide +kernel
theorem ckm_91 : CkM 91 := ckM_of (n := 51) ckl_91 (ck_r_app (n1 := 50) (n2 := 1) ckr_91_0 ckr_91_50) (by decide +kernel)
theorem ckl_92 : ck_l 92 = true := by decide +kernel
theorem ckr_92_0 : ck_r 92 0 27 = true := by decide +kernel
theorem ckm_92 : CkM 92 := ckM_of (n := 27) ckl_92 ckr_92_0 (by decide +kernel)
theorem ckl_93 : ck_l 93 = true := by decide +kernel
theorem ckr_93_0 : ck_r 93 0 50 = true := by decide +kernel
theorem ckr_93_50 : ck_r 93 50 23 = true := by decide +kernel
theorem ckm_93 : CkM 93 := ckM_of (n := 73) ckl_93 (ck_r_app (n1 := 50) (n2 := 23) ckr_93_0 ckr_93_50) (by decide +kernel)
theorem ckl_94 : ck_l 94 = true := by decide +kernel
theorem ckr_94_0 : ck_r 94 0 26 = true := by decide +kernel
theorem ckm_94 : CkM 94 := ckM_of (n := 26) ckl_94 ckr_94_0 (by decide +kernel)
theorem ckl_95 : ck_l 95 = true := by decide +kernel
theorem ckr_95_0 : ck_r 95 0 16 = true := by decide +kernel
theorem ckm_95 : CkM 95 := ckM_of (n := 16) ckl_95 ckr_95_0 (by decide +kernel)
theorem ckl_96 : ck_l 96 = true := by decide +kernel
theorem ckr_96_0 : ck_r 96 0 7 = true := by decide +kernel
theorem ckm_96 : CkM 96 := ckM_of (n := 7) ckl_96 ckr_96_0 (by decide +kernel)
theorem ckl_97 : ck_l 97 = true := by decide +kernel
theorem ckr_97_0 : ck_r 97 0 20 = true := by decide +kernel
theorem ckm_97 : CkM 97 := ckM_of (n := 20) ckl_97 ckr_97_0 (by decide +kernel)
theorem ckl_98 : ck_l 98 = true := by decide +kernel
theorem ckr_98_0 : ck_r 98 0 23 = true := by decide +kernel
theorem ckm_98 : CkM 98 := ckM_of (n := 23) ckl_98 ckr_98_0 (by decide +kernel)
theorem ckl_99 : ck_l 99 = true := by decide +kernel
theorem ckr_99_0 : ck_r 99 0 40 = true := by decide +kernel
theorem ckm_99 : CkM 99 := ckM_of (n := 40) ckl_99 ckr_99_0 (by decide +kernel)
theorem ckl_100 : ck_l 100 = true := by decide +kernel
theorem ckr_100_0 : ck_r 100 0 33 = true := by decide +kernel
theorem ckm_100 : CkM 100 := ckM_of (n := 33) ckl_100 ckr_100_0 (by decide +kernel)
theorem ckl_101 : ck_l 101 = true := by decide +kernel
theorem ckr_101_0 : ck_r 101 0 50 = true := by decide +kernel
theorem ckr_101_50 : ck_r 101 50 50 = true := by decide +kernel
theorem ckr_101_100 : ck_r 101 100 25 = true := by decide +kernel
theorem ckm_101 : CkM 101 := ckM_of (n := 125) ckl_101 (ck_r_app (n1 := 100) (n2 := 25) (ck_r_app (n1 := 50) (n2 := 50) ckr_101_0 ckr_101_50) ckr_101_100) (by decide +kernel)
theorem ckl_102 : ck_l 102 = true := by decide +kernel
theorem ckr_102_0 : ck_r 102 0 22 = true := by decide +kernel
theorem ckm_102 : CkM 102 := ckM_of (n := 22) ckl_102 ckr_102_0 (by decide +kernel)
theorem ckl_103 : ck_l 103 = true := by decide +kernel
theorem ckr_103_0 : ck_r 103 0 45 = true := by decide +kernel
theorem ckm_103 : CkM 103 := ckM_of (n := 45) ckl_103 ckr_103_0 (by decide +kernel)
theorem ckl_104 : ck_l 104 = true := by decide +kernel
theorem ckr_104_0 : ck_r 104 0 5 = true := by decide +kernel
theorem ckm_104 : CkM 104 := ckM_of (n := 5) ckl_104 ckr_104_0 (by decide +kernel)
theorem ckl_105 : ck_l 105 = true := by decide +kernel
theorem ckr_105_0 : ck_r 105 0 23 = true := by decide +kernel
theorem ckm_105 : CkM 105 := ckM_of (n := 23) ckl_105 ckr_105_0 (by decide +kernel)
theorem ckl_106 : ck_l 106 = true := by decide +kernel
theorem ckr_106_0 : ck_r 106 0 10 = true := by decide +kernel
theorem ckm_106 : CkM 106 := ckM_of (n := 10) ckl_106 ckr_106_0 (by decide +kernel)
theorem ckl_107 : ck_l 107 = true := by decide +kernel
theorem ckr_107_0 : ck_r 107 0 12 = true := by decide +kernel
theorem ckm_107 : CkM 107 := ckM_of (n := 12) ckl_107 ckr_107_0 (by decide +kernel)
theorem ckl_108 : ck_l 108 = true := by decide +kernel
theorem ckr_108_0 : ck_r 108 0 36 = true := by decide +kernel
theorem ckm_108 : CkM 108 := ckM_of (n := 36) ckl_108 ckr_108_0 (by decide +kernel)
theorem ckl_109 : ck_l 109 = true := by decide +kernel
theorem ckr_109_0 : ck_r 109 0 28 = true := by decide +kernel
theorem ckm_109 : CkM 109 := ckM_of (n := 28) ckl_109 ckr_109_0 (by decide +kernel)
theorem ckl_110 : ck_l 110 = true := by decide +kernel
theorem ckr_110_0 : ck_r 110 0 42 = true := by decide +kernel
theorem ckm_110 : CkM 110 := ckM_of (n := 42) ckl_110 ckr_110_0 (by decide +kernel)
theorem ckl_111 : ck_l 111 = true := by decide +kernel
theorem ckr_111_0 : ck_r 111 0 31 = true := by decide +kernel
theorem ckm_111 : CkM 111 := ckM_of (n := 31) ckl_111 ckr_111_0 (by decide +kernel)
theorem ckl_112 : ck_l 112 = true := by decide +kernel
theorem ckr_112_0 : ck_r 112 0 21 = true := by decide +kernel
theorem ckm_112 : CkM 112 := ckM_of (n := 21) ckl_112 ckr_112_0 (by decide +kernel)
theorem ckl_113 : ck_l 113 = true := by decide +kernel
theorem ckr_113_0 : ck_r 113 0 50 = true := by decide +kernel
theorem ckr_113_50 : ck_r 113 50 9 = true := by decide +kernel
theorem ckm_113 : CkM 113 := ckM_of (n := 59) ckl_113 (ck_r_app (n1 := 50) (n2 := 9) ckr_113_0 ckr_113_50) (by decide +kernel)
theorem ckl_114 : ck_l 114 = true := by decide +kernel
theorem ckr_114_0 : ck_r 114 0 10 = true := by decide +kernel
theorem ckm_114 : CkM 114 := ckM_of (n := 10) ckl_114 ckr_114_0 (by decide +kernel)
theorem ckl_115 : ck_l 115 = true := by decide +kernel
theorem ckr_115_0 : ck_r 115 0 22 = true := by decide +kernel
theorem ckm_115 : CkM 115 := ckM_of (n := 22) ckl_115 ckr_115_0 (by decide +kernel)
theorem ckl_116 : ck_l 116 = true := by decide +kernel
theorem ckr_116_0 : ck_r 116 0 40 = true := by decide +kernel
theorem ckm_116 : CkM 116 := ckM_of (n := 40) ckl_116 ckr_116_0 (by decide +kernel)
theorem ckl_117 : ck_l 117 = true := by decide +kernel
theorem ckr_117_0 : ck_r 117 0 27 = true := by decide +kernel
theorem ckm_117 : CkM 117 := ckM_of (n := 27) ckl_117 ckr_117_0 (by decide +kernel)
theorem ckl_118 : ck_l 118 = true := by decide +kernel
theorem ckr_118_0 : ck_r 118 0 33 = true := by decide +kernel
theorem ckm_118 : CkM 118 := ckM_of (n := 33) ckl_118 ckr_118_0 (by decide +kernel)
theorem ckl_119 : ck_l 119 = true := by decide +kernel
theorem ckr_119_0 : ck_r 119 0 47 = true := by decide +kernel
theorem ckm_119 : CkM 119 := ckM_of (n := 47) ckl_119 ckr_119_0 (by decide +kernel)
theorem ckl_120 : ck_l 120 = true := by decide +kernel
theorem ckr_120_0 : ck_r 120 0 32 = true := by decide +kernel
theorem ckm_120 : CkM 120 := ckM_of (n := 32) ckl_120 ckr_120_0 (by decide +kernel)
theorem ckl_121 : ck_l 121 = true := by decide +kernel
theorem ckr_121_0 : ck_r 121 0 50 = true := by decide +kernel
theorem ckr_121_50 : ck_r 121 50 1 = true := by decide +kernel
theorem ckm_121 : CkM 121 := ckM_of (n := 51) ckl_121 (ck_r_app (n1 := 50) (n2 := 1) ckr_121_0 ckr_121_50) (by decide +kernel)
theorem ckl_122 : ck_l 122 = true := by decide +kernel
theorem ckr_122_0 : ck_r 122 0 15 = true := by decide +kernel
theorem ckm_122 : CkM 122 := ckM_of (n := 15) ckl_122 ckr_122_0 (by decide +kernel)
theorem ckl_123 : ck_l 123 = true := by decide +kernel
theorem ckr_123_0 : ck_r 123 0 50 = true := by decide +kernel
theorem ckr_123_50 : ck_r 123 50 5 = true := by decide +kernel
theorem ckm_123 : CkM 123 := ckM_of (n := 55) ckl_123 (ck_r_app (n1 := 50) (n2 := 5) ckr_123_0 ckr_123_50) (by decide +kernel)
theorem ckl_124 : ck_l 124 = true := by decide +kernel
theorem ckr_124_0 : ck_r 124 0 40 = true := by decide +kernel
theorem ckm_124 : CkM 124 := ckM_of (n := 40) ckl_124 ckr_124_0 (by decide +kernel)
theorem ckl_125 : ck_l 125 = true := by decide +kernel
theorem ckr_125_0 : ck_r 125 0 50 = true := by decide +kernel
theorem ckr_125_50 : ck_r 125 50 8 = true := by decide +kernel
theorem ckm_125 : CkM 125 := ckM_of (n := 58) ckl_125 (ck_r_app (n1 := 50) (n2 := 8) ckr_125_0 ckr_125_50) (by decide +kernel)
theorem ckA_84 : ∀ j, j < 42 → CkM (84 + j) := by
  intro j hj
  match j, hj with
  | 0, _ => exact ckm_84
  | 1, _ => exact ckm_85
  | 2, _ => exact ckm_86
  | 3, _ => exact ckm_87
  | 4, _ => exact ckm_88
  | 5, _ => exact ckm_89
  | 6, _ => exact ckm_90
  | 7, _ => exact ckm_91
  | 8, _ => exact ckm_92
  | 9, _ => exact ckm_93
  | 10, _ => exact ckm_94
  | 11, _ => exact ckm_95
  | 12, _ => exact ckm_96
  | 13, _ => exact ckm_97
  | 14, _ => exact ckm_98
  | 15, _ => exact ckm_99
  | 16, _ => exact ckm_100
  | 17, _ => exact ckm_101
  | 18, _ => exact ckm_102
  | 19, _ => exact ckm_103
  | 20, _ => exact ckm_104
  | 21, _ => exact ckm_105
  | 22, _ => exact ckm_106
  | 23, _ => exact ckm_107
  | 24, _ => exact ckm_108
  | 25, _ => exact ckm_109
  | 26, _ => exact ckm_110
  | 27, _ => exact ckm_111
  | 28, _ => exact ckm_112
  | 29, _ => exact ckm_113
  | 30, _ => exact ckm_114
  | 31, _ => exact ckm_115
  | 32, _ => exact ckm_116
  | 33, _ => exact ckm_117
  | 34, _ => exact ckm_118
  | 35, _ => exact ckm_119
  | 36, _ => exact ckm_120
  | 37, _ => exact ckm_121
  | 38, _ => exact ckm_122
  | 39, _ => exact ckm_123
  | 40, _ => exact ckm_124
  | 41, _ => exact ckm_125
  | k + 42, hj => exact absurd hj (by omega)
