/-! printed: the checks of methods 126 .. -/
theorem ckl_126 : ck_l 126 = true := by decide +kernel
theorem ckr_126_0 : ck_r 126 0 15 = true := by decide +kernel
theorem ckm_126 : CkM 126 := ckM_of (n := 15) ckl_126 ckr_126_0 (by decide +kernel)
theorem ckl_127 : ck_l 127 = true := by decide +kernel
theorem ckr_127_0 : ck_r 127 0 26 = true := by decide +kernel
theorem ckm_127 : CkM 127 := ckM_of (n := 26) ckl_127 ckr_127_0 (by decide +kernel)
theorem ckl_128 : ck_l 128 = true := by decide +kernel
theorem ckr_128_0 : ck_r 128 0 26 = true := by decide +kernel
theorem ckm_128 : CkM 128 := ckM_of (n := 26) ckl_128 ckr_128_0 (by decide +kernel)
theorem ckl_129 : ck_l 129 = true := by decide +kernel
theorem ckr_129_0 : ck_r 129 0 42 = true := by decide +kernel
theorem ckm_129 : CkM 129 := ckM_of (n := 42) ckl_129 ckr_129_0 (by decide +kernel)
theorem ckl_130 : ck_l 130 = true := by decide +kernel
theorem ckr_130_0 : ck_r 130 0 44 = true := by decide +kernel
theorem ckm_130 : CkM 130 := ckM_of (n := 44) ckl_130 ckr_130_0 (by decide +kernel)
theorem ckl_131 : ck_l 131 = true := by decide +kernel
theorem ckr_131_0 : ck_r 131 0 29 = true := by decide +kernel
theorem ckm_131 : CkM 131 := ckM_of (n := 29) ckl_131 ckr_131_0 (by decide +kernel)
theorem ckl_132 : ck_l 132 = true := by decide +kernel
theorem ckr_132_0 : ck_r 132 0 50 = true := by decide +kernel
theorem ckr_132_50 : ck_r 132 50 6 = true := by decide +kernel
theorem ckm_132 : CkM 132 := ckM_of (n := 56) ckl_132 (ck_r_app (n1 := 50) (n2 := 6) ckr_132_0 ckr_132_50) (by decide +kernel)
theorem ckl_133 : ck_l 133 = true := by decide +kernel
theorem ckr_133_0 : ck_r 133 0 17 = true := by decide +kernel
theorem ckm_133 : CkM 133 := ckM_of (n := 17) ckl_133 ckr_133_0 (by decide +kernel)
theorem ckl_134 : ck_l 134 = true := by decide +kernel
theorem ckr_134_0 : ck_r 134 0 43 = true := by decide +kernel
theorem ckm_134 : CkM 134 := ckM_of (n := 43) ckl_134 ckr_134_0 (by decide +kernel)
theorem ckl_135 : ck_l 135 = true := by decide +kernel
theorem ckr_135_0 : ck_r 135 0 40 = true := by decide +kernel
theorem ckm_135 : CkM 135 := ckM_of (n := 40) ckl_135 ckr_135_0 (by decide +kernel)
theorem ckl_136 : ck_l 136 = true := by decide +kernel
theorem ckr_136_0 : ck_r 136 0 23 = true := by decide +kernel
theorem ckm_136 : CkM 136 := ckM_of (n := 23) ckl_136 ckr_136_0 (by decide +kernel)
theorem ckl_137 : ck_l 137 = true := by decide +kernel
theorem ckr_137_0 : ck_r 137 0 36 = true := by decide +kernel
theorem ckm_137 : CkM 137 := ckM_of (n := 36) ckl_137 ckr_137_0 (by decide +kernel)
theorem ckl_138 : ck_l 138 = true := by decide +kernel
theorem ckr_138_0 : ck_r 138 0 29 = true := by decide +kernel
theorem ckm_138 : CkM 138 := ckM_of (n := 29) ckl_138 ckr_138_0 (by decide +kernel)
theorem ckl_139 : ck_l 139 = true := by decide +kernel
theorem ckr_139_0 : ck_r 139 0 48 = true := by decide +kernel
theorem ckm_139 : CkM 139 := ckM_of (n := 48) ckl_139 ckr_139_0 (by decide +kernel)
theorem ckl_140 : ck_l 140 = true := by decide +kernel
theorem ckr_140_0 : ck_r 140 0 16 = true := by decide +kernel
theorem ckm_140 : CkM 140 := ckM_of (n := 16) ckl_140 ckr_140_0 (by decide +kernel)
theorem ckl_141 : ck_l 141 = true := by decide +kernel
theorem ckr_141_0 : ck_r 141 0 50 = true := by decide +kernel
theorem ckr_141_50 : ck_r 141 50 12 = true := by decide +kernel
theorem ckm_141 : CkM 141 := ckM_of (n := 62) ckl_141 (ck_r_app (n1 := 50) (n2 := 12) ckr_141_0 ckr_141_50) (by decide +kernel)
theorem ckl_142 : ck_l 142 = true := by decide +kernel
theorem ckr_142_0 : ck_r 142 0 23 = true := by decide +kernel
theorem ckm_142 : CkM 142 := ckM_of (n := 23) ckl_142 ckr_142_0 (by decide +kernel)
theorem ckl_143 : ck_l 143 = true := by decide +kernel
theorem ckr_143_0 : ck_r 143 0 17 = true := by decide +kernel
theorem ckm_143 : CkM 143 := ckM_of (n := 17) ckl_143 ckr_143_0 (by decide +kernel)
theorem ckl_144 : ck_l 144 = true := by decide +kernel
theorem ckr_144_0 : ck_r 144 0 28 = true := by decide +kernel
theorem ckm_144 : CkM 144 := ckM_of (n := 28) ckl_144 ckr_144_0 (by decide +kernel)
theorem ckl_145 : ck_l 145 = true := by decide +kernel
theorem ckr_145_0 : ck_r 145 0 50 = true := by decide +kernel
theorem ckr_145_50 : ck_r 145 50 50 = true := by decide +kernel
theorem ckr_145_100 : ck_r 145 100 50 = true := by decide +kernel
theorem ckr_145_150 : ck_r 145 150 50 = true := by decide +kernel
theorem ckr_145_200 : ck_r 145 200 14 = true := by decide +kernel
theorem ckm_145 : CkM 145 := ckM_of (n := 214) ckl_145 (ck_r_app (n1 := 200) (n2 := 14) (ck_r_app (n1 := 150) (n2 := 50) (ck_r_app (n1 := 100) (n2 := 50) (ck_r_app (n1 := 50) (n2 := 50) ckr_145_0 ckr_145_50) ckr_145_100) ckr_145_150) ckr_145_200) (by decide +kernel)
theorem ckl_146 : ck_l 146 = true := by decide +kernel
theorem ckr_146_0 : ck_r 146 0 16 = true := by decide +kernel
theorem ckm_146 : CkM 146 := ckM_of (n := 16) ckl_146 ckr_146_0 (by decide +kernel)
theorem ckl_147 : ck_l 147 = true := by decide +kernel
theorem ckr_147_0 : ck_r 147 0 15 = true := by decide +kernel
theorem ckm_147 : CkM 147 := ckM_of (n := 15) ckl_147 ckr_147_0 (by decide +kernel)
theorem ckl_148 : ck_l 148 = true := by decide +kernel
theorem ckr_148_0 : ck_r 148 0 11 = true := by decide +kernel
theorem ckm_148 : CkM 148 := ckM_of (n := 11) ckl_148 ckr_148_0 (by decide +kernel)
theorem ckl_149 : ck_l 149 = true := by decide +kernel
theorem ckr_149_0 : ck_r 149 0 22 = true := by decide +kernel
theorem ckm_149 : CkM 149 := ckM_of (n := 22) ckl_149 ckr_149_0 (by decide +kernel)
theorem ckl_150 : ck_l 150 = true := by decide +kernel
theorem ckr_150_0 : ck_r 150 0 11 = true := by decide +kernel
theorem ckm_150 : CkM 150 := ckM_of (n := 11) ckl_150 ckr_150_0 (by decide +kernel)
theorem ckl_151 : ck_l 151 = true := by decide +kernel
theorem ckr_151_0 : ck_r 151 0 13 = true := by decide +kernel
theorem ckm_151 : CkM 151 := ckM_of (n := 13) ckl_151 ckr_151_0 (by decide +kernel)
theorem ckl_152 : ck_l 152 = true := by decide +kernel
theorem ckr_152_0 : ck_r 152 0 39 = true := by decide +kernel
theorem ckm_152 : CkM 152 := ckM_of (n := 39) ckl_152 ckr_152_0 (by decide +kernel)
theorem ckl_153 : ck_l 153 = true := by decide +kernel
theorem ckr_153_0 : ck_r 153 0 27 = true := by decide +kernel
theorem ckm_153 : CkM 153 := ckM_of (n := 27) ckl_153 ckr_153_0 (by decide +kernel)
theorem ckl_154 : ck_l 154 = true := by decide +kernel
theorem ckr_154_0 : ck_r 154 0 50 = true := by decide +kernel
theorem ckr_154_50 : ck_r 154 50 9 = true := by decide +kernel
theorem ckm_154 : CkM 154 := ckM_of (n := 59) ckl_154 (ck_r_app (n1 := 50) (n2 := 9) ckr_154_0 ckr_154_50) (by decide +kernel)
theorem ckl_155 : ck_l 155 = true := by decide +kernel
theorem ckr_155_0 : ck_r 155 0 33 = true := by decide +kernel
theorem ckm_155 : CkM 155 := ckM_of (n := 33) ckl_155 ckr_155_0 (by decide +kernel)
theorem ckl_156 : ck_l 156 = true := by decide +kernel
theorem ckr_156_0 : ck_r 156 0 36 = true := by decide +kernel
theorem ckm_156 : CkM 156 := ckM_of (n := 36) ckl_156 ckr_156_0 (by decide +kernel)
theorem ckl_157 : ck_l 157 = true := by decide +kernel
theorem ckr_157_0 : ck_r 157 0 50 = true := by decide +kernel
theorem ckr_157_50 : ck_r 157 50 20 = true := by decide +kernel
theorem ckm_157 : CkM 157 := ckM_of (n := 70) ckl_157 (ck_r_app (n1 := 50) (n2 := 20) ckr_157_0 ckr_157_50) (by decide +kernel)
theorem ckl_158 : ck_l 158 = true := by decide +kernel
theorem ckr_158_0 : ck_r 158 0 25 = true := by decide +kernel
theorem ckm_158 : CkM 158 := ckM_of (n := 25) ckl_158 ckr_158_0 (by decide +kernel)
theorem ckl_159 : ck_l 159 = true := by decide +kernel
theorem ckr_159_0 : ck_r 159 0 17 = true := by decide +kernel
theorem ckm_159 : CkM 159 := ckM_of (n := 17) ckl_159 ckr_159_0 (by decide +kernel)
theorem ckl_160 : ck_l 160 = true := by decide +kernel
theorem ckr_160_0 : ck_r 160 0 26 = true := by decide +kernel
theorem ckm_160 : CkM 160 := ckM_of (n := 26) ckl_160 ckr_160_0 (by decide +kernel)
theorem ckl_161 : ck_l 161 = true := by decide +kernel
theorem ckr_161_0 : ck_r 161 0 22 = true := by decide +kernel
theorem ckm_161 : CkM 161 := ckM_of (n := 22) ckl_161 ckr_161_0 (by decide +kernel)
theorem ckl_162 : ck_l 162 = true := by decide +kernel
theorem ckr_162_0 : ck_r 162 0 17 = true := by decide +kernel
theorem ckm_162 : CkM 162 := ckM_of (n := 17) ckl_162 ckr_162_0 (by decide +kernel)
theorem ckl_163 : ck_l 163 = true := by decide +kernel
theorem ckr_163_0 : ck_r 163 0 50 = true := by decide +kernel
theorem ckr_163_50 : ck_r 163 50 50 = true := by decide +kernel
theorem ckr_163_100 : ck_r 163 100 26 = true := by decide +kernel
theorem ckm_163 : CkM 163 := ckM_of (n := 126) ckl_163 (ck_r_app (n1 := 100) (n2 := 26) (ck_r_app (n1 := 50) (n2 := 50) ckr_163_0 ckr_163_50) ckr_163_100) (by decide +kernel)
theorem ckl_164 : ck_l 164 = true := by decide +kernel
theorem ckr_164_0 : ck_r 164 0 50 = true := by decide +kernel
theorem ckr_164_50 : ck_r 164 50 50 = true := by decide +kernel
theorem ckr_164_100 : ck_r 164 100 50 = true := by decide +kernel
theorem ckr_164_150 : ck_r 164 150 11 = true := by decide +kernel
theorem ckm_164 : CkM 164 := ckM_of (n := 161) ckl_164 (ck_r_app (n1 := 150) (n2 := 11) (ck_r_app (n1 := 100) (n2 := 50) (ck_r_app (n1 := 50) (n2 := 50) ckr_164_0 ckr_164_50) ckr_164_100) ckr_164_150) (by decide +kernel)
theorem ckl_165 : ck_l 165 = true := by decide +kernel
theorem ckr_165_0 : ck_r 165 0 13 = true := by decide +kernel
theorem ckm_165 : CkM 165 := ckM_of (n := 13) ckl_165 ckr_165_0 (by decide +kernel)
theorem ckl_166 : ck_l 166 = true := by decide +kernel
theorem ckr_166_0 : ck_r 166 0 31 = true := by decide +kernel
theorem ckm_166 : CkM 166 := ckM_of (n := 31) ckl_166 ckr_166_0 (by decide +kernel)
theorem ckl_167 : ck_l 167 = true := by decide +kernel
theorem ckr_167_0 : ck_r 167 0 10 = true := by decide +kernel
theorem ckm_167 : CkM 167 := ckM_of (n := 10) ckl_167 ckr_167_0 (by decide +kernel)
theorem ckA_126 : ∀ j, j < 42 → CkM (126 + j) := by
  intro j hj
  match j, hj with
  | 0, _ => exact ckm_126
  | 1, _ => exact ckm_127
  | 2, _ => exact ckm_128
  | 3, _ => exact ckm_129
  | 4, _ => exact ckm_130
  | 5, _ => exact ckm_131
  | 6, _ => exact ckm_132
  | 7, _ => exact ckm_133
  | 8, _ => exact ckm_134
  | 9, _ => exact ckm_135
  | 10, _ => exact ckm_136
  | 11, _ => exact ckm_137
  | 12, _ => exact ckm_138
  | 13, _ => exact ckm_139
  | 14, _ => exact ckm_140
  | 15, _ => exact ckm_141
  | 16, _ => exact ckm_142
  | 17, _ => exact ckm_143
  | 18, _ => exact ckm_144
  | 19, _ => exact ckm_145
  | 20, _ => exact ckm_146
  | 21, _ => exact ckm_147
  | 22, _ => exact ckm_148
  | 23, _ => exact ckm_149
  | 24, _ => exact ckm_150
  | 25, _ => exact ckm_151
  | 26, _ => exact ckm_152
  | 27, _ => exact ckm_153
  | 28, _ => exact ckm_154
  | 29, _ => exact ckm_155
  | 30, _ => exact ckm_156
  | 31, _ => exact ckm_157
  | 32, _ => exact ckm_158
  | 33, _ => exact ckm_159
  | 34, _ => exact ckm_160
  | 35, _ => exact ckm_161
  | 36, _ => exact ckm_162
  | 37, _ => exact ckm_163
  | 38, _ => exact ckm_164
  | 39, _ => exact ckm_165
  | 40, _ => exact ckm_166
  | 41, _ => exact ckm_167
  | k + 42, hj => exact absurd hj (by omega)
