/-! printed: the checks of methods 168 .. -/
theorem ckl_168 : ck_l 168 = true := by decide +kernel
theorem ckr_168_0 : ck_r 168 0 10 = true := by decide +kernel
theorem ckm_168 : CkM 168 := ckM_of (n := 10) ckl_168 ckr_168_0 (by decide +kernel)
theorem ckl_169 : ck_l 169 = true := by decide +kernel
theorem ckr_169_0 : ck_r 169 0 43 = true := by decide +kernel
theorem ckm_169 : CkM 169 := ckM_of (n := 43) ckl_169 ckr_169_0 (by decide +kernel)
theorem ckl_170 : ck_l 170 = true := by decide +kernel
theorem ckr_170_0 : ck_r 170 0 14 = true := by decide +kernel
theorem ckm_170 : CkM 170 := ckM_of (n := 14) ckl_170 ckr_170_0 (by decide +kernel)
theorem ckl_171 : ck_l 171 = true := by decide +kernel
theorem ckr_171_0 : ck_r 171 0 50 = true := by decide +kernel
theorem ckr_171_50 : ck_r 171 50 7 = true := by decide +kernel
theorem ckm_171 : CkM 171 := ckM_of (n := 57) ckl_171 (ck_r_app (n1 := 50) (n2 := 7) ckr_171_0 ckr_171_50) (by decide +kernel)
theorem ckl_172 : ck_l 172 = true := by decide +kernel
theorem ckr_172_0 : ck_r 172 0 15 = true := by decide +kernel
theorem ckm_172 : CkM 172 := ckM_of (n := 15) ckl_172 ckr_172_0 (by decide +kernel)
theorem ckl_173 : ck_l 173 = true := by decide +kernel
theorem ckr_173_0 : ck_r 173 0 15 = true := by decide +kernel
theorem ckm_173 : CkM 173 := ckM_of (n := 15) ckl_173 ckr_173_0 (by decide +kernel)
theorem ckl_174 : ck_l 174 = true := by decide +kernel
theorem ckr_174_0 : ck_r 174 0 11 = true := by decide +kernel
theorem ckm_174 : CkM 174 := ckM_of (n := 11) ckl_174 ckr_174_0 (by decide +kernel)
theorem ckl_175 : ck_l 175 = true := by decide +kernel
theorem ckr_175_0 : ck_r 175 0 50 = true := by decide +kernel
theorem ckr_175_50 : ck_r 175 50 27 = true := by decide +kernel
theorem ckm_175 : CkM 175 := ckM_of (n := 77) ckl_175 (ck_r_app (n1 := 50) (n2 := 27) ckr_175_0 ckr_175_50) (by decide +kernel)
theorem ckl_176 : ck_l 176 = true := by decide +kernel
theorem ckr_176_0 : ck_r 176 0 11 = true := by decide +kernel
theorem ckm_176 : CkM 176 := ckM_of (n := 11) ckl_176 ckr_176_0 (by decide +kernel)
theorem ckl_177 : ck_l 177 = true := by decide +kernel
theorem ckr_177_0 : ck_r 177 0 50 = true := by decide +kernel
theorem ckr_177_50 : ck_r 177 50 50 = true := by decide +kernel
theorem ckr_177_100 : ck_r 177 100 1 = true := by decide +kernel
theorem ckm_177 : CkM 177 := ckM_of (n := 101) ckl_177 (ck_r_app (n1 := 100) (n2 := 1) (ck_r_app (n1 := 50) (n2 := 50) ckr_177_0 ckr_177_50) ckr_177_100) (by decide +kernel)
theorem ckl_178 : ck_l 178 = true := by decide +kernel
theorem ckr_178_0 : ck_r 178 0 50 = true := by decide +kernel
theorem ckr_178_50 : ck_r 178 50 8 = true := by decide +kernel
theorem ckm_178 : CkM 178 := ckM_of (n := 58) ckl_178 (ck_r_app (n1 := 50) (n2 := 8) ckr_178_0 ckr_178_50) (by decide +kernel)
theorem ckl_179 : ck_l 179 = true := by decide +kernel
theorem ckr_179_0 : ck_r 179 0 44 = true := by decide +kernel
theorem ckm_179 : CkM 179 := ckM_of (n := 44) ckl_179 ckr_179_0 (by decide +kernel)
theorem ckl_180 : ck_l 180 = true := by decide +kernel
theorem ckr_180_0 : ck_r 180 0 5 = true := by decide +kernel
theorem ckm_180 : CkM 180 := ckM_of (n := 5) ckl_180 ckr_180_0 (by decide +kernel)
theorem ckl_181 : ck_l 181 = true := by decide +kernel
theorem ckr_181_0 : ck_r 181 0 10 = true := by decide +kernel
theorem ckm_181 : CkM 181 := ckM_of (n := 10) ckl_181 ckr_181_0 (by decide +kernel)
theorem ckl_182 : ck_l 182 = true := by decide +kernel
theorem ckr_182_0 : ck_r 182 0 31 = true := by decide +kernel
theorem ckm_182 : CkM 182 := ckM_of (n := 31) ckl_182 ckr_182_0 (by decide +kernel)
theorem ckl_183 : ck_l 183 = true := by decide +kernel
theorem ckr_183_0 : ck_r 183 0 33 = true := by decide +kernel
theorem ckm_183 : CkM 183 := ckM_of (n := 33) ckl_183 ckr_183_0 (by decide +kernel)
theorem ckl_184 : ck_l 184 = true := by decide +kernel
theorem ckr_184_0 : ck_r 184 0 14 = true := by decide +kernel
theorem ckm_184 : CkM 184 := ckM_of (n := 14) ckl_184 ckr_184_0 (by decide +kernel)
theorem ckl_185 : ck_l 185 = true := by decide +kernel
theorem ckr_185_0 : ck_r 185 0 50 = true := by decide +kernel
theorem ckr_185_50 : ck_r 185 50 41 = true := by decide +kernel
theorem ckm_185 : CkM 185 := ckM_of (n := 91) ckl_185 (ck_r_app (n1 := 50) (n2 := 41) ckr_185_0 ckr_185_50) (by decide +kernel)
theorem ckl_186 : ck_l 186 = true := by decide +kernel
theorem ckr_186_0 : ck_r 186 0 19 = true := by decide +kernel
theorem ckm_186 : CkM 186 := ckM_of (n := 19) ckl_186 ckr_186_0 (by decide +kernel)
theorem ckl_187 : ck_l 187 = true := by decide +kernel
theorem ckr_187_0 : ck_r 187 0 50 = true := by decide +kernel
theorem ckr_187_50 : ck_r 187 50 50 = true := by decide +kernel
theorem ckr_187_100 : ck_r 187 100 38 = true := by decide +kernel
theorem ckm_187 : CkM 187 := ckM_of (n := 138) ckl_187 (ck_r_app (n1 := 100) (n2 := 38) (ck_r_app (n1 := 50) (n2 := 50) ckr_187_0 ckr_187_50) ckr_187_100) (by decide +kernel)
theorem ckl_188 : ck_l 188 = true := by decide +kernel
theorem ckr_188_0 : ck_r 188 0 25 = true := by decide +kernel
theorem ckm_188 : CkM 188 := ckM_of (n := 25) ckl_188 ckr_188_0 (by decide +kernel)
theorem ckl_189 : ck_l 189 = true := by decide +kernel
theorem ckr_189_0 : ck_r 189 0 50 = true := by decide +kernel
theorem ckr_189_50 : ck_r 189 50 5 = true := by decide +kernel
theorem ckm_189 : CkM 189 := ckM_of (n := 55) ckl_189 (ck_r_app (n1 := 50) (n2 := 5) ckr_189_0 ckr_189_50) (by decide +kernel)
theorem ckl_190 : ck_l 190 = true := by decide +kernel
theorem ckr_190_0 : ck_r 190 0 15 = true := by decide +kernel
theorem ckm_190 : CkM 190 := ckM_of (n := 15) ckl_190 ckr_190_0 (by decide +kernel)
theorem ckl_191 : ck_l 191 = true := by decide +kernel
theorem ckr_191_0 : ck_r 191 0 18 = true := by decide +kernel
theorem ckm_191 : CkM 191 := ckM_of (n := 18) ckl_191 ckr_191_0 (by decide +kernel)
theorem ckl_192 : ck_l 192 = true := by decide +kernel
theorem ckr_192_0 : ck_r 192 0 50 = true := by decide +kernel
theorem ckr_192_50 : ck_r 192 50 50 = true := by decide +kernel
theorem ckr_192_100 : ck_r 192 100 50 = true := by decide +kernel
theorem ckr_192_150 : ck_r 192 150 12 = true := by decide +kernel
theorem ckm_192 : CkM 192 := ckM_of (n := 162) ckl_192 (ck_r_app (n1 := 150) (n2 := 12) (ck_r_app (n1 := 100) (n2 := 50) (ck_r_app (n1 := 50) (n2 := 50) ckr_192_0 ckr_192_50) ckr_192_100) ckr_192_150) (by decide +kernel)
theorem ckl_193 : ck_l 193 = true := by decide +kernel
theorem ckr_193_0 : ck_r 193 0 31 = true := by decide +kernel
theorem ckm_193 : CkM 193 := ckM_of (n := 31) ckl_193 ckr_193_0 (by decide +kernel)
theorem ckl_194 : ck_l 194 = true := by decide +kernel
theorem ckr_194_0 : ck_r 194 0 10 = true := by decide +kernel
theorem ckm_194 : CkM 194 := ckM_of (n := 10) ckl_194 ckr_194_0 (by decide +kernel)
theorem ckl_195 : ck_l 195 = true := by decide +kernel
theorem ckr_195_0 : ck_r 195 0 50 = true := by decide +kernel
theorem ckr_195_50 : ck_r 195 50 50 = true := by decide +kernel
theorem ckr_195_100 : ck_r 195 100 3 = true := by decide +kernel
theorem ckm_195 : CkM 195 := ckM_of (n := 103) ckl_195 (ck_r_app (n1 := 100) (n2 := 3) (ck_r_app (n1 := 50) (n2 := 50) ckr_195_0 ckr_195_50) ckr_195_100) (by decide +kernel)
theorem ckl_196 : ck_l 196 = true := by decide +kernel
theorem ckr_196_0 : ck_r 196 0 3 = true := by decide +kernel
theorem ckm_196 : CkM 196 := ckM_of (n := 3) ckl_196 ckr_196_0 (by decide +kernel)
theorem ckl_197 : ck_l 197 = true := by decide +kernel
theorem ckr_197_0 : ck_r 197 0 50 = true := by decide +kernel
theorem ckr_197_50 : ck_r 197 50 50 = true := by decide +kernel
theorem ckr_197_100 : ck_r 197 100 4 = true := by decide +kernel
theorem ckm_197 : CkM 197 := ckM_of (n := 104) ckl_197 (ck_r_app (n1 := 100) (n2 := 4) (ck_r_app (n1 := 50) (n2 := 50) ckr_197_0 ckr_197_50) ckr_197_100) (by decide +kernel)
theorem ckl_198 : ck_l 198 = true := by decide +kernel
theorem ckr_198_0 : ck_r 198 0 26 = true := by decide +kernel
theorem ckm_198 : CkM 198 := ckM_of (n := 26) ckl_198 ckr_198_0 (by decide +kernel)
theorem ckl_199 : ck_l 199 = true := by decide +kernel
theorem ckr_199_0 : ck_r 199 0 22 = true := by decide +kernel
theorem ckm_199 : CkM 199 := ckM_of (n := 22) ckl_199 ckr_199_0 (by decide +kernel)
theorem ckl_200 : ck_l 200 = true := by decide +kernel
theorem ckr_200_0 : ck_r 200 0 33 = true := by decide +kernel
theorem ckm_200 : CkM 200 := ckM_of (n := 33) ckl_200 ckr_200_0 (by decide +kernel)
theorem ckl_201 : ck_l 201 = true := by decide +kernel
theorem ckr_201_0 : ck_r 201 0 24 = true := by decide +kernel
theorem ckm_201 : CkM 201 := ckM_of (n := 24) ckl_201 ckr_201_0 (by decide +kernel)
theorem ckl_202 : ck_l 202 = true := by decide +kernel
theorem ckr_202_0 : ck_r 202 0 10 = true := by decide +kernel
theorem ckm_202 : CkM 202 := ckM_of (n := 10) ckl_202 ckr_202_0 (by decide +kernel)
theorem ckl_203 : ck_l 203 = true := by decide +kernel
theorem ckr_203_0 : ck_r 203 0 16 = true := by decide +kernel
theorem ckm_203 : CkM 203 := ckM_of (n := 16) ckl_203 ckr_203_0 (by decide +kernel)
theorem ckl_204 : ck_l 204 = true := by decide +kernel
theorem ckr_204_0 : ck_r 204 0 24 = true := by decide +kernel
theorem ckm_204 : CkM 204 := ckM_of (n := 24) ckl_204 ckr_204_0 (by decide +kernel)
theorem ckl_205 : ck_l 205 = true := by decide +kernel
theorem ckr_205_0 : ck_r 205 0 26 = true := by decide +kernel
theorem ckm_205 : CkM 205 := ckM_of (n := 26) ckl_205 ckr_205_0 (by decide +kernel)
theorem ckl_206 : ck_l 206 = true := by decide +kernel
theorem ckr_206_0 : ck_r 206 0 50 = true := by decide +kernel
theorem ckr_206_50 : ck_r 206 50 2 = true := by decide +kernel
theorem ckm_206 : CkM 206 := ckM_of (n := 52) ckl_206 (ck_r_app (n1 := 50) (n2 := 2) ckr_206_0 ckr_206_50) (by decide +kernel)
theorem ckl_207 : ck_l 207 = true := by decide +kernel
theorem ckr_207_0 : ck_r 207 0 38 = true := by decide +kernel
theorem ckm_207 : CkM 207 := ckM_of (n := 38) ckl_207 ckr_207_0 (by decide +kernel)
theorem ckl_208 : ck_l 208 = true := by decide +kernel
theorem ckr_208_0 : ck_r 208 0 32 = true := by decide +kernel
theorem ckm_208 : CkM 208 := ckM_of (n := 32) ckl_208 ckr_208_0 (by decide +kernel)
theorem ckl_209 : ck_l 209 = true := by decide +kernel
theorem ckr_209_0 : ck_r 209 0 50 = true := by decide +kernel
theorem ckr_209_50 : ck_r 209 50 20 = true := by decide +kernel
theorem ckm_209 : CkM 209 := ckM_of (n := 70) ckl_209 (ck_r_app (n1 := 50) (n2 := 20) ckr_209_0 ckr_209_50) (by decide +kernel)
theorem ckA_168 : ∀ j, j < 42 → CkM (168 + j) := by
  intro j hj
  match j, hj with
  | 0, _ => exact ckm_168
  | 1, _ => exact ckm_169
  | 2, _ => exact ckm_170
  | 3, _ => exact ckm_171
  | 4, _ => exact ckm_172
  | 5, _ => exact ckm_173
  | 6, _ => exact ckm_174
  | 7, _ => exact ckm_175
  | 8, _ => exact ckm_176
  | 9, _ => exact ckm_177
  | 10, _ => exact ckm_178
  | 11, _ => exact ckm_179
  | 12, _ => exact ckm_180
  | 13, _ => exact ckm_181
  | 14, _ => exact ckm_182
  | 15, _ => exact ckm_183
  | 16, _ => exact ckm_184
  | 17, _ => exact ckm_185
  | 18, _ => exact ckm_186
  | 19, _ => exact ckm_187
  | 20, _ => exact ckm_188
  | 21, _ => exact ckm_189
  | 22, _ => exact ckm_190
  | 23, _ => exact ckm_191
  | 24, _ => exact ckm_192
  | 25, _ => exact ckm_193
  | 26, _ => exact ckm_194
  | 27, _ => exact ckm_195
  | 28, _ => exact ckm_196
  | 29, _ => exact ckm_197
  | 30, _ => exact ckm_198
  | 31, _ => exact ckm_199
  | 32, _ => exact ckm_200
  | 33, _ => exact ckm_201
  | 34, _ => exact ckm_202
  | 35, _ => exact ckm_203
  | 36, _ => exact ckm_204
  | 37, _ => exact ckm_205
  | 38, _ => exact ckm_206
  | 39, _ => exact ckm_207
  | 40, _ => exact ckm_208
  | 41, _ => exact ckm_209
  | k + 42, hj => exact absurd hj (by omega)
