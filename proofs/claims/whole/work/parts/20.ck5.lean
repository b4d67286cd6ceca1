/-! printed: the checks of methods 210 .. -/
theorem ckl_210 : ck_l 210 = true := by decide +kernel
theorem ckr_210_0 : ck_r 210 0 43 = true := by decide +kernel
theorem ckm_210 : CkM 210 := ckM_of (n := 43) ckl_210 ckr_210_0 (by decide +kernel)
theorem ckl_211 : ck_l 211 = true := by decide +kernel
theorem ckr_211_0 : ck_r 211 0 16 = true := by decide +kernel
theorem ckm_211 : CkM 211 := ckM_of (n := 16) ckl_211 ckr_211_0 (by decide +kernel)
theorem ckl_212 : ck_l 212 = true := by decide +kernel
theorem ckr_212_0 : ck_r 212 0 40 = true := by decide +kernel
theorem ckm_212 : CkM 212 := ckM_of (n := 40) ckl_212 ckr_212_0 (by decide +kernel)
theorem ckl_213 : ck_l 213 = true := by decide +kernel
theorem ckr_213_0 : ck_r 213 0 50 = true := by decide +kernel
theorem ckr_213_50 : ck_r 213 50 33 = true := by decide +kernel
theorem ckm_213 : CkM 213 := ckM_of (n := 83) ckl_213 (ck_r_app (n1 := 50) (n2 := 33) ckr_213_0 ckr_213_50) (by decide +kernel)
theorem ckl_214 : ck_l 214 = true := by decide +kernel
theorem ckr_214_0 : ck_r 214 0 17 = true := by decide +kernel
theorem ckm_214 : CkM 214 := ckM_of (n := 17) ckl_214 ckr_214_0 (by decide +kernel)
theorem ckl_215 : ck_l 215 = true := by decide +kernel
theorem ckr_215_0 : ck_r 215 0 17 = true := by decide +kernel
theorem ckm_215 : CkM 215 := ckM_of (n := 17) ckl_215 ckr_215_0 (by decide +kernel)
theorem ckl_216 : ck_l 216 = true := by decide +kernel
theorem ckr_216_0 : ck_r 216 0 21 = true := by decide +kernel
theorem ckm_216 : CkM 216 := ckM_of (n := 21) ckl_216 ckr_216_0 (by decide +kernel)
theorem ckl_217 : ck_l 217 = true := by decide +kernel
theorem ckr_217_0 : ck_r 217 0 11 = true := by decide +kernel
theorem ckm_217 : CkM 217 := ckM_of (n := 11) ckl_217 ckr_217_0 (by decide +kernel)
theorem ckl_218 : ck_l 218 = true := by decide +kernel
theorem ckr_218_0 : ck_r 218 0 16 = true := by decide +kernel
theorem ckm_218 : CkM 218 := ckM_of (n := 16) ckl_218 ckr_218_0 (by decide +kernel)
theorem ckl_219 : ck_l 219 = true := by decide +kernel
theorem ckr_219_0 : ck_r 219 0 17 = true := by decide +kernel
theorem ckm_219 : CkM 219 := ckM_of (n := 17) ckl_219 ckr_219_0 (by decide +kernel)
theorem ckl_220 : ck_l 220 = true := by decide +kernel
theorem ckr_220_0 : ck_r 220 0 26 = true := by decide +kernel
theorem ckm_220 : CkM 220 := ckM_of (n := 26) ckl_220 ckr_220_0 (by decide +kernel)
theorem ckl_221 : ck_l 221 = true := by decide +kernel
theorem ckr_221_0 : ck_r 221 0 50 = true := by decide +kernel
theorem ckr_221_50 : ck_r 221 50 17 = true := by decide +kernel
theorem ckm_221 : CkM 221 := ckM_of (n := 67) ckl_221 (ck_r_app (n1 := 50) (n2 := 17) ckr_221_0 ckr_221_50) (by decide +kernel)
theorem ckl_222 : ck_l 222 = true := by decide +kernel
theorem ckr_222_0 : ck_r 222 0 50 = true := by decide +kernel
theorem ckr_222_50 : ck_r 222 50 6 = true := by decide +kernel
theorem ckm_222 : CkM 222 := ckM_of (n := 56) ckl_222 (ck_r_app (n1 := 50) (n2 := 6) ckr_222_0 ckr_222_50) (by decide +kernel)
theorem ckl_223 : ck_l 223 = true := by decide +kernel
theorem ckr_223_0 : ck_r 223 0 11 = true := by decide +kernel
theorem ckm_223 : CkM 223 := ckM_of (n := 11) ckl_223 ckr_223_0 (by decide +kernel)
theorem ckl_224 : ck_l 224 = true := by decide +kernel
theorem ckr_224_0 : ck_r 224 0 19 = true := by decide +kernel
theorem ckm_224 : CkM 224 := ckM_of (n := 19) ckl_224 ckr_224_0 (by decide +kernel)
theorem ckl_225 : ck_l 225 = true := by decide +kernel
theorem ckr_225_0 : ck_r 225 0 33 = true := by decide +kernel
theorem ckm_225 : CkM 225 := ckM_of (n := 33) ckl_225 ckr_225_0 (by decide +kernel)
theorem ckl_226 : ck_l 226 = true := by decide +kernel
theorem ckr_226_0 : ck_r 226 0 23 = true := by decide +kernel
theorem ckm_226 : CkM 226 := ckM_of (n := 23) ckl_226 ckr_226_0 (by decide +kernel)
theorem ckl_227 : ck_l 227 = true := by decide +kernel
theorem ckr_227_0 : ck_r 227 0 21 = true := by decide +kernel
theorem ckm_227 : CkM 227 := ckM_of (n := 21) ckl_227 ckr_227_0 (by decide +kernel)
theorem ckl_228 : ck_l 228 = true := by decide +kernel
theorem ckr_228_0 : ck_r 228 0 27 = true := by decide +kernel
theorem ckm_228 : CkM 228 := ckM_of (n := 27) ckl_228 ckr_228_0 (by decide +kernel)
theorem ckl_229 : ck_l 229 = true := by decide +kernel
theorem ckr_229_0 : ck_r 229 0 29 = true := by decide +kernel
theorem ckm_229 : CkM 229 := ckM_of (n := 29) ckl_229 ckr_229_0 (by decide +kernel)
theorem ckl_230 : ck_l 230 = true := by decide +kernel
theorem ckr_230_0 : ck_r 230 0 50 = true := by decide +kernel
theorem ckr_230_50 : ck_r 230 50 6 = true := by decide +kernel
theorem ckm_230 : CkM 230 := ckM_of (n := 56) ckl_230 (ck_r_app (n1 := 50) (n2 := 6) ckr_230_0 ckr_230_50) (by decide +kernel)
theorem ckl_231 : ck_l 231 = true := by decide +kernel
theorem ckr_231_0 : ck_r 231 0 47 = true := by decide +kernel
theorem ckm_231 : CkM 231 := ckM_of (n := 47) ckl_231 ckr_231_0 (by decide +kernel)
theorem ckl_232 : ck_l 232 = true := by decide +kernel
theorem ckr_232_0 : ck_r 232 0 50 = true := by decide +kernel
theorem ckr_232_50 : ck_r 232 50 22 = true := by decide +kernel
theorem ckm_232 : CkM 232 := ckM_of (n := 72) ckl_232 (ck_r_app (n1 := 50) (n2 := 22) ckr_232_0 ckr_232_50) (by decide +kernel)
theorem ckl_233 : ck_l 233 = true := by decide +kernel
theorem ckr_233_0 : ck_r 233 0 50 = true := by decide +kernel
theorem ckr_233_50 : ck_r 233 50 3 = true := by decide +kernel
theorem ckm_233 : CkM 233 := ckM_of (n := 53) ckl_233 (ck_r_app (n1 := 50) (n2 := 3) ckr_233_0 ckr_233_50) (by decide +kernel)
theorem ckl_234 : ck_l 234 = true := by decide +kernel
theorem ckr_234_0 : ck_r 234 0 17 = true := by decide +kernel
theorem ckm_234 : CkM 234 := ckM_of (n := 17) ckl_234 ckr_234_0 (by decide +kernel)
theorem ckl_235 : ck_l 235 = true := by decide +kernel
theorem ckr_235_0 : ck_r 235 0 48 = true := by decide +kernel
theorem ckm_235 : CkM 235 := ckM_of (n := 48) ckl_235 ckr_235_0 (by decide +kernel)
theorem ckl_236 : ck_l 236 = true := by decide +kernel
theorem ckr_236_0 : ck_r 236 0 50 = true := by decide +kernel
theorem ckr_236_50 : ck_r 236 50 39 = true := by decide +kernel
theorem ckm_236 : CkM 236 := ckM_of (n := 89) ckl_236 (ck_r_app (n1 := 50) (n2 := 39) ckr_236_0 ckr_236_50) (by decide +kernel)
theorem ckl_237 : ck_l 237 = true := by decide +kernel
theorem ckr_237_0 : ck_r 237 0 35 = true := by decide +kernel
theorem ckm_237 : CkM 237 := ckM_of (n := 35) ckl_237 ckr_237_0 (by decide +kernel)
theorem ckl_238 : ck_l 238 = true := by decide +kernel
theorem ckr_238_0 : ck_r 238 0 23 = true := by decide +kernel
theorem ckm_238 : CkM 238 := ckM_of (n := 23) ckl_238 ckr_238_0 (by decide +kernel)
theorem ckl_239 : ck_l 239 = true := by decide +kernel
theorem ckr_239_0 : ck_r 239 0 21 = true := by decide +kernel
theorem ckm_239 : CkM 239 := ckM_of (n := 21) ckl_239 ckr_239_0 (by decide +kernel)
theorem ckl_240 : ck_l 240 = true := by decide +kernel
theorem ckr_240_0 : ck_r 240 0 23 = true := by decide +kernel
theorem ckm_240 : CkM 240 := ckM_of (n := 23) ckl_240 ckr_240_0 (by decide +kernel)
theorem ckl_241 : ck_l 241 = true := by decide +kernel
theorem ckr_241_0 : ck_r 241 0 50 = true := by decide +kernel
theorem ckr_241_50 : ck_r 241 50 6 = true := by decide +kernel
theorem ckm_241 : CkM 241 := ckM_of (n := 56) ckl_241 (ck_r_app (n1 := 50) (n2 := 6) ckr_241_0 ckr_241_50) (by decide +kernel)
theorem ckl_242 : ck_l 242 = true := by decide +kernel
theorem ckr_242_0 : ck_r 242 0 38 = true := by decide +kernel
theorem ckm_242 : CkM 242 := ckM_of (n := 38) ckl_242 ckr_242_0 (by decide +kernel)
theorem ckl_243 : ck_l 243 = true := by decide +kernel
theorem ckr_243_0 : ck_r 243 0 13 = true := by decide +kernel
theorem ckm_243 : CkM 243 := ckM_of (n := 13) ckl_243 ckr_243_0 (by decide +kernel)
theorem ckl_244 : ck_l 244 = true := by decide +kernel
theorem ckr_244_0 : ck_r 244 0 45 = true := by decide +kernel
theorem ckm_244 : CkM 244 := ckM_of (n := 45) ckl_244 ckr_244_0 (by decide +kernel)
theorem ckl_245 : ck_l 245 = true := by decide +kernel
theorem ckr_245_0 : ck_r 245 0 43 = true := by decide +kernel
theorem ckm_245 : CkM 245 := ckM_of (n := 43) ckl_245 ckr_245_0 (by decide +kernel)
theorem ckl_246 : ck_l 246 = true := by decide +kernel
theorem ckr_246_0 : ck_r 246 0 27 = true := by decide +kernel
theorem ckm_246 : CkM 246 := ckM_of (n := 27) ckl_246 ckr_246_0 (by decide +kernel)
theorem ckA_210 : ∀ j, j < 37 → CkM (210 + j) := by
  intro j hj
  match j, hj with
  | 0, _ => exact ckm_210
  | 1, _ => exact ckm_211
  | 2, _ => exact ckm_212
  | 3, _ => exact ckm_213
  | 4, _ => exact ckm_214
  | 5, _ => exact ckm_215
  | 6, _ => exact ckm_216
  | 7, _ => exact ckm_217
  | 8, _ => exact ckm_218
  | 9, _ => exact ckm_219
  | 10, _ => exact ckm_220
  | 11, _ => exact ckm_221
  | 12, _ => exact ckm_222
  | 13, _ => exact ckm_223
  | 14, _ => exact ckm_224
  | 15, _ => exact ckm_225
  | 16, _ => exact ckm_226
  | 17, _ => exact ckm_227
  | 18, _ => exact ckm_228
  | 19, _ => exact ckm_229
  | 20, _ => exact ckm_230
  | 21, _ => exact ckm_231
  | 22, _ => exact ckm_232
  | 23, _ => exact ckm_233
  | 24, _ => exact ckm_234
  | 25, _ => exact ckm_235
  | 26, _ => exact ckm_236
  | 27, _ => exact ckm_237
  | 28, _ => exact ckm_238
  | 29, _ => exact ckm_239
  | 30, _ => exact ckm_240
  | 31, _ => exact ckm_241
  | 32, _ => exact ckm_242
  | 33, _ => exact ckm_243
  | 34, _ => exact ckm_244
  | 35, _ => exact ckm_245
  | 36, _ => exact ckm_246
  | k + 37, hj => exact absurd hj (by omega)
